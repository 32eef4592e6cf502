theorem dX0_init_0 : decode cX0_init 0 = .ok (.aload_n 0, 1) := by decide +kernel
theorem dX0_init_1 : decode cX0_init 1 = .ok (.invokespecial 3, 3) := by decide +kernel
theorem dX0_init_4 : decode cX0_init 4 = .ok (.aload_n 0, 1) := by decide +kernel
theorem dX0_init_5 : decode cX0_init 5 = .ok (.bipush 16, 2) := by decide +kernel
theorem dX0_init_7 : decode cX0_init 7 = .ok (.newarray .int, 2) := by decide +kernel
theorem dX0_init_9 : decode cX0_init 9 = .ok (.putfield 9, 3) := by decide +kernel
theorem dX0_init_12 : decode cX0_init 12 = .ok (.aload_n 0, 1) := by decide +kernel
theorem dX0_init_13 : decode cX0_init 13 = .ok (.iconst 3, 1) := by decide +kernel
theorem dX0_init_14 : decode cX0_init 14 = .ok (.newarray .int, 2) := by decide +kernel
theorem dX0_init_16 : decode cX0_init 16 = .ok (.putfield 15, 3) := by decide +kernel
theorem dX0_init_19 : decode cX0_init 19 = .ok (.aload_n 0, 1) := by decide +kernel
theorem dX0_init_20 : decode cX0_init 20 = .ok (.bipush 10, 2) := by decide +kernel
theorem dX0_init_22 : decode cX0_init 22 = .ok (.newarray .int, 2) := by decide +kernel
theorem dX0_init_24 : decode cX0_init 24 = .ok (.putfield 18, 3) := by decide +kernel
theorem dX0_init_27 : decode cX0_init 27 = .ok (.return_, 1) := by decide +kernel
theorem dX0_numberOf_0 : decode cX0_numberOf 0 = .ok (.aload_n 0, 1) := by decide +kernel
theorem dX0_numberOf_1 : decode cX0_numberOf 1 = .ok (.getfield 9, 3) := by decide +kernel
theorem dX0_numberOf_4 : decode cX0_numberOf 4 = .ok (.aload_n 0, 1) := by decide +kernel
theorem dX0_numberOf_5 : decode cX0_numberOf 5 = .ok (.getfield 15, 3) := by decide +kernel
theorem dX0_numberOf_8 : decode cX0_numberOf 8 = .ok (.iload_n 1, 1) := by decide +kernel
theorem dX0_numberOf_9 : decode cX0_numberOf 9 = .ok (.iaload, 1) := by decide +kernel
theorem dX0_numberOf_10 : decode cX0_numberOf 10 = .ok (.iaload, 1) := by decide +kernel
theorem dX0_numberOf_11 : decode cX0_numberOf 11 = .ok (.ireturn, 1) := by decide +kernel
theorem dX0_choose_0 : decode cX0_choose 0 = .ok (.aload_n 0, 1) := by decide +kernel
theorem dX0_choose_1 : decode cX0_choose 1 = .ok (.aload_n 1, 1) := by decide +kernel
theorem dX0_choose_2 : decode cX0_choose 2 = .ok (.aload_n 2, 1) := by decide +kernel
theorem dX0_choose_3 : decode cX0_choose 3 = .ok (.iload_n 3, 1) := by decide +kernel
theorem dX0_choose_4 : decode cX0_choose 4 = .ok (.iload 4, 2) := by decide +kernel
theorem dX0_choose_6 : decode cX0_choose 6 = .ok (.iload 5, 2) := by decide +kernel
theorem dX0_choose_8 : decode cX0_choose 8 = .ok (.invokevirtual 21, 3) := by decide +kernel
theorem dX0_choose_11 : decode cX0_choose 11 = .ok (.iconst 0, 1) := by decide +kernel
theorem dX0_choose_12 : decode cX0_choose 12 = .ok (.istore 6, 2) := by decide +kernel
theorem dX0_choose_14 : decode cX0_choose 14 = .ok (.iload 6, 2) := by decide +kernel
theorem dX0_choose_16 : decode cX0_choose 16 = .ok (.iconst 3, 1) := by decide +kernel
theorem dX0_choose_17 : decode cX0_choose 17 = .ok (.if_icmp .gt 107, 3) := by decide +kernel
theorem dX0_choose_20 : decode cX0_choose 20 = .ok (.iload 6, 2) := by decide +kernel
theorem dX0_choose_22 : decode cX0_choose 22 = .ok (.aload_n 0, 1) := by decide +kernel
theorem dX0_choose_23 : decode cX0_choose 23 = .ok (.getfield 25, 3) := by decide +kernel
theorem dX0_choose_26 : decode cX0_choose 26 = .ok (.if_icmp .gt 98, 3) := by decide +kernel
theorem dX0_choose_29 : decode cX0_choose 29 = .ok (.iconst 0, 1) := by decide +kernel
theorem dX0_choose_30 : decode cX0_choose 30 = .ok (.istore 7, 2) := by decide +kernel
theorem dX0_choose_32 : decode cX0_choose 32 = .ok (.iload 7, 2) := by decide +kernel
theorem dX0_choose_34 : decode cX0_choose 34 = .ok (.iload 6, 2) := by decide +kernel
theorem dX0_choose_36 : decode cX0_choose 36 = .ok (.if_icmp .ge 18, 3) := by decide +kernel
theorem dX0_choose_39 : decode cX0_choose 39 = .ok (.aload_n 0, 1) := by decide +kernel
theorem dX0_choose_40 : decode cX0_choose 40 = .ok (.getfield 15, 3) := by decide +kernel
theorem dX0_choose_43 : decode cX0_choose 43 = .ok (.iload 7, 2) := by decide +kernel
theorem dX0_choose_45 : decode cX0_choose 45 = .ok (.iload 7, 2) := by decide +kernel
theorem dX0_choose_47 : decode cX0_choose 47 = .ok (.iastore, 1) := by decide +kernel
theorem dX0_choose_48 : decode cX0_choose 48 = .ok (.iinc 7 1, 3) := by decide +kernel
theorem dX0_choose_51 : decode cX0_choose 51 = .ok (.goto (-19), 3) := by decide +kernel
theorem dX0_choose_54 : decode cX0_choose 54 = .ok (.iconst 1, 1) := by decide +kernel
theorem dX0_choose_55 : decode cX0_choose 55 = .ok (.istore 7, 2) := by decide +kernel
theorem dX0_choose_57 : decode cX0_choose 57 = .ok (.iconst 0, 1) := by decide +kernel
theorem dX0_choose_58 : decode cX0_choose 58 = .ok (.istore 8, 2) := by decide +kernel
theorem dX0_choose_60 : decode cX0_choose 60 = .ok (.iload 8, 2) := by decide +kernel
theorem dX0_choose_62 : decode cX0_choose 62 = .ok (.sipush 560, 3) := by decide +kernel
theorem dX0_choose_65 : decode cX0_choose 65 = .ok (.if_icmp .ge 53, 3) := by decide +kernel
theorem dX0_choose_68 : decode cX0_choose 68 = .ok (.iload 7, 2) := by decide +kernel
theorem dX0_choose_70 : decode cX0_choose 70 = .ok (.ifCond .eq 48, 3) := by decide +kernel
theorem dX0_choose_73 : decode cX0_choose 73 = .ok (.aload_n 1, 1) := by decide +kernel
theorem dX0_choose_74 : decode cX0_choose 74 = .ok (.iload 5, 2) := by decide +kernel
theorem dX0_choose_76 : decode cX0_choose 76 = .ok (.aload_n 0, 1) := by decide +kernel
theorem dX0_choose_77 : decode cX0_choose 77 = .ok (.iload 6, 2) := by decide +kernel
theorem dX0_choose_79 : decode cX0_choose 79 = .ok (.invokevirtual 29, 3) := by decide +kernel
theorem dX0_choose_82 : decode cX0_choose 82 = .ok (.aload_n 0, 1) := by decide +kernel
theorem dX0_choose_83 : decode cX0_choose 83 = .ok (.getfield 18, 3) := by decide +kernel
theorem dX0_choose_86 : decode cX0_choose 86 = .ok (.invokevirtual 33, 3) := by decide +kernel
theorem dX0_choose_89 : decode cX0_choose 89 = .ok (.aload_n 0, 1) := by decide +kernel
theorem dX0_choose_90 : decode cX0_choose 90 = .ok (.getfield 18, 3) := by decide +kernel
theorem dX0_choose_93 : decode cX0_choose 93 = .ok (.iload_n 3, 1) := by decide +kernel
theorem dX0_choose_94 : decode cX0_choose 94 = .ok (.iaload, 1) := by decide +kernel
theorem dX0_choose_95 : decode cX0_choose 95 = .ok (.iload 4, 2) := by decide +kernel
theorem dX0_choose_97 : decode cX0_choose 97 = .ok (.iadd, 1) := by decide +kernel
theorem dX0_choose_98 : decode cX0_choose 98 = .ok (.ifCond .gt 6, 3) := by decide +kernel
theorem dX0_choose_101 : decode cX0_choose 101 = .ok (.iload 6, 2) := by decide +kernel
theorem dX0_choose_103 : decode cX0_choose 103 = .ok (.ireturn, 1) := by decide +kernel
theorem dX0_choose_104 : decode cX0_choose 104 = .ok (.aload_n 0, 1) := by decide +kernel
theorem dX0_choose_105 : decode cX0_choose 105 = .ok (.iload 6, 2) := by decide +kernel
theorem dX0_choose_107 : decode cX0_choose 107 = .ok (.invokevirtual 39, 3) := by decide +kernel
theorem dX0_choose_110 : decode cX0_choose 110 = .ok (.istore 7, 2) := by decide +kernel
theorem dX0_choose_112 : decode cX0_choose 112 = .ok (.iinc 8 1, 3) := by decide +kernel
theorem dX0_choose_115 : decode cX0_choose 115 = .ok (.goto (-55), 3) := by decide +kernel
theorem dX0_choose_118 : decode cX0_choose 118 = .ok (.iinc 6 1, 3) := by decide +kernel
theorem dX0_choose_121 : decode cX0_choose 121 = .ok (.goto (-107), 3) := by decide +kernel
theorem dX0_choose_124 : decode cX0_choose 124 = .ok (.bipush (-4), 2) := by decide +kernel
theorem dX0_choose_126 : decode cX0_choose 126 = .ok (.ireturn, 1) := by decide +kernel
theorem dX0_gather_0 : decode cX0_gather 0 = .ok (.aload_n 0, 1) := by decide +kernel
theorem dX0_gather_1 : decode cX0_gather 1 = .ok (.iconst 0, 1) := by decide +kernel
theorem dX0_gather_2 : decode cX0_gather 2 = .ok (.putfield 25, 3) := by decide +kernel
theorem dX0_gather_5 : decode cX0_gather 5 = .ok (.iconst 0, 1) := by decide +kernel
theorem dX0_gather_6 : decode cX0_gather 6 = .ok (.istore 6, 2) := by decide +kernel
theorem dX0_gather_8 : decode cX0_gather 8 = .ok (.iload 6, 2) := by decide +kernel
theorem dX0_gather_10 : decode cX0_gather 10 = .ok (.aload_n 1, 1) := by decide +kernel
theorem dX0_gather_11 : decode cX0_gather 11 = .ok (.getfield 43, 3) := by decide +kernel
theorem dX0_gather_14 : decode cX0_gather 14 = .ok (.if_icmp .ge 96, 3) := by decide +kernel
theorem dX0_gather_17 : decode cX0_gather 17 = .ok (.aload_n 2, 1) := by decide +kernel
theorem dX0_gather_18 : decode cX0_gather 18 = .ok (.getfield 46, 3) := by decide +kernel
theorem dX0_gather_21 : decode cX0_gather 21 = .ok (.iload 5, 2) := by decide +kernel
theorem dX0_gather_23 : decode cX0_gather 23 = .ok (.aaload, 1) := by decide +kernel
theorem dX0_gather_24 : decode cX0_gather 24 = .ok (.aload_n 1, 1) := by decide +kernel
theorem dX0_gather_25 : decode cX0_gather 25 = .ok (.getfield 52, 3) := by decide +kernel
theorem dX0_gather_28 : decode cX0_gather 28 = .ok (.iload 6, 2) := by decide +kernel
theorem dX0_gather_30 : decode cX0_gather 30 = .ok (.iaload, 1) := by decide +kernel
theorem dX0_gather_31 : decode cX0_gather 31 = .ok (.iaload, 1) := by decide +kernel
theorem dX0_gather_32 : decode cX0_gather 32 = .ok (.istore 7, 2) := by decide +kernel
theorem dX0_gather_34 : decode cX0_gather 34 = .ok (.aload_n 2, 1) := by decide +kernel
theorem dX0_gather_35 : decode cX0_gather 35 = .ok (.getfield 46, 3) := by decide +kernel
theorem dX0_gather_38 : decode cX0_gather 38 = .ok (.aload_n 1, 1) := by decide +kernel
theorem dX0_gather_39 : decode cX0_gather 39 = .ok (.getfield 55, 3) := by decide +kernel
theorem dX0_gather_42 : decode cX0_gather 42 = .ok (.iload 6, 2) := by decide +kernel
theorem dX0_gather_44 : decode cX0_gather 44 = .ok (.iaload, 1) := by decide +kernel
theorem dX0_gather_45 : decode cX0_gather 45 = .ok (.aaload, 1) := by decide +kernel
theorem dX0_gather_46 : decode cX0_gather 46 = .ok (.iload_n 3, 1) := by decide +kernel
theorem dX0_gather_47 : decode cX0_gather 47 = .ok (.iaload, 1) := by decide +kernel
theorem dX0_gather_48 : decode cX0_gather 48 = .ok (.istore 8, 2) := by decide +kernel
theorem dX0_gather_50 : decode cX0_gather 50 = .ok (.iload 7, 2) := by decide +kernel
theorem dX0_gather_52 : decode cX0_gather 52 = .ok (.ldc 58, 2) := by decide +kernel
theorem dX0_gather_54 : decode cX0_gather 54 = .ok (.if_icmp .eq 50, 3) := by decide +kernel
theorem dX0_gather_57 : decode cX0_gather 57 = .ok (.iload 8, 2) := by decide +kernel
theorem dX0_gather_59 : decode cX0_gather 59 = .ok (.ldc 58, 2) := by decide +kernel
theorem dX0_gather_61 : decode cX0_gather 61 = .ok (.if_icmp .eq 43, 3) := by decide +kernel
theorem dX0_gather_64 : decode cX0_gather 64 = .ok (.iload 7, 2) := by decide +kernel
theorem dX0_gather_66 : decode cX0_gather 66 = .ok (.aload_n 1, 1) := by decide +kernel
theorem dX0_gather_67 : decode cX0_gather 67 = .ok (.getfield 59, 3) := by decide +kernel
theorem dX0_gather_70 : decode cX0_gather 70 = .ok (.iload 6, 2) := by decide +kernel
theorem dX0_gather_72 : decode cX0_gather 72 = .ok (.iaload, 1) := by decide +kernel
theorem dX0_gather_73 : decode cX0_gather 73 = .ok (.iadd, 1) := by decide +kernel
theorem dX0_gather_74 : decode cX0_gather 74 = .ok (.iload 8, 2) := by decide +kernel
theorem dX0_gather_76 : decode cX0_gather 76 = .ok (.iadd, 1) := by decide +kernel
theorem dX0_gather_77 : decode cX0_gather 77 = .ok (.iload 4, 2) := by decide +kernel
theorem dX0_gather_79 : decode cX0_gather 79 = .ok (.iadd, 1) := by decide +kernel
theorem dX0_gather_80 : decode cX0_gather 80 = .ok (.ifCond .le 24, 3) := by decide +kernel
theorem dX0_gather_83 : decode cX0_gather 83 = .ok (.aload_n 0, 1) := by decide +kernel
theorem dX0_gather_84 : decode cX0_gather 84 = .ok (.getfield 9, 3) := by decide +kernel
theorem dX0_gather_87 : decode cX0_gather 87 = .ok (.aload_n 0, 1) := by decide +kernel
theorem dX0_gather_88 : decode cX0_gather 88 = .ok (.getfield 25, 3) := by decide +kernel
theorem dX0_gather_91 : decode cX0_gather 91 = .ok (.iload 6, 2) := by decide +kernel
theorem dX0_gather_93 : decode cX0_gather 93 = .ok (.iastore, 1) := by decide +kernel
theorem dX0_gather_94 : decode cX0_gather 94 = .ok (.aload_n 0, 1) := by decide +kernel
theorem dX0_gather_95 : decode cX0_gather 95 = .ok (.dup, 1) := by decide +kernel
theorem dX0_gather_96 : decode cX0_gather 96 = .ok (.getfield 25, 3) := by decide +kernel
theorem dX0_gather_99 : decode cX0_gather 99 = .ok (.iconst 1, 1) := by decide +kernel
theorem dX0_gather_100 : decode cX0_gather 100 = .ok (.iadd, 1) := by decide +kernel
theorem dX0_gather_101 : decode cX0_gather 101 = .ok (.putfield 25, 3) := by decide +kernel
theorem dX0_gather_104 : decode cX0_gather 104 = .ok (.iinc 6 1, 3) := by decide +kernel
theorem dX0_gather_107 : decode cX0_gather 107 = .ok (.goto (-99), 3) := by decide +kernel
theorem dX0_gather_110 : decode cX0_gather 110 = .ok (.return_, 1) := by decide +kernel
theorem dX0_pickedBits_0 : decode cX0_pickedBits 0 = .ok (.iconst 0, 1) := by decide +kernel
theorem dX0_pickedBits_1 : decode cX0_pickedBits 1 = .ok (.istore_n 2, 1) := by decide +kernel
theorem dX0_pickedBits_2 : decode cX0_pickedBits 2 = .ok (.iconst 0, 1) := by decide +kernel
theorem dX0_pickedBits_3 : decode cX0_pickedBits 3 = .ok (.istore_n 3, 1) := by decide +kernel
theorem dX0_pickedBits_4 : decode cX0_pickedBits 4 = .ok (.iload_n 3, 1) := by decide +kernel
theorem dX0_pickedBits_5 : decode cX0_pickedBits 5 = .ok (.iload_n 1, 1) := by decide +kernel
theorem dX0_pickedBits_6 : decode cX0_pickedBits 6 = .ok (.if_icmp .ge 19, 3) := by decide +kernel
theorem dX0_pickedBits_9 : decode cX0_pickedBits 9 = .ok (.iload_n 2, 1) := by decide +kernel
theorem dX0_pickedBits_10 : decode cX0_pickedBits 10 = .ok (.iconst 1, 1) := by decide +kernel
theorem dX0_pickedBits_11 : decode cX0_pickedBits 11 = .ok (.aload_n 0, 1) := by decide +kernel
theorem dX0_pickedBits_12 : decode cX0_pickedBits 12 = .ok (.iload_n 3, 1) := by decide +kernel
theorem dX0_pickedBits_13 : decode cX0_pickedBits 13 = .ok (.invokevirtual 62, 3) := by decide +kernel
theorem dX0_pickedBits_16 : decode cX0_pickedBits 16 = .ok (.ishl, 1) := by decide +kernel
theorem dX0_pickedBits_17 : decode cX0_pickedBits 17 = .ok (.ior, 1) := by decide +kernel
theorem dX0_pickedBits_18 : decode cX0_pickedBits 18 = .ok (.istore_n 2, 1) := by decide +kernel
theorem dX0_pickedBits_19 : decode cX0_pickedBits 19 = .ok (.iinc 3 1, 3) := by decide +kernel
theorem dX0_pickedBits_22 : decode cX0_pickedBits 22 = .ok (.goto (-18), 3) := by decide +kernel
theorem dX0_pickedBits_25 : decode cX0_pickedBits 25 = .ok (.iload_n 2, 1) := by decide +kernel
theorem dX0_pickedBits_26 : decode cX0_pickedBits 26 = .ok (.ireturn, 1) := by decide +kernel
theorem dX0_nextChoice_0 : decode cX0_nextChoice 0 = .ok (.iload_n 1, 1) := by decide +kernel
theorem dX0_nextChoice_1 : decode cX0_nextChoice 1 = .ok (.iconst 1, 1) := by decide +kernel
theorem dX0_nextChoice_2 : decode cX0_nextChoice 2 = .ok (.isub, 1) := by decide +kernel
theorem dX0_nextChoice_3 : decode cX0_nextChoice 3 = .ok (.istore_n 2, 1) := by decide +kernel
theorem dX0_nextChoice_4 : decode cX0_nextChoice 4 = .ok (.iload_n 2, 1) := by decide +kernel
theorem dX0_nextChoice_5 : decode cX0_nextChoice 5 = .ok (.ifCond .lt 69, 3) := by decide +kernel
theorem dX0_nextChoice_8 : decode cX0_nextChoice 8 = .ok (.aload_n 0, 1) := by decide +kernel
theorem dX0_nextChoice_9 : decode cX0_nextChoice 9 = .ok (.getfield 15, 3) := by decide +kernel
theorem dX0_nextChoice_12 : decode cX0_nextChoice 12 = .ok (.iload_n 2, 1) := by decide +kernel
theorem dX0_nextChoice_13 : decode cX0_nextChoice 13 = .ok (.iaload, 1) := by decide +kernel
theorem dX0_nextChoice_14 : decode cX0_nextChoice 14 = .ok (.aload_n 0, 1) := by decide +kernel
theorem dX0_nextChoice_15 : decode cX0_nextChoice 15 = .ok (.getfield 25, 3) := by decide +kernel
theorem dX0_nextChoice_18 : decode cX0_nextChoice 18 = .ok (.iload_n 1, 1) := by decide +kernel
theorem dX0_nextChoice_19 : decode cX0_nextChoice 19 = .ok (.isub, 1) := by decide +kernel
theorem dX0_nextChoice_20 : decode cX0_nextChoice 20 = .ok (.iload_n 2, 1) := by decide +kernel
theorem dX0_nextChoice_21 : decode cX0_nextChoice 21 = .ok (.iadd, 1) := by decide +kernel
theorem dX0_nextChoice_22 : decode cX0_nextChoice 22 = .ok (.if_icmp .ge 46, 3) := by decide +kernel
theorem dX0_nextChoice_25 : decode cX0_nextChoice 25 = .ok (.aload_n 0, 1) := by decide +kernel
theorem dX0_nextChoice_26 : decode cX0_nextChoice 26 = .ok (.getfield 15, 3) := by decide +kernel
theorem dX0_nextChoice_29 : decode cX0_nextChoice 29 = .ok (.iload_n 2, 1) := by decide +kernel
theorem dX0_nextChoice_30 : decode cX0_nextChoice 30 = .ok (.dup2, 1) := by decide +kernel
theorem dX0_nextChoice_31 : decode cX0_nextChoice 31 = .ok (.iaload, 1) := by decide +kernel
theorem dX0_nextChoice_32 : decode cX0_nextChoice 32 = .ok (.iconst 1, 1) := by decide +kernel
theorem dX0_nextChoice_33 : decode cX0_nextChoice 33 = .ok (.iadd, 1) := by decide +kernel
theorem dX0_nextChoice_34 : decode cX0_nextChoice 34 = .ok (.iastore, 1) := by decide +kernel
theorem dX0_nextChoice_35 : decode cX0_nextChoice 35 = .ok (.iload_n 2, 1) := by decide +kernel
theorem dX0_nextChoice_36 : decode cX0_nextChoice 36 = .ok (.iconst 1, 1) := by decide +kernel
theorem dX0_nextChoice_37 : decode cX0_nextChoice 37 = .ok (.iadd, 1) := by decide +kernel
theorem dX0_nextChoice_38 : decode cX0_nextChoice 38 = .ok (.istore_n 3, 1) := by decide +kernel
theorem dX0_nextChoice_39 : decode cX0_nextChoice 39 = .ok (.iload_n 3, 1) := by decide +kernel
theorem dX0_nextChoice_40 : decode cX0_nextChoice 40 = .ok (.iload_n 1, 1) := by decide +kernel
theorem dX0_nextChoice_41 : decode cX0_nextChoice 41 = .ok (.if_icmp .ge 25, 3) := by decide +kernel
theorem dX0_nextChoice_44 : decode cX0_nextChoice 44 = .ok (.aload_n 0, 1) := by decide +kernel
theorem dX0_nextChoice_45 : decode cX0_nextChoice 45 = .ok (.getfield 15, 3) := by decide +kernel
theorem dX0_nextChoice_48 : decode cX0_nextChoice 48 = .ok (.iload_n 3, 1) := by decide +kernel
theorem dX0_nextChoice_49 : decode cX0_nextChoice 49 = .ok (.aload_n 0, 1) := by decide +kernel
theorem dX0_nextChoice_50 : decode cX0_nextChoice 50 = .ok (.getfield 15, 3) := by decide +kernel
theorem dX0_nextChoice_53 : decode cX0_nextChoice 53 = .ok (.iload_n 3, 1) := by decide +kernel
theorem dX0_nextChoice_54 : decode cX0_nextChoice 54 = .ok (.iconst 1, 1) := by decide +kernel
theorem dX0_nextChoice_55 : decode cX0_nextChoice 55 = .ok (.isub, 1) := by decide +kernel
theorem dX0_nextChoice_56 : decode cX0_nextChoice 56 = .ok (.iaload, 1) := by decide +kernel
theorem dX0_nextChoice_57 : decode cX0_nextChoice 57 = .ok (.iconst 1, 1) := by decide +kernel
theorem dX0_nextChoice_58 : decode cX0_nextChoice 58 = .ok (.iadd, 1) := by decide +kernel
theorem dX0_nextChoice_59 : decode cX0_nextChoice 59 = .ok (.iastore, 1) := by decide +kernel
theorem dX0_nextChoice_60 : decode cX0_nextChoice 60 = .ok (.iinc 3 1, 3) := by decide +kernel
theorem dX0_nextChoice_63 : decode cX0_nextChoice 63 = .ok (.goto (-24), 3) := by decide +kernel
theorem dX0_nextChoice_66 : decode cX0_nextChoice 66 = .ok (.iconst 1, 1) := by decide +kernel
theorem dX0_nextChoice_67 : decode cX0_nextChoice 67 = .ok (.ireturn, 1) := by decide +kernel
theorem dX0_nextChoice_68 : decode cX0_nextChoice 68 = .ok (.iinc 2 (-1), 3) := by decide +kernel
theorem dX0_nextChoice_71 : decode cX0_nextChoice 71 = .ok (.goto (-67), 3) := by decide +kernel
theorem dX0_nextChoice_74 : decode cX0_nextChoice 74 = .ok (.iconst 0, 1) := by decide +kernel
theorem dX0_nextChoice_75 : decode cX0_nextChoice 75 = .ok (.ireturn, 1) := by decide +kernel
theorem dX1_init_0 : decode cX1_init 0 = .ok (.aload_n 0, 1) := by decide +kernel
theorem dX1_init_1 : decode cX1_init 1 = .ok (.invokespecial 3, 3) := by decide +kernel
theorem dX1_init_4 : decode cX1_init 4 = .ok (.aload_n 0, 1) := by decide +kernel
theorem dX1_init_5 : decode cX1_init 5 = .ok (.bipush 10, 2) := by decide +kernel
theorem dX1_init_7 : decode cX1_init 7 = .ok (.bipush 10, 2) := by decide +kernel
theorem dX1_init_9 : decode cX1_init 9 = .ok (.multianewarray 9 2, 4) := by decide +kernel
theorem dX1_init_13 : decode cX1_init 13 = .ok (.putfield 11, 3) := by decide +kernel
theorem dX1_init_16 : decode cX1_init 16 = .ok (.return_, 1) := by decide +kernel
theorem dX1_measure_0 : decode cX1_measure 0 = .ok (.aload_n 0, 1) := by decide +kernel
theorem dX1_measure_1 : decode cX1_measure 1 = .ok (.aload_n 1, 1) := by decide +kernel
theorem dX1_measure_2 : decode cX1_measure 2 = .ok (.getfield 16, 3) := by decide +kernel
theorem dX1_measure_5 : decode cX1_measure 5 = .ok (.putfield 22, 3) := by decide +kernel
theorem dX1_measure_8 : decode cX1_measure 8 = .ok (.iconst 0, 1) := by decide +kernel
theorem dX1_measure_9 : decode cX1_measure 9 = .ok (.istore_n 2, 1) := by decide +kernel
theorem dX1_measure_10 : decode cX1_measure 10 = .ok (.iload_n 2, 1) := by decide +kernel
theorem dX1_measure_11 : decode cX1_measure 11 = .ok (.aload_n 0, 1) := by decide +kernel
theorem dX1_measure_12 : decode cX1_measure 12 = .ok (.getfield 22, 3) := by decide +kernel
theorem dX1_measure_15 : decode cX1_measure 15 = .ok (.if_icmp .ge 21, 3) := by decide +kernel
theorem dX1_measure_18 : decode cX1_measure 18 = .ok (.aload_n 1, 1) := by decide +kernel
theorem dX1_measure_19 : decode cX1_measure 19 = .ok (.iload_n 2, 1) := by decide +kernel
theorem dX1_measure_20 : decode cX1_measure 20 = .ok (.iconst 0, 1) := by decide +kernel
theorem dX1_measure_21 : decode cX1_measure 21 = .ok (.aload_n 0, 1) := by decide +kernel
theorem dX1_measure_22 : decode cX1_measure 22 = .ok (.getfield 11, 3) := by decide +kernel
theorem dX1_measure_25 : decode cX1_measure 25 = .ok (.iload_n 2, 1) := by decide +kernel
theorem dX1_measure_26 : decode cX1_measure 26 = .ok (.aaload, 1) := by decide +kernel
theorem dX1_measure_27 : decode cX1_measure 27 = .ok (.invokevirtual 23, 3) := by decide +kernel
theorem dX1_measure_30 : decode cX1_measure 30 = .ok (.iinc 2 1, 3) := by decide +kernel
theorem dX1_measure_33 : decode cX1_measure 33 = .ok (.goto (-23), 3) := by decide +kernel
theorem dX1_measure_36 : decode cX1_measure 36 = .ok (.return_, 1) := by decide +kernel
theorem dX1_leads_0 : decode cX1_leads 0 = .ok (.aload_n 0, 1) := by decide +kernel
theorem dX1_leads_1 : decode cX1_leads 1 = .ok (.getfield 11, 3) := by decide +kernel
theorem dX1_leads_4 : decode cX1_leads 4 = .ok (.iload_n 1, 1) := by decide +kernel
theorem dX1_leads_5 : decode cX1_leads 5 = .ok (.aaload, 1) := by decide +kernel
theorem dX1_leads_6 : decode cX1_leads 6 = .ok (.iload_n 2, 1) := by decide +kernel
theorem dX1_leads_7 : decode cX1_leads 7 = .ok (.iaload, 1) := by decide +kernel
theorem dX1_leads_8 : decode cX1_leads 8 = .ok (.ldc 27, 2) := by decide +kernel
theorem dX1_leads_10 : decode cX1_leads 10 = .ok (.if_icmp .eq 7, 3) := by decide +kernel
theorem dX1_leads_13 : decode cX1_leads 13 = .ok (.iconst 1, 1) := by decide +kernel
theorem dX1_leads_14 : decode cX1_leads 14 = .ok (.goto 4, 3) := by decide +kernel
theorem dX1_leads_17 : decode cX1_leads 17 = .ok (.iconst 0, 1) := by decide +kernel
theorem dX1_leads_18 : decode cX1_leads 18 = .ok (.ireturn, 1) := by decide +kernel
theorem dX1_implies_0 : decode cX1_implies 0 = .ok (.aload_n 0, 1) := by decide +kernel
theorem dX1_implies_1 : decode cX1_implies 1 = .ok (.iload_n 1, 1) := by decide +kernel
theorem dX1_implies_2 : decode cX1_implies 2 = .ok (.iload_n 3, 1) := by decide +kernel
theorem dX1_implies_3 : decode cX1_implies 3 = .ok (.invokevirtual 28, 3) := by decide +kernel
theorem dX1_implies_6 : decode cX1_implies 6 = .ok (.ifCond .eq 19, 3) := by decide +kernel
theorem dX1_implies_9 : decode cX1_implies 9 = .ok (.aload_n 0, 1) := by decide +kernel
theorem dX1_implies_10 : decode cX1_implies 10 = .ok (.getfield 11, 3) := by decide +kernel
theorem dX1_implies_13 : decode cX1_implies 13 = .ok (.iload_n 1, 1) := by decide +kernel
theorem dX1_implies_14 : decode cX1_implies 14 = .ok (.aaload, 1) := by decide +kernel
theorem dX1_implies_15 : decode cX1_implies 15 = .ok (.iload_n 3, 1) := by decide +kernel
theorem dX1_implies_16 : decode cX1_implies 16 = .ok (.iaload, 1) := by decide +kernel
theorem dX1_implies_17 : decode cX1_implies 17 = .ok (.iload_n 2, 1) := by decide +kernel
theorem dX1_implies_18 : decode cX1_implies 18 = .ok (.if_icmp .lt 7, 3) := by decide +kernel
theorem dX1_implies_21 : decode cX1_implies 21 = .ok (.iconst 1, 1) := by decide +kernel
theorem dX1_implies_22 : decode cX1_implies 22 = .ok (.goto 4, 3) := by decide +kernel
theorem dX1_implies_25 : decode cX1_implies 25 = .ok (.iconst 0, 1) := by decide +kernel
theorem dX1_implies_26 : decode cX1_implies 26 = .ok (.ireturn, 1) := by decide +kernel
theorem dX1_valueOf_0 : decode cX1_valueOf 0 = .ok (.iconst 0, 1) := by decide +kernel
theorem dX1_valueOf_1 : decode cX1_valueOf 1 = .ok (.istore_n 2, 1) := by decide +kernel
theorem dX1_valueOf_2 : decode cX1_valueOf 2 = .ok (.iconst 0, 1) := by decide +kernel
theorem dX1_valueOf_3 : decode cX1_valueOf 3 = .ok (.istore_n 3, 1) := by decide +kernel
theorem dX1_valueOf_4 : decode cX1_valueOf 4 = .ok (.iload_n 3, 1) := by decide +kernel
theorem dX1_valueOf_5 : decode cX1_valueOf 5 = .ok (.aload_n 0, 1) := by decide +kernel
theorem dX1_valueOf_6 : decode cX1_valueOf 6 = .ok (.getfield 22, 3) := by decide +kernel
theorem dX1_valueOf_9 : decode cX1_valueOf 9 = .ok (.if_icmp .ge 22, 3) := by decide +kernel
theorem dX1_valueOf_12 : decode cX1_valueOf 12 = .ok (.iload_n 2, 1) := by decide +kernel
theorem dX1_valueOf_13 : decode cX1_valueOf 13 = .ok (.aload_n 0, 1) := by decide +kernel
theorem dX1_valueOf_14 : decode cX1_valueOf 14 = .ok (.getfield 11, 3) := by decide +kernel
theorem dX1_valueOf_17 : decode cX1_valueOf 17 = .ok (.iload_n 3, 1) := by decide +kernel
theorem dX1_valueOf_18 : decode cX1_valueOf 18 = .ok (.aaload, 1) := by decide +kernel
theorem dX1_valueOf_19 : decode cX1_valueOf 19 = .ok (.iload_n 1, 1) := by decide +kernel
theorem dX1_valueOf_20 : decode cX1_valueOf 20 = .ok (.iaload, 1) := by decide +kernel
theorem dX1_valueOf_21 : decode cX1_valueOf 21 = .ok (.invokestatic 32, 3) := by decide +kernel
theorem dX1_valueOf_24 : decode cX1_valueOf 24 = .ok (.istore_n 2, 1) := by decide +kernel
theorem dX1_valueOf_25 : decode cX1_valueOf 25 = .ok (.iinc 3 1, 3) := by decide +kernel
theorem dX1_valueOf_28 : decode cX1_valueOf 28 = .ok (.goto (-24), 3) := by decide +kernel
theorem dX1_valueOf_31 : decode cX1_valueOf 31 = .ok (.iload_n 2, 1) := by decide +kernel
theorem dX1_valueOf_32 : decode cX1_valueOf 32 = .ok (.ireturn, 1) := by decide +kernel
theorem dX1_greatestValue_0 : decode cX1_greatestValue 0 = .ok (.iconst 0, 1) := by decide +kernel
theorem dX1_greatestValue_1 : decode cX1_greatestValue 1 = .ok (.istore_n 1, 1) := by decide +kernel
theorem dX1_greatestValue_2 : decode cX1_greatestValue 2 = .ok (.iconst 0, 1) := by decide +kernel
theorem dX1_greatestValue_3 : decode cX1_greatestValue 3 = .ok (.istore_n 2, 1) := by decide +kernel
theorem dX1_greatestValue_4 : decode cX1_greatestValue 4 = .ok (.iload_n 2, 1) := by decide +kernel
theorem dX1_greatestValue_5 : decode cX1_greatestValue 5 = .ok (.aload_n 0, 1) := by decide +kernel
theorem dX1_greatestValue_6 : decode cX1_greatestValue 6 = .ok (.getfield 22, 3) := by decide +kernel
theorem dX1_greatestValue_9 : decode cX1_greatestValue 9 = .ok (.if_icmp .ge 19, 3) := by decide +kernel
theorem dX1_greatestValue_12 : decode cX1_greatestValue 12 = .ok (.iload_n 1, 1) := by decide +kernel
theorem dX1_greatestValue_13 : decode cX1_greatestValue 13 = .ok (.aload_n 0, 1) := by decide +kernel
theorem dX1_greatestValue_14 : decode cX1_greatestValue 14 = .ok (.iload_n 2, 1) := by decide +kernel
theorem dX1_greatestValue_15 : decode cX1_greatestValue 15 = .ok (.invokevirtual 38, 3) := by decide +kernel
theorem dX1_greatestValue_18 : decode cX1_greatestValue 18 = .ok (.invokestatic 32, 3) := by decide +kernel
theorem dX1_greatestValue_21 : decode cX1_greatestValue 21 = .ok (.istore_n 1, 1) := by decide +kernel
theorem dX1_greatestValue_22 : decode cX1_greatestValue 22 = .ok (.iinc 2 1, 3) := by decide +kernel
theorem dX1_greatestValue_25 : decode cX1_greatestValue 25 = .ok (.goto (-21), 3) := by decide +kernel
theorem dX1_greatestValue_28 : decode cX1_greatestValue 28 = .ok (.iload_n 1, 1) := by decide +kernel
theorem dX1_greatestValue_29 : decode cX1_greatestValue 29 = .ok (.ireturn, 1) := by decide +kernel
theorem dX1_pairs_0 : decode cX1_pairs 0 = .ok (.iconst 0, 1) := by decide +kernel
theorem dX1_pairs_1 : decode cX1_pairs 1 = .ok (.istore_n 1, 1) := by decide +kernel
theorem dX1_pairs_2 : decode cX1_pairs 2 = .ok (.iconst 0, 1) := by decide +kernel
theorem dX1_pairs_3 : decode cX1_pairs 3 = .ok (.istore_n 2, 1) := by decide +kernel
theorem dX1_pairs_4 : decode cX1_pairs 4 = .ok (.iload_n 2, 1) := by decide +kernel
theorem dX1_pairs_5 : decode cX1_pairs 5 = .ok (.aload_n 0, 1) := by decide +kernel
theorem dX1_pairs_6 : decode cX1_pairs 6 = .ok (.getfield 22, 3) := by decide +kernel
theorem dX1_pairs_9 : decode cX1_pairs 9 = .ok (.if_icmp .ge 42, 3) := by decide +kernel
theorem dX1_pairs_12 : decode cX1_pairs 12 = .ok (.iconst 0, 1) := by decide +kernel
theorem dX1_pairs_13 : decode cX1_pairs 13 = .ok (.istore_n 3, 1) := by decide +kernel
theorem dX1_pairs_14 : decode cX1_pairs 14 = .ok (.iload_n 3, 1) := by decide +kernel
theorem dX1_pairs_15 : decode cX1_pairs 15 = .ok (.aload_n 0, 1) := by decide +kernel
theorem dX1_pairs_16 : decode cX1_pairs 16 = .ok (.getfield 22, 3) := by decide +kernel
theorem dX1_pairs_19 : decode cX1_pairs 19 = .ok (.if_icmp .ge 26, 3) := by decide +kernel
theorem dX1_pairs_22 : decode cX1_pairs 22 = .ok (.iload_n 2, 1) := by decide +kernel
theorem dX1_pairs_23 : decode cX1_pairs 23 = .ok (.iload_n 3, 1) := by decide +kernel
theorem dX1_pairs_24 : decode cX1_pairs 24 = .ok (.if_icmp .eq 15, 3) := by decide +kernel
theorem dX1_pairs_27 : decode cX1_pairs 27 = .ok (.aload_n 0, 1) := by decide +kernel
theorem dX1_pairs_28 : decode cX1_pairs 28 = .ok (.iload_n 2, 1) := by decide +kernel
theorem dX1_pairs_29 : decode cX1_pairs 29 = .ok (.iload_n 3, 1) := by decide +kernel
theorem dX1_pairs_30 : decode cX1_pairs 30 = .ok (.invokevirtual 28, 3) := by decide +kernel
theorem dX1_pairs_33 : decode cX1_pairs 33 = .ok (.ifCond .eq 6, 3) := by decide +kernel
theorem dX1_pairs_36 : decode cX1_pairs 36 = .ok (.iinc 1 1, 3) := by decide +kernel
theorem dX1_pairs_39 : decode cX1_pairs 39 = .ok (.iinc 3 1, 3) := by decide +kernel
theorem dX1_pairs_42 : decode cX1_pairs 42 = .ok (.goto (-28), 3) := by decide +kernel
theorem dX1_pairs_45 : decode cX1_pairs 45 = .ok (.iinc 2 1, 3) := by decide +kernel
theorem dX1_pairs_48 : decode cX1_pairs 48 = .ok (.goto (-44), 3) := by decide +kernel
theorem dX1_pairs_51 : decode cX1_pairs 51 = .ok (.iload_n 1, 1) := by decide +kernel
theorem dX1_pairs_52 : decode cX1_pairs 52 = .ok (.ireturn, 1) := by decide +kernel
theorem dX2_init_0 : decode cX2_init 0 = .ok (.aload_n 0, 1) := by decide +kernel
theorem dX2_init_1 : decode cX2_init 1 = .ok (.invokespecial 3, 3) := by decide +kernel
theorem dX2_init_4 : decode cX2_init 4 = .ok (.aload_n 0, 1) := by decide +kernel
theorem dX2_init_5 : decode cX2_init 5 = .ok (.bipush 10, 2) := by decide +kernel
theorem dX2_init_7 : decode cX2_init 7 = .ok (.newarray .int, 2) := by decide +kernel
theorem dX2_init_9 : decode cX2_init 9 = .ok (.putfield 9, 3) := by decide +kernel
theorem dX2_init_12 : decode cX2_init 12 = .ok (.aload_n 0, 1) := by decide +kernel
theorem dX2_init_13 : decode cX2_init 13 = .ok (.bipush 10, 2) := by decide +kernel
theorem dX2_init_15 : decode cX2_init 15 = .ok (.newarray .int, 2) := by decide +kernel
theorem dX2_init_17 : decode cX2_init 17 = .ok (.putfield 15, 3) := by decide +kernel
theorem dX2_init_20 : decode cX2_init 20 = .ok (.return_, 1) := by decide +kernel
theorem dX2_trace_0 : decode cX2_trace 0 = .ok (.aload_n 0, 1) := by decide +kernel
theorem dX2_trace_1 : decode cX2_trace 1 = .ok (.aload_n 1, 1) := by decide +kernel
theorem dX2_trace_2 : decode cX2_trace 2 = .ok (.aload_n 2, 1) := by decide +kernel
theorem dX2_trace_3 : decode cX2_trace 3 = .ok (.iload 4, 2) := by decide +kernel
theorem dX2_trace_5 : decode cX2_trace 5 = .ok (.invokevirtual 18, 3) := by decide +kernel
theorem dX2_trace_8 : decode cX2_trace 8 = .ok (.aload_n 0, 1) := by decide +kernel
theorem dX2_trace_9 : decode cX2_trace 9 = .ok (.iconst 0, 1) := by decide +kernel
theorem dX2_trace_10 : decode cX2_trace 10 = .ok (.putfield 22, 3) := by decide +kernel
theorem dX2_trace_13 : decode cX2_trace 13 = .ok (.iload_n 3, 1) := by decide +kernel
theorem dX2_trace_14 : decode cX2_trace 14 = .ok (.istore 5, 2) := by decide +kernel
theorem dX2_trace_16 : decode cX2_trace 16 = .ok (.iconst 0, 1) := by decide +kernel
theorem dX2_trace_17 : decode cX2_trace 17 = .ok (.istore 6, 2) := by decide +kernel
theorem dX2_trace_19 : decode cX2_trace 19 = .ok (.iload 6, 2) := by decide +kernel
theorem dX2_trace_21 : decode cX2_trace 21 = .ok (.bipush 10, 2) := by decide +kernel
theorem dX2_trace_23 : decode cX2_trace 23 = .ok (.if_icmp .ge 59, 3) := by decide +kernel
theorem dX2_trace_26 : decode cX2_trace 26 = .ok (.iload 5, 2) := by decide +kernel
theorem dX2_trace_28 : decode cX2_trace 28 = .ok (.ifCond .lt 54, 3) := by decide +kernel
theorem dX2_trace_31 : decode cX2_trace 31 = .ok (.aload_n 0, 1) := by decide +kernel
theorem dX2_trace_32 : decode cX2_trace 32 = .ok (.getfield 9, 3) := by decide +kernel
theorem dX2_trace_35 : decode cX2_trace 35 = .ok (.aload_n 0, 1) := by decide +kernel
theorem dX2_trace_36 : decode cX2_trace 36 = .ok (.getfield 22, 3) := by decide +kernel
theorem dX2_trace_39 : decode cX2_trace 39 = .ok (.iload 5, 2) := by decide +kernel
theorem dX2_trace_41 : decode cX2_trace 41 = .ok (.iastore, 1) := by decide +kernel
theorem dX2_trace_42 : decode cX2_trace 42 = .ok (.aload_n 0, 1) := by decide +kernel
theorem dX2_trace_43 : decode cX2_trace 43 = .ok (.dup, 1) := by decide +kernel
theorem dX2_trace_44 : decode cX2_trace 44 = .ok (.getfield 22, 3) := by decide +kernel
theorem dX2_trace_47 : decode cX2_trace 47 = .ok (.iconst 1, 1) := by decide +kernel
theorem dX2_trace_48 : decode cX2_trace 48 = .ok (.iadd, 1) := by decide +kernel
theorem dX2_trace_49 : decode cX2_trace 49 = .ok (.putfield 22, 3) := by decide +kernel
theorem dX2_trace_52 : decode cX2_trace 52 = .ok (.iload 5, 2) := by decide +kernel
theorem dX2_trace_54 : decode cX2_trace 54 = .ok (.iload 4, 2) := by decide +kernel
theorem dX2_trace_56 : decode cX2_trace 56 = .ok (.if_icmp .ne 8, 3) := by decide +kernel
theorem dX2_trace_59 : decode cX2_trace 59 = .ok (.bipush (-4), 2) := by decide +kernel
theorem dX2_trace_61 : decode cX2_trace 61 = .ok (.goto 13, 3) := by decide +kernel
theorem dX2_trace_64 : decode cX2_trace 64 = .ok (.aload_n 0, 1) := by decide +kernel
theorem dX2_trace_65 : decode cX2_trace 65 = .ok (.aload_n 1, 1) := by decide +kernel
theorem dX2_trace_66 : decode cX2_trace 66 = .ok (.aload_n 2, 1) := by decide +kernel
theorem dX2_trace_67 : decode cX2_trace 67 = .ok (.iload 5, 2) := by decide +kernel
theorem dX2_trace_69 : decode cX2_trace 69 = .ok (.iload 4, 2) := by decide +kernel
theorem dX2_trace_71 : decode cX2_trace 71 = .ok (.invokevirtual 26, 3) := by decide +kernel
theorem dX2_trace_74 : decode cX2_trace 74 = .ok (.istore 5, 2) := by decide +kernel
theorem dX2_trace_76 : decode cX2_trace 76 = .ok (.iinc 6 1, 3) := by decide +kernel
theorem dX2_trace_79 : decode cX2_trace 79 = .ok (.goto (-60), 3) := by decide +kernel
theorem dX2_trace_82 : decode cX2_trace 82 = .ok (.return_, 1) := by decide +kernel
theorem dX2_countFewest_0 : decode cX2_countFewest 0 = .ok (.aload_n 0, 1) := by decide +kernel
theorem dX2_countFewest_1 : decode cX2_countFewest 1 = .ok (.getfield 15, 3) := by decide +kernel
theorem dX2_countFewest_4 : decode cX2_countFewest 4 = .ok (.bipush 10, 2) := by decide +kernel
theorem dX2_countFewest_6 : decode cX2_countFewest 6 = .ok (.invokestatic 30, 3) := by decide +kernel
theorem dX2_countFewest_9 : decode cX2_countFewest 9 = .ok (.aload_n 0, 1) := by decide +kernel
theorem dX2_countFewest_10 : decode cX2_countFewest 10 = .ok (.getfield 15, 3) := by decide +kernel
theorem dX2_countFewest_13 : decode cX2_countFewest 13 = .ok (.iload_n 3, 1) := by decide +kernel
theorem dX2_countFewest_14 : decode cX2_countFewest 14 = .ok (.iconst 0, 1) := by decide +kernel
theorem dX2_countFewest_15 : decode cX2_countFewest 15 = .ok (.iastore, 1) := by decide +kernel
theorem dX2_countFewest_16 : decode cX2_countFewest 16 = .ok (.iconst 0, 1) := by decide +kernel
theorem dX2_countFewest_17 : decode cX2_countFewest 17 = .ok (.istore 4, 2) := by decide +kernel
theorem dX2_countFewest_19 : decode cX2_countFewest 19 = .ok (.iload 4, 2) := by decide +kernel
theorem dX2_countFewest_21 : decode cX2_countFewest 21 = .ok (.aload_n 1, 1) := by decide +kernel
theorem dX2_countFewest_22 : decode cX2_countFewest 22 = .ok (.getfield 36, 3) := by decide +kernel
theorem dX2_countFewest_25 : decode cX2_countFewest 25 = .ok (.if_icmp .ge 78, 3) := by decide +kernel
theorem dX2_countFewest_28 : decode cX2_countFewest 28 = .ok (.iconst 0, 1) := by decide +kernel
theorem dX2_countFewest_29 : decode cX2_countFewest 29 = .ok (.istore 5, 2) := by decide +kernel
theorem dX2_countFewest_31 : decode cX2_countFewest 31 = .ok (.iload 5, 2) := by decide +kernel
theorem dX2_countFewest_33 : decode cX2_countFewest 33 = .ok (.aload_n 1, 1) := by decide +kernel
theorem dX2_countFewest_34 : decode cX2_countFewest 34 = .ok (.getfield 40, 3) := by decide +kernel
theorem dX2_countFewest_37 : decode cX2_countFewest 37 = .ok (.if_icmp .ge 60, 3) := by decide +kernel
theorem dX2_countFewest_40 : decode cX2_countFewest 40 = .ok (.aload_n 1, 1) := by decide +kernel
theorem dX2_countFewest_41 : decode cX2_countFewest 41 = .ok (.aload_n 2, 1) := by decide +kernel
theorem dX2_countFewest_42 : decode cX2_countFewest 42 = .ok (.iload 5, 2) := by decide +kernel
theorem dX2_countFewest_44 : decode cX2_countFewest 44 = .ok (.iload_n 3, 1) := by decide +kernel
theorem dX2_countFewest_45 : decode cX2_countFewest 45 = .ok (.invokestatic 43, 3) := by decide +kernel
theorem dX2_countFewest_48 : decode cX2_countFewest 48 = .ok (.ifCond .eq 43, 3) := by decide +kernel
theorem dX2_countFewest_51 : decode cX2_countFewest 51 = .ok (.aload_n 1, 1) := by decide +kernel
theorem dX2_countFewest_52 : decode cX2_countFewest 52 = .ok (.getfield 47, 3) := by decide +kernel
theorem dX2_countFewest_55 : decode cX2_countFewest 55 = .ok (.iload 5, 2) := by decide +kernel
theorem dX2_countFewest_57 : decode cX2_countFewest 57 = .ok (.iaload, 1) := by decide +kernel
theorem dX2_countFewest_58 : decode cX2_countFewest 58 = .ok (.istore 6, 2) := by decide +kernel
theorem dX2_countFewest_60 : decode cX2_countFewest 60 = .ok (.aload_n 0, 1) := by decide +kernel
theorem dX2_countFewest_61 : decode cX2_countFewest 61 = .ok (.getfield 15, 3) := by decide +kernel
theorem dX2_countFewest_64 : decode cX2_countFewest 64 = .ok (.iload 6, 2) := by decide +kernel
theorem dX2_countFewest_66 : decode cX2_countFewest 66 = .ok (.aload_n 0, 1) := by decide +kernel
theorem dX2_countFewest_67 : decode cX2_countFewest 67 = .ok (.getfield 15, 3) := by decide +kernel
theorem dX2_countFewest_70 : decode cX2_countFewest 70 = .ok (.iload 6, 2) := by decide +kernel
theorem dX2_countFewest_72 : decode cX2_countFewest 72 = .ok (.iaload, 1) := by decide +kernel
theorem dX2_countFewest_73 : decode cX2_countFewest 73 = .ok (.aload_n 0, 1) := by decide +kernel
theorem dX2_countFewest_74 : decode cX2_countFewest 74 = .ok (.getfield 15, 3) := by decide +kernel
theorem dX2_countFewest_77 : decode cX2_countFewest 77 = .ok (.aload_n 1, 1) := by decide +kernel
theorem dX2_countFewest_78 : decode cX2_countFewest 78 = .ok (.getfield 50, 3) := by decide +kernel
theorem dX2_countFewest_81 : decode cX2_countFewest 81 = .ok (.iload 5, 2) := by decide +kernel
theorem dX2_countFewest_83 : decode cX2_countFewest 83 = .ok (.iaload, 1) := by decide +kernel
theorem dX2_countFewest_84 : decode cX2_countFewest 84 = .ok (.iaload, 1) := by decide +kernel
theorem dX2_countFewest_85 : decode cX2_countFewest 85 = .ok (.iconst 1, 1) := by decide +kernel
theorem dX2_countFewest_86 : decode cX2_countFewest 86 = .ok (.iadd, 1) := by decide +kernel
theorem dX2_countFewest_87 : decode cX2_countFewest 87 = .ok (.invokestatic 53, 3) := by decide +kernel
theorem dX2_countFewest_90 : decode cX2_countFewest 90 = .ok (.iastore, 1) := by decide +kernel
theorem dX2_countFewest_91 : decode cX2_countFewest 91 = .ok (.iinc 5 1, 3) := by decide +kernel
theorem dX2_countFewest_94 : decode cX2_countFewest 94 = .ok (.goto (-63), 3) := by decide +kernel
theorem dX2_countFewest_97 : decode cX2_countFewest 97 = .ok (.iinc 4 1, 3) := by decide +kernel
theorem dX2_countFewest_100 : decode cX2_countFewest 100 = .ok (.goto (-81), 3) := by decide +kernel
theorem dX2_countFewest_103 : decode cX2_countFewest 103 = .ok (.return_, 1) := by decide +kernel
theorem dX2_nextLevel_0 : decode cX2_nextLevel 0 = .ok (.bipush (-4), 2) := by decide +kernel
theorem dX2_nextLevel_2 : decode cX2_nextLevel 2 = .ok (.istore 5, 2) := by decide +kernel
theorem dX2_nextLevel_4 : decode cX2_nextLevel 4 = .ok (.iconst 0, 1) := by decide +kernel
theorem dX2_nextLevel_5 : decode cX2_nextLevel 5 = .ok (.istore 6, 2) := by decide +kernel
theorem dX2_nextLevel_7 : decode cX2_nextLevel 7 = .ok (.iload 6, 2) := by decide +kernel
theorem dX2_nextLevel_9 : decode cX2_nextLevel 9 = .ok (.aload_n 1, 1) := by decide +kernel
theorem dX2_nextLevel_10 : decode cX2_nextLevel 10 = .ok (.getfield 40, 3) := by decide +kernel
theorem dX2_nextLevel_13 : decode cX2_nextLevel 13 = .ok (.if_icmp .ge 77, 3) := by decide +kernel
theorem dX2_nextLevel_16 : decode cX2_nextLevel 16 = .ok (.aload_n 1, 1) := by decide +kernel
theorem dX2_nextLevel_17 : decode cX2_nextLevel 17 = .ok (.getfield 50, 3) := by decide +kernel
theorem dX2_nextLevel_20 : decode cX2_nextLevel 20 = .ok (.iload 6, 2) := by decide +kernel
theorem dX2_nextLevel_22 : decode cX2_nextLevel 22 = .ok (.iaload, 1) := by decide +kernel
theorem dX2_nextLevel_23 : decode cX2_nextLevel 23 = .ok (.istore 7, 2) := by decide +kernel
theorem dX2_nextLevel_25 : decode cX2_nextLevel 25 = .ok (.aload_n 1, 1) := by decide +kernel
theorem dX2_nextLevel_26 : decode cX2_nextLevel 26 = .ok (.getfield 47, 3) := by decide +kernel
theorem dX2_nextLevel_29 : decode cX2_nextLevel 29 = .ok (.iload 6, 2) := by decide +kernel
theorem dX2_nextLevel_31 : decode cX2_nextLevel 31 = .ok (.iaload, 1) := by decide +kernel
theorem dX2_nextLevel_32 : decode cX2_nextLevel 32 = .ok (.iload_n 3, 1) := by decide +kernel
theorem dX2_nextLevel_33 : decode cX2_nextLevel 33 = .ok (.if_icmp .ne 51, 3) := by decide +kernel
theorem dX2_nextLevel_36 : decode cX2_nextLevel 36 = .ok (.aload_n 0, 1) := by decide +kernel
theorem dX2_nextLevel_37 : decode cX2_nextLevel 37 = .ok (.getfield 15, 3) := by decide +kernel
theorem dX2_nextLevel_40 : decode cX2_nextLevel 40 = .ok (.iload 7, 2) := by decide +kernel
theorem dX2_nextLevel_42 : decode cX2_nextLevel 42 = .ok (.iaload, 1) := by decide +kernel
theorem dX2_nextLevel_43 : decode cX2_nextLevel 43 = .ok (.aload_n 0, 1) := by decide +kernel
theorem dX2_nextLevel_44 : decode cX2_nextLevel 44 = .ok (.getfield 15, 3) := by decide +kernel
theorem dX2_nextLevel_47 : decode cX2_nextLevel 47 = .ok (.iload_n 3, 1) := by decide +kernel
theorem dX2_nextLevel_48 : decode cX2_nextLevel 48 = .ok (.iaload, 1) := by decide +kernel
theorem dX2_nextLevel_49 : decode cX2_nextLevel 49 = .ok (.iconst 1, 1) := by decide +kernel
theorem dX2_nextLevel_50 : decode cX2_nextLevel 50 = .ok (.isub, 1) := by decide +kernel
theorem dX2_nextLevel_51 : decode cX2_nextLevel 51 = .ok (.if_icmp .ne 33, 3) := by decide +kernel
theorem dX2_nextLevel_54 : decode cX2_nextLevel 54 = .ok (.aload_n 1, 1) := by decide +kernel
theorem dX2_nextLevel_55 : decode cX2_nextLevel 55 = .ok (.aload_n 2, 1) := by decide +kernel
theorem dX2_nextLevel_56 : decode cX2_nextLevel 56 = .ok (.iload 6, 2) := by decide +kernel
theorem dX2_nextLevel_58 : decode cX2_nextLevel 58 = .ok (.iload 4, 2) := by decide +kernel
theorem dX2_nextLevel_60 : decode cX2_nextLevel 60 = .ok (.invokestatic 43, 3) := by decide +kernel
theorem dX2_nextLevel_63 : decode cX2_nextLevel 63 = .ok (.ifCond .eq 21, 3) := by decide +kernel
theorem dX2_nextLevel_66 : decode cX2_nextLevel 66 = .ok (.iload 5, 2) := by decide +kernel
theorem dX2_nextLevel_68 : decode cX2_nextLevel 68 = .ok (.bipush (-4), 2) := by decide +kernel
theorem dX2_nextLevel_70 : decode cX2_nextLevel 70 = .ok (.if_icmp .eq 10, 3) := by decide +kernel
theorem dX2_nextLevel_73 : decode cX2_nextLevel 73 = .ok (.iload 7, 2) := by decide +kernel
theorem dX2_nextLevel_75 : decode cX2_nextLevel 75 = .ok (.iload 5, 2) := by decide +kernel
theorem dX2_nextLevel_77 : decode cX2_nextLevel 77 = .ok (.if_icmp .ge 7, 3) := by decide +kernel
theorem dX2_nextLevel_80 : decode cX2_nextLevel 80 = .ok (.iload 7, 2) := by decide +kernel
theorem dX2_nextLevel_82 : decode cX2_nextLevel 82 = .ok (.istore 5, 2) := by decide +kernel
theorem dX2_nextLevel_84 : decode cX2_nextLevel 84 = .ok (.iinc 6 1, 3) := by decide +kernel
theorem dX2_nextLevel_87 : decode cX2_nextLevel 87 = .ok (.goto (-80), 3) := by decide +kernel
theorem dX2_nextLevel_90 : decode cX2_nextLevel 90 = .ok (.iload 5, 2) := by decide +kernel
theorem dX2_nextLevel_92 : decode cX2_nextLevel 92 = .ok (.ireturn, 1) := by decide +kernel
theorem dX2_isOnLongest_0 : decode cX2_isOnLongest 0 = .ok (.aload_n 0, 1) := by decide +kernel
theorem dX2_isOnLongest_1 : decode cX2_isOnLongest 1 = .ok (.getfield 47, 3) := by decide +kernel
theorem dX2_isOnLongest_4 : decode cX2_isOnLongest 4 = .ok (.iload_n 2, 1) := by decide +kernel
theorem dX2_isOnLongest_5 : decode cX2_isOnLongest 5 = .ok (.iaload, 1) := by decide +kernel
theorem dX2_isOnLongest_6 : decode cX2_isOnLongest 6 = .ok (.istore 4, 2) := by decide +kernel
theorem dX2_isOnLongest_8 : decode cX2_isOnLongest 8 = .ok (.aload_n 0, 1) := by decide +kernel
theorem dX2_isOnLongest_9 : decode cX2_isOnLongest 9 = .ok (.getfield 50, 3) := by decide +kernel
theorem dX2_isOnLongest_12 : decode cX2_isOnLongest 12 = .ok (.iload_n 2, 1) := by decide +kernel
theorem dX2_isOnLongest_13 : decode cX2_isOnLongest 13 = .ok (.iaload, 1) := by decide +kernel
theorem dX2_isOnLongest_14 : decode cX2_isOnLongest 14 = .ok (.istore 5, 2) := by decide +kernel
theorem dX2_isOnLongest_16 : decode cX2_isOnLongest 16 = .ok (.aload_n 1, 1) := by decide +kernel
theorem dX2_isOnLongest_17 : decode cX2_isOnLongest 17 = .ok (.getfield 59, 3) := by decide +kernel
theorem dX2_isOnLongest_20 : decode cX2_isOnLongest 20 = .ok (.iload 5, 2) := by decide +kernel
theorem dX2_isOnLongest_22 : decode cX2_isOnLongest 22 = .ok (.aaload, 1) := by decide +kernel
theorem dX2_isOnLongest_23 : decode cX2_isOnLongest 23 = .ok (.iload_n 3, 1) := by decide +kernel
theorem dX2_isOnLongest_24 : decode cX2_isOnLongest 24 = .ok (.iaload, 1) := by decide +kernel
theorem dX2_isOnLongest_25 : decode cX2_isOnLongest 25 = .ok (.istore 6, 2) := by decide +kernel
theorem dX2_isOnLongest_27 : decode cX2_isOnLongest 27 = .ok (.iload 6, 2) := by decide +kernel
theorem dX2_isOnLongest_29 : decode cX2_isOnLongest 29 = .ok (.ldc 65, 2) := by decide +kernel
theorem dX2_isOnLongest_31 : decode cX2_isOnLongest 31 = .ok (.if_icmp .eq 28, 3) := by decide +kernel
theorem dX2_isOnLongest_34 : decode cX2_isOnLongest 34 = .ok (.aload_n 1, 1) := by decide +kernel
theorem dX2_isOnLongest_35 : decode cX2_isOnLongest 35 = .ok (.getfield 59, 3) := by decide +kernel
theorem dX2_isOnLongest_38 : decode cX2_isOnLongest 38 = .ok (.iload 4, 2) := by decide +kernel
theorem dX2_isOnLongest_40 : decode cX2_isOnLongest 40 = .ok (.aaload, 1) := by decide +kernel
theorem dX2_isOnLongest_41 : decode cX2_isOnLongest 41 = .ok (.iload_n 3, 1) := by decide +kernel
theorem dX2_isOnLongest_42 : decode cX2_isOnLongest 42 = .ok (.iaload, 1) := by decide +kernel
theorem dX2_isOnLongest_43 : decode cX2_isOnLongest 43 = .ok (.aload_n 0, 1) := by decide +kernel
theorem dX2_isOnLongest_44 : decode cX2_isOnLongest 44 = .ok (.getfield 66, 3) := by decide +kernel
theorem dX2_isOnLongest_47 : decode cX2_isOnLongest 47 = .ok (.iload_n 2, 1) := by decide +kernel
theorem dX2_isOnLongest_48 : decode cX2_isOnLongest 48 = .ok (.iaload, 1) := by decide +kernel
theorem dX2_isOnLongest_49 : decode cX2_isOnLongest 49 = .ok (.iload 6, 2) := by decide +kernel
theorem dX2_isOnLongest_51 : decode cX2_isOnLongest 51 = .ok (.iadd, 1) := by decide +kernel
theorem dX2_isOnLongest_52 : decode cX2_isOnLongest 52 = .ok (.if_icmp .ne 7, 3) := by decide +kernel
theorem dX2_isOnLongest_55 : decode cX2_isOnLongest 55 = .ok (.iconst 1, 1) := by decide +kernel
theorem dX2_isOnLongest_56 : decode cX2_isOnLongest 56 = .ok (.goto 4, 3) := by decide +kernel
theorem dX2_isOnLongest_59 : decode cX2_isOnLongest 59 = .ok (.iconst 0, 1) := by decide +kernel
theorem dX2_isOnLongest_60 : decode cX2_isOnLongest 60 = .ok (.ireturn, 1) := by decide +kernel
theorem dX3_init_0 : decode cX3_init 0 = .ok (.aload_n 0, 1) := by decide +kernel
theorem dX3_init_1 : decode cX3_init 1 = .ok (.invokespecial 3, 3) := by decide +kernel
theorem dX3_init_4 : decode cX3_init 4 = .ok (.aload_n 0, 1) := by decide +kernel
theorem dX3_init_5 : decode cX3_init 5 = .ok (.bipush 10, 2) := by decide +kernel
theorem dX3_init_7 : decode cX3_init 7 = .ok (.newarray .int, 2) := by decide +kernel
theorem dX3_init_9 : decode cX3_init 9 = .ok (.putfield 9, 3) := by decide +kernel
theorem dX3_init_12 : decode cX3_init 12 = .ok (.aload_n 0, 1) := by decide +kernel
theorem dX3_init_13 : decode cX3_init 13 = .ok (.bipush 10, 2) := by decide +kernel
theorem dX3_init_15 : decode cX3_init 15 = .ok (.newarray .int, 2) := by decide +kernel
theorem dX3_init_17 : decode cX3_init 17 = .ok (.putfield 15, 3) := by decide +kernel
theorem dX3_init_20 : decode cX3_init 20 = .ok (.return_, 1) := by decide +kernel
theorem dX3_add_0 : decode cX3_add 0 = .ok (.aload_n 0, 1) := by decide +kernel
theorem dX3_add_1 : decode cX3_add 1 = .ok (.getfield 18, 3) := by decide +kernel
theorem dX3_add_4 : decode cX3_add 4 = .ok (.bipush 10, 2) := by decide +kernel
theorem dX3_add_6 : decode cX3_add 6 = .ok (.if_icmp .ge 33, 3) := by decide +kernel
theorem dX3_add_9 : decode cX3_add 9 = .ok (.aload_n 0, 1) := by decide +kernel
theorem dX3_add_10 : decode cX3_add 10 = .ok (.getfield 9, 3) := by decide +kernel
theorem dX3_add_13 : decode cX3_add 13 = .ok (.aload_n 0, 1) := by decide +kernel
theorem dX3_add_14 : decode cX3_add 14 = .ok (.getfield 18, 3) := by decide +kernel
theorem dX3_add_17 : decode cX3_add 17 = .ok (.iload_n 1, 1) := by decide +kernel
theorem dX3_add_18 : decode cX3_add 18 = .ok (.iastore, 1) := by decide +kernel
theorem dX3_add_19 : decode cX3_add 19 = .ok (.aload_n 0, 1) := by decide +kernel
theorem dX3_add_20 : decode cX3_add 20 = .ok (.getfield 15, 3) := by decide +kernel
theorem dX3_add_23 : decode cX3_add 23 = .ok (.aload_n 0, 1) := by decide +kernel
theorem dX3_add_24 : decode cX3_add 24 = .ok (.getfield 18, 3) := by decide +kernel
theorem dX3_add_27 : decode cX3_add 27 = .ok (.iload_n 2, 1) := by decide +kernel
theorem dX3_add_28 : decode cX3_add 28 = .ok (.iastore, 1) := by decide +kernel
theorem dX3_add_29 : decode cX3_add 29 = .ok (.aload_n 0, 1) := by decide +kernel
theorem dX3_add_30 : decode cX3_add 30 = .ok (.dup, 1) := by decide +kernel
theorem dX3_add_31 : decode cX3_add 31 = .ok (.getfield 18, 3) := by decide +kernel
theorem dX3_add_34 : decode cX3_add 34 = .ok (.iconst 1, 1) := by decide +kernel
theorem dX3_add_35 : decode cX3_add 35 = .ok (.iadd, 1) := by decide +kernel
theorem dX3_add_36 : decode cX3_add 36 = .ok (.putfield 18, 3) := by decide +kernel
theorem dX3_add_39 : decode cX3_add 39 = .ok (.return_, 1) := by decide +kernel
theorem dX3_isShort_0 : decode cX3_isShort 0 = .ok (.iconst 0, 1) := by decide +kernel
theorem dX3_isShort_1 : decode cX3_isShort 1 = .ok (.istore_n 3, 1) := by decide +kernel
theorem dX3_isShort_2 : decode cX3_isShort 2 = .ok (.iload_n 3, 1) := by decide +kernel
theorem dX3_isShort_3 : decode cX3_isShort 3 = .ok (.aload_n 0, 1) := by decide +kernel
theorem dX3_isShort_4 : decode cX3_isShort 4 = .ok (.getfield 18, 3) := by decide +kernel
theorem dX3_isShort_7 : decode cX3_isShort 7 = .ok (.if_icmp .ge 26, 3) := by decide +kernel
theorem dX3_isShort_10 : decode cX3_isShort 10 = .ok (.iload_n 3, 1) := by decide +kernel
theorem dX3_isShort_11 : decode cX3_isShort 11 = .ok (.iload_n 1, 1) := by decide +kernel
theorem dX3_isShort_12 : decode cX3_isShort 12 = .ok (.if_icmp .eq 15, 3) := by decide +kernel
theorem dX3_isShort_15 : decode cX3_isShort 15 = .ok (.aload_n 0, 1) := by decide +kernel
theorem dX3_isShort_16 : decode cX3_isShort 16 = .ok (.iload_n 1, 1) := by decide +kernel
theorem dX3_isShort_17 : decode cX3_isShort 17 = .ok (.iload_n 3, 1) := by decide +kernel
theorem dX3_isShort_18 : decode cX3_isShort 18 = .ok (.aload_n 2, 1) := by decide +kernel
theorem dX3_isShort_19 : decode cX3_isShort 19 = .ok (.invokevirtual 22, 3) := by decide +kernel
theorem dX3_isShort_22 : decode cX3_isShort 22 = .ok (.ifCond .eq 5, 3) := by decide +kernel
theorem dX3_isShort_25 : decode cX3_isShort 25 = .ok (.iconst 0, 1) := by decide +kernel
theorem dX3_isShort_26 : decode cX3_isShort 26 = .ok (.ireturn, 1) := by decide +kernel
theorem dX3_isShort_27 : decode cX3_isShort 27 = .ok (.iinc 3 1, 3) := by decide +kernel
theorem dX3_isShort_30 : decode cX3_isShort 30 = .ok (.goto (-28), 3) := by decide +kernel
theorem dX3_isShort_33 : decode cX3_isShort 33 = .ok (.iconst 1, 1) := by decide +kernel
theorem dX3_isShort_34 : decode cX3_isShort 34 = .ok (.ireturn, 1) := by decide +kernel
theorem dX3_isCovered_0 : decode cX3_isCovered 0 = .ok (.aload_n 0, 1) := by decide +kernel
theorem dX3_isCovered_1 : decode cX3_isCovered 1 = .ok (.iload_n 1, 1) := by decide +kernel
theorem dX3_isCovered_2 : decode cX3_isCovered 2 = .ok (.iload_n 2, 1) := by decide +kernel
theorem dX3_isCovered_3 : decode cX3_isCovered 3 = .ok (.aload_n 3, 1) := by decide +kernel
theorem dX3_isCovered_4 : decode cX3_isCovered 4 = .ok (.invokevirtual 26, 3) := by decide +kernel
theorem dX3_isCovered_7 : decode cX3_isCovered 7 = .ok (.ifCond .eq 22, 3) := by decide +kernel
theorem dX3_isCovered_10 : decode cX3_isCovered 10 = .ok (.iload_n 2, 1) := by decide +kernel
theorem dX3_isCovered_11 : decode cX3_isCovered 11 = .ok (.iload_n 1, 1) := by decide +kernel
theorem dX3_isCovered_12 : decode cX3_isCovered 12 = .ok (.if_icmp .lt 13, 3) := by decide +kernel
theorem dX3_isCovered_15 : decode cX3_isCovered 15 = .ok (.aload_n 0, 1) := by decide +kernel
theorem dX3_isCovered_16 : decode cX3_isCovered 16 = .ok (.iload_n 2, 1) := by decide +kernel
theorem dX3_isCovered_17 : decode cX3_isCovered 17 = .ok (.iload_n 1, 1) := by decide +kernel
theorem dX3_isCovered_18 : decode cX3_isCovered 18 = .ok (.aload_n 3, 1) := by decide +kernel
theorem dX3_isCovered_19 : decode cX3_isCovered 19 = .ok (.invokevirtual 26, 3) := by decide +kernel
theorem dX3_isCovered_22 : decode cX3_isCovered 22 = .ok (.ifCond .ne 7, 3) := by decide +kernel
theorem dX3_isCovered_25 : decode cX3_isCovered 25 = .ok (.iconst 1, 1) := by decide +kernel
theorem dX3_isCovered_26 : decode cX3_isCovered 26 = .ok (.goto 4, 3) := by decide +kernel
theorem dX3_isCovered_29 : decode cX3_isCovered 29 = .ok (.iconst 0, 1) := by decide +kernel
theorem dX3_isCovered_30 : decode cX3_isCovered 30 = .ok (.ireturn, 1) := by decide +kernel
theorem dX3_isNoMore_0 : decode cX3_isNoMore 0 = .ok (.aload_n 3, 1) := by decide +kernel
theorem dX3_isNoMore_1 : decode cX3_isNoMore 1 = .ok (.aload_n 0, 1) := by decide +kernel
theorem dX3_isNoMore_2 : decode cX3_isNoMore 2 = .ok (.getfield 9, 3) := by decide +kernel
theorem dX3_isNoMore_5 : decode cX3_isNoMore 5 = .ok (.iload_n 1, 1) := by decide +kernel
theorem dX3_isNoMore_6 : decode cX3_isNoMore 6 = .ok (.iaload, 1) := by decide +kernel
theorem dX3_isNoMore_7 : decode cX3_isNoMore 7 = .ok (.aload_n 0, 1) := by decide +kernel
theorem dX3_isNoMore_8 : decode cX3_isNoMore 8 = .ok (.getfield 15, 3) := by decide +kernel
theorem dX3_isNoMore_11 : decode cX3_isNoMore 11 = .ok (.iload_n 1, 1) := by decide +kernel
theorem dX3_isNoMore_12 : decode cX3_isNoMore 12 = .ok (.iaload, 1) := by decide +kernel
theorem dX3_isNoMore_13 : decode cX3_isNoMore 13 = .ok (.aload_n 0, 1) := by decide +kernel
theorem dX3_isNoMore_14 : decode cX3_isNoMore 14 = .ok (.getfield 15, 3) := by decide +kernel
theorem dX3_isNoMore_17 : decode cX3_isNoMore 17 = .ok (.iload_n 2, 1) := by decide +kernel
theorem dX3_isNoMore_18 : decode cX3_isNoMore 18 = .ok (.iaload, 1) := by decide +kernel
theorem dX3_isNoMore_19 : decode cX3_isNoMore 19 = .ok (.isub, 1) := by decide +kernel
theorem dX3_isNoMore_20 : decode cX3_isNoMore 20 = .ok (.aload_n 0, 1) := by decide +kernel
theorem dX3_isNoMore_21 : decode cX3_isNoMore 21 = .ok (.getfield 9, 3) := by decide +kernel
theorem dX3_isNoMore_24 : decode cX3_isNoMore 24 = .ok (.iload_n 2, 1) := by decide +kernel
theorem dX3_isNoMore_25 : decode cX3_isNoMore 25 = .ok (.iaload, 1) := by decide +kernel
theorem dX3_isNoMore_26 : decode cX3_isNoMore 26 = .ok (.invokevirtual 29, 3) := by decide +kernel
theorem dX3_isNoMore_29 : decode cX3_isNoMore 29 = .ok (.ireturn, 1) := by decide +kernel
theorem dX4_init_0 : decode cX4_init 0 = .ok (.aload_n 0, 1) := by decide +kernel
theorem dX4_init_1 : decode cX4_init 1 = .ok (.invokespecial 3, 3) := by decide +kernel
theorem dX4_init_4 : decode cX4_init 4 = .ok (.aload_n 0, 1) := by decide +kernel
theorem dX4_init_5 : decode cX4_init 5 = .ok (.bipush 10, 2) := by decide +kernel
theorem dX4_init_7 : decode cX4_init 7 = .ok (.newarray .int, 2) := by decide +kernel
theorem dX4_init_9 : decode cX4_init 9 = .ok (.putfield 9, 3) := by decide +kernel
theorem dX4_init_12 : decode cX4_init 12 = .ok (.aload_n 0, 1) := by decide +kernel
theorem dX4_init_13 : decode cX4_init 13 = .ok (.bipush 16, 2) := by decide +kernel
theorem dX4_init_15 : decode cX4_init 15 = .ok (.newarray .int, 2) := by decide +kernel
theorem dX4_init_17 : decode cX4_init 17 = .ok (.putfield 15, 3) := by decide +kernel
theorem dX4_init_20 : decode cX4_init 20 = .ok (.aload_n 0, 1) := by decide +kernel
theorem dX4_init_21 : decode cX4_init 21 = .ok (.bipush 16, 2) := by decide +kernel
theorem dX4_init_23 : decode cX4_init 23 = .ok (.newarray .int, 2) := by decide +kernel
theorem dX4_init_25 : decode cX4_init 25 = .ok (.putfield 18, 3) := by decide +kernel
theorem dX4_init_28 : decode cX4_init 28 = .ok (.aload_n 0, 1) := by decide +kernel
theorem dX4_init_29 : decode cX4_init 29 = .ok (.bipush 16, 2) := by decide +kernel
theorem dX4_init_31 : decode cX4_init 31 = .ok (.newarray .int, 2) := by decide +kernel
theorem dX4_init_33 : decode cX4_init 33 = .ok (.putfield 21, 3) := by decide +kernel
theorem dX4_init_36 : decode cX4_init 36 = .ok (.return_, 1) := by decide +kernel
theorem dX4_copy_0 : decode cX4_copy 0 = .ok (.aload_n 1, 1) := by decide +kernel
theorem dX4_copy_1 : decode cX4_copy 1 = .ok (.getfield 9, 3) := by decide +kernel
theorem dX4_copy_4 : decode cX4_copy 4 = .ok (.iconst 0, 1) := by decide +kernel
theorem dX4_copy_5 : decode cX4_copy 5 = .ok (.aload_n 0, 1) := by decide +kernel
theorem dX4_copy_6 : decode cX4_copy 6 = .ok (.getfield 9, 3) := by decide +kernel
theorem dX4_copy_9 : decode cX4_copy 9 = .ok (.iconst 0, 1) := by decide +kernel
theorem dX4_copy_10 : decode cX4_copy 10 = .ok (.bipush 10, 2) := by decide +kernel
theorem dX4_copy_12 : decode cX4_copy 12 = .ok (.invokestatic 24, 3) := by decide +kernel
theorem dX4_copy_15 : decode cX4_copy 15 = .ok (.aload_n 1, 1) := by decide +kernel
theorem dX4_copy_16 : decode cX4_copy 16 = .ok (.getfield 15, 3) := by decide +kernel
theorem dX4_copy_19 : decode cX4_copy 19 = .ok (.iconst 0, 1) := by decide +kernel
theorem dX4_copy_20 : decode cX4_copy 20 = .ok (.aload_n 0, 1) := by decide +kernel
theorem dX4_copy_21 : decode cX4_copy 21 = .ok (.getfield 15, 3) := by decide +kernel
theorem dX4_copy_24 : decode cX4_copy 24 = .ok (.iconst 0, 1) := by decide +kernel
theorem dX4_copy_25 : decode cX4_copy 25 = .ok (.bipush 16, 2) := by decide +kernel
theorem dX4_copy_27 : decode cX4_copy 27 = .ok (.invokestatic 24, 3) := by decide +kernel
theorem dX4_copy_30 : decode cX4_copy 30 = .ok (.aload_n 1, 1) := by decide +kernel
theorem dX4_copy_31 : decode cX4_copy 31 = .ok (.getfield 18, 3) := by decide +kernel
theorem dX4_copy_34 : decode cX4_copy 34 = .ok (.iconst 0, 1) := by decide +kernel
theorem dX4_copy_35 : decode cX4_copy 35 = .ok (.aload_n 0, 1) := by decide +kernel
theorem dX4_copy_36 : decode cX4_copy 36 = .ok (.getfield 18, 3) := by decide +kernel
theorem dX4_copy_39 : decode cX4_copy 39 = .ok (.iconst 0, 1) := by decide +kernel
theorem dX4_copy_40 : decode cX4_copy 40 = .ok (.bipush 16, 2) := by decide +kernel
theorem dX4_copy_42 : decode cX4_copy 42 = .ok (.invokestatic 24, 3) := by decide +kernel
theorem dX4_copy_45 : decode cX4_copy 45 = .ok (.aload_n 1, 1) := by decide +kernel
theorem dX4_copy_46 : decode cX4_copy 46 = .ok (.getfield 21, 3) := by decide +kernel
theorem dX4_copy_49 : decode cX4_copy 49 = .ok (.iconst 0, 1) := by decide +kernel
theorem dX4_copy_50 : decode cX4_copy 50 = .ok (.aload_n 0, 1) := by decide +kernel
theorem dX4_copy_51 : decode cX4_copy 51 = .ok (.getfield 21, 3) := by decide +kernel
theorem dX4_copy_54 : decode cX4_copy 54 = .ok (.iconst 0, 1) := by decide +kernel
theorem dX4_copy_55 : decode cX4_copy 55 = .ok (.bipush 16, 2) := by decide +kernel
theorem dX4_copy_57 : decode cX4_copy 57 = .ok (.invokestatic 24, 3) := by decide +kernel
theorem dX4_copy_60 : decode cX4_copy 60 = .ok (.aload_n 0, 1) := by decide +kernel
theorem dX4_copy_61 : decode cX4_copy 61 = .ok (.aload_n 1, 1) := by decide +kernel
theorem dX4_copy_62 : decode cX4_copy 62 = .ok (.getfield 30, 3) := by decide +kernel
theorem dX4_copy_65 : decode cX4_copy 65 = .ok (.putfield 30, 3) := by decide +kernel
theorem dX4_copy_68 : decode cX4_copy 68 = .ok (.aload_n 0, 1) := by decide +kernel
theorem dX4_copy_69 : decode cX4_copy 69 = .ok (.aload_n 1, 1) := by decide +kernel
theorem dX4_copy_70 : decode cX4_copy 70 = .ok (.getfield 34, 3) := by decide +kernel
theorem dX4_copy_73 : decode cX4_copy 73 = .ok (.putfield 34, 3) := by decide +kernel
theorem dX4_copy_76 : decode cX4_copy 76 = .ok (.return_, 1) := by decide +kernel
theorem dX4_addLevel_0 : decode cX4_addLevel 0 = .ok (.aload_n 0, 1) := by decide +kernel
theorem dX4_addLevel_1 : decode cX4_addLevel 1 = .ok (.getfield 30, 3) := by decide +kernel
theorem dX4_addLevel_4 : decode cX4_addLevel 4 = .ok (.bipush 10, 2) := by decide +kernel
theorem dX4_addLevel_6 : decode cX4_addLevel 6 = .ok (.if_icmp .ge 23, 3) := by decide +kernel
theorem dX4_addLevel_9 : decode cX4_addLevel 9 = .ok (.aload_n 0, 1) := by decide +kernel
theorem dX4_addLevel_10 : decode cX4_addLevel 10 = .ok (.getfield 9, 3) := by decide +kernel
theorem dX4_addLevel_13 : decode cX4_addLevel 13 = .ok (.aload_n 0, 1) := by decide +kernel
theorem dX4_addLevel_14 : decode cX4_addLevel 14 = .ok (.getfield 30, 3) := by decide +kernel
theorem dX4_addLevel_17 : decode cX4_addLevel 17 = .ok (.iload_n 1, 1) := by decide +kernel
theorem dX4_addLevel_18 : decode cX4_addLevel 18 = .ok (.iastore, 1) := by decide +kernel
theorem dX4_addLevel_19 : decode cX4_addLevel 19 = .ok (.aload_n 0, 1) := by decide +kernel
theorem dX4_addLevel_20 : decode cX4_addLevel 20 = .ok (.dup, 1) := by decide +kernel
theorem dX4_addLevel_21 : decode cX4_addLevel 21 = .ok (.getfield 30, 3) := by decide +kernel
theorem dX4_addLevel_24 : decode cX4_addLevel 24 = .ok (.iconst 1, 1) := by decide +kernel
theorem dX4_addLevel_25 : decode cX4_addLevel 25 = .ok (.iadd, 1) := by decide +kernel
theorem dX4_addLevel_26 : decode cX4_addLevel 26 = .ok (.putfield 30, 3) := by decide +kernel
theorem dX4_addLevel_29 : decode cX4_addLevel 29 = .ok (.return_, 1) := by decide +kernel
theorem dX4_isFloating_0 : decode cX4_isFloating 0 = .ok (.aload_n 0, 1) := by decide +kernel
theorem dX4_isFloating_1 : decode cX4_isFloating 1 = .ok (.getfield 9, 3) := by decide +kernel
theorem dX4_isFloating_4 : decode cX4_isFloating 4 = .ok (.iload_n 1, 1) := by decide +kernel
theorem dX4_isFloating_5 : decode cX4_isFloating 5 = .ok (.iaload, 1) := by decide +kernel
theorem dX4_isFloating_6 : decode cX4_isFloating 6 = .ok (.iconst 1, 1) := by decide +kernel
theorem dX4_isFloating_7 : decode cX4_isFloating 7 = .ok (.if_icmp .eq 13, 3) := by decide +kernel
theorem dX4_isFloating_10 : decode cX4_isFloating 10 = .ok (.aload_n 0, 1) := by decide +kernel
theorem dX4_isFloating_11 : decode cX4_isFloating 11 = .ok (.getfield 9, 3) := by decide +kernel
theorem dX4_isFloating_14 : decode cX4_isFloating 14 = .ok (.iload_n 1, 1) := by decide +kernel
theorem dX4_isFloating_15 : decode cX4_isFloating 15 = .ok (.iaload, 1) := by decide +kernel
theorem dX4_isFloating_16 : decode cX4_isFloating 16 = .ok (.iconst 3, 1) := by decide +kernel
theorem dX4_isFloating_17 : decode cX4_isFloating 17 = .ok (.if_icmp .ne 7, 3) := by decide +kernel
theorem dX4_isFloating_20 : decode cX4_isFloating 20 = .ok (.iconst 1, 1) := by decide +kernel
theorem dX4_isFloating_21 : decode cX4_isFloating 21 = .ok (.goto 4, 3) := by decide +kernel
theorem dX4_isFloating_24 : decode cX4_isFloating 24 = .ok (.iconst 0, 1) := by decide +kernel
theorem dX4_isFloating_25 : decode cX4_isFloating 25 = .ok (.ireturn, 1) := by decide +kernel
theorem dX4_weightTowards_0 : decode cX4_weightTowards 0 = .ok (.aload_n 0, 1) := by decide +kernel
theorem dX4_weightTowards_1 : decode cX4_weightTowards 1 = .ok (.getfield 9, 3) := by decide +kernel
theorem dX4_weightTowards_4 : decode cX4_weightTowards 4 = .ok (.iload_n 1, 1) := by decide +kernel
theorem dX4_weightTowards_5 : decode cX4_weightTowards 5 = .ok (.iaload, 1) := by decide +kernel
theorem dX4_weightTowards_6 : decode cX4_weightTowards 6 = .ok (.lookupswitch 34 #[(2, 26), (3, 30)], 26) := by decide +kernel
theorem dX4_weightTowards_32 : decode cX4_weightTowards 32 = .ok (.iload_n 2, 1) := by decide +kernel
theorem dX4_weightTowards_33 : decode cX4_weightTowards 33 = .ok (.iconst 1, 1) := by decide +kernel
theorem dX4_weightTowards_34 : decode cX4_weightTowards 34 = .ok (.iadd, 1) := by decide +kernel
theorem dX4_weightTowards_35 : decode cX4_weightTowards 35 = .ok (.ireturn, 1) := by decide +kernel
theorem dX4_weightTowards_36 : decode cX4_weightTowards 36 = .ok (.iload_n 2, 1) := by decide +kernel
theorem dX4_weightTowards_37 : decode cX4_weightTowards 37 = .ok (.iconst 1, 1) := by decide +kernel
theorem dX4_weightTowards_38 : decode cX4_weightTowards 38 = .ok (.isub, 1) := by decide +kernel
theorem dX4_weightTowards_39 : decode cX4_weightTowards 39 = .ok (.ireturn, 1) := by decide +kernel
theorem dX4_weightTowards_40 : decode cX4_weightTowards 40 = .ok (.iload_n 2, 1) := by decide +kernel
theorem dX4_weightTowards_41 : decode cX4_weightTowards 41 = .ok (.ireturn, 1) := by decide +kernel
theorem dX4_take_0 : decode cX4_take 0 = .ok (.aload_n 0, 1) := by decide +kernel
theorem dX4_take_1 : decode cX4_take 1 = .ok (.getfield 34, 3) := by decide +kernel
theorem dX4_take_4 : decode cX4_take 4 = .ok (.bipush 16, 2) := by decide +kernel
theorem dX4_take_6 : decode cX4_take 6 = .ok (.if_icmp .ge 43, 3) := by decide +kernel
theorem dX4_take_9 : decode cX4_take 9 = .ok (.aload_n 0, 1) := by decide +kernel
theorem dX4_take_10 : decode cX4_take 10 = .ok (.getfield 15, 3) := by decide +kernel
theorem dX4_take_13 : decode cX4_take 13 = .ok (.aload_n 0, 1) := by decide +kernel
theorem dX4_take_14 : decode cX4_take 14 = .ok (.getfield 34, 3) := by decide +kernel
theorem dX4_take_17 : decode cX4_take 17 = .ok (.iload_n 1, 1) := by decide +kernel
theorem dX4_take_18 : decode cX4_take 18 = .ok (.iastore, 1) := by decide +kernel
theorem dX4_take_19 : decode cX4_take 19 = .ok (.aload_n 0, 1) := by decide +kernel
theorem dX4_take_20 : decode cX4_take 20 = .ok (.getfield 18, 3) := by decide +kernel
theorem dX4_take_23 : decode cX4_take 23 = .ok (.aload_n 0, 1) := by decide +kernel
theorem dX4_take_24 : decode cX4_take 24 = .ok (.getfield 34, 3) := by decide +kernel
theorem dX4_take_27 : decode cX4_take 27 = .ok (.iload_n 3, 1) := by decide +kernel
theorem dX4_take_28 : decode cX4_take 28 = .ok (.iastore, 1) := by decide +kernel
theorem dX4_take_29 : decode cX4_take 29 = .ok (.aload_n 0, 1) := by decide +kernel
theorem dX4_take_30 : decode cX4_take 30 = .ok (.getfield 21, 3) := by decide +kernel
theorem dX4_take_33 : decode cX4_take 33 = .ok (.aload_n 0, 1) := by decide +kernel
theorem dX4_take_34 : decode cX4_take 34 = .ok (.getfield 34, 3) := by decide +kernel
theorem dX4_take_37 : decode cX4_take 37 = .ok (.iload_n 2, 1) := by decide +kernel
theorem dX4_take_38 : decode cX4_take 38 = .ok (.iastore, 1) := by decide +kernel
theorem dX4_take_39 : decode cX4_take 39 = .ok (.aload_n 0, 1) := by decide +kernel
theorem dX4_take_40 : decode cX4_take 40 = .ok (.dup, 1) := by decide +kernel
theorem dX4_take_41 : decode cX4_take 41 = .ok (.getfield 34, 3) := by decide +kernel
theorem dX4_take_44 : decode cX4_take 44 = .ok (.iconst 1, 1) := by decide +kernel
theorem dX4_take_45 : decode cX4_take 45 = .ok (.iadd, 1) := by decide +kernel
theorem dX4_take_46 : decode cX4_take 46 = .ok (.putfield 34, 3) := by decide +kernel
theorem dX4_take_49 : decode cX4_take 49 = .ok (.return_, 1) := by decide +kernel
theorem dX4_takeBack_0 : decode cX4_takeBack 0 = .ok (.iload_n 1, 1) := by decide +kernel
theorem dX4_takeBack_1 : decode cX4_takeBack 1 = .ok (.iconst 1, 1) := by decide +kernel
theorem dX4_takeBack_2 : decode cX4_takeBack 2 = .ok (.iadd, 1) := by decide +kernel
theorem dX4_takeBack_3 : decode cX4_takeBack 3 = .ok (.istore_n 2, 1) := by decide +kernel
theorem dX4_takeBack_4 : decode cX4_takeBack 4 = .ok (.iload_n 2, 1) := by decide +kernel
theorem dX4_takeBack_5 : decode cX4_takeBack 5 = .ok (.aload_n 0, 1) := by decide +kernel
theorem dX4_takeBack_6 : decode cX4_takeBack 6 = .ok (.getfield 34, 3) := by decide +kernel
theorem dX4_takeBack_9 : decode cX4_takeBack 9 = .ok (.if_icmp .ge 51, 3) := by decide +kernel
theorem dX4_takeBack_12 : decode cX4_takeBack 12 = .ok (.aload_n 0, 1) := by decide +kernel
theorem dX4_takeBack_13 : decode cX4_takeBack 13 = .ok (.getfield 15, 3) := by decide +kernel
theorem dX4_takeBack_16 : decode cX4_takeBack 16 = .ok (.iload_n 2, 1) := by decide +kernel
theorem dX4_takeBack_17 : decode cX4_takeBack 17 = .ok (.iconst 1, 1) := by decide +kernel
theorem dX4_takeBack_18 : decode cX4_takeBack 18 = .ok (.isub, 1) := by decide +kernel
theorem dX4_takeBack_19 : decode cX4_takeBack 19 = .ok (.aload_n 0, 1) := by decide +kernel
theorem dX4_takeBack_20 : decode cX4_takeBack 20 = .ok (.getfield 15, 3) := by decide +kernel
theorem dX4_takeBack_23 : decode cX4_takeBack 23 = .ok (.iload_n 2, 1) := by decide +kernel
theorem dX4_takeBack_24 : decode cX4_takeBack 24 = .ok (.iaload, 1) := by decide +kernel
theorem dX4_takeBack_25 : decode cX4_takeBack 25 = .ok (.iastore, 1) := by decide +kernel
theorem dX4_takeBack_26 : decode cX4_takeBack 26 = .ok (.aload_n 0, 1) := by decide +kernel
theorem dX4_takeBack_27 : decode cX4_takeBack 27 = .ok (.getfield 18, 3) := by decide +kernel
theorem dX4_takeBack_30 : decode cX4_takeBack 30 = .ok (.iload_n 2, 1) := by decide +kernel
theorem dX4_takeBack_31 : decode cX4_takeBack 31 = .ok (.iconst 1, 1) := by decide +kernel
theorem dX4_takeBack_32 : decode cX4_takeBack 32 = .ok (.isub, 1) := by decide +kernel
theorem dX4_takeBack_33 : decode cX4_takeBack 33 = .ok (.aload_n 0, 1) := by decide +kernel
theorem dX4_takeBack_34 : decode cX4_takeBack 34 = .ok (.getfield 18, 3) := by decide +kernel
theorem dX4_takeBack_37 : decode cX4_takeBack 37 = .ok (.iload_n 2, 1) := by decide +kernel
theorem dX4_takeBack_38 : decode cX4_takeBack 38 = .ok (.iaload, 1) := by decide +kernel
theorem dX4_takeBack_39 : decode cX4_takeBack 39 = .ok (.iastore, 1) := by decide +kernel
theorem dX4_takeBack_40 : decode cX4_takeBack 40 = .ok (.aload_n 0, 1) := by decide +kernel
theorem dX4_takeBack_41 : decode cX4_takeBack 41 = .ok (.getfield 21, 3) := by decide +kernel
theorem dX4_takeBack_44 : decode cX4_takeBack 44 = .ok (.iload_n 2, 1) := by decide +kernel
theorem dX4_takeBack_45 : decode cX4_takeBack 45 = .ok (.iconst 1, 1) := by decide +kernel
theorem dX4_takeBack_46 : decode cX4_takeBack 46 = .ok (.isub, 1) := by decide +kernel
theorem dX4_takeBack_47 : decode cX4_takeBack 47 = .ok (.aload_n 0, 1) := by decide +kernel
theorem dX4_takeBack_48 : decode cX4_takeBack 48 = .ok (.getfield 21, 3) := by decide +kernel
theorem dX4_takeBack_51 : decode cX4_takeBack 51 = .ok (.iload_n 2, 1) := by decide +kernel
theorem dX4_takeBack_52 : decode cX4_takeBack 52 = .ok (.iaload, 1) := by decide +kernel
theorem dX4_takeBack_53 : decode cX4_takeBack 53 = .ok (.iastore, 1) := by decide +kernel
theorem dX4_takeBack_54 : decode cX4_takeBack 54 = .ok (.iinc 2 1, 3) := by decide +kernel
theorem dX4_takeBack_57 : decode cX4_takeBack 57 = .ok (.goto (-53), 3) := by decide +kernel
theorem dX4_takeBack_60 : decode cX4_takeBack 60 = .ok (.aload_n 0, 1) := by decide +kernel
theorem dX4_takeBack_61 : decode cX4_takeBack 61 = .ok (.dup, 1) := by decide +kernel
theorem dX4_takeBack_62 : decode cX4_takeBack 62 = .ok (.getfield 34, 3) := by decide +kernel
theorem dX4_takeBack_65 : decode cX4_takeBack 65 = .ok (.iconst 1, 1) := by decide +kernel
theorem dX4_takeBack_66 : decode cX4_takeBack 66 = .ok (.isub, 1) := by decide +kernel
theorem dX4_takeBack_67 : decode cX4_takeBack 67 = .ok (.putfield 34, 3) := by decide +kernel
theorem dX4_takeBack_70 : decode cX4_takeBack 70 = .ok (.return_, 1) := by decide +kernel
theorem dX4_lengthsFrom_0 : decode cX4_lengthsFrom 0 = .ok (.aload_n 3, 1) := by decide +kernel
theorem dX4_lengthsFrom_1 : decode cX4_lengthsFrom 1 = .ok (.ldc 37, 2) := by decide +kernel
theorem dX4_lengthsFrom_3 : decode cX4_lengthsFrom 3 = .ok (.invokestatic 38, 3) := by decide +kernel
theorem dX4_lengthsFrom_6 : decode cX4_lengthsFrom 6 = .ok (.aload_n 3, 1) := by decide +kernel
theorem dX4_lengthsFrom_7 : decode cX4_lengthsFrom 7 = .ok (.iload_n 1, 1) := by decide +kernel
theorem dX4_lengthsFrom_8 : decode cX4_lengthsFrom 8 = .ok (.iconst 0, 1) := by decide +kernel
theorem dX4_lengthsFrom_9 : decode cX4_lengthsFrom 9 = .ok (.iastore, 1) := by decide +kernel
theorem dX4_lengthsFrom_10 : decode cX4_lengthsFrom 10 = .ok (.iconst 1, 1) := by decide +kernel
theorem dX4_lengthsFrom_11 : decode cX4_lengthsFrom 11 = .ok (.istore 4, 2) := by decide +kernel
theorem dX4_lengthsFrom_13 : decode cX4_lengthsFrom 13 = .ok (.iconst 0, 1) := by decide +kernel
theorem dX4_lengthsFrom_14 : decode cX4_lengthsFrom 14 = .ok (.istore 5, 2) := by decide +kernel
theorem dX4_lengthsFrom_16 : decode cX4_lengthsFrom 16 = .ok (.iload 5, 2) := by decide +kernel
theorem dX4_lengthsFrom_18 : decode cX4_lengthsFrom 18 = .ok (.aload_n 0, 1) := by decide +kernel
theorem dX4_lengthsFrom_19 : decode cX4_lengthsFrom 19 = .ok (.getfield 30, 3) := by decide +kernel
theorem dX4_lengthsFrom_22 : decode cX4_lengthsFrom 22 = .ok (.if_icmp .ge 57, 3) := by decide +kernel
theorem dX4_lengthsFrom_25 : decode cX4_lengthsFrom 25 = .ok (.iload 4, 2) := by decide +kernel
theorem dX4_lengthsFrom_27 : decode cX4_lengthsFrom 27 = .ok (.ifCond .eq 52, 3) := by decide +kernel
theorem dX4_lengthsFrom_30 : decode cX4_lengthsFrom 30 = .ok (.iconst 0, 1) := by decide +kernel
theorem dX4_lengthsFrom_31 : decode cX4_lengthsFrom 31 = .ok (.istore 4, 2) := by decide +kernel
theorem dX4_lengthsFrom_33 : decode cX4_lengthsFrom 33 = .ok (.iconst 0, 1) := by decide +kernel
theorem dX4_lengthsFrom_34 : decode cX4_lengthsFrom 34 = .ok (.istore 6, 2) := by decide +kernel
theorem dX4_lengthsFrom_36 : decode cX4_lengthsFrom 36 = .ok (.iload 6, 2) := by decide +kernel
theorem dX4_lengthsFrom_38 : decode cX4_lengthsFrom 38 = .ok (.aload_n 0, 1) := by decide +kernel
theorem dX4_lengthsFrom_39 : decode cX4_lengthsFrom 39 = .ok (.getfield 34, 3) := by decide +kernel
theorem dX4_lengthsFrom_42 : decode cX4_lengthsFrom 42 = .ok (.if_icmp .ge 31, 3) := by decide +kernel
theorem dX4_lengthsFrom_45 : decode cX4_lengthsFrom 45 = .ok (.iload_n 2, 1) := by decide +kernel
theorem dX4_lengthsFrom_46 : decode cX4_lengthsFrom 46 = .ok (.iload 6, 2) := by decide +kernel
theorem dX4_lengthsFrom_48 : decode cX4_lengthsFrom 48 = .ok (.ishr, 1) := by decide +kernel
theorem dX4_lengthsFrom_49 : decode cX4_lengthsFrom 49 = .ok (.iconst 1, 1) := by decide +kernel
theorem dX4_lengthsFrom_50 : decode cX4_lengthsFrom 50 = .ok (.iand, 1) := by decide +kernel
theorem dX4_lengthsFrom_51 : decode cX4_lengthsFrom 51 = .ok (.ifCond .ne 16, 3) := by decide +kernel
theorem dX4_lengthsFrom_54 : decode cX4_lengthsFrom 54 = .ok (.aload_n 0, 1) := by decide +kernel
theorem dX4_lengthsFrom_55 : decode cX4_lengthsFrom 55 = .ok (.iload 6, 2) := by decide +kernel
theorem dX4_lengthsFrom_57 : decode cX4_lengthsFrom 57 = .ok (.aload_n 3, 1) := by decide +kernel
theorem dX4_lengthsFrom_58 : decode cX4_lengthsFrom 58 = .ok (.invokevirtual 44, 3) := by decide +kernel
theorem dX4_lengthsFrom_61 : decode cX4_lengthsFrom 61 = .ok (.ifCond .eq 6, 3) := by decide +kernel
theorem dX4_lengthsFrom_64 : decode cX4_lengthsFrom 64 = .ok (.iconst 1, 1) := by decide +kernel
theorem dX4_lengthsFrom_65 : decode cX4_lengthsFrom 65 = .ok (.istore 4, 2) := by decide +kernel
theorem dX4_lengthsFrom_67 : decode cX4_lengthsFrom 67 = .ok (.iinc 6 1, 3) := by decide +kernel
theorem dX4_lengthsFrom_70 : decode cX4_lengthsFrom 70 = .ok (.goto (-34), 3) := by decide +kernel
theorem dX4_lengthsFrom_73 : decode cX4_lengthsFrom 73 = .ok (.iinc 5 1, 3) := by decide +kernel
theorem dX4_lengthsFrom_76 : decode cX4_lengthsFrom 76 = .ok (.goto (-60), 3) := by decide +kernel
theorem dX4_lengthsFrom_79 : decode cX4_lengthsFrom 79 = .ok (.return_, 1) := by decide +kernel
theorem dX4_lengthen_0 : decode cX4_lengthen 0 = .ok (.aload_n 2, 1) := by decide +kernel
theorem dX4_lengthen_1 : decode cX4_lengthen 1 = .ok (.aload_n 0, 1) := by decide +kernel
theorem dX4_lengthen_2 : decode cX4_lengthen 2 = .ok (.getfield 15, 3) := by decide +kernel
theorem dX4_lengthen_5 : decode cX4_lengthen 5 = .ok (.iload_n 1, 1) := by decide +kernel
theorem dX4_lengthen_6 : decode cX4_lengthen 6 = .ok (.iaload, 1) := by decide +kernel
theorem dX4_lengthen_7 : decode cX4_lengthen 7 = .ok (.iaload, 1) := by decide +kernel
theorem dX4_lengthen_8 : decode cX4_lengthen 8 = .ok (.istore_n 3, 1) := by decide +kernel
theorem dX4_lengthen_9 : decode cX4_lengthen 9 = .ok (.iload_n 3, 1) := by decide +kernel
theorem dX4_lengthen_10 : decode cX4_lengthen 10 = .ok (.ldc 37, 2) := by decide +kernel
theorem dX4_lengthen_12 : decode cX4_lengthen 12 = .ok (.if_icmp .eq 22, 3) := by decide +kernel
theorem dX4_lengthen_15 : decode cX4_lengthen 15 = .ok (.iload_n 3, 1) := by decide +kernel
theorem dX4_lengthen_16 : decode cX4_lengthen 16 = .ok (.aload_n 0, 1) := by decide +kernel
theorem dX4_lengthen_17 : decode cX4_lengthen 17 = .ok (.getfield 21, 3) := by decide +kernel
theorem dX4_lengthen_20 : decode cX4_lengthen 20 = .ok (.iload_n 1, 1) := by decide +kernel
theorem dX4_lengthen_21 : decode cX4_lengthen 21 = .ok (.iaload, 1) := by decide +kernel
theorem dX4_lengthen_22 : decode cX4_lengthen 22 = .ok (.iadd, 1) := by decide +kernel
theorem dX4_lengthen_23 : decode cX4_lengthen 23 = .ok (.aload_n 2, 1) := by decide +kernel
theorem dX4_lengthen_24 : decode cX4_lengthen 24 = .ok (.aload_n 0, 1) := by decide +kernel
theorem dX4_lengthen_25 : decode cX4_lengthen 25 = .ok (.getfield 18, 3) := by decide +kernel
theorem dX4_lengthen_28 : decode cX4_lengthen 28 = .ok (.iload_n 1, 1) := by decide +kernel
theorem dX4_lengthen_29 : decode cX4_lengthen 29 = .ok (.iaload, 1) := by decide +kernel
theorem dX4_lengthen_30 : decode cX4_lengthen 30 = .ok (.iaload, 1) := by decide +kernel
theorem dX4_lengthen_31 : decode cX4_lengthen 31 = .ok (.if_icmp .gt 5, 3) := by decide +kernel
theorem dX4_lengthen_34 : decode cX4_lengthen 34 = .ok (.iconst 0, 1) := by decide +kernel
theorem dX4_lengthen_35 : decode cX4_lengthen 35 = .ok (.ireturn, 1) := by decide +kernel
theorem dX4_lengthen_36 : decode cX4_lengthen 36 = .ok (.aload_n 2, 1) := by decide +kernel
theorem dX4_lengthen_37 : decode cX4_lengthen 37 = .ok (.aload_n 0, 1) := by decide +kernel
theorem dX4_lengthen_38 : decode cX4_lengthen 38 = .ok (.getfield 18, 3) := by decide +kernel
theorem dX4_lengthen_41 : decode cX4_lengthen 41 = .ok (.iload_n 1, 1) := by decide +kernel
theorem dX4_lengthen_42 : decode cX4_lengthen 42 = .ok (.iaload, 1) := by decide +kernel
theorem dX4_lengthen_43 : decode cX4_lengthen 43 = .ok (.iload_n 3, 1) := by decide +kernel
theorem dX4_lengthen_44 : decode cX4_lengthen 44 = .ok (.aload_n 0, 1) := by decide +kernel
theorem dX4_lengthen_45 : decode cX4_lengthen 45 = .ok (.getfield 21, 3) := by decide +kernel
theorem dX4_lengthen_48 : decode cX4_lengthen 48 = .ok (.iload_n 1, 1) := by decide +kernel
theorem dX4_lengthen_49 : decode cX4_lengthen 49 = .ok (.iaload, 1) := by decide +kernel
theorem dX4_lengthen_50 : decode cX4_lengthen 50 = .ok (.iadd, 1) := by decide +kernel
theorem dX4_lengthen_51 : decode cX4_lengthen 51 = .ok (.iastore, 1) := by decide +kernel
theorem dX4_lengthen_52 : decode cX4_lengthen 52 = .ok (.iconst 1, 1) := by decide +kernel
theorem dX4_lengthen_53 : decode cX4_lengthen 53 = .ok (.ireturn, 1) := by decide +kernel
theorem dX5_init_0 : decode cX5_init 0 = .ok (.aload_n 0, 1) := by decide +kernel
theorem dX5_init_1 : decode cX5_init 1 = .ok (.invokespecial 3, 3) := by decide +kernel
theorem dX5_init_4 : decode cX5_init 4 = .ok (.aload_n 0, 1) := by decide +kernel
theorem dX5_init_5 : decode cX5_init 5 = .ok (.sipush 200, 3) := by decide +kernel
theorem dX5_init_8 : decode cX5_init 8 = .ok (.newarray .int, 2) := by decide +kernel
theorem dX5_init_10 : decode cX5_init 10 = .ok (.putfield 9, 3) := by decide +kernel
theorem dX5_init_13 : decode cX5_init 13 = .ok (.aload_n 0, 1) := by decide +kernel
theorem dX5_init_14 : decode cX5_init 14 = .ok (.iconst 3, 1) := by decide +kernel
theorem dX5_init_15 : decode cX5_init 15 = .ok (.newarray .int, 2) := by decide +kernel
theorem dX5_init_17 : decode cX5_init 17 = .ok (.putfield 15, 3) := by decide +kernel
theorem dX5_init_20 : decode cX5_init 20 = .ok (.return_, 1) := by decide +kernel
theorem dX5_append_0 : decode cX5_append 0 = .ok (.aload_n 0, 1) := by decide +kernel
theorem dX5_append_1 : decode cX5_append 1 = .ok (.getfield 18, 3) := by decide +kernel
theorem dX5_append_4 : decode cX5_append 4 = .ok (.sipush 200, 3) := by decide +kernel
theorem dX5_append_7 : decode cX5_append 7 = .ok (.if_icmp .lt 5, 3) := by decide +kernel
theorem dX5_append_10 : decode cX5_append 10 = .ok (.iconst 0, 1) := by decide +kernel
theorem dX5_append_11 : decode cX5_append 11 = .ok (.ireturn, 1) := by decide +kernel
theorem dX5_append_12 : decode cX5_append 12 = .ok (.aload_n 0, 1) := by decide +kernel
theorem dX5_append_13 : decode cX5_append 13 = .ok (.getfield 9, 3) := by decide +kernel
theorem dX5_append_16 : decode cX5_append 16 = .ok (.aload_n 0, 1) := by decide +kernel
theorem dX5_append_17 : decode cX5_append 17 = .ok (.getfield 18, 3) := by decide +kernel
theorem dX5_append_20 : decode cX5_append 20 = .ok (.iload_n 1, 1) := by decide +kernel
theorem dX5_append_21 : decode cX5_append 21 = .ok (.iastore, 1) := by decide +kernel
theorem dX5_append_22 : decode cX5_append 22 = .ok (.aload_n 0, 1) := by decide +kernel
theorem dX5_append_23 : decode cX5_append 23 = .ok (.dup, 1) := by decide +kernel
theorem dX5_append_24 : decode cX5_append 24 = .ok (.getfield 18, 3) := by decide +kernel
theorem dX5_append_27 : decode cX5_append 27 = .ok (.iconst 1, 1) := by decide +kernel
theorem dX5_append_28 : decode cX5_append 28 = .ok (.iadd, 1) := by decide +kernel
theorem dX5_append_29 : decode cX5_append 29 = .ok (.putfield 18, 3) := by decide +kernel
theorem dX5_append_32 : decode cX5_append 32 = .ok (.iconst 1, 1) := by decide +kernel
theorem dX5_append_33 : decode cX5_append 33 = .ok (.ireturn, 1) := by decide +kernel
theorem dX5_letterAt_0 : decode cX5_letterAt 0 = .ok (.iload_n 1, 1) := by decide +kernel
theorem dX5_letterAt_1 : decode cX5_letterAt 1 = .ok (.ifCond .lt 20, 3) := by decide +kernel
theorem dX5_letterAt_4 : decode cX5_letterAt 4 = .ok (.iload_n 1, 1) := by decide +kernel
theorem dX5_letterAt_5 : decode cX5_letterAt 5 = .ok (.aload_n 0, 1) := by decide +kernel
theorem dX5_letterAt_6 : decode cX5_letterAt 6 = .ok (.getfield 18, 3) := by decide +kernel
theorem dX5_letterAt_9 : decode cX5_letterAt 9 = .ok (.if_icmp .ge 12, 3) := by decide +kernel
theorem dX5_letterAt_12 : decode cX5_letterAt 12 = .ok (.aload_n 0, 1) := by decide +kernel
theorem dX5_letterAt_13 : decode cX5_letterAt 13 = .ok (.getfield 9, 3) := by decide +kernel
theorem dX5_letterAt_16 : decode cX5_letterAt 16 = .ok (.iload_n 1, 1) := by decide +kernel
theorem dX5_letterAt_17 : decode cX5_letterAt 17 = .ok (.iaload, 1) := by decide +kernel
theorem dX5_letterAt_18 : decode cX5_letterAt 18 = .ok (.goto 4, 3) := by decide +kernel
theorem dX5_letterAt_21 : decode cX5_letterAt 21 = .ok (.iconst 0, 1) := by decide +kernel
theorem dX5_letterAt_22 : decode cX5_letterAt 22 = .ok (.ireturn, 1) := by decide +kernel
theorem dX5_firstFault_0 : decode cX5_firstFault 0 = .ok (.iconst 0, 1) := by decide +kernel
theorem dX5_firstFault_1 : decode cX5_firstFault 1 = .ok (.istore_n 1, 1) := by decide +kernel
theorem dX5_firstFault_2 : decode cX5_firstFault 2 = .ok (.iconst 0, 1) := by decide +kernel
theorem dX5_firstFault_3 : decode cX5_firstFault 3 = .ok (.istore_n 2, 1) := by decide +kernel
theorem dX5_firstFault_4 : decode cX5_firstFault 4 = .ok (.iconst 0, 1) := by decide +kernel
theorem dX5_firstFault_5 : decode cX5_firstFault 5 = .ok (.istore_n 3, 1) := by decide +kernel
theorem dX5_firstFault_6 : decode cX5_firstFault 6 = .ok (.iload_n 3, 1) := by decide +kernel
theorem dX5_firstFault_7 : decode cX5_firstFault 7 = .ok (.sipush 200, 3) := by decide +kernel
theorem dX5_firstFault_10 : decode cX5_firstFault 10 = .ok (.if_icmp .ge 60, 3) := by decide +kernel
theorem dX5_firstFault_13 : decode cX5_firstFault 13 = .ok (.iload_n 2, 1) := by decide +kernel
theorem dX5_firstFault_14 : decode cX5_firstFault 14 = .ok (.aload_n 0, 1) := by decide +kernel
theorem dX5_firstFault_15 : decode cX5_firstFault 15 = .ok (.getfield 18, 3) := by decide +kernel
theorem dX5_firstFault_18 : decode cX5_firstFault 18 = .ok (.if_icmp .ge 52, 3) := by decide +kernel
theorem dX5_firstFault_21 : decode cX5_firstFault 21 = .ok (.aload_n 0, 1) := by decide +kernel
theorem dX5_firstFault_22 : decode cX5_firstFault 22 = .ok (.iload_n 2, 1) := by decide +kernel
theorem dX5_firstFault_23 : decode cX5_firstFault 23 = .ok (.invokevirtual 22, 3) := by decide +kernel
theorem dX5_firstFault_26 : decode cX5_firstFault 26 = .ok (.istore 4, 2) := by decide +kernel
theorem dX5_firstFault_28 : decode cX5_firstFault 28 = .ok (.iload 4, 2) := by decide +kernel
theorem dX5_firstFault_30 : decode cX5_firstFault 30 = .ok (.ifCond .lt 16, 3) := by decide +kernel
theorem dX5_firstFault_33 : decode cX5_firstFault 33 = .ok (.aload_n 0, 1) := by decide +kernel
theorem dX5_firstFault_34 : decode cX5_firstFault 34 = .ok (.aload_n 0, 1) := by decide +kernel
theorem dX5_firstFault_35 : decode cX5_firstFault 35 = .ok (.iload_n 2, 1) := by decide +kernel
theorem dX5_firstFault_36 : decode cX5_firstFault 36 = .ok (.invokevirtual 26, 3) := by decide +kernel
theorem dX5_firstFault_39 : decode cX5_firstFault 39 = .ok (.iload_n 1, 1) := by decide +kernel
theorem dX5_firstFault_40 : decode cX5_firstFault 40 = .ok (.invokevirtual 29, 3) := by decide +kernel
theorem dX5_firstFault_43 : decode cX5_firstFault 43 = .ok (.ifCond .ne 5, 3) := by decide +kernel
theorem dX5_firstFault_46 : decode cX5_firstFault 46 = .ok (.iload_n 2, 1) := by decide +kernel
theorem dX5_firstFault_47 : decode cX5_firstFault 47 = .ok (.ireturn, 1) := by decide +kernel
theorem dX5_firstFault_48 : decode cX5_firstFault 48 = .ok (.aload_n 0, 1) := by decide +kernel
theorem dX5_firstFault_49 : decode cX5_firstFault 49 = .ok (.iload_n 2, 1) := by decide +kernel
theorem dX5_firstFault_50 : decode cX5_firstFault 50 = .ok (.invokevirtual 26, 3) := by decide +kernel
theorem dX5_firstFault_53 : decode cX5_firstFault 53 = .ok (.bipush 118, 2) := by decide +kernel
theorem dX5_firstFault_55 : decode cX5_firstFault 55 = .ok (.if_icmp .ne 6, 3) := by decide +kernel
theorem dX5_firstFault_58 : decode cX5_firstFault 58 = .ok (.iinc 1 1, 3) := by decide +kernel
theorem dX5_firstFault_61 : decode cX5_firstFault 61 = .ok (.iload 4, 2) := by decide +kernel
theorem dX5_firstFault_63 : decode cX5_firstFault 63 = .ok (.istore_n 2, 1) := by decide +kernel
theorem dX5_firstFault_64 : decode cX5_firstFault 64 = .ok (.iinc 3 1, 3) := by decide +kernel
theorem dX5_firstFault_67 : decode cX5_firstFault 67 = .ok (.goto (-61), 3) := by decide +kernel
theorem dX5_firstFault_70 : decode cX5_firstFault 70 = .ok (.bipush (-4), 2) := by decide +kernel
theorem dX5_firstFault_72 : decode cX5_firstFault 72 = .ok (.ireturn, 1) := by decide +kernel
theorem dX5_isAllowed_0 : decode cX5_isAllowed 0 = .ok (.iload_n 1, 1) := by decide +kernel
theorem dX5_isAllowed_1 : decode cX5_isAllowed 1 = .ok (.bipush 118, 2) := by decide +kernel
theorem dX5_isAllowed_3 : decode cX5_isAllowed 3 = .ok (.if_icmp .ne 25, 3) := by decide +kernel
theorem dX5_isAllowed_6 : decode cX5_isAllowed 6 = .ok (.iload_n 2, 1) := by decide +kernel
theorem dX5_isAllowed_7 : decode cX5_isAllowed 7 = .ok (.bipush 10, 2) := by decide +kernel
theorem dX5_isAllowed_9 : decode cX5_isAllowed 9 = .ok (.if_icmp .ge 17, 3) := by decide +kernel
theorem dX5_isAllowed_12 : decode cX5_isAllowed 12 = .ok (.aload_n 0, 1) := by decide +kernel
theorem dX5_isAllowed_13 : decode cX5_isAllowed 13 = .ok (.getfield 15, 3) := by decide +kernel
theorem dX5_isAllowed_16 : decode cX5_isAllowed 16 = .ok (.iconst 0, 1) := by decide +kernel
theorem dX5_isAllowed_17 : decode cX5_isAllowed 17 = .ok (.iaload, 1) := by decide +kernel
theorem dX5_isAllowed_18 : decode cX5_isAllowed 18 = .ok (.iconst 3, 1) := by decide +kernel
theorem dX5_isAllowed_19 : decode cX5_isAllowed 19 = .ok (.if_icmp .gt 7, 3) := by decide +kernel
theorem dX5_isAllowed_22 : decode cX5_isAllowed 22 = .ok (.iconst 1, 1) := by decide +kernel
theorem dX5_isAllowed_23 : decode cX5_isAllowed 23 = .ok (.goto 4, 3) := by decide +kernel
theorem dX5_isAllowed_26 : decode cX5_isAllowed 26 = .ok (.iconst 0, 1) := by decide +kernel
theorem dX5_isAllowed_27 : decode cX5_isAllowed 27 = .ok (.ireturn, 1) := by decide +kernel
theorem dX5_isAllowed_28 : decode cX5_isAllowed 28 = .ok (.iload_n 1, 1) := by decide +kernel
theorem dX5_isAllowed_29 : decode cX5_isAllowed 29 = .ok (.bipush 99, 2) := by decide +kernel
theorem dX5_isAllowed_31 : decode cX5_isAllowed 31 = .ok (.if_icmp .ne 12, 3) := by decide +kernel
theorem dX5_isAllowed_34 : decode cX5_isAllowed 34 = .ok (.aload_n 0, 1) := by decide +kernel
theorem dX5_isAllowed_35 : decode cX5_isAllowed 35 = .ok (.getfield 15, 3) := by decide +kernel
theorem dX5_isAllowed_38 : decode cX5_isAllowed 38 = .ok (.iconst 2, 1) := by decide +kernel
theorem dX5_isAllowed_39 : decode cX5_isAllowed 39 = .ok (.iaload, 1) := by decide +kernel
theorem dX5_isAllowed_40 : decode cX5_isAllowed 40 = .ok (.goto 9, 3) := by decide +kernel
theorem dX5_isAllowed_43 : decode cX5_isAllowed 43 = .ok (.aload_n 0, 1) := by decide +kernel
theorem dX5_isAllowed_44 : decode cX5_isAllowed 44 = .ok (.getfield 15, 3) := by decide +kernel
theorem dX5_isAllowed_47 : decode cX5_isAllowed 47 = .ok (.iconst 1, 1) := by decide +kernel
theorem dX5_isAllowed_48 : decode cX5_isAllowed 48 = .ok (.iaload, 1) := by decide +kernel
theorem dX5_isAllowed_49 : decode cX5_isAllowed 49 = .ok (.istore_n 3, 1) := by decide +kernel
theorem dX5_isAllowed_50 : decode cX5_isAllowed 50 = .ok (.iload_n 1, 1) := by decide +kernel
theorem dX5_isAllowed_51 : decode cX5_isAllowed 51 = .ok (.bipush 99, 2) := by decide +kernel
theorem dX5_isAllowed_53 : decode cX5_isAllowed 53 = .ok (.if_icmp .ne 12, 3) := by decide +kernel
theorem dX5_isAllowed_56 : decode cX5_isAllowed 56 = .ok (.aload_n 0, 1) := by decide +kernel
theorem dX5_isAllowed_57 : decode cX5_isAllowed 57 = .ok (.getfield 15, 3) := by decide +kernel
theorem dX5_isAllowed_60 : decode cX5_isAllowed 60 = .ok (.iconst 1, 1) := by decide +kernel
theorem dX5_isAllowed_61 : decode cX5_isAllowed 61 = .ok (.iaload, 1) := by decide +kernel
theorem dX5_isAllowed_62 : decode cX5_isAllowed 62 = .ok (.goto 9, 3) := by decide +kernel
theorem dX5_isAllowed_65 : decode cX5_isAllowed 65 = .ok (.aload_n 0, 1) := by decide +kernel
theorem dX5_isAllowed_66 : decode cX5_isAllowed 66 = .ok (.getfield 15, 3) := by decide +kernel
theorem dX5_isAllowed_69 : decode cX5_isAllowed 69 = .ok (.iconst 2, 1) := by decide +kernel
theorem dX5_isAllowed_70 : decode cX5_isAllowed 70 = .ok (.iaload, 1) := by decide +kernel
theorem dX5_isAllowed_71 : decode cX5_isAllowed 71 = .ok (.istore 4, 2) := by decide +kernel
theorem dX5_isAllowed_73 : decode cX5_isAllowed 73 = .ok (.aload_n 0, 1) := by decide +kernel
theorem dX5_isAllowed_74 : decode cX5_isAllowed 74 = .ok (.getfield 15, 3) := by decide +kernel
theorem dX5_isAllowed_77 : decode cX5_isAllowed 77 = .ok (.iconst 0, 1) := by decide +kernel
theorem dX5_isAllowed_78 : decode cX5_isAllowed 78 = .ok (.iaload, 1) := by decide +kernel
theorem dX5_isAllowed_79 : decode cX5_isAllowed 79 = .ok (.iload_n 2, 1) := by decide +kernel
theorem dX5_isAllowed_80 : decode cX5_isAllowed 80 = .ok (.if_icmp .ge 29, 3) := by decide +kernel
theorem dX5_isAllowed_83 : decode cX5_isAllowed 83 = .ok (.iload_n 3, 1) := by decide +kernel
theorem dX5_isAllowed_84 : decode cX5_isAllowed 84 = .ok (.iload_n 2, 1) := by decide +kernel
theorem dX5_isAllowed_85 : decode cX5_isAllowed 85 = .ok (.if_icmp .ge 24, 3) := by decide +kernel
theorem dX5_isAllowed_88 : decode cX5_isAllowed 88 = .ok (.aload_n 0, 1) := by decide +kernel
theorem dX5_isAllowed_89 : decode cX5_isAllowed 89 = .ok (.getfield 15, 3) := by decide +kernel
theorem dX5_isAllowed_92 : decode cX5_isAllowed 92 = .ok (.iconst 0, 1) := by decide +kernel
theorem dX5_isAllowed_93 : decode cX5_isAllowed 93 = .ok (.iaload, 1) := by decide +kernel
theorem dX5_isAllowed_94 : decode cX5_isAllowed 94 = .ok (.iload_n 3, 1) := by decide +kernel
theorem dX5_isAllowed_95 : decode cX5_isAllowed 95 = .ok (.if_icmp .eq 14, 3) := by decide +kernel
theorem dX5_isAllowed_98 : decode cX5_isAllowed 98 = .ok (.iload 4, 2) := by decide +kernel
theorem dX5_isAllowed_100 : decode cX5_isAllowed 100 = .ok (.bipush 9, 2) := by decide +kernel
theorem dX5_isAllowed_102 : decode cX5_isAllowed 102 = .ok (.if_icmp .gt 7, 3) := by decide +kernel
theorem dX5_isAllowed_105 : decode cX5_isAllowed 105 = .ok (.iconst 1, 1) := by decide +kernel
theorem dX5_isAllowed_106 : decode cX5_isAllowed 106 = .ok (.goto 4, 3) := by decide +kernel
theorem dX5_isAllowed_109 : decode cX5_isAllowed 109 = .ok (.iconst 0, 1) := by decide +kernel
theorem dX5_isAllowed_110 : decode cX5_isAllowed 110 = .ok (.ireturn, 1) := by decide +kernel
theorem dX5_readItem_0 : decode cX5_readItem 0 = .ok (.aload_n 0, 1) := by decide +kernel
theorem dX5_readItem_1 : decode cX5_readItem 1 = .ok (.iload_n 1, 1) := by decide +kernel
theorem dX5_readItem_2 : decode cX5_readItem 2 = .ok (.invokevirtual 26, 3) := by decide +kernel
theorem dX5_readItem_5 : decode cX5_readItem 5 = .ok (.invokestatic 33, 3) := by decide +kernel
theorem dX5_readItem_8 : decode cX5_readItem 8 = .ok (.istore_n 2, 1) := by decide +kernel
theorem dX5_readItem_9 : decode cX5_readItem 9 = .ok (.iload_n 1, 1) := by decide +kernel
theorem dX5_readItem_10 : decode cX5_readItem 10 = .ok (.iconst 1, 1) := by decide +kernel
theorem dX5_readItem_11 : decode cX5_readItem 11 = .ok (.iadd, 1) := by decide +kernel
theorem dX5_readItem_12 : decode cX5_readItem 12 = .ok (.istore_n 3, 1) := by decide +kernel
theorem dX5_readItem_13 : decode cX5_readItem 13 = .ok (.iconst 0, 1) := by decide +kernel
theorem dX5_readItem_14 : decode cX5_readItem 14 = .ok (.istore 4, 2) := by decide +kernel
theorem dX5_readItem_16 : decode cX5_readItem 16 = .ok (.iload 4, 2) := by decide +kernel
theorem dX5_readItem_18 : decode cX5_readItem 18 = .ok (.iload_n 2, 1) := by decide +kernel
theorem dX5_readItem_19 : decode cX5_readItem 19 = .ok (.if_icmp .ge 75, 3) := by decide +kernel
theorem dX5_readItem_22 : decode cX5_readItem 22 = .ok (.aload_n 0, 1) := by decide +kernel
theorem dX5_readItem_23 : decode cX5_readItem 23 = .ok (.iload_n 3, 1) := by decide +kernel
theorem dX5_readItem_24 : decode cX5_readItem 24 = .ok (.invokevirtual 36, 3) := by decide +kernel
theorem dX5_readItem_27 : decode cX5_readItem 27 = .ok (.istore 5, 2) := by decide +kernel
theorem dX5_readItem_29 : decode cX5_readItem 29 = .ok (.iload 4, 2) := by decide +kernel
theorem dX5_readItem_31 : decode cX5_readItem 31 = .ok (.iload_n 2, 1) := by decide +kernel
theorem dX5_readItem_32 : decode cX5_readItem 32 = .ok (.iconst 1, 1) := by decide +kernel
theorem dX5_readItem_33 : decode cX5_readItem 33 = .ok (.isub, 1) := by decide +kernel
theorem dX5_readItem_34 : decode cX5_readItem 34 = .ok (.if_icmp .ne 8, 3) := by decide +kernel
theorem dX5_readItem_37 : decode cX5_readItem 37 = .ok (.bipush 59, 2) := by decide +kernel
theorem dX5_readItem_39 : decode cX5_readItem 39 = .ok (.goto 5, 3) := by decide +kernel
theorem dX5_readItem_42 : decode cX5_readItem 42 = .ok (.bipush 44, 2) := by decide +kernel
theorem dX5_readItem_44 : decode cX5_readItem 44 = .ok (.istore 6, 2) := by decide +kernel
theorem dX5_readItem_46 : decode cX5_readItem 46 = .ok (.iload 5, 2) := by decide +kernel
theorem dX5_readItem_48 : decode cX5_readItem 48 = .ok (.ifCond .eq 16, 3) := by decide +kernel
theorem dX5_readItem_51 : decode cX5_readItem 51 = .ok (.aload_n 0, 1) := by decide +kernel
theorem dX5_readItem_52 : decode cX5_readItem 52 = .ok (.iload_n 3, 1) := by decide +kernel
theorem dX5_readItem_53 : decode cX5_readItem 53 = .ok (.iload 5, 2) := by decide +kernel
theorem dX5_readItem_55 : decode cX5_readItem 55 = .ok (.iadd, 1) := by decide +kernel
theorem dX5_readItem_56 : decode cX5_readItem 56 = .ok (.invokevirtual 26, 3) := by decide +kernel
theorem dX5_readItem_59 : decode cX5_readItem 59 = .ok (.iload 6, 2) := by decide +kernel
theorem dX5_readItem_61 : decode cX5_readItem 61 = .ok (.if_icmp .eq 6, 3) := by decide +kernel
theorem dX5_readItem_64 : decode cX5_readItem 64 = .ok (.bipush (-4), 2) := by decide +kernel
theorem dX5_readItem_66 : decode cX5_readItem 66 = .ok (.ireturn, 1) := by decide +kernel
theorem dX5_readItem_67 : decode cX5_readItem 67 = .ok (.aload_n 0, 1) := by decide +kernel
theorem dX5_readItem_68 : decode cX5_readItem 68 = .ok (.getfield 15, 3) := by decide +kernel
theorem dX5_readItem_71 : decode cX5_readItem 71 = .ok (.iload 4, 2) := by decide +kernel
theorem dX5_readItem_73 : decode cX5_readItem 73 = .ok (.aload_n 0, 1) := by decide +kernel
theorem dX5_readItem_74 : decode cX5_readItem 74 = .ok (.iload_n 3, 1) := by decide +kernel
theorem dX5_readItem_75 : decode cX5_readItem 75 = .ok (.iload 5, 2) := by decide +kernel
theorem dX5_readItem_77 : decode cX5_readItem 77 = .ok (.invokevirtual 39, 3) := by decide +kernel
theorem dX5_readItem_80 : decode cX5_readItem 80 = .ok (.iastore, 1) := by decide +kernel
theorem dX5_readItem_81 : decode cX5_readItem 81 = .ok (.iload_n 3, 1) := by decide +kernel
theorem dX5_readItem_82 : decode cX5_readItem 82 = .ok (.iload 5, 2) := by decide +kernel
theorem dX5_readItem_84 : decode cX5_readItem 84 = .ok (.iconst 1, 1) := by decide +kernel
theorem dX5_readItem_85 : decode cX5_readItem 85 = .ok (.iadd, 1) := by decide +kernel
theorem dX5_readItem_86 : decode cX5_readItem 86 = .ok (.iadd, 1) := by decide +kernel
theorem dX5_readItem_87 : decode cX5_readItem 87 = .ok (.istore_n 3, 1) := by decide +kernel
theorem dX5_readItem_88 : decode cX5_readItem 88 = .ok (.iinc 4 1, 3) := by decide +kernel
theorem dX5_readItem_91 : decode cX5_readItem 91 = .ok (.goto (-75), 3) := by decide +kernel
theorem dX5_readItem_94 : decode cX5_readItem 94 = .ok (.iload_n 2, 1) := by decide +kernel
theorem dX5_readItem_95 : decode cX5_readItem 95 = .ok (.ifCond .ne 8, 3) := by decide +kernel
theorem dX5_readItem_98 : decode cX5_readItem 98 = .ok (.bipush (-4), 2) := by decide +kernel
theorem dX5_readItem_100 : decode cX5_readItem 100 = .ok (.goto 4, 3) := by decide +kernel
theorem dX5_readItem_103 : decode cX5_readItem 103 = .ok (.iload_n 3, 1) := by decide +kernel
theorem dX5_readItem_104 : decode cX5_readItem 104 = .ok (.ireturn, 1) := by decide +kernel
theorem dX5_numbersBehind_0 : decode cX5_numbersBehind 0 = .ok (.iload_n 0, 1) := by decide +kernel
theorem dX5_numbersBehind_1 : decode cX5_numbersBehind 1 = .ok (.lookupswitch 39 #[(99, 37), (100, 37), (118, 35)], 35) := by decide +kernel
theorem dX5_numbersBehind_36 : decode cX5_numbersBehind 36 = .ok (.iconst 1, 1) := by decide +kernel
theorem dX5_numbersBehind_37 : decode cX5_numbersBehind 37 = .ok (.ireturn, 1) := by decide +kernel
theorem dX5_numbersBehind_38 : decode cX5_numbersBehind 38 = .ok (.iconst 3, 1) := by decide +kernel
theorem dX5_numbersBehind_39 : decode cX5_numbersBehind 39 = .ok (.ireturn, 1) := by decide +kernel
theorem dX5_numbersBehind_40 : decode cX5_numbersBehind 40 = .ok (.iconst 0, 1) := by decide +kernel
theorem dX5_numbersBehind_41 : decode cX5_numbersBehind 41 = .ok (.ireturn, 1) := by decide +kernel
theorem dX5_figuresAt_0 : decode cX5_figuresAt 0 = .ok (.aload_n 0, 1) := by decide +kernel
theorem dX5_figuresAt_1 : decode cX5_figuresAt 1 = .ok (.iload_n 1, 1) := by decide +kernel
theorem dX5_figuresAt_2 : decode cX5_figuresAt 2 = .ok (.invokevirtual 26, 3) := by decide +kernel
theorem dX5_figuresAt_5 : decode cX5_figuresAt 5 = .ok (.invokestatic 43, 3) := by decide +kernel
theorem dX5_figuresAt_8 : decode cX5_figuresAt 8 = .ok (.ifCond .ne 5, 3) := by decide +kernel
theorem dX5_figuresAt_11 : decode cX5_figuresAt 11 = .ok (.iconst 0, 1) := by decide +kernel
theorem dX5_figuresAt_12 : decode cX5_figuresAt 12 = .ok (.ireturn, 1) := by decide +kernel
theorem dX5_figuresAt_13 : decode cX5_figuresAt 13 = .ok (.aload_n 0, 1) := by decide +kernel
theorem dX5_figuresAt_14 : decode cX5_figuresAt 14 = .ok (.iload_n 1, 1) := by decide +kernel
theorem dX5_figuresAt_15 : decode cX5_figuresAt 15 = .ok (.iconst 1, 1) := by decide +kernel
theorem dX5_figuresAt_16 : decode cX5_figuresAt 16 = .ok (.iadd, 1) := by decide +kernel
theorem dX5_figuresAt_17 : decode cX5_figuresAt 17 = .ok (.invokevirtual 26, 3) := by decide +kernel
theorem dX5_figuresAt_20 : decode cX5_figuresAt 20 = .ok (.invokestatic 43, 3) := by decide +kernel
theorem dX5_figuresAt_23 : decode cX5_figuresAt 23 = .ok (.ifCond .eq 7, 3) := by decide +kernel
theorem dX5_figuresAt_26 : decode cX5_figuresAt 26 = .ok (.iconst 2, 1) := by decide +kernel
theorem dX5_figuresAt_27 : decode cX5_figuresAt 27 = .ok (.goto 4, 3) := by decide +kernel
theorem dX5_figuresAt_30 : decode cX5_figuresAt 30 = .ok (.iconst 1, 1) := by decide +kernel
theorem dX5_figuresAt_31 : decode cX5_figuresAt 31 = .ok (.ireturn, 1) := by decide +kernel
theorem dX5_numberAt_0 : decode cX5_numberAt 0 = .ok (.aload_n 0, 1) := by decide +kernel
theorem dX5_numberAt_1 : decode cX5_numberAt 1 = .ok (.iload_n 1, 1) := by decide +kernel
theorem dX5_numberAt_2 : decode cX5_numberAt 2 = .ok (.invokevirtual 26, 3) := by decide +kernel
theorem dX5_numberAt_5 : decode cX5_numberAt 5 = .ok (.bipush 48, 2) := by decide +kernel
theorem dX5_numberAt_7 : decode cX5_numberAt 7 = .ok (.isub, 1) := by decide +kernel
theorem dX5_numberAt_8 : decode cX5_numberAt 8 = .ok (.istore_n 3, 1) := by decide +kernel
theorem dX5_numberAt_9 : decode cX5_numberAt 9 = .ok (.iload_n 2, 1) := by decide +kernel
theorem dX5_numberAt_10 : decode cX5_numberAt 10 = .ok (.iconst 1, 1) := by decide +kernel
theorem dX5_numberAt_11 : decode cX5_numberAt 11 = .ok (.if_icmp .ne 7, 3) := by decide +kernel
theorem dX5_numberAt_14 : decode cX5_numberAt 14 = .ok (.iload_n 3, 1) := by decide +kernel
theorem dX5_numberAt_15 : decode cX5_numberAt 15 = .ok (.goto 18, 3) := by decide +kernel
theorem dX5_numberAt_18 : decode cX5_numberAt 18 = .ok (.iload_n 3, 1) := by decide +kernel
theorem dX5_numberAt_19 : decode cX5_numberAt 19 = .ok (.bipush 10, 2) := by decide +kernel
theorem dX5_numberAt_21 : decode cX5_numberAt 21 = .ok (.imul, 1) := by decide +kernel
theorem dX5_numberAt_22 : decode cX5_numberAt 22 = .ok (.aload_n 0, 1) := by decide +kernel
theorem dX5_numberAt_23 : decode cX5_numberAt 23 = .ok (.iload_n 1, 1) := by decide +kernel
theorem dX5_numberAt_24 : decode cX5_numberAt 24 = .ok (.iconst 1, 1) := by decide +kernel
theorem dX5_numberAt_25 : decode cX5_numberAt 25 = .ok (.iadd, 1) := by decide +kernel
theorem dX5_numberAt_26 : decode cX5_numberAt 26 = .ok (.invokevirtual 26, 3) := by decide +kernel
theorem dX5_numberAt_29 : decode cX5_numberAt 29 = .ok (.iadd, 1) := by decide +kernel
theorem dX5_numberAt_30 : decode cX5_numberAt 30 = .ok (.bipush 48, 2) := by decide +kernel
theorem dX5_numberAt_32 : decode cX5_numberAt 32 = .ok (.isub, 1) := by decide +kernel
theorem dX5_numberAt_33 : decode cX5_numberAt 33 = .ok (.ireturn, 1) := by decide +kernel
theorem dX5_isFigure_0 : decode cX5_isFigure 0 = .ok (.iload_n 0, 1) := by decide +kernel
theorem dX5_isFigure_1 : decode cX5_isFigure 1 = .ok (.bipush 48, 2) := by decide +kernel
theorem dX5_isFigure_3 : decode cX5_isFigure 3 = .ok (.if_icmp .lt 13, 3) := by decide +kernel
theorem dX5_isFigure_6 : decode cX5_isFigure 6 = .ok (.iload_n 0, 1) := by decide +kernel
theorem dX5_isFigure_7 : decode cX5_isFigure 7 = .ok (.bipush 57, 2) := by decide +kernel
theorem dX5_isFigure_9 : decode cX5_isFigure 9 = .ok (.if_icmp .gt 7, 3) := by decide +kernel
theorem dX5_isFigure_12 : decode cX5_isFigure 12 = .ok (.iconst 1, 1) := by decide +kernel
theorem dX5_isFigure_13 : decode cX5_isFigure 13 = .ok (.goto 4, 3) := by decide +kernel
theorem dX5_isFigure_16 : decode cX5_isFigure 16 = .ok (.iconst 0, 1) := by decide +kernel
theorem dX5_isFigure_17 : decode cX5_isFigure 17 = .ok (.ireturn, 1) := by decide +kernel
