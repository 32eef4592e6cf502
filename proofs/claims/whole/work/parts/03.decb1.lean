theorem dX6_isRoot_28 : decode cX6_isRoot 28 = .ok (.iconst 1, 1) := by decide +kernel
theorem dX6_isRoot_29 : decode cX6_isRoot 29 = .ok (.goto 4, 3) := by decide +kernel
theorem dX6_isRoot_32 : decode cX6_isRoot 32 = .ok (.iconst 0, 1) := by decide +kernel
theorem dX6_isRoot_33 : decode cX6_isRoot 33 = .ok (.ireturn, 1) := by decide +kernel
theorem dX6_gatherRoots_0 : decode cX6_gatherRoots 0 = .ok (.aload_n 0, 1) := by decide +kernel
theorem dX6_gatherRoots_1 : decode cX6_gatherRoots 1 = .ok (.getfield 55, 3) := by decide +kernel
theorem dX6_gatherRoots_4 : decode cX6_gatherRoots 4 = .ok (.iconst 0, 1) := by decide +kernel
theorem dX6_gatherRoots_5 : decode cX6_gatherRoots 5 = .ok (.putfield 196, 3) := by decide +kernel
theorem dX6_gatherRoots_8 : decode cX6_gatherRoots 8 = .ok (.iconst 0, 1) := by decide +kernel
theorem dX6_gatherRoots_9 : decode cX6_gatherRoots 9 = .ok (.istore_n 2, 1) := by decide +kernel
theorem dX6_gatherRoots_10 : decode cX6_gatherRoots 10 = .ok (.iload_n 2, 1) := by decide +kernel
theorem dX6_gatherRoots_11 : decode cX6_gatherRoots 11 = .ok (.aload_n 0, 1) := by decide +kernel
theorem dX6_gatherRoots_12 : decode cX6_gatherRoots 12 = .ok (.getfield 19, 3) := by decide +kernel
theorem dX6_gatherRoots_15 : decode cX6_gatherRoots 15 = .ok (.getfield 224, 3) := by decide +kernel
theorem dX6_gatherRoots_18 : decode cX6_gatherRoots 18 = .ok (.if_icmp .ge 37, 3) := by decide +kernel
theorem dX6_gatherRoots_21 : decode cX6_gatherRoots 21 = .ok (.aload_n 0, 1) := by decide +kernel
theorem dX6_gatherRoots_22 : decode cX6_gatherRoots 22 = .ok (.iload_n 2, 1) := by decide +kernel
theorem dX6_gatherRoots_23 : decode cX6_gatherRoots 23 = .ok (.iload_n 1, 1) := by decide +kernel
theorem dX6_gatherRoots_24 : decode cX6_gatherRoots 24 = .ok (.invokevirtual 266, 3) := by decide +kernel
theorem dX6_gatherRoots_27 : decode cX6_gatherRoots 27 = .ok (.ifCond .eq 22, 3) := by decide +kernel
theorem dX6_gatherRoots_30 : decode cX6_gatherRoots 30 = .ok (.aload_n 0, 1) := by decide +kernel
theorem dX6_gatherRoots_31 : decode cX6_gatherRoots 31 = .ok (.getfield 55, 3) := by decide +kernel
theorem dX6_gatherRoots_34 : decode cX6_gatherRoots 34 = .ok (.iload_n 2, 1) := by decide +kernel
theorem dX6_gatherRoots_35 : decode cX6_gatherRoots 35 = .ok (.aload_n 0, 1) := by decide +kernel
theorem dX6_gatherRoots_36 : decode cX6_gatherRoots 36 = .ok (.getfield 33, 3) := by decide +kernel
theorem dX6_gatherRoots_39 : decode cX6_gatherRoots 39 = .ok (.getfield 134, 3) := by decide +kernel
theorem dX6_gatherRoots_42 : decode cX6_gatherRoots 42 = .ok (.iload_n 2, 1) := by decide +kernel
theorem dX6_gatherRoots_43 : decode cX6_gatherRoots 43 = .ok (.aaload, 1) := by decide +kernel
theorem dX6_gatherRoots_44 : decode cX6_gatherRoots 44 = .ok (.iload_n 1, 1) := by decide +kernel
theorem dX6_gatherRoots_45 : decode cX6_gatherRoots 45 = .ok (.iaload, 1) := by decide +kernel
theorem dX6_gatherRoots_46 : decode cX6_gatherRoots 46 = .ok (.invokevirtual 197, 3) := by decide +kernel
theorem dX6_gatherRoots_49 : decode cX6_gatherRoots 49 = .ok (.iinc 2 1, 3) := by decide +kernel
theorem dX6_gatherRoots_52 : decode cX6_gatherRoots 52 = .ok (.goto (-42), 3) := by decide +kernel
theorem dX6_gatherRoots_55 : decode cX6_gatherRoots 55 = .ok (.return_, 1) := by decide +kernel
theorem dX6_isLoose_0 : decode cX6_isLoose 0 = .ok (.iconst 0, 1) := by decide +kernel
theorem dX6_isLoose_1 : decode cX6_isLoose 1 = .ok (.istore_n 2, 1) := by decide +kernel
theorem dX6_isLoose_2 : decode cX6_isLoose 2 = .ok (.iload_n 2, 1) := by decide +kernel
theorem dX6_isLoose_3 : decode cX6_isLoose 3 = .ok (.aload_n 0, 1) := by decide +kernel
theorem dX6_isLoose_4 : decode cX6_isLoose 4 = .ok (.getfield 19, 3) := by decide +kernel
theorem dX6_isLoose_7 : decode cX6_isLoose 7 = .ok (.getfield 224, 3) := by decide +kernel
theorem dX6_isLoose_10 : decode cX6_isLoose 10 = .ok (.if_icmp .ge 46, 3) := by decide +kernel
theorem dX6_isLoose_13 : decode cX6_isLoose 13 = .ok (.aload_n 0, 1) := by decide +kernel
theorem dX6_isLoose_14 : decode cX6_isLoose 14 = .ok (.getfield 19, 3) := by decide +kernel
theorem dX6_isLoose_17 : decode cX6_isLoose 17 = .ok (.iload_n 2, 1) := by decide +kernel
theorem dX6_isLoose_18 : decode cX6_isLoose 18 = .ok (.invokevirtual 109, 3) := by decide +kernel
theorem dX6_isLoose_21 : decode cX6_isLoose 21 = .ok (.ifCond .ne 29, 3) := by decide +kernel
theorem dX6_isLoose_24 : decode cX6_isLoose 24 = .ok (.aload_n 0, 1) := by decide +kernel
theorem dX6_isLoose_25 : decode cX6_isLoose 25 = .ok (.getfield 33, 3) := by decide +kernel
theorem dX6_isLoose_28 : decode cX6_isLoose 28 = .ok (.iload_n 2, 1) := by decide +kernel
theorem dX6_isLoose_29 : decode cX6_isLoose 29 = .ok (.iload_n 1, 1) := by decide +kernel
theorem dX6_isLoose_30 : decode cX6_isLoose 30 = .ok (.invokevirtual 130, 3) := by decide +kernel
theorem dX6_isLoose_33 : decode cX6_isLoose 33 = .ok (.ifCond .ne 15, 3) := by decide +kernel
theorem dX6_isLoose_36 : decode cX6_isLoose 36 = .ok (.aload_n 0, 1) := by decide +kernel
theorem dX6_isLoose_37 : decode cX6_isLoose 37 = .ok (.getfield 33, 3) := by decide +kernel
theorem dX6_isLoose_40 : decode cX6_isLoose 40 = .ok (.iload_n 1, 1) := by decide +kernel
theorem dX6_isLoose_41 : decode cX6_isLoose 41 = .ok (.iload_n 2, 1) := by decide +kernel
theorem dX6_isLoose_42 : decode cX6_isLoose 42 = .ok (.invokevirtual 130, 3) := by decide +kernel
theorem dX6_isLoose_45 : decode cX6_isLoose 45 = .ok (.ifCond .eq 5, 3) := by decide +kernel
theorem dX6_isLoose_48 : decode cX6_isLoose 48 = .ok (.iconst 0, 1) := by decide +kernel
theorem dX6_isLoose_49 : decode cX6_isLoose 49 = .ok (.ireturn, 1) := by decide +kernel
theorem dX6_isLoose_50 : decode cX6_isLoose 50 = .ok (.iinc 2 1, 3) := by decide +kernel
theorem dX6_isLoose_53 : decode cX6_isLoose 53 = .ok (.goto (-51), 3) := by decide +kernel
theorem dX6_isLoose_56 : decode cX6_isLoose 56 = .ok (.iconst 1, 1) := by decide +kernel
theorem dX6_isLoose_57 : decode cX6_isLoose 57 = .ok (.ireturn, 1) := by decide +kernel
theorem dX6_isPinned_0 : decode cX6_isPinned 0 = .ok (.iconst 0, 1) := by decide +kernel
theorem dX6_isPinned_1 : decode cX6_isPinned 1 = .ok (.istore_n 2, 1) := by decide +kernel
theorem dX6_isPinned_2 : decode cX6_isPinned 2 = .ok (.iload_n 2, 1) := by decide +kernel
theorem dX6_isPinned_3 : decode cX6_isPinned 3 = .ok (.aload_n 0, 1) := by decide +kernel
theorem dX6_isPinned_4 : decode cX6_isPinned 4 = .ok (.getfield 19, 3) := by decide +kernel
theorem dX6_isPinned_7 : decode cX6_isPinned 7 = .ok (.getfield 224, 3) := by decide +kernel
theorem dX6_isPinned_10 : decode cX6_isPinned 10 = .ok (.if_icmp .ge 58, 3) := by decide +kernel
theorem dX6_isPinned_13 : decode cX6_isPinned 13 = .ok (.aload_n 0, 1) := by decide +kernel
theorem dX6_isPinned_14 : decode cX6_isPinned 14 = .ok (.iload_n 2, 1) := by decide +kernel
theorem dX6_isPinned_15 : decode cX6_isPinned 15 = .ok (.iload_n 1, 1) := by decide +kernel
theorem dX6_isPinned_16 : decode cX6_isPinned 16 = .ok (.invokevirtual 266, 3) := by decide +kernel
theorem dX6_isPinned_19 : decode cX6_isPinned 19 = .ok (.ifCond .eq 43, 3) := by decide +kernel
theorem dX6_isPinned_22 : decode cX6_isPinned 22 = .ok (.aload_n 0, 1) := by decide +kernel
theorem dX6_isPinned_23 : decode cX6_isPinned 23 = .ok (.getfield 33, 3) := by decide +kernel
theorem dX6_isPinned_26 : decode cX6_isPinned 26 = .ok (.iload_n 1, 1) := by decide +kernel
theorem dX6_isPinned_27 : decode cX6_isPinned 27 = .ok (.iload_n 2, 1) := by decide +kernel
theorem dX6_isPinned_28 : decode cX6_isPinned 28 = .ok (.invokevirtual 130, 3) := by decide +kernel
theorem dX6_isPinned_31 : decode cX6_isPinned 31 = .ok (.ifCond .eq 31, 3) := by decide +kernel
theorem dX6_isPinned_34 : decode cX6_isPinned 34 = .ok (.aload_n 0, 1) := by decide +kernel
theorem dX6_isPinned_35 : decode cX6_isPinned 35 = .ok (.getfield 33, 3) := by decide +kernel
theorem dX6_isPinned_38 : decode cX6_isPinned 38 = .ok (.getfield 134, 3) := by decide +kernel
theorem dX6_isPinned_41 : decode cX6_isPinned 41 = .ok (.iload_n 2, 1) := by decide +kernel
theorem dX6_isPinned_42 : decode cX6_isPinned 42 = .ok (.aaload, 1) := by decide +kernel
theorem dX6_isPinned_43 : decode cX6_isPinned 43 = .ok (.iload_n 1, 1) := by decide +kernel
theorem dX6_isPinned_44 : decode cX6_isPinned 44 = .ok (.iaload, 1) := by decide +kernel
theorem dX6_isPinned_45 : decode cX6_isPinned 45 = .ok (.aload_n 0, 1) := by decide +kernel
theorem dX6_isPinned_46 : decode cX6_isPinned 46 = .ok (.getfield 33, 3) := by decide +kernel
theorem dX6_isPinned_49 : decode cX6_isPinned 49 = .ok (.getfield 134, 3) := by decide +kernel
theorem dX6_isPinned_52 : decode cX6_isPinned 52 = .ok (.iload_n 1, 1) := by decide +kernel
theorem dX6_isPinned_53 : decode cX6_isPinned 53 = .ok (.aaload, 1) := by decide +kernel
theorem dX6_isPinned_54 : decode cX6_isPinned 54 = .ok (.iload_n 2, 1) := by decide +kernel
theorem dX6_isPinned_55 : decode cX6_isPinned 55 = .ok (.iaload, 1) := by decide +kernel
theorem dX6_isPinned_56 : decode cX6_isPinned 56 = .ok (.iadd, 1) := by decide +kernel
theorem dX6_isPinned_57 : decode cX6_isPinned 57 = .ok (.ifCond .ne 5, 3) := by decide +kernel
theorem dX6_isPinned_60 : decode cX6_isPinned 60 = .ok (.iconst 1, 1) := by decide +kernel
theorem dX6_isPinned_61 : decode cX6_isPinned 61 = .ok (.ireturn, 1) := by decide +kernel
theorem dX6_isPinned_62 : decode cX6_isPinned 62 = .ok (.iinc 2 1, 3) := by decide +kernel
theorem dX6_isPinned_65 : decode cX6_isPinned 65 = .ok (.goto (-63), 3) := by decide +kernel
theorem dX6_isPinned_68 : decode cX6_isPinned 68 = .ok (.iconst 0, 1) := by decide +kernel
theorem dX6_isPinned_69 : decode cX6_isPinned 69 = .ok (.ireturn, 1) := by decide +kernel
