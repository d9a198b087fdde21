theorem dX0_init_0 : decode cX0_init 0 = .ok (.aload_n 0, 1) := by decide +kernel
theorem dX0_init_1 : decode cX0_init 1 = .ok (.invokespecial 3, 3) := by decide +kernel
theorem dX0_init_4 : decode cX0_init 4 = .ok (.return_, 1) := by decide +kernel
theorem dX0_weigh_0 : decode cX0_weigh 0 = .ok (.aload_n 0, 1) := by decide +kernel
theorem dX0_weigh_1 : decode cX0_weigh 1 = .ok (.iconst 0, 1) := by decide +kernel
theorem dX0_weigh_2 : decode cX0_weigh 2 = .ok (.putfield 9, 3) := by decide +kernel
theorem dX0_weigh_5 : decode cX0_weigh 5 = .ok (.aload_n 0, 1) := by decide +kernel
theorem dX0_weigh_6 : decode cX0_weigh 6 = .ok (.iconst 0, 1) := by decide +kernel
theorem dX0_weigh_7 : decode cX0_weigh 7 = .ok (.putfield 15, 3) := by decide +kernel
theorem dX0_weigh_10 : decode cX0_weigh 10 = .ok (.aload_n 0, 1) := by decide +kernel
theorem dX0_weigh_11 : decode cX0_weigh 11 = .ok (.iconst 0, 1) := by decide +kernel
theorem dX0_weigh_12 : decode cX0_weigh 12 = .ok (.putfield 18, 3) := by decide +kernel
theorem dX0_weigh_15 : decode cX0_weigh 15 = .ok (.aload_n 0, 1) := by decide +kernel
theorem dX0_weigh_16 : decode cX0_weigh 16 = .ok (.iconst 0, 1) := by decide +kernel
theorem dX0_weigh_17 : decode cX0_weigh 17 = .ok (.putfield 21, 3) := by decide +kernel
theorem dX0_weigh_20 : decode cX0_weigh 20 = .ok (.iconst 0, 1) := by decide +kernel
theorem dX0_weigh_21 : decode cX0_weigh 21 = .ok (.istore_n 3, 1) := by decide +kernel
theorem dX0_weigh_22 : decode cX0_weigh 22 = .ok (.iload_n 3, 1) := by decide +kernel
theorem dX0_weigh_23 : decode cX0_weigh 23 = .ok (.aload_n 1, 1) := by decide +kernel
theorem dX0_weigh_24 : decode cX0_weigh 24 = .ok (.getfield 24, 3) := by decide +kernel
theorem dX0_weigh_27 : decode cX0_weigh 27 = .ok (.if_icmp .ge 110, 3) := by decide +kernel
theorem dX0_weigh_30 : decode cX0_weigh 30 = .ok (.iload_n 2, 1) := by decide +kernel
theorem dX0_weigh_31 : decode cX0_weigh 31 = .ok (.aload_n 1, 1) := by decide +kernel
theorem dX0_weigh_32 : decode cX0_weigh 32 = .ok (.getfield 29, 3) := by decide +kernel
theorem dX0_weigh_35 : decode cX0_weigh 35 = .ok (.iload_n 3, 1) := by decide +kernel
theorem dX0_weigh_36 : decode cX0_weigh 36 = .ok (.iaload, 1) := by decide +kernel
theorem dX0_weigh_37 : decode cX0_weigh 37 = .ok (.ishr, 1) := by decide +kernel
theorem dX0_weigh_38 : decode cX0_weigh 38 = .ok (.iconst 1, 1) := by decide +kernel
theorem dX0_weigh_39 : decode cX0_weigh 39 = .ok (.iand, 1) := by decide +kernel
theorem dX0_weigh_40 : decode cX0_weigh 40 = .ok (.istore 4, 2) := by decide +kernel
theorem dX0_weigh_42 : decode cX0_weigh 42 = .ok (.iload_n 2, 1) := by decide +kernel
theorem dX0_weigh_43 : decode cX0_weigh 43 = .ok (.aload_n 1, 1) := by decide +kernel
theorem dX0_weigh_44 : decode cX0_weigh 44 = .ok (.getfield 33, 3) := by decide +kernel
theorem dX0_weigh_47 : decode cX0_weigh 47 = .ok (.iload_n 3, 1) := by decide +kernel
theorem dX0_weigh_48 : decode cX0_weigh 48 = .ok (.iaload, 1) := by decide +kernel
theorem dX0_weigh_49 : decode cX0_weigh 49 = .ok (.ishr, 1) := by decide +kernel
theorem dX0_weigh_50 : decode cX0_weigh 50 = .ok (.iconst 1, 1) := by decide +kernel
theorem dX0_weigh_51 : decode cX0_weigh 51 = .ok (.iand, 1) := by decide +kernel
theorem dX0_weigh_52 : decode cX0_weigh 52 = .ok (.istore 5, 2) := by decide +kernel
theorem dX0_weigh_54 : decode cX0_weigh 54 = .ok (.iload 4, 2) := by decide +kernel
theorem dX0_weigh_56 : decode cX0_weigh 56 = .ok (.iload 5, 2) := by decide +kernel
theorem dX0_weigh_58 : decode cX0_weigh 58 = .ok (.if_icmp .le 36, 3) := by decide +kernel
theorem dX0_weigh_61 : decode cX0_weigh 61 = .ok (.aload_n 0, 1) := by decide +kernel
theorem dX0_weigh_62 : decode cX0_weigh 62 = .ok (.dup, 1) := by decide +kernel
theorem dX0_weigh_63 : decode cX0_weigh 63 = .ok (.getfield 9, 3) := by decide +kernel
theorem dX0_weigh_66 : decode cX0_weigh 66 = .ok (.aload_n 1, 1) := by decide +kernel
theorem dX0_weigh_67 : decode cX0_weigh 67 = .ok (.getfield 36, 3) := by decide +kernel
theorem dX0_weigh_70 : decode cX0_weigh 70 = .ok (.iload_n 3, 1) := by decide +kernel
theorem dX0_weigh_71 : decode cX0_weigh 71 = .ok (.iaload, 1) := by decide +kernel
theorem dX0_weigh_72 : decode cX0_weigh 72 = .ok (.iadd, 1) := by decide +kernel
theorem dX0_weigh_73 : decode cX0_weigh 73 = .ok (.putfield 9, 3) := by decide +kernel
theorem dX0_weigh_76 : decode cX0_weigh 76 = .ok (.aload_n 0, 1) := by decide +kernel
theorem dX0_weigh_77 : decode cX0_weigh 77 = .ok (.dup, 1) := by decide +kernel
theorem dX0_weigh_78 : decode cX0_weigh 78 = .ok (.getfield 15, 3) := by decide +kernel
theorem dX0_weigh_81 : decode cX0_weigh 81 = .ok (.aload_n 1, 1) := by decide +kernel
theorem dX0_weigh_82 : decode cX0_weigh 82 = .ok (.getfield 39, 3) := by decide +kernel
theorem dX0_weigh_85 : decode cX0_weigh 85 = .ok (.iload_n 3, 1) := by decide +kernel
theorem dX0_weigh_86 : decode cX0_weigh 86 = .ok (.iaload, 1) := by decide +kernel
theorem dX0_weigh_87 : decode cX0_weigh 87 = .ok (.iadd, 1) := by decide +kernel
theorem dX0_weigh_88 : decode cX0_weigh 88 = .ok (.putfield 15, 3) := by decide +kernel
theorem dX0_weigh_91 : decode cX0_weigh 91 = .ok (.goto 40, 3) := by decide +kernel
theorem dX0_weigh_94 : decode cX0_weigh 94 = .ok (.iload 4, 2) := by decide +kernel
theorem dX0_weigh_96 : decode cX0_weigh 96 = .ok (.iload 5, 2) := by decide +kernel
theorem dX0_weigh_98 : decode cX0_weigh 98 = .ok (.if_icmp .ge 33, 3) := by decide +kernel
theorem dX0_weigh_101 : decode cX0_weigh 101 = .ok (.aload_n 0, 1) := by decide +kernel
theorem dX0_weigh_102 : decode cX0_weigh 102 = .ok (.dup, 1) := by decide +kernel
theorem dX0_weigh_103 : decode cX0_weigh 103 = .ok (.getfield 18, 3) := by decide +kernel
theorem dX0_weigh_106 : decode cX0_weigh 106 = .ok (.aload_n 1, 1) := by decide +kernel
theorem dX0_weigh_107 : decode cX0_weigh 107 = .ok (.getfield 36, 3) := by decide +kernel
theorem dX0_weigh_110 : decode cX0_weigh 110 = .ok (.iload_n 3, 1) := by decide +kernel
theorem dX0_weigh_111 : decode cX0_weigh 111 = .ok (.iaload, 1) := by decide +kernel
theorem dX0_weigh_112 : decode cX0_weigh 112 = .ok (.iadd, 1) := by decide +kernel
theorem dX0_weigh_113 : decode cX0_weigh 113 = .ok (.putfield 18, 3) := by decide +kernel
theorem dX0_weigh_116 : decode cX0_weigh 116 = .ok (.aload_n 0, 1) := by decide +kernel
theorem dX0_weigh_117 : decode cX0_weigh 117 = .ok (.dup, 1) := by decide +kernel
theorem dX0_weigh_118 : decode cX0_weigh 118 = .ok (.getfield 21, 3) := by decide +kernel
theorem dX0_weigh_121 : decode cX0_weigh 121 = .ok (.aload_n 1, 1) := by decide +kernel
theorem dX0_weigh_122 : decode cX0_weigh 122 = .ok (.getfield 39, 3) := by decide +kernel
theorem dX0_weigh_125 : decode cX0_weigh 125 = .ok (.iload_n 3, 1) := by decide +kernel
theorem dX0_weigh_126 : decode cX0_weigh 126 = .ok (.iaload, 1) := by decide +kernel
theorem dX0_weigh_127 : decode cX0_weigh 127 = .ok (.iadd, 1) := by decide +kernel
theorem dX0_weigh_128 : decode cX0_weigh 128 = .ok (.putfield 21, 3) := by decide +kernel
theorem dX0_weigh_131 : decode cX0_weigh 131 = .ok (.iinc 3 1, 3) := by decide +kernel
theorem dX0_weigh_134 : decode cX0_weigh 134 = .ok (.goto (-112), 3) := by decide +kernel
theorem dX0_weigh_137 : decode cX0_weigh 137 = .ok (.return_, 1) := by decide +kernel
theorem dX0_sumOfCut_0 : decode cX0_sumOfCut 0 = .ok (.aload_n 0, 1) := by decide +kernel
theorem dX0_sumOfCut_1 : decode cX0_sumOfCut 1 = .ok (.aload_n 1, 1) := by decide +kernel
theorem dX0_sumOfCut_2 : decode cX0_sumOfCut 2 = .ok (.iload_n 2, 1) := by decide +kernel
theorem dX0_sumOfCut_3 : decode cX0_sumOfCut 3 = .ok (.invokevirtual 42, 3) := by decide +kernel
theorem dX0_sumOfCut_6 : decode cX0_sumOfCut 6 = .ok (.aload_n 0, 1) := by decide +kernel
theorem dX0_sumOfCut_7 : decode cX0_sumOfCut 7 = .ok (.getfield 9, 3) := by decide +kernel
theorem dX0_sumOfCut_10 : decode cX0_sumOfCut 10 = .ok (.aload_n 0, 1) := by decide +kernel
theorem dX0_sumOfCut_11 : decode cX0_sumOfCut 11 = .ok (.getfield 21, 3) := by decide +kernel
theorem dX0_sumOfCut_14 : decode cX0_sumOfCut 14 = .ok (.isub, 1) := by decide +kernel
theorem dX0_sumOfCut_15 : decode cX0_sumOfCut 15 = .ok (.ireturn, 1) := by decide +kernel
theorem dX0_sumBothWays_0 : decode cX0_sumBothWays 0 = .ok (.aload_n 0, 1) := by decide +kernel
theorem dX0_sumBothWays_1 : decode cX0_sumBothWays 1 = .ok (.aload_n 1, 1) := by decide +kernel
theorem dX0_sumBothWays_2 : decode cX0_sumBothWays 2 = .ok (.iload_n 2, 1) := by decide +kernel
theorem dX0_sumBothWays_3 : decode cX0_sumBothWays 3 = .ok (.invokevirtual 42, 3) := by decide +kernel
theorem dX0_sumBothWays_6 : decode cX0_sumBothWays 6 = .ok (.aload_n 0, 1) := by decide +kernel
theorem dX0_sumBothWays_7 : decode cX0_sumBothWays 7 = .ok (.getfield 9, 3) := by decide +kernel
theorem dX0_sumBothWays_10 : decode cX0_sumBothWays 10 = .ok (.aload_n 0, 1) := by decide +kernel
theorem dX0_sumBothWays_11 : decode cX0_sumBothWays 11 = .ok (.getfield 18, 3) := by decide +kernel
theorem dX0_sumBothWays_14 : decode cX0_sumBothWays 14 = .ok (.iadd, 1) := by decide +kernel
theorem dX0_sumBothWays_15 : decode cX0_sumBothWays 15 = .ok (.ireturn, 1) := by decide +kernel
theorem dX0_isCrowd_0 : decode cX0_isCrowd 0 = .ok (.aload_n 0, 1) := by decide +kernel
theorem dX0_isCrowd_1 : decode cX0_isCrowd 1 = .ok (.aload_n 1, 1) := by decide +kernel
theorem dX0_isCrowd_2 : decode cX0_isCrowd 2 = .ok (.iload_n 2, 1) := by decide +kernel
theorem dX0_isCrowd_3 : decode cX0_isCrowd 3 = .ok (.invokevirtual 42, 3) := by decide +kernel
theorem dX0_isCrowd_6 : decode cX0_isCrowd 6 = .ok (.aload_n 0, 1) := by decide +kernel
theorem dX0_isCrowd_7 : decode cX0_isCrowd 7 = .ok (.getfield 15, 3) := by decide +kernel
theorem dX0_isCrowd_10 : decode cX0_isCrowd 10 = .ok (.aload_n 0, 1) := by decide +kernel
theorem dX0_isCrowd_11 : decode cX0_isCrowd 11 = .ok (.getfield 18, 3) := by decide +kernel
theorem dX0_isCrowd_14 : decode cX0_isCrowd 14 = .ok (.if_icmp .le 7, 3) := by decide +kernel
theorem dX0_isCrowd_17 : decode cX0_isCrowd 17 = .ok (.iconst 1, 1) := by decide +kernel
theorem dX0_isCrowd_18 : decode cX0_isCrowd 18 = .ok (.goto 4, 3) := by decide +kernel
theorem dX0_isCrowd_21 : decode cX0_isCrowd 21 = .ok (.iconst 0, 1) := by decide +kernel
theorem dX0_isCrowd_22 : decode cX0_isCrowd 22 = .ok (.ireturn, 1) := by decide +kernel
theorem dX0_isBroken_0 : decode cX0_isBroken 0 = .ok (.iconst 0, 1) := by decide +kernel
theorem dX0_isBroken_1 : decode cX0_isBroken 1 = .ok (.istore_n 3, 1) := by decide +kernel
theorem dX0_isBroken_2 : decode cX0_isBroken 2 = .ok (.iconst 0, 1) := by decide +kernel
theorem dX0_isBroken_3 : decode cX0_isBroken 3 = .ok (.istore 4, 2) := by decide +kernel
theorem dX0_isBroken_5 : decode cX0_isBroken 5 = .ok (.iload 4, 2) := by decide +kernel
theorem dX0_isBroken_7 : decode cX0_isBroken 7 = .ok (.aload_n 1, 1) := by decide +kernel
theorem dX0_isBroken_8 : decode cX0_isBroken 8 = .ok (.getfield 46, 3) := by decide +kernel
theorem dX0_isBroken_11 : decode cX0_isBroken 11 = .ok (.if_icmp .ge 32, 3) := by decide +kernel
theorem dX0_isBroken_14 : decode cX0_isBroken 14 = .ok (.iload_n 3, 1) := by decide +kernel
theorem dX0_isBroken_15 : decode cX0_isBroken 15 = .ok (.iload_n 2, 1) := by decide +kernel
theorem dX0_isBroken_16 : decode cX0_isBroken 16 = .ok (.iload 4, 2) := by decide +kernel
theorem dX0_isBroken_18 : decode cX0_isBroken 18 = .ok (.invokestatic 49, 3) := by decide +kernel
theorem dX0_isBroken_21 : decode cX0_isBroken 21 = .ok (.ifCond .eq 13, 3) := by decide +kernel
theorem dX0_isBroken_24 : decode cX0_isBroken 24 = .ok (.aload_n 1, 1) := by decide +kernel
theorem dX0_isBroken_25 : decode cX0_isBroken 25 = .ok (.getfield 53, 3) := by decide +kernel
theorem dX0_isBroken_28 : decode cX0_isBroken 28 = .ok (.iload 4, 2) := by decide +kernel
theorem dX0_isBroken_30 : decode cX0_isBroken 30 = .ok (.iaload, 1) := by decide +kernel
theorem dX0_isBroken_31 : decode cX0_isBroken 31 = .ok (.goto 4, 3) := by decide +kernel
theorem dX0_isBroken_34 : decode cX0_isBroken 34 = .ok (.iconst 0, 1) := by decide +kernel
theorem dX0_isBroken_35 : decode cX0_isBroken 35 = .ok (.iadd, 1) := by decide +kernel
theorem dX0_isBroken_36 : decode cX0_isBroken 36 = .ok (.istore_n 3, 1) := by decide +kernel
theorem dX0_isBroken_37 : decode cX0_isBroken 37 = .ok (.iinc 4 1, 3) := by decide +kernel
theorem dX0_isBroken_40 : decode cX0_isBroken 40 = .ok (.goto (-35), 3) := by decide +kernel
theorem dX0_isBroken_43 : decode cX0_isBroken 43 = .ok (.aload_n 0, 1) := by decide +kernel
theorem dX0_isBroken_44 : decode cX0_isBroken 44 = .ok (.aload_n 1, 1) := by decide +kernel
theorem dX0_isBroken_45 : decode cX0_isBroken 45 = .ok (.iload_n 2, 1) := by decide +kernel
theorem dX0_isBroken_46 : decode cX0_isBroken 46 = .ok (.invokevirtual 42, 3) := by decide +kernel
theorem dX0_isBroken_49 : decode cX0_isBroken 49 = .ok (.iload_n 3, 1) := by decide +kernel
theorem dX0_isBroken_50 : decode cX0_isBroken 50 = .ok (.aload_n 0, 1) := by decide +kernel
theorem dX0_isBroken_51 : decode cX0_isBroken 51 = .ok (.getfield 9, 3) := by decide +kernel
theorem dX0_isBroken_54 : decode cX0_isBroken 54 = .ok (.aload_n 0, 1) := by decide +kernel
theorem dX0_isBroken_55 : decode cX0_isBroken 55 = .ok (.getfield 21, 3) := by decide +kernel
theorem dX0_isBroken_58 : decode cX0_isBroken 58 = .ok (.isub, 1) := by decide +kernel
theorem dX0_isBroken_59 : decode cX0_isBroken 59 = .ok (.if_icmp .gt 16, 3) := by decide +kernel
theorem dX0_isBroken_62 : decode cX0_isBroken 62 = .ok (.iload_n 3, 1) := by decide +kernel
theorem dX0_isBroken_63 : decode cX0_isBroken 63 = .ok (.aload_n 0, 1) := by decide +kernel
theorem dX0_isBroken_64 : decode cX0_isBroken 64 = .ok (.getfield 15, 3) := by decide +kernel
theorem dX0_isBroken_67 : decode cX0_isBroken 67 = .ok (.aload_n 0, 1) := by decide +kernel
theorem dX0_isBroken_68 : decode cX0_isBroken 68 = .ok (.getfield 18, 3) := by decide +kernel
theorem dX0_isBroken_71 : decode cX0_isBroken 71 = .ok (.isub, 1) := by decide +kernel
theorem dX0_isBroken_72 : decode cX0_isBroken 72 = .ok (.if_icmp .ge 7, 3) := by decide +kernel
theorem dX0_isBroken_75 : decode cX0_isBroken 75 = .ok (.iconst 1, 1) := by decide +kernel
theorem dX0_isBroken_76 : decode cX0_isBroken 76 = .ok (.goto 4, 3) := by decide +kernel
theorem dX0_isBroken_79 : decode cX0_isBroken 79 = .ok (.iconst 0, 1) := by decide +kernel
theorem dX0_isBroken_80 : decode cX0_isBroken 80 = .ok (.ireturn, 1) := by decide +kernel
theorem dX0_findLeast_0 : decode cX0_findLeast 0 = .ok (.iconst 0, 1) := by decide +kernel
theorem dX0_findLeast_1 : decode cX0_findLeast 1 = .ok (.istore 4, 2) := by decide +kernel
theorem dX0_findLeast_3 : decode cX0_findLeast 3 = .ok (.aload_n 0, 1) := by decide +kernel
theorem dX0_findLeast_4 : decode cX0_findLeast 4 = .ok (.iconst 0, 1) := by decide +kernel
theorem dX0_findLeast_5 : decode cX0_findLeast 5 = .ok (.putfield 56, 3) := by decide +kernel
theorem dX0_findLeast_8 : decode cX0_findLeast 8 = .ok (.aload_n 0, 1) := by decide +kernel
theorem dX0_findLeast_9 : decode cX0_findLeast 9 = .ok (.iconst 0, 1) := by decide +kernel
theorem dX0_findLeast_10 : decode cX0_findLeast 10 = .ok (.putfield 59, 3) := by decide +kernel
theorem dX0_findLeast_13 : decode cX0_findLeast 13 = .ok (.aload_n 0, 1) := by decide +kernel
theorem dX0_findLeast_14 : decode cX0_findLeast 14 = .ok (.iconst 0, 1) := by decide +kernel
theorem dX0_findLeast_15 : decode cX0_findLeast 15 = .ok (.putfield 62, 3) := by decide +kernel
theorem dX0_findLeast_18 : decode cX0_findLeast 18 = .ok (.iconst 0, 1) := by decide +kernel
theorem dX0_findLeast_19 : decode cX0_findLeast 19 = .ok (.istore 5, 2) := by decide +kernel
theorem dX0_findLeast_21 : decode cX0_findLeast 21 = .ok (.iload 5, 2) := by decide +kernel
theorem dX0_findLeast_23 : decode cX0_findLeast 23 = .ok (.iconst 1, 1) := by decide +kernel
theorem dX0_findLeast_24 : decode cX0_findLeast 24 = .ok (.aload_n 1, 1) := by decide +kernel
theorem dX0_findLeast_25 : decode cX0_findLeast 25 = .ok (.getfield 46, 3) := by decide +kernel
theorem dX0_findLeast_28 : decode cX0_findLeast 28 = .ok (.ishl, 1) := by decide +kernel
theorem dX0_findLeast_29 : decode cX0_findLeast 29 = .ok (.if_icmp .ge 105, 3) := by decide +kernel
theorem dX0_findLeast_32 : decode cX0_findLeast 32 = .ok (.iload 5, 2) := by decide +kernel
theorem dX0_findLeast_34 : decode cX0_findLeast 34 = .ok (.iload_n 2, 1) := by decide +kernel
theorem dX0_findLeast_35 : decode cX0_findLeast 35 = .ok (.iload_n 3, 1) := by decide +kernel
theorem dX0_findLeast_36 : decode cX0_findLeast 36 = .ok (.invokestatic 65, 3) := by decide +kernel
theorem dX0_findLeast_39 : decode cX0_findLeast 39 = .ok (.ifCond .eq 89, 3) := by decide +kernel
theorem dX0_findLeast_42 : decode cX0_findLeast 42 = .ok (.aload_n 0, 1) := by decide +kernel
theorem dX0_findLeast_43 : decode cX0_findLeast 43 = .ok (.aload_n 1, 1) := by decide +kernel
theorem dX0_findLeast_44 : decode cX0_findLeast 44 = .ok (.iload 5, 2) := by decide +kernel
theorem dX0_findLeast_46 : decode cX0_findLeast 46 = .ok (.invokevirtual 69, 3) := by decide +kernel
theorem dX0_findLeast_49 : decode cX0_findLeast 49 = .ok (.istore 6, 2) := by decide +kernel
theorem dX0_findLeast_51 : decode cX0_findLeast 51 = .ok (.aload_n 0, 1) := by decide +kernel
theorem dX0_findLeast_52 : decode cX0_findLeast 52 = .ok (.getfield 62, 3) := by decide +kernel
theorem dX0_findLeast_55 : decode cX0_findLeast 55 = .ok (.ifCond .eq 10, 3) := by decide +kernel
theorem dX0_findLeast_58 : decode cX0_findLeast 58 = .ok (.iload 6, 2) := by decide +kernel
theorem dX0_findLeast_60 : decode cX0_findLeast 60 = .ok (.iload 4, 2) := by decide +kernel
theorem dX0_findLeast_62 : decode cX0_findLeast 62 = .ok (.if_icmp .ge 27, 3) := by decide +kernel
theorem dX0_findLeast_65 : decode cX0_findLeast 65 = .ok (.iload 6, 2) := by decide +kernel
theorem dX0_findLeast_67 : decode cX0_findLeast 67 = .ok (.istore 4, 2) := by decide +kernel
theorem dX0_findLeast_69 : decode cX0_findLeast 69 = .ok (.aload_n 0, 1) := by decide +kernel
theorem dX0_findLeast_70 : decode cX0_findLeast 70 = .ok (.iload 5, 2) := by decide +kernel
theorem dX0_findLeast_72 : decode cX0_findLeast 72 = .ok (.putfield 56, 3) := by decide +kernel
theorem dX0_findLeast_75 : decode cX0_findLeast 75 = .ok (.aload_n 0, 1) := by decide +kernel
theorem dX0_findLeast_76 : decode cX0_findLeast 76 = .ok (.iload 5, 2) := by decide +kernel
theorem dX0_findLeast_78 : decode cX0_findLeast 78 = .ok (.putfield 59, 3) := by decide +kernel
theorem dX0_findLeast_81 : decode cX0_findLeast 81 = .ok (.aload_n 0, 1) := by decide +kernel
theorem dX0_findLeast_82 : decode cX0_findLeast 82 = .ok (.iconst 1, 1) := by decide +kernel
theorem dX0_findLeast_83 : decode cX0_findLeast 83 = .ok (.putfield 62, 3) := by decide +kernel
theorem dX0_findLeast_86 : decode cX0_findLeast 86 = .ok (.goto 42, 3) := by decide +kernel
theorem dX0_findLeast_89 : decode cX0_findLeast 89 = .ok (.iload 6, 2) := by decide +kernel
theorem dX0_findLeast_91 : decode cX0_findLeast 91 = .ok (.iload 4, 2) := by decide +kernel
theorem dX0_findLeast_93 : decode cX0_findLeast 93 = .ok (.if_icmp .ne 35, 3) := by decide +kernel
theorem dX0_findLeast_96 : decode cX0_findLeast 96 = .ok (.aload_n 0, 1) := by decide +kernel
theorem dX0_findLeast_97 : decode cX0_findLeast 97 = .ok (.dup, 1) := by decide +kernel
theorem dX0_findLeast_98 : decode cX0_findLeast 98 = .ok (.getfield 56, 3) := by decide +kernel
theorem dX0_findLeast_101 : decode cX0_findLeast 101 = .ok (.iload 5, 2) := by decide +kernel
theorem dX0_findLeast_103 : decode cX0_findLeast 103 = .ok (.iand, 1) := by decide +kernel
theorem dX0_findLeast_104 : decode cX0_findLeast 104 = .ok (.putfield 56, 3) := by decide +kernel
theorem dX0_findLeast_107 : decode cX0_findLeast 107 = .ok (.aload_n 0, 1) := by decide +kernel
theorem dX0_findLeast_108 : decode cX0_findLeast 108 = .ok (.dup, 1) := by decide +kernel
theorem dX0_findLeast_109 : decode cX0_findLeast 109 = .ok (.getfield 59, 3) := by decide +kernel
theorem dX0_findLeast_112 : decode cX0_findLeast 112 = .ok (.iload 5, 2) := by decide +kernel
theorem dX0_findLeast_114 : decode cX0_findLeast 114 = .ok (.ior, 1) := by decide +kernel
theorem dX0_findLeast_115 : decode cX0_findLeast 115 = .ok (.putfield 59, 3) := by decide +kernel
theorem dX0_findLeast_118 : decode cX0_findLeast 118 = .ok (.aload_n 0, 1) := by decide +kernel
theorem dX0_findLeast_119 : decode cX0_findLeast 119 = .ok (.dup, 1) := by decide +kernel
theorem dX0_findLeast_120 : decode cX0_findLeast 120 = .ok (.getfield 62, 3) := by decide +kernel
theorem dX0_findLeast_123 : decode cX0_findLeast 123 = .ok (.iconst 1, 1) := by decide +kernel
theorem dX0_findLeast_124 : decode cX0_findLeast 124 = .ok (.iadd, 1) := by decide +kernel
theorem dX0_findLeast_125 : decode cX0_findLeast 125 = .ok (.putfield 62, 3) := by decide +kernel
theorem dX0_findLeast_128 : decode cX0_findLeast 128 = .ok (.iinc 5 1, 3) := by decide +kernel
theorem dX0_findLeast_131 : decode cX0_findLeast 131 = .ok (.goto (-110), 3) := by decide +kernel
theorem dX0_findLeast_134 : decode cX0_findLeast 134 = .ok (.return_, 1) := by decide +kernel
theorem dX0_leastCrowd_0 : decode cX0_leastCrowd 0 = .ok (.iconst 1, 1) := by decide +kernel
theorem dX0_leastCrowd_1 : decode cX0_leastCrowd 1 = .ok (.istore 4, 2) := by decide +kernel
theorem dX0_leastCrowd_3 : decode cX0_leastCrowd 3 = .ok (.iload 4, 2) := by decide +kernel
theorem dX0_leastCrowd_5 : decode cX0_leastCrowd 5 = .ok (.iconst 1, 1) := by decide +kernel
theorem dX0_leastCrowd_6 : decode cX0_leastCrowd 6 = .ok (.aload_n 1, 1) := by decide +kernel
theorem dX0_leastCrowd_7 : decode cX0_leastCrowd 7 = .ok (.getfield 46, 3) := by decide +kernel
theorem dX0_leastCrowd_10 : decode cX0_leastCrowd 10 = .ok (.ishl, 1) := by decide +kernel
theorem dX0_leastCrowd_11 : decode cX0_leastCrowd 11 = .ok (.if_icmp .ge 37, 3) := by decide +kernel
theorem dX0_leastCrowd_14 : decode cX0_leastCrowd 14 = .ok (.iload 4, 2) := by decide +kernel
theorem dX0_leastCrowd_16 : decode cX0_leastCrowd 16 = .ok (.iload_n 2, 1) := by decide +kernel
theorem dX0_leastCrowd_17 : decode cX0_leastCrowd 17 = .ok (.invokestatic 49, 3) := by decide +kernel
theorem dX0_leastCrowd_20 : decode cX0_leastCrowd 20 = .ok (.iload 4, 2) := by decide +kernel
theorem dX0_leastCrowd_22 : decode cX0_leastCrowd 22 = .ok (.iload_n 3, 1) := by decide +kernel
theorem dX0_leastCrowd_23 : decode cX0_leastCrowd 23 = .ok (.invokestatic 49, 3) := by decide +kernel
theorem dX0_leastCrowd_26 : decode cX0_leastCrowd 26 = .ok (.if_icmp .ne 16, 3) := by decide +kernel
theorem dX0_leastCrowd_29 : decode cX0_leastCrowd 29 = .ok (.aload_n 0, 1) := by decide +kernel
theorem dX0_leastCrowd_30 : decode cX0_leastCrowd 30 = .ok (.aload_n 1, 1) := by decide +kernel
theorem dX0_leastCrowd_31 : decode cX0_leastCrowd 31 = .ok (.iload 4, 2) := by decide +kernel
theorem dX0_leastCrowd_33 : decode cX0_leastCrowd 33 = .ok (.invokevirtual 73, 3) := by decide +kernel
theorem dX0_leastCrowd_36 : decode cX0_leastCrowd 36 = .ok (.ifCond .eq 6, 3) := by decide +kernel
theorem dX0_leastCrowd_39 : decode cX0_leastCrowd 39 = .ok (.iload 4, 2) := by decide +kernel
theorem dX0_leastCrowd_41 : decode cX0_leastCrowd 41 = .ok (.ireturn, 1) := by decide +kernel
theorem dX0_leastCrowd_42 : decode cX0_leastCrowd 42 = .ok (.iinc 4 1, 3) := by decide +kernel
theorem dX0_leastCrowd_45 : decode cX0_leastCrowd 45 = .ok (.goto (-42), 3) := by decide +kernel
theorem dX0_leastCrowd_48 : decode cX0_leastCrowd 48 = .ok (.iconst (-1), 1) := by decide +kernel
theorem dX0_leastCrowd_49 : decode cX0_leastCrowd 49 = .ok (.ireturn, 1) := by decide +kernel
theorem dX0_leastBreaker_0 : decode cX0_leastBreaker 0 = .ok (.iconst 1, 1) := by decide +kernel
theorem dX0_leastBreaker_1 : decode cX0_leastBreaker 1 = .ok (.istore_n 2, 1) := by decide +kernel
theorem dX0_leastBreaker_2 : decode cX0_leastBreaker 2 = .ok (.iload_n 2, 1) := by decide +kernel
theorem dX0_leastBreaker_3 : decode cX0_leastBreaker 3 = .ok (.iconst 1, 1) := by decide +kernel
theorem dX0_leastBreaker_4 : decode cX0_leastBreaker 4 = .ok (.aload_n 1, 1) := by decide +kernel
theorem dX0_leastBreaker_5 : decode cX0_leastBreaker 5 = .ok (.getfield 46, 3) := by decide +kernel
theorem dX0_leastBreaker_8 : decode cX0_leastBreaker 8 = .ok (.ishl, 1) := by decide +kernel
theorem dX0_leastBreaker_9 : decode cX0_leastBreaker 9 = .ok (.if_icmp .ge 20, 3) := by decide +kernel
theorem dX0_leastBreaker_12 : decode cX0_leastBreaker 12 = .ok (.aload_n 0, 1) := by decide +kernel
theorem dX0_leastBreaker_13 : decode cX0_leastBreaker 13 = .ok (.aload_n 1, 1) := by decide +kernel
theorem dX0_leastBreaker_14 : decode cX0_leastBreaker 14 = .ok (.iload_n 2, 1) := by decide +kernel
theorem dX0_leastBreaker_15 : decode cX0_leastBreaker 15 = .ok (.invokevirtual 77, 3) := by decide +kernel
theorem dX0_leastBreaker_18 : decode cX0_leastBreaker 18 = .ok (.ifCond .eq 5, 3) := by decide +kernel
theorem dX0_leastBreaker_21 : decode cX0_leastBreaker 21 = .ok (.iload_n 2, 1) := by decide +kernel
theorem dX0_leastBreaker_22 : decode cX0_leastBreaker 22 = .ok (.ireturn, 1) := by decide +kernel
theorem dX0_leastBreaker_23 : decode cX0_leastBreaker 23 = .ok (.iinc 2 1, 3) := by decide +kernel
theorem dX0_leastBreaker_26 : decode cX0_leastBreaker 26 = .ok (.goto (-24), 3) := by decide +kernel
theorem dX0_leastBreaker_29 : decode cX0_leastBreaker 29 = .ok (.iconst (-1), 1) := by decide +kernel
theorem dX0_leastBreaker_30 : decode cX0_leastBreaker 30 = .ok (.ireturn, 1) := by decide +kernel
theorem dX0_fewestApart_0 : decode cX0_fewestApart 0 = .ok (.iconst 0, 1) := by decide +kernel
theorem dX0_fewestApart_1 : decode cX0_fewestApart 1 = .ok (.istore 4, 2) := by decide +kernel
theorem dX0_fewestApart_3 : decode cX0_fewestApart 3 = .ok (.bipush 9, 2) := by decide +kernel
theorem dX0_fewestApart_5 : decode cX0_fewestApart 5 = .ok (.istore 5, 2) := by decide +kernel
theorem dX0_fewestApart_7 : decode cX0_fewestApart 7 = .ok (.iconst 0, 1) := by decide +kernel
theorem dX0_fewestApart_8 : decode cX0_fewestApart 8 = .ok (.istore 6, 2) := by decide +kernel
theorem dX0_fewestApart_10 : decode cX0_fewestApart 10 = .ok (.iload 6, 2) := by decide +kernel
theorem dX0_fewestApart_12 : decode cX0_fewestApart 12 = .ok (.iconst 1, 1) := by decide +kernel
theorem dX0_fewestApart_13 : decode cX0_fewestApart 13 = .ok (.aload_n 1, 1) := by decide +kernel
theorem dX0_fewestApart_14 : decode cX0_fewestApart 14 = .ok (.getfield 46, 3) := by decide +kernel
theorem dX0_fewestApart_17 : decode cX0_fewestApart 17 = .ok (.ishl, 1) := by decide +kernel
theorem dX0_fewestApart_18 : decode cX0_fewestApart 18 = .ok (.if_icmp .ge 63, 3) := by decide +kernel
theorem dX0_fewestApart_21 : decode cX0_fewestApart 21 = .ok (.iload 6, 2) := by decide +kernel
theorem dX0_fewestApart_23 : decode cX0_fewestApart 23 = .ok (.invokestatic 80, 3) := by decide +kernel
theorem dX0_fewestApart_26 : decode cX0_fewestApart 26 = .ok (.istore 7, 2) := by decide +kernel
theorem dX0_fewestApart_28 : decode cX0_fewestApart 28 = .ok (.iload 7, 2) := by decide +kernel
theorem dX0_fewestApart_30 : decode cX0_fewestApart 30 = .ok (.iload 5, 2) := by decide +kernel
theorem dX0_fewestApart_32 : decode cX0_fewestApart 32 = .ok (.if_icmp .ge 43, 3) := by decide +kernel
theorem dX0_fewestApart_35 : decode cX0_fewestApart 35 = .ok (.iload 6, 2) := by decide +kernel
theorem dX0_fewestApart_37 : decode cX0_fewestApart 37 = .ok (.iload_n 2, 1) := by decide +kernel
theorem dX0_fewestApart_38 : decode cX0_fewestApart 38 = .ok (.invokestatic 49, 3) := by decide +kernel
theorem dX0_fewestApart_41 : decode cX0_fewestApart 41 = .ok (.ifCond .ne 34, 3) := by decide +kernel
theorem dX0_fewestApart_44 : decode cX0_fewestApart 44 = .ok (.iload 6, 2) := by decide +kernel
theorem dX0_fewestApart_46 : decode cX0_fewestApart 46 = .ok (.iload_n 3, 1) := by decide +kernel
theorem dX0_fewestApart_47 : decode cX0_fewestApart 47 = .ok (.invokestatic 49, 3) := by decide +kernel
theorem dX0_fewestApart_50 : decode cX0_fewestApart 50 = .ok (.ifCond .ne 25, 3) := by decide +kernel
theorem dX0_fewestApart_53 : decode cX0_fewestApart 53 = .ok (.aload_n 1, 1) := by decide +kernel
theorem dX0_fewestApart_54 : decode cX0_fewestApart 54 = .ok (.iload_n 2, 1) := by decide +kernel
theorem dX0_fewestApart_55 : decode cX0_fewestApart 55 = .ok (.iload 6, 2) := by decide +kernel
theorem dX0_fewestApart_57 : decode cX0_fewestApart 57 = .ok (.invokevirtual 86, 3) := by decide +kernel
theorem dX0_fewestApart_60 : decode cX0_fewestApart 60 = .ok (.iload_n 3, 1) := by decide +kernel
theorem dX0_fewestApart_61 : decode cX0_fewestApart 61 = .ok (.invokestatic 49, 3) := by decide +kernel
theorem dX0_fewestApart_64 : decode cX0_fewestApart 64 = .ok (.ifCond .ne 11, 3) := by decide +kernel
theorem dX0_fewestApart_67 : decode cX0_fewestApart 67 = .ok (.iload 6, 2) := by decide +kernel
theorem dX0_fewestApart_69 : decode cX0_fewestApart 69 = .ok (.istore 4, 2) := by decide +kernel
theorem dX0_fewestApart_71 : decode cX0_fewestApart 71 = .ok (.iload 7, 2) := by decide +kernel
theorem dX0_fewestApart_73 : decode cX0_fewestApart 73 = .ok (.istore 5, 2) := by decide +kernel
theorem dX0_fewestApart_75 : decode cX0_fewestApart 75 = .ok (.iinc 6 1, 3) := by decide +kernel
theorem dX0_fewestApart_78 : decode cX0_fewestApart 78 = .ok (.goto (-68), 3) := by decide +kernel
theorem dX0_fewestApart_81 : decode cX0_fewestApart 81 = .ok (.iload 4, 2) := by decide +kernel
theorem dX0_fewestApart_83 : decode cX0_fewestApart 83 = .ok (.ireturn, 1) := by decide +kernel
theorem dX1_init_0 : decode cX1_init 0 = .ok (.aload_n 0, 1) := by decide +kernel
theorem dX1_init_1 : decode cX1_init 1 = .ok (.invokespecial 5, 3) := by decide +kernel
theorem dX1_init_4 : decode cX1_init 4 = .ok (.aload_n 0, 1) := by decide +kernel
theorem dX1_init_5 : decode cX1_init 5 = .ok (.bipush 32, 2) := by decide +kernel
theorem dX1_init_7 : decode cX1_init 7 = .ok (.newarray .int, 2) := by decide +kernel
theorem dX1_init_9 : decode cX1_init 9 = .ok (.putfield 11, 3) := by decide +kernel
theorem dX1_init_12 : decode cX1_init 12 = .ok (.aload_n 0, 1) := by decide +kernel
theorem dX1_init_13 : decode cX1_init 13 = .ok (.bipush 32, 2) := by decide +kernel
theorem dX1_init_15 : decode cX1_init 15 = .ok (.newarray .int, 2) := by decide +kernel
theorem dX1_init_17 : decode cX1_init 17 = .ok (.putfield 15, 3) := by decide +kernel
theorem dX1_init_20 : decode cX1_init 20 = .ok (.aload_n 0, 1) := by decide +kernel
theorem dX1_init_21 : decode cX1_init 21 = .ok (.bipush 32, 2) := by decide +kernel
theorem dX1_init_23 : decode cX1_init 23 = .ok (.newarray .int, 2) := by decide +kernel
theorem dX1_init_25 : decode cX1_init 25 = .ok (.putfield 18, 3) := by decide +kernel
theorem dX1_init_28 : decode cX1_init 28 = .ok (.aload_n 0, 1) := by decide +kernel
theorem dX1_init_29 : decode cX1_init 29 = .ok (.bipush 32, 2) := by decide +kernel
theorem dX1_init_31 : decode cX1_init 31 = .ok (.newarray .int, 2) := by decide +kernel
theorem dX1_init_33 : decode cX1_init 33 = .ok (.putfield 21, 3) := by decide +kernel
theorem dX1_init_36 : decode cX1_init 36 = .ok (.aload_n 0, 1) := by decide +kernel
theorem dX1_init_37 : decode cX1_init 37 = .ok (.bipush 32, 2) := by decide +kernel
theorem dX1_init_39 : decode cX1_init 39 = .ok (.newarray .int, 2) := by decide +kernel
theorem dX1_init_41 : decode cX1_init 41 = .ok (.putfield 24, 3) := by decide +kernel
theorem dX1_init_44 : decode cX1_init 44 = .ok (.aload_n 0, 1) := by decide +kernel
theorem dX1_init_45 : decode cX1_init 45 = .ok (.bipush 32, 2) := by decide +kernel
theorem dX1_init_47 : decode cX1_init 47 = .ok (.newarray .int, 2) := by decide +kernel
theorem dX1_init_49 : decode cX1_init 49 = .ok (.putfield 27, 3) := by decide +kernel
theorem dX1_init_52 : decode cX1_init 52 = .ok (.aload_n 0, 1) := by decide +kernel
theorem dX1_init_53 : decode cX1_init 53 = .ok (.bipush 32, 2) := by decide +kernel
theorem dX1_init_55 : decode cX1_init 55 = .ok (.newarray .int, 2) := by decide +kernel
theorem dX1_init_57 : decode cX1_init 57 = .ok (.putfield 30, 3) := by decide +kernel
theorem dX1_init_60 : decode cX1_init 60 = .ok (.aload_n 0, 1) := by decide +kernel
theorem dX1_init_61 : decode cX1_init 61 = .ok (.bipush 32, 2) := by decide +kernel
theorem dX1_init_63 : decode cX1_init 63 = .ok (.newarray .int, 2) := by decide +kernel
theorem dX1_init_65 : decode cX1_init 65 = .ok (.putfield 33, 3) := by decide +kernel
theorem dX1_init_68 : decode cX1_init 68 = .ok (.aload_n 0, 1) := by decide +kernel
theorem dX1_init_69 : decode cX1_init 69 = .ok (.bipush 16, 2) := by decide +kernel
theorem dX1_init_71 : decode cX1_init 71 = .ok (.newarray .int, 2) := by decide +kernel
theorem dX1_init_73 : decode cX1_init 73 = .ok (.putfield 36, 3) := by decide +kernel
theorem dX1_init_76 : decode cX1_init 76 = .ok (.aload_n 0, 1) := by decide +kernel
theorem dX1_init_77 : decode cX1_init 77 = .ok (.bipush 16, 2) := by decide +kernel
theorem dX1_init_79 : decode cX1_init 79 = .ok (.newarray .int, 2) := by decide +kernel
theorem dX1_init_81 : decode cX1_init 81 = .ok (.putfield 39, 3) := by decide +kernel
theorem dX1_init_84 : decode cX1_init 84 = .ok (.aload_n 0, 1) := by decide +kernel
theorem dX1_init_85 : decode cX1_init 85 = .ok (.bipush 16, 2) := by decide +kernel
theorem dX1_init_87 : decode cX1_init 87 = .ok (.newarray .int, 2) := by decide +kernel
theorem dX1_init_89 : decode cX1_init 89 = .ok (.putfield 42, 3) := by decide +kernel
theorem dX1_init_92 : decode cX1_init 92 = .ok (.return_, 1) := by decide +kernel
theorem dX1_start_0 : decode cX1_start 0 = .ok (.aload_n 0, 1) := by decide +kernel
theorem dX1_start_1 : decode cX1_start 1 = .ok (.iload_n 1, 1) := by decide +kernel
theorem dX1_start_2 : decode cX1_start 2 = .ok (.ifCond .ge 7, 3) := by decide +kernel
theorem dX1_start_5 : decode cX1_start 5 = .ok (.iconst 0, 1) := by decide +kernel
theorem dX1_start_6 : decode cX1_start 6 = .ok (.goto 15, 3) := by decide +kernel
theorem dX1_start_9 : decode cX1_start 9 = .ok (.iload_n 1, 1) := by decide +kernel
theorem dX1_start_10 : decode cX1_start 10 = .ok (.bipush 16, 2) := by decide +kernel
theorem dX1_start_12 : decode cX1_start 12 = .ok (.if_icmp .le 8, 3) := by decide +kernel
theorem dX1_start_15 : decode cX1_start 15 = .ok (.bipush 16, 2) := by decide +kernel
theorem dX1_start_17 : decode cX1_start 17 = .ok (.goto 4, 3) := by decide +kernel
theorem dX1_start_20 : decode cX1_start 20 = .ok (.iload_n 1, 1) := by decide +kernel
theorem dX1_start_21 : decode cX1_start 21 = .ok (.putfield 45, 3) := by decide +kernel
theorem dX1_start_24 : decode cX1_start 24 = .ok (.aload_n 0, 1) := by decide +kernel
theorem dX1_start_25 : decode cX1_start 25 = .ok (.iconst 0, 1) := by decide +kernel
theorem dX1_start_26 : decode cX1_start 26 = .ok (.putfield 49, 3) := by decide +kernel
theorem dX1_start_29 : decode cX1_start 29 = .ok (.aload_n 0, 1) := by decide +kernel
theorem dX1_start_30 : decode cX1_start 30 = .ok (.iconst 0, 1) := by decide +kernel
theorem dX1_start_31 : decode cX1_start 31 = .ok (.putfield 52, 3) := by decide +kernel
theorem dX1_start_34 : decode cX1_start 34 = .ok (.return_, 1) := by decide +kernel
theorem dX1_add_0 : decode cX1_add 0 = .ok (.aload_n 0, 1) := by decide +kernel
theorem dX1_add_1 : decode cX1_add 1 = .ok (.getfield 49, 3) := by decide +kernel
theorem dX1_add_4 : decode cX1_add 4 = .ok (.ifCond .lt 28, 3) := by decide +kernel
theorem dX1_add_7 : decode cX1_add 7 = .ok (.aload_n 0, 1) := by decide +kernel
theorem dX1_add_8 : decode cX1_add 8 = .ok (.getfield 49, 3) := by decide +kernel
theorem dX1_add_11 : decode cX1_add 11 = .ok (.bipush 32, 2) := by decide +kernel
theorem dX1_add_13 : decode cX1_add 13 = .ok (.if_icmp .ge 19, 3) := by decide +kernel
theorem dX1_add_16 : decode cX1_add 16 = .ok (.aload_n 0, 1) := by decide +kernel
theorem dX1_add_17 : decode cX1_add 17 = .ok (.iload_n 1, 1) := by decide +kernel
theorem dX1_add_18 : decode cX1_add 18 = .ok (.invokevirtual 55, 3) := by decide +kernel
theorem dX1_add_21 : decode cX1_add 21 = .ok (.ifCond .eq 11, 3) := by decide +kernel
theorem dX1_add_24 : decode cX1_add 24 = .ok (.aload_n 0, 1) := by decide +kernel
theorem dX1_add_25 : decode cX1_add 25 = .ok (.iload_n 2, 1) := by decide +kernel
theorem dX1_add_26 : decode cX1_add 26 = .ok (.invokevirtual 55, 3) := by decide +kernel
theorem dX1_add_29 : decode cX1_add 29 = .ok (.ifCond .ne 4, 3) := by decide +kernel
theorem dX1_add_32 : decode cX1_add 32 = .ok (.return_, 1) := by decide +kernel
theorem dX1_add_33 : decode cX1_add 33 = .ok (.aload_n 0, 1) := by decide +kernel
theorem dX1_add_34 : decode cX1_add 34 = .ok (.getfield 11, 3) := by decide +kernel
theorem dX1_add_37 : decode cX1_add 37 = .ok (.aload_n 0, 1) := by decide +kernel
theorem dX1_add_38 : decode cX1_add 38 = .ok (.getfield 49, 3) := by decide +kernel
theorem dX1_add_41 : decode cX1_add 41 = .ok (.iload_n 1, 1) := by decide +kernel
theorem dX1_add_42 : decode cX1_add 42 = .ok (.iastore, 1) := by decide +kernel
theorem dX1_add_43 : decode cX1_add 43 = .ok (.aload_n 0, 1) := by decide +kernel
theorem dX1_add_44 : decode cX1_add 44 = .ok (.getfield 15, 3) := by decide +kernel
theorem dX1_add_47 : decode cX1_add 47 = .ok (.aload_n 0, 1) := by decide +kernel
theorem dX1_add_48 : decode cX1_add 48 = .ok (.getfield 49, 3) := by decide +kernel
theorem dX1_add_51 : decode cX1_add 51 = .ok (.iload_n 2, 1) := by decide +kernel
theorem dX1_add_52 : decode cX1_add 52 = .ok (.iastore, 1) := by decide +kernel
theorem dX1_add_53 : decode cX1_add 53 = .ok (.aload_n 0, 1) := by decide +kernel
theorem dX1_add_54 : decode cX1_add 54 = .ok (.getfield 24, 3) := by decide +kernel
theorem dX1_add_57 : decode cX1_add 57 = .ok (.aload_n 0, 1) := by decide +kernel
theorem dX1_add_58 : decode cX1_add 58 = .ok (.getfield 49, 3) := by decide +kernel
theorem dX1_add_61 : decode cX1_add 61 = .ok (.iload 5, 2) := by decide +kernel
theorem dX1_add_63 : decode cX1_add 63 = .ok (.iastore, 1) := by decide +kernel
theorem dX1_add_64 : decode cX1_add 64 = .ok (.aload_n 0, 1) := by decide +kernel
theorem dX1_add_65 : decode cX1_add 65 = .ok (.getfield 33, 3) := by decide +kernel
theorem dX1_add_68 : decode cX1_add 68 = .ok (.aload_n 0, 1) := by decide +kernel
theorem dX1_add_69 : decode cX1_add 69 = .ok (.getfield 49, 3) := by decide +kernel
theorem dX1_add_72 : decode cX1_add 72 = .ok (.iconst 0, 1) := by decide +kernel
theorem dX1_add_73 : decode cX1_add 73 = .ok (.iastore, 1) := by decide +kernel
theorem dX1_add_74 : decode cX1_add 74 = .ok (.aload_n 0, 1) := by decide +kernel
theorem dX1_add_75 : decode cX1_add 75 = .ok (.dup, 1) := by decide +kernel
theorem dX1_add_76 : decode cX1_add 76 = .ok (.getfield 49, 3) := by decide +kernel
theorem dX1_add_79 : decode cX1_add 79 = .ok (.iconst 1, 1) := by decide +kernel
theorem dX1_add_80 : decode cX1_add 80 = .ok (.iadd, 1) := by decide +kernel
theorem dX1_add_81 : decode cX1_add 81 = .ok (.putfield 49, 3) := by decide +kernel
theorem dX1_add_84 : decode cX1_add 84 = .ok (.aload_n 0, 1) := by decide +kernel
theorem dX1_add_85 : decode cX1_add 85 = .ok (.aload_n 0, 1) := by decide +kernel
theorem dX1_add_86 : decode cX1_add 86 = .ok (.getfield 49, 3) := by decide +kernel
theorem dX1_add_89 : decode cX1_add 89 = .ok (.iconst 1, 1) := by decide +kernel
theorem dX1_add_90 : decode cX1_add 90 = .ok (.isub, 1) := by decide +kernel
theorem dX1_add_91 : decode cX1_add 91 = .ok (.iload_n 3, 1) := by decide +kernel
theorem dX1_add_92 : decode cX1_add 92 = .ok (.iload 4, 2) := by decide +kernel
theorem dX1_add_94 : decode cX1_add 94 = .ok (.invokevirtual 59, 3) := by decide +kernel
theorem dX1_add_97 : decode cX1_add 97 = .ok (.return_, 1) := by decide +kernel
theorem dX1_setBounds_0 : decode cX1_setBounds 0 = .ok (.aload_n 0, 1) := by decide +kernel
theorem dX1_setBounds_1 : decode cX1_setBounds 1 = .ok (.iload_n 1, 1) := by decide +kernel
theorem dX1_setBounds_2 : decode cX1_setBounds 2 = .ok (.invokevirtual 63, 3) := by decide +kernel
theorem dX1_setBounds_5 : decode cX1_setBounds 5 = .ok (.ifCond .eq 39, 3) := by decide +kernel
theorem dX1_setBounds_8 : decode cX1_setBounds 8 = .ok (.aload_n 0, 1) := by decide +kernel
theorem dX1_setBounds_9 : decode cX1_setBounds 9 = .ok (.getfield 18, 3) := by decide +kernel
theorem dX1_setBounds_12 : decode cX1_setBounds 12 = .ok (.iload_n 1, 1) := by decide +kernel
theorem dX1_setBounds_13 : decode cX1_setBounds 13 = .ok (.iload_n 2, 1) := by decide +kernel
theorem dX1_setBounds_14 : decode cX1_setBounds 14 = .ok (.iastore, 1) := by decide +kernel
theorem dX1_setBounds_15 : decode cX1_setBounds 15 = .ok (.aload_n 0, 1) := by decide +kernel
theorem dX1_setBounds_16 : decode cX1_setBounds 16 = .ok (.getfield 21, 3) := by decide +kernel
theorem dX1_setBounds_19 : decode cX1_setBounds 19 = .ok (.iload_n 1, 1) := by decide +kernel
theorem dX1_setBounds_20 : decode cX1_setBounds 20 = .ok (.iload_n 3, 1) := by decide +kernel
theorem dX1_setBounds_21 : decode cX1_setBounds 21 = .ok (.iastore, 1) := by decide +kernel
theorem dX1_setBounds_22 : decode cX1_setBounds 22 = .ok (.aload_n 0, 1) := by decide +kernel
theorem dX1_setBounds_23 : decode cX1_setBounds 23 = .ok (.getfield 27, 3) := by decide +kernel
theorem dX1_setBounds_26 : decode cX1_setBounds 26 = .ok (.iload_n 1, 1) := by decide +kernel
theorem dX1_setBounds_27 : decode cX1_setBounds 27 = .ok (.iload_n 2, 1) := by decide +kernel
theorem dX1_setBounds_28 : decode cX1_setBounds 28 = .ok (.ifCond .ge 7, 3) := by decide +kernel
theorem dX1_setBounds_31 : decode cX1_setBounds 31 = .ok (.iload_n 2, 1) := by decide +kernel
theorem dX1_setBounds_32 : decode cX1_setBounds 32 = .ok (.goto 4, 3) := by decide +kernel
theorem dX1_setBounds_35 : decode cX1_setBounds 35 = .ok (.iconst 0, 1) := by decide +kernel
theorem dX1_setBounds_36 : decode cX1_setBounds 36 = .ok (.iastore, 1) := by decide +kernel
theorem dX1_setBounds_37 : decode cX1_setBounds 37 = .ok (.aload_n 0, 1) := by decide +kernel
theorem dX1_setBounds_38 : decode cX1_setBounds 38 = .ok (.getfield 30, 3) := by decide +kernel
theorem dX1_setBounds_41 : decode cX1_setBounds 41 = .ok (.iload_n 1, 1) := by decide +kernel
theorem dX1_setBounds_42 : decode cX1_setBounds 42 = .ok (.iload_n 3, 1) := by decide +kernel
theorem dX1_setBounds_43 : decode cX1_setBounds 43 = .ok (.iastore, 1) := by decide +kernel
theorem dX1_setBounds_44 : decode cX1_setBounds 44 = .ok (.return_, 1) := by decide +kernel
theorem dX1_isNode_0 : decode cX1_isNode 0 = .ok (.iload_n 1, 1) := by decide +kernel
theorem dX1_isNode_1 : decode cX1_isNode 1 = .ok (.ifCond .lt 15, 3) := by decide +kernel
theorem dX1_isNode_4 : decode cX1_isNode 4 = .ok (.iload_n 1, 1) := by decide +kernel
theorem dX1_isNode_5 : decode cX1_isNode 5 = .ok (.aload_n 0, 1) := by decide +kernel
theorem dX1_isNode_6 : decode cX1_isNode 6 = .ok (.getfield 45, 3) := by decide +kernel
theorem dX1_isNode_9 : decode cX1_isNode 9 = .ok (.if_icmp .ge 7, 3) := by decide +kernel
theorem dX1_isNode_12 : decode cX1_isNode 12 = .ok (.iconst 1, 1) := by decide +kernel
theorem dX1_isNode_13 : decode cX1_isNode 13 = .ok (.goto 4, 3) := by decide +kernel
theorem dX1_isNode_16 : decode cX1_isNode 16 = .ok (.iconst 0, 1) := by decide +kernel
theorem dX1_isNode_17 : decode cX1_isNode 17 = .ok (.ireturn, 1) := by decide +kernel
theorem dX1_isEdge_0 : decode cX1_isEdge 0 = .ok (.iload_n 1, 1) := by decide +kernel
theorem dX1_isEdge_1 : decode cX1_isEdge 1 = .ok (.ifCond .lt 15, 3) := by decide +kernel
theorem dX1_isEdge_4 : decode cX1_isEdge 4 = .ok (.iload_n 1, 1) := by decide +kernel
theorem dX1_isEdge_5 : decode cX1_isEdge 5 = .ok (.aload_n 0, 1) := by decide +kernel
theorem dX1_isEdge_6 : decode cX1_isEdge 6 = .ok (.getfield 49, 3) := by decide +kernel
theorem dX1_isEdge_9 : decode cX1_isEdge 9 = .ok (.if_icmp .ge 7, 3) := by decide +kernel
theorem dX1_isEdge_12 : decode cX1_isEdge 12 = .ok (.iconst 1, 1) := by decide +kernel
theorem dX1_isEdge_13 : decode cX1_isEdge 13 = .ok (.goto 4, 3) := by decide +kernel
theorem dX1_isEdge_16 : decode cX1_isEdge 16 = .ok (.iconst 0, 1) := by decide +kernel
theorem dX1_isEdge_17 : decode cX1_isEdge 17 = .ok (.ireturn, 1) := by decide +kernel
theorem dX1_numberOf_0 : decode cX1_numberOf 0 = .ok (.aload_n 0, 1) := by decide +kernel
theorem dX1_numberOf_1 : decode cX1_numberOf 1 = .ok (.iload_n 1, 1) := by decide +kernel
theorem dX1_numberOf_2 : decode cX1_numberOf 2 = .ok (.invokevirtual 63, 3) := by decide +kernel
theorem dX1_numberOf_5 : decode cX1_numberOf 5 = .ok (.ifCond .eq 12, 3) := by decide +kernel
theorem dX1_numberOf_8 : decode cX1_numberOf 8 = .ok (.aload_n 0, 1) := by decide +kernel
theorem dX1_numberOf_9 : decode cX1_numberOf 9 = .ok (.getfield 33, 3) := by decide +kernel
theorem dX1_numberOf_12 : decode cX1_numberOf 12 = .ok (.iload_n 1, 1) := by decide +kernel
theorem dX1_numberOf_13 : decode cX1_numberOf 13 = .ok (.iaload, 1) := by decide +kernel
theorem dX1_numberOf_14 : decode cX1_numberOf 14 = .ok (.goto 4, 3) := by decide +kernel
theorem dX1_numberOf_17 : decode cX1_numberOf 17 = .ok (.iconst 0, 1) := by decide +kernel
theorem dX1_numberOf_18 : decode cX1_numberOf 18 = .ok (.ireturn, 1) := by decide +kernel
theorem dX1_keep_0 : decode cX1_keep 0 = .ok (.aload_n 0, 1) := by decide +kernel
theorem dX1_keep_1 : decode cX1_keep 1 = .ok (.iload_n 1, 1) := by decide +kernel
theorem dX1_keep_2 : decode cX1_keep 2 = .ok (.invokevirtual 63, 3) := by decide +kernel
theorem dX1_keep_5 : decode cX1_keep 5 = .ok (.ifCond .eq 27, 3) := by decide +kernel
theorem dX1_keep_8 : decode cX1_keep 8 = .ok (.aload_n 0, 1) := by decide +kernel
theorem dX1_keep_9 : decode cX1_keep 9 = .ok (.getfield 27, 3) := by decide +kernel
theorem dX1_keep_12 : decode cX1_keep 12 = .ok (.iload_n 1, 1) := by decide +kernel
theorem dX1_keep_13 : decode cX1_keep 13 = .ok (.aload_n 0, 1) := by decide +kernel
theorem dX1_keep_14 : decode cX1_keep 14 = .ok (.getfield 33, 3) := by decide +kernel
theorem dX1_keep_17 : decode cX1_keep 17 = .ok (.iload_n 1, 1) := by decide +kernel
theorem dX1_keep_18 : decode cX1_keep 18 = .ok (.iaload, 1) := by decide +kernel
theorem dX1_keep_19 : decode cX1_keep 19 = .ok (.iastore, 1) := by decide +kernel
theorem dX1_keep_20 : decode cX1_keep 20 = .ok (.aload_n 0, 1) := by decide +kernel
theorem dX1_keep_21 : decode cX1_keep 21 = .ok (.getfield 30, 3) := by decide +kernel
theorem dX1_keep_24 : decode cX1_keep 24 = .ok (.iload_n 1, 1) := by decide +kernel
theorem dX1_keep_25 : decode cX1_keep 25 = .ok (.aload_n 0, 1) := by decide +kernel
theorem dX1_keep_26 : decode cX1_keep 26 = .ok (.getfield 33, 3) := by decide +kernel
theorem dX1_keep_29 : decode cX1_keep 29 = .ok (.iload_n 1, 1) := by decide +kernel
theorem dX1_keep_30 : decode cX1_keep 30 = .ok (.iaload, 1) := by decide +kernel
theorem dX1_keep_31 : decode cX1_keep 31 = .ok (.iastore, 1) := by decide +kernel
theorem dX1_keep_32 : decode cX1_keep 32 = .ok (.return_, 1) := by decide +kernel
theorem dX1_free_0 : decode cX1_free 0 = .ok (.aload_n 0, 1) := by decide +kernel
theorem dX1_free_1 : decode cX1_free 1 = .ok (.iload_n 1, 1) := by decide +kernel
theorem dX1_free_2 : decode cX1_free 2 = .ok (.invokevirtual 63, 3) := by decide +kernel
theorem dX1_free_5 : decode cX1_free 5 = .ok (.ifCond .eq 27, 3) := by decide +kernel
theorem dX1_free_8 : decode cX1_free 8 = .ok (.aload_n 0, 1) := by decide +kernel
theorem dX1_free_9 : decode cX1_free 9 = .ok (.getfield 27, 3) := by decide +kernel
theorem dX1_free_12 : decode cX1_free 12 = .ok (.iload_n 1, 1) := by decide +kernel
theorem dX1_free_13 : decode cX1_free 13 = .ok (.aload_n 0, 1) := by decide +kernel
theorem dX1_free_14 : decode cX1_free 14 = .ok (.getfield 18, 3) := by decide +kernel
theorem dX1_free_17 : decode cX1_free 17 = .ok (.iload_n 1, 1) := by decide +kernel
theorem dX1_free_18 : decode cX1_free 18 = .ok (.iaload, 1) := by decide +kernel
theorem dX1_free_19 : decode cX1_free 19 = .ok (.iastore, 1) := by decide +kernel
theorem dX1_free_20 : decode cX1_free 20 = .ok (.aload_n 0, 1) := by decide +kernel
theorem dX1_free_21 : decode cX1_free 21 = .ok (.getfield 30, 3) := by decide +kernel
theorem dX1_free_24 : decode cX1_free 24 = .ok (.iload_n 1, 1) := by decide +kernel
theorem dX1_free_25 : decode cX1_free 25 = .ok (.aload_n 0, 1) := by decide +kernel
theorem dX1_free_26 : decode cX1_free 26 = .ok (.getfield 21, 3) := by decide +kernel
theorem dX1_free_29 : decode cX1_free 29 = .ok (.iload_n 1, 1) := by decide +kernel
theorem dX1_free_30 : decode cX1_free 30 = .ok (.iaload, 1) := by decide +kernel
theorem dX1_free_31 : decode cX1_free 31 = .ok (.iastore, 1) := by decide +kernel
theorem dX1_free_32 : decode cX1_free 32 = .ok (.return_, 1) := by decide +kernel
theorem dX1_settle_0 : decode cX1_settle 0 = .ok (.iconst 0, 1) := by decide +kernel
theorem dX1_settle_1 : decode cX1_settle 1 = .ok (.istore_n 1, 1) := by decide +kernel
theorem dX1_settle_2 : decode cX1_settle 2 = .ok (.iload_n 1, 1) := by decide +kernel
theorem dX1_settle_3 : decode cX1_settle 3 = .ok (.aload_n 0, 1) := by decide +kernel
theorem dX1_settle_4 : decode cX1_settle 4 = .ok (.getfield 49, 3) := by decide +kernel
theorem dX1_settle_7 : decode cX1_settle 7 = .ok (.if_icmp .ge 76, 3) := by decide +kernel
theorem dX1_settle_10 : decode cX1_settle 10 = .ok (.aload_n 0, 1) := by decide +kernel
theorem dX1_settle_11 : decode cX1_settle 11 = .ok (.getfield 18, 3) := by decide +kernel
theorem dX1_settle_14 : decode cX1_settle 14 = .ok (.iload_n 1, 1) := by decide +kernel
theorem dX1_settle_15 : decode cX1_settle 15 = .ok (.iaload, 1) := by decide +kernel
theorem dX1_settle_16 : decode cX1_settle 16 = .ok (.aload_n 0, 1) := by decide +kernel
theorem dX1_settle_17 : decode cX1_settle 17 = .ok (.getfield 33, 3) := by decide +kernel
theorem dX1_settle_20 : decode cX1_settle 20 = .ok (.iload_n 1, 1) := by decide +kernel
theorem dX1_settle_21 : decode cX1_settle 21 = .ok (.iaload, 1) := by decide +kernel
theorem dX1_settle_22 : decode cX1_settle 22 = .ok (.isub, 1) := by decide +kernel
theorem dX1_settle_23 : decode cX1_settle 23 = .ok (.istore_n 2, 1) := by decide +kernel
theorem dX1_settle_24 : decode cX1_settle 24 = .ok (.aload_n 0, 1) := by decide +kernel
theorem dX1_settle_25 : decode cX1_settle 25 = .ok (.iload_n 1, 1) := by decide +kernel
theorem dX1_settle_26 : decode cX1_settle 26 = .ok (.invokevirtual 66, 3) := by decide +kernel
theorem dX1_settle_29 : decode cX1_settle 29 = .ok (.aload_n 0, 1) := by decide +kernel
theorem dX1_settle_30 : decode cX1_settle 30 = .ok (.getfield 33, 3) := by decide +kernel
theorem dX1_settle_33 : decode cX1_settle 33 = .ok (.iload_n 1, 1) := by decide +kernel
theorem dX1_settle_34 : decode cX1_settle 34 = .ok (.dup2, 1) := by decide +kernel
theorem dX1_settle_35 : decode cX1_settle 35 = .ok (.iaload, 1) := by decide +kernel
theorem dX1_settle_36 : decode cX1_settle 36 = .ok (.aload_n 0, 1) := by decide +kernel
theorem dX1_settle_37 : decode cX1_settle 37 = .ok (.aload_n 0, 1) := by decide +kernel
theorem dX1_settle_38 : decode cX1_settle 38 = .ok (.getfield 15, 3) := by decide +kernel
theorem dX1_settle_41 : decode cX1_settle 41 = .ok (.iload_n 1, 1) := by decide +kernel
theorem dX1_settle_42 : decode cX1_settle 42 = .ok (.iaload, 1) := by decide +kernel
theorem dX1_settle_43 : decode cX1_settle 43 = .ok (.aload_n 0, 1) := by decide +kernel
theorem dX1_settle_44 : decode cX1_settle 44 = .ok (.getfield 11, 3) := by decide +kernel
theorem dX1_settle_47 : decode cX1_settle 47 = .ok (.iload_n 1, 1) := by decide +kernel
theorem dX1_settle_48 : decode cX1_settle 48 = .ok (.iaload, 1) := by decide +kernel
theorem dX1_settle_49 : decode cX1_settle 49 = .ok (.iload_n 2, 1) := by decide +kernel
theorem dX1_settle_50 : decode cX1_settle 50 = .ok (.invokevirtual 70, 3) := by decide +kernel
theorem dX1_settle_53 : decode cX1_settle 53 = .ok (.iadd, 1) := by decide +kernel
theorem dX1_settle_54 : decode cX1_settle 54 = .ok (.iastore, 1) := by decide +kernel
theorem dX1_settle_55 : decode cX1_settle 55 = .ok (.aload_n 0, 1) := by decide +kernel
theorem dX1_settle_56 : decode cX1_settle 56 = .ok (.getfield 33, 3) := by decide +kernel
theorem dX1_settle_59 : decode cX1_settle 59 = .ok (.iload_n 1, 1) := by decide +kernel
theorem dX1_settle_60 : decode cX1_settle 60 = .ok (.iaload, 1) := by decide +kernel
theorem dX1_settle_61 : decode cX1_settle 61 = .ok (.aload_n 0, 1) := by decide +kernel
theorem dX1_settle_62 : decode cX1_settle 62 = .ok (.getfield 18, 3) := by decide +kernel
theorem dX1_settle_65 : decode cX1_settle 65 = .ok (.iload_n 1, 1) := by decide +kernel
theorem dX1_settle_66 : decode cX1_settle 66 = .ok (.iaload, 1) := by decide +kernel
theorem dX1_settle_67 : decode cX1_settle 67 = .ok (.if_icmp .ge 5, 3) := by decide +kernel
theorem dX1_settle_70 : decode cX1_settle 70 = .ok (.iconst 0, 1) := by decide +kernel
theorem dX1_settle_71 : decode cX1_settle 71 = .ok (.ireturn, 1) := by decide +kernel
theorem dX1_settle_72 : decode cX1_settle 72 = .ok (.aload_n 0, 1) := by decide +kernel
theorem dX1_settle_73 : decode cX1_settle 73 = .ok (.iload_n 1, 1) := by decide +kernel
theorem dX1_settle_74 : decode cX1_settle 74 = .ok (.invokevirtual 74, 3) := by decide +kernel
theorem dX1_settle_77 : decode cX1_settle 77 = .ok (.iinc 1 1, 3) := by decide +kernel
theorem dX1_settle_80 : decode cX1_settle 80 = .ok (.goto (-78), 3) := by decide +kernel
theorem dX1_settle_83 : decode cX1_settle 83 = .ok (.iconst 1, 1) := by decide +kernel
theorem dX1_settle_84 : decode cX1_settle 84 = .ok (.ireturn, 1) := by decide +kernel
theorem dX1_lower_0 : decode cX1_lower 0 = .ok (.aload_n 0, 1) := by decide +kernel
theorem dX1_lower_1 : decode cX1_lower 1 = .ok (.iload_n 1, 1) := by decide +kernel
theorem dX1_lower_2 : decode cX1_lower 2 = .ok (.invokevirtual 63, 3) := by decide +kernel
theorem dX1_lower_5 : decode cX1_lower 5 = .ok (.ifCond .eq 53, 3) := by decide +kernel
theorem dX1_lower_8 : decode cX1_lower 8 = .ok (.aload_n 0, 1) := by decide +kernel
theorem dX1_lower_9 : decode cX1_lower 9 = .ok (.getfield 33, 3) := by decide +kernel
theorem dX1_lower_12 : decode cX1_lower 12 = .ok (.iload_n 1, 1) := by decide +kernel
theorem dX1_lower_13 : decode cX1_lower 13 = .ok (.iaload, 1) := by decide +kernel
theorem dX1_lower_14 : decode cX1_lower 14 = .ok (.aload_n 0, 1) := by decide +kernel
theorem dX1_lower_15 : decode cX1_lower 15 = .ok (.getfield 27, 3) := by decide +kernel
theorem dX1_lower_18 : decode cX1_lower 18 = .ok (.iload_n 1, 1) := by decide +kernel
theorem dX1_lower_19 : decode cX1_lower 19 = .ok (.iaload, 1) := by decide +kernel
theorem dX1_lower_20 : decode cX1_lower 20 = .ok (.isub, 1) := by decide +kernel
theorem dX1_lower_21 : decode cX1_lower 21 = .ok (.istore_n 2, 1) := by decide +kernel
theorem dX1_lower_22 : decode cX1_lower 22 = .ok (.aload_n 0, 1) := by decide +kernel
theorem dX1_lower_23 : decode cX1_lower 23 = .ok (.iload_n 1, 1) := by decide +kernel
theorem dX1_lower_24 : decode cX1_lower 24 = .ok (.invokevirtual 66, 3) := by decide +kernel
theorem dX1_lower_27 : decode cX1_lower 27 = .ok (.aload_n 0, 1) := by decide +kernel
theorem dX1_lower_28 : decode cX1_lower 28 = .ok (.getfield 33, 3) := by decide +kernel
theorem dX1_lower_31 : decode cX1_lower 31 = .ok (.iload_n 1, 1) := by decide +kernel
theorem dX1_lower_32 : decode cX1_lower 32 = .ok (.dup2, 1) := by decide +kernel
theorem dX1_lower_33 : decode cX1_lower 33 = .ok (.iaload, 1) := by decide +kernel
theorem dX1_lower_34 : decode cX1_lower 34 = .ok (.aload_n 0, 1) := by decide +kernel
theorem dX1_lower_35 : decode cX1_lower 35 = .ok (.aload_n 0, 1) := by decide +kernel
theorem dX1_lower_36 : decode cX1_lower 36 = .ok (.getfield 11, 3) := by decide +kernel
theorem dX1_lower_39 : decode cX1_lower 39 = .ok (.iload_n 1, 1) := by decide +kernel
theorem dX1_lower_40 : decode cX1_lower 40 = .ok (.iaload, 1) := by decide +kernel
theorem dX1_lower_41 : decode cX1_lower 41 = .ok (.aload_n 0, 1) := by decide +kernel
theorem dX1_lower_42 : decode cX1_lower 42 = .ok (.getfield 15, 3) := by decide +kernel
theorem dX1_lower_45 : decode cX1_lower 45 = .ok (.iload_n 1, 1) := by decide +kernel
theorem dX1_lower_46 : decode cX1_lower 46 = .ok (.iaload, 1) := by decide +kernel
theorem dX1_lower_47 : decode cX1_lower 47 = .ok (.iload_n 2, 1) := by decide +kernel
theorem dX1_lower_48 : decode cX1_lower 48 = .ok (.invokevirtual 70, 3) := by decide +kernel
theorem dX1_lower_51 : decode cX1_lower 51 = .ok (.isub, 1) := by decide +kernel
theorem dX1_lower_52 : decode cX1_lower 52 = .ok (.iastore, 1) := by decide +kernel
theorem dX1_lower_53 : decode cX1_lower 53 = .ok (.aload_n 0, 1) := by decide +kernel
theorem dX1_lower_54 : decode cX1_lower 54 = .ok (.iload_n 1, 1) := by decide +kernel
theorem dX1_lower_55 : decode cX1_lower 55 = .ok (.invokevirtual 66, 3) := by decide +kernel
theorem dX1_lower_58 : decode cX1_lower 58 = .ok (.return_, 1) := by decide +kernel
theorem dX1_push_0 : decode cX1_push 0 = .ok (.iconst 0, 1) := by decide +kernel
theorem dX1_push_1 : decode cX1_push 1 = .ok (.istore 4, 2) := by decide +kernel
theorem dX1_push_3 : decode cX1_push 3 = .ok (.iconst 0, 1) := by decide +kernel
theorem dX1_push_4 : decode cX1_push 4 = .ok (.istore 5, 2) := by decide +kernel
theorem dX1_push_6 : decode cX1_push 6 = .ok (.iload 5, 2) := by decide +kernel
theorem dX1_push_8 : decode cX1_push 8 = .ok (.ldc 77, 2) := by decide +kernel
theorem dX1_push_10 : decode cX1_push 10 = .ok (.if_icmp .ge 42, 3) := by decide +kernel
theorem dX1_push_13 : decode cX1_push 13 = .ok (.iload 4, 2) := by decide +kernel
theorem dX1_push_15 : decode cX1_push 15 = .ok (.iload_n 3, 1) := by decide +kernel
theorem dX1_push_16 : decode cX1_push 16 = .ok (.if_icmp .ge 36, 3) := by decide +kernel
theorem dX1_push_19 : decode cX1_push 19 = .ok (.aload_n 0, 1) := by decide +kernel
theorem dX1_push_20 : decode cX1_push 20 = .ok (.iload_n 1, 1) := by decide +kernel
theorem dX1_push_21 : decode cX1_push 21 = .ok (.iload_n 2, 1) := by decide +kernel
theorem dX1_push_22 : decode cX1_push 22 = .ok (.iload_n 3, 1) := by decide +kernel
theorem dX1_push_23 : decode cX1_push 23 = .ok (.iload 4, 2) := by decide +kernel
theorem dX1_push_25 : decode cX1_push 25 = .ok (.isub, 1) := by decide +kernel
theorem dX1_push_26 : decode cX1_push 26 = .ok (.invokevirtual 78, 3) := by decide +kernel
theorem dX1_push_29 : decode cX1_push 29 = .ok (.istore 6, 2) := by decide +kernel
theorem dX1_push_31 : decode cX1_push 31 = .ok (.iload 6, 2) := by decide +kernel
theorem dX1_push_33 : decode cX1_push 33 = .ok (.ifCond .gt 6, 3) := by decide +kernel
theorem dX1_push_36 : decode cX1_push 36 = .ok (.iload 4, 2) := by decide +kernel
theorem dX1_push_38 : decode cX1_push 38 = .ok (.ireturn, 1) := by decide +kernel
theorem dX1_push_39 : decode cX1_push 39 = .ok (.iload 4, 2) := by decide +kernel
theorem dX1_push_41 : decode cX1_push 41 = .ok (.iload 6, 2) := by decide +kernel
theorem dX1_push_43 : decode cX1_push 43 = .ok (.iadd, 1) := by decide +kernel
theorem dX1_push_44 : decode cX1_push 44 = .ok (.istore 4, 2) := by decide +kernel
theorem dX1_push_46 : decode cX1_push 46 = .ok (.iinc 5 1, 3) := by decide +kernel
theorem dX1_push_49 : decode cX1_push 49 = .ok (.goto (-43), 3) := by decide +kernel
theorem dX1_push_52 : decode cX1_push 52 = .ok (.iload 4, 2) := by decide +kernel
theorem dX1_push_54 : decode cX1_push 54 = .ok (.ireturn, 1) := by decide +kernel
theorem dX1_send_0 : decode cX1_send 0 = .ok (.iload_n 3, 1) := by decide +kernel
theorem dX1_send_1 : decode cX1_send 1 = .ok (.ifCond .le 24, 3) := by decide +kernel
theorem dX1_send_4 : decode cX1_send 4 = .ok (.iload_n 1, 1) := by decide +kernel
theorem dX1_send_5 : decode cX1_send 5 = .ok (.iload_n 2, 1) := by decide +kernel
theorem dX1_send_6 : decode cX1_send 6 = .ok (.if_icmp .eq 19, 3) := by decide +kernel
theorem dX1_send_9 : decode cX1_send 9 = .ok (.aload_n 0, 1) := by decide +kernel
theorem dX1_send_10 : decode cX1_send 10 = .ok (.iload_n 1, 1) := by decide +kernel
theorem dX1_send_11 : decode cX1_send 11 = .ok (.invokevirtual 55, 3) := by decide +kernel
theorem dX1_send_14 : decode cX1_send 14 = .ok (.ifCond .eq 11, 3) := by decide +kernel
theorem dX1_send_17 : decode cX1_send 17 = .ok (.aload_n 0, 1) := by decide +kernel
theorem dX1_send_18 : decode cX1_send 18 = .ok (.iload_n 2, 1) := by decide +kernel
theorem dX1_send_19 : decode cX1_send 19 = .ok (.invokevirtual 55, 3) := by decide +kernel
theorem dX1_send_22 : decode cX1_send 22 = .ok (.ifCond .ne 5, 3) := by decide +kernel
theorem dX1_send_25 : decode cX1_send 25 = .ok (.iconst 0, 1) := by decide +kernel
theorem dX1_send_26 : decode cX1_send 26 = .ok (.ireturn, 1) := by decide +kernel
theorem dX1_send_27 : decode cX1_send 27 = .ok (.aload_n 0, 1) := by decide +kernel
theorem dX1_send_28 : decode cX1_send 28 = .ok (.iload_n 1, 1) := by decide +kernel
theorem dX1_send_29 : decode cX1_send 29 = .ok (.iload_n 2, 1) := by decide +kernel
theorem dX1_send_30 : decode cX1_send 30 = .ok (.invokevirtual 81, 3) := by decide +kernel
theorem dX1_send_33 : decode cX1_send 33 = .ok (.aload_n 0, 1) := by decide +kernel
theorem dX1_send_34 : decode cX1_send 34 = .ok (.iconst 0, 1) := by decide +kernel
theorem dX1_send_35 : decode cX1_send 35 = .ok (.putfield 52, 3) := by decide +kernel
theorem dX1_send_38 : decode cX1_send 38 = .ok (.aload_n 0, 1) := by decide +kernel
theorem dX1_send_39 : decode cX1_send 39 = .ok (.getfield 36, 3) := by decide +kernel
theorem dX1_send_42 : decode cX1_send 42 = .ok (.iload_n 1, 1) := by decide +kernel
theorem dX1_send_43 : decode cX1_send 43 = .ok (.iaload, 1) := by decide +kernel
theorem dX1_send_44 : decode cX1_send 44 = .ok (.ldc 85, 2) := by decide +kernel
theorem dX1_send_46 : decode cX1_send 46 = .ok (.if_icmp .ne 5, 3) := by decide +kernel
theorem dX1_send_49 : decode cX1_send 49 = .ok (.iconst 0, 1) := by decide +kernel
theorem dX1_send_50 : decode cX1_send 50 = .ok (.ireturn, 1) := by decide +kernel
theorem dX1_send_51 : decode cX1_send 51 = .ok (.iload_n 1, 1) := by decide +kernel
theorem dX1_send_52 : decode cX1_send 52 = .ok (.istore 4, 2) := by decide +kernel
theorem dX1_send_54 : decode cX1_send 54 = .ok (.aload_n 0, 1) := by decide +kernel
theorem dX1_send_55 : decode cX1_send 55 = .ok (.getfield 36, 3) := by decide +kernel
theorem dX1_send_58 : decode cX1_send 58 = .ok (.iload_n 1, 1) := by decide +kernel
theorem dX1_send_59 : decode cX1_send 59 = .ok (.iaload, 1) := by decide +kernel
theorem dX1_send_60 : decode cX1_send 60 = .ok (.iconst 1, 1) := by decide +kernel
theorem dX1_send_61 : decode cX1_send 61 = .ok (.isub, 1) := by decide +kernel
theorem dX1_send_62 : decode cX1_send 62 = .ok (.istore 5, 2) := by decide +kernel
theorem dX1_send_64 : decode cX1_send 64 = .ok (.iload 5, 2) := by decide +kernel
theorem dX1_send_66 : decode cX1_send 66 = .ok (.ifCond .lt 89, 3) := by decide +kernel
theorem dX1_send_69 : decode cX1_send 69 = .ok (.aload_n 0, 1) := by decide +kernel
theorem dX1_send_70 : decode cX1_send 70 = .ok (.getfield 52, 3) := by decide +kernel
theorem dX1_send_73 : decode cX1_send 73 = .ok (.aload_n 0, 1) := by decide +kernel
theorem dX1_send_74 : decode cX1_send 74 = .ok (.getfield 42, 3) := by decide +kernel
theorem dX1_send_77 : decode cX1_send 77 = .ok (.arraylength, 1) := by decide +kernel
theorem dX1_send_78 : decode cX1_send 78 = .ok (.if_icmp .ge 77, 3) := by decide +kernel
theorem dX1_send_81 : decode cX1_send 81 = .ok (.aload_n 0, 1) := by decide +kernel
theorem dX1_send_82 : decode cX1_send 82 = .ok (.iload 4, 2) := by decide +kernel
theorem dX1_send_84 : decode cX1_send 84 = .ok (.iload 5, 2) := by decide +kernel
theorem dX1_send_86 : decode cX1_send 86 = .ok (.invokevirtual 86, 3) := by decide +kernel
theorem dX1_send_89 : decode cX1_send 89 = .ok (.istore 6, 2) := by decide +kernel
theorem dX1_send_91 : decode cX1_send 91 = .ok (.iload 6, 2) := by decide +kernel
theorem dX1_send_93 : decode cX1_send 93 = .ok (.iconst (-1), 1) := by decide +kernel
theorem dX1_send_94 : decode cX1_send 94 = .ok (.if_icmp .ne 5, 3) := by decide +kernel
theorem dX1_send_97 : decode cX1_send 97 = .ok (.iconst 0, 1) := by decide +kernel
theorem dX1_send_98 : decode cX1_send 98 = .ok (.ireturn, 1) := by decide +kernel
theorem dX1_send_99 : decode cX1_send 99 = .ok (.aload_n 0, 1) := by decide +kernel
theorem dX1_send_100 : decode cX1_send 100 = .ok (.getfield 42, 3) := by decide +kernel
theorem dX1_send_103 : decode cX1_send 103 = .ok (.aload_n 0, 1) := by decide +kernel
theorem dX1_send_104 : decode cX1_send 104 = .ok (.getfield 52, 3) := by decide +kernel
theorem dX1_send_107 : decode cX1_send 107 = .ok (.iload 6, 2) := by decide +kernel
theorem dX1_send_109 : decode cX1_send 109 = .ok (.iastore, 1) := by decide +kernel
theorem dX1_send_110 : decode cX1_send 110 = .ok (.aload_n 0, 1) := by decide +kernel
theorem dX1_send_111 : decode cX1_send 111 = .ok (.dup, 1) := by decide +kernel
theorem dX1_send_112 : decode cX1_send 112 = .ok (.getfield 52, 3) := by decide +kernel
theorem dX1_send_115 : decode cX1_send 115 = .ok (.iconst 1, 1) := by decide +kernel
theorem dX1_send_116 : decode cX1_send 116 = .ok (.iadd, 1) := by decide +kernel
theorem dX1_send_117 : decode cX1_send 117 = .ok (.putfield 52, 3) := by decide +kernel
theorem dX1_send_120 : decode cX1_send 120 = .ok (.iload 6, 2) := by decide +kernel
theorem dX1_send_122 : decode cX1_send 122 = .ok (.bipush 32, 2) := by decide +kernel
theorem dX1_send_124 : decode cX1_send 124 = .ok (.if_icmp .ge 13, 3) := by decide +kernel
theorem dX1_send_127 : decode cX1_send 127 = .ok (.aload_n 0, 1) := by decide +kernel
theorem dX1_send_128 : decode cX1_send 128 = .ok (.getfield 15, 3) := by decide +kernel
theorem dX1_send_131 : decode cX1_send 131 = .ok (.iload 6, 2) := by decide +kernel
theorem dX1_send_133 : decode cX1_send 133 = .ok (.iaload, 1) := by decide +kernel
theorem dX1_send_134 : decode cX1_send 134 = .ok (.goto 13, 3) := by decide +kernel
theorem dX1_send_137 : decode cX1_send 137 = .ok (.aload_n 0, 1) := by decide +kernel
theorem dX1_send_138 : decode cX1_send 138 = .ok (.getfield 11, 3) := by decide +kernel
theorem dX1_send_141 : decode cX1_send 141 = .ok (.iload 6, 2) := by decide +kernel
theorem dX1_send_143 : decode cX1_send 143 = .ok (.bipush 32, 2) := by decide +kernel
theorem dX1_send_145 : decode cX1_send 145 = .ok (.isub, 1) := by decide +kernel
theorem dX1_send_146 : decode cX1_send 146 = .ok (.iaload, 1) := by decide +kernel
theorem dX1_send_147 : decode cX1_send 147 = .ok (.istore 4, 2) := by decide +kernel
theorem dX1_send_149 : decode cX1_send 149 = .ok (.iinc 5 (-1), 3) := by decide +kernel
theorem dX1_send_152 : decode cX1_send 152 = .ok (.goto (-88), 3) := by decide +kernel
theorem dX1_send_155 : decode cX1_send 155 = .ok (.aload_n 0, 1) := by decide +kernel
theorem dX1_send_156 : decode cX1_send 156 = .ok (.iload_n 3, 1) := by decide +kernel
theorem dX1_send_157 : decode cX1_send 157 = .ok (.invokevirtual 90, 3) := by decide +kernel
theorem dX1_send_160 : decode cX1_send 160 = .ok (.ireturn, 1) := by decide +kernel
theorem dX1_setDistances_0 : decode cX1_setDistances 0 = .ok (.iconst 0, 1) := by decide +kernel
theorem dX1_setDistances_1 : decode cX1_setDistances 1 = .ok (.istore_n 3, 1) := by decide +kernel
theorem dX1_setDistances_2 : decode cX1_setDistances 2 = .ok (.iload_n 3, 1) := by decide +kernel
theorem dX1_setDistances_3 : decode cX1_setDistances 3 = .ok (.aload_n 0, 1) := by decide +kernel
theorem dX1_setDistances_4 : decode cX1_setDistances 4 = .ok (.getfield 45, 3) := by decide +kernel
theorem dX1_setDistances_7 : decode cX1_setDistances 7 = .ok (.if_icmp .ge 17, 3) := by decide +kernel
theorem dX1_setDistances_10 : decode cX1_setDistances 10 = .ok (.aload_n 0, 1) := by decide +kernel
theorem dX1_setDistances_11 : decode cX1_setDistances 11 = .ok (.getfield 36, 3) := by decide +kernel
theorem dX1_setDistances_14 : decode cX1_setDistances 14 = .ok (.iload_n 3, 1) := by decide +kernel
theorem dX1_setDistances_15 : decode cX1_setDistances 15 = .ok (.ldc 85, 2) := by decide +kernel
theorem dX1_setDistances_17 : decode cX1_setDistances 17 = .ok (.iastore, 1) := by decide +kernel
theorem dX1_setDistances_18 : decode cX1_setDistances 18 = .ok (.iinc 3 1, 3) := by decide +kernel
theorem dX1_setDistances_21 : decode cX1_setDistances 21 = .ok (.goto (-19), 3) := by decide +kernel
theorem dX1_setDistances_24 : decode cX1_setDistances 24 = .ok (.aload_n 0, 1) := by decide +kernel
theorem dX1_setDistances_25 : decode cX1_setDistances 25 = .ok (.getfield 36, 3) := by decide +kernel
theorem dX1_setDistances_28 : decode cX1_setDistances 28 = .ok (.iload_n 2, 1) := by decide +kernel
theorem dX1_setDistances_29 : decode cX1_setDistances 29 = .ok (.iconst 0, 1) := by decide +kernel
theorem dX1_setDistances_30 : decode cX1_setDistances 30 = .ok (.iastore, 1) := by decide +kernel
theorem dX1_setDistances_31 : decode cX1_setDistances 31 = .ok (.iconst 0, 1) := by decide +kernel
theorem dX1_setDistances_32 : decode cX1_setDistances 32 = .ok (.istore_n 3, 1) := by decide +kernel
theorem dX1_setDistances_33 : decode cX1_setDistances 33 = .ok (.iload_n 3, 1) := by decide +kernel
theorem dX1_setDistances_34 : decode cX1_setDistances 34 = .ok (.aload_n 0, 1) := by decide +kernel
theorem dX1_setDistances_35 : decode cX1_setDistances 35 = .ok (.getfield 45, 3) := by decide +kernel
theorem dX1_setDistances_38 : decode cX1_setDistances 38 = .ok (.if_icmp .ge 159, 3) := by decide +kernel
theorem dX1_setDistances_41 : decode cX1_setDistances 41 = .ok (.aload_n 0, 1) := by decide +kernel
theorem dX1_setDistances_42 : decode cX1_setDistances 42 = .ok (.getfield 36, 3) := by decide +kernel
theorem dX1_setDistances_45 : decode cX1_setDistances 45 = .ok (.iload_n 1, 1) := by decide +kernel
theorem dX1_setDistances_46 : decode cX1_setDistances 46 = .ok (.iaload, 1) := by decide +kernel
theorem dX1_setDistances_47 : decode cX1_setDistances 47 = .ok (.ldc 85, 2) := by decide +kernel
theorem dX1_setDistances_49 : decode cX1_setDistances 49 = .ok (.if_icmp .ne 148, 3) := by decide +kernel
theorem dX1_setDistances_52 : decode cX1_setDistances 52 = .ok (.iconst 0, 1) := by decide +kernel
theorem dX1_setDistances_53 : decode cX1_setDistances 53 = .ok (.istore 4, 2) := by decide +kernel
theorem dX1_setDistances_55 : decode cX1_setDistances 55 = .ok (.iload 4, 2) := by decide +kernel
theorem dX1_setDistances_57 : decode cX1_setDistances 57 = .ok (.aload_n 0, 1) := by decide +kernel
theorem dX1_setDistances_58 : decode cX1_setDistances 58 = .ok (.getfield 49, 3) := by decide +kernel
theorem dX1_setDistances_61 : decode cX1_setDistances 61 = .ok (.if_icmp .ge 130, 3) := by decide +kernel
theorem dX1_setDistances_64 : decode cX1_setDistances 64 = .ok (.aload_n 0, 1) := by decide +kernel
theorem dX1_setDistances_65 : decode cX1_setDistances 65 = .ok (.getfield 11, 3) := by decide +kernel
theorem dX1_setDistances_68 : decode cX1_setDistances 68 = .ok (.iload 4, 2) := by decide +kernel
theorem dX1_setDistances_70 : decode cX1_setDistances 70 = .ok (.iaload, 1) := by decide +kernel
theorem dX1_setDistances_71 : decode cX1_setDistances 71 = .ok (.istore 5, 2) := by decide +kernel
theorem dX1_setDistances_73 : decode cX1_setDistances 73 = .ok (.aload_n 0, 1) := by decide +kernel
theorem dX1_setDistances_74 : decode cX1_setDistances 74 = .ok (.getfield 15, 3) := by decide +kernel
theorem dX1_setDistances_77 : decode cX1_setDistances 77 = .ok (.iload 4, 2) := by decide +kernel
theorem dX1_setDistances_79 : decode cX1_setDistances 79 = .ok (.iaload, 1) := by decide +kernel
theorem dX1_setDistances_80 : decode cX1_setDistances 80 = .ok (.istore 6, 2) := by decide +kernel
theorem dX1_setDistances_82 : decode cX1_setDistances 82 = .ok (.aload_n 0, 1) := by decide +kernel
theorem dX1_setDistances_83 : decode cX1_setDistances 83 = .ok (.getfield 36, 3) := by decide +kernel
theorem dX1_setDistances_86 : decode cX1_setDistances 86 = .ok (.iload 6, 2) := by decide +kernel
theorem dX1_setDistances_88 : decode cX1_setDistances 88 = .ok (.iaload, 1) := by decide +kernel
theorem dX1_setDistances_89 : decode cX1_setDistances 89 = .ok (.iload_n 3, 1) := by decide +kernel
theorem dX1_setDistances_90 : decode cX1_setDistances 90 = .ok (.if_icmp .ne 45, 3) := by decide +kernel
theorem dX1_setDistances_93 : decode cX1_setDistances 93 = .ok (.aload_n 0, 1) := by decide +kernel
theorem dX1_setDistances_94 : decode cX1_setDistances 94 = .ok (.getfield 36, 3) := by decide +kernel
theorem dX1_setDistances_97 : decode cX1_setDistances 97 = .ok (.iload 5, 2) := by decide +kernel
theorem dX1_setDistances_99 : decode cX1_setDistances 99 = .ok (.iaload, 1) := by decide +kernel
theorem dX1_setDistances_100 : decode cX1_setDistances 100 = .ok (.ldc 85, 2) := by decide +kernel
theorem dX1_setDistances_102 : decode cX1_setDistances 102 = .ok (.if_icmp .ne 33, 3) := by decide +kernel
theorem dX1_setDistances_105 : decode cX1_setDistances 105 = .ok (.aload_n 0, 1) := by decide +kernel
theorem dX1_setDistances_106 : decode cX1_setDistances 106 = .ok (.getfield 33, 3) := by decide +kernel
theorem dX1_setDistances_109 : decode cX1_setDistances 109 = .ok (.iload 4, 2) := by decide +kernel
theorem dX1_setDistances_111 : decode cX1_setDistances 111 = .ok (.iaload, 1) := by decide +kernel
theorem dX1_setDistances_112 : decode cX1_setDistances 112 = .ok (.aload_n 0, 1) := by decide +kernel
theorem dX1_setDistances_113 : decode cX1_setDistances 113 = .ok (.getfield 30, 3) := by decide +kernel
theorem dX1_setDistances_116 : decode cX1_setDistances 116 = .ok (.iload 4, 2) := by decide +kernel
theorem dX1_setDistances_118 : decode cX1_setDistances 118 = .ok (.iaload, 1) := by decide +kernel
theorem dX1_setDistances_119 : decode cX1_setDistances 119 = .ok (.if_icmp .ge 16, 3) := by decide +kernel
theorem dX1_setDistances_122 : decode cX1_setDistances 122 = .ok (.aload_n 0, 1) := by decide +kernel
theorem dX1_setDistances_123 : decode cX1_setDistances 123 = .ok (.getfield 36, 3) := by decide +kernel
theorem dX1_setDistances_126 : decode cX1_setDistances 126 = .ok (.iload 5, 2) := by decide +kernel
theorem dX1_setDistances_128 : decode cX1_setDistances 128 = .ok (.iload_n 3, 1) := by decide +kernel
theorem dX1_setDistances_129 : decode cX1_setDistances 129 = .ok (.iconst 1, 1) := by decide +kernel
theorem dX1_setDistances_130 : decode cX1_setDistances 130 = .ok (.iadd, 1) := by decide +kernel
theorem dX1_setDistances_131 : decode cX1_setDistances 131 = .ok (.iastore, 1) := by decide +kernel
theorem dX1_setDistances_132 : decode cX1_setDistances 132 = .ok (.goto 53, 3) := by decide +kernel
theorem dX1_setDistances_135 : decode cX1_setDistances 135 = .ok (.aload_n 0, 1) := by decide +kernel
theorem dX1_setDistances_136 : decode cX1_setDistances 136 = .ok (.getfield 36, 3) := by decide +kernel
theorem dX1_setDistances_139 : decode cX1_setDistances 139 = .ok (.iload 5, 2) := by decide +kernel
theorem dX1_setDistances_141 : decode cX1_setDistances 141 = .ok (.iaload, 1) := by decide +kernel
theorem dX1_setDistances_142 : decode cX1_setDistances 142 = .ok (.iload_n 3, 1) := by decide +kernel
theorem dX1_setDistances_143 : decode cX1_setDistances 143 = .ok (.if_icmp .ne 42, 3) := by decide +kernel
theorem dX1_setDistances_146 : decode cX1_setDistances 146 = .ok (.aload_n 0, 1) := by decide +kernel
theorem dX1_setDistances_147 : decode cX1_setDistances 147 = .ok (.getfield 36, 3) := by decide +kernel
theorem dX1_setDistances_150 : decode cX1_setDistances 150 = .ok (.iload 6, 2) := by decide +kernel
theorem dX1_setDistances_152 : decode cX1_setDistances 152 = .ok (.iaload, 1) := by decide +kernel
theorem dX1_setDistances_153 : decode cX1_setDistances 153 = .ok (.ldc 85, 2) := by decide +kernel
theorem dX1_setDistances_155 : decode cX1_setDistances 155 = .ok (.if_icmp .ne 30, 3) := by decide +kernel
theorem dX1_setDistances_158 : decode cX1_setDistances 158 = .ok (.aload_n 0, 1) := by decide +kernel
theorem dX1_setDistances_159 : decode cX1_setDistances 159 = .ok (.getfield 33, 3) := by decide +kernel
theorem dX1_setDistances_162 : decode cX1_setDistances 162 = .ok (.iload 4, 2) := by decide +kernel
theorem dX1_setDistances_164 : decode cX1_setDistances 164 = .ok (.iaload, 1) := by decide +kernel
theorem dX1_setDistances_165 : decode cX1_setDistances 165 = .ok (.aload_n 0, 1) := by decide +kernel
theorem dX1_setDistances_166 : decode cX1_setDistances 166 = .ok (.getfield 27, 3) := by decide +kernel
theorem dX1_setDistances_169 : decode cX1_setDistances 169 = .ok (.iload 4, 2) := by decide +kernel
theorem dX1_setDistances_171 : decode cX1_setDistances 171 = .ok (.iaload, 1) := by decide +kernel
theorem dX1_setDistances_172 : decode cX1_setDistances 172 = .ok (.if_icmp .le 13, 3) := by decide +kernel
theorem dX1_setDistances_175 : decode cX1_setDistances 175 = .ok (.aload_n 0, 1) := by decide +kernel
theorem dX1_setDistances_176 : decode cX1_setDistances 176 = .ok (.getfield 36, 3) := by decide +kernel
theorem dX1_setDistances_179 : decode cX1_setDistances 179 = .ok (.iload 6, 2) := by decide +kernel
theorem dX1_setDistances_181 : decode cX1_setDistances 181 = .ok (.iload_n 3, 1) := by decide +kernel
theorem dX1_setDistances_182 : decode cX1_setDistances 182 = .ok (.iconst 1, 1) := by decide +kernel
theorem dX1_setDistances_183 : decode cX1_setDistances 183 = .ok (.iadd, 1) := by decide +kernel
theorem dX1_setDistances_184 : decode cX1_setDistances 184 = .ok (.iastore, 1) := by decide +kernel
theorem dX1_setDistances_185 : decode cX1_setDistances 185 = .ok (.iinc 4 1, 3) := by decide +kernel
theorem dX1_setDistances_188 : decode cX1_setDistances 188 = .ok (.goto (-133), 3) := by decide +kernel
theorem dX1_setDistances_191 : decode cX1_setDistances 191 = .ok (.iinc 3 1, 3) := by decide +kernel
theorem dX1_setDistances_194 : decode cX1_setDistances 194 = .ok (.goto (-161), 3) := by decide +kernel
theorem dX1_setDistances_197 : decode cX1_setDistances 197 = .ok (.return_, 1) := by decide +kernel
theorem dX1_leastSign_0 : decode cX1_leastSign 0 = .ok (.iconst (-1), 1) := by decide +kernel
theorem dX1_leastSign_1 : decode cX1_leastSign 1 = .ok (.istore_n 3, 1) := by decide +kernel
theorem dX1_leastSign_2 : decode cX1_leastSign 2 = .ok (.iconst 0, 1) := by decide +kernel
theorem dX1_leastSign_3 : decode cX1_leastSign 3 = .ok (.istore 4, 2) := by decide +kernel
theorem dX1_leastSign_5 : decode cX1_leastSign 5 = .ok (.iload 4, 2) := by decide +kernel
theorem dX1_leastSign_7 : decode cX1_leastSign 7 = .ok (.aload_n 0, 1) := by decide +kernel
theorem dX1_leastSign_8 : decode cX1_leastSign 8 = .ok (.getfield 49, 3) := by decide +kernel
theorem dX1_leastSign_11 : decode cX1_leastSign 11 = .ok (.if_icmp .ge 111, 3) := by decide +kernel
theorem dX1_leastSign_14 : decode cX1_leastSign 14 = .ok (.aload_n 0, 1) := by decide +kernel
theorem dX1_leastSign_15 : decode cX1_leastSign 15 = .ok (.getfield 11, 3) := by decide +kernel
theorem dX1_leastSign_18 : decode cX1_leastSign 18 = .ok (.iload 4, 2) := by decide +kernel
theorem dX1_leastSign_20 : decode cX1_leastSign 20 = .ok (.iaload, 1) := by decide +kernel
theorem dX1_leastSign_21 : decode cX1_leastSign 21 = .ok (.iload_n 1, 1) := by decide +kernel
theorem dX1_leastSign_22 : decode cX1_leastSign 22 = .ok (.if_icmp .ne 39, 3) := by decide +kernel
theorem dX1_leastSign_25 : decode cX1_leastSign 25 = .ok (.aload_n 0, 1) := by decide +kernel
theorem dX1_leastSign_26 : decode cX1_leastSign 26 = .ok (.getfield 36, 3) := by decide +kernel
theorem dX1_leastSign_29 : decode cX1_leastSign 29 = .ok (.aload_n 0, 1) := by decide +kernel
theorem dX1_leastSign_30 : decode cX1_leastSign 30 = .ok (.getfield 15, 3) := by decide +kernel
theorem dX1_leastSign_33 : decode cX1_leastSign 33 = .ok (.iload 4, 2) := by decide +kernel
theorem dX1_leastSign_35 : decode cX1_leastSign 35 = .ok (.iaload, 1) := by decide +kernel
theorem dX1_leastSign_36 : decode cX1_leastSign 36 = .ok (.iaload, 1) := by decide +kernel
theorem dX1_leastSign_37 : decode cX1_leastSign 37 = .ok (.iload_n 2, 1) := by decide +kernel
theorem dX1_leastSign_38 : decode cX1_leastSign 38 = .ok (.if_icmp .ne 23, 3) := by decide +kernel
theorem dX1_leastSign_41 : decode cX1_leastSign 41 = .ok (.aload_n 0, 1) := by decide +kernel
theorem dX1_leastSign_42 : decode cX1_leastSign 42 = .ok (.getfield 33, 3) := by decide +kernel
theorem dX1_leastSign_45 : decode cX1_leastSign 45 = .ok (.iload 4, 2) := by decide +kernel
theorem dX1_leastSign_47 : decode cX1_leastSign 47 = .ok (.iaload, 1) := by decide +kernel
theorem dX1_leastSign_48 : decode cX1_leastSign 48 = .ok (.aload_n 0, 1) := by decide +kernel
theorem dX1_leastSign_49 : decode cX1_leastSign 49 = .ok (.getfield 30, 3) := by decide +kernel
theorem dX1_leastSign_52 : decode cX1_leastSign 52 = .ok (.iload 4, 2) := by decide +kernel
theorem dX1_leastSign_54 : decode cX1_leastSign 54 = .ok (.iaload, 1) := by decide +kernel
theorem dX1_leastSign_55 : decode cX1_leastSign 55 = .ok (.if_icmp .ge 6, 3) := by decide +kernel
theorem dX1_leastSign_58 : decode cX1_leastSign 58 = .ok (.iload 4, 2) := by decide +kernel
theorem dX1_leastSign_60 : decode cX1_leastSign 60 = .ok (.ireturn, 1) := by decide +kernel
theorem dX1_leastSign_61 : decode cX1_leastSign 61 = .ok (.iload_n 3, 1) := by decide +kernel
theorem dX1_leastSign_62 : decode cX1_leastSign 62 = .ok (.iconst (-1), 1) := by decide +kernel
theorem dX1_leastSign_63 : decode cX1_leastSign 63 = .ok (.if_icmp .ne 53, 3) := by decide +kernel
theorem dX1_leastSign_66 : decode cX1_leastSign 66 = .ok (.aload_n 0, 1) := by decide +kernel
theorem dX1_leastSign_67 : decode cX1_leastSign 67 = .ok (.getfield 15, 3) := by decide +kernel
theorem dX1_leastSign_70 : decode cX1_leastSign 70 = .ok (.iload 4, 2) := by decide +kernel
theorem dX1_leastSign_72 : decode cX1_leastSign 72 = .ok (.iaload, 1) := by decide +kernel
theorem dX1_leastSign_73 : decode cX1_leastSign 73 = .ok (.iload_n 1, 1) := by decide +kernel
theorem dX1_leastSign_74 : decode cX1_leastSign 74 = .ok (.if_icmp .ne 42, 3) := by decide +kernel
theorem dX1_leastSign_77 : decode cX1_leastSign 77 = .ok (.aload_n 0, 1) := by decide +kernel
theorem dX1_leastSign_78 : decode cX1_leastSign 78 = .ok (.getfield 36, 3) := by decide +kernel
theorem dX1_leastSign_81 : decode cX1_leastSign 81 = .ok (.aload_n 0, 1) := by decide +kernel
theorem dX1_leastSign_82 : decode cX1_leastSign 82 = .ok (.getfield 11, 3) := by decide +kernel
theorem dX1_leastSign_85 : decode cX1_leastSign 85 = .ok (.iload 4, 2) := by decide +kernel
theorem dX1_leastSign_87 : decode cX1_leastSign 87 = .ok (.iaload, 1) := by decide +kernel
theorem dX1_leastSign_88 : decode cX1_leastSign 88 = .ok (.iaload, 1) := by decide +kernel
theorem dX1_leastSign_89 : decode cX1_leastSign 89 = .ok (.iload_n 2, 1) := by decide +kernel
theorem dX1_leastSign_90 : decode cX1_leastSign 90 = .ok (.if_icmp .ne 26, 3) := by decide +kernel
theorem dX1_leastSign_93 : decode cX1_leastSign 93 = .ok (.aload_n 0, 1) := by decide +kernel
theorem dX1_leastSign_94 : decode cX1_leastSign 94 = .ok (.getfield 33, 3) := by decide +kernel
theorem dX1_leastSign_97 : decode cX1_leastSign 97 = .ok (.iload 4, 2) := by decide +kernel
theorem dX1_leastSign_99 : decode cX1_leastSign 99 = .ok (.iaload, 1) := by decide +kernel
theorem dX1_leastSign_100 : decode cX1_leastSign 100 = .ok (.aload_n 0, 1) := by decide +kernel
theorem dX1_leastSign_101 : decode cX1_leastSign 101 = .ok (.getfield 27, 3) := by decide +kernel
theorem dX1_leastSign_104 : decode cX1_leastSign 104 = .ok (.iload 4, 2) := by decide +kernel
theorem dX1_leastSign_106 : decode cX1_leastSign 106 = .ok (.iaload, 1) := by decide +kernel
theorem dX1_leastSign_107 : decode cX1_leastSign 107 = .ok (.if_icmp .le 9, 3) := by decide +kernel
theorem dX1_leastSign_110 : decode cX1_leastSign 110 = .ok (.iload 4, 2) := by decide +kernel
theorem dX1_leastSign_112 : decode cX1_leastSign 112 = .ok (.bipush 32, 2) := by decide +kernel
theorem dX1_leastSign_114 : decode cX1_leastSign 114 = .ok (.iadd, 1) := by decide +kernel
theorem dX1_leastSign_115 : decode cX1_leastSign 115 = .ok (.istore_n 3, 1) := by decide +kernel
theorem dX1_leastSign_116 : decode cX1_leastSign 116 = .ok (.iinc 4 1, 3) := by decide +kernel
theorem dX1_leastSign_119 : decode cX1_leastSign 119 = .ok (.goto (-114), 3) := by decide +kernel
theorem dX1_leastSign_122 : decode cX1_leastSign 122 = .ok (.iload_n 3, 1) := by decide +kernel
theorem dX1_leastSign_123 : decode cX1_leastSign 123 = .ok (.ireturn, 1) := by decide +kernel
theorem dX1_shift_0 : decode cX1_shift 0 = .ok (.iload_n 1, 1) := by decide +kernel
theorem dX1_shift_1 : decode cX1_shift 1 = .ok (.istore_n 2, 1) := by decide +kernel
theorem dX1_shift_2 : decode cX1_shift 2 = .ok (.iconst 0, 1) := by decide +kernel
theorem dX1_shift_3 : decode cX1_shift 3 = .ok (.istore_n 3, 1) := by decide +kernel
theorem dX1_shift_4 : decode cX1_shift 4 = .ok (.iload_n 3, 1) := by decide +kernel
theorem dX1_shift_5 : decode cX1_shift 5 = .ok (.aload_n 0, 1) := by decide +kernel
theorem dX1_shift_6 : decode cX1_shift 6 = .ok (.getfield 52, 3) := by decide +kernel
theorem dX1_shift_9 : decode cX1_shift 9 = .ok (.if_icmp .ge 78, 3) := by decide +kernel
theorem dX1_shift_12 : decode cX1_shift 12 = .ok (.aload_n 0, 1) := by decide +kernel
theorem dX1_shift_13 : decode cX1_shift 13 = .ok (.getfield 42, 3) := by decide +kernel
theorem dX1_shift_16 : decode cX1_shift 16 = .ok (.iload_n 3, 1) := by decide +kernel
theorem dX1_shift_17 : decode cX1_shift 17 = .ok (.iaload, 1) := by decide +kernel
theorem dX1_shift_18 : decode cX1_shift 18 = .ok (.istore 4, 2) := by decide +kernel
theorem dX1_shift_20 : decode cX1_shift 20 = .ok (.iload 4, 2) := by decide +kernel
theorem dX1_shift_22 : decode cX1_shift 22 = .ok (.bipush 32, 2) := by decide +kernel
theorem dX1_shift_24 : decode cX1_shift 24 = .ok (.if_icmp .ge 21, 3) := by decide +kernel
theorem dX1_shift_27 : decode cX1_shift 27 = .ok (.aload_n 0, 1) := by decide +kernel
theorem dX1_shift_28 : decode cX1_shift 28 = .ok (.getfield 30, 3) := by decide +kernel
theorem dX1_shift_31 : decode cX1_shift 31 = .ok (.iload 4, 2) := by decide +kernel
theorem dX1_shift_33 : decode cX1_shift 33 = .ok (.iaload, 1) := by decide +kernel
theorem dX1_shift_34 : decode cX1_shift 34 = .ok (.aload_n 0, 1) := by decide +kernel
theorem dX1_shift_35 : decode cX1_shift 35 = .ok (.getfield 33, 3) := by decide +kernel
theorem dX1_shift_38 : decode cX1_shift 38 = .ok (.iload 4, 2) := by decide +kernel
theorem dX1_shift_40 : decode cX1_shift 40 = .ok (.iaload, 1) := by decide +kernel
theorem dX1_shift_41 : decode cX1_shift 41 = .ok (.isub, 1) := by decide +kernel
theorem dX1_shift_42 : decode cX1_shift 42 = .ok (.goto 24, 3) := by decide +kernel
theorem dX1_shift_45 : decode cX1_shift 45 = .ok (.aload_n 0, 1) := by decide +kernel
theorem dX1_shift_46 : decode cX1_shift 46 = .ok (.getfield 33, 3) := by decide +kernel
theorem dX1_shift_49 : decode cX1_shift 49 = .ok (.iload 4, 2) := by decide +kernel
theorem dX1_shift_51 : decode cX1_shift 51 = .ok (.bipush 32, 2) := by decide +kernel
theorem dX1_shift_53 : decode cX1_shift 53 = .ok (.isub, 1) := by decide +kernel
theorem dX1_shift_54 : decode cX1_shift 54 = .ok (.iaload, 1) := by decide +kernel
theorem dX1_shift_55 : decode cX1_shift 55 = .ok (.aload_n 0, 1) := by decide +kernel
theorem dX1_shift_56 : decode cX1_shift 56 = .ok (.getfield 27, 3) := by decide +kernel
theorem dX1_shift_59 : decode cX1_shift 59 = .ok (.iload 4, 2) := by decide +kernel
theorem dX1_shift_61 : decode cX1_shift 61 = .ok (.bipush 32, 2) := by decide +kernel
theorem dX1_shift_63 : decode cX1_shift 63 = .ok (.isub, 1) := by decide +kernel
theorem dX1_shift_64 : decode cX1_shift 64 = .ok (.iaload, 1) := by decide +kernel
theorem dX1_shift_65 : decode cX1_shift 65 = .ok (.isub, 1) := by decide +kernel
theorem dX1_shift_66 : decode cX1_shift 66 = .ok (.istore 5, 2) := by decide +kernel
theorem dX1_shift_68 : decode cX1_shift 68 = .ok (.iload 5, 2) := by decide +kernel
theorem dX1_shift_70 : decode cX1_shift 70 = .ok (.iload_n 2, 1) := by decide +kernel
theorem dX1_shift_71 : decode cX1_shift 71 = .ok (.if_icmp .ge 8, 3) := by decide +kernel
theorem dX1_shift_74 : decode cX1_shift 74 = .ok (.iload 5, 2) := by decide +kernel
theorem dX1_shift_76 : decode cX1_shift 76 = .ok (.goto 4, 3) := by decide +kernel
theorem dX1_shift_79 : decode cX1_shift 79 = .ok (.iload_n 2, 1) := by decide +kernel
theorem dX1_shift_80 : decode cX1_shift 80 = .ok (.istore_n 2, 1) := by decide +kernel
theorem dX1_shift_81 : decode cX1_shift 81 = .ok (.iinc 3 1, 3) := by decide +kernel
theorem dX1_shift_84 : decode cX1_shift 84 = .ok (.goto (-80), 3) := by decide +kernel
theorem dX1_shift_87 : decode cX1_shift 87 = .ok (.iconst 0, 1) := by decide +kernel
theorem dX1_shift_88 : decode cX1_shift 88 = .ok (.istore_n 3, 1) := by decide +kernel
theorem dX1_shift_89 : decode cX1_shift 89 = .ok (.iload_n 3, 1) := by decide +kernel
theorem dX1_shift_90 : decode cX1_shift 90 = .ok (.aload_n 0, 1) := by decide +kernel
theorem dX1_shift_91 : decode cX1_shift 91 = .ok (.getfield 52, 3) := by decide +kernel
theorem dX1_shift_94 : decode cX1_shift 94 = .ok (.if_icmp .ge 52, 3) := by decide +kernel
theorem dX1_shift_97 : decode cX1_shift 97 = .ok (.aload_n 0, 1) := by decide +kernel
theorem dX1_shift_98 : decode cX1_shift 98 = .ok (.getfield 42, 3) := by decide +kernel
theorem dX1_shift_101 : decode cX1_shift 101 = .ok (.iload_n 3, 1) := by decide +kernel
theorem dX1_shift_102 : decode cX1_shift 102 = .ok (.iaload, 1) := by decide +kernel
theorem dX1_shift_103 : decode cX1_shift 103 = .ok (.istore 4, 2) := by decide +kernel
theorem dX1_shift_105 : decode cX1_shift 105 = .ok (.iload 4, 2) := by decide +kernel
theorem dX1_shift_107 : decode cX1_shift 107 = .ok (.bipush 32, 2) := by decide +kernel
theorem dX1_shift_109 : decode cX1_shift 109 = .ok (.if_icmp .ge 17, 3) := by decide +kernel
theorem dX1_shift_112 : decode cX1_shift 112 = .ok (.aload_n 0, 1) := by decide +kernel
theorem dX1_shift_113 : decode cX1_shift 113 = .ok (.getfield 33, 3) := by decide +kernel
theorem dX1_shift_116 : decode cX1_shift 116 = .ok (.iload 4, 2) := by decide +kernel
theorem dX1_shift_118 : decode cX1_shift 118 = .ok (.dup2, 1) := by decide +kernel
theorem dX1_shift_119 : decode cX1_shift 119 = .ok (.iaload, 1) := by decide +kernel
theorem dX1_shift_120 : decode cX1_shift 120 = .ok (.iload_n 2, 1) := by decide +kernel
theorem dX1_shift_121 : decode cX1_shift 121 = .ok (.iadd, 1) := by decide +kernel
theorem dX1_shift_122 : decode cX1_shift 122 = .ok (.iastore, 1) := by decide +kernel
theorem dX1_shift_123 : decode cX1_shift 123 = .ok (.goto 17, 3) := by decide +kernel
theorem dX1_shift_126 : decode cX1_shift 126 = .ok (.aload_n 0, 1) := by decide +kernel
theorem dX1_shift_127 : decode cX1_shift 127 = .ok (.getfield 33, 3) := by decide +kernel
theorem dX1_shift_130 : decode cX1_shift 130 = .ok (.iload 4, 2) := by decide +kernel
theorem dX1_shift_132 : decode cX1_shift 132 = .ok (.bipush 32, 2) := by decide +kernel
theorem dX1_shift_134 : decode cX1_shift 134 = .ok (.isub, 1) := by decide +kernel
theorem dX1_shift_135 : decode cX1_shift 135 = .ok (.dup2, 1) := by decide +kernel
theorem dX1_shift_136 : decode cX1_shift 136 = .ok (.iaload, 1) := by decide +kernel
theorem dX1_shift_137 : decode cX1_shift 137 = .ok (.iload_n 2, 1) := by decide +kernel
theorem dX1_shift_138 : decode cX1_shift 138 = .ok (.isub, 1) := by decide +kernel
theorem dX1_shift_139 : decode cX1_shift 139 = .ok (.iastore, 1) := by decide +kernel
theorem dX1_shift_140 : decode cX1_shift 140 = .ok (.iinc 3 1, 3) := by decide +kernel
theorem dX1_shift_143 : decode cX1_shift 143 = .ok (.goto (-54), 3) := by decide +kernel
theorem dX1_shift_146 : decode cX1_shift 146 = .ok (.iload_n 2, 1) := by decide +kernel
theorem dX1_shift_147 : decode cX1_shift 147 = .ok (.ireturn, 1) := by decide +kernel
theorem dX1_cheapen_0 : decode cX1_cheapen 0 = .ok (.iconst 0, 1) := by decide +kernel
theorem dX1_cheapen_1 : decode cX1_cheapen 1 = .ok (.istore_n 1, 1) := by decide +kernel
theorem dX1_cheapen_2 : decode cX1_cheapen 2 = .ok (.iload_n 1, 1) := by decide +kernel
theorem dX1_cheapen_3 : decode cX1_cheapen 3 = .ok (.ldc 77, 2) := by decide +kernel
theorem dX1_cheapen_5 : decode cX1_cheapen 5 = .ok (.if_icmp .ge 37, 3) := by decide +kernel
theorem dX1_cheapen_8 : decode cX1_cheapen 8 = .ok (.aload_n 0, 1) := by decide +kernel
theorem dX1_cheapen_9 : decode cX1_cheapen 9 = .ok (.invokevirtual 94, 3) := by decide +kernel
theorem dX1_cheapen_12 : decode cX1_cheapen 12 = .ok (.istore_n 2, 1) := by decide +kernel
theorem dX1_cheapen_13 : decode cX1_cheapen 13 = .ok (.iload_n 2, 1) := by decide +kernel
theorem dX1_cheapen_14 : decode cX1_cheapen 14 = .ok (.iconst (-1), 1) := by decide +kernel
theorem dX1_cheapen_15 : decode cX1_cheapen 15 = .ok (.if_icmp .eq 20, 3) := by decide +kernel
theorem dX1_cheapen_18 : decode cX1_cheapen 18 = .ok (.aload_n 0, 1) := by decide +kernel
theorem dX1_cheapen_19 : decode cX1_cheapen 19 = .ok (.iload_n 2, 1) := by decide +kernel
theorem dX1_cheapen_20 : decode cX1_cheapen 20 = .ok (.invokevirtual 98, 3) := by decide +kernel
theorem dX1_cheapen_23 : decode cX1_cheapen 23 = .ok (.ifCond .eq 12, 3) := by decide +kernel
theorem dX1_cheapen_26 : decode cX1_cheapen 26 = .ok (.aload_n 0, 1) := by decide +kernel
theorem dX1_cheapen_27 : decode cX1_cheapen 27 = .ok (.ldc 77, 2) := by decide +kernel
theorem dX1_cheapen_29 : decode cX1_cheapen 29 = .ok (.invokevirtual 90, 3) := by decide +kernel
theorem dX1_cheapen_32 : decode cX1_cheapen 32 = .ok (.ifCond .gt 4, 3) := by decide +kernel
theorem dX1_cheapen_35 : decode cX1_cheapen 35 = .ok (.return_, 1) := by decide +kernel
theorem dX1_cheapen_36 : decode cX1_cheapen 36 = .ok (.iinc 1 1, 3) := by decide +kernel
theorem dX1_cheapen_39 : decode cX1_cheapen 39 = .ok (.goto (-37), 3) := by decide +kernel
theorem dX1_cheapen_42 : decode cX1_cheapen 42 = .ok (.return_, 1) := by decide +kernel
theorem dX1_lowerAll_0 : decode cX1_lowerAll 0 = .ok (.iconst 0, 1) := by decide +kernel
theorem dX1_lowerAll_1 : decode cX1_lowerAll 1 = .ok (.istore_n 1, 1) := by decide +kernel
theorem dX1_lowerAll_2 : decode cX1_lowerAll 2 = .ok (.iload_n 1, 1) := by decide +kernel
theorem dX1_lowerAll_3 : decode cX1_lowerAll 3 = .ok (.aload_n 0, 1) := by decide +kernel
theorem dX1_lowerAll_4 : decode cX1_lowerAll 4 = .ok (.getfield 45, 3) := by decide +kernel
theorem dX1_lowerAll_7 : decode cX1_lowerAll 7 = .ok (.if_icmp .ge 23, 3) := by decide +kernel
theorem dX1_lowerAll_10 : decode cX1_lowerAll 10 = .ok (.aload_n 0, 1) := by decide +kernel
theorem dX1_lowerAll_11 : decode cX1_lowerAll 11 = .ok (.getfield 36, 3) := by decide +kernel
theorem dX1_lowerAll_14 : decode cX1_lowerAll 14 = .ok (.iload_n 1, 1) := by decide +kernel
theorem dX1_lowerAll_15 : decode cX1_lowerAll 15 = .ok (.iconst 0, 1) := by decide +kernel
theorem dX1_lowerAll_16 : decode cX1_lowerAll 16 = .ok (.iastore, 1) := by decide +kernel
theorem dX1_lowerAll_17 : decode cX1_lowerAll 17 = .ok (.aload_n 0, 1) := by decide +kernel
theorem dX1_lowerAll_18 : decode cX1_lowerAll 18 = .ok (.getfield 39, 3) := by decide +kernel
theorem dX1_lowerAll_21 : decode cX1_lowerAll 21 = .ok (.iload_n 1, 1) := by decide +kernel
theorem dX1_lowerAll_22 : decode cX1_lowerAll 22 = .ok (.iconst (-1), 1) := by decide +kernel
theorem dX1_lowerAll_23 : decode cX1_lowerAll 23 = .ok (.iastore, 1) := by decide +kernel
theorem dX1_lowerAll_24 : decode cX1_lowerAll 24 = .ok (.iinc 1 1, 3) := by decide +kernel
theorem dX1_lowerAll_27 : decode cX1_lowerAll 27 = .ok (.goto (-25), 3) := by decide +kernel
theorem dX1_lowerAll_30 : decode cX1_lowerAll 30 = .ok (.iconst (-1), 1) := by decide +kernel
theorem dX1_lowerAll_31 : decode cX1_lowerAll 31 = .ok (.istore_n 1, 1) := by decide +kernel
theorem dX1_lowerAll_32 : decode cX1_lowerAll 32 = .ok (.iconst 0, 1) := by decide +kernel
theorem dX1_lowerAll_33 : decode cX1_lowerAll 33 = .ok (.istore_n 2, 1) := by decide +kernel
theorem dX1_lowerAll_34 : decode cX1_lowerAll 34 = .ok (.iload_n 2, 1) := by decide +kernel
theorem dX1_lowerAll_35 : decode cX1_lowerAll 35 = .ok (.aload_n 0, 1) := by decide +kernel
theorem dX1_lowerAll_36 : decode cX1_lowerAll 36 = .ok (.getfield 45, 3) := by decide +kernel
theorem dX1_lowerAll_39 : decode cX1_lowerAll 39 = .ok (.if_icmp .ge 21, 3) := by decide +kernel
theorem dX1_lowerAll_42 : decode cX1_lowerAll 42 = .ok (.aload_n 0, 1) := by decide +kernel
theorem dX1_lowerAll_43 : decode cX1_lowerAll 43 = .ok (.invokevirtual 101, 3) := by decide +kernel
theorem dX1_lowerAll_46 : decode cX1_lowerAll 46 = .ok (.istore_n 1, 1) := by decide +kernel
theorem dX1_lowerAll_47 : decode cX1_lowerAll 47 = .ok (.iload_n 1, 1) := by decide +kernel
theorem dX1_lowerAll_48 : decode cX1_lowerAll 48 = .ok (.iconst (-1), 1) := by decide +kernel
theorem dX1_lowerAll_49 : decode cX1_lowerAll 49 = .ok (.if_icmp .ne 5, 3) := by decide +kernel
theorem dX1_lowerAll_52 : decode cX1_lowerAll 52 = .ok (.iconst (-1), 1) := by decide +kernel
theorem dX1_lowerAll_53 : decode cX1_lowerAll 53 = .ok (.ireturn, 1) := by decide +kernel
theorem dX1_lowerAll_54 : decode cX1_lowerAll 54 = .ok (.iinc 2 1, 3) := by decide +kernel
theorem dX1_lowerAll_57 : decode cX1_lowerAll 57 = .ok (.goto (-23), 3) := by decide +kernel
theorem dX1_lowerAll_60 : decode cX1_lowerAll 60 = .ok (.iload_n 1, 1) := by decide +kernel
theorem dX1_lowerAll_61 : decode cX1_lowerAll 61 = .ok (.ireturn, 1) := by decide +kernel
theorem dX1_relax_0 : decode cX1_relax 0 = .ok (.iconst (-1), 1) := by decide +kernel
theorem dX1_relax_1 : decode cX1_relax 1 = .ok (.istore_n 1, 1) := by decide +kernel
theorem dX1_relax_2 : decode cX1_relax 2 = .ok (.iconst 0, 1) := by decide +kernel
theorem dX1_relax_3 : decode cX1_relax 3 = .ok (.istore_n 2, 1) := by decide +kernel
theorem dX1_relax_4 : decode cX1_relax 4 = .ok (.iload_n 2, 1) := by decide +kernel
theorem dX1_relax_5 : decode cX1_relax 5 = .ok (.aload_n 0, 1) := by decide +kernel
theorem dX1_relax_6 : decode cX1_relax 6 = .ok (.getfield 49, 3) := by decide +kernel
theorem dX1_relax_9 : decode cX1_relax 9 = .ok (.if_icmp .ge 186, 3) := by decide +kernel
theorem dX1_relax_12 : decode cX1_relax 12 = .ok (.aload_n 0, 1) := by decide +kernel
theorem dX1_relax_13 : decode cX1_relax 13 = .ok (.getfield 11, 3) := by decide +kernel
theorem dX1_relax_16 : decode cX1_relax 16 = .ok (.iload_n 2, 1) := by decide +kernel
theorem dX1_relax_17 : decode cX1_relax 17 = .ok (.iaload, 1) := by decide +kernel
theorem dX1_relax_18 : decode cX1_relax 18 = .ok (.istore_n 3, 1) := by decide +kernel
theorem dX1_relax_19 : decode cX1_relax 19 = .ok (.aload_n 0, 1) := by decide +kernel
theorem dX1_relax_20 : decode cX1_relax 20 = .ok (.getfield 15, 3) := by decide +kernel
theorem dX1_relax_23 : decode cX1_relax 23 = .ok (.iload_n 2, 1) := by decide +kernel
theorem dX1_relax_24 : decode cX1_relax 24 = .ok (.iaload, 1) := by decide +kernel
theorem dX1_relax_25 : decode cX1_relax 25 = .ok (.istore 4, 2) := by decide +kernel
theorem dX1_relax_27 : decode cX1_relax 27 = .ok (.aload_n 0, 1) := by decide +kernel
theorem dX1_relax_28 : decode cX1_relax 28 = .ok (.getfield 33, 3) := by decide +kernel
theorem dX1_relax_31 : decode cX1_relax 31 = .ok (.iload_n 2, 1) := by decide +kernel
theorem dX1_relax_32 : decode cX1_relax 32 = .ok (.iaload, 1) := by decide +kernel
theorem dX1_relax_33 : decode cX1_relax 33 = .ok (.aload_n 0, 1) := by decide +kernel
theorem dX1_relax_34 : decode cX1_relax 34 = .ok (.getfield 30, 3) := by decide +kernel
theorem dX1_relax_37 : decode cX1_relax 37 = .ok (.iload_n 2, 1) := by decide +kernel
theorem dX1_relax_38 : decode cX1_relax 38 = .ok (.iaload, 1) := by decide +kernel
theorem dX1_relax_39 : decode cX1_relax 39 = .ok (.if_icmp .ge 68, 3) := by decide +kernel
theorem dX1_relax_42 : decode cX1_relax 42 = .ok (.aload_n 0, 1) := by decide +kernel
theorem dX1_relax_43 : decode cX1_relax 43 = .ok (.getfield 36, 3) := by decide +kernel
theorem dX1_relax_46 : decode cX1_relax 46 = .ok (.iload_n 3, 1) := by decide +kernel
theorem dX1_relax_47 : decode cX1_relax 47 = .ok (.iaload, 1) := by decide +kernel
theorem dX1_relax_48 : decode cX1_relax 48 = .ok (.ldc 85, 2) := by decide +kernel
theorem dX1_relax_50 : decode cX1_relax 50 = .ok (.if_icmp .ge 57, 3) := by decide +kernel
theorem dX1_relax_53 : decode cX1_relax 53 = .ok (.aload_n 0, 1) := by decide +kernel
theorem dX1_relax_54 : decode cX1_relax 54 = .ok (.getfield 36, 3) := by decide +kernel
theorem dX1_relax_57 : decode cX1_relax 57 = .ok (.iload_n 3, 1) := by decide +kernel
theorem dX1_relax_58 : decode cX1_relax 58 = .ok (.iaload, 1) := by decide +kernel
theorem dX1_relax_59 : decode cX1_relax 59 = .ok (.aload_n 0, 1) := by decide +kernel
theorem dX1_relax_60 : decode cX1_relax 60 = .ok (.getfield 24, 3) := by decide +kernel
theorem dX1_relax_63 : decode cX1_relax 63 = .ok (.iload_n 2, 1) := by decide +kernel
theorem dX1_relax_64 : decode cX1_relax 64 = .ok (.iaload, 1) := by decide +kernel
theorem dX1_relax_65 : decode cX1_relax 65 = .ok (.iadd, 1) := by decide +kernel
theorem dX1_relax_66 : decode cX1_relax 66 = .ok (.aload_n 0, 1) := by decide +kernel
theorem dX1_relax_67 : decode cX1_relax 67 = .ok (.getfield 36, 3) := by decide +kernel
theorem dX1_relax_70 : decode cX1_relax 70 = .ok (.iload 4, 2) := by decide +kernel
theorem dX1_relax_72 : decode cX1_relax 72 = .ok (.iaload, 1) := by decide +kernel
theorem dX1_relax_73 : decode cX1_relax 73 = .ok (.if_icmp .ge 34, 3) := by decide +kernel
theorem dX1_relax_76 : decode cX1_relax 76 = .ok (.aload_n 0, 1) := by decide +kernel
theorem dX1_relax_77 : decode cX1_relax 77 = .ok (.getfield 36, 3) := by decide +kernel
theorem dX1_relax_80 : decode cX1_relax 80 = .ok (.iload 4, 2) := by decide +kernel
theorem dX1_relax_82 : decode cX1_relax 82 = .ok (.aload_n 0, 1) := by decide +kernel
theorem dX1_relax_83 : decode cX1_relax 83 = .ok (.getfield 36, 3) := by decide +kernel
theorem dX1_relax_86 : decode cX1_relax 86 = .ok (.iload_n 3, 1) := by decide +kernel
theorem dX1_relax_87 : decode cX1_relax 87 = .ok (.iaload, 1) := by decide +kernel
theorem dX1_relax_88 : decode cX1_relax 88 = .ok (.aload_n 0, 1) := by decide +kernel
theorem dX1_relax_89 : decode cX1_relax 89 = .ok (.getfield 24, 3) := by decide +kernel
theorem dX1_relax_92 : decode cX1_relax 92 = .ok (.iload_n 2, 1) := by decide +kernel
theorem dX1_relax_93 : decode cX1_relax 93 = .ok (.iaload, 1) := by decide +kernel
theorem dX1_relax_94 : decode cX1_relax 94 = .ok (.iadd, 1) := by decide +kernel
theorem dX1_relax_95 : decode cX1_relax 95 = .ok (.iastore, 1) := by decide +kernel
theorem dX1_relax_96 : decode cX1_relax 96 = .ok (.aload_n 0, 1) := by decide +kernel
theorem dX1_relax_97 : decode cX1_relax 97 = .ok (.getfield 39, 3) := by decide +kernel
theorem dX1_relax_100 : decode cX1_relax 100 = .ok (.iload 4, 2) := by decide +kernel
theorem dX1_relax_102 : decode cX1_relax 102 = .ok (.iload_n 2, 1) := by decide +kernel
theorem dX1_relax_103 : decode cX1_relax 103 = .ok (.iastore, 1) := by decide +kernel
theorem dX1_relax_104 : decode cX1_relax 104 = .ok (.iload 4, 2) := by decide +kernel
theorem dX1_relax_106 : decode cX1_relax 106 = .ok (.istore_n 1, 1) := by decide +kernel
theorem dX1_relax_107 : decode cX1_relax 107 = .ok (.aload_n 0, 1) := by decide +kernel
theorem dX1_relax_108 : decode cX1_relax 108 = .ok (.getfield 33, 3) := by decide +kernel
theorem dX1_relax_111 : decode cX1_relax 111 = .ok (.iload_n 2, 1) := by decide +kernel
theorem dX1_relax_112 : decode cX1_relax 112 = .ok (.iaload, 1) := by decide +kernel
theorem dX1_relax_113 : decode cX1_relax 113 = .ok (.aload_n 0, 1) := by decide +kernel
theorem dX1_relax_114 : decode cX1_relax 114 = .ok (.getfield 27, 3) := by decide +kernel
theorem dX1_relax_117 : decode cX1_relax 117 = .ok (.iload_n 2, 1) := by decide +kernel
theorem dX1_relax_118 : decode cX1_relax 118 = .ok (.iaload, 1) := by decide +kernel
theorem dX1_relax_119 : decode cX1_relax 119 = .ok (.if_icmp .le 70, 3) := by decide +kernel
theorem dX1_relax_122 : decode cX1_relax 122 = .ok (.aload_n 0, 1) := by decide +kernel
theorem dX1_relax_123 : decode cX1_relax 123 = .ok (.getfield 36, 3) := by decide +kernel
theorem dX1_relax_126 : decode cX1_relax 126 = .ok (.iload 4, 2) := by decide +kernel
theorem dX1_relax_128 : decode cX1_relax 128 = .ok (.iaload, 1) := by decide +kernel
theorem dX1_relax_129 : decode cX1_relax 129 = .ok (.ldc 85, 2) := by decide +kernel
theorem dX1_relax_131 : decode cX1_relax 131 = .ok (.if_icmp .ge 58, 3) := by decide +kernel
theorem dX1_relax_134 : decode cX1_relax 134 = .ok (.aload_n 0, 1) := by decide +kernel
theorem dX1_relax_135 : decode cX1_relax 135 = .ok (.getfield 36, 3) := by decide +kernel
theorem dX1_relax_138 : decode cX1_relax 138 = .ok (.iload 4, 2) := by decide +kernel
theorem dX1_relax_140 : decode cX1_relax 140 = .ok (.iaload, 1) := by decide +kernel
theorem dX1_relax_141 : decode cX1_relax 141 = .ok (.aload_n 0, 1) := by decide +kernel
theorem dX1_relax_142 : decode cX1_relax 142 = .ok (.getfield 24, 3) := by decide +kernel
theorem dX1_relax_145 : decode cX1_relax 145 = .ok (.iload_n 2, 1) := by decide +kernel
theorem dX1_relax_146 : decode cX1_relax 146 = .ok (.iaload, 1) := by decide +kernel
theorem dX1_relax_147 : decode cX1_relax 147 = .ok (.isub, 1) := by decide +kernel
theorem dX1_relax_148 : decode cX1_relax 148 = .ok (.aload_n 0, 1) := by decide +kernel
theorem dX1_relax_149 : decode cX1_relax 149 = .ok (.getfield 36, 3) := by decide +kernel
theorem dX1_relax_152 : decode cX1_relax 152 = .ok (.iload_n 3, 1) := by decide +kernel
theorem dX1_relax_153 : decode cX1_relax 153 = .ok (.iaload, 1) := by decide +kernel
theorem dX1_relax_154 : decode cX1_relax 154 = .ok (.if_icmp .ge 35, 3) := by decide +kernel
theorem dX1_relax_157 : decode cX1_relax 157 = .ok (.aload_n 0, 1) := by decide +kernel
theorem dX1_relax_158 : decode cX1_relax 158 = .ok (.getfield 36, 3) := by decide +kernel
theorem dX1_relax_161 : decode cX1_relax 161 = .ok (.iload_n 3, 1) := by decide +kernel
theorem dX1_relax_162 : decode cX1_relax 162 = .ok (.aload_n 0, 1) := by decide +kernel
theorem dX1_relax_163 : decode cX1_relax 163 = .ok (.getfield 36, 3) := by decide +kernel
theorem dX1_relax_166 : decode cX1_relax 166 = .ok (.iload 4, 2) := by decide +kernel
theorem dX1_relax_168 : decode cX1_relax 168 = .ok (.iaload, 1) := by decide +kernel
theorem dX1_relax_169 : decode cX1_relax 169 = .ok (.aload_n 0, 1) := by decide +kernel
theorem dX1_relax_170 : decode cX1_relax 170 = .ok (.getfield 24, 3) := by decide +kernel
theorem dX1_relax_173 : decode cX1_relax 173 = .ok (.iload_n 2, 1) := by decide +kernel
theorem dX1_relax_174 : decode cX1_relax 174 = .ok (.iaload, 1) := by decide +kernel
theorem dX1_relax_175 : decode cX1_relax 175 = .ok (.isub, 1) := by decide +kernel
theorem dX1_relax_176 : decode cX1_relax 176 = .ok (.iastore, 1) := by decide +kernel
theorem dX1_relax_177 : decode cX1_relax 177 = .ok (.aload_n 0, 1) := by decide +kernel
theorem dX1_relax_178 : decode cX1_relax 178 = .ok (.getfield 39, 3) := by decide +kernel
theorem dX1_relax_181 : decode cX1_relax 181 = .ok (.iload_n 3, 1) := by decide +kernel
theorem dX1_relax_182 : decode cX1_relax 182 = .ok (.iload_n 2, 1) := by decide +kernel
theorem dX1_relax_183 : decode cX1_relax 183 = .ok (.bipush 32, 2) := by decide +kernel
theorem dX1_relax_185 : decode cX1_relax 185 = .ok (.iadd, 1) := by decide +kernel
theorem dX1_relax_186 : decode cX1_relax 186 = .ok (.iastore, 1) := by decide +kernel
theorem dX1_relax_187 : decode cX1_relax 187 = .ok (.iload_n 3, 1) := by decide +kernel
theorem dX1_relax_188 : decode cX1_relax 188 = .ok (.istore_n 1, 1) := by decide +kernel
theorem dX1_relax_189 : decode cX1_relax 189 = .ok (.iinc 2 1, 3) := by decide +kernel
theorem dX1_relax_192 : decode cX1_relax 192 = .ok (.goto (-188), 3) := by decide +kernel
theorem dX1_relax_195 : decode cX1_relax 195 = .ok (.iload_n 1, 1) := by decide +kernel
theorem dX1_relax_196 : decode cX1_relax 196 = .ok (.ireturn, 1) := by decide +kernel
theorem dX1_findRing_0 : decode cX1_findRing 0 = .ok (.iload_n 1, 1) := by decide +kernel
theorem dX1_findRing_1 : decode cX1_findRing 1 = .ok (.istore_n 2, 1) := by decide +kernel
theorem dX1_findRing_2 : decode cX1_findRing 2 = .ok (.iconst 0, 1) := by decide +kernel
theorem dX1_findRing_3 : decode cX1_findRing 3 = .ok (.istore_n 3, 1) := by decide +kernel
theorem dX1_findRing_4 : decode cX1_findRing 4 = .ok (.iload_n 3, 1) := by decide +kernel
theorem dX1_findRing_5 : decode cX1_findRing 5 = .ok (.aload_n 0, 1) := by decide +kernel
theorem dX1_findRing_6 : decode cX1_findRing 6 = .ok (.getfield 45, 3) := by decide +kernel
theorem dX1_findRing_9 : decode cX1_findRing 9 = .ok (.if_icmp .ge 20, 3) := by decide +kernel
theorem dX1_findRing_12 : decode cX1_findRing 12 = .ok (.iload_n 2, 1) := by decide +kernel
theorem dX1_findRing_13 : decode cX1_findRing 13 = .ok (.iconst (-1), 1) := by decide +kernel
theorem dX1_findRing_14 : decode cX1_findRing 14 = .ok (.if_icmp .eq 15, 3) := by decide +kernel
theorem dX1_findRing_17 : decode cX1_findRing 17 = .ok (.aload_n 0, 1) := by decide +kernel
theorem dX1_findRing_18 : decode cX1_findRing 18 = .ok (.iload_n 2, 1) := by decide +kernel
theorem dX1_findRing_19 : decode cX1_findRing 19 = .ok (.invokevirtual 104, 3) := by decide +kernel
theorem dX1_findRing_22 : decode cX1_findRing 22 = .ok (.istore_n 2, 1) := by decide +kernel
theorem dX1_findRing_23 : decode cX1_findRing 23 = .ok (.iinc 3 1, 3) := by decide +kernel
theorem dX1_findRing_26 : decode cX1_findRing 26 = .ok (.goto (-22), 3) := by decide +kernel
theorem dX1_findRing_29 : decode cX1_findRing 29 = .ok (.iload_n 2, 1) := by decide +kernel
theorem dX1_findRing_30 : decode cX1_findRing 30 = .ok (.istore_n 3, 1) := by decide +kernel
theorem dX1_findRing_31 : decode cX1_findRing 31 = .ok (.aload_n 0, 1) := by decide +kernel
theorem dX1_findRing_32 : decode cX1_findRing 32 = .ok (.iconst 0, 1) := by decide +kernel
theorem dX1_findRing_33 : decode cX1_findRing 33 = .ok (.putfield 52, 3) := by decide +kernel
theorem dX1_findRing_36 : decode cX1_findRing 36 = .ok (.iload_n 2, 1) := by decide +kernel
theorem dX1_findRing_37 : decode cX1_findRing 37 = .ok (.iconst (-1), 1) := by decide +kernel
theorem dX1_findRing_38 : decode cX1_findRing 38 = .ok (.if_icmp .eq 62, 3) := by decide +kernel
theorem dX1_findRing_41 : decode cX1_findRing 41 = .ok (.aload_n 0, 1) := by decide +kernel
theorem dX1_findRing_42 : decode cX1_findRing 42 = .ok (.getfield 52, 3) := by decide +kernel
theorem dX1_findRing_45 : decode cX1_findRing 45 = .ok (.aload_n 0, 1) := by decide +kernel
theorem dX1_findRing_46 : decode cX1_findRing 46 = .ok (.getfield 42, 3) := by decide +kernel
theorem dX1_findRing_49 : decode cX1_findRing 49 = .ok (.arraylength, 1) := by decide +kernel
theorem dX1_findRing_50 : decode cX1_findRing 50 = .ok (.if_icmp .ge 50, 3) := by decide +kernel
theorem dX1_findRing_53 : decode cX1_findRing 53 = .ok (.aload_n 0, 1) := by decide +kernel
theorem dX1_findRing_54 : decode cX1_findRing 54 = .ok (.getfield 42, 3) := by decide +kernel
theorem dX1_findRing_57 : decode cX1_findRing 57 = .ok (.aload_n 0, 1) := by decide +kernel
theorem dX1_findRing_58 : decode cX1_findRing 58 = .ok (.getfield 52, 3) := by decide +kernel
theorem dX1_findRing_61 : decode cX1_findRing 61 = .ok (.aload_n 0, 1) := by decide +kernel
theorem dX1_findRing_62 : decode cX1_findRing 62 = .ok (.getfield 39, 3) := by decide +kernel
theorem dX1_findRing_65 : decode cX1_findRing 65 = .ok (.iload_n 2, 1) := by decide +kernel
theorem dX1_findRing_66 : decode cX1_findRing 66 = .ok (.iaload, 1) := by decide +kernel
theorem dX1_findRing_67 : decode cX1_findRing 67 = .ok (.iastore, 1) := by decide +kernel
theorem dX1_findRing_68 : decode cX1_findRing 68 = .ok (.aload_n 0, 1) := by decide +kernel
theorem dX1_findRing_69 : decode cX1_findRing 69 = .ok (.dup, 1) := by decide +kernel
theorem dX1_findRing_70 : decode cX1_findRing 70 = .ok (.getfield 52, 3) := by decide +kernel
theorem dX1_findRing_73 : decode cX1_findRing 73 = .ok (.iconst 1, 1) := by decide +kernel
theorem dX1_findRing_74 : decode cX1_findRing 74 = .ok (.iadd, 1) := by decide +kernel
theorem dX1_findRing_75 : decode cX1_findRing 75 = .ok (.putfield 52, 3) := by decide +kernel
theorem dX1_findRing_78 : decode cX1_findRing 78 = .ok (.aload_n 0, 1) := by decide +kernel
theorem dX1_findRing_79 : decode cX1_findRing 79 = .ok (.iload_n 2, 1) := by decide +kernel
theorem dX1_findRing_80 : decode cX1_findRing 80 = .ok (.invokevirtual 104, 3) := by decide +kernel
theorem dX1_findRing_83 : decode cX1_findRing 83 = .ok (.istore_n 2, 1) := by decide +kernel
theorem dX1_findRing_84 : decode cX1_findRing 84 = .ok (.iload_n 2, 1) := by decide +kernel
theorem dX1_findRing_85 : decode cX1_findRing 85 = .ok (.iload_n 3, 1) := by decide +kernel
theorem dX1_findRing_86 : decode cX1_findRing 86 = .ok (.if_icmp .ne (-50), 3) := by decide +kernel
theorem dX1_findRing_89 : decode cX1_findRing 89 = .ok (.iload_n 2, 1) := by decide +kernel
theorem dX1_findRing_90 : decode cX1_findRing 90 = .ok (.iconst (-1), 1) := by decide +kernel
theorem dX1_findRing_91 : decode cX1_findRing 91 = .ok (.if_icmp .eq 7, 3) := by decide +kernel
theorem dX1_findRing_94 : decode cX1_findRing 94 = .ok (.iconst 1, 1) := by decide +kernel
theorem dX1_findRing_95 : decode cX1_findRing 95 = .ok (.goto 4, 3) := by decide +kernel
theorem dX1_findRing_98 : decode cX1_findRing 98 = .ok (.iconst 0, 1) := by decide +kernel
theorem dX1_findRing_99 : decode cX1_findRing 99 = .ok (.ireturn, 1) := by decide +kernel
theorem dX1_findRing_100 : decode cX1_findRing 100 = .ok (.iconst 0, 1) := by decide +kernel
theorem dX1_findRing_101 : decode cX1_findRing 101 = .ok (.ireturn, 1) := by decide +kernel
theorem dX1_cameFrom_0 : decode cX1_cameFrom 0 = .ok (.aload_n 0, 1) := by decide +kernel
theorem dX1_cameFrom_1 : decode cX1_cameFrom 1 = .ok (.getfield 39, 3) := by decide +kernel
theorem dX1_cameFrom_4 : decode cX1_cameFrom 4 = .ok (.iload_n 1, 1) := by decide +kernel
theorem dX1_cameFrom_5 : decode cX1_cameFrom 5 = .ok (.iaload, 1) := by decide +kernel
theorem dX1_cameFrom_6 : decode cX1_cameFrom 6 = .ok (.istore_n 2, 1) := by decide +kernel
theorem dX1_cameFrom_7 : decode cX1_cameFrom 7 = .ok (.iload_n 2, 1) := by decide +kernel
theorem dX1_cameFrom_8 : decode cX1_cameFrom 8 = .ok (.iconst (-1), 1) := by decide +kernel
theorem dX1_cameFrom_9 : decode cX1_cameFrom 9 = .ok (.if_icmp .ne 5, 3) := by decide +kernel
theorem dX1_cameFrom_12 : decode cX1_cameFrom 12 = .ok (.iconst (-1), 1) := by decide +kernel
theorem dX1_cameFrom_13 : decode cX1_cameFrom 13 = .ok (.ireturn, 1) := by decide +kernel
theorem dX1_cameFrom_14 : decode cX1_cameFrom 14 = .ok (.iload_n 2, 1) := by decide +kernel
theorem dX1_cameFrom_15 : decode cX1_cameFrom 15 = .ok (.bipush 32, 2) := by decide +kernel
theorem dX1_cameFrom_17 : decode cX1_cameFrom 17 = .ok (.if_icmp .ge 12, 3) := by decide +kernel
theorem dX1_cameFrom_20 : decode cX1_cameFrom 20 = .ok (.aload_n 0, 1) := by decide +kernel
theorem dX1_cameFrom_21 : decode cX1_cameFrom 21 = .ok (.getfield 11, 3) := by decide +kernel
theorem dX1_cameFrom_24 : decode cX1_cameFrom 24 = .ok (.iload_n 2, 1) := by decide +kernel
theorem dX1_cameFrom_25 : decode cX1_cameFrom 25 = .ok (.iaload, 1) := by decide +kernel
theorem dX1_cameFrom_26 : decode cX1_cameFrom 26 = .ok (.goto 12, 3) := by decide +kernel
theorem dX1_cameFrom_29 : decode cX1_cameFrom 29 = .ok (.aload_n 0, 1) := by decide +kernel
theorem dX1_cameFrom_30 : decode cX1_cameFrom 30 = .ok (.getfield 15, 3) := by decide +kernel
theorem dX1_cameFrom_33 : decode cX1_cameFrom 33 = .ok (.iload_n 2, 1) := by decide +kernel
theorem dX1_cameFrom_34 : decode cX1_cameFrom 34 = .ok (.bipush 32, 2) := by decide +kernel
theorem dX1_cameFrom_36 : decode cX1_cameFrom 36 = .ok (.isub, 1) := by decide +kernel
theorem dX1_cameFrom_37 : decode cX1_cameFrom 37 = .ok (.iaload, 1) := by decide +kernel
theorem dX1_cameFrom_38 : decode cX1_cameFrom 38 = .ok (.ireturn, 1) := by decide +kernel
theorem dX1_keepCheap_0 : decode cX1_keepCheap 0 = .ok (.iconst 0, 1) := by decide +kernel
theorem dX1_keepCheap_1 : decode cX1_keepCheap 1 = .ok (.istore_n 1, 1) := by decide +kernel
theorem dX1_keepCheap_2 : decode cX1_keepCheap 2 = .ok (.iload_n 1, 1) := by decide +kernel
theorem dX1_keepCheap_3 : decode cX1_keepCheap 3 = .ok (.aload_n 0, 1) := by decide +kernel
theorem dX1_keepCheap_4 : decode cX1_keepCheap 4 = .ok (.getfield 49, 3) := by decide +kernel
theorem dX1_keepCheap_7 : decode cX1_keepCheap 7 = .ok (.if_icmp .ge 46, 3) := by decide +kernel
theorem dX1_keepCheap_10 : decode cX1_keepCheap 10 = .ok (.aload_n 0, 1) := by decide +kernel
theorem dX1_keepCheap_11 : decode cX1_keepCheap 11 = .ok (.getfield 36, 3) := by decide +kernel
theorem dX1_keepCheap_14 : decode cX1_keepCheap 14 = .ok (.aload_n 0, 1) := by decide +kernel
theorem dX1_keepCheap_15 : decode cX1_keepCheap 15 = .ok (.getfield 11, 3) := by decide +kernel
theorem dX1_keepCheap_18 : decode cX1_keepCheap 18 = .ok (.iload_n 1, 1) := by decide +kernel
theorem dX1_keepCheap_19 : decode cX1_keepCheap 19 = .ok (.iaload, 1) := by decide +kernel
theorem dX1_keepCheap_20 : decode cX1_keepCheap 20 = .ok (.iaload, 1) := by decide +kernel
theorem dX1_keepCheap_21 : decode cX1_keepCheap 21 = .ok (.aload_n 0, 1) := by decide +kernel
theorem dX1_keepCheap_22 : decode cX1_keepCheap 22 = .ok (.getfield 24, 3) := by decide +kernel
theorem dX1_keepCheap_25 : decode cX1_keepCheap 25 = .ok (.iload_n 1, 1) := by decide +kernel
theorem dX1_keepCheap_26 : decode cX1_keepCheap 26 = .ok (.iaload, 1) := by decide +kernel
theorem dX1_keepCheap_27 : decode cX1_keepCheap 27 = .ok (.iadd, 1) := by decide +kernel
theorem dX1_keepCheap_28 : decode cX1_keepCheap 28 = .ok (.aload_n 0, 1) := by decide +kernel
theorem dX1_keepCheap_29 : decode cX1_keepCheap 29 = .ok (.getfield 36, 3) := by decide +kernel
theorem dX1_keepCheap_32 : decode cX1_keepCheap 32 = .ok (.aload_n 0, 1) := by decide +kernel
theorem dX1_keepCheap_33 : decode cX1_keepCheap 33 = .ok (.getfield 15, 3) := by decide +kernel
theorem dX1_keepCheap_36 : decode cX1_keepCheap 36 = .ok (.iload_n 1, 1) := by decide +kernel
theorem dX1_keepCheap_37 : decode cX1_keepCheap 37 = .ok (.iaload, 1) := by decide +kernel
theorem dX1_keepCheap_38 : decode cX1_keepCheap 38 = .ok (.iaload, 1) := by decide +kernel
theorem dX1_keepCheap_39 : decode cX1_keepCheap 39 = .ok (.if_icmp .eq 8, 3) := by decide +kernel
theorem dX1_keepCheap_42 : decode cX1_keepCheap 42 = .ok (.aload_n 0, 1) := by decide +kernel
theorem dX1_keepCheap_43 : decode cX1_keepCheap 43 = .ok (.iload_n 1, 1) := by decide +kernel
theorem dX1_keepCheap_44 : decode cX1_keepCheap 44 = .ok (.invokevirtual 66, 3) := by decide +kernel
theorem dX1_keepCheap_47 : decode cX1_keepCheap 47 = .ok (.iinc 1 1, 3) := by decide +kernel
theorem dX1_keepCheap_50 : decode cX1_keepCheap 50 = .ok (.goto (-48), 3) := by decide +kernel
theorem dX1_keepCheap_53 : decode cX1_keepCheap 53 = .ok (.return_, 1) := by decide +kernel
theorem dX1_setLevelsFrom_0 : decode cX1_setLevelsFrom 0 = .ok (.iconst 0, 1) := by decide +kernel
theorem dX1_setLevelsFrom_1 : decode cX1_setLevelsFrom 1 = .ok (.istore_n 2, 1) := by decide +kernel
theorem dX1_setLevelsFrom_2 : decode cX1_setLevelsFrom 2 = .ok (.iload_n 2, 1) := by decide +kernel
theorem dX1_setLevelsFrom_3 : decode cX1_setLevelsFrom 3 = .ok (.aload_n 0, 1) := by decide +kernel
theorem dX1_setLevelsFrom_4 : decode cX1_setLevelsFrom 4 = .ok (.getfield 45, 3) := by decide +kernel
theorem dX1_setLevelsFrom_7 : decode cX1_setLevelsFrom 7 = .ok (.if_icmp .ge 17, 3) := by decide +kernel
theorem dX1_setLevelsFrom_10 : decode cX1_setLevelsFrom 10 = .ok (.aload_n 0, 1) := by decide +kernel
theorem dX1_setLevelsFrom_11 : decode cX1_setLevelsFrom 11 = .ok (.getfield 36, 3) := by decide +kernel
theorem dX1_setLevelsFrom_14 : decode cX1_setLevelsFrom 14 = .ok (.iload_n 2, 1) := by decide +kernel
theorem dX1_setLevelsFrom_15 : decode cX1_setLevelsFrom 15 = .ok (.ldc 85, 2) := by decide +kernel
theorem dX1_setLevelsFrom_17 : decode cX1_setLevelsFrom 17 = .ok (.iastore, 1) := by decide +kernel
theorem dX1_setLevelsFrom_18 : decode cX1_setLevelsFrom 18 = .ok (.iinc 2 1, 3) := by decide +kernel
theorem dX1_setLevelsFrom_21 : decode cX1_setLevelsFrom 21 = .ok (.goto (-19), 3) := by decide +kernel
theorem dX1_setLevelsFrom_24 : decode cX1_setLevelsFrom 24 = .ok (.aload_n 0, 1) := by decide +kernel
theorem dX1_setLevelsFrom_25 : decode cX1_setLevelsFrom 25 = .ok (.iload_n 1, 1) := by decide +kernel
theorem dX1_setLevelsFrom_26 : decode cX1_setLevelsFrom 26 = .ok (.invokevirtual 55, 3) := by decide +kernel
theorem dX1_setLevelsFrom_29 : decode cX1_setLevelsFrom 29 = .ok (.ifCond .eq 10, 3) := by decide +kernel
theorem dX1_setLevelsFrom_32 : decode cX1_setLevelsFrom 32 = .ok (.aload_n 0, 1) := by decide +kernel
theorem dX1_setLevelsFrom_33 : decode cX1_setLevelsFrom 33 = .ok (.getfield 36, 3) := by decide +kernel
theorem dX1_setLevelsFrom_36 : decode cX1_setLevelsFrom 36 = .ok (.iload_n 1, 1) := by decide +kernel
theorem dX1_setLevelsFrom_37 : decode cX1_setLevelsFrom 37 = .ok (.iconst 0, 1) := by decide +kernel
theorem dX1_setLevelsFrom_38 : decode cX1_setLevelsFrom 38 = .ok (.iastore, 1) := by decide +kernel
theorem dX1_setLevelsFrom_39 : decode cX1_setLevelsFrom 39 = .ok (.iconst 0, 1) := by decide +kernel
theorem dX1_setLevelsFrom_40 : decode cX1_setLevelsFrom 40 = .ok (.istore_n 2, 1) := by decide +kernel
theorem dX1_setLevelsFrom_41 : decode cX1_setLevelsFrom 41 = .ok (.iload_n 2, 1) := by decide +kernel
theorem dX1_setLevelsFrom_42 : decode cX1_setLevelsFrom 42 = .ok (.aload_n 0, 1) := by decide +kernel
theorem dX1_setLevelsFrom_43 : decode cX1_setLevelsFrom 43 = .ok (.getfield 45, 3) := by decide +kernel
theorem dX1_setLevelsFrom_46 : decode cX1_setLevelsFrom 46 = .ok (.if_icmp .ge 18, 3) := by decide +kernel
theorem dX1_setLevelsFrom_49 : decode cX1_setLevelsFrom 49 = .ok (.aload_n 0, 1) := by decide +kernel
theorem dX1_setLevelsFrom_50 : decode cX1_setLevelsFrom 50 = .ok (.invokevirtual 101, 3) := by decide +kernel
theorem dX1_setLevelsFrom_53 : decode cX1_setLevelsFrom 53 = .ok (.iconst (-1), 1) := by decide +kernel
theorem dX1_setLevelsFrom_54 : decode cX1_setLevelsFrom 54 = .ok (.if_icmp .ne 4, 3) := by decide +kernel
theorem dX1_setLevelsFrom_57 : decode cX1_setLevelsFrom 57 = .ok (.return_, 1) := by decide +kernel
theorem dX1_setLevelsFrom_58 : decode cX1_setLevelsFrom 58 = .ok (.iinc 2 1, 3) := by decide +kernel
theorem dX1_setLevelsFrom_61 : decode cX1_setLevelsFrom 61 = .ok (.goto (-20), 3) := by decide +kernel
theorem dX1_setLevelsFrom_64 : decode cX1_setLevelsFrom 64 = .ok (.return_, 1) := by decide +kernel
theorem dX1_levelOf_0 : decode cX1_levelOf 0 = .ok (.aload_n 0, 1) := by decide +kernel
theorem dX1_levelOf_1 : decode cX1_levelOf 1 = .ok (.iload_n 1, 1) := by decide +kernel
theorem dX1_levelOf_2 : decode cX1_levelOf 2 = .ok (.invokevirtual 55, 3) := by decide +kernel
theorem dX1_levelOf_5 : decode cX1_levelOf 5 = .ok (.ifCond .eq 12, 3) := by decide +kernel
theorem dX1_levelOf_8 : decode cX1_levelOf 8 = .ok (.aload_n 0, 1) := by decide +kernel
theorem dX1_levelOf_9 : decode cX1_levelOf 9 = .ok (.getfield 36, 3) := by decide +kernel
theorem dX1_levelOf_12 : decode cX1_levelOf 12 = .ok (.iload_n 1, 1) := by decide +kernel
theorem dX1_levelOf_13 : decode cX1_levelOf 13 = .ok (.iaload, 1) := by decide +kernel
theorem dX1_levelOf_14 : decode cX1_levelOf 14 = .ok (.goto 5, 3) := by decide +kernel
theorem dX1_levelOf_17 : decode cX1_levelOf 17 = .ok (.ldc 85, 2) := by decide +kernel
theorem dX1_levelOf_19 : decode cX1_levelOf 19 = .ok (.ireturn, 1) := by decide +kernel
theorem dX1_sumOfCosts_0 : decode cX1_sumOfCosts 0 = .ok (.iconst 0, 1) := by decide +kernel
theorem dX1_sumOfCosts_1 : decode cX1_sumOfCosts 1 = .ok (.istore_n 2, 1) := by decide +kernel
theorem dX1_sumOfCosts_2 : decode cX1_sumOfCosts 2 = .ok (.iconst 0, 1) := by decide +kernel
theorem dX1_sumOfCosts_3 : decode cX1_sumOfCosts 3 = .ok (.istore_n 3, 1) := by decide +kernel
theorem dX1_sumOfCosts_4 : decode cX1_sumOfCosts 4 = .ok (.iload_n 3, 1) := by decide +kernel
theorem dX1_sumOfCosts_5 : decode cX1_sumOfCosts 5 = .ok (.iload_n 1, 1) := by decide +kernel
theorem dX1_sumOfCosts_6 : decode cX1_sumOfCosts 6 = .ok (.if_icmp .ge 33, 3) := by decide +kernel
theorem dX1_sumOfCosts_9 : decode cX1_sumOfCosts 9 = .ok (.iload_n 3, 1) := by decide +kernel
theorem dX1_sumOfCosts_10 : decode cX1_sumOfCosts 10 = .ok (.aload_n 0, 1) := by decide +kernel
theorem dX1_sumOfCosts_11 : decode cX1_sumOfCosts 11 = .ok (.getfield 49, 3) := by decide +kernel
theorem dX1_sumOfCosts_14 : decode cX1_sumOfCosts 14 = .ok (.if_icmp .ge 25, 3) := by decide +kernel
theorem dX1_sumOfCosts_17 : decode cX1_sumOfCosts 17 = .ok (.iload_n 2, 1) := by decide +kernel
theorem dX1_sumOfCosts_18 : decode cX1_sumOfCosts 18 = .ok (.aload_n 0, 1) := by decide +kernel
theorem dX1_sumOfCosts_19 : decode cX1_sumOfCosts 19 = .ok (.getfield 33, 3) := by decide +kernel
theorem dX1_sumOfCosts_22 : decode cX1_sumOfCosts 22 = .ok (.iload_n 3, 1) := by decide +kernel
theorem dX1_sumOfCosts_23 : decode cX1_sumOfCosts 23 = .ok (.iaload, 1) := by decide +kernel
theorem dX1_sumOfCosts_24 : decode cX1_sumOfCosts 24 = .ok (.aload_n 0, 1) := by decide +kernel
theorem dX1_sumOfCosts_25 : decode cX1_sumOfCosts 25 = .ok (.getfield 24, 3) := by decide +kernel
theorem dX1_sumOfCosts_28 : decode cX1_sumOfCosts 28 = .ok (.iload_n 3, 1) := by decide +kernel
theorem dX1_sumOfCosts_29 : decode cX1_sumOfCosts 29 = .ok (.iaload, 1) := by decide +kernel
theorem dX1_sumOfCosts_30 : decode cX1_sumOfCosts 30 = .ok (.imul, 1) := by decide +kernel
theorem dX1_sumOfCosts_31 : decode cX1_sumOfCosts 31 = .ok (.iadd, 1) := by decide +kernel
theorem dX1_sumOfCosts_32 : decode cX1_sumOfCosts 32 = .ok (.istore_n 2, 1) := by decide +kernel
theorem dX1_sumOfCosts_33 : decode cX1_sumOfCosts 33 = .ok (.iinc 3 1, 3) := by decide +kernel
theorem dX1_sumOfCosts_36 : decode cX1_sumOfCosts 36 = .ok (.goto (-32), 3) := by decide +kernel
theorem dX1_sumOfCosts_39 : decode cX1_sumOfCosts 39 = .ok (.iload_n 2, 1) := by decide +kernel
theorem dX1_sumOfCosts_40 : decode cX1_sumOfCosts 40 = .ok (.ireturn, 1) := by decide +kernel
theorem dX2_init_0 : decode cX2_init 0 = .ok (.aload_n 0, 1) := by decide +kernel
theorem dX2_init_1 : decode cX2_init 1 = .ok (.invokespecial 3, 3) := by decide +kernel
theorem dX2_init_4 : decode cX2_init 4 = .ok (.aload_n 0, 1) := by decide +kernel
theorem dX2_init_5 : decode cX2_init 5 = .ok (.bipush 6, 2) := by decide +kernel
theorem dX2_init_7 : decode cX2_init 7 = .ok (.newarray .int, 2) := by decide +kernel
theorem dX2_init_9 : decode cX2_init 9 = .ok (.putfield 11, 3) := by decide +kernel
theorem dX2_init_12 : decode cX2_init 12 = .ok (.aload_n 0, 1) := by decide +kernel
theorem dX2_init_13 : decode cX2_init 13 = .ok (.bipush 36, 2) := by decide +kernel
theorem dX2_init_15 : decode cX2_init 15 = .ok (.newarray .int, 2) := by decide +kernel
theorem dX2_init_17 : decode cX2_init 17 = .ok (.putfield 15, 3) := by decide +kernel
theorem dX2_init_20 : decode cX2_init 20 = .ok (.return_, 1) := by decide +kernel
theorem dX2_enter_0 : decode cX2_enter 0 = .ok (.aload_n 0, 1) := by decide +kernel
theorem dX2_enter_1 : decode cX2_enter 1 = .ok (.getfield 18, 3) := by decide +kernel
theorem dX2_enter_4 : decode cX2_enter 4 = .ok (.ifCond .lt 12, 3) := by decide +kernel
theorem dX2_enter_7 : decode cX2_enter 7 = .ok (.aload_n 0, 1) := by decide +kernel
theorem dX2_enter_8 : decode cX2_enter 8 = .ok (.getfield 18, 3) := by decide +kernel
theorem dX2_enter_11 : decode cX2_enter 11 = .ok (.bipush 6, 2) := by decide +kernel
theorem dX2_enter_13 : decode cX2_enter 13 = .ok (.if_icmp .lt 5, 3) := by decide +kernel
theorem dX2_enter_16 : decode cX2_enter 16 = .ok (.iconst (-1), 1) := by decide +kernel
theorem dX2_enter_17 : decode cX2_enter 17 = .ok (.ireturn, 1) := by decide +kernel
theorem dX2_enter_18 : decode cX2_enter 18 = .ok (.aload_n 0, 1) := by decide +kernel
theorem dX2_enter_19 : decode cX2_enter 19 = .ok (.getfield 11, 3) := by decide +kernel
theorem dX2_enter_22 : decode cX2_enter 22 = .ok (.aload_n 0, 1) := by decide +kernel
theorem dX2_enter_23 : decode cX2_enter 23 = .ok (.getfield 18, 3) := by decide +kernel
theorem dX2_enter_26 : decode cX2_enter 26 = .ok (.iload_n 1, 1) := by decide +kernel
theorem dX2_enter_27 : decode cX2_enter 27 = .ok (.iastore, 1) := by decide +kernel
theorem dX2_enter_28 : decode cX2_enter 28 = .ok (.aload_n 0, 1) := by decide +kernel
theorem dX2_enter_29 : decode cX2_enter 29 = .ok (.dup, 1) := by decide +kernel
theorem dX2_enter_30 : decode cX2_enter 30 = .ok (.getfield 18, 3) := by decide +kernel
theorem dX2_enter_33 : decode cX2_enter 33 = .ok (.iconst 1, 1) := by decide +kernel
theorem dX2_enter_34 : decode cX2_enter 34 = .ok (.iadd, 1) := by decide +kernel
theorem dX2_enter_35 : decode cX2_enter 35 = .ok (.putfield 18, 3) := by decide +kernel
theorem dX2_enter_38 : decode cX2_enter 38 = .ok (.aload_n 0, 1) := by decide +kernel
theorem dX2_enter_39 : decode cX2_enter 39 = .ok (.getfield 18, 3) := by decide +kernel
theorem dX2_enter_42 : decode cX2_enter 42 = .ok (.iconst 1, 1) := by decide +kernel
theorem dX2_enter_43 : decode cX2_enter 43 = .ok (.isub, 1) := by decide +kernel
theorem dX2_enter_44 : decode cX2_enter 44 = .ok (.ireturn, 1) := by decide +kernel
theorem dX3_init_0 : decode cX3_init 0 = .ok (.aload_n 0, 1) := by decide +kernel
theorem dX3_init_1 : decode cX3_init 1 = .ok (.invokespecial 3, 3) := by decide +kernel
theorem dX3_init_4 : decode cX3_init 4 = .ok (.aload_n 0, 1) := by decide +kernel
theorem dX3_init_5 : decode cX3_init 5 = .ok (.iload_n 1, 1) := by decide +kernel
theorem dX3_init_6 : decode cX3_init 6 = .ok (.putfield 9, 3) := by decide +kernel
theorem dX3_init_9 : decode cX3_init 9 = .ok (.aload_n 0, 1) := by decide +kernel
theorem dX3_init_10 : decode cX3_init 10 = .ok (.bipush 16, 2) := by decide +kernel
theorem dX3_init_12 : decode cX3_init 12 = .ok (.newarray .int, 2) := by decide +kernel
theorem dX3_init_14 : decode cX3_init 14 = .ok (.putfield 15, 3) := by decide +kernel
theorem dX3_init_17 : decode cX3_init 17 = .ok (.aload_n 0, 1) := by decide +kernel
theorem dX3_init_18 : decode cX3_init 18 = .ok (.bipush 16, 2) := by decide +kernel
theorem dX3_init_20 : decode cX3_init 20 = .ok (.newarray .int, 2) := by decide +kernel
theorem dX3_init_22 : decode cX3_init 22 = .ok (.putfield 19, 3) := by decide +kernel
theorem dX3_init_25 : decode cX3_init 25 = .ok (.aload_n 0, 1) := by decide +kernel
theorem dX3_init_26 : decode cX3_init 26 = .ok (.bipush 16, 2) := by decide +kernel
theorem dX3_init_28 : decode cX3_init 28 = .ok (.newarray .int, 2) := by decide +kernel
theorem dX3_init_30 : decode cX3_init 30 = .ok (.putfield 22, 3) := by decide +kernel
theorem dX3_init_33 : decode cX3_init 33 = .ok (.aload_n 0, 1) := by decide +kernel
theorem dX3_init_34 : decode cX3_init 34 = .ok (.bipush 16, 2) := by decide +kernel
theorem dX3_init_36 : decode cX3_init 36 = .ok (.newarray .int, 2) := by decide +kernel
theorem dX3_init_38 : decode cX3_init 38 = .ok (.putfield 25, 3) := by decide +kernel
theorem dX3_init_41 : decode cX3_init 41 = .ok (.aload_n 0, 1) := by decide +kernel
theorem dX3_init_42 : decode cX3_init 42 = .ok (.bipush 16, 2) := by decide +kernel
theorem dX3_init_44 : decode cX3_init 44 = .ok (.newarray .int, 2) := by decide +kernel
theorem dX3_init_46 : decode cX3_init 46 = .ok (.putfield 28, 3) := by decide +kernel
theorem dX3_init_49 : decode cX3_init 49 = .ok (.aload_n 0, 1) := by decide +kernel
theorem dX3_init_50 : decode cX3_init 50 = .ok (.bipush 8, 2) := by decide +kernel
theorem dX3_init_52 : decode cX3_init 52 = .ok (.newarray .int, 2) := by decide +kernel
theorem dX3_init_54 : decode cX3_init 54 = .ok (.putfield 31, 3) := by decide +kernel
theorem dX3_init_57 : decode cX3_init 57 = .ok (.return_, 1) := by decide +kernel
theorem dX3_put_0 : decode cX3_put 0 = .ok (.aload_n 0, 1) := by decide +kernel
theorem dX3_put_1 : decode cX3_put 1 = .ok (.getfield 34, 3) := by decide +kernel
theorem dX3_put_4 : decode cX3_put 4 = .ok (.ifCond .lt 12, 3) := by decide +kernel
theorem dX3_put_7 : decode cX3_put 7 = .ok (.aload_n 0, 1) := by decide +kernel
theorem dX3_put_8 : decode cX3_put 8 = .ok (.getfield 34, 3) := by decide +kernel
theorem dX3_put_11 : decode cX3_put 11 = .ok (.bipush 16, 2) := by decide +kernel
theorem dX3_put_13 : decode cX3_put 13 = .ok (.if_icmp .lt 5, 3) := by decide +kernel
theorem dX3_put_16 : decode cX3_put 16 = .ok (.iconst (-1), 1) := by decide +kernel
theorem dX3_put_17 : decode cX3_put 17 = .ok (.ireturn, 1) := by decide +kernel
theorem dX3_put_18 : decode cX3_put 18 = .ok (.aload_n 0, 1) := by decide +kernel
theorem dX3_put_19 : decode cX3_put 19 = .ok (.getfield 15, 3) := by decide +kernel
theorem dX3_put_22 : decode cX3_put 22 = .ok (.aload_n 0, 1) := by decide +kernel
theorem dX3_put_23 : decode cX3_put 23 = .ok (.getfield 34, 3) := by decide +kernel
theorem dX3_put_26 : decode cX3_put 26 = .ok (.iload_n 1, 1) := by decide +kernel
theorem dX3_put_27 : decode cX3_put 27 = .ok (.iastore, 1) := by decide +kernel
theorem dX3_put_28 : decode cX3_put 28 = .ok (.aload_n 0, 1) := by decide +kernel
theorem dX3_put_29 : decode cX3_put 29 = .ok (.getfield 19, 3) := by decide +kernel
theorem dX3_put_32 : decode cX3_put 32 = .ok (.aload_n 0, 1) := by decide +kernel
theorem dX3_put_33 : decode cX3_put 33 = .ok (.getfield 34, 3) := by decide +kernel
theorem dX3_put_36 : decode cX3_put 36 = .ok (.iload_n 2, 1) := by decide +kernel
theorem dX3_put_37 : decode cX3_put 37 = .ok (.iastore, 1) := by decide +kernel
theorem dX3_put_38 : decode cX3_put 38 = .ok (.aload_n 0, 1) := by decide +kernel
theorem dX3_put_39 : decode cX3_put 39 = .ok (.dup, 1) := by decide +kernel
theorem dX3_put_40 : decode cX3_put 40 = .ok (.getfield 34, 3) := by decide +kernel
theorem dX3_put_43 : decode cX3_put 43 = .ok (.iconst 1, 1) := by decide +kernel
theorem dX3_put_44 : decode cX3_put 44 = .ok (.iadd, 1) := by decide +kernel
theorem dX3_put_45 : decode cX3_put 45 = .ok (.putfield 34, 3) := by decide +kernel
theorem dX3_put_48 : decode cX3_put 48 = .ok (.aload_n 0, 1) := by decide +kernel
theorem dX3_put_49 : decode cX3_put 49 = .ok (.aload_n 0, 1) := by decide +kernel
theorem dX3_put_50 : decode cX3_put 50 = .ok (.getfield 34, 3) := by decide +kernel
theorem dX3_put_53 : decode cX3_put 53 = .ok (.iconst 1, 1) := by decide +kernel
theorem dX3_put_54 : decode cX3_put 54 = .ok (.isub, 1) := by decide +kernel
theorem dX3_put_55 : decode cX3_put 55 = .ok (.iload_n 3, 1) := by decide +kernel
theorem dX3_put_56 : decode cX3_put 56 = .ok (.iload 4, 2) := by decide +kernel
theorem dX3_put_58 : decode cX3_put 58 = .ok (.iload 5, 2) := by decide +kernel
theorem dX3_put_60 : decode cX3_put 60 = .ok (.invokevirtual 37, 3) := by decide +kernel
theorem dX3_put_63 : decode cX3_put 63 = .ok (.aload_n 0, 1) := by decide +kernel
theorem dX3_put_64 : decode cX3_put 64 = .ok (.getfield 34, 3) := by decide +kernel
theorem dX3_put_67 : decode cX3_put 67 = .ok (.iconst 1, 1) := by decide +kernel
theorem dX3_put_68 : decode cX3_put 68 = .ok (.isub, 1) := by decide +kernel
theorem dX3_put_69 : decode cX3_put 69 = .ok (.ireturn, 1) := by decide +kernel
theorem dX3_set_0 : decode cX3_set 0 = .ok (.iload_n 1, 1) := by decide +kernel
theorem dX3_set_1 : decode cX3_set 1 = .ok (.ifCond .lt 33, 3) := by decide +kernel
theorem dX3_set_4 : decode cX3_set 4 = .ok (.iload_n 1, 1) := by decide +kernel
theorem dX3_set_5 : decode cX3_set 5 = .ok (.aload_n 0, 1) := by decide +kernel
theorem dX3_set_6 : decode cX3_set 6 = .ok (.getfield 34, 3) := by decide +kernel
theorem dX3_set_9 : decode cX3_set 9 = .ok (.if_icmp .ge 25, 3) := by decide +kernel
theorem dX3_set_12 : decode cX3_set 12 = .ok (.aload_n 0, 1) := by decide +kernel
theorem dX3_set_13 : decode cX3_set 13 = .ok (.getfield 22, 3) := by decide +kernel
theorem dX3_set_16 : decode cX3_set 16 = .ok (.iload_n 1, 1) := by decide +kernel
theorem dX3_set_17 : decode cX3_set 17 = .ok (.iload_n 2, 1) := by decide +kernel
theorem dX3_set_18 : decode cX3_set 18 = .ok (.iastore, 1) := by decide +kernel
theorem dX3_set_19 : decode cX3_set 19 = .ok (.aload_n 0, 1) := by decide +kernel
theorem dX3_set_20 : decode cX3_set 20 = .ok (.getfield 25, 3) := by decide +kernel
theorem dX3_set_23 : decode cX3_set 23 = .ok (.iload_n 1, 1) := by decide +kernel
theorem dX3_set_24 : decode cX3_set 24 = .ok (.iload_n 3, 1) := by decide +kernel
theorem dX3_set_25 : decode cX3_set 25 = .ok (.iastore, 1) := by decide +kernel
theorem dX3_set_26 : decode cX3_set 26 = .ok (.aload_n 0, 1) := by decide +kernel
theorem dX3_set_27 : decode cX3_set 27 = .ok (.getfield 28, 3) := by decide +kernel
theorem dX3_set_30 : decode cX3_set 30 = .ok (.iload_n 1, 1) := by decide +kernel
theorem dX3_set_31 : decode cX3_set 31 = .ok (.iload 4, 2) := by decide +kernel
theorem dX3_set_33 : decode cX3_set 33 = .ok (.iastore, 1) := by decide +kernel
theorem dX3_set_34 : decode cX3_set 34 = .ok (.return_, 1) := by decide +kernel
theorem dX3_hasLeast_0 : decode cX3_hasLeast 0 = .ok (.iconst 0, 1) := by decide +kernel
theorem dX3_hasLeast_1 : decode cX3_hasLeast 1 = .ok (.istore_n 1, 1) := by decide +kernel
theorem dX3_hasLeast_2 : decode cX3_hasLeast 2 = .ok (.iload_n 1, 1) := by decide +kernel
theorem dX3_hasLeast_3 : decode cX3_hasLeast 3 = .ok (.aload_n 0, 1) := by decide +kernel
theorem dX3_hasLeast_4 : decode cX3_hasLeast 4 = .ok (.getfield 34, 3) := by decide +kernel
theorem dX3_hasLeast_7 : decode cX3_hasLeast 7 = .ok (.if_icmp .ge 20, 3) := by decide +kernel
theorem dX3_hasLeast_10 : decode cX3_hasLeast 10 = .ok (.aload_n 0, 1) := by decide +kernel
theorem dX3_hasLeast_11 : decode cX3_hasLeast 11 = .ok (.getfield 22, 3) := by decide +kernel
theorem dX3_hasLeast_14 : decode cX3_hasLeast 14 = .ok (.iload_n 1, 1) := by decide +kernel
theorem dX3_hasLeast_15 : decode cX3_hasLeast 15 = .ok (.iaload, 1) := by decide +kernel
theorem dX3_hasLeast_16 : decode cX3_hasLeast 16 = .ok (.ifCond .eq 5, 3) := by decide +kernel
theorem dX3_hasLeast_19 : decode cX3_hasLeast 19 = .ok (.iconst 1, 1) := by decide +kernel
theorem dX3_hasLeast_20 : decode cX3_hasLeast 20 = .ok (.ireturn, 1) := by decide +kernel
theorem dX3_hasLeast_21 : decode cX3_hasLeast 21 = .ok (.iinc 1 1, 3) := by decide +kernel
theorem dX3_hasLeast_24 : decode cX3_hasLeast 24 = .ok (.goto (-22), 3) := by decide +kernel
theorem dX3_hasLeast_27 : decode cX3_hasLeast 27 = .ok (.iconst 0, 1) := by decide +kernel
theorem dX3_hasLeast_28 : decode cX3_hasLeast 28 = .ok (.ireturn, 1) := by decide +kernel
theorem dX3_leadsStraight_0 : decode cX3_leadsStraight 0 = .ok (.iconst 0, 1) := by decide +kernel
theorem dX3_leadsStraight_1 : decode cX3_leadsStraight 1 = .ok (.istore_n 3, 1) := by decide +kernel
theorem dX3_leadsStraight_2 : decode cX3_leadsStraight 2 = .ok (.iload_n 3, 1) := by decide +kernel
theorem dX3_leadsStraight_3 : decode cX3_leadsStraight 3 = .ok (.aload_n 0, 1) := by decide +kernel
theorem dX3_leadsStraight_4 : decode cX3_leadsStraight 4 = .ok (.getfield 34, 3) := by decide +kernel
theorem dX3_leadsStraight_7 : decode cX3_leadsStraight 7 = .ok (.if_icmp .ge 40, 3) := by decide +kernel
theorem dX3_leadsStraight_10 : decode cX3_leadsStraight 10 = .ok (.aload_n 0, 1) := by decide +kernel
theorem dX3_leadsStraight_11 : decode cX3_leadsStraight 11 = .ok (.getfield 15, 3) := by decide +kernel
theorem dX3_leadsStraight_14 : decode cX3_leadsStraight 14 = .ok (.iload_n 3, 1) := by decide +kernel
theorem dX3_leadsStraight_15 : decode cX3_leadsStraight 15 = .ok (.iaload, 1) := by decide +kernel
theorem dX3_leadsStraight_16 : decode cX3_leadsStraight 16 = .ok (.iload_n 1, 1) := by decide +kernel
theorem dX3_leadsStraight_17 : decode cX3_leadsStraight 17 = .ok (.if_icmp .ne 24, 3) := by decide +kernel
theorem dX3_leadsStraight_20 : decode cX3_leadsStraight 20 = .ok (.aload_n 0, 1) := by decide +kernel
theorem dX3_leadsStraight_21 : decode cX3_leadsStraight 21 = .ok (.getfield 19, 3) := by decide +kernel
theorem dX3_leadsStraight_24 : decode cX3_leadsStraight 24 = .ok (.iload_n 3, 1) := by decide +kernel
theorem dX3_leadsStraight_25 : decode cX3_leadsStraight 25 = .ok (.iaload, 1) := by decide +kernel
theorem dX3_leadsStraight_26 : decode cX3_leadsStraight 26 = .ok (.iload_n 2, 1) := by decide +kernel
theorem dX3_leadsStraight_27 : decode cX3_leadsStraight 27 = .ok (.if_icmp .ne 14, 3) := by decide +kernel
theorem dX3_leadsStraight_30 : decode cX3_leadsStraight 30 = .ok (.aload_n 0, 1) := by decide +kernel
theorem dX3_leadsStraight_31 : decode cX3_leadsStraight 31 = .ok (.getfield 25, 3) := by decide +kernel
theorem dX3_leadsStraight_34 : decode cX3_leadsStraight 34 = .ok (.iload_n 3, 1) := by decide +kernel
theorem dX3_leadsStraight_35 : decode cX3_leadsStraight 35 = .ok (.iaload, 1) := by decide +kernel
theorem dX3_leadsStraight_36 : decode cX3_leadsStraight 36 = .ok (.ifCond .eq 5, 3) := by decide +kernel
theorem dX3_leadsStraight_39 : decode cX3_leadsStraight 39 = .ok (.iconst 1, 1) := by decide +kernel
theorem dX3_leadsStraight_40 : decode cX3_leadsStraight 40 = .ok (.ireturn, 1) := by decide +kernel
theorem dX3_leadsStraight_41 : decode cX3_leadsStraight 41 = .ok (.iinc 3 1, 3) := by decide +kernel
theorem dX3_leadsStraight_44 : decode cX3_leadsStraight 44 = .ok (.goto (-42), 3) := by decide +kernel
theorem dX3_leadsStraight_47 : decode cX3_leadsStraight 47 = .ok (.iconst 0, 1) := by decide +kernel
theorem dX3_leadsStraight_48 : decode cX3_leadsStraight 48 = .ok (.ireturn, 1) := by decide +kernel
theorem dX3_reachFrom_0 : decode cX3_reachFrom 0 = .ok (.iconst 1, 1) := by decide +kernel
theorem dX3_reachFrom_1 : decode cX3_reachFrom 1 = .ok (.iload_n 1, 1) := by decide +kernel
theorem dX3_reachFrom_2 : decode cX3_reachFrom 2 = .ok (.ishl, 1) := by decide +kernel
theorem dX3_reachFrom_3 : decode cX3_reachFrom 3 = .ok (.istore_n 3, 1) := by decide +kernel
theorem dX3_reachFrom_4 : decode cX3_reachFrom 4 = .ok (.iconst 0, 1) := by decide +kernel
theorem dX3_reachFrom_5 : decode cX3_reachFrom 5 = .ok (.istore 4, 2) := by decide +kernel
theorem dX3_reachFrom_7 : decode cX3_reachFrom 7 = .ok (.iload 4, 2) := by decide +kernel
theorem dX3_reachFrom_9 : decode cX3_reachFrom 9 = .ok (.aload_n 0, 1) := by decide +kernel
theorem dX3_reachFrom_10 : decode cX3_reachFrom 10 = .ok (.getfield 9, 3) := by decide +kernel
theorem dX3_reachFrom_13 : decode cX3_reachFrom 13 = .ok (.if_icmp .ge 88, 3) := by decide +kernel
theorem dX3_reachFrom_16 : decode cX3_reachFrom 16 = .ok (.iload_n 3, 1) := by decide +kernel
theorem dX3_reachFrom_17 : decode cX3_reachFrom 17 = .ok (.istore 5, 2) := by decide +kernel
theorem dX3_reachFrom_19 : decode cX3_reachFrom 19 = .ok (.iconst 0, 1) := by decide +kernel
theorem dX3_reachFrom_20 : decode cX3_reachFrom 20 = .ok (.istore 6, 2) := by decide +kernel
theorem dX3_reachFrom_22 : decode cX3_reachFrom 22 = .ok (.iload 6, 2) := by decide +kernel
theorem dX3_reachFrom_24 : decode cX3_reachFrom 24 = .ok (.aload_n 0, 1) := by decide +kernel
theorem dX3_reachFrom_25 : decode cX3_reachFrom 25 = .ok (.getfield 34, 3) := by decide +kernel
theorem dX3_reachFrom_28 : decode cX3_reachFrom 28 = .ok (.if_icmp .ge 59, 3) := by decide +kernel
theorem dX3_reachFrom_31 : decode cX3_reachFrom 31 = .ok (.aload_n 0, 1) := by decide +kernel
theorem dX3_reachFrom_32 : decode cX3_reachFrom 32 = .ok (.getfield 25, 3) := by decide +kernel
theorem dX3_reachFrom_35 : decode cX3_reachFrom 35 = .ok (.iload 6, 2) := by decide +kernel
theorem dX3_reachFrom_37 : decode cX3_reachFrom 37 = .ok (.iaload, 1) := by decide +kernel
theorem dX3_reachFrom_38 : decode cX3_reachFrom 38 = .ok (.ifCond .eq 43, 3) := by decide +kernel
theorem dX3_reachFrom_41 : decode cX3_reachFrom 41 = .ok (.iload_n 3, 1) := by decide +kernel
theorem dX3_reachFrom_42 : decode cX3_reachFrom 42 = .ok (.aload_n 0, 1) := by decide +kernel
theorem dX3_reachFrom_43 : decode cX3_reachFrom 43 = .ok (.getfield 15, 3) := by decide +kernel
theorem dX3_reachFrom_46 : decode cX3_reachFrom 46 = .ok (.iload 6, 2) := by decide +kernel
theorem dX3_reachFrom_48 : decode cX3_reachFrom 48 = .ok (.iaload, 1) := by decide +kernel
theorem dX3_reachFrom_49 : decode cX3_reachFrom 49 = .ok (.invokestatic 41, 3) := by decide +kernel
theorem dX3_reachFrom_52 : decode cX3_reachFrom 52 = .ok (.ifCond .eq 29, 3) := by decide +kernel
theorem dX3_reachFrom_55 : decode cX3_reachFrom 55 = .ok (.iload_n 2, 1) := by decide +kernel
theorem dX3_reachFrom_56 : decode cX3_reachFrom 56 = .ok (.aload_n 0, 1) := by decide +kernel
theorem dX3_reachFrom_57 : decode cX3_reachFrom 57 = .ok (.getfield 19, 3) := by decide +kernel
theorem dX3_reachFrom_60 : decode cX3_reachFrom 60 = .ok (.iload 6, 2) := by decide +kernel
theorem dX3_reachFrom_62 : decode cX3_reachFrom 62 = .ok (.iaload, 1) := by decide +kernel
theorem dX3_reachFrom_63 : decode cX3_reachFrom 63 = .ok (.invokestatic 41, 3) := by decide +kernel
theorem dX3_reachFrom_66 : decode cX3_reachFrom 66 = .ok (.ifCond .ne 15, 3) := by decide +kernel
theorem dX3_reachFrom_69 : decode cX3_reachFrom 69 = .ok (.iload_n 3, 1) := by decide +kernel
theorem dX3_reachFrom_70 : decode cX3_reachFrom 70 = .ok (.iconst 1, 1) := by decide +kernel
theorem dX3_reachFrom_71 : decode cX3_reachFrom 71 = .ok (.aload_n 0, 1) := by decide +kernel
theorem dX3_reachFrom_72 : decode cX3_reachFrom 72 = .ok (.getfield 19, 3) := by decide +kernel
theorem dX3_reachFrom_75 : decode cX3_reachFrom 75 = .ok (.iload 6, 2) := by decide +kernel
theorem dX3_reachFrom_77 : decode cX3_reachFrom 77 = .ok (.iaload, 1) := by decide +kernel
theorem dX3_reachFrom_78 : decode cX3_reachFrom 78 = .ok (.ishl, 1) := by decide +kernel
theorem dX3_reachFrom_79 : decode cX3_reachFrom 79 = .ok (.ior, 1) := by decide +kernel
theorem dX3_reachFrom_80 : decode cX3_reachFrom 80 = .ok (.istore_n 3, 1) := by decide +kernel
theorem dX3_reachFrom_81 : decode cX3_reachFrom 81 = .ok (.iinc 6 1, 3) := by decide +kernel
theorem dX3_reachFrom_84 : decode cX3_reachFrom 84 = .ok (.goto (-62), 3) := by decide +kernel
theorem dX3_reachFrom_87 : decode cX3_reachFrom 87 = .ok (.iload_n 3, 1) := by decide +kernel
theorem dX3_reachFrom_88 : decode cX3_reachFrom 88 = .ok (.iload 5, 2) := by decide +kernel
theorem dX3_reachFrom_90 : decode cX3_reachFrom 90 = .ok (.if_icmp .ne 5, 3) := by decide +kernel
theorem dX3_reachFrom_93 : decode cX3_reachFrom 93 = .ok (.iload_n 3, 1) := by decide +kernel
theorem dX3_reachFrom_94 : decode cX3_reachFrom 94 = .ok (.ireturn, 1) := by decide +kernel
theorem dX3_reachFrom_95 : decode cX3_reachFrom 95 = .ok (.iinc 4 1, 3) := by decide +kernel
theorem dX3_reachFrom_98 : decode cX3_reachFrom 98 = .ok (.goto (-91), 3) := by decide +kernel
theorem dX3_reachFrom_101 : decode cX3_reachFrom 101 = .ok (.iload_n 3, 1) := by decide +kernel
theorem dX3_reachFrom_102 : decode cX3_reachFrom 102 = .ok (.ireturn, 1) := by decide +kernel
theorem dX3_sumOfAll_0 : decode cX3_sumOfAll 0 = .ok (.ldc2_w 45, 3) := by decide +kernel
theorem dX3_sumOfAll_3 : decode cX3_sumOfAll 3 = .ok (.lstore_n 1, 1) := by decide +kernel
theorem dX3_sumOfAll_4 : decode cX3_sumOfAll 4 = .ok (.iconst 0, 1) := by decide +kernel
theorem dX3_sumOfAll_5 : decode cX3_sumOfAll 5 = .ok (.istore_n 3, 1) := by decide +kernel
theorem dX3_sumOfAll_6 : decode cX3_sumOfAll 6 = .ok (.iload_n 3, 1) := by decide +kernel
theorem dX3_sumOfAll_7 : decode cX3_sumOfAll 7 = .ok (.aload_n 0, 1) := by decide +kernel
theorem dX3_sumOfAll_8 : decode cX3_sumOfAll 8 = .ok (.getfield 34, 3) := by decide +kernel
theorem dX3_sumOfAll_11 : decode cX3_sumOfAll 11 = .ok (.if_icmp .ge 79, 3) := by decide +kernel
theorem dX3_sumOfAll_14 : decode cX3_sumOfAll 14 = .ok (.lload_n 1, 1) := by decide +kernel
theorem dX3_sumOfAll_15 : decode cX3_sumOfAll 15 = .ok (.ldc2_w 47, 3) := by decide +kernel
theorem dX3_sumOfAll_18 : decode cX3_sumOfAll 18 = .ok (.lmul, 1) := by decide +kernel
theorem dX3_sumOfAll_19 : decode cX3_sumOfAll 19 = .ok (.aload_n 0, 1) := by decide +kernel
theorem dX3_sumOfAll_20 : decode cX3_sumOfAll 20 = .ok (.getfield 15, 3) := by decide +kernel
theorem dX3_sumOfAll_23 : decode cX3_sumOfAll 23 = .ok (.iload_n 3, 1) := by decide +kernel
theorem dX3_sumOfAll_24 : decode cX3_sumOfAll 24 = .ok (.iaload, 1) := by decide +kernel
theorem dX3_sumOfAll_25 : decode cX3_sumOfAll 25 = .ok (.i2l, 1) := by decide +kernel
theorem dX3_sumOfAll_26 : decode cX3_sumOfAll 26 = .ok (.ladd, 1) := by decide +kernel
theorem dX3_sumOfAll_27 : decode cX3_sumOfAll 27 = .ok (.lstore_n 1, 1) := by decide +kernel
theorem dX3_sumOfAll_28 : decode cX3_sumOfAll 28 = .ok (.lload_n 1, 1) := by decide +kernel
theorem dX3_sumOfAll_29 : decode cX3_sumOfAll 29 = .ok (.ldc2_w 47, 3) := by decide +kernel
theorem dX3_sumOfAll_32 : decode cX3_sumOfAll 32 = .ok (.lmul, 1) := by decide +kernel
theorem dX3_sumOfAll_33 : decode cX3_sumOfAll 33 = .ok (.aload_n 0, 1) := by decide +kernel
theorem dX3_sumOfAll_34 : decode cX3_sumOfAll 34 = .ok (.getfield 19, 3) := by decide +kernel
theorem dX3_sumOfAll_37 : decode cX3_sumOfAll 37 = .ok (.iload_n 3, 1) := by decide +kernel
theorem dX3_sumOfAll_38 : decode cX3_sumOfAll 38 = .ok (.iaload, 1) := by decide +kernel
theorem dX3_sumOfAll_39 : decode cX3_sumOfAll 39 = .ok (.i2l, 1) := by decide +kernel
theorem dX3_sumOfAll_40 : decode cX3_sumOfAll 40 = .ok (.ladd, 1) := by decide +kernel
theorem dX3_sumOfAll_41 : decode cX3_sumOfAll 41 = .ok (.lstore_n 1, 1) := by decide +kernel
theorem dX3_sumOfAll_42 : decode cX3_sumOfAll 42 = .ok (.lload_n 1, 1) := by decide +kernel
theorem dX3_sumOfAll_43 : decode cX3_sumOfAll 43 = .ok (.ldc2_w 47, 3) := by decide +kernel
theorem dX3_sumOfAll_46 : decode cX3_sumOfAll 46 = .ok (.lmul, 1) := by decide +kernel
theorem dX3_sumOfAll_47 : decode cX3_sumOfAll 47 = .ok (.aload_n 0, 1) := by decide +kernel
theorem dX3_sumOfAll_48 : decode cX3_sumOfAll 48 = .ok (.getfield 22, 3) := by decide +kernel
theorem dX3_sumOfAll_51 : decode cX3_sumOfAll 51 = .ok (.iload_n 3, 1) := by decide +kernel
theorem dX3_sumOfAll_52 : decode cX3_sumOfAll 52 = .ok (.iaload, 1) := by decide +kernel
theorem dX3_sumOfAll_53 : decode cX3_sumOfAll 53 = .ok (.i2l, 1) := by decide +kernel
theorem dX3_sumOfAll_54 : decode cX3_sumOfAll 54 = .ok (.ladd, 1) := by decide +kernel
theorem dX3_sumOfAll_55 : decode cX3_sumOfAll 55 = .ok (.lstore_n 1, 1) := by decide +kernel
theorem dX3_sumOfAll_56 : decode cX3_sumOfAll 56 = .ok (.lload_n 1, 1) := by decide +kernel
theorem dX3_sumOfAll_57 : decode cX3_sumOfAll 57 = .ok (.ldc2_w 47, 3) := by decide +kernel
theorem dX3_sumOfAll_60 : decode cX3_sumOfAll 60 = .ok (.lmul, 1) := by decide +kernel
theorem dX3_sumOfAll_61 : decode cX3_sumOfAll 61 = .ok (.aload_n 0, 1) := by decide +kernel
theorem dX3_sumOfAll_62 : decode cX3_sumOfAll 62 = .ok (.getfield 25, 3) := by decide +kernel
theorem dX3_sumOfAll_65 : decode cX3_sumOfAll 65 = .ok (.iload_n 3, 1) := by decide +kernel
theorem dX3_sumOfAll_66 : decode cX3_sumOfAll 66 = .ok (.iaload, 1) := by decide +kernel
theorem dX3_sumOfAll_67 : decode cX3_sumOfAll 67 = .ok (.i2l, 1) := by decide +kernel
theorem dX3_sumOfAll_68 : decode cX3_sumOfAll 68 = .ok (.ladd, 1) := by decide +kernel
theorem dX3_sumOfAll_69 : decode cX3_sumOfAll 69 = .ok (.lstore_n 1, 1) := by decide +kernel
theorem dX3_sumOfAll_70 : decode cX3_sumOfAll 70 = .ok (.lload_n 1, 1) := by decide +kernel
theorem dX3_sumOfAll_71 : decode cX3_sumOfAll 71 = .ok (.ldc2_w 47, 3) := by decide +kernel
theorem dX3_sumOfAll_74 : decode cX3_sumOfAll 74 = .ok (.lmul, 1) := by decide +kernel
theorem dX3_sumOfAll_75 : decode cX3_sumOfAll 75 = .ok (.aload_n 0, 1) := by decide +kernel
theorem dX3_sumOfAll_76 : decode cX3_sumOfAll 76 = .ok (.getfield 28, 3) := by decide +kernel
theorem dX3_sumOfAll_79 : decode cX3_sumOfAll 79 = .ok (.iload_n 3, 1) := by decide +kernel
theorem dX3_sumOfAll_80 : decode cX3_sumOfAll 80 = .ok (.iaload, 1) := by decide +kernel
theorem dX3_sumOfAll_81 : decode cX3_sumOfAll 81 = .ok (.i2l, 1) := by decide +kernel
theorem dX3_sumOfAll_82 : decode cX3_sumOfAll 82 = .ok (.ladd, 1) := by decide +kernel
theorem dX3_sumOfAll_83 : decode cX3_sumOfAll 83 = .ok (.lstore_n 1, 1) := by decide +kernel
theorem dX3_sumOfAll_84 : decode cX3_sumOfAll 84 = .ok (.iinc 3 1, 3) := by decide +kernel
theorem dX3_sumOfAll_87 : decode cX3_sumOfAll 87 = .ok (.goto (-81), 3) := by decide +kernel
theorem dX3_sumOfAll_90 : decode cX3_sumOfAll 90 = .ok (.iconst 0, 1) := by decide +kernel
theorem dX3_sumOfAll_91 : decode cX3_sumOfAll 91 = .ok (.istore_n 3, 1) := by decide +kernel
theorem dX3_sumOfAll_92 : decode cX3_sumOfAll 92 = .ok (.iload_n 3, 1) := by decide +kernel
theorem dX3_sumOfAll_93 : decode cX3_sumOfAll 93 = .ok (.aload_n 0, 1) := by decide +kernel
theorem dX3_sumOfAll_94 : decode cX3_sumOfAll 94 = .ok (.getfield 9, 3) := by decide +kernel
theorem dX3_sumOfAll_97 : decode cX3_sumOfAll 97 = .ok (.if_icmp .ge 23, 3) := by decide +kernel
theorem dX3_sumOfAll_100 : decode cX3_sumOfAll 100 = .ok (.lload_n 1, 1) := by decide +kernel
theorem dX3_sumOfAll_101 : decode cX3_sumOfAll 101 = .ok (.ldc2_w 47, 3) := by decide +kernel
theorem dX3_sumOfAll_104 : decode cX3_sumOfAll 104 = .ok (.lmul, 1) := by decide +kernel
theorem dX3_sumOfAll_105 : decode cX3_sumOfAll 105 = .ok (.aload_n 0, 1) := by decide +kernel
theorem dX3_sumOfAll_106 : decode cX3_sumOfAll 106 = .ok (.getfield 31, 3) := by decide +kernel
theorem dX3_sumOfAll_109 : decode cX3_sumOfAll 109 = .ok (.iload_n 3, 1) := by decide +kernel
theorem dX3_sumOfAll_110 : decode cX3_sumOfAll 110 = .ok (.iaload, 1) := by decide +kernel
theorem dX3_sumOfAll_111 : decode cX3_sumOfAll 111 = .ok (.i2l, 1) := by decide +kernel
theorem dX3_sumOfAll_112 : decode cX3_sumOfAll 112 = .ok (.ladd, 1) := by decide +kernel
theorem dX3_sumOfAll_113 : decode cX3_sumOfAll 113 = .ok (.lstore_n 1, 1) := by decide +kernel
theorem dX3_sumOfAll_114 : decode cX3_sumOfAll 114 = .ok (.iinc 3 1, 3) := by decide +kernel
theorem dX3_sumOfAll_117 : decode cX3_sumOfAll 117 = .ok (.goto (-25), 3) := by decide +kernel
theorem dX3_sumOfAll_120 : decode cX3_sumOfAll 120 = .ok (.lload_n 1, 1) := by decide +kernel
theorem dX3_sumOfAll_121 : decode cX3_sumOfAll 121 = .ok (.lreturn, 1) := by decide +kernel
theorem dX4_init_0 : decode cX4_init 0 = .ok (.aload_n 0, 1) := by decide +kernel
theorem dX4_init_1 : decode cX4_init 1 = .ok (.invokespecial 1, 3) := by decide +kernel
theorem dX4_init_4 : decode cX4_init 4 = .ok (.aload_n 0, 1) := by decide +kernel
theorem dX4_init_5 : decode cX4_init 5 = .ok (.bipush 8, 2) := by decide +kernel
theorem dX4_init_7 : decode cX4_init 7 = .ok (.newarray .int, 2) := by decide +kernel
theorem dX4_init_9 : decode cX4_init 9 = .ok (.putfield 9, 3) := by decide +kernel
theorem dX4_init_12 : decode cX4_init 12 = .ok (.aload_n 0, 1) := by decide +kernel
theorem dX4_init_13 : decode cX4_init 13 = .ok (.sipush 256, 3) := by decide +kernel
theorem dX4_init_16 : decode cX4_init 16 = .ok (.newarray .int, 2) := by decide +kernel
theorem dX4_init_18 : decode cX4_init 18 = .ok (.putfield 13, 3) := by decide +kernel
theorem dX4_init_21 : decode cX4_init 21 = .ok (.aload_n 0, 1) := by decide +kernel
theorem dX4_init_22 : decode cX4_init 22 = .ok (.bipush 8, 2) := by decide +kernel
theorem dX4_init_24 : decode cX4_init 24 = .ok (.newarray .int, 2) := by decide +kernel
theorem dX4_init_26 : decode cX4_init 26 = .ok (.putfield 16, 3) := by decide +kernel
theorem dX4_init_29 : decode cX4_init 29 = .ok (.return_, 1) := by decide +kernel
theorem dX4_gather_0 : decode cX4_gather 0 = .ok (.aload_n 0, 1) := by decide +kernel
theorem dX4_gather_1 : decode cX4_gather 1 = .ok (.getfield 13, 3) := by decide +kernel
theorem dX4_gather_4 : decode cX4_gather 4 = .ok (.iconst 0, 1) := by decide +kernel
theorem dX4_gather_5 : decode cX4_gather 5 = .ok (.iconst 0, 1) := by decide +kernel
theorem dX4_gather_6 : decode cX4_gather 6 = .ok (.iastore, 1) := by decide +kernel
theorem dX4_gather_7 : decode cX4_gather 7 = .ok (.iconst 0, 1) := by decide +kernel
theorem dX4_gather_8 : decode cX4_gather 8 = .ok (.istore_n 1, 1) := by decide +kernel
theorem dX4_gather_9 : decode cX4_gather 9 = .ok (.iload_n 1, 1) := by decide +kernel
theorem dX4_gather_10 : decode cX4_gather 10 = .ok (.bipush 8, 2) := by decide +kernel
theorem dX4_gather_12 : decode cX4_gather 12 = .ok (.if_icmp .ge 47, 3) := by decide +kernel
theorem dX4_gather_15 : decode cX4_gather 15 = .ok (.iconst 1, 1) := by decide +kernel
theorem dX4_gather_16 : decode cX4_gather 16 = .ok (.iload_n 1, 1) := by decide +kernel
theorem dX4_gather_17 : decode cX4_gather 17 = .ok (.ishl, 1) := by decide +kernel
theorem dX4_gather_18 : decode cX4_gather 18 = .ok (.istore_n 2, 1) := by decide +kernel
theorem dX4_gather_19 : decode cX4_gather 19 = .ok (.iconst 0, 1) := by decide +kernel
theorem dX4_gather_20 : decode cX4_gather 20 = .ok (.istore_n 3, 1) := by decide +kernel
theorem dX4_gather_21 : decode cX4_gather 21 = .ok (.iload_n 3, 1) := by decide +kernel
theorem dX4_gather_22 : decode cX4_gather 22 = .ok (.iload_n 2, 1) := by decide +kernel
theorem dX4_gather_23 : decode cX4_gather 23 = .ok (.if_icmp .ge 30, 3) := by decide +kernel
theorem dX4_gather_26 : decode cX4_gather 26 = .ok (.aload_n 0, 1) := by decide +kernel
theorem dX4_gather_27 : decode cX4_gather 27 = .ok (.getfield 13, 3) := by decide +kernel
theorem dX4_gather_30 : decode cX4_gather 30 = .ok (.iload_n 3, 1) := by decide +kernel
theorem dX4_gather_31 : decode cX4_gather 31 = .ok (.iload_n 2, 1) := by decide +kernel
theorem dX4_gather_32 : decode cX4_gather 32 = .ok (.iadd, 1) := by decide +kernel
theorem dX4_gather_33 : decode cX4_gather 33 = .ok (.aload_n 0, 1) := by decide +kernel
theorem dX4_gather_34 : decode cX4_gather 34 = .ok (.getfield 13, 3) := by decide +kernel
theorem dX4_gather_37 : decode cX4_gather 37 = .ok (.iload_n 3, 1) := by decide +kernel
theorem dX4_gather_38 : decode cX4_gather 38 = .ok (.iaload, 1) := by decide +kernel
theorem dX4_gather_39 : decode cX4_gather 39 = .ok (.aload_n 0, 1) := by decide +kernel
theorem dX4_gather_40 : decode cX4_gather 40 = .ok (.getfield 9, 3) := by decide +kernel
theorem dX4_gather_43 : decode cX4_gather 43 = .ok (.iload_n 1, 1) := by decide +kernel
theorem dX4_gather_44 : decode cX4_gather 44 = .ok (.iaload, 1) := by decide +kernel
theorem dX4_gather_45 : decode cX4_gather 45 = .ok (.ior, 1) := by decide +kernel
theorem dX4_gather_46 : decode cX4_gather 46 = .ok (.iastore, 1) := by decide +kernel
theorem dX4_gather_47 : decode cX4_gather 47 = .ok (.iinc 3 1, 3) := by decide +kernel
theorem dX4_gather_50 : decode cX4_gather 50 = .ok (.goto (-29), 3) := by decide +kernel
theorem dX4_gather_53 : decode cX4_gather 53 = .ok (.iinc 1 1, 3) := by decide +kernel
theorem dX4_gather_56 : decode cX4_gather 56 = .ok (.goto (-47), 3) := by decide +kernel
theorem dX4_gather_59 : decode cX4_gather 59 = .ok (.return_, 1) := by decide +kernel
theorem dX4_greatest_0 : decode cX4_greatest 0 = .ok (.bipush 8, 2) := by decide +kernel
theorem dX4_greatest_2 : decode cX4_greatest 2 = .ok (.iload_n 1, 1) := by decide +kernel
theorem dX4_greatest_3 : decode cX4_greatest 3 = .ok (.isub, 1) := by decide +kernel
theorem dX4_greatest_4 : decode cX4_greatest 4 = .ok (.istore_n 3, 1) := by decide +kernel
theorem dX4_greatest_5 : decode cX4_greatest 5 = .ok (.iload_n 3, 1) := by decide +kernel
theorem dX4_greatest_6 : decode cX4_greatest 6 = .ok (.istore 4, 2) := by decide +kernel
theorem dX4_greatest_8 : decode cX4_greatest 8 = .ok (.iconst 0, 1) := by decide +kernel
theorem dX4_greatest_9 : decode cX4_greatest 9 = .ok (.istore 5, 2) := by decide +kernel
theorem dX4_greatest_11 : decode cX4_greatest 11 = .ok (.iload 5, 2) := by decide +kernel
theorem dX4_greatest_13 : decode cX4_greatest 13 = .ok (.iconst 1, 1) := by decide +kernel
theorem dX4_greatest_14 : decode cX4_greatest 14 = .ok (.iload_n 3, 1) := by decide +kernel
theorem dX4_greatest_15 : decode cX4_greatest 15 = .ok (.ishl, 1) := by decide +kernel
theorem dX4_greatest_16 : decode cX4_greatest 16 = .ok (.if_icmp .ge 49, 3) := by decide +kernel
theorem dX4_greatest_19 : decode cX4_greatest 19 = .ok (.iload_n 3, 1) := by decide +kernel
theorem dX4_greatest_20 : decode cX4_greatest 20 = .ok (.iload 5, 2) := by decide +kernel
theorem dX4_greatest_22 : decode cX4_greatest 22 = .ok (.invokestatic 19, 3) := by decide +kernel
theorem dX4_greatest_25 : decode cX4_greatest 25 = .ok (.isub, 1) := by decide +kernel
theorem dX4_greatest_26 : decode cX4_greatest 26 = .ok (.aload_n 0, 1) := by decide +kernel
theorem dX4_greatest_27 : decode cX4_greatest 27 = .ok (.getfield 13, 3) := by decide +kernel
theorem dX4_greatest_30 : decode cX4_greatest 30 = .ok (.iload 5, 2) := by decide +kernel
theorem dX4_greatest_32 : decode cX4_greatest 32 = .ok (.iload_n 1, 1) := by decide +kernel
theorem dX4_greatest_33 : decode cX4_greatest 33 = .ok (.ishl, 1) := by decide +kernel
theorem dX4_greatest_34 : decode cX4_greatest 34 = .ok (.iaload, 1) := by decide +kernel
theorem dX4_greatest_35 : decode cX4_greatest 35 = .ok (.iload_n 2, 1) := by decide +kernel
theorem dX4_greatest_36 : decode cX4_greatest 36 = .ok (.iand, 1) := by decide +kernel
theorem dX4_greatest_37 : decode cX4_greatest 37 = .ok (.invokestatic 19, 3) := by decide +kernel
theorem dX4_greatest_40 : decode cX4_greatest 40 = .ok (.iadd, 1) := by decide +kernel
theorem dX4_greatest_41 : decode cX4_greatest 41 = .ok (.istore 6, 2) := by decide +kernel
theorem dX4_greatest_43 : decode cX4_greatest 43 = .ok (.iload 6, 2) := by decide +kernel
theorem dX4_greatest_45 : decode cX4_greatest 45 = .ok (.iload 4, 2) := by decide +kernel
theorem dX4_greatest_47 : decode cX4_greatest 47 = .ok (.if_icmp .ge 8, 3) := by decide +kernel
theorem dX4_greatest_50 : decode cX4_greatest 50 = .ok (.iload 6, 2) := by decide +kernel
theorem dX4_greatest_52 : decode cX4_greatest 52 = .ok (.goto 5, 3) := by decide +kernel
theorem dX4_greatest_55 : decode cX4_greatest 55 = .ok (.iload 4, 2) := by decide +kernel
theorem dX4_greatest_57 : decode cX4_greatest 57 = .ok (.istore 4, 2) := by decide +kernel
theorem dX4_greatest_59 : decode cX4_greatest 59 = .ok (.iinc 5 1, 3) := by decide +kernel
theorem dX4_greatest_62 : decode cX4_greatest 62 = .ok (.goto (-51), 3) := by decide +kernel
theorem dX4_greatest_65 : decode cX4_greatest 65 = .ok (.iload 4, 2) := by decide +kernel
theorem dX4_greatest_67 : decode cX4_greatest 67 = .ok (.ireturn, 1) := by decide +kernel
theorem dX4_tellLeastRow_0 : decode cX4_tellLeastRow 0 = .ok (.sipush 255, 3) := by decide +kernel
theorem dX4_tellLeastRow_3 : decode cX4_tellLeastRow 3 = .ok (.istore_n 1, 1) := by decide +kernel
theorem dX4_tellLeastRow_4 : decode cX4_tellLeastRow 4 = .ok (.aload_n 0, 1) := by decide +kernel
theorem dX4_tellLeastRow_5 : decode cX4_tellLeastRow 5 = .ok (.iconst 0, 1) := by decide +kernel
theorem dX4_tellLeastRow_6 : decode cX4_tellLeastRow 6 = .ok (.iload_n 1, 1) := by decide +kernel
theorem dX4_tellLeastRow_7 : decode cX4_tellLeastRow 7 = .ok (.invokevirtual 25, 3) := by decide +kernel
theorem dX4_tellLeastRow_10 : decode cX4_tellLeastRow 10 = .ok (.istore_n 2, 1) := by decide +kernel
theorem dX4_tellLeastRow_11 : decode cX4_tellLeastRow 11 = .ok (.iconst 0, 1) := by decide +kernel
theorem dX4_tellLeastRow_12 : decode cX4_tellLeastRow 12 = .ok (.istore_n 3, 1) := by decide +kernel
theorem dX4_tellLeastRow_13 : decode cX4_tellLeastRow 13 = .ok (.iload_n 3, 1) := by decide +kernel
theorem dX4_tellLeastRow_14 : decode cX4_tellLeastRow 14 = .ok (.bipush 8, 2) := by decide +kernel
theorem dX4_tellLeastRow_16 : decode cX4_tellLeastRow 16 = .ok (.if_icmp .ge 45, 3) := by decide +kernel
theorem dX4_tellLeastRow_19 : decode cX4_tellLeastRow 19 = .ok (.aload_n 0, 1) := by decide +kernel
theorem dX4_tellLeastRow_20 : decode cX4_tellLeastRow 20 = .ok (.iload_n 3, 1) := by decide +kernel
theorem dX4_tellLeastRow_21 : decode cX4_tellLeastRow 21 = .ok (.iload_n 1, 1) := by decide +kernel
theorem dX4_tellLeastRow_22 : decode cX4_tellLeastRow 22 = .ok (.iload_n 2, 1) := by decide +kernel
theorem dX4_tellLeastRow_23 : decode cX4_tellLeastRow 23 = .ok (.invokevirtual 29, 3) := by decide +kernel
theorem dX4_tellLeastRow_26 : decode cX4_tellLeastRow 26 = .ok (.istore 4, 2) := by decide +kernel
theorem dX4_tellLeastRow_28 : decode cX4_tellLeastRow 28 = .ok (.aload_n 0, 1) := by decide +kernel
theorem dX4_tellLeastRow_29 : decode cX4_tellLeastRow 29 = .ok (.getfield 16, 3) := by decide +kernel
theorem dX4_tellLeastRow_32 : decode cX4_tellLeastRow 32 = .ok (.iload_n 3, 1) := by decide +kernel
theorem dX4_tellLeastRow_33 : decode cX4_tellLeastRow 33 = .ok (.iload 4, 2) := by decide +kernel
theorem dX4_tellLeastRow_35 : decode cX4_tellLeastRow 35 = .ok (.iastore, 1) := by decide +kernel
theorem dX4_tellLeastRow_36 : decode cX4_tellLeastRow 36 = .ok (.iload 4, 2) := by decide +kernel
theorem dX4_tellLeastRow_38 : decode cX4_tellLeastRow 38 = .ok (.bipush 8, 2) := by decide +kernel
theorem dX4_tellLeastRow_40 : decode cX4_tellLeastRow 40 = .ok (.if_icmp .ge 15, 3) := by decide +kernel
theorem dX4_tellLeastRow_43 : decode cX4_tellLeastRow 43 = .ok (.iload_n 1, 1) := by decide +kernel
theorem dX4_tellLeastRow_44 : decode cX4_tellLeastRow 44 = .ok (.iconst 1, 1) := by decide +kernel
theorem dX4_tellLeastRow_45 : decode cX4_tellLeastRow 45 = .ok (.iload 4, 2) := by decide +kernel
theorem dX4_tellLeastRow_47 : decode cX4_tellLeastRow 47 = .ok (.ishl, 1) := by decide +kernel
theorem dX4_tellLeastRow_48 : decode cX4_tellLeastRow 48 = .ok (.iconst (-1), 1) := by decide +kernel
theorem dX4_tellLeastRow_49 : decode cX4_tellLeastRow 49 = .ok (.ixor, 1) := by decide +kernel
theorem dX4_tellLeastRow_50 : decode cX4_tellLeastRow 50 = .ok (.iand, 1) := by decide +kernel
theorem dX4_tellLeastRow_51 : decode cX4_tellLeastRow 51 = .ok (.istore_n 1, 1) := by decide +kernel
theorem dX4_tellLeastRow_52 : decode cX4_tellLeastRow 52 = .ok (.iinc 2 (-1), 3) := by decide +kernel
theorem dX4_tellLeastRow_55 : decode cX4_tellLeastRow 55 = .ok (.iinc 3 1, 3) := by decide +kernel
theorem dX4_tellLeastRow_58 : decode cX4_tellLeastRow 58 = .ok (.goto (-45), 3) := by decide +kernel
theorem dX4_tellLeastRow_61 : decode cX4_tellLeastRow 61 = .ok (.return_, 1) := by decide +kernel
theorem dX4_leastRight_0 : decode cX4_leastRight 0 = .ok (.iconst 0, 1) := by decide +kernel
theorem dX4_leastRight_1 : decode cX4_leastRight 1 = .ok (.istore 4, 2) := by decide +kernel
theorem dX4_leastRight_3 : decode cX4_leastRight 3 = .ok (.iload 4, 2) := by decide +kernel
theorem dX4_leastRight_5 : decode cX4_leastRight 5 = .ok (.bipush 8, 2) := by decide +kernel
theorem dX4_leastRight_7 : decode cX4_leastRight 7 = .ok (.if_icmp .ge 49, 3) := by decide +kernel
theorem dX4_leastRight_10 : decode cX4_leastRight 10 = .ok (.aload_n 0, 1) := by decide +kernel
theorem dX4_leastRight_11 : decode cX4_leastRight 11 = .ok (.getfield 9, 3) := by decide +kernel
theorem dX4_leastRight_14 : decode cX4_leastRight 14 = .ok (.iload_n 1, 1) := by decide +kernel
theorem dX4_leastRight_15 : decode cX4_leastRight 15 = .ok (.iaload, 1) := by decide +kernel
theorem dX4_leastRight_16 : decode cX4_leastRight 16 = .ok (.iload_n 2, 1) := by decide +kernel
theorem dX4_leastRight_17 : decode cX4_leastRight 17 = .ok (.iand, 1) := by decide +kernel
theorem dX4_leastRight_18 : decode cX4_leastRight 18 = .ok (.iload 4, 2) := by decide +kernel
theorem dX4_leastRight_20 : decode cX4_leastRight 20 = .ok (.invokestatic 33, 3) := by decide +kernel
theorem dX4_leastRight_23 : decode cX4_leastRight 23 = .ok (.ifCond .eq 27, 3) := by decide +kernel
theorem dX4_leastRight_26 : decode cX4_leastRight 26 = .ok (.aload_n 0, 1) := by decide +kernel
theorem dX4_leastRight_27 : decode cX4_leastRight 27 = .ok (.iload_n 1, 1) := by decide +kernel
theorem dX4_leastRight_28 : decode cX4_leastRight 28 = .ok (.iconst 1, 1) := by decide +kernel
theorem dX4_leastRight_29 : decode cX4_leastRight 29 = .ok (.iadd, 1) := by decide +kernel
theorem dX4_leastRight_30 : decode cX4_leastRight 30 = .ok (.iload_n 2, 1) := by decide +kernel
theorem dX4_leastRight_31 : decode cX4_leastRight 31 = .ok (.iconst 1, 1) := by decide +kernel
theorem dX4_leastRight_32 : decode cX4_leastRight 32 = .ok (.iload 4, 2) := by decide +kernel
theorem dX4_leastRight_34 : decode cX4_leastRight 34 = .ok (.ishl, 1) := by decide +kernel
theorem dX4_leastRight_35 : decode cX4_leastRight 35 = .ok (.iconst (-1), 1) := by decide +kernel
theorem dX4_leastRight_36 : decode cX4_leastRight 36 = .ok (.ixor, 1) := by decide +kernel
theorem dX4_leastRight_37 : decode cX4_leastRight 37 = .ok (.iand, 1) := by decide +kernel
theorem dX4_leastRight_38 : decode cX4_leastRight 38 = .ok (.invokevirtual 25, 3) := by decide +kernel
theorem dX4_leastRight_41 : decode cX4_leastRight 41 = .ok (.iload_n 3, 1) := by decide +kernel
theorem dX4_leastRight_42 : decode cX4_leastRight 42 = .ok (.iconst 1, 1) := by decide +kernel
theorem dX4_leastRight_43 : decode cX4_leastRight 43 = .ok (.isub, 1) := by decide +kernel
theorem dX4_leastRight_44 : decode cX4_leastRight 44 = .ok (.if_icmp .ne 6, 3) := by decide +kernel
theorem dX4_leastRight_47 : decode cX4_leastRight 47 = .ok (.iload 4, 2) := by decide +kernel
theorem dX4_leastRight_49 : decode cX4_leastRight 49 = .ok (.ireturn, 1) := by decide +kernel
theorem dX4_leastRight_50 : decode cX4_leastRight 50 = .ok (.iinc 4 1, 3) := by decide +kernel
theorem dX4_leastRight_53 : decode cX4_leastRight 53 = .ok (.goto (-50), 3) := by decide +kernel
theorem dX4_leastRight_56 : decode cX4_leastRight 56 = .ok (.bipush 8, 2) := by decide +kernel
theorem dX4_leastRight_58 : decode cX4_leastRight 58 = .ok (.ireturn, 1) := by decide +kernel
theorem dX4_likedByOthers_0 : decode cX4_likedByOthers 0 = .ok (.aload_n 0, 1) := by decide +kernel
theorem dX4_likedByOthers_1 : decode cX4_likedByOthers 1 = .ok (.getfield 13, 3) := by decide +kernel
theorem dX4_likedByOthers_4 : decode cX4_likedByOthers 4 = .ok (.sipush 255, 3) := by decide +kernel
theorem dX4_likedByOthers_7 : decode cX4_likedByOthers 7 = .ok (.iload_n 1, 1) := by decide +kernel
theorem dX4_likedByOthers_8 : decode cX4_likedByOthers 8 = .ok (.iconst (-1), 1) := by decide +kernel
theorem dX4_likedByOthers_9 : decode cX4_likedByOthers 9 = .ok (.ixor, 1) := by decide +kernel
theorem dX4_likedByOthers_10 : decode cX4_likedByOthers 10 = .ok (.iand, 1) := by decide +kernel
theorem dX4_likedByOthers_11 : decode cX4_likedByOthers 11 = .ok (.iaload, 1) := by decide +kernel
theorem dX4_likedByOthers_12 : decode cX4_likedByOthers 12 = .ok (.ireturn, 1) := by decide +kernel
theorem dX4_leftOfCover_0 : decode cX4_leftOfCover 0 = .ok (.iconst 0, 1) := by decide +kernel
theorem dX4_leftOfCover_1 : decode cX4_leftOfCover 1 = .ok (.istore_n 1, 1) := by decide +kernel
theorem dX4_leftOfCover_2 : decode cX4_leftOfCover 2 = .ok (.bipush 17, 2) := by decide +kernel
theorem dX4_leftOfCover_4 : decode cX4_leftOfCover 4 = .ok (.istore_n 2, 1) := by decide +kernel
theorem dX4_leftOfCover_5 : decode cX4_leftOfCover 5 = .ok (.iconst 0, 1) := by decide +kernel
theorem dX4_leftOfCover_6 : decode cX4_leftOfCover 6 = .ok (.istore_n 3, 1) := by decide +kernel
theorem dX4_leftOfCover_7 : decode cX4_leftOfCover 7 = .ok (.iload_n 3, 1) := by decide +kernel
theorem dX4_leftOfCover_8 : decode cX4_leftOfCover 8 = .ok (.sipush 255, 3) := by decide +kernel
theorem dX4_leftOfCover_11 : decode cX4_leftOfCover 11 = .ok (.if_icmp .gt 35, 3) := by decide +kernel
theorem dX4_leftOfCover_14 : decode cX4_leftOfCover 14 = .ok (.iload_n 3, 1) := by decide +kernel
theorem dX4_leftOfCover_15 : decode cX4_leftOfCover 15 = .ok (.invokestatic 19, 3) := by decide +kernel
theorem dX4_leftOfCover_18 : decode cX4_leftOfCover 18 = .ok (.aload_n 0, 1) := by decide +kernel
theorem dX4_leftOfCover_19 : decode cX4_leftOfCover 19 = .ok (.iload_n 3, 1) := by decide +kernel
theorem dX4_leftOfCover_20 : decode cX4_leftOfCover 20 = .ok (.invokevirtual 39, 3) := by decide +kernel
theorem dX4_leftOfCover_23 : decode cX4_leftOfCover 23 = .ok (.invokestatic 19, 3) := by decide +kernel
theorem dX4_leftOfCover_26 : decode cX4_leftOfCover 26 = .ok (.iadd, 1) := by decide +kernel
theorem dX4_leftOfCover_27 : decode cX4_leftOfCover 27 = .ok (.istore 4, 2) := by decide +kernel
theorem dX4_leftOfCover_29 : decode cX4_leftOfCover 29 = .ok (.iload 4, 2) := by decide +kernel
theorem dX4_leftOfCover_31 : decode cX4_leftOfCover 31 = .ok (.iload_n 2, 1) := by decide +kernel
theorem dX4_leftOfCover_32 : decode cX4_leftOfCover 32 = .ok (.if_icmp .ge 8, 3) := by decide +kernel
theorem dX4_leftOfCover_35 : decode cX4_leftOfCover 35 = .ok (.iload_n 3, 1) := by decide +kernel
theorem dX4_leftOfCover_36 : decode cX4_leftOfCover 36 = .ok (.istore_n 1, 1) := by decide +kernel
theorem dX4_leftOfCover_37 : decode cX4_leftOfCover 37 = .ok (.iload 4, 2) := by decide +kernel
theorem dX4_leftOfCover_39 : decode cX4_leftOfCover 39 = .ok (.istore_n 2, 1) := by decide +kernel
theorem dX4_leftOfCover_40 : decode cX4_leftOfCover 40 = .ok (.iinc 3 1, 3) := by decide +kernel
theorem dX4_leftOfCover_43 : decode cX4_leftOfCover 43 = .ok (.goto (-36), 3) := by decide +kernel
theorem dX4_leftOfCover_46 : decode cX4_leftOfCover 46 = .ok (.iload_n 1, 1) := by decide +kernel
theorem dX4_leftOfCover_47 : decode cX4_leftOfCover 47 = .ok (.ireturn, 1) := by decide +kernel
theorem dX4_isCovered_0 : decode cX4_isCovered 0 = .ok (.aload_n 0, 1) := by decide +kernel
theorem dX4_isCovered_1 : decode cX4_isCovered 1 = .ok (.invokevirtual 42, 3) := by decide +kernel
theorem dX4_isCovered_4 : decode cX4_isCovered 4 = .ok (.istore_n 1, 1) := by decide +kernel
theorem dX4_isCovered_5 : decode cX4_isCovered 5 = .ok (.aload_n 0, 1) := by decide +kernel
theorem dX4_isCovered_6 : decode cX4_isCovered 6 = .ok (.iload_n 1, 1) := by decide +kernel
theorem dX4_isCovered_7 : decode cX4_isCovered 7 = .ok (.invokevirtual 39, 3) := by decide +kernel
theorem dX4_isCovered_10 : decode cX4_isCovered 10 = .ok (.istore_n 2, 1) := by decide +kernel
theorem dX4_isCovered_11 : decode cX4_isCovered 11 = .ok (.sipush 255, 3) := by decide +kernel
theorem dX4_isCovered_14 : decode cX4_isCovered 14 = .ok (.istore_n 3, 1) := by decide +kernel
theorem dX4_isCovered_15 : decode cX4_isCovered 15 = .ok (.iconst 0, 1) := by decide +kernel
theorem dX4_isCovered_16 : decode cX4_isCovered 16 = .ok (.istore 4, 2) := by decide +kernel
theorem dX4_isCovered_18 : decode cX4_isCovered 18 = .ok (.iconst 0, 1) := by decide +kernel
theorem dX4_isCovered_19 : decode cX4_isCovered 19 = .ok (.istore 5, 2) := by decide +kernel
theorem dX4_isCovered_21 : decode cX4_isCovered 21 = .ok (.iload 5, 2) := by decide +kernel
theorem dX4_isCovered_23 : decode cX4_isCovered 23 = .ok (.bipush 8, 2) := by decide +kernel
theorem dX4_isCovered_25 : decode cX4_isCovered 25 = .ok (.if_icmp .ge 87, 3) := by decide +kernel
theorem dX4_isCovered_28 : decode cX4_isCovered 28 = .ok (.iload_n 1, 1) := by decide +kernel
theorem dX4_isCovered_29 : decode cX4_isCovered 29 = .ok (.iload 5, 2) := by decide +kernel
theorem dX4_isCovered_31 : decode cX4_isCovered 31 = .ok (.invokestatic 33, 3) := by decide +kernel
theorem dX4_isCovered_34 : decode cX4_isCovered 34 = .ok (.ifCond .ne 19, 3) := by decide +kernel
theorem dX4_isCovered_37 : decode cX4_isCovered 37 = .ok (.aload_n 0, 1) := by decide +kernel
theorem dX4_isCovered_38 : decode cX4_isCovered 38 = .ok (.getfield 9, 3) := by decide +kernel
theorem dX4_isCovered_41 : decode cX4_isCovered 41 = .ok (.iload 5, 2) := by decide +kernel
theorem dX4_isCovered_43 : decode cX4_isCovered 43 = .ok (.iaload, 1) := by decide +kernel
theorem dX4_isCovered_44 : decode cX4_isCovered 44 = .ok (.iload_n 2, 1) := by decide +kernel
theorem dX4_isCovered_45 : decode cX4_isCovered 45 = .ok (.iconst (-1), 1) := by decide +kernel
theorem dX4_isCovered_46 : decode cX4_isCovered 46 = .ok (.ixor, 1) := by decide +kernel
theorem dX4_isCovered_47 : decode cX4_isCovered 47 = .ok (.iand, 1) := by decide +kernel
theorem dX4_isCovered_48 : decode cX4_isCovered 48 = .ok (.ifCond .eq 5, 3) := by decide +kernel
theorem dX4_isCovered_51 : decode cX4_isCovered 51 = .ok (.iconst 0, 1) := by decide +kernel
theorem dX4_isCovered_52 : decode cX4_isCovered 52 = .ok (.ireturn, 1) := by decide +kernel
theorem dX4_isCovered_53 : decode cX4_isCovered 53 = .ok (.aload_n 0, 1) := by decide +kernel
theorem dX4_isCovered_54 : decode cX4_isCovered 54 = .ok (.getfield 16, 3) := by decide +kernel
theorem dX4_isCovered_57 : decode cX4_isCovered 57 = .ok (.iload 5, 2) := by decide +kernel
theorem dX4_isCovered_59 : decode cX4_isCovered 59 = .ok (.iaload, 1) := by decide +kernel
theorem dX4_isCovered_60 : decode cX4_isCovered 60 = .ok (.bipush 8, 2) := by decide +kernel
theorem dX4_isCovered_62 : decode cX4_isCovered 62 = .ok (.if_icmp .ge 44, 3) := by decide +kernel
theorem dX4_isCovered_65 : decode cX4_isCovered 65 = .ok (.aload_n 0, 1) := by decide +kernel
theorem dX4_isCovered_66 : decode cX4_isCovered 66 = .ok (.getfield 9, 3) := by decide +kernel
theorem dX4_isCovered_69 : decode cX4_isCovered 69 = .ok (.iload 5, 2) := by decide +kernel
theorem dX4_isCovered_71 : decode cX4_isCovered 71 = .ok (.iaload, 1) := by decide +kernel
theorem dX4_isCovered_72 : decode cX4_isCovered 72 = .ok (.iload_n 3, 1) := by decide +kernel
theorem dX4_isCovered_73 : decode cX4_isCovered 73 = .ok (.iand, 1) := by decide +kernel
theorem dX4_isCovered_74 : decode cX4_isCovered 74 = .ok (.aload_n 0, 1) := by decide +kernel
theorem dX4_isCovered_75 : decode cX4_isCovered 75 = .ok (.getfield 16, 3) := by decide +kernel
theorem dX4_isCovered_78 : decode cX4_isCovered 78 = .ok (.iload 5, 2) := by decide +kernel
theorem dX4_isCovered_80 : decode cX4_isCovered 80 = .ok (.iaload, 1) := by decide +kernel
theorem dX4_isCovered_81 : decode cX4_isCovered 81 = .ok (.invokestatic 33, 3) := by decide +kernel
theorem dX4_isCovered_84 : decode cX4_isCovered 84 = .ok (.ifCond .ne 5, 3) := by decide +kernel
theorem dX4_isCovered_87 : decode cX4_isCovered 87 = .ok (.iconst 0, 1) := by decide +kernel
theorem dX4_isCovered_88 : decode cX4_isCovered 88 = .ok (.ireturn, 1) := by decide +kernel
theorem dX4_isCovered_89 : decode cX4_isCovered 89 = .ok (.iload_n 3, 1) := by decide +kernel
theorem dX4_isCovered_90 : decode cX4_isCovered 90 = .ok (.iconst 1, 1) := by decide +kernel
theorem dX4_isCovered_91 : decode cX4_isCovered 91 = .ok (.aload_n 0, 1) := by decide +kernel
theorem dX4_isCovered_92 : decode cX4_isCovered 92 = .ok (.getfield 16, 3) := by decide +kernel
theorem dX4_isCovered_95 : decode cX4_isCovered 95 = .ok (.iload 5, 2) := by decide +kernel
theorem dX4_isCovered_97 : decode cX4_isCovered 97 = .ok (.iaload, 1) := by decide +kernel
theorem dX4_isCovered_98 : decode cX4_isCovered 98 = .ok (.ishl, 1) := by decide +kernel
theorem dX4_isCovered_99 : decode cX4_isCovered 99 = .ok (.iconst (-1), 1) := by decide +kernel
theorem dX4_isCovered_100 : decode cX4_isCovered 100 = .ok (.ixor, 1) := by decide +kernel
theorem dX4_isCovered_101 : decode cX4_isCovered 101 = .ok (.iand, 1) := by decide +kernel
theorem dX4_isCovered_102 : decode cX4_isCovered 102 = .ok (.istore_n 3, 1) := by decide +kernel
theorem dX4_isCovered_103 : decode cX4_isCovered 103 = .ok (.iinc 4 1, 3) := by decide +kernel
theorem dX4_isCovered_106 : decode cX4_isCovered 106 = .ok (.iinc 5 1, 3) := by decide +kernel
theorem dX4_isCovered_109 : decode cX4_isCovered 109 = .ok (.goto (-88), 3) := by decide +kernel
theorem dX4_isCovered_112 : decode cX4_isCovered 112 = .ok (.iload 4, 2) := by decide +kernel
theorem dX4_isCovered_114 : decode cX4_isCovered 114 = .ok (.iload_n 1, 1) := by decide +kernel
theorem dX4_isCovered_115 : decode cX4_isCovered 115 = .ok (.invokestatic 19, 3) := by decide +kernel
theorem dX4_isCovered_118 : decode cX4_isCovered 118 = .ok (.iload_n 2, 1) := by decide +kernel
theorem dX4_isCovered_119 : decode cX4_isCovered 119 = .ok (.invokestatic 19, 3) := by decide +kernel
theorem dX4_isCovered_122 : decode cX4_isCovered 122 = .ok (.iadd, 1) := by decide +kernel
theorem dX4_isCovered_123 : decode cX4_isCovered 123 = .ok (.if_icmp .ne 7, 3) := by decide +kernel
theorem dX4_isCovered_126 : decode cX4_isCovered 126 = .ok (.iconst 1, 1) := by decide +kernel
theorem dX4_isCovered_127 : decode cX4_isCovered 127 = .ok (.goto 4, 3) := by decide +kernel
theorem dX4_isCovered_130 : decode cX4_isCovered 130 = .ok (.iconst 0, 1) := by decide +kernel
theorem dX4_isCovered_131 : decode cX4_isCovered 131 = .ok (.ireturn, 1) := by decide +kernel
