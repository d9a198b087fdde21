theorem dX0_init_0 : decode cX0_init 0 = .ok (.aload_n 0, 1) := by decide +kernel
theorem dX0_init_1 : decode cX0_init 1 = .ok (.invokespecial 3, 3) := by decide +kernel
theorem dX0_init_4 : decode cX0_init 4 = .ok (.return_, 1) := by decide +kernel
theorem dX0_weigh_0 : decode cX0_weigh 0 = .ok (.aload_n 0, 1) := by decide +kernel
theorem dX0_weigh_1 : decode cX0_weigh 1 = .ok (.iconst 0, 1) := by decide +kernel
theorem dX0_weigh_2 : decode cX0_weigh 2 = .ok (.putfield 9, 3) := by decide +kernel
theorem dX0_weigh_5 : decode cX0_weigh 5 = .ok (.aload_n 0, 1) := by decide +kernel
theorem dX0_weigh_6 : decode cX0_weigh 6 = .ok (.iconst 0, 1) := by decide +kernel
theorem dX0_weigh_7 : decode cX0_weigh 7 = .ok (.putfield 15, 3) := by decide +kernel
theorem dX0_weigh_10 : decode cX0_weigh 10 = .ok (.aload_n 0, 1) := by decide +kernel
theorem dX0_weigh_11 : decode cX0_weigh 11 = .ok (.iconst 0, 1) := by decide +kernel
theorem dX0_weigh_12 : decode cX0_weigh 12 = .ok (.putfield 18, 3) := by decide +kernel
theorem dX0_weigh_15 : decode cX0_weigh 15 = .ok (.aload_n 0, 1) := by decide +kernel
theorem dX0_weigh_16 : decode cX0_weigh 16 = .ok (.iconst 0, 1) := by decide +kernel
theorem dX0_weigh_17 : decode cX0_weigh 17 = .ok (.putfield 21, 3) := by decide +kernel
theorem dX0_weigh_20 : decode cX0_weigh 20 = .ok (.iconst 0, 1) := by decide +kernel
theorem dX0_weigh_21 : decode cX0_weigh 21 = .ok (.istore_n 3, 1) := by decide +kernel
theorem dX0_weigh_22 : decode cX0_weigh 22 = .ok (.iload_n 3, 1) := by decide +kernel
theorem dX0_weigh_23 : decode cX0_weigh 23 = .ok (.aload_n 1, 1) := by decide +kernel
theorem dX0_weigh_24 : decode cX0_weigh 24 = .ok (.getfield 24, 3) := by decide +kernel
theorem dX0_weigh_27 : decode cX0_weigh 27 = .ok (.if_icmp .ge 110, 3) := by decide +kernel
theorem dX0_weigh_30 : decode cX0_weigh 30 = .ok (.iload_n 2, 1) := by decide +kernel
theorem dX0_weigh_31 : decode cX0_weigh 31 = .ok (.aload_n 1, 1) := by decide +kernel
theorem dX0_weigh_32 : decode cX0_weigh 32 = .ok (.getfield 29, 3) := by decide +kernel
theorem dX0_weigh_35 : decode cX0_weigh 35 = .ok (.iload_n 3, 1) := by decide +kernel
theorem dX0_weigh_36 : decode cX0_weigh 36 = .ok (.iaload, 1) := by decide +kernel
theorem dX0_weigh_37 : decode cX0_weigh 37 = .ok (.ishr, 1) := by decide +kernel
theorem dX0_weigh_38 : decode cX0_weigh 38 = .ok (.iconst 1, 1) := by decide +kernel
theorem dX0_weigh_39 : decode cX0_weigh 39 = .ok (.iand, 1) := by decide +kernel
theorem dX0_weigh_40 : decode cX0_weigh 40 = .ok (.istore 4, 2) := by decide +kernel
theorem dX0_weigh_42 : decode cX0_weigh 42 = .ok (.iload_n 2, 1) := by decide +kernel
theorem dX0_weigh_43 : decode cX0_weigh 43 = .ok (.aload_n 1, 1) := by decide +kernel
theorem dX0_weigh_44 : decode cX0_weigh 44 = .ok (.getfield 33, 3) := by decide +kernel
theorem dX0_weigh_47 : decode cX0_weigh 47 = .ok (.iload_n 3, 1) := by decide +kernel
theorem dX0_weigh_48 : decode cX0_weigh 48 = .ok (.iaload, 1) := by decide +kernel
theorem dX0_weigh_49 : decode cX0_weigh 49 = .ok (.ishr, 1) := by decide +kernel
theorem dX0_weigh_50 : decode cX0_weigh 50 = .ok (.iconst 1, 1) := by decide +kernel
theorem dX0_weigh_51 : decode cX0_weigh 51 = .ok (.iand, 1) := by decide +kernel
theorem dX0_weigh_52 : decode cX0_weigh 52 = .ok (.istore 5, 2) := by decide +kernel
theorem dX0_weigh_54 : decode cX0_weigh 54 = .ok (.iload 4, 2) := by decide +kernel
theorem dX0_weigh_56 : decode cX0_weigh 56 = .ok (.iload 5, 2) := by decide +kernel
theorem dX0_weigh_58 : decode cX0_weigh 58 = .ok (.if_icmp .le 36, 3) := by decide +kernel
theorem dX0_weigh_61 : decode cX0_weigh 61 = .ok (.aload_n 0, 1) := by decide +kernel
theorem dX0_weigh_62 : decode cX0_weigh 62 = .ok (.dup, 1) := by decide +kernel
theorem dX0_weigh_63 : decode cX0_weigh 63 = .ok (.getfield 9, 3) := by decide +kernel
theorem dX0_weigh_66 : decode cX0_weigh 66 = .ok (.aload_n 1, 1) := by decide +kernel
theorem dX0_weigh_67 : decode cX0_weigh 67 = .ok (.getfield 36, 3) := by decide +kernel
theorem dX0_weigh_70 : decode cX0_weigh 70 = .ok (.iload_n 3, 1) := by decide +kernel
theorem dX0_weigh_71 : decode cX0_weigh 71 = .ok (.iaload, 1) := by decide +kernel
theorem dX0_weigh_72 : decode cX0_weigh 72 = .ok (.iadd, 1) := by decide +kernel
theorem dX0_weigh_73 : decode cX0_weigh 73 = .ok (.putfield 9, 3) := by decide +kernel
theorem dX0_weigh_76 : decode cX0_weigh 76 = .ok (.aload_n 0, 1) := by decide +kernel
theorem dX0_weigh_77 : decode cX0_weigh 77 = .ok (.dup, 1) := by decide +kernel
theorem dX0_weigh_78 : decode cX0_weigh 78 = .ok (.getfield 15, 3) := by decide +kernel
theorem dX0_weigh_81 : decode cX0_weigh 81 = .ok (.aload_n 1, 1) := by decide +kernel
theorem dX0_weigh_82 : decode cX0_weigh 82 = .ok (.getfield 39, 3) := by decide +kernel
theorem dX0_weigh_85 : decode cX0_weigh 85 = .ok (.iload_n 3, 1) := by decide +kernel
theorem dX0_weigh_86 : decode cX0_weigh 86 = .ok (.iaload, 1) := by decide +kernel
theorem dX0_weigh_87 : decode cX0_weigh 87 = .ok (.iadd, 1) := by decide +kernel
theorem dX0_weigh_88 : decode cX0_weigh 88 = .ok (.putfield 15, 3) := by decide +kernel
theorem dX0_weigh_91 : decode cX0_weigh 91 = .ok (.goto 40, 3) := by decide +kernel
theorem dX0_weigh_94 : decode cX0_weigh 94 = .ok (.iload 4, 2) := by decide +kernel
theorem dX0_weigh_96 : decode cX0_weigh 96 = .ok (.iload 5, 2) := by decide +kernel
theorem dX0_weigh_98 : decode cX0_weigh 98 = .ok (.if_icmp .ge 33, 3) := by decide +kernel
theorem dX0_weigh_101 : decode cX0_weigh 101 = .ok (.aload_n 0, 1) := by decide +kernel
theorem dX0_weigh_102 : decode cX0_weigh 102 = .ok (.dup, 1) := by decide +kernel
theorem dX0_weigh_103 : decode cX0_weigh 103 = .ok (.getfield 18, 3) := by decide +kernel
theorem dX0_weigh_106 : decode cX0_weigh 106 = .ok (.aload_n 1, 1) := by decide +kernel
theorem dX0_weigh_107 : decode cX0_weigh 107 = .ok (.getfield 36, 3) := by decide +kernel
theorem dX0_weigh_110 : decode cX0_weigh 110 = .ok (.iload_n 3, 1) := by decide +kernel
theorem dX0_weigh_111 : decode cX0_weigh 111 = .ok (.iaload, 1) := by decide +kernel
theorem dX0_weigh_112 : decode cX0_weigh 112 = .ok (.iadd, 1) := by decide +kernel
theorem dX0_weigh_113 : decode cX0_weigh 113 = .ok (.putfield 18, 3) := by decide +kernel
theorem dX0_weigh_116 : decode cX0_weigh 116 = .ok (.aload_n 0, 1) := by decide +kernel
theorem dX0_weigh_117 : decode cX0_weigh 117 = .ok (.dup, 1) := by decide +kernel
theorem dX0_weigh_118 : decode cX0_weigh 118 = .ok (.getfield 21, 3) := by decide +kernel
theorem dX0_weigh_121 : decode cX0_weigh 121 = .ok (.aload_n 1, 1) := by decide +kernel
theorem dX0_weigh_122 : decode cX0_weigh 122 = .ok (.getfield 39, 3) := by decide +kernel
theorem dX0_weigh_125 : decode cX0_weigh 125 = .ok (.iload_n 3, 1) := by decide +kernel
theorem dX0_weigh_126 : decode cX0_weigh 126 = .ok (.iaload, 1) := by decide +kernel
theorem dX0_weigh_127 : decode cX0_weigh 127 = .ok (.iadd, 1) := by decide +kernel
theorem dX0_weigh_128 : decode cX0_weigh 128 = .ok (.putfield 21, 3) := by decide +kernel
theorem dX0_weigh_131 : decode cX0_weigh 131 = .ok (.iinc 3 1, 3) := by decide +kernel
theorem dX0_weigh_134 : decode cX0_weigh 134 = .ok (.goto (-112), 3) := by decide +kernel
theorem dX0_weigh_137 : decode cX0_weigh 137 = .ok (.return_, 1) := by decide +kernel
theorem dX0_sumOfCut_0 : decode cX0_sumOfCut 0 = .ok (.aload_n 0, 1) := by decide +kernel
theorem dX0_sumOfCut_1 : decode cX0_sumOfCut 1 = .ok (.aload_n 1, 1) := by decide +kernel
theorem dX0_sumOfCut_2 : decode cX0_sumOfCut 2 = .ok (.iload_n 2, 1) := by decide +kernel
theorem dX0_sumOfCut_3 : decode cX0_sumOfCut 3 = .ok (.invokevirtual 42, 3) := by decide +kernel
theorem dX0_sumOfCut_6 : decode cX0_sumOfCut 6 = .ok (.aload_n 0, 1) := by decide +kernel
theorem dX0_sumOfCut_7 : decode cX0_sumOfCut 7 = .ok (.getfield 9, 3) := by decide +kernel
theorem dX0_sumOfCut_10 : decode cX0_sumOfCut 10 = .ok (.aload_n 0, 1) := by decide +kernel
theorem dX0_sumOfCut_11 : decode cX0_sumOfCut 11 = .ok (.getfield 21, 3) := by decide +kernel
theorem dX0_sumOfCut_14 : decode cX0_sumOfCut 14 = .ok (.isub, 1) := by decide +kernel
theorem dX0_sumOfCut_15 : decode cX0_sumOfCut 15 = .ok (.ireturn, 1) := by decide +kernel
theorem dX0_sumBothWays_0 : decode cX0_sumBothWays 0 = .ok (.aload_n 0, 1) := by decide +kernel
theorem dX0_sumBothWays_1 : decode cX0_sumBothWays 1 = .ok (.aload_n 1, 1) := by decide +kernel
theorem dX0_sumBothWays_2 : decode cX0_sumBothWays 2 = .ok (.iload_n 2, 1) := by decide +kernel
theorem dX0_sumBothWays_3 : decode cX0_sumBothWays 3 = .ok (.invokevirtual 42, 3) := by decide +kernel
theorem dX0_sumBothWays_6 : decode cX0_sumBothWays 6 = .ok (.aload_n 0, 1) := by decide +kernel
theorem dX0_sumBothWays_7 : decode cX0_sumBothWays 7 = .ok (.getfield 9, 3) := by decide +kernel
theorem dX0_sumBothWays_10 : decode cX0_sumBothWays 10 = .ok (.aload_n 0, 1) := by decide +kernel
theorem dX0_sumBothWays_11 : decode cX0_sumBothWays 11 = .ok (.getfield 18, 3) := by decide +kernel
theorem dX0_sumBothWays_14 : decode cX0_sumBothWays 14 = .ok (.iadd, 1) := by decide +kernel
theorem dX0_sumBothWays_15 : decode cX0_sumBothWays 15 = .ok (.ireturn, 1) := by decide +kernel
theorem dX0_isCrowd_0 : decode cX0_isCrowd 0 = .ok (.aload_n 0, 1) := by decide +kernel
theorem dX0_isCrowd_1 : decode cX0_isCrowd 1 = .ok (.aload_n 1, 1) := by decide +kernel
theorem dX0_isCrowd_2 : decode cX0_isCrowd 2 = .ok (.iload_n 2, 1) := by decide +kernel
theorem dX0_isCrowd_3 : decode cX0_isCrowd 3 = .ok (.invokevirtual 42, 3) := by decide +kernel
theorem dX0_isCrowd_6 : decode cX0_isCrowd 6 = .ok (.aload_n 0, 1) := by decide +kernel
theorem dX0_isCrowd_7 : decode cX0_isCrowd 7 = .ok (.getfield 15, 3) := by decide +kernel
theorem dX0_isCrowd_10 : decode cX0_isCrowd 10 = .ok (.aload_n 0, 1) := by decide +kernel
theorem dX0_isCrowd_11 : decode cX0_isCrowd 11 = .ok (.getfield 18, 3) := by decide +kernel
theorem dX0_isCrowd_14 : decode cX0_isCrowd 14 = .ok (.if_icmp .le 7, 3) := by decide +kernel
theorem dX0_isCrowd_17 : decode cX0_isCrowd 17 = .ok (.iconst 1, 1) := by decide +kernel
theorem dX0_isCrowd_18 : decode cX0_isCrowd 18 = .ok (.goto 4, 3) := by decide +kernel
theorem dX0_isCrowd_21 : decode cX0_isCrowd 21 = .ok (.iconst 0, 1) := by decide +kernel
theorem dX0_isCrowd_22 : decode cX0_isCrowd 22 = .ok (.ireturn, 1) := by decide +kernel
theorem dX0_isBroken_0 : decode cX0_isBroken 0 = .ok (.iconst 0, 1) := by decide +kernel
theorem dX0_isBroken_1 : decode cX0_isBroken 1 = .ok (.istore_n 3, 1) := by decide +kernel
theorem dX0_isBroken_2 : decode cX0_isBroken 2 = .ok (.iconst 0, 1) := by decide +kernel
theorem dX0_isBroken_3 : decode cX0_isBroken 3 = .ok (.istore 4, 2) := by decide +kernel
theorem dX0_isBroken_5 : decode cX0_isBroken 5 = .ok (.iload 4, 2) := by decide +kernel
theorem dX0_isBroken_7 : decode cX0_isBroken 7 = .ok (.aload_n 1, 1) := by decide +kernel
theorem dX0_isBroken_8 : decode cX0_isBroken 8 = .ok (.getfield 46, 3) := by decide +kernel
theorem dX0_isBroken_11 : decode cX0_isBroken 11 = .ok (.if_icmp .ge 32, 3) := by decide +kernel
theorem dX0_isBroken_14 : decode cX0_isBroken 14 = .ok (.iload_n 3, 1) := by decide +kernel
theorem dX0_isBroken_15 : decode cX0_isBroken 15 = .ok (.iload_n 2, 1) := by decide +kernel
theorem dX0_isBroken_16 : decode cX0_isBroken 16 = .ok (.iload 4, 2) := by decide +kernel
theorem dX0_isBroken_18 : decode cX0_isBroken 18 = .ok (.invokestatic 49, 3) := by decide +kernel
theorem dX0_isBroken_21 : decode cX0_isBroken 21 = .ok (.ifCond .eq 13, 3) := by decide +kernel
theorem dX0_isBroken_24 : decode cX0_isBroken 24 = .ok (.aload_n 1, 1) := by decide +kernel
theorem dX0_isBroken_25 : decode cX0_isBroken 25 = .ok (.getfield 53, 3) := by decide +kernel
theorem dX0_isBroken_28 : decode cX0_isBroken 28 = .ok (.iload 4, 2) := by decide +kernel
theorem dX0_isBroken_30 : decode cX0_isBroken 30 = .ok (.iaload, 1) := by decide +kernel
theorem dX0_isBroken_31 : decode cX0_isBroken 31 = .ok (.goto 4, 3) := by decide +kernel
theorem dX0_isBroken_34 : decode cX0_isBroken 34 = .ok (.iconst 0, 1) := by decide +kernel
theorem dX0_isBroken_35 : decode cX0_isBroken 35 = .ok (.iadd, 1) := by decide +kernel
theorem dX0_isBroken_36 : decode cX0_isBroken 36 = .ok (.istore_n 3, 1) := by decide +kernel
theorem dX0_isBroken_37 : decode cX0_isBroken 37 = .ok (.iinc 4 1, 3) := by decide +kernel
theorem dX0_isBroken_40 : decode cX0_isBroken 40 = .ok (.goto (-35), 3) := by decide +kernel
theorem dX0_isBroken_43 : decode cX0_isBroken 43 = .ok (.aload_n 0, 1) := by decide +kernel
theorem dX0_isBroken_44 : decode cX0_isBroken 44 = .ok (.aload_n 1, 1) := by decide +kernel
theorem dX0_isBroken_45 : decode cX0_isBroken 45 = .ok (.iload_n 2, 1) := by decide +kernel
theorem dX0_isBroken_46 : decode cX0_isBroken 46 = .ok (.invokevirtual 42, 3) := by decide +kernel
theorem dX0_isBroken_49 : decode cX0_isBroken 49 = .ok (.iload_n 3, 1) := by decide +kernel
theorem dX0_isBroken_50 : decode cX0_isBroken 50 = .ok (.aload_n 0, 1) := by decide +kernel
theorem dX0_isBroken_51 : decode cX0_isBroken 51 = .ok (.getfield 9, 3) := by decide +kernel
theorem dX0_isBroken_54 : decode cX0_isBroken 54 = .ok (.aload_n 0, 1) := by decide +kernel
theorem dX0_isBroken_55 : decode cX0_isBroken 55 = .ok (.getfield 21, 3) := by decide +kernel
theorem dX0_isBroken_58 : decode cX0_isBroken 58 = .ok (.isub, 1) := by decide +kernel
theorem dX0_isBroken_59 : decode cX0_isBroken 59 = .ok (.if_icmp .gt 16, 3) := by decide +kernel
theorem dX0_isBroken_62 : decode cX0_isBroken 62 = .ok (.iload_n 3, 1) := by decide +kernel
theorem dX0_isBroken_63 : decode cX0_isBroken 63 = .ok (.aload_n 0, 1) := by decide +kernel
theorem dX0_isBroken_64 : decode cX0_isBroken 64 = .ok (.getfield 15, 3) := by decide +kernel
theorem dX0_isBroken_67 : decode cX0_isBroken 67 = .ok (.aload_n 0, 1) := by decide +kernel
theorem dX0_isBroken_68 : decode cX0_isBroken 68 = .ok (.getfield 18, 3) := by decide +kernel
theorem dX0_isBroken_71 : decode cX0_isBroken 71 = .ok (.isub, 1) := by decide +kernel
theorem dX0_isBroken_72 : decode cX0_isBroken 72 = .ok (.if_icmp .ge 7, 3) := by decide +kernel
theorem dX0_isBroken_75 : decode cX0_isBroken 75 = .ok (.iconst 1, 1) := by decide +kernel
theorem dX0_isBroken_76 : decode cX0_isBroken 76 = .ok (.goto 4, 3) := by decide +kernel
theorem dX0_isBroken_79 : decode cX0_isBroken 79 = .ok (.iconst 0, 1) := by decide +kernel
theorem dX0_isBroken_80 : decode cX0_isBroken 80 = .ok (.ireturn, 1) := by decide +kernel
theorem dX0_findLeast_0 : decode cX0_findLeast 0 = .ok (.iconst 0, 1) := by decide +kernel
theorem dX0_findLeast_1 : decode cX0_findLeast 1 = .ok (.istore 4, 2) := by decide +kernel
theorem dX0_findLeast_3 : decode cX0_findLeast 3 = .ok (.aload_n 0, 1) := by decide +kernel
theorem dX0_findLeast_4 : decode cX0_findLeast 4 = .ok (.iconst 0, 1) := by decide +kernel
theorem dX0_findLeast_5 : decode cX0_findLeast 5 = .ok (.putfield 56, 3) := by decide +kernel
theorem dX0_findLeast_8 : decode cX0_findLeast 8 = .ok (.aload_n 0, 1) := by decide +kernel
theorem dX0_findLeast_9 : decode cX0_findLeast 9 = .ok (.iconst 0, 1) := by decide +kernel
theorem dX0_findLeast_10 : decode cX0_findLeast 10 = .ok (.putfield 59, 3) := by decide +kernel
theorem dX0_findLeast_13 : decode cX0_findLeast 13 = .ok (.aload_n 0, 1) := by decide +kernel
theorem dX0_findLeast_14 : decode cX0_findLeast 14 = .ok (.iconst 0, 1) := by decide +kernel
theorem dX0_findLeast_15 : decode cX0_findLeast 15 = .ok (.putfield 62, 3) := by decide +kernel
theorem dX0_findLeast_18 : decode cX0_findLeast 18 = .ok (.iconst 0, 1) := by decide +kernel
theorem dX0_findLeast_19 : decode cX0_findLeast 19 = .ok (.istore 5, 2) := by decide +kernel
theorem dX0_findLeast_21 : decode cX0_findLeast 21 = .ok (.iload 5, 2) := by decide +kernel
theorem dX0_findLeast_23 : decode cX0_findLeast 23 = .ok (.iconst 1, 1) := by decide +kernel
theorem dX0_findLeast_24 : decode cX0_findLeast 24 = .ok (.aload_n 1, 1) := by decide +kernel
theorem dX0_findLeast_25 : decode cX0_findLeast 25 = .ok (.getfield 46, 3) := by decide +kernel
theorem dX0_findLeast_28 : decode cX0_findLeast 28 = .ok (.ishl, 1) := by decide +kernel
theorem dX0_findLeast_29 : decode cX0_findLeast 29 = .ok (.if_icmp .ge 105, 3) := by decide +kernel
theorem dX0_findLeast_32 : decode cX0_findLeast 32 = .ok (.iload 5, 2) := by decide +kernel
theorem dX0_findLeast_34 : decode cX0_findLeast 34 = .ok (.iload_n 2, 1) := by decide +kernel
theorem dX0_findLeast_35 : decode cX0_findLeast 35 = .ok (.iload_n 3, 1) := by decide +kernel
theorem dX0_findLeast_36 : decode cX0_findLeast 36 = .ok (.invokestatic 65, 3) := by decide +kernel
theorem dX0_findLeast_39 : decode cX0_findLeast 39 = .ok (.ifCond .eq 89, 3) := by decide +kernel
theorem dX0_findLeast_42 : decode cX0_findLeast 42 = .ok (.aload_n 0, 1) := by decide +kernel
theorem dX0_findLeast_43 : decode cX0_findLeast 43 = .ok (.aload_n 1, 1) := by decide +kernel
theorem dX0_findLeast_44 : decode cX0_findLeast 44 = .ok (.iload 5, 2) := by decide +kernel
theorem dX0_findLeast_46 : decode cX0_findLeast 46 = .ok (.invokevirtual 69, 3) := by decide +kernel
theorem dX0_findLeast_49 : decode cX0_findLeast 49 = .ok (.istore 6, 2) := by decide +kernel
theorem dX0_findLeast_51 : decode cX0_findLeast 51 = .ok (.aload_n 0, 1) := by decide +kernel
theorem dX0_findLeast_52 : decode cX0_findLeast 52 = .ok (.getfield 62, 3) := by decide +kernel
theorem dX0_findLeast_55 : decode cX0_findLeast 55 = .ok (.ifCond .eq 10, 3) := by decide +kernel
theorem dX0_findLeast_58 : decode cX0_findLeast 58 = .ok (.iload 6, 2) := by decide +kernel
theorem dX0_findLeast_60 : decode cX0_findLeast 60 = .ok (.iload 4, 2) := by decide +kernel
theorem dX0_findLeast_62 : decode cX0_findLeast 62 = .ok (.if_icmp .ge 27, 3) := by decide +kernel
theorem dX0_findLeast_65 : decode cX0_findLeast 65 = .ok (.iload 6, 2) := by decide +kernel
theorem dX0_findLeast_67 : decode cX0_findLeast 67 = .ok (.istore 4, 2) := by decide +kernel
theorem dX0_findLeast_69 : decode cX0_findLeast 69 = .ok (.aload_n 0, 1) := by decide +kernel
theorem dX0_findLeast_70 : decode cX0_findLeast 70 = .ok (.iload 5, 2) := by decide +kernel
theorem dX0_findLeast_72 : decode cX0_findLeast 72 = .ok (.putfield 56, 3) := by decide +kernel
theorem dX0_findLeast_75 : decode cX0_findLeast 75 = .ok (.aload_n 0, 1) := by decide +kernel
theorem dX0_findLeast_76 : decode cX0_findLeast 76 = .ok (.iload 5, 2) := by decide +kernel
theorem dX0_findLeast_78 : decode cX0_findLeast 78 = .ok (.putfield 59, 3) := by decide +kernel
theorem dX0_findLeast_81 : decode cX0_findLeast 81 = .ok (.aload_n 0, 1) := by decide +kernel
theorem dX0_findLeast_82 : decode cX0_findLeast 82 = .ok (.iconst 1, 1) := by decide +kernel
theorem dX0_findLeast_83 : decode cX0_findLeast 83 = .ok (.putfield 62, 3) := by decide +kernel
theorem dX0_findLeast_86 : decode cX0_findLeast 86 = .ok (.goto 42, 3) := by decide +kernel
theorem dX0_findLeast_89 : decode cX0_findLeast 89 = .ok (.iload 6, 2) := by decide +kernel
theorem dX0_findLeast_91 : decode cX0_findLeast 91 = .ok (.iload 4, 2) := by decide +kernel
theorem dX0_findLeast_93 : decode cX0_findLeast 93 = .ok (.if_icmp .ne 35, 3) := by decide +kernel
theorem dX0_findLeast_96 : decode cX0_findLeast 96 = .ok (.aload_n 0, 1) := by decide +kernel
theorem dX0_findLeast_97 : decode cX0_findLeast 97 = .ok (.dup, 1) := by decide +kernel
theorem dX0_findLeast_98 : decode cX0_findLeast 98 = .ok (.getfield 56, 3) := by decide +kernel
theorem dX0_findLeast_101 : decode cX0_findLeast 101 = .ok (.iload 5, 2) := by decide +kernel
theorem dX0_findLeast_103 : decode cX0_findLeast 103 = .ok (.iand, 1) := by decide +kernel
theorem dX0_findLeast_104 : decode cX0_findLeast 104 = .ok (.putfield 56, 3) := by decide +kernel
theorem dX0_findLeast_107 : decode cX0_findLeast 107 = .ok (.aload_n 0, 1) := by decide +kernel
theorem dX0_findLeast_108 : decode cX0_findLeast 108 = .ok (.dup, 1) := by decide +kernel
theorem dX0_findLeast_109 : decode cX0_findLeast 109 = .ok (.getfield 59, 3) := by decide +kernel
theorem dX0_findLeast_112 : decode cX0_findLeast 112 = .ok (.iload 5, 2) := by decide +kernel
theorem dX0_findLeast_114 : decode cX0_findLeast 114 = .ok (.ior, 1) := by decide +kernel
theorem dX0_findLeast_115 : decode cX0_findLeast 115 = .ok (.putfield 59, 3) := by decide +kernel
theorem dX0_findLeast_118 : decode cX0_findLeast 118 = .ok (.aload_n 0, 1) := by decide +kernel
theorem dX0_findLeast_119 : decode cX0_findLeast 119 = .ok (.dup, 1) := by decide +kernel
theorem dX0_findLeast_120 : decode cX0_findLeast 120 = .ok (.getfield 62, 3) := by decide +kernel
theorem dX0_findLeast_123 : decode cX0_findLeast 123 = .ok (.iconst 1, 1) := by decide +kernel
theorem dX0_findLeast_124 : decode cX0_findLeast 124 = .ok (.iadd, 1) := by decide +kernel
theorem dX0_findLeast_125 : decode cX0_findLeast 125 = .ok (.putfield 62, 3) := by decide +kernel
theorem dX0_findLeast_128 : decode cX0_findLeast 128 = .ok (.iinc 5 1, 3) := by decide +kernel
theorem dX0_findLeast_131 : decode cX0_findLeast 131 = .ok (.goto (-110), 3) := by decide +kernel
theorem dX0_findLeast_134 : decode cX0_findLeast 134 = .ok (.return_, 1) := by decide +kernel
theorem dX0_leastCrowd_0 : decode cX0_leastCrowd 0 = .ok (.iconst 1, 1) := by decide +kernel
theorem dX0_leastCrowd_1 : decode cX0_leastCrowd 1 = .ok (.istore 4, 2) := by decide +kernel
theorem dX0_leastCrowd_3 : decode cX0_leastCrowd 3 = .ok (.iload 4, 2) := by decide +kernel
theorem dX0_leastCrowd_5 : decode cX0_leastCrowd 5 = .ok (.iconst 1, 1) := by decide +kernel
theorem dX0_leastCrowd_6 : decode cX0_leastCrowd 6 = .ok (.aload_n 1, 1) := by decide +kernel
theorem dX0_leastCrowd_7 : decode cX0_leastCrowd 7 = .ok (.getfield 46, 3) := by decide +kernel
theorem dX0_leastCrowd_10 : decode cX0_leastCrowd 10 = .ok (.ishl, 1) := by decide +kernel
theorem dX0_leastCrowd_11 : decode cX0_leastCrowd 11 = .ok (.if_icmp .ge 37, 3) := by decide +kernel
theorem dX0_leastCrowd_14 : decode cX0_leastCrowd 14 = .ok (.iload 4, 2) := by decide +kernel
theorem dX0_leastCrowd_16 : decode cX0_leastCrowd 16 = .ok (.iload_n 2, 1) := by decide +kernel
theorem dX0_leastCrowd_17 : decode cX0_leastCrowd 17 = .ok (.invokestatic 49, 3) := by decide +kernel
theorem dX0_leastCrowd_20 : decode cX0_leastCrowd 20 = .ok (.iload 4, 2) := by decide +kernel
theorem dX0_leastCrowd_22 : decode cX0_leastCrowd 22 = .ok (.iload_n 3, 1) := by decide +kernel
theorem dX0_leastCrowd_23 : decode cX0_leastCrowd 23 = .ok (.invokestatic 49, 3) := by decide +kernel
theorem dX0_leastCrowd_26 : decode cX0_leastCrowd 26 = .ok (.if_icmp .ne 16, 3) := by decide +kernel
theorem dX0_leastCrowd_29 : decode cX0_leastCrowd 29 = .ok (.aload_n 0, 1) := by decide +kernel
theorem dX0_leastCrowd_30 : decode cX0_leastCrowd 30 = .ok (.aload_n 1, 1) := by decide +kernel
theorem dX0_leastCrowd_31 : decode cX0_leastCrowd 31 = .ok (.iload 4, 2) := by decide +kernel
theorem dX0_leastCrowd_33 : decode cX0_leastCrowd 33 = .ok (.invokevirtual 73, 3) := by decide +kernel
theorem dX0_leastCrowd_36 : decode cX0_leastCrowd 36 = .ok (.ifCond .eq 6, 3) := by decide +kernel
theorem dX0_leastCrowd_39 : decode cX0_leastCrowd 39 = .ok (.iload 4, 2) := by decide +kernel
theorem dX0_leastCrowd_41 : decode cX0_leastCrowd 41 = .ok (.ireturn, 1) := by decide +kernel
theorem dX0_leastCrowd_42 : decode cX0_leastCrowd 42 = .ok (.iinc 4 1, 3) := by decide +kernel
theorem dX0_leastCrowd_45 : decode cX0_leastCrowd 45 = .ok (.goto (-42), 3) := by decide +kernel
theorem dX0_leastCrowd_48 : decode cX0_leastCrowd 48 = .ok (.iconst (-1), 1) := by decide +kernel
theorem dX0_leastCrowd_49 : decode cX0_leastCrowd 49 = .ok (.ireturn, 1) := by decide +kernel
theorem dX0_leastBreaker_0 : decode cX0_leastBreaker 0 = .ok (.iconst 1, 1) := by decide +kernel
theorem dX0_leastBreaker_1 : decode cX0_leastBreaker 1 = .ok (.istore_n 2, 1) := by decide +kernel
theorem dX0_leastBreaker_2 : decode cX0_leastBreaker 2 = .ok (.iload_n 2, 1) := by decide +kernel
theorem dX0_leastBreaker_3 : decode cX0_leastBreaker 3 = .ok (.iconst 1, 1) := by decide +kernel
theorem dX0_leastBreaker_4 : decode cX0_leastBreaker 4 = .ok (.aload_n 1, 1) := by decide +kernel
theorem dX0_leastBreaker_5 : decode cX0_leastBreaker 5 = .ok (.getfield 46, 3) := by decide +kernel
theorem dX0_leastBreaker_8 : decode cX0_leastBreaker 8 = .ok (.ishl, 1) := by decide +kernel
theorem dX0_leastBreaker_9 : decode cX0_leastBreaker 9 = .ok (.if_icmp .ge 20, 3) := by decide +kernel
theorem dX0_leastBreaker_12 : decode cX0_leastBreaker 12 = .ok (.aload_n 0, 1) := by decide +kernel
theorem dX0_leastBreaker_13 : decode cX0_leastBreaker 13 = .ok (.aload_n 1, 1) := by decide +kernel
theorem dX0_leastBreaker_14 : decode cX0_leastBreaker 14 = .ok (.iload_n 2, 1) := by decide +kernel
theorem dX0_leastBreaker_15 : decode cX0_leastBreaker 15 = .ok (.invokevirtual 77, 3) := by decide +kernel
theorem dX0_leastBreaker_18 : decode cX0_leastBreaker 18 = .ok (.ifCond .eq 5, 3) := by decide +kernel
theorem dX0_leastBreaker_21 : decode cX0_leastBreaker 21 = .ok (.iload_n 2, 1) := by decide +kernel
theorem dX0_leastBreaker_22 : decode cX0_leastBreaker 22 = .ok (.ireturn, 1) := by decide +kernel
theorem dX0_leastBreaker_23 : decode cX0_leastBreaker 23 = .ok (.iinc 2 1, 3) := by decide +kernel
theorem dX0_leastBreaker_26 : decode cX0_leastBreaker 26 = .ok (.goto (-24), 3) := by decide +kernel
theorem dX0_leastBreaker_29 : decode cX0_leastBreaker 29 = .ok (.iconst (-1), 1) := by decide +kernel
theorem dX0_leastBreaker_30 : decode cX0_leastBreaker 30 = .ok (.ireturn, 1) := by decide +kernel
theorem dX0_fewestApart_0 : decode cX0_fewestApart 0 = .ok (.iconst 0, 1) := by decide +kernel
theorem dX0_fewestApart_1 : decode cX0_fewestApart 1 = .ok (.istore 4, 2) := by decide +kernel
theorem dX0_fewestApart_3 : decode cX0_fewestApart 3 = .ok (.bipush 9, 2) := by decide +kernel
theorem dX0_fewestApart_5 : decode cX0_fewestApart 5 = .ok (.istore 5, 2) := by decide +kernel
theorem dX0_fewestApart_7 : decode cX0_fewestApart 7 = .ok (.iconst 0, 1) := by decide +kernel
theorem dX0_fewestApart_8 : decode cX0_fewestApart 8 = .ok (.istore 6, 2) := by decide +kernel
theorem dX0_fewestApart_10 : decode cX0_fewestApart 10 = .ok (.iload 6, 2) := by decide +kernel
theorem dX0_fewestApart_12 : decode cX0_fewestApart 12 = .ok (.iconst 1, 1) := by decide +kernel
theorem dX0_fewestApart_13 : decode cX0_fewestApart 13 = .ok (.aload_n 1, 1) := by decide +kernel
theorem dX0_fewestApart_14 : decode cX0_fewestApart 14 = .ok (.getfield 46, 3) := by decide +kernel
theorem dX0_fewestApart_17 : decode cX0_fewestApart 17 = .ok (.ishl, 1) := by decide +kernel
theorem dX0_fewestApart_18 : decode cX0_fewestApart 18 = .ok (.if_icmp .ge 63, 3) := by decide +kernel
theorem dX0_fewestApart_21 : decode cX0_fewestApart 21 = .ok (.iload 6, 2) := by decide +kernel
theorem dX0_fewestApart_23 : decode cX0_fewestApart 23 = .ok (.invokestatic 80, 3) := by decide +kernel
theorem dX0_fewestApart_26 : decode cX0_fewestApart 26 = .ok (.istore 7, 2) := by decide +kernel
theorem dX0_fewestApart_28 : decode cX0_fewestApart 28 = .ok (.iload 7, 2) := by decide +kernel
theorem dX0_fewestApart_30 : decode cX0_fewestApart 30 = .ok (.iload 5, 2) := by decide +kernel
theorem dX0_fewestApart_32 : decode cX0_fewestApart 32 = .ok (.if_icmp .ge 43, 3) := by decide +kernel
theorem dX0_fewestApart_35 : decode cX0_fewestApart 35 = .ok (.iload 6, 2) := by decide +kernel
theorem dX0_fewestApart_37 : decode cX0_fewestApart 37 = .ok (.iload_n 2, 1) := by decide +kernel
theorem dX0_fewestApart_38 : decode cX0_fewestApart 38 = .ok (.invokestatic 49, 3) := by decide +kernel
theorem dX0_fewestApart_41 : decode cX0_fewestApart 41 = .ok (.ifCond .ne 34, 3) := by decide +kernel
theorem dX0_fewestApart_44 : decode cX0_fewestApart 44 = .ok (.iload 6, 2) := by decide +kernel
theorem dX0_fewestApart_46 : decode cX0_fewestApart 46 = .ok (.iload_n 3, 1) := by decide +kernel
theorem dX0_fewestApart_47 : decode cX0_fewestApart 47 = .ok (.invokestatic 49, 3) := by decide +kernel
theorem dX0_fewestApart_50 : decode cX0_fewestApart 50 = .ok (.ifCond .ne 25, 3) := by decide +kernel
theorem dX0_fewestApart_53 : decode cX0_fewestApart 53 = .ok (.aload_n 1, 1) := by decide +kernel
theorem dX0_fewestApart_54 : decode cX0_fewestApart 54 = .ok (.iload_n 2, 1) := by decide +kernel
theorem dX0_fewestApart_55 : decode cX0_fewestApart 55 = .ok (.iload 6, 2) := by decide +kernel
theorem dX0_fewestApart_57 : decode cX0_fewestApart 57 = .ok (.invokevirtual 86, 3) := by decide +kernel
theorem dX0_fewestApart_60 : decode cX0_fewestApart 60 = .ok (.iload_n 3, 1) := by decide +kernel
theorem dX0_fewestApart_61 : decode cX0_fewestApart 61 = .ok (.invokestatic 49, 3) := by decide +kernel
theorem dX0_fewestApart_64 : decode cX0_fewestApart 64 = .ok (.ifCond .ne 11, 3) := by decide +kernel
theorem dX0_fewestApart_67 : decode cX0_fewestApart 67 = .ok (.iload 6, 2) := by decide +kernel
theorem dX0_fewestApart_69 : decode cX0_fewestApart 69 = .ok (.istore 4, 2) := by decide +kernel
theorem dX0_fewestApart_71 : decode cX0_fewestApart 71 = .ok (.iload 7, 2) := by decide +kernel
theorem dX0_fewestApart_73 : decode cX0_fewestApart 73 = .ok (.istore 5, 2) := by decide +kernel
theorem dX0_fewestApart_75 : decode cX0_fewestApart 75 = .ok (.iinc 6 1, 3) := by decide +kernel
theorem dX0_fewestApart_78 : decode cX0_fewestApart 78 = .ok (.goto (-68), 3) := by decide +kernel
theorem dX0_fewestApart_81 : decode cX0_fewestApart 81 = .ok (.iload 4, 2) := by decide +kernel
theorem dX0_fewestApart_83 : decode cX0_fewestApart 83 = .ok (.ireturn, 1) := by decide +kernel
theorem dX1_init_0 : decode cX1_init 0 = .ok (.aload_n 0, 1) := by decide +kernel
theorem dX1_init_1 : decode cX1_init 1 = .ok (.invokespecial 5, 3) := by decide +kernel
theorem dX1_init_4 : decode cX1_init 4 = .ok (.aload_n 0, 1) := by decide +kernel
theorem dX1_init_5 : decode cX1_init 5 = .ok (.bipush 32, 2) := by decide +kernel
theorem dX1_init_7 : decode cX1_init 7 = .ok (.newarray .int, 2) := by decide +kernel
theorem dX1_init_9 : decode cX1_init 9 = .ok (.putfield 11, 3) := by decide +kernel
theorem dX1_init_12 : decode cX1_init 12 = .ok (.aload_n 0, 1) := by decide +kernel
theorem dX1_init_13 : decode cX1_init 13 = .ok (.bipush 32, 2) := by decide +kernel
theorem dX1_init_15 : decode cX1_init 15 = .ok (.newarray .int, 2) := by decide +kernel
theorem dX1_init_17 : decode cX1_init 17 = .ok (.putfield 15, 3) := by decide +kernel
theorem dX1_init_20 : decode cX1_init 20 = .ok (.aload_n 0, 1) := by decide +kernel
theorem dX1_init_21 : decode cX1_init 21 = .ok (.bipush 32, 2) := by decide +kernel
theorem dX1_init_23 : decode cX1_init 23 = .ok (.newarray .int, 2) := by decide +kernel
theorem dX1_init_25 : decode cX1_init 25 = .ok (.putfield 18, 3) := by decide +kernel
theorem dX1_init_28 : decode cX1_init 28 = .ok (.aload_n 0, 1) := by decide +kernel
theorem dX1_init_29 : decode cX1_init 29 = .ok (.bipush 32, 2) := by decide +kernel
theorem dX1_init_31 : decode cX1_init 31 = .ok (.newarray .int, 2) := by decide +kernel
theorem dX1_init_33 : decode cX1_init 33 = .ok (.putfield 21, 3) := by decide +kernel
theorem dX1_init_36 : decode cX1_init 36 = .ok (.aload_n 0, 1) := by decide +kernel
theorem dX1_init_37 : decode cX1_init 37 = .ok (.bipush 32, 2) := by decide +kernel
theorem dX1_init_39 : decode cX1_init 39 = .ok (.newarray .int, 2) := by decide +kernel
theorem dX1_init_41 : decode cX1_init 41 = .ok (.putfield 24, 3) := by decide +kernel
theorem dX1_init_44 : decode cX1_init 44 = .ok (.aload_n 0, 1) := by decide +kernel
theorem dX1_init_45 : decode cX1_init 45 = .ok (.bipush 32, 2) := by decide +kernel
theorem dX1_init_47 : decode cX1_init 47 = .ok (.newarray .int, 2) := by decide +kernel
theorem dX1_init_49 : decode cX1_init 49 = .ok (.putfield 27, 3) := by decide +kernel
theorem dX1_init_52 : decode cX1_init 52 = .ok (.aload_n 0, 1) := by decide +kernel
theorem dX1_init_53 : decode cX1_init 53 = .ok (.bipush 32, 2) := by decide +kernel
theorem dX1_init_55 : decode cX1_init 55 = .ok (.newarray .int, 2) := by decide +kernel
theorem dX1_init_57 : decode cX1_init 57 = .ok (.putfield 30, 3) := by decide +kernel
theorem dX1_init_60 : decode cX1_init 60 = .ok (.aload_n 0, 1) := by decide +kernel
theorem dX1_init_61 : decode cX1_init 61 = .ok (.bipush 32, 2) := by decide +kernel
theorem dX1_init_63 : decode cX1_init 63 = .ok (.newarray .int, 2) := by decide +kernel
theorem dX1_init_65 : decode cX1_init 65 = .ok (.putfield 33, 3) := by decide +kernel
theorem dX1_init_68 : decode cX1_init 68 = .ok (.aload_n 0, 1) := by decide +kernel
theorem dX1_init_69 : decode cX1_init 69 = .ok (.bipush 16, 2) := by decide +kernel
theorem dX1_init_71 : decode cX1_init 71 = .ok (.newarray .int, 2) := by decide +kernel
theorem dX1_init_73 : decode cX1_init 73 = .ok (.putfield 36, 3) := by decide +kernel
theorem dX1_init_76 : decode cX1_init 76 = .ok (.aload_n 0, 1) := by decide +kernel
theorem dX1_init_77 : decode cX1_init 77 = .ok (.bipush 16, 2) := by decide +kernel
theorem dX1_init_79 : decode cX1_init 79 = .ok (.newarray .int, 2) := by decide +kernel
theorem dX1_init_81 : decode cX1_init 81 = .ok (.putfield 39, 3) := by decide +kernel
theorem dX1_init_84 : decode cX1_init 84 = .ok (.aload_n 0, 1) := by decide +kernel
theorem dX1_init_85 : decode cX1_init 85 = .ok (.bipush 16, 2) := by decide +kernel
theorem dX1_init_87 : decode cX1_init 87 = .ok (.newarray .int, 2) := by decide +kernel
theorem dX1_init_89 : decode cX1_init 89 = .ok (.putfield 42, 3) := by decide +kernel
theorem dX1_init_92 : decode cX1_init 92 = .ok (.return_, 1) := by decide +kernel
theorem dX1_start_0 : decode cX1_start 0 = .ok (.aload_n 0, 1) := by decide +kernel
theorem dX1_start_1 : decode cX1_start 1 = .ok (.iload_n 1, 1) := by decide +kernel
theorem dX1_start_2 : decode cX1_start 2 = .ok (.ifCond .ge 7, 3) := by decide +kernel
theorem dX1_start_5 : decode cX1_start 5 = .ok (.iconst 0, 1) := by decide +kernel
theorem dX1_start_6 : decode cX1_start 6 = .ok (.goto 15, 3) := by decide +kernel
theorem dX1_start_9 : decode cX1_start 9 = .ok (.iload_n 1, 1) := by decide +kernel
theorem dX1_start_10 : decode cX1_start 10 = .ok (.bipush 16, 2) := by decide +kernel
theorem dX1_start_12 : decode cX1_start 12 = .ok (.if_icmp .le 8, 3) := by decide +kernel
theorem dX1_start_15 : decode cX1_start 15 = .ok (.bipush 16, 2) := by decide +kernel
theorem dX1_start_17 : decode cX1_start 17 = .ok (.goto 4, 3) := by decide +kernel
theorem dX1_start_20 : decode cX1_start 20 = .ok (.iload_n 1, 1) := by decide +kernel
theorem dX1_start_21 : decode cX1_start 21 = .ok (.putfield 45, 3) := by decide +kernel
theorem dX1_start_24 : decode cX1_start 24 = .ok (.aload_n 0, 1) := by decide +kernel
theorem dX1_start_25 : decode cX1_start 25 = .ok (.iconst 0, 1) := by decide +kernel
theorem dX1_start_26 : decode cX1_start 26 = .ok (.putfield 49, 3) := by decide +kernel
theorem dX1_start_29 : decode cX1_start 29 = .ok (.aload_n 0, 1) := by decide +kernel
theorem dX1_start_30 : decode cX1_start 30 = .ok (.iconst 0, 1) := by decide +kernel
theorem dX1_start_31 : decode cX1_start 31 = .ok (.putfield 52, 3) := by decide +kernel
theorem dX1_start_34 : decode cX1_start 34 = .ok (.return_, 1) := by decide +kernel
theorem dX1_add_0 : decode cX1_add 0 = .ok (.aload_n 0, 1) := by decide +kernel
theorem dX1_add_1 : decode cX1_add 1 = .ok (.getfield 49, 3) := by decide +kernel
theorem dX1_add_4 : decode cX1_add 4 = .ok (.ifCond .lt 28, 3) := by decide +kernel
theorem dX1_add_7 : decode cX1_add 7 = .ok (.aload_n 0, 1) := by decide +kernel
theorem dX1_add_8 : decode cX1_add 8 = .ok (.getfield 49, 3) := by decide +kernel
theorem dX1_add_11 : decode cX1_add 11 = .ok (.bipush 32, 2) := by decide +kernel
theorem dX1_add_13 : decode cX1_add 13 = .ok (.if_icmp .ge 19, 3) := by decide +kernel
theorem dX1_add_16 : decode cX1_add 16 = .ok (.aload_n 0, 1) := by decide +kernel
theorem dX1_add_17 : decode cX1_add 17 = .ok (.iload_n 1, 1) := by decide +kernel
theorem dX1_add_18 : decode cX1_add 18 = .ok (.invokevirtual 55, 3) := by decide +kernel
theorem dX1_add_21 : decode cX1_add 21 = .ok (.ifCond .eq 11, 3) := by decide +kernel
theorem dX1_add_24 : decode cX1_add 24 = .ok (.aload_n 0, 1) := by decide +kernel
theorem dX1_add_25 : decode cX1_add 25 = .ok (.iload_n 2, 1) := by decide +kernel
theorem dX1_add_26 : decode cX1_add 26 = .ok (.invokevirtual 55, 3) := by decide +kernel
theorem dX1_add_29 : decode cX1_add 29 = .ok (.ifCond .ne 4, 3) := by decide +kernel
theorem dX1_add_32 : decode cX1_add 32 = .ok (.return_, 1) := by decide +kernel
theorem dX1_add_33 : decode cX1_add 33 = .ok (.aload_n 0, 1) := by decide +kernel
theorem dX1_add_34 : decode cX1_add 34 = .ok (.getfield 11, 3) := by decide +kernel
theorem dX1_add_37 : decode cX1_add 37 = .ok (.aload_n 0, 1) := by decide +kernel
theorem dX1_add_38 : decode cX1_add 38 = .ok (.getfield 49, 3) := by decide +kernel
theorem dX1_add_41 : decode cX1_add 41 = .ok (.iload_n 1, 1) := by decide +kernel
theorem dX1_add_42 : decode cX1_add 42 = .ok (.iastore, 1) := by decide +kernel
theorem dX1_add_43 : decode cX1_add 43 = .ok (.aload_n 0, 1) := by decide +kernel
theorem dX1_add_44 : decode cX1_add 44 = .ok (.getfield 15, 3) := by decide +kernel
theorem dX1_add_47 : decode cX1_add 47 = .ok (.aload_n 0, 1) := by decide +kernel
theorem dX1_add_48 : decode cX1_add 48 = .ok (.getfield 49, 3) := by decide +kernel
theorem dX1_add_51 : decode cX1_add 51 = .ok (.iload_n 2, 1) := by decide +kernel
theorem dX1_add_52 : decode cX1_add 52 = .ok (.iastore, 1) := by decide +kernel
theorem dX1_add_53 : decode cX1_add 53 = .ok (.aload_n 0, 1) := by decide +kernel
theorem dX1_add_54 : decode cX1_add 54 = .ok (.getfield 24, 3) := by decide +kernel
theorem dX1_add_57 : decode cX1_add 57 = .ok (.aload_n 0, 1) := by decide +kernel
theorem dX1_add_58 : decode cX1_add 58 = .ok (.getfield 49, 3) := by decide +kernel
theorem dX1_add_61 : decode cX1_add 61 = .ok (.iload 5, 2) := by decide +kernel
theorem dX1_add_63 : decode cX1_add 63 = .ok (.iastore, 1) := by decide +kernel
theorem dX1_add_64 : decode cX1_add 64 = .ok (.aload_n 0, 1) := by decide +kernel
theorem dX1_add_65 : decode cX1_add 65 = .ok (.getfield 33, 3) := by decide +kernel
theorem dX1_add_68 : decode cX1_add 68 = .ok (.aload_n 0, 1) := by decide +kernel
theorem dX1_add_69 : decode cX1_add 69 = .ok (.getfield 49, 3) := by decide +kernel
theorem dX1_add_72 : decode cX1_add 72 = .ok (.iconst 0, 1) := by decide +kernel
theorem dX1_add_73 : decode cX1_add 73 = .ok (.iastore, 1) := by decide +kernel
theorem dX1_add_74 : decode cX1_add 74 = .ok (.aload_n 0, 1) := by decide +kernel
theorem dX1_add_75 : decode cX1_add 75 = .ok (.dup, 1) := by decide +kernel
theorem dX1_add_76 : decode cX1_add 76 = .ok (.getfield 49, 3) := by decide +kernel
theorem dX1_add_79 : decode cX1_add 79 = .ok (.iconst 1, 1) := by decide +kernel
theorem dX1_add_80 : decode cX1_add 80 = .ok (.iadd, 1) := by decide +kernel
theorem dX1_add_81 : decode cX1_add 81 = .ok (.putfield 49, 3) := by decide +kernel
theorem dX1_add_84 : decode cX1_add 84 = .ok (.aload_n 0, 1) := by decide +kernel
theorem dX1_add_85 : decode cX1_add 85 = .ok (.aload_n 0, 1) := by decide +kernel
theorem dX1_add_86 : decode cX1_add 86 = .ok (.getfield 49, 3) := by decide +kernel
theorem dX1_add_89 : decode cX1_add 89 = .ok (.iconst 1, 1) := by decide +kernel
theorem dX1_add_90 : decode cX1_add 90 = .ok (.isub, 1) := by decide +kernel
theorem dX1_add_91 : decode cX1_add 91 = .ok (.iload_n 3, 1) := by decide +kernel
theorem dX1_add_92 : decode cX1_add 92 = .ok (.iload 4, 2) := by decide +kernel
theorem dX1_add_94 : decode cX1_add 94 = .ok (.invokevirtual 59, 3) := by decide +kernel
theorem dX1_add_97 : decode cX1_add 97 = .ok (.return_, 1) := by decide +kernel
theorem dX1_setBounds_0 : decode cX1_setBounds 0 = .ok (.aload_n 0, 1) := by decide +kernel
theorem dX1_setBounds_1 : decode cX1_setBounds 1 = .ok (.iload_n 1, 1) := by decide +kernel
theorem dX1_setBounds_2 : decode cX1_setBounds 2 = .ok (.invokevirtual 63, 3) := by decide +kernel
theorem dX1_setBounds_5 : decode cX1_setBounds 5 = .ok (.ifCond .eq 39, 3) := by decide +kernel
theorem dX1_setBounds_8 : decode cX1_setBounds 8 = .ok (.aload_n 0, 1) := by decide +kernel
theorem dX1_setBounds_9 : decode cX1_setBounds 9 = .ok (.getfield 18, 3) := by decide +kernel
theorem dX1_setBounds_12 : decode cX1_setBounds 12 = .ok (.iload_n 1, 1) := by decide +kernel
theorem dX1_setBounds_13 : decode cX1_setBounds 13 = .ok (.iload_n 2, 1) := by decide +kernel
theorem dX1_setBounds_14 : decode cX1_setBounds 14 = .ok (.iastore, 1) := by decide +kernel
theorem dX1_setBounds_15 : decode cX1_setBounds 15 = .ok (.aload_n 0, 1) := by decide +kernel
theorem dX1_setBounds_16 : decode cX1_setBounds 16 = .ok (.getfield 21, 3) := by decide +kernel
theorem dX1_setBounds_19 : decode cX1_setBounds 19 = .ok (.iload_n 1, 1) := by decide +kernel
theorem dX1_setBounds_20 : decode cX1_setBounds 20 = .ok (.iload_n 3, 1) := by decide +kernel
theorem dX1_setBounds_21 : decode cX1_setBounds 21 = .ok (.iastore, 1) := by decide +kernel
theorem dX1_setBounds_22 : decode cX1_setBounds 22 = .ok (.aload_n 0, 1) := by decide +kernel
theorem dX1_setBounds_23 : decode cX1_setBounds 23 = .ok (.getfield 27, 3) := by decide +kernel
theorem dX1_setBounds_26 : decode cX1_setBounds 26 = .ok (.iload_n 1, 1) := by decide +kernel
theorem dX1_setBounds_27 : decode cX1_setBounds 27 = .ok (.iload_n 2, 1) := by decide +kernel
theorem dX1_setBounds_28 : decode cX1_setBounds 28 = .ok (.ifCond .ge 7, 3) := by decide +kernel
theorem dX1_setBounds_31 : decode cX1_setBounds 31 = .ok (.iload_n 2, 1) := by decide +kernel
theorem dX1_setBounds_32 : decode cX1_setBounds 32 = .ok (.goto 4, 3) := by decide +kernel
theorem dX1_setBounds_35 : decode cX1_setBounds 35 = .ok (.iconst 0, 1) := by decide +kernel
theorem dX1_setBounds_36 : decode cX1_setBounds 36 = .ok (.iastore, 1) := by decide +kernel
theorem dX1_setBounds_37 : decode cX1_setBounds 37 = .ok (.aload_n 0, 1) := by decide +kernel
theorem dX1_setBounds_38 : decode cX1_setBounds 38 = .ok (.getfield 30, 3) := by decide +kernel
theorem dX1_setBounds_41 : decode cX1_setBounds 41 = .ok (.iload_n 1, 1) := by decide +kernel
theorem dX1_setBounds_42 : decode cX1_setBounds 42 = .ok (.iload_n 3, 1) := by decide +kernel
theorem dX1_setBounds_43 : decode cX1_setBounds 43 = .ok (.iastore, 1) := by decide +kernel
theorem dX1_setBounds_44 : decode cX1_setBounds 44 = .ok (.return_, 1) := by decide +kernel
theorem dX1_isNode_0 : decode cX1_isNode 0 = .ok (.iload_n 1, 1) := by decide +kernel
theorem dX1_isNode_1 : decode cX1_isNode 1 = .ok (.ifCond .lt 15, 3) := by decide +kernel
theorem dX1_isNode_4 : decode cX1_isNode 4 = .ok (.iload_n 1, 1) := by decide +kernel
theorem dX1_isNode_5 : decode cX1_isNode 5 = .ok (.aload_n 0, 1) := by decide +kernel
theorem dX1_isNode_6 : decode cX1_isNode 6 = .ok (.getfield 45, 3) := by decide +kernel
theorem dX1_isNode_9 : decode cX1_isNode 9 = .ok (.if_icmp .ge 7, 3) := by decide +kernel
theorem dX1_isNode_12 : decode cX1_isNode 12 = .ok (.iconst 1, 1) := by decide +kernel
theorem dX1_isNode_13 : decode cX1_isNode 13 = .ok (.goto 4, 3) := by decide +kernel
theorem dX1_isNode_16 : decode cX1_isNode 16 = .ok (.iconst 0, 1) := by decide +kernel
theorem dX1_isNode_17 : decode cX1_isNode 17 = .ok (.ireturn, 1) := by decide +kernel
theorem dX1_isEdge_0 : decode cX1_isEdge 0 = .ok (.iload_n 1, 1) := by decide +kernel
theorem dX1_isEdge_1 : decode cX1_isEdge 1 = .ok (.ifCond .lt 15, 3) := by decide +kernel
theorem dX1_isEdge_4 : decode cX1_isEdge 4 = .ok (.iload_n 1, 1) := by decide +kernel
theorem dX1_isEdge_5 : decode cX1_isEdge 5 = .ok (.aload_n 0, 1) := by decide +kernel
theorem dX1_isEdge_6 : decode cX1_isEdge 6 = .ok (.getfield 49, 3) := by decide +kernel
theorem dX1_isEdge_9 : decode cX1_isEdge 9 = .ok (.if_icmp .ge 7, 3) := by decide +kernel
theorem dX1_isEdge_12 : decode cX1_isEdge 12 = .ok (.iconst 1, 1) := by decide +kernel
theorem dX1_isEdge_13 : decode cX1_isEdge 13 = .ok (.goto 4, 3) := by decide +kernel
theorem dX1_isEdge_16 : decode cX1_isEdge 16 = .ok (.iconst 0, 1) := by decide +kernel
theorem dX1_isEdge_17 : decode cX1_isEdge 17 = .ok (.ireturn, 1) := by decide +kernel
theorem dX1_numberOf_0 : decode cX1_numberOf 0 = .ok (.aload_n 0, 1) := by decide +kernel
theorem dX1_numberOf_1 : decode cX1_numberOf 1 = .ok (.iload_n 1, 1) := by decide +kernel
theorem dX1_numberOf_2 : decode cX1_numberOf 2 = .ok (.invokevirtual 63, 3) := by decide +kernel
theorem dX1_numberOf_5 : decode cX1_numberOf 5 = .ok (.ifCond .eq 12, 3) := by decide +kernel
theorem dX1_numberOf_8 : decode cX1_numberOf 8 = .ok (.aload_n 0, 1) := by decide +kernel
theorem dX1_numberOf_9 : decode cX1_numberOf 9 = .ok (.getfield 33, 3) := by decide +kernel
theorem dX1_numberOf_12 : decode cX1_numberOf 12 = .ok (.iload_n 1, 1) := by decide +kernel
theorem dX1_numberOf_13 : decode cX1_numberOf 13 = .ok (.iaload, 1) := by decide +kernel
theorem dX1_numberOf_14 : decode cX1_numberOf 14 = .ok (.goto 4, 3) := by decide +kernel
theorem dX1_numberOf_17 : decode cX1_numberOf 17 = .ok (.iconst 0, 1) := by decide +kernel
theorem dX1_numberOf_18 : decode cX1_numberOf 18 = .ok (.ireturn, 1) := by decide +kernel
theorem dX1_keep_0 : decode cX1_keep 0 = .ok (.aload_n 0, 1) := by decide +kernel
theorem dX1_keep_1 : decode cX1_keep 1 = .ok (.iload_n 1, 1) := by decide +kernel
theorem dX1_keep_2 : decode cX1_keep 2 = .ok (.invokevirtual 63, 3) := by decide +kernel
theorem dX1_keep_5 : decode cX1_keep 5 = .ok (.ifCond .eq 27, 3) := by decide +kernel
theorem dX1_keep_8 : decode cX1_keep 8 = .ok (.aload_n 0, 1) := by decide +kernel
theorem dX1_keep_9 : decode cX1_keep 9 = .ok (.getfield 27, 3) := by decide +kernel
theorem dX1_keep_12 : decode cX1_keep 12 = .ok (.iload_n 1, 1) := by decide +kernel
theorem dX1_keep_13 : decode cX1_keep 13 = .ok (.aload_n 0, 1) := by decide +kernel
theorem dX1_keep_14 : decode cX1_keep 14 = .ok (.getfield 33, 3) := by decide +kernel
theorem dX1_keep_17 : decode cX1_keep 17 = .ok (.iload_n 1, 1) := by decide +kernel
theorem dX1_keep_18 : decode cX1_keep 18 = .ok (.iaload, 1) := by decide +kernel
theorem dX1_keep_19 : decode cX1_keep 19 = .ok (.iastore, 1) := by decide +kernel
theorem dX1_keep_20 : decode cX1_keep 20 = .ok (.aload_n 0, 1) := by decide +kernel
theorem dX1_keep_21 : decode cX1_keep 21 = .ok (.getfield 30, 3) := by decide +kernel
theorem dX1_keep_24 : decode cX1_keep 24 = .ok (.iload_n 1, 1) := by decide +kernel
theorem dX1_keep_25 : decode cX1_keep 25 = .ok (.aload_n 0, 1) := by decide +kernel
theorem dX1_keep_26 : decode cX1_keep 26 = .ok (.getfield 33, 3) := by decide +kernel
theorem dX1_keep_29 : decode cX1_keep 29 = .ok (.iload_n 1, 1) := by decide +kernel
theorem dX1_keep_30 : decode cX1_keep 30 = .ok (.iaload, 1) := by decide +kernel
theorem dX1_keep_31 : decode cX1_keep 31 = .ok (.iastore, 1) := by decide +kernel
theorem dX1_keep_32 : decode cX1_keep 32 = .ok (.return_, 1) := by decide +kernel
theorem dX1_free_0 : decode cX1_free 0 = .ok (.aload_n 0, 1) := by decide +kernel
theorem dX1_free_1 : decode cX1_free 1 = .ok (.iload_n 1, 1) := by decide +kernel
theorem dX1_free_2 : decode cX1_free 2 = .ok (.invokevirtual 63, 3) := by decide +kernel
theorem dX1_free_5 : decode cX1_free 5 = .ok (.ifCond .eq 27, 3) := by decide +kernel
theorem dX1_free_8 : decode cX1_free 8 = .ok (.aload_n 0, 1) := by decide +kernel
theorem dX1_free_9 : decode cX1_free 9 = .ok (.getfield 27, 3) := by decide +kernel
theorem dX1_free_12 : decode cX1_free 12 = .ok (.iload_n 1, 1) := by decide +kernel
theorem dX1_free_13 : decode cX1_free 13 = .ok (.aload_n 0, 1) := by decide +kernel
theorem dX1_free_14 : decode cX1_free 14 = .ok (.getfield 18, 3) := by decide +kernel
theorem dX1_free_17 : decode cX1_free 17 = .ok (.iload_n 1, 1) := by decide +kernel
theorem dX1_free_18 : decode cX1_free 18 = .ok (.iaload, 1) := by decide +kernel
theorem dX1_free_19 : decode cX1_free 19 = .ok (.iastore, 1) := by decide +kernel
theorem dX1_free_20 : decode cX1_free 20 = .ok (.aload_n 0, 1) := by decide +kernel
theorem dX1_free_21 : decode cX1_free 21 = .ok (.getfield 30, 3) := by decide +kernel
theorem dX1_free_24 : decode cX1_free 24 = .ok (.iload_n 1, 1) := by decide +kernel
theorem dX1_free_25 : decode cX1_free 25 = .ok (.aload_n 0, 1) := by decide +kernel
theorem dX1_free_26 : decode cX1_free 26 = .ok (.getfield 21, 3) := by decide +kernel
theorem dX1_free_29 : decode cX1_free 29 = .ok (.iload_n 1, 1) := by decide +kernel
theorem dX1_free_30 : decode cX1_free 30 = .ok (.iaload, 1) := by decide +kernel
theorem dX1_free_31 : decode cX1_free 31 = .ok (.iastore, 1) := by decide +kernel
theorem dX1_free_32 : decode cX1_free 32 = .ok (.return_, 1) := by decide +kernel
theorem dX1_settle_0 : decode cX1_settle 0 = .ok (.iconst 0, 1) := by decide +kernel
theorem dX1_settle_1 : decode cX1_settle 1 = .ok (.istore_n 1, 1) := by decide +kernel
theorem dX1_settle_2 : decode cX1_settle 2 = .ok (.iload_n 1, 1) := by decide +kernel
theorem dX1_settle_3 : decode cX1_settle 3 = .ok (.aload_n 0, 1) := by decide +kernel
theorem dX1_settle_4 : decode cX1_settle 4 = .ok (.getfield 49, 3) := by decide +kernel
theorem dX1_settle_7 : decode cX1_settle 7 = .ok (.if_icmp .ge 76, 3) := by decide +kernel
theorem dX1_settle_10 : decode cX1_settle 10 = .ok (.aload_n 0, 1) := by decide +kernel
theorem dX1_settle_11 : decode cX1_settle 11 = .ok (.getfield 18, 3) := by decide +kernel
theorem dX1_settle_14 : decode cX1_settle 14 = .ok (.iload_n 1, 1) := by decide +kernel
theorem dX1_settle_15 : decode cX1_settle 15 = .ok (.iaload, 1) := by decide +kernel
theorem dX1_settle_16 : decode cX1_settle 16 = .ok (.aload_n 0, 1) := by decide +kernel
theorem dX1_settle_17 : decode cX1_settle 17 = .ok (.getfield 33, 3) := by decide +kernel
theorem dX1_settle_20 : decode cX1_settle 20 = .ok (.iload_n 1, 1) := by decide +kernel
theorem dX1_settle_21 : decode cX1_settle 21 = .ok (.iaload, 1) := by decide +kernel
theorem dX1_settle_22 : decode cX1_settle 22 = .ok (.isub, 1) := by decide +kernel
theorem dX1_settle_23 : decode cX1_settle 23 = .ok (.istore_n 2, 1) := by decide +kernel
theorem dX1_settle_24 : decode cX1_settle 24 = .ok (.aload_n 0, 1) := by decide +kernel
theorem dX1_settle_25 : decode cX1_settle 25 = .ok (.iload_n 1, 1) := by decide +kernel
theorem dX1_settle_26 : decode cX1_settle 26 = .ok (.invokevirtual 66, 3) := by decide +kernel
theorem dX1_settle_29 : decode cX1_settle 29 = .ok (.aload_n 0, 1) := by decide +kernel
theorem dX1_settle_30 : decode cX1_settle 30 = .ok (.getfield 33, 3) := by decide +kernel
theorem dX1_settle_33 : decode cX1_settle 33 = .ok (.iload_n 1, 1) := by decide +kernel
theorem dX1_settle_34 : decode cX1_settle 34 = .ok (.dup2, 1) := by decide +kernel
theorem dX1_settle_35 : decode cX1_settle 35 = .ok (.iaload, 1) := by decide +kernel
theorem dX1_settle_36 : decode cX1_settle 36 = .ok (.aload_n 0, 1) := by decide +kernel
theorem dX1_settle_37 : decode cX1_settle 37 = .ok (.aload_n 0, 1) := by decide +kernel
theorem dX1_settle_38 : decode cX1_settle 38 = .ok (.getfield 15, 3) := by decide +kernel
theorem dX1_settle_41 : decode cX1_settle 41 = .ok (.iload_n 1, 1) := by decide +kernel
theorem dX1_settle_42 : decode cX1_settle 42 = .ok (.iaload, 1) := by decide +kernel
theorem dX1_settle_43 : decode cX1_settle 43 = .ok (.aload_n 0, 1) := by decide +kernel
theorem dX1_settle_44 : decode cX1_settle 44 = .ok (.getfield 11, 3) := by decide +kernel
theorem dX1_settle_47 : decode cX1_settle 47 = .ok (.iload_n 1, 1) := by decide +kernel
theorem dX1_settle_48 : decode cX1_settle 48 = .ok (.iaload, 1) := by decide +kernel
theorem dX1_settle_49 : decode cX1_settle 49 = .ok (.iload_n 2, 1) := by decide +kernel
theorem dX1_settle_50 : decode cX1_settle 50 = .ok (.invokevirtual 70, 3) := by decide +kernel
theorem dX1_settle_53 : decode cX1_settle 53 = .ok (.iadd, 1) := by decide +kernel
theorem dX1_settle_54 : decode cX1_settle 54 = .ok (.iastore, 1) := by decide +kernel
theorem dX1_settle_55 : decode cX1_settle 55 = .ok (.aload_n 0, 1) := by decide +kernel
theorem dX1_settle_56 : decode cX1_settle 56 = .ok (.getfield 33, 3) := by decide +kernel
theorem dX1_settle_59 : decode cX1_settle 59 = .ok (.iload_n 1, 1) := by decide +kernel
theorem dX1_settle_60 : decode cX1_settle 60 = .ok (.iaload, 1) := by decide +kernel
theorem dX1_settle_61 : decode cX1_settle 61 = .ok (.aload_n 0, 1) := by decide +kernel
theorem dX1_settle_62 : decode cX1_settle 62 = .ok (.getfield 18, 3) := by decide +kernel
theorem dX1_settle_65 : decode cX1_settle 65 = .ok (.iload_n 1, 1) := by decide +kernel
theorem dX1_settle_66 : decode cX1_settle 66 = .ok (.iaload, 1) := by decide +kernel
theorem dX1_settle_67 : decode cX1_settle 67 = .ok (.if_icmp .ge 5, 3) := by decide +kernel
theorem dX1_settle_70 : decode cX1_settle 70 = .ok (.iconst 0, 1) := by decide +kernel
theorem dX1_settle_71 : decode cX1_settle 71 = .ok (.ireturn, 1) := by decide +kernel
theorem dX1_settle_72 : decode cX1_settle 72 = .ok (.aload_n 0, 1) := by decide +kernel
theorem dX1_settle_73 : decode cX1_settle 73 = .ok (.iload_n 1, 1) := by decide +kernel
theorem dX1_settle_74 : decode cX1_settle 74 = .ok (.invokevirtual 74, 3) := by decide +kernel
theorem dX1_settle_77 : decode cX1_settle 77 = .ok (.iinc 1 1, 3) := by decide +kernel
theorem dX1_settle_80 : decode cX1_settle 80 = .ok (.goto (-78), 3) := by decide +kernel
theorem dX1_settle_83 : decode cX1_settle 83 = .ok (.iconst 1, 1) := by decide +kernel
theorem dX1_settle_84 : decode cX1_settle 84 = .ok (.ireturn, 1) := by decide +kernel
theorem dX1_lower_0 : decode cX1_lower 0 = .ok (.aload_n 0, 1) := by decide +kernel
theorem dX1_lower_1 : decode cX1_lower 1 = .ok (.iload_n 1, 1) := by decide +kernel
theorem dX1_lower_2 : decode cX1_lower 2 = .ok (.invokevirtual 63, 3) := by decide +kernel
theorem dX1_lower_5 : decode cX1_lower 5 = .ok (.ifCond .eq 53, 3) := by decide +kernel
theorem dX1_lower_8 : decode cX1_lower 8 = .ok (.aload_n 0, 1) := by decide +kernel
theorem dX1_lower_9 : decode cX1_lower 9 = .ok (.getfield 33, 3) := by decide +kernel
theorem dX1_lower_12 : decode cX1_lower 12 = .ok (.iload_n 1, 1) := by decide +kernel
theorem dX1_lower_13 : decode cX1_lower 13 = .ok (.iaload, 1) := by decide +kernel
theorem dX1_lower_14 : decode cX1_lower 14 = .ok (.aload_n 0, 1) := by decide +kernel
theorem dX1_lower_15 : decode cX1_lower 15 = .ok (.getfield 27, 3) := by decide +kernel
theorem dX1_lower_18 : decode cX1_lower 18 = .ok (.iload_n 1, 1) := by decide +kernel
theorem dX1_lower_19 : decode cX1_lower 19 = .ok (.iaload, 1) := by decide +kernel
theorem dX1_lower_20 : decode cX1_lower 20 = .ok (.isub, 1) := by decide +kernel
theorem dX1_lower_21 : decode cX1_lower 21 = .ok (.istore_n 2, 1) := by decide +kernel
theorem dX1_lower_22 : decode cX1_lower 22 = .ok (.aload_n 0, 1) := by decide +kernel
theorem dX1_lower_23 : decode cX1_lower 23 = .ok (.iload_n 1, 1) := by decide +kernel
theorem dX1_lower_24 : decode cX1_lower 24 = .ok (.invokevirtual 66, 3) := by decide +kernel
theorem dX1_lower_27 : decode cX1_lower 27 = .ok (.aload_n 0, 1) := by decide +kernel
theorem dX1_lower_28 : decode cX1_lower 28 = .ok (.getfield 33, 3) := by decide +kernel
theorem dX1_lower_31 : decode cX1_lower 31 = .ok (.iload_n 1, 1) := by decide +kernel
theorem dX1_lower_32 : decode cX1_lower 32 = .ok (.dup2, 1) := by decide +kernel
theorem dX1_lower_33 : decode cX1_lower 33 = .ok (.iaload, 1) := by decide +kernel
theorem dX1_lower_34 : decode cX1_lower 34 = .ok (.aload_n 0, 1) := by decide +kernel
theorem dX1_lower_35 : decode cX1_lower 35 = .ok (.aload_n 0, 1) := by decide +kernel
theorem dX1_lower_36 : decode cX1_lower 36 = .ok (.getfield 11, 3) := by decide +kernel
theorem dX1_lower_39 : decode cX1_lower 39 = .ok (.iload_n 1, 1) := by decide +kernel
theorem dX1_lower_40 : decode cX1_lower 40 = .ok (.iaload, 1) := by decide +kernel
theorem dX1_lower_41 : decode cX1_lower 41 = .ok (.aload_n 0, 1) := by decide +kernel
theorem dX1_lower_42 : decode cX1_lower 42 = .ok (.getfield 15, 3) := by decide +kernel
theorem dX1_lower_45 : decode cX1_lower 45 = .ok (.iload_n 1, 1) := by decide +kernel
theorem dX1_lower_46 : decode cX1_lower 46 = .ok (.iaload, 1) := by decide +kernel
theorem dX1_lower_47 : decode cX1_lower 47 = .ok (.iload_n 2, 1) := by decide +kernel
theorem dX1_lower_48 : decode cX1_lower 48 = .ok (.invokevirtual 70, 3) := by decide +kernel
theorem dX1_lower_51 : decode cX1_lower 51 = .ok (.isub, 1) := by decide +kernel
theorem dX1_lower_52 : decode cX1_lower 52 = .ok (.iastore, 1) := by decide +kernel
theorem dX1_lower_53 : decode cX1_lower 53 = .ok (.aload_n 0, 1) := by decide +kernel
theorem dX1_lower_54 : decode cX1_lower 54 = .ok (.iload_n 1, 1) := by decide +kernel
theorem dX1_lower_55 : decode cX1_lower 55 = .ok (.invokevirtual 66, 3) := by decide +kernel
theorem dX1_lower_58 : decode cX1_lower 58 = .ok (.return_, 1) := by decide +kernel
theorem dX1_push_0 : decode cX1_push 0 = .ok (.iconst 0, 1) := by decide +kernel
theorem dX1_push_1 : decode cX1_push 1 = .ok (.istore 4, 2) := by decide +kernel
theorem dX1_push_3 : decode cX1_push 3 = .ok (.iconst 0, 1) := by decide +kernel
theorem dX1_push_4 : decode cX1_push 4 = .ok (.istore 5, 2) := by decide +kernel
theorem dX1_push_6 : decode cX1_push 6 = .ok (.iload 5, 2) := by decide +kernel
theorem dX1_push_8 : decode cX1_push 8 = .ok (.ldc 77, 2) := by decide +kernel
theorem dX1_push_10 : decode cX1_push 10 = .ok (.if_icmp .ge 42, 3) := by decide +kernel
theorem dX1_push_13 : decode cX1_push 13 = .ok (.iload 4, 2) := by decide +kernel
theorem dX1_push_15 : decode cX1_push 15 = .ok (.iload_n 3, 1) := by decide +kernel
theorem dX1_push_16 : decode cX1_push 16 = .ok (.if_icmp .ge 36, 3) := by decide +kernel
theorem dX1_push_19 : decode cX1_push 19 = .ok (.aload_n 0, 1) := by decide +kernel
theorem dX1_push_20 : decode cX1_push 20 = .ok (.iload_n 1, 1) := by decide +kernel
theorem dX1_push_21 : decode cX1_push 21 = .ok (.iload_n 2, 1) := by decide +kernel
theorem dX1_push_22 : decode cX1_push 22 = .ok (.iload_n 3, 1) := by decide +kernel
theorem dX1_push_23 : decode cX1_push 23 = .ok (.iload 4, 2) := by decide +kernel
theorem dX1_push_25 : decode cX1_push 25 = .ok (.isub, 1) := by decide +kernel
theorem dX1_push_26 : decode cX1_push 26 = .ok (.invokevirtual 78, 3) := by decide +kernel
theorem dX1_push_29 : decode cX1_push 29 = .ok (.istore 6, 2) := by decide +kernel
theorem dX1_push_31 : decode cX1_push 31 = .ok (.iload 6, 2) := by decide +kernel
theorem dX1_push_33 : decode cX1_push 33 = .ok (.ifCond .gt 6, 3) := by decide +kernel
theorem dX1_push_36 : decode cX1_push 36 = .ok (.iload 4, 2) := by decide +kernel
theorem dX1_push_38 : decode cX1_push 38 = .ok (.ireturn, 1) := by decide +kernel
theorem dX1_push_39 : decode cX1_push 39 = .ok (.iload 4, 2) := by decide +kernel
theorem dX1_push_41 : decode cX1_push 41 = .ok (.iload 6, 2) := by decide +kernel
theorem dX1_push_43 : decode cX1_push 43 = .ok (.iadd, 1) := by decide +kernel
theorem dX1_push_44 : decode cX1_push 44 = .ok (.istore 4, 2) := by decide +kernel
theorem dX1_push_46 : decode cX1_push 46 = .ok (.iinc 5 1, 3) := by decide +kernel
theorem dX1_push_49 : decode cX1_push 49 = .ok (.goto (-43), 3) := by decide +kernel
theorem dX1_push_52 : decode cX1_push 52 = .ok (.iload 4, 2) := by decide +kernel
theorem dX1_push_54 : decode cX1_push 54 = .ok (.ireturn, 1) := by decide +kernel
theorem dX1_send_0 : decode cX1_send 0 = .ok (.iload_n 3, 1) := by decide +kernel
theorem dX1_send_1 : decode cX1_send 1 = .ok (.ifCond .le 24, 3) := by decide +kernel
theorem dX1_send_4 : decode cX1_send 4 = .ok (.iload_n 1, 1) := by decide +kernel
theorem dX1_send_5 : decode cX1_send 5 = .ok (.iload_n 2, 1) := by decide +kernel
theorem dX1_send_6 : decode cX1_send 6 = .ok (.if_icmp .eq 19, 3) := by decide +kernel
theorem dX1_send_9 : decode cX1_send 9 = .ok (.aload_n 0, 1) := by decide +kernel
theorem dX1_send_10 : decode cX1_send 10 = .ok (.iload_n 1, 1) := by decide +kernel
theorem dX1_send_11 : decode cX1_send 11 = .ok (.invokevirtual 55, 3) := by decide +kernel
theorem dX1_send_14 : decode cX1_send 14 = .ok (.ifCond .eq 11, 3) := by decide +kernel
theorem dX1_send_17 : decode cX1_send 17 = .ok (.aload_n 0, 1) := by decide +kernel
theorem dX1_send_18 : decode cX1_send 18 = .ok (.iload_n 2, 1) := by decide +kernel
theorem dX1_send_19 : decode cX1_send 19 = .ok (.invokevirtual 55, 3) := by decide +kernel
theorem dX1_send_22 : decode cX1_send 22 = .ok (.ifCond .ne 5, 3) := by decide +kernel
theorem dX1_send_25 : decode cX1_send 25 = .ok (.iconst 0, 1) := by decide +kernel
theorem dX1_send_26 : decode cX1_send 26 = .ok (.ireturn, 1) := by decide +kernel
theorem dX1_send_27 : decode cX1_send 27 = .ok (.aload_n 0, 1) := by decide +kernel
theorem dX1_send_28 : decode cX1_send 28 = .ok (.iload_n 1, 1) := by decide +kernel
theorem dX1_send_29 : decode cX1_send 29 = .ok (.iload_n 2, 1) := by decide +kernel
theorem dX1_send_30 : decode cX1_send 30 = .ok (.invokevirtual 81, 3) := by decide +kernel
theorem dX1_send_33 : decode cX1_send 33 = .ok (.aload_n 0, 1) := by decide +kernel
theorem dX1_send_34 : decode cX1_send 34 = .ok (.iconst 0, 1) := by decide +kernel
theorem dX1_send_35 : decode cX1_send 35 = .ok (.putfield 52, 3) := by decide +kernel
theorem dX1_send_38 : decode cX1_send 38 = .ok (.aload_n 0, 1) := by decide +kernel
theorem dX1_send_39 : decode cX1_send 39 = .ok (.getfield 36, 3) := by decide +kernel
theorem dX1_send_42 : decode cX1_send 42 = .ok (.iload_n 1, 1) := by decide +kernel
theorem dX1_send_43 : decode cX1_send 43 = .ok (.iaload, 1) := by decide +kernel
theorem dX1_send_44 : decode cX1_send 44 = .ok (.ldc 85, 2) := by decide +kernel
theorem dX1_send_46 : decode cX1_send 46 = .ok (.if_icmp .ne 5, 3) := by decide +kernel
theorem dX1_send_49 : decode cX1_send 49 = .ok (.iconst 0, 1) := by decide +kernel
theorem dX1_send_50 : decode cX1_send 50 = .ok (.ireturn, 1) := by decide +kernel
theorem dX1_send_51 : decode cX1_send 51 = .ok (.iload_n 1, 1) := by decide +kernel
theorem dX1_send_52 : decode cX1_send 52 = .ok (.istore 4, 2) := by decide +kernel
theorem dX1_send_54 : decode cX1_send 54 = .ok (.aload_n 0, 1) := by decide +kernel
theorem dX1_send_55 : decode cX1_send 55 = .ok (.getfield 36, 3) := by decide +kernel
theorem dX1_send_58 : decode cX1_send 58 = .ok (.iload_n 1, 1) := by decide +kernel
theorem dX1_send_59 : decode cX1_send 59 = .ok (.iaload, 1) := by decide +kernel
theorem dX1_send_60 : decode cX1_send 60 = .ok (.iconst 1, 1) := by decide +kernel
theorem dX1_send_61 : decode cX1_send 61 = .ok (.isub, 1) := by decide +kernel
theorem dX1_send_62 : decode cX1_send 62 = .ok (.istore 5, 2) := by decide +kernel
theorem dX1_send_64 : decode cX1_send 64 = .ok (.iload 5, 2) := by decide +kernel
theorem dX1_send_66 : decode cX1_send 66 = .ok (.ifCond .lt 89, 3) := by decide +kernel
theorem dX1_send_69 : decode cX1_send 69 = .ok (.aload_n 0, 1) := by decide +kernel
theorem dX1_send_70 : decode cX1_send 70 = .ok (.getfield 52, 3) := by decide +kernel
theorem dX1_send_73 : decode cX1_send 73 = .ok (.aload_n 0, 1) := by decide +kernel
theorem dX1_send_74 : decode cX1_send 74 = .ok (.getfield 42, 3) := by decide +kernel
theorem dX1_send_77 : decode cX1_send 77 = .ok (.arraylength, 1) := by decide +kernel
theorem dX1_send_78 : decode cX1_send 78 = .ok (.if_icmp .ge 77, 3) := by decide +kernel
theorem dX1_send_81 : decode cX1_send 81 = .ok (.aload_n 0, 1) := by decide +kernel
theorem dX1_send_82 : decode cX1_send 82 = .ok (.iload 4, 2) := by decide +kernel
theorem dX1_send_84 : decode cX1_send 84 = .ok (.iload 5, 2) := by decide +kernel
theorem dX1_send_86 : decode cX1_send 86 = .ok (.invokevirtual 86, 3) := by decide +kernel
theorem dX1_send_89 : decode cX1_send 89 = .ok (.istore 6, 2) := by decide +kernel
theorem dX1_send_91 : decode cX1_send 91 = .ok (.iload 6, 2) := by decide +kernel
theorem dX1_send_93 : decode cX1_send 93 = .ok (.iconst (-1), 1) := by decide +kernel
theorem dX1_send_94 : decode cX1_send 94 = .ok (.if_icmp .ne 5, 3) := by decide +kernel
theorem dX1_send_97 : decode cX1_send 97 = .ok (.iconst 0, 1) := by decide +kernel
theorem dX1_send_98 : decode cX1_send 98 = .ok (.ireturn, 1) := by decide +kernel
theorem dX1_send_99 : decode cX1_send 99 = .ok (.aload_n 0, 1) := by decide +kernel
theorem dX1_send_100 : decode cX1_send 100 = .ok (.getfield 42, 3) := by decide +kernel
theorem dX1_send_103 : decode cX1_send 103 = .ok (.aload_n 0, 1) := by decide +kernel
theorem dX1_send_104 : decode cX1_send 104 = .ok (.getfield 52, 3) := by decide +kernel
theorem dX1_send_107 : decode cX1_send 107 = .ok (.iload 6, 2) := by decide +kernel
theorem dX1_send_109 : decode cX1_send 109 = .ok (.iastore, 1) := by decide +kernel
theorem dX1_send_110 : decode cX1_send 110 = .ok (.aload_n 0, 1) := by decide +kernel
theorem dX1_send_111 : decode cX1_send 111 = .ok (.dup, 1) := by decide +kernel
theorem dX1_send_112 : decode cX1_send 112 = .ok (.getfield 52, 3) := by decide +kernel
theorem dX1_send_115 : decode cX1_send 115 = .ok (.iconst 1, 1) := by decide +kernel
theorem dX1_send_116 : decode cX1_send 116 = .ok (.iadd, 1) := by decide +kernel
theorem dX1_send_117 : decode cX1_send 117 = .ok (.putfield 52, 3) := by decide +kernel
theorem dX1_send_120 : decode cX1_send 120 = .ok (.iload 6, 2) := by decide +kernel
theorem dX1_send_122 : decode cX1_send 122 = .ok (.bipush 32, 2) := by decide +kernel
theorem dX1_send_124 : decode cX1_send 124 = .ok (.if_icmp .ge 13, 3) := by decide +kernel
theorem dX1_send_127 : decode cX1_send 127 = .ok (.aload_n 0, 1) := by decide +kernel
theorem dX1_send_128 : decode cX1_send 128 = .ok (.getfield 15, 3) := by decide +kernel
theorem dX1_send_131 : decode cX1_send 131 = .ok (.iload 6, 2) := by decide +kernel
theorem dX1_send_133 : decode cX1_send 133 = .ok (.iaload, 1) := by decide +kernel
theorem dX1_send_134 : decode cX1_send 134 = .ok (.goto 13, 3) := by decide +kernel
theorem dX1_send_137 : decode cX1_send 137 = .ok (.aload_n 0, 1) := by decide +kernel
theorem dX1_send_138 : decode cX1_send 138 = .ok (.getfield 11, 3) := by decide +kernel
theorem dX1_send_141 : decode cX1_send 141 = .ok (.iload 6, 2) := by decide +kernel
theorem dX1_send_143 : decode cX1_send 143 = .ok (.bipush 32, 2) := by decide +kernel
theorem dX1_send_145 : decode cX1_send 145 = .ok (.isub, 1) := by decide +kernel
theorem dX1_send_146 : decode cX1_send 146 = .ok (.iaload, 1) := by decide +kernel
theorem dX1_send_147 : decode cX1_send 147 = .ok (.istore 4, 2) := by decide +kernel
theorem dX1_send_149 : decode cX1_send 149 = .ok (.iinc 5 (-1), 3) := by decide +kernel
theorem dX1_send_152 : decode cX1_send 152 = .ok (.goto (-88), 3) := by decide +kernel
theorem dX1_send_155 : decode cX1_send 155 = .ok (.aload_n 0, 1) := by decide +kernel
theorem dX1_send_156 : decode cX1_send 156 = .ok (.iload_n 3, 1) := by decide +kernel
theorem dX1_send_157 : decode cX1_send 157 = .ok (.invokevirtual 90, 3) := by decide +kernel
theorem dX1_send_160 : decode cX1_send 160 = .ok (.ireturn, 1) := by decide +kernel
theorem dX1_setDistances_0 : decode cX1_setDistances 0 = .ok (.iconst 0, 1) := by decide +kernel
theorem dX1_setDistances_1 : decode cX1_setDistances 1 = .ok (.istore_n 3, 1) := by decide +kernel
theorem dX1_setDistances_2 : decode cX1_setDistances 2 = .ok (.iload_n 3, 1) := by decide +kernel
theorem dX1_setDistances_3 : decode cX1_setDistances 3 = .ok (.aload_n 0, 1) := by decide +kernel
theorem dX1_setDistances_4 : decode cX1_setDistances 4 = .ok (.getfield 45, 3) := by decide +kernel
theorem dX1_setDistances_7 : decode cX1_setDistances 7 = .ok (.if_icmp .ge 17, 3) := by decide +kernel
theorem dX1_setDistances_10 : decode cX1_setDistances 10 = .ok (.aload_n 0, 1) := by decide +kernel
theorem dX1_setDistances_11 : decode cX1_setDistances 11 = .ok (.getfield 36, 3) := by decide +kernel
theorem dX1_setDistances_14 : decode cX1_setDistances 14 = .ok (.iload_n 3, 1) := by decide +kernel
theorem dX1_setDistances_15 : decode cX1_setDistances 15 = .ok (.ldc 85, 2) := by decide +kernel
theorem dX1_setDistances_17 : decode cX1_setDistances 17 = .ok (.iastore, 1) := by decide +kernel
theorem dX1_setDistances_18 : decode cX1_setDistances 18 = .ok (.iinc 3 1, 3) := by decide +kernel
theorem dX1_setDistances_21 : decode cX1_setDistances 21 = .ok (.goto (-19), 3) := by decide +kernel
theorem dX1_setDistances_24 : decode cX1_setDistances 24 = .ok (.aload_n 0, 1) := by decide +kernel
theorem dX1_setDistances_25 : decode cX1_setDistances 25 = .ok (.getfield 36, 3) := by decide +kernel
theorem dX1_setDistances_28 : decode cX1_setDistances 28 = .ok (.iload_n 2, 1) := by decide +kernel
theorem dX1_setDistances_29 : decode cX1_setDistances 29 = .ok (.iconst 0, 1) := by decide +kernel
theorem dX1_setDistances_30 : decode cX1_setDistances 30 = .ok (.iastore, 1) := by decide +kernel
theorem dX1_setDistances_31 : decode cX1_setDistances 31 = .ok (.iconst 0, 1) := by decide +kernel
theorem dX1_setDistances_32 : decode cX1_setDistances 32 = .ok (.istore_n 3, 1) := by decide +kernel
theorem dX1_setDistances_33 : decode cX1_setDistances 33 = .ok (.iload_n 3, 1) := by decide +kernel
theorem dX1_setDistances_34 : decode cX1_setDistances 34 = .ok (.aload_n 0, 1) := by decide +kernel
theorem dX1_setDistances_35 : decode cX1_setDistances 35 = .ok (.getfield 45, 3) := by decide +kernel
theorem dX1_setDistances_38 : decode cX1_setDistances 38 = .ok (.if_icmp .ge 159, 3) := by decide +kernel
theorem dX1_setDistances_41 : decode cX1_setDistances 41 = .ok (.aload_n 0, 1) := by decide +kernel
theorem dX1_setDistances_42 : decode cX1_setDistances 42 = .ok (.getfield 36, 3) := by decide +kernel
theorem dX1_setDistances_45 : decode cX1_setDistances 45 = .ok (.iload_n 1, 1) := by decide +kernel
theorem dX1_setDistances_46 : decode cX1_setDistances 46 = .ok (.iaload, 1) := by decide +kernel
theorem dX1_setDistances_47 : decode cX1_setDistances 47 = .ok (.ldc 85, 2) := by decide +kernel
theorem dX1_setDistances_49 : decode cX1_setDistances 49 = .ok (.if_icmp .ne 148, 3) := by decide +kernel
theorem dX1_setDistances_52 : decode cX1_setDistances 52 = .ok (.iconst 0, 1) := by decide +kernel
theorem dX1_setDistances_53 : decode cX1_setDistances 53 = .ok (.istore 4, 2) := by decide +kernel
theorem dX1_setDistances_55 : decode cX1_setDistances 55 = .ok (.iload 4, 2) := by decide +kernel
theorem dX1_setDistances_57 : decode cX1_setDistances 57 = .ok (.aload_n 0, 1) := by decide +kernel
theorem dX1_setDistances_58 : decode cX1_setDistances 58 = .ok (.getfield 49, 3) := by decide +kernel
theorem dX1_setDistances_61 : decode cX1_setDistances 61 = .ok (.if_icmp .ge 130, 3) := by decide +kernel
theorem dX1_setDistances_64 : decode cX1_setDistances 64 = .ok (.aload_n 0, 1) := by decide +kernel
theorem dX1_setDistances_65 : decode cX1_setDistances 65 = .ok (.getfield 11, 3) := by decide +kernel
theorem dX1_setDistances_68 : decode cX1_setDistances 68 = .ok (.iload 4, 2) := by decide +kernel
theorem dX1_setDistances_70 : decode cX1_setDistances 70 = .ok (.iaload, 1) := by decide +kernel
theorem dX1_setDistances_71 : decode cX1_setDistances 71 = .ok (.istore 5, 2) := by decide +kernel
theorem dX1_setDistances_73 : decode cX1_setDistances 73 = .ok (.aload_n 0, 1) := by decide +kernel
theorem dX1_setDistances_74 : decode cX1_setDistances 74 = .ok (.getfield 15, 3) := by decide +kernel
theorem dX1_setDistances_77 : decode cX1_setDistances 77 = .ok (.iload 4, 2) := by decide +kernel
theorem dX1_setDistances_79 : decode cX1_setDistances 79 = .ok (.iaload, 1) := by decide +kernel
theorem dX1_setDistances_80 : decode cX1_setDistances 80 = .ok (.istore 6, 2) := by decide +kernel
theorem dX1_setDistances_82 : decode cX1_setDistances 82 = .ok (.aload_n 0, 1) := by decide +kernel
theorem dX1_setDistances_83 : decode cX1_setDistances 83 = .ok (.getfield 36, 3) := by decide +kernel
theorem dX1_setDistances_86 : decode cX1_setDistances 86 = .ok (.iload 6, 2) := by decide +kernel
theorem dX1_setDistances_88 : decode cX1_setDistances 88 = .ok (.iaload, 1) := by decide +kernel
theorem dX1_setDistances_89 : decode cX1_setDistances 89 = .ok (.iload_n 3, 1) := by decide +kernel
theorem dX1_setDistances_90 : decode cX1_setDistances 90 = .ok (.if_icmp .ne 45, 3) := by decide +kernel
theorem dX1_setDistances_93 : decode cX1_setDistances 93 = .ok (.aload_n 0, 1) := by decide +kernel
theorem dX1_setDistances_94 : decode cX1_setDistances 94 = .ok (.getfield 36, 3) := by decide +kernel
theorem dX1_setDistances_97 : decode cX1_setDistances 97 = .ok (.iload 5, 2) := by decide +kernel
theorem dX1_setDistances_99 : decode cX1_setDistances 99 = .ok (.iaload, 1) := by decide +kernel
theorem dX1_setDistances_100 : decode cX1_setDistances 100 = .ok (.ldc 85, 2) := by decide +kernel
theorem dX1_setDistances_102 : decode cX1_setDistances 102 = .ok (.if_icmp .ne 33, 3) := by decide +kernel
theorem dX1_setDistances_105 : decode cX1_setDistances 105 = .ok (.aload_n 0, 1) := by decide +kernel
theorem dX1_setDistances_106 : decode cX1_setDistances 106 = .ok (.getfield 33, 3) := by decide +kernel
theorem dX1_setDistances_109 : decode cX1_setDistances 109 = .ok (.iload 4, 2) := by decide +kernel
theorem dX1_setDistances_111 : decode cX1_setDistances 111 = .ok (.iaload, 1) := by decide +kernel
theorem dX1_setDistances_112 : decode cX1_setDistances 112 = .ok (.aload_n 0, 1) := by decide +kernel
theorem dX1_setDistances_113 : decode cX1_setDistances 113 = .ok (.getfield 30, 3) := by decide +kernel
theorem dX1_setDistances_116 : decode cX1_setDistances 116 = .ok (.iload 4, 2) := by decide +kernel
theorem dX1_setDistances_118 : decode cX1_setDistances 118 = .ok (.iaload, 1) := by decide +kernel
theorem dX1_setDistances_119 : decode cX1_setDistances 119 = .ok (.if_icmp .ge 16, 3) := by decide +kernel
theorem dX1_setDistances_122 : decode cX1_setDistances 122 = .ok (.aload_n 0, 1) := by decide +kernel
theorem dX1_setDistances_123 : decode cX1_setDistances 123 = .ok (.getfield 36, 3) := by decide +kernel
theorem dX1_setDistances_126 : decode cX1_setDistances 126 = .ok (.iload 5, 2) := by decide +kernel
theorem dX1_setDistances_128 : decode cX1_setDistances 128 = .ok (.iload_n 3, 1) := by decide +kernel
theorem dX1_setDistances_129 : decode cX1_setDistances 129 = .ok (.iconst 1, 1) := by decide +kernel
theorem dX1_setDistances_130 : decode cX1_setDistances 130 = .ok (.iadd, 1) := by decide +kernel
theorem dX1_setDistances_131 : decode cX1_setDistances 131 = .ok (.iastore, 1) := by decide +kernel
theorem dX1_setDistances_132 : decode cX1_setDistances 132 = .ok (.goto 53, 3) := by decide +kernel
theorem dX1_setDistances_135 : decode cX1_setDistances 135 = .ok (.aload_n 0, 1) := by decide +kernel
theorem dX1_setDistances_136 : decode cX1_setDistances 136 = .ok (.getfield 36, 3) := by decide +kernel
theorem dX1_setDistances_139 : decode cX1_setDistances 139 = .ok (.iload 5, 2) := by decide +kernel
theorem dX1_setDistances_141 : decode cX1_setDistances 141 = .ok (.iaload, 1) := by decide +kernel
theorem dX1_setDistances_142 : decode cX1_setDistances 142 = .ok (.iload_n 3, 1) := by decide +kernel
theorem dX1_setDistances_143 : decode cX1_setDistances 143 = .ok (.if_icmp .ne 42, 3) := by decide +kernel
theorem dX1_setDistances_146 : decode cX1_setDistances 146 = .ok (.aload_n 0, 1) := by decide +kernel
theorem dX1_setDistances_147 : decode cX1_setDistances 147 = .ok (.getfield 36, 3) := by decide +kernel
theorem dX1_setDistances_150 : decode cX1_setDistances 150 = .ok (.iload 6, 2) := by decide +kernel
theorem dX1_setDistances_152 : decode cX1_setDistances 152 = .ok (.iaload, 1) := by decide +kernel
theorem dX1_setDistances_153 : decode cX1_setDistances 153 = .ok (.ldc 85, 2) := by decide +kernel
theorem dX1_setDistances_155 : decode cX1_setDistances 155 = .ok (.if_icmp .ne 30, 3) := by decide +kernel
theorem dX1_setDistances_158 : decode cX1_setDistances 158 = .ok (.aload_n 0, 1) := by decide +kernel
theorem dX1_setDistances_159 : decode cX1_setDistances 159 = .ok (.getfield 33, 3) := by decide +kernel
theorem dX1_setDistances_162 : decode cX1_setDistances 162 = .ok (.iload 4, 2) := by decide +kernel
theorem dX1_setDistances_164 : decode cX1_setDistances 164 = .ok (.iaload, 1) := by decide +kernel
theorem dX1_setDistances_165 : decode cX1_setDistances 165 = .ok (.aload_n 0, 1) := by decide +kernel
theorem dX1_setDistances_166 : decode cX1_setDistances 166 = .ok (.getfield 27, 3) := by decide +kernel
theorem dX1_setDistances_169 : decode cX1_setDistances 169 = .ok (.iload 4, 2) := by decide +kernel
theorem dX1_setDistances_171 : decode cX1_setDistances 171 = .ok (.iaload, 1) := by decide +kernel
theorem dX1_setDistances_172 : decode cX1_setDistances 172 = .ok (.if_icmp .le 13, 3) := by decide +kernel
theorem dX1_setDistances_175 : decode cX1_setDistances 175 = .ok (.aload_n 0, 1) := by decide +kernel
theorem dX1_setDistances_176 : decode cX1_setDistances 176 = .ok (.getfield 36, 3) := by decide +kernel
theorem dX1_setDistances_179 : decode cX1_setDistances 179 = .ok (.iload 6, 2) := by decide +kernel
theorem dX1_setDistances_181 : decode cX1_setDistances 181 = .ok (.iload_n 3, 1) := by decide +kernel
theorem dX1_setDistances_182 : decode cX1_setDistances 182 = .ok (.iconst 1, 1) := by decide +kernel
theorem dX1_setDistances_183 : decode cX1_setDistances 183 = .ok (.iadd, 1) := by decide +kernel
theorem dX1_setDistances_184 : decode cX1_setDistances 184 = .ok (.iastore, 1) := by decide +kernel
theorem dX1_setDistances_185 : decode cX1_setDistances 185 = .ok (.iinc 4 1, 3) := by decide +kernel
theorem dX1_setDistances_188 : decode cX1_setDistances 188 = .ok (.goto (-133), 3) := by decide +kernel
theorem dX1_setDistances_191 : decode cX1_setDistances 191 = .ok (.iinc 3 1, 3) := by decide +kernel
theorem dX1_setDistances_194 : decode cX1_setDistances 194 = .ok (.goto (-161), 3) := by decide +kernel
theorem dX1_setDistances_197 : decode cX1_setDistances 197 = .ok (.return_, 1) := by decide +kernel
theorem dX1_leastSign_0 : decode cX1_leastSign 0 = .ok (.iconst (-1), 1) := by decide +kernel
theorem dX1_leastSign_1 : decode cX1_leastSign 1 = .ok (.istore_n 3, 1) := by decide +kernel
theorem dX1_leastSign_2 : decode cX1_leastSign 2 = .ok (.iconst 0, 1) := by decide +kernel
theorem dX1_leastSign_3 : decode cX1_leastSign 3 = .ok (.istore 4, 2) := by decide +kernel
theorem dX1_leastSign_5 : decode cX1_leastSign 5 = .ok (.iload 4, 2) := by decide +kernel
theorem dX1_leastSign_7 : decode cX1_leastSign 7 = .ok (.aload_n 0, 1) := by decide +kernel
theorem dX1_leastSign_8 : decode cX1_leastSign 8 = .ok (.getfield 49, 3) := by decide +kernel
theorem dX1_leastSign_11 : decode cX1_leastSign 11 = .ok (.if_icmp .ge 111, 3) := by decide +kernel
theorem dX1_leastSign_14 : decode cX1_leastSign 14 = .ok (.aload_n 0, 1) := by decide +kernel
theorem dX1_leastSign_15 : decode cX1_leastSign 15 = .ok (.getfield 11, 3) := by decide +kernel
theorem dX1_leastSign_18 : decode cX1_leastSign 18 = .ok (.iload 4, 2) := by decide +kernel
theorem dX1_leastSign_20 : decode cX1_leastSign 20 = .ok (.iaload, 1) := by decide +kernel
theorem dX1_leastSign_21 : decode cX1_leastSign 21 = .ok (.iload_n 1, 1) := by decide +kernel
theorem dX1_leastSign_22 : decode cX1_leastSign 22 = .ok (.if_icmp .ne 39, 3) := by decide +kernel
theorem dX1_leastSign_25 : decode cX1_leastSign 25 = .ok (.aload_n 0, 1) := by decide +kernel
theorem dX1_leastSign_26 : decode cX1_leastSign 26 = .ok (.getfield 36, 3) := by decide +kernel
theorem dX1_leastSign_29 : decode cX1_leastSign 29 = .ok (.aload_n 0, 1) := by decide +kernel
theorem dX1_leastSign_30 : decode cX1_leastSign 30 = .ok (.getfield 15, 3) := by decide +kernel
theorem dX1_leastSign_33 : decode cX1_leastSign 33 = .ok (.iload 4, 2) := by decide +kernel
theorem dX1_leastSign_35 : decode cX1_leastSign 35 = .ok (.iaload, 1) := by decide +kernel
theorem dX1_leastSign_36 : decode cX1_leastSign 36 = .ok (.iaload, 1) := by decide +kernel
theorem dX1_leastSign_37 : decode cX1_leastSign 37 = .ok (.iload_n 2, 1) := by decide +kernel
theorem dX1_leastSign_38 : decode cX1_leastSign 38 = .ok (.if_icmp .ne 23, 3) := by decide +kernel
theorem dX1_leastSign_41 : decode cX1_leastSign 41 = .ok (.aload_n 0, 1) := by decide +kernel
theorem dX1_leastSign_42 : decode cX1_leastSign 42 = .ok (.getfield 33, 3) := by decide +kernel
theorem dX1_leastSign_45 : decode cX1_leastSign 45 = .ok (.iload 4, 2) := by decide +kernel
theorem dX1_leastSign_47 : decode cX1_leastSign 47 = .ok (.iaload, 1) := by decide +kernel
theorem dX1_leastSign_48 : decode cX1_leastSign 48 = .ok (.aload_n 0, 1) := by decide +kernel
theorem dX1_leastSign_49 : decode cX1_leastSign 49 = .ok (.getfield 30, 3) := by decide +kernel
theorem dX1_leastSign_52 : decode cX1_leastSign 52 = .ok (.iload 4, 2) := by decide +kernel
theorem dX1_leastSign_54 : decode cX1_leastSign 54 = .ok (.iaload, 1) := by decide +kernel
theorem dX1_leastSign_55 : decode cX1_leastSign 55 = .ok (.if_icmp .ge 6, 3) := by decide +kernel
theorem dX1_leastSign_58 : decode cX1_leastSign 58 = .ok (.iload 4, 2) := by decide +kernel
theorem dX1_leastSign_60 : decode cX1_leastSign 60 = .ok (.ireturn, 1) := by decide +kernel
theorem dX1_leastSign_61 : decode cX1_leastSign 61 = .ok (.iload_n 3, 1) := by decide +kernel
theorem dX1_leastSign_62 : decode cX1_leastSign 62 = .ok (.iconst (-1), 1) := by decide +kernel
theorem dX1_leastSign_63 : decode cX1_leastSign 63 = .ok (.if_icmp .ne 53, 3) := by decide +kernel
theorem dX1_leastSign_66 : decode cX1_leastSign 66 = .ok (.aload_n 0, 1) := by decide +kernel
theorem dX1_leastSign_67 : decode cX1_leastSign 67 = .ok (.getfield 15, 3) := by decide +kernel
theorem dX1_leastSign_70 : decode cX1_leastSign 70 = .ok (.iload 4, 2) := by decide +kernel
theorem dX1_leastSign_72 : decode cX1_leastSign 72 = .ok (.iaload, 1) := by decide +kernel
theorem dX1_leastSign_73 : decode cX1_leastSign 73 = .ok (.iload_n 1, 1) := by decide +kernel
theorem dX1_leastSign_74 : decode cX1_leastSign 74 = .ok (.if_icmp .ne 42, 3) := by decide +kernel
theorem dX1_leastSign_77 : decode cX1_leastSign 77 = .ok (.aload_n 0, 1) := by decide +kernel
theorem dX1_leastSign_78 : decode cX1_leastSign 78 = .ok (.getfield 36, 3) := by decide +kernel
theorem dX1_leastSign_81 : decode cX1_leastSign 81 = .ok (.aload_n 0, 1) := by decide +kernel
theorem dX1_leastSign_82 : decode cX1_leastSign 82 = .ok (.getfield 11, 3) := by decide +kernel
theorem dX1_leastSign_85 : decode cX1_leastSign 85 = .ok (.iload 4, 2) := by decide +kernel
theorem dX1_leastSign_87 : decode cX1_leastSign 87 = .ok (.iaload, 1) := by decide +kernel
theorem dX1_leastSign_88 : decode cX1_leastSign 88 = .ok (.iaload, 1) := by decide +kernel
theorem dX1_leastSign_89 : decode cX1_leastSign 89 = .ok (.iload_n 2, 1) := by decide +kernel
theorem dX1_leastSign_90 : decode cX1_leastSign 90 = .ok (.if_icmp .ne 26, 3) := by decide +kernel
theorem dX1_leastSign_93 : decode cX1_leastSign 93 = .ok (.aload_n 0, 1) := by decide +kernel
theorem dX1_leastSign_94 : decode cX1_leastSign 94 = .ok (.getfield 33, 3) := by decide +kernel
theorem dX1_leastSign_97 : decode cX1_leastSign 97 = .ok (.iload 4, 2) := by decide +kernel
theorem dX1_leastSign_99 : decode cX1_leastSign 99 = .ok (.iaload, 1) := by decide +kernel
theorem dX1_leastSign_100 : decode cX1_leastSign 100 = .ok (.aload_n 0, 1) := by decide +kernel
theorem dX1_leastSign_101 : decode cX1_leastSign 101 = .ok (.getfield 27, 3) := by decide +kernel
theorem dX1_leastSign_104 : decode cX1_leastSign 104 = .ok (.iload 4, 2) := by decide +kernel
theorem dX1_leastSign_106 : decode cX1_leastSign 106 = .ok (.iaload, 1) := by decide +kernel
theorem dX1_leastSign_107 : decode cX1_leastSign 107 = .ok (.if_icmp .le 9, 3) := by decide +kernel
theorem dX1_leastSign_110 : decode cX1_leastSign 110 = .ok (.iload 4, 2) := by decide +kernel
theorem dX1_leastSign_112 : decode cX1_leastSign 112 = .ok (.bipush 32, 2) := by decide +kernel
theorem dX1_leastSign_114 : decode cX1_leastSign 114 = .ok (.iadd, 1) := by decide +kernel
theorem dX1_leastSign_115 : decode cX1_leastSign 115 = .ok (.istore_n 3, 1) := by decide +kernel
theorem dX1_leastSign_116 : decode cX1_leastSign 116 = .ok (.iinc 4 1, 3) := by decide +kernel
theorem dX1_leastSign_119 : decode cX1_leastSign 119 = .ok (.goto (-114), 3) := by decide +kernel
theorem dX1_leastSign_122 : decode cX1_leastSign 122 = .ok (.iload_n 3, 1) := by decide +kernel
theorem dX1_leastSign_123 : decode cX1_leastSign 123 = .ok (.ireturn, 1) := by decide +kernel
theorem dX1_shift_0 : decode cX1_shift 0 = .ok (.iload_n 1, 1) := by decide +kernel
theorem dX1_shift_1 : decode cX1_shift 1 = .ok (.istore_n 2, 1) := by decide +kernel
theorem dX1_shift_2 : decode cX1_shift 2 = .ok (.iconst 0, 1) := by decide +kernel
theorem dX1_shift_3 : decode cX1_shift 3 = .ok (.istore_n 3, 1) := by decide +kernel
theorem dX1_shift_4 : decode cX1_shift 4 = .ok (.iload_n 3, 1) := by decide +kernel
theorem dX1_shift_5 : decode cX1_shift 5 = .ok (.aload_n 0, 1) := by decide +kernel
theorem dX1_shift_6 : decode cX1_shift 6 = .ok (.getfield 52, 3) := by decide +kernel
theorem dX1_shift_9 : decode cX1_shift 9 = .ok (.if_icmp .ge 78, 3) := by decide +kernel
theorem dX1_shift_12 : decode cX1_shift 12 = .ok (.aload_n 0, 1) := by decide +kernel
theorem dX1_shift_13 : decode cX1_shift 13 = .ok (.getfield 42, 3) := by decide +kernel
theorem dX1_shift_16 : decode cX1_shift 16 = .ok (.iload_n 3, 1) := by decide +kernel
theorem dX1_shift_17 : decode cX1_shift 17 = .ok (.iaload, 1) := by decide +kernel
theorem dX1_shift_18 : decode cX1_shift 18 = .ok (.istore 4, 2) := by decide +kernel
theorem dX1_shift_20 : decode cX1_shift 20 = .ok (.iload 4, 2) := by decide +kernel
theorem dX1_shift_22 : decode cX1_shift 22 = .ok (.bipush 32, 2) := by decide +kernel
theorem dX1_shift_24 : decode cX1_shift 24 = .ok (.if_icmp .ge 21, 3) := by decide +kernel
theorem dX1_shift_27 : decode cX1_shift 27 = .ok (.aload_n 0, 1) := by decide +kernel
theorem dX1_shift_28 : decode cX1_shift 28 = .ok (.getfield 30, 3) := by decide +kernel
theorem dX1_shift_31 : decode cX1_shift 31 = .ok (.iload 4, 2) := by decide +kernel
theorem dX1_shift_33 : decode cX1_shift 33 = .ok (.iaload, 1) := by decide +kernel
theorem dX1_shift_34 : decode cX1_shift 34 = .ok (.aload_n 0, 1) := by decide +kernel
theorem dX1_shift_35 : decode cX1_shift 35 = .ok (.getfield 33, 3) := by decide +kernel
theorem dX1_shift_38 : decode cX1_shift 38 = .ok (.iload 4, 2) := by decide +kernel
theorem dX1_shift_40 : decode cX1_shift 40 = .ok (.iaload, 1) := by decide +kernel
theorem dX1_shift_41 : decode cX1_shift 41 = .ok (.isub, 1) := by decide +kernel
theorem dX1_shift_42 : decode cX1_shift 42 = .ok (.goto 24, 3) := by decide +kernel
theorem dX1_shift_45 : decode cX1_shift 45 = .ok (.aload_n 0, 1) := by decide +kernel
theorem dX1_shift_46 : decode cX1_shift 46 = .ok (.getfield 33, 3) := by decide +kernel
theorem dX1_shift_49 : decode cX1_shift 49 = .ok (.iload 4, 2) := by decide +kernel
theorem dX1_shift_51 : decode cX1_shift 51 = .ok (.bipush 32, 2) := by decide +kernel
theorem dX1_shift_53 : decode cX1_shift 53 = .ok (.isub, 1) := by decide +kernel
theorem dX1_shift_54 : decode cX1_shift 54 = .ok (.iaload, 1) := by decide +kernel
theorem dX1_shift_55 : decode cX1_shift 55 = .ok (.aload_n 0, 1) := by decide +kernel
theorem dX1_shift_56 : decode cX1_shift 56 = .ok (.getfield 27, 3) := by decide +kernel
theorem dX1_shift_59 : decode cX1_shift 59 = .ok (.iload 4, 2) := by decide +kernel
theorem dX1_shift_61 : decode cX1_shift 61 = .ok (.bipush 32, 2) := by decide +kernel
theorem dX1_shift_63 : decode cX1_shift 63 = .ok (.isub, 1) := by decide +kernel
theorem dX1_shift_64 : decode cX1_shift 64 = .ok (.iaload, 1) := by decide +kernel
theorem dX1_shift_65 : decode cX1_shift 65 = .ok (.isub, 1) := by decide +kernel
theorem dX1_shift_66 : decode cX1_shift 66 = .ok (.istore 5, 2) := by decide +kernel
theorem dX1_shift_68 : decode cX1_shift 68 = .ok (.iload 5, 2) := by decide +kernel
theorem dX1_shift_70 : decode cX1_shift 70 = .ok (.iload_n 2, 1) := by decide +kernel
theorem dX1_shift_71 : decode cX1_shift 71 = .ok (.if_icmp .ge 8, 3) := by decide +kernel
theorem dX1_shift_74 : decode cX1_shift 74 = .ok (.iload 5, 2) := by decide +kernel
theorem dX1_shift_76 : decode cX1_shift 76 = .ok (.goto 4, 3) := by decide +kernel
theorem dX1_shift_79 : decode cX1_shift 79 = .ok (.iload_n 2, 1) := by decide +kernel
theorem dX1_shift_80 : decode cX1_shift 80 = .ok (.istore_n 2, 1) := by decide +kernel
theorem dX1_shift_81 : decode cX1_shift 81 = .ok (.iinc 3 1, 3) := by decide +kernel
theorem dX1_shift_84 : decode cX1_shift 84 = .ok (.goto (-80), 3) := by decide +kernel
theorem dX1_shift_87 : decode cX1_shift 87 = .ok (.iconst 0, 1) := by decide +kernel
theorem dX1_shift_88 : decode cX1_shift 88 = .ok (.istore_n 3, 1) := by decide +kernel
theorem dX1_shift_89 : decode cX1_shift 89 = .ok (.iload_n 3, 1) := by decide +kernel
theorem dX1_shift_90 : decode cX1_shift 90 = .ok (.aload_n 0, 1) := by decide +kernel
theorem dX1_shift_91 : decode cX1_shift 91 = .ok (.getfield 52, 3) := by decide +kernel
theorem dX1_shift_94 : decode cX1_shift 94 = .ok (.if_icmp .ge 52, 3) := by decide +kernel
theorem dX1_shift_97 : decode cX1_shift 97 = .ok (.aload_n 0, 1) := by decide +kernel
theorem dX1_shift_98 : decode cX1_shift 98 = .ok (.getfield 42, 3) := by decide +kernel
theorem dX1_shift_101 : decode cX1_shift 101 = .ok (.iload_n 3, 1) := by decide +kernel
theorem dX1_shift_102 : decode cX1_shift 102 = .ok (.iaload, 1) := by decide +kernel
theorem dX1_shift_103 : decode cX1_shift 103 = .ok (.istore 4, 2) := by decide +kernel
theorem dX1_shift_105 : decode cX1_shift 105 = .ok (.iload 4, 2) := by decide +kernel
theorem dX1_shift_107 : decode cX1_shift 107 = .ok (.bipush 32, 2) := by decide +kernel
theorem dX1_shift_109 : decode cX1_shift 109 = .ok (.if_icmp .ge 17, 3) := by decide +kernel
theorem dX1_shift_112 : decode cX1_shift 112 = .ok (.aload_n 0, 1) := by decide +kernel
theorem dX1_shift_113 : decode cX1_shift 113 = .ok (.getfield 33, 3) := by decide +kernel
theorem dX1_shift_116 : decode cX1_shift 116 = .ok (.iload 4, 2) := by decide +kernel
theorem dX1_shift_118 : decode cX1_shift 118 = .ok (.dup2, 1) := by decide +kernel
theorem dX1_shift_119 : decode cX1_shift 119 = .ok (.iaload, 1) := by decide +kernel
theorem dX1_shift_120 : decode cX1_shift 120 = .ok (.iload_n 2, 1) := by decide +kernel
theorem dX1_shift_121 : decode cX1_shift 121 = .ok (.iadd, 1) := by decide +kernel
theorem dX1_shift_122 : decode cX1_shift 122 = .ok (.iastore, 1) := by decide +kernel
theorem dX1_shift_123 : decode cX1_shift 123 = .ok (.goto 17, 3) := by decide +kernel
theorem dX1_shift_126 : decode cX1_shift 126 = .ok (.aload_n 0, 1) := by decide +kernel
theorem dX1_shift_127 : decode cX1_shift 127 = .ok (.getfield 33, 3) := by decide +kernel
theorem dX1_shift_130 : decode cX1_shift 130 = .ok (.iload 4, 2) := by decide +kernel
theorem dX1_shift_132 : decode cX1_shift 132 = .ok (.bipush 32, 2) := by decide +kernel
theorem dX1_shift_134 : decode cX1_shift 134 = .ok (.isub, 1) := by decide +kernel
theorem dX1_shift_135 : decode cX1_shift 135 = .ok (.dup2, 1) := by decide +kernel
theorem dX1_shift_136 : decode cX1_shift 136 = .ok (.iaload, 1) := by decide +kernel
theorem dX1_shift_137 : decode cX1_shift 137 = .ok (.iload_n 2, 1) := by decide +kernel
theorem dX1_shift_138 : decode cX1_shift 138 = .ok (.isub, 1) := by decide +kernel
theorem dX1_shift_139 : decode cX1_shift 139 = .ok (.iastore, 1) := by decide +kernel
theorem dX1_shift_140 : decode cX1_shift 140 = .ok (.iinc 3 1, 3) := by decide +kernel
theorem dX1_shift_143 : decode cX1_shift 143 = .ok (.goto (-54), 3) := by decide +kernel
theorem dX1_shift_146 : decode cX1_shift 146 = .ok (.iload_n 2, 1) := by decide +kernel
theorem dX1_shift_147 : decode cX1_shift 147 = .ok (.ireturn, 1) := by decide +kernel
theorem dX1_signAt_0 : decode cX1_signAt 0 = .ok (.iload_n 1, 1) := by decide +kernel
theorem dX1_signAt_1 : decode cX1_signAt 1 = .ok (.ifCond .lt 20, 3) := by decide +kernel
theorem dX1_signAt_4 : decode cX1_signAt 4 = .ok (.iload_n 1, 1) := by decide +kernel
theorem dX1_signAt_5 : decode cX1_signAt 5 = .ok (.aload_n 0, 1) := by decide +kernel
theorem dX1_signAt_6 : decode cX1_signAt 6 = .ok (.getfield 52, 3) := by decide +kernel
theorem dX1_signAt_9 : decode cX1_signAt 9 = .ok (.if_icmp .ge 12, 3) := by decide +kernel
theorem dX1_signAt_12 : decode cX1_signAt 12 = .ok (.aload_n 0, 1) := by decide +kernel
theorem dX1_signAt_13 : decode cX1_signAt 13 = .ok (.getfield 42, 3) := by decide +kernel
theorem dX1_signAt_16 : decode cX1_signAt 16 = .ok (.iload_n 1, 1) := by decide +kernel
theorem dX1_signAt_17 : decode cX1_signAt 17 = .ok (.iaload, 1) := by decide +kernel
theorem dX1_signAt_18 : decode cX1_signAt 18 = .ok (.goto 4, 3) := by decide +kernel
theorem dX1_signAt_21 : decode cX1_signAt 21 = .ok (.iconst (-1), 1) := by decide +kernel
theorem dX1_signAt_22 : decode cX1_signAt 22 = .ok (.ireturn, 1) := by decide +kernel
theorem dX1_cheapen_0 : decode cX1_cheapen 0 = .ok (.iconst 0, 1) := by decide +kernel
theorem dX1_cheapen_1 : decode cX1_cheapen 1 = .ok (.istore_n 1, 1) := by decide +kernel
theorem dX1_cheapen_2 : decode cX1_cheapen 2 = .ok (.iload_n 1, 1) := by decide +kernel
theorem dX1_cheapen_3 : decode cX1_cheapen 3 = .ok (.ldc 77, 2) := by decide +kernel
theorem dX1_cheapen_5 : decode cX1_cheapen 5 = .ok (.if_icmp .ge 37, 3) := by decide +kernel
theorem dX1_cheapen_8 : decode cX1_cheapen 8 = .ok (.aload_n 0, 1) := by decide +kernel
theorem dX1_cheapen_9 : decode cX1_cheapen 9 = .ok (.invokevirtual 94, 3) := by decide +kernel
theorem dX1_cheapen_12 : decode cX1_cheapen 12 = .ok (.istore_n 2, 1) := by decide +kernel
theorem dX1_cheapen_13 : decode cX1_cheapen 13 = .ok (.iload_n 2, 1) := by decide +kernel
theorem dX1_cheapen_14 : decode cX1_cheapen 14 = .ok (.iconst (-1), 1) := by decide +kernel
theorem dX1_cheapen_15 : decode cX1_cheapen 15 = .ok (.if_icmp .eq 20, 3) := by decide +kernel
theorem dX1_cheapen_18 : decode cX1_cheapen 18 = .ok (.aload_n 0, 1) := by decide +kernel
theorem dX1_cheapen_19 : decode cX1_cheapen 19 = .ok (.iload_n 2, 1) := by decide +kernel
theorem dX1_cheapen_20 : decode cX1_cheapen 20 = .ok (.invokevirtual 98, 3) := by decide +kernel
theorem dX1_cheapen_23 : decode cX1_cheapen 23 = .ok (.ifCond .eq 12, 3) := by decide +kernel
theorem dX1_cheapen_26 : decode cX1_cheapen 26 = .ok (.aload_n 0, 1) := by decide +kernel
theorem dX1_cheapen_27 : decode cX1_cheapen 27 = .ok (.ldc 77, 2) := by decide +kernel
theorem dX1_cheapen_29 : decode cX1_cheapen 29 = .ok (.invokevirtual 90, 3) := by decide +kernel
theorem dX1_cheapen_32 : decode cX1_cheapen 32 = .ok (.ifCond .gt 4, 3) := by decide +kernel
theorem dX1_cheapen_35 : decode cX1_cheapen 35 = .ok (.return_, 1) := by decide +kernel
theorem dX1_cheapen_36 : decode cX1_cheapen 36 = .ok (.iinc 1 1, 3) := by decide +kernel
theorem dX1_cheapen_39 : decode cX1_cheapen 39 = .ok (.goto (-37), 3) := by decide +kernel
theorem dX1_cheapen_42 : decode cX1_cheapen 42 = .ok (.return_, 1) := by decide +kernel
theorem dX1_lowerAll_0 : decode cX1_lowerAll 0 = .ok (.iconst 0, 1) := by decide +kernel
theorem dX1_lowerAll_1 : decode cX1_lowerAll 1 = .ok (.istore_n 1, 1) := by decide +kernel
theorem dX1_lowerAll_2 : decode cX1_lowerAll 2 = .ok (.iload_n 1, 1) := by decide +kernel
theorem dX1_lowerAll_3 : decode cX1_lowerAll 3 = .ok (.aload_n 0, 1) := by decide +kernel
theorem dX1_lowerAll_4 : decode cX1_lowerAll 4 = .ok (.getfield 45, 3) := by decide +kernel
theorem dX1_lowerAll_7 : decode cX1_lowerAll 7 = .ok (.if_icmp .ge 23, 3) := by decide +kernel
theorem dX1_lowerAll_10 : decode cX1_lowerAll 10 = .ok (.aload_n 0, 1) := by decide +kernel
theorem dX1_lowerAll_11 : decode cX1_lowerAll 11 = .ok (.getfield 36, 3) := by decide +kernel
theorem dX1_lowerAll_14 : decode cX1_lowerAll 14 = .ok (.iload_n 1, 1) := by decide +kernel
theorem dX1_lowerAll_15 : decode cX1_lowerAll 15 = .ok (.iconst 0, 1) := by decide +kernel
theorem dX1_lowerAll_16 : decode cX1_lowerAll 16 = .ok (.iastore, 1) := by decide +kernel
theorem dX1_lowerAll_17 : decode cX1_lowerAll 17 = .ok (.aload_n 0, 1) := by decide +kernel
theorem dX1_lowerAll_18 : decode cX1_lowerAll 18 = .ok (.getfield 39, 3) := by decide +kernel
theorem dX1_lowerAll_21 : decode cX1_lowerAll 21 = .ok (.iload_n 1, 1) := by decide +kernel
theorem dX1_lowerAll_22 : decode cX1_lowerAll 22 = .ok (.iconst (-1), 1) := by decide +kernel
theorem dX1_lowerAll_23 : decode cX1_lowerAll 23 = .ok (.iastore, 1) := by decide +kernel
theorem dX1_lowerAll_24 : decode cX1_lowerAll 24 = .ok (.iinc 1 1, 3) := by decide +kernel
theorem dX1_lowerAll_27 : decode cX1_lowerAll 27 = .ok (.goto (-25), 3) := by decide +kernel
theorem dX1_lowerAll_30 : decode cX1_lowerAll 30 = .ok (.iconst (-1), 1) := by decide +kernel
theorem dX1_lowerAll_31 : decode cX1_lowerAll 31 = .ok (.istore_n 1, 1) := by decide +kernel
theorem dX1_lowerAll_32 : decode cX1_lowerAll 32 = .ok (.iconst 0, 1) := by decide +kernel
theorem dX1_lowerAll_33 : decode cX1_lowerAll 33 = .ok (.istore_n 2, 1) := by decide +kernel
theorem dX1_lowerAll_34 : decode cX1_lowerAll 34 = .ok (.iload_n 2, 1) := by decide +kernel
theorem dX1_lowerAll_35 : decode cX1_lowerAll 35 = .ok (.aload_n 0, 1) := by decide +kernel
theorem dX1_lowerAll_36 : decode cX1_lowerAll 36 = .ok (.getfield 45, 3) := by decide +kernel
theorem dX1_lowerAll_39 : decode cX1_lowerAll 39 = .ok (.if_icmp .ge 21, 3) := by decide +kernel
theorem dX1_lowerAll_42 : decode cX1_lowerAll 42 = .ok (.aload_n 0, 1) := by decide +kernel
theorem dX1_lowerAll_43 : decode cX1_lowerAll 43 = .ok (.invokevirtual 101, 3) := by decide +kernel
theorem dX1_lowerAll_46 : decode cX1_lowerAll 46 = .ok (.istore_n 1, 1) := by decide +kernel
theorem dX1_lowerAll_47 : decode cX1_lowerAll 47 = .ok (.iload_n 1, 1) := by decide +kernel
theorem dX1_lowerAll_48 : decode cX1_lowerAll 48 = .ok (.iconst (-1), 1) := by decide +kernel
theorem dX1_lowerAll_49 : decode cX1_lowerAll 49 = .ok (.if_icmp .ne 5, 3) := by decide +kernel
theorem dX1_lowerAll_52 : decode cX1_lowerAll 52 = .ok (.iconst (-1), 1) := by decide +kernel
theorem dX1_lowerAll_53 : decode cX1_lowerAll 53 = .ok (.ireturn, 1) := by decide +kernel
theorem dX1_lowerAll_54 : decode cX1_lowerAll 54 = .ok (.iinc 2 1, 3) := by decide +kernel
theorem dX1_lowerAll_57 : decode cX1_lowerAll 57 = .ok (.goto (-23), 3) := by decide +kernel
theorem dX1_lowerAll_60 : decode cX1_lowerAll 60 = .ok (.iload_n 1, 1) := by decide +kernel
theorem dX1_lowerAll_61 : decode cX1_lowerAll 61 = .ok (.ireturn, 1) := by decide +kernel
theorem dX1_relax_0 : decode cX1_relax 0 = .ok (.iconst (-1), 1) := by decide +kernel
theorem dX1_relax_1 : decode cX1_relax 1 = .ok (.istore_n 1, 1) := by decide +kernel
theorem dX1_relax_2 : decode cX1_relax 2 = .ok (.iconst 0, 1) := by decide +kernel
theorem dX1_relax_3 : decode cX1_relax 3 = .ok (.istore_n 2, 1) := by decide +kernel
theorem dX1_relax_4 : decode cX1_relax 4 = .ok (.iload_n 2, 1) := by decide +kernel
theorem dX1_relax_5 : decode cX1_relax 5 = .ok (.aload_n 0, 1) := by decide +kernel
theorem dX1_relax_6 : decode cX1_relax 6 = .ok (.getfield 49, 3) := by decide +kernel
theorem dX1_relax_9 : decode cX1_relax 9 = .ok (.if_icmp .ge 186, 3) := by decide +kernel
theorem dX1_relax_12 : decode cX1_relax 12 = .ok (.aload_n 0, 1) := by decide +kernel
theorem dX1_relax_13 : decode cX1_relax 13 = .ok (.getfield 11, 3) := by decide +kernel
theorem dX1_relax_16 : decode cX1_relax 16 = .ok (.iload_n 2, 1) := by decide +kernel
theorem dX1_relax_17 : decode cX1_relax 17 = .ok (.iaload, 1) := by decide +kernel
theorem dX1_relax_18 : decode cX1_relax 18 = .ok (.istore_n 3, 1) := by decide +kernel
theorem dX1_relax_19 : decode cX1_relax 19 = .ok (.aload_n 0, 1) := by decide +kernel
theorem dX1_relax_20 : decode cX1_relax 20 = .ok (.getfield 15, 3) := by decide +kernel
theorem dX1_relax_23 : decode cX1_relax 23 = .ok (.iload_n 2, 1) := by decide +kernel
theorem dX1_relax_24 : decode cX1_relax 24 = .ok (.iaload, 1) := by decide +kernel
theorem dX1_relax_25 : decode cX1_relax 25 = .ok (.istore 4, 2) := by decide +kernel
theorem dX1_relax_27 : decode cX1_relax 27 = .ok (.aload_n 0, 1) := by decide +kernel
theorem dX1_relax_28 : decode cX1_relax 28 = .ok (.getfield 33, 3) := by decide +kernel
theorem dX1_relax_31 : decode cX1_relax 31 = .ok (.iload_n 2, 1) := by decide +kernel
theorem dX1_relax_32 : decode cX1_relax 32 = .ok (.iaload, 1) := by decide +kernel
theorem dX1_relax_33 : decode cX1_relax 33 = .ok (.aload_n 0, 1) := by decide +kernel
theorem dX1_relax_34 : decode cX1_relax 34 = .ok (.getfield 30, 3) := by decide +kernel
theorem dX1_relax_37 : decode cX1_relax 37 = .ok (.iload_n 2, 1) := by decide +kernel
theorem dX1_relax_38 : decode cX1_relax 38 = .ok (.iaload, 1) := by decide +kernel
theorem dX1_relax_39 : decode cX1_relax 39 = .ok (.if_icmp .ge 68, 3) := by decide +kernel
theorem dX1_relax_42 : decode cX1_relax 42 = .ok (.aload_n 0, 1) := by decide +kernel
theorem dX1_relax_43 : decode cX1_relax 43 = .ok (.getfield 36, 3) := by decide +kernel
theorem dX1_relax_46 : decode cX1_relax 46 = .ok (.iload_n 3, 1) := by decide +kernel
theorem dX1_relax_47 : decode cX1_relax 47 = .ok (.iaload, 1) := by decide +kernel
theorem dX1_relax_48 : decode cX1_relax 48 = .ok (.ldc 85, 2) := by decide +kernel
theorem dX1_relax_50 : decode cX1_relax 50 = .ok (.if_icmp .ge 57, 3) := by decide +kernel
theorem dX1_relax_53 : decode cX1_relax 53 = .ok (.aload_n 0, 1) := by decide +kernel
theorem dX1_relax_54 : decode cX1_relax 54 = .ok (.getfield 36, 3) := by decide +kernel
theorem dX1_relax_57 : decode cX1_relax 57 = .ok (.iload_n 3, 1) := by decide +kernel
theorem dX1_relax_58 : decode cX1_relax 58 = .ok (.iaload, 1) := by decide +kernel
theorem dX1_relax_59 : decode cX1_relax 59 = .ok (.aload_n 0, 1) := by decide +kernel
theorem dX1_relax_60 : decode cX1_relax 60 = .ok (.getfield 24, 3) := by decide +kernel
theorem dX1_relax_63 : decode cX1_relax 63 = .ok (.iload_n 2, 1) := by decide +kernel
theorem dX1_relax_64 : decode cX1_relax 64 = .ok (.iaload, 1) := by decide +kernel
theorem dX1_relax_65 : decode cX1_relax 65 = .ok (.iadd, 1) := by decide +kernel
theorem dX1_relax_66 : decode cX1_relax 66 = .ok (.aload_n 0, 1) := by decide +kernel
theorem dX1_relax_67 : decode cX1_relax 67 = .ok (.getfield 36, 3) := by decide +kernel
theorem dX1_relax_70 : decode cX1_relax 70 = .ok (.iload 4, 2) := by decide +kernel
theorem dX1_relax_72 : decode cX1_relax 72 = .ok (.iaload, 1) := by decide +kernel
theorem dX1_relax_73 : decode cX1_relax 73 = .ok (.if_icmp .ge 34, 3) := by decide +kernel
theorem dX1_relax_76 : decode cX1_relax 76 = .ok (.aload_n 0, 1) := by decide +kernel
theorem dX1_relax_77 : decode cX1_relax 77 = .ok (.getfield 36, 3) := by decide +kernel
theorem dX1_relax_80 : decode cX1_relax 80 = .ok (.iload 4, 2) := by decide +kernel
theorem dX1_relax_82 : decode cX1_relax 82 = .ok (.aload_n 0, 1) := by decide +kernel
theorem dX1_relax_83 : decode cX1_relax 83 = .ok (.getfield 36, 3) := by decide +kernel
theorem dX1_relax_86 : decode cX1_relax 86 = .ok (.iload_n 3, 1) := by decide +kernel
theorem dX1_relax_87 : decode cX1_relax 87 = .ok (.iaload, 1) := by decide +kernel
theorem dX1_relax_88 : decode cX1_relax 88 = .ok (.aload_n 0, 1) := by decide +kernel
theorem dX1_relax_89 : decode cX1_relax 89 = .ok (.getfield 24, 3) := by decide +kernel
theorem dX1_relax_92 : decode cX1_relax 92 = .ok (.iload_n 2, 1) := by decide +kernel
theorem dX1_relax_93 : decode cX1_relax 93 = .ok (.iaload, 1) := by decide +kernel
theorem dX1_relax_94 : decode cX1_relax 94 = .ok (.iadd, 1) := by decide +kernel
theorem dX1_relax_95 : decode cX1_relax 95 = .ok (.iastore, 1) := by decide +kernel
theorem dX1_relax_96 : decode cX1_relax 96 = .ok (.aload_n 0, 1) := by decide +kernel
theorem dX1_relax_97 : decode cX1_relax 97 = .ok (.getfield 39, 3) := by decide +kernel
theorem dX1_relax_100 : decode cX1_relax 100 = .ok (.iload 4, 2) := by decide +kernel
theorem dX1_relax_102 : decode cX1_relax 102 = .ok (.iload_n 2, 1) := by decide +kernel
theorem dX1_relax_103 : decode cX1_relax 103 = .ok (.iastore, 1) := by decide +kernel
theorem dX1_relax_104 : decode cX1_relax 104 = .ok (.iload 4, 2) := by decide +kernel
theorem dX1_relax_106 : decode cX1_relax 106 = .ok (.istore_n 1, 1) := by decide +kernel
theorem dX1_relax_107 : decode cX1_relax 107 = .ok (.aload_n 0, 1) := by decide +kernel
theorem dX1_relax_108 : decode cX1_relax 108 = .ok (.getfield 33, 3) := by decide +kernel
theorem dX1_relax_111 : decode cX1_relax 111 = .ok (.iload_n 2, 1) := by decide +kernel
theorem dX1_relax_112 : decode cX1_relax 112 = .ok (.iaload, 1) := by decide +kernel
theorem dX1_relax_113 : decode cX1_relax 113 = .ok (.aload_n 0, 1) := by decide +kernel
theorem dX1_relax_114 : decode cX1_relax 114 = .ok (.getfield 27, 3) := by decide +kernel
theorem dX1_relax_117 : decode cX1_relax 117 = .ok (.iload_n 2, 1) := by decide +kernel
theorem dX1_relax_118 : decode cX1_relax 118 = .ok (.iaload, 1) := by decide +kernel
theorem dX1_relax_119 : decode cX1_relax 119 = .ok (.if_icmp .le 70, 3) := by decide +kernel
theorem dX1_relax_122 : decode cX1_relax 122 = .ok (.aload_n 0, 1) := by decide +kernel
theorem dX1_relax_123 : decode cX1_relax 123 = .ok (.getfield 36, 3) := by decide +kernel
theorem dX1_relax_126 : decode cX1_relax 126 = .ok (.iload 4, 2) := by decide +kernel
theorem dX1_relax_128 : decode cX1_relax 128 = .ok (.iaload, 1) := by decide +kernel
theorem dX1_relax_129 : decode cX1_relax 129 = .ok (.ldc 85, 2) := by decide +kernel
theorem dX1_relax_131 : decode cX1_relax 131 = .ok (.if_icmp .ge 58, 3) := by decide +kernel
theorem dX1_relax_134 : decode cX1_relax 134 = .ok (.aload_n 0, 1) := by decide +kernel
theorem dX1_relax_135 : decode cX1_relax 135 = .ok (.getfield 36, 3) := by decide +kernel
theorem dX1_relax_138 : decode cX1_relax 138 = .ok (.iload 4, 2) := by decide +kernel
theorem dX1_relax_140 : decode cX1_relax 140 = .ok (.iaload, 1) := by decide +kernel
theorem dX1_relax_141 : decode cX1_relax 141 = .ok (.aload_n 0, 1) := by decide +kernel
theorem dX1_relax_142 : decode cX1_relax 142 = .ok (.getfield 24, 3) := by decide +kernel
theorem dX1_relax_145 : decode cX1_relax 145 = .ok (.iload_n 2, 1) := by decide +kernel
theorem dX1_relax_146 : decode cX1_relax 146 = .ok (.iaload, 1) := by decide +kernel
theorem dX1_relax_147 : decode cX1_relax 147 = .ok (.isub, 1) := by decide +kernel
theorem dX1_relax_148 : decode cX1_relax 148 = .ok (.aload_n 0, 1) := by decide +kernel
theorem dX1_relax_149 : decode cX1_relax 149 = .ok (.getfield 36, 3) := by decide +kernel
theorem dX1_relax_152 : decode cX1_relax 152 = .ok (.iload_n 3, 1) := by decide +kernel
theorem dX1_relax_153 : decode cX1_relax 153 = .ok (.iaload, 1) := by decide +kernel
theorem dX1_relax_154 : decode cX1_relax 154 = .ok (.if_icmp .ge 35, 3) := by decide +kernel
theorem dX1_relax_157 : decode cX1_relax 157 = .ok (.aload_n 0, 1) := by decide +kernel
theorem dX1_relax_158 : decode cX1_relax 158 = .ok (.getfield 36, 3) := by decide +kernel
theorem dX1_relax_161 : decode cX1_relax 161 = .ok (.iload_n 3, 1) := by decide +kernel
theorem dX1_relax_162 : decode cX1_relax 162 = .ok (.aload_n 0, 1) := by decide +kernel
theorem dX1_relax_163 : decode cX1_relax 163 = .ok (.getfield 36, 3) := by decide +kernel
theorem dX1_relax_166 : decode cX1_relax 166 = .ok (.iload 4, 2) := by decide +kernel
theorem dX1_relax_168 : decode cX1_relax 168 = .ok (.iaload, 1) := by decide +kernel
theorem dX1_relax_169 : decode cX1_relax 169 = .ok (.aload_n 0, 1) := by decide +kernel
theorem dX1_relax_170 : decode cX1_relax 170 = .ok (.getfield 24, 3) := by decide +kernel
theorem dX1_relax_173 : decode cX1_relax 173 = .ok (.iload_n 2, 1) := by decide +kernel
theorem dX1_relax_174 : decode cX1_relax 174 = .ok (.iaload, 1) := by decide +kernel
theorem dX1_relax_175 : decode cX1_relax 175 = .ok (.isub, 1) := by decide +kernel
theorem dX1_relax_176 : decode cX1_relax 176 = .ok (.iastore, 1) := by decide +kernel
theorem dX1_relax_177 : decode cX1_relax 177 = .ok (.aload_n 0, 1) := by decide +kernel
theorem dX1_relax_178 : decode cX1_relax 178 = .ok (.getfield 39, 3) := by decide +kernel
theorem dX1_relax_181 : decode cX1_relax 181 = .ok (.iload_n 3, 1) := by decide +kernel
theorem dX1_relax_182 : decode cX1_relax 182 = .ok (.iload_n 2, 1) := by decide +kernel
theorem dX1_relax_183 : decode cX1_relax 183 = .ok (.bipush 32, 2) := by decide +kernel
theorem dX1_relax_185 : decode cX1_relax 185 = .ok (.iadd, 1) := by decide +kernel
theorem dX1_relax_186 : decode cX1_relax 186 = .ok (.iastore, 1) := by decide +kernel
theorem dX1_relax_187 : decode cX1_relax 187 = .ok (.iload_n 3, 1) := by decide +kernel
theorem dX1_relax_188 : decode cX1_relax 188 = .ok (.istore_n 1, 1) := by decide +kernel
theorem dX1_relax_189 : decode cX1_relax 189 = .ok (.iinc 2 1, 3) := by decide +kernel
theorem dX1_relax_192 : decode cX1_relax 192 = .ok (.goto (-188), 3) := by decide +kernel
theorem dX1_relax_195 : decode cX1_relax 195 = .ok (.iload_n 1, 1) := by decide +kernel
theorem dX1_relax_196 : decode cX1_relax 196 = .ok (.ireturn, 1) := by decide +kernel
theorem dX1_findRing_0 : decode cX1_findRing 0 = .ok (.iload_n 1, 1) := by decide +kernel
theorem dX1_findRing_1 : decode cX1_findRing 1 = .ok (.istore_n 2, 1) := by decide +kernel
theorem dX1_findRing_2 : decode cX1_findRing 2 = .ok (.iconst 0, 1) := by decide +kernel
theorem dX1_findRing_3 : decode cX1_findRing 3 = .ok (.istore_n 3, 1) := by decide +kernel
theorem dX1_findRing_4 : decode cX1_findRing 4 = .ok (.iload_n 3, 1) := by decide +kernel
theorem dX1_findRing_5 : decode cX1_findRing 5 = .ok (.aload_n 0, 1) := by decide +kernel
theorem dX1_findRing_6 : decode cX1_findRing 6 = .ok (.getfield 45, 3) := by decide +kernel
theorem dX1_findRing_9 : decode cX1_findRing 9 = .ok (.if_icmp .ge 20, 3) := by decide +kernel
theorem dX1_findRing_12 : decode cX1_findRing 12 = .ok (.iload_n 2, 1) := by decide +kernel
theorem dX1_findRing_13 : decode cX1_findRing 13 = .ok (.iconst (-1), 1) := by decide +kernel
theorem dX1_findRing_14 : decode cX1_findRing 14 = .ok (.if_icmp .eq 15, 3) := by decide +kernel
theorem dX1_findRing_17 : decode cX1_findRing 17 = .ok (.aload_n 0, 1) := by decide +kernel
theorem dX1_findRing_18 : decode cX1_findRing 18 = .ok (.iload_n 2, 1) := by decide +kernel
theorem dX1_findRing_19 : decode cX1_findRing 19 = .ok (.invokevirtual 104, 3) := by decide +kernel
theorem dX1_findRing_22 : decode cX1_findRing 22 = .ok (.istore_n 2, 1) := by decide +kernel
theorem dX1_findRing_23 : decode cX1_findRing 23 = .ok (.iinc 3 1, 3) := by decide +kernel
theorem dX1_findRing_26 : decode cX1_findRing 26 = .ok (.goto (-22), 3) := by decide +kernel
theorem dX1_findRing_29 : decode cX1_findRing 29 = .ok (.iload_n 2, 1) := by decide +kernel
theorem dX1_findRing_30 : decode cX1_findRing 30 = .ok (.istore_n 3, 1) := by decide +kernel
theorem dX1_findRing_31 : decode cX1_findRing 31 = .ok (.aload_n 0, 1) := by decide +kernel
theorem dX1_findRing_32 : decode cX1_findRing 32 = .ok (.iconst 0, 1) := by decide +kernel
theorem dX1_findRing_33 : decode cX1_findRing 33 = .ok (.putfield 52, 3) := by decide +kernel
theorem dX1_findRing_36 : decode cX1_findRing 36 = .ok (.iload_n 2, 1) := by decide +kernel
theorem dX1_findRing_37 : decode cX1_findRing 37 = .ok (.iconst (-1), 1) := by decide +kernel
theorem dX1_findRing_38 : decode cX1_findRing 38 = .ok (.if_icmp .eq 62, 3) := by decide +kernel
theorem dX1_findRing_41 : decode cX1_findRing 41 = .ok (.aload_n 0, 1) := by decide +kernel
theorem dX1_findRing_42 : decode cX1_findRing 42 = .ok (.getfield 52, 3) := by decide +kernel
theorem dX1_findRing_45 : decode cX1_findRing 45 = .ok (.aload_n 0, 1) := by decide +kernel
theorem dX1_findRing_46 : decode cX1_findRing 46 = .ok (.getfield 42, 3) := by decide +kernel
theorem dX1_findRing_49 : decode cX1_findRing 49 = .ok (.arraylength, 1) := by decide +kernel
theorem dX1_findRing_50 : decode cX1_findRing 50 = .ok (.if_icmp .ge 50, 3) := by decide +kernel
theorem dX1_findRing_53 : decode cX1_findRing 53 = .ok (.aload_n 0, 1) := by decide +kernel
theorem dX1_findRing_54 : decode cX1_findRing 54 = .ok (.getfield 42, 3) := by decide +kernel
theorem dX1_findRing_57 : decode cX1_findRing 57 = .ok (.aload_n 0, 1) := by decide +kernel
theorem dX1_findRing_58 : decode cX1_findRing 58 = .ok (.getfield 52, 3) := by decide +kernel
theorem dX1_findRing_61 : decode cX1_findRing 61 = .ok (.aload_n 0, 1) := by decide +kernel
theorem dX1_findRing_62 : decode cX1_findRing 62 = .ok (.getfield 39, 3) := by decide +kernel
theorem dX1_findRing_65 : decode cX1_findRing 65 = .ok (.iload_n 2, 1) := by decide +kernel
theorem dX1_findRing_66 : decode cX1_findRing 66 = .ok (.iaload, 1) := by decide +kernel
theorem dX1_findRing_67 : decode cX1_findRing 67 = .ok (.iastore, 1) := by decide +kernel
theorem dX1_findRing_68 : decode cX1_findRing 68 = .ok (.aload_n 0, 1) := by decide +kernel
theorem dX1_findRing_69 : decode cX1_findRing 69 = .ok (.dup, 1) := by decide +kernel
theorem dX1_findRing_70 : decode cX1_findRing 70 = .ok (.getfield 52, 3) := by decide +kernel
theorem dX1_findRing_73 : decode cX1_findRing 73 = .ok (.iconst 1, 1) := by decide +kernel
theorem dX1_findRing_74 : decode cX1_findRing 74 = .ok (.iadd, 1) := by decide +kernel
theorem dX1_findRing_75 : decode cX1_findRing 75 = .ok (.putfield 52, 3) := by decide +kernel
theorem dX1_findRing_78 : decode cX1_findRing 78 = .ok (.aload_n 0, 1) := by decide +kernel
theorem dX1_findRing_79 : decode cX1_findRing 79 = .ok (.iload_n 2, 1) := by decide +kernel
theorem dX1_findRing_80 : decode cX1_findRing 80 = .ok (.invokevirtual 104, 3) := by decide +kernel
theorem dX1_findRing_83 : decode cX1_findRing 83 = .ok (.istore_n 2, 1) := by decide +kernel
theorem dX1_findRing_84 : decode cX1_findRing 84 = .ok (.iload_n 2, 1) := by decide +kernel
theorem dX1_findRing_85 : decode cX1_findRing 85 = .ok (.iload_n 3, 1) := by decide +kernel
theorem dX1_findRing_86 : decode cX1_findRing 86 = .ok (.if_icmp .ne (-50), 3) := by decide +kernel
theorem dX1_findRing_89 : decode cX1_findRing 89 = .ok (.iload_n 2, 1) := by decide +kernel
theorem dX1_findRing_90 : decode cX1_findRing 90 = .ok (.iconst (-1), 1) := by decide +kernel
theorem dX1_findRing_91 : decode cX1_findRing 91 = .ok (.if_icmp .eq 7, 3) := by decide +kernel
theorem dX1_findRing_94 : decode cX1_findRing 94 = .ok (.iconst 1, 1) := by decide +kernel
theorem dX1_findRing_95 : decode cX1_findRing 95 = .ok (.goto 4, 3) := by decide +kernel
theorem dX1_findRing_98 : decode cX1_findRing 98 = .ok (.iconst 0, 1) := by decide +kernel
theorem dX1_findRing_99 : decode cX1_findRing 99 = .ok (.ireturn, 1) := by decide +kernel
theorem dX1_findRing_100 : decode cX1_findRing 100 = .ok (.iconst 0, 1) := by decide +kernel
theorem dX1_findRing_101 : decode cX1_findRing 101 = .ok (.ireturn, 1) := by decide +kernel
theorem dX1_cameFrom_0 : decode cX1_cameFrom 0 = .ok (.aload_n 0, 1) := by decide +kernel
theorem dX1_cameFrom_1 : decode cX1_cameFrom 1 = .ok (.getfield 39, 3) := by decide +kernel
theorem dX1_cameFrom_4 : decode cX1_cameFrom 4 = .ok (.iload_n 1, 1) := by decide +kernel
theorem dX1_cameFrom_5 : decode cX1_cameFrom 5 = .ok (.iaload, 1) := by decide +kernel
theorem dX1_cameFrom_6 : decode cX1_cameFrom 6 = .ok (.istore_n 2, 1) := by decide +kernel
theorem dX1_cameFrom_7 : decode cX1_cameFrom 7 = .ok (.iload_n 2, 1) := by decide +kernel
theorem dX1_cameFrom_8 : decode cX1_cameFrom 8 = .ok (.iconst (-1), 1) := by decide +kernel
theorem dX1_cameFrom_9 : decode cX1_cameFrom 9 = .ok (.if_icmp .ne 5, 3) := by decide +kernel
theorem dX1_cameFrom_12 : decode cX1_cameFrom 12 = .ok (.iconst (-1), 1) := by decide +kernel
theorem dX1_cameFrom_13 : decode cX1_cameFrom 13 = .ok (.ireturn, 1) := by decide +kernel
theorem dX1_cameFrom_14 : decode cX1_cameFrom 14 = .ok (.iload_n 2, 1) := by decide +kernel
theorem dX1_cameFrom_15 : decode cX1_cameFrom 15 = .ok (.bipush 32, 2) := by decide +kernel
theorem dX1_cameFrom_17 : decode cX1_cameFrom 17 = .ok (.if_icmp .ge 12, 3) := by decide +kernel
theorem dX1_cameFrom_20 : decode cX1_cameFrom 20 = .ok (.aload_n 0, 1) := by decide +kernel
theorem dX1_cameFrom_21 : decode cX1_cameFrom 21 = .ok (.getfield 11, 3) := by decide +kernel
theorem dX1_cameFrom_24 : decode cX1_cameFrom 24 = .ok (.iload_n 2, 1) := by decide +kernel
theorem dX1_cameFrom_25 : decode cX1_cameFrom 25 = .ok (.iaload, 1) := by decide +kernel
theorem dX1_cameFrom_26 : decode cX1_cameFrom 26 = .ok (.goto 12, 3) := by decide +kernel
theorem dX1_cameFrom_29 : decode cX1_cameFrom 29 = .ok (.aload_n 0, 1) := by decide +kernel
theorem dX1_cameFrom_30 : decode cX1_cameFrom 30 = .ok (.getfield 15, 3) := by decide +kernel
theorem dX1_cameFrom_33 : decode cX1_cameFrom 33 = .ok (.iload_n 2, 1) := by decide +kernel
theorem dX1_cameFrom_34 : decode cX1_cameFrom 34 = .ok (.bipush 32, 2) := by decide +kernel
theorem dX1_cameFrom_36 : decode cX1_cameFrom 36 = .ok (.isub, 1) := by decide +kernel
theorem dX1_cameFrom_37 : decode cX1_cameFrom 37 = .ok (.iaload, 1) := by decide +kernel
theorem dX1_cameFrom_38 : decode cX1_cameFrom 38 = .ok (.ireturn, 1) := by decide +kernel
theorem dX1_keepCheap_0 : decode cX1_keepCheap 0 = .ok (.iconst 0, 1) := by decide +kernel
theorem dX1_keepCheap_1 : decode cX1_keepCheap 1 = .ok (.istore_n 1, 1) := by decide +kernel
theorem dX1_keepCheap_2 : decode cX1_keepCheap 2 = .ok (.iload_n 1, 1) := by decide +kernel
theorem dX1_keepCheap_3 : decode cX1_keepCheap 3 = .ok (.aload_n 0, 1) := by decide +kernel
theorem dX1_keepCheap_4 : decode cX1_keepCheap 4 = .ok (.getfield 49, 3) := by decide +kernel
theorem dX1_keepCheap_7 : decode cX1_keepCheap 7 = .ok (.if_icmp .ge 46, 3) := by decide +kernel
theorem dX1_keepCheap_10 : decode cX1_keepCheap 10 = .ok (.aload_n 0, 1) := by decide +kernel
theorem dX1_keepCheap_11 : decode cX1_keepCheap 11 = .ok (.getfield 36, 3) := by decide +kernel
theorem dX1_keepCheap_14 : decode cX1_keepCheap 14 = .ok (.aload_n 0, 1) := by decide +kernel
theorem dX1_keepCheap_15 : decode cX1_keepCheap 15 = .ok (.getfield 11, 3) := by decide +kernel
theorem dX1_keepCheap_18 : decode cX1_keepCheap 18 = .ok (.iload_n 1, 1) := by decide +kernel
theorem dX1_keepCheap_19 : decode cX1_keepCheap 19 = .ok (.iaload, 1) := by decide +kernel
theorem dX1_keepCheap_20 : decode cX1_keepCheap 20 = .ok (.iaload, 1) := by decide +kernel
theorem dX1_keepCheap_21 : decode cX1_keepCheap 21 = .ok (.aload_n 0, 1) := by decide +kernel
theorem dX1_keepCheap_22 : decode cX1_keepCheap 22 = .ok (.getfield 24, 3) := by decide +kernel
theorem dX1_keepCheap_25 : decode cX1_keepCheap 25 = .ok (.iload_n 1, 1) := by decide +kernel
theorem dX1_keepCheap_26 : decode cX1_keepCheap 26 = .ok (.iaload, 1) := by decide +kernel
theorem dX1_keepCheap_27 : decode cX1_keepCheap 27 = .ok (.iadd, 1) := by decide +kernel
theorem dX1_keepCheap_28 : decode cX1_keepCheap 28 = .ok (.aload_n 0, 1) := by decide +kernel
theorem dX1_keepCheap_29 : decode cX1_keepCheap 29 = .ok (.getfield 36, 3) := by decide +kernel
theorem dX1_keepCheap_32 : decode cX1_keepCheap 32 = .ok (.aload_n 0, 1) := by decide +kernel
theorem dX1_keepCheap_33 : decode cX1_keepCheap 33 = .ok (.getfield 15, 3) := by decide +kernel
theorem dX1_keepCheap_36 : decode cX1_keepCheap 36 = .ok (.iload_n 1, 1) := by decide +kernel
theorem dX1_keepCheap_37 : decode cX1_keepCheap 37 = .ok (.iaload, 1) := by decide +kernel
theorem dX1_keepCheap_38 : decode cX1_keepCheap 38 = .ok (.iaload, 1) := by decide +kernel
theorem dX1_keepCheap_39 : decode cX1_keepCheap 39 = .ok (.if_icmp .eq 8, 3) := by decide +kernel
theorem dX1_keepCheap_42 : decode cX1_keepCheap 42 = .ok (.aload_n 0, 1) := by decide +kernel
theorem dX1_keepCheap_43 : decode cX1_keepCheap 43 = .ok (.iload_n 1, 1) := by decide +kernel
theorem dX1_keepCheap_44 : decode cX1_keepCheap 44 = .ok (.invokevirtual 66, 3) := by decide +kernel
theorem dX1_keepCheap_47 : decode cX1_keepCheap 47 = .ok (.iinc 1 1, 3) := by decide +kernel
theorem dX1_keepCheap_50 : decode cX1_keepCheap 50 = .ok (.goto (-48), 3) := by decide +kernel
theorem dX1_keepCheap_53 : decode cX1_keepCheap 53 = .ok (.return_, 1) := by decide +kernel
theorem dX1_setLevelsFrom_0 : decode cX1_setLevelsFrom 0 = .ok (.iconst 0, 1) := by decide +kernel
theorem dX1_setLevelsFrom_1 : decode cX1_setLevelsFrom 1 = .ok (.istore_n 2, 1) := by decide +kernel
theorem dX1_setLevelsFrom_2 : decode cX1_setLevelsFrom 2 = .ok (.iload_n 2, 1) := by decide +kernel
theorem dX1_setLevelsFrom_3 : decode cX1_setLevelsFrom 3 = .ok (.aload_n 0, 1) := by decide +kernel
theorem dX1_setLevelsFrom_4 : decode cX1_setLevelsFrom 4 = .ok (.getfield 45, 3) := by decide +kernel
theorem dX1_setLevelsFrom_7 : decode cX1_setLevelsFrom 7 = .ok (.if_icmp .ge 17, 3) := by decide +kernel
theorem dX1_setLevelsFrom_10 : decode cX1_setLevelsFrom 10 = .ok (.aload_n 0, 1) := by decide +kernel
theorem dX1_setLevelsFrom_11 : decode cX1_setLevelsFrom 11 = .ok (.getfield 36, 3) := by decide +kernel
theorem dX1_setLevelsFrom_14 : decode cX1_setLevelsFrom 14 = .ok (.iload_n 2, 1) := by decide +kernel
theorem dX1_setLevelsFrom_15 : decode cX1_setLevelsFrom 15 = .ok (.ldc 85, 2) := by decide +kernel
theorem dX1_setLevelsFrom_17 : decode cX1_setLevelsFrom 17 = .ok (.iastore, 1) := by decide +kernel
theorem dX1_setLevelsFrom_18 : decode cX1_setLevelsFrom 18 = .ok (.iinc 2 1, 3) := by decide +kernel
theorem dX1_setLevelsFrom_21 : decode cX1_setLevelsFrom 21 = .ok (.goto (-19), 3) := by decide +kernel
theorem dX1_setLevelsFrom_24 : decode cX1_setLevelsFrom 24 = .ok (.aload_n 0, 1) := by decide +kernel
theorem dX1_setLevelsFrom_25 : decode cX1_setLevelsFrom 25 = .ok (.iload_n 1, 1) := by decide +kernel
theorem dX1_setLevelsFrom_26 : decode cX1_setLevelsFrom 26 = .ok (.invokevirtual 55, 3) := by decide +kernel
theorem dX1_setLevelsFrom_29 : decode cX1_setLevelsFrom 29 = .ok (.ifCond .eq 10, 3) := by decide +kernel
theorem dX1_setLevelsFrom_32 : decode cX1_setLevelsFrom 32 = .ok (.aload_n 0, 1) := by decide +kernel
theorem dX1_setLevelsFrom_33 : decode cX1_setLevelsFrom 33 = .ok (.getfield 36, 3) := by decide +kernel
theorem dX1_setLevelsFrom_36 : decode cX1_setLevelsFrom 36 = .ok (.iload_n 1, 1) := by decide +kernel
theorem dX1_setLevelsFrom_37 : decode cX1_setLevelsFrom 37 = .ok (.iconst 0, 1) := by decide +kernel
theorem dX1_setLevelsFrom_38 : decode cX1_setLevelsFrom 38 = .ok (.iastore, 1) := by decide +kernel
theorem dX1_setLevelsFrom_39 : decode cX1_setLevelsFrom 39 = .ok (.iconst 0, 1) := by decide +kernel
theorem dX1_setLevelsFrom_40 : decode cX1_setLevelsFrom 40 = .ok (.istore_n 2, 1) := by decide +kernel
theorem dX1_setLevelsFrom_41 : decode cX1_setLevelsFrom 41 = .ok (.iload_n 2, 1) := by decide +kernel
theorem dX1_setLevelsFrom_42 : decode cX1_setLevelsFrom 42 = .ok (.aload_n 0, 1) := by decide +kernel
theorem dX1_setLevelsFrom_43 : decode cX1_setLevelsFrom 43 = .ok (.getfield 45, 3) := by decide +kernel
theorem dX1_setLevelsFrom_46 : decode cX1_setLevelsFrom 46 = .ok (.if_icmp .ge 18, 3) := by decide +kernel
theorem dX1_setLevelsFrom_49 : decode cX1_setLevelsFrom 49 = .ok (.aload_n 0, 1) := by decide +kernel
theorem dX1_setLevelsFrom_50 : decode cX1_setLevelsFrom 50 = .ok (.invokevirtual 101, 3) := by decide +kernel
theorem dX1_setLevelsFrom_53 : decode cX1_setLevelsFrom 53 = .ok (.iconst (-1), 1) := by decide +kernel
theorem dX1_setLevelsFrom_54 : decode cX1_setLevelsFrom 54 = .ok (.if_icmp .ne 4, 3) := by decide +kernel
theorem dX1_setLevelsFrom_57 : decode cX1_setLevelsFrom 57 = .ok (.return_, 1) := by decide +kernel
theorem dX1_setLevelsFrom_58 : decode cX1_setLevelsFrom 58 = .ok (.iinc 2 1, 3) := by decide +kernel
theorem dX1_setLevelsFrom_61 : decode cX1_setLevelsFrom 61 = .ok (.goto (-20), 3) := by decide +kernel
theorem dX1_setLevelsFrom_64 : decode cX1_setLevelsFrom 64 = .ok (.return_, 1) := by decide +kernel
theorem dX1_levelOf_0 : decode cX1_levelOf 0 = .ok (.aload_n 0, 1) := by decide +kernel
theorem dX1_levelOf_1 : decode cX1_levelOf 1 = .ok (.iload_n 1, 1) := by decide +kernel
theorem dX1_levelOf_2 : decode cX1_levelOf 2 = .ok (.invokevirtual 55, 3) := by decide +kernel
theorem dX1_levelOf_5 : decode cX1_levelOf 5 = .ok (.ifCond .eq 12, 3) := by decide +kernel
theorem dX1_levelOf_8 : decode cX1_levelOf 8 = .ok (.aload_n 0, 1) := by decide +kernel
theorem dX1_levelOf_9 : decode cX1_levelOf 9 = .ok (.getfield 36, 3) := by decide +kernel
theorem dX1_levelOf_12 : decode cX1_levelOf 12 = .ok (.iload_n 1, 1) := by decide +kernel
theorem dX1_levelOf_13 : decode cX1_levelOf 13 = .ok (.iaload, 1) := by decide +kernel
theorem dX1_levelOf_14 : decode cX1_levelOf 14 = .ok (.goto 5, 3) := by decide +kernel
theorem dX1_levelOf_17 : decode cX1_levelOf 17 = .ok (.ldc 85, 2) := by decide +kernel
theorem dX1_levelOf_19 : decode cX1_levelOf 19 = .ok (.ireturn, 1) := by decide +kernel
theorem dX1_sumOfCosts_0 : decode cX1_sumOfCosts 0 = .ok (.iconst 0, 1) := by decide +kernel
theorem dX1_sumOfCosts_1 : decode cX1_sumOfCosts 1 = .ok (.istore_n 2, 1) := by decide +kernel
theorem dX1_sumOfCosts_2 : decode cX1_sumOfCosts 2 = .ok (.iconst 0, 1) := by decide +kernel
theorem dX1_sumOfCosts_3 : decode cX1_sumOfCosts 3 = .ok (.istore_n 3, 1) := by decide +kernel
theorem dX1_sumOfCosts_4 : decode cX1_sumOfCosts 4 = .ok (.iload_n 3, 1) := by decide +kernel
theorem dX1_sumOfCosts_5 : decode cX1_sumOfCosts 5 = .ok (.iload_n 1, 1) := by decide +kernel
theorem dX1_sumOfCosts_6 : decode cX1_sumOfCosts 6 = .ok (.if_icmp .ge 33, 3) := by decide +kernel
theorem dX1_sumOfCosts_9 : decode cX1_sumOfCosts 9 = .ok (.iload_n 3, 1) := by decide +kernel
theorem dX1_sumOfCosts_10 : decode cX1_sumOfCosts 10 = .ok (.aload_n 0, 1) := by decide +kernel
theorem dX1_sumOfCosts_11 : decode cX1_sumOfCosts 11 = .ok (.getfield 49, 3) := by decide +kernel
theorem dX1_sumOfCosts_14 : decode cX1_sumOfCosts 14 = .ok (.if_icmp .ge 25, 3) := by decide +kernel
theorem dX1_sumOfCosts_17 : decode cX1_sumOfCosts 17 = .ok (.iload_n 2, 1) := by decide +kernel
theorem dX1_sumOfCosts_18 : decode cX1_sumOfCosts 18 = .ok (.aload_n 0, 1) := by decide +kernel
theorem dX1_sumOfCosts_19 : decode cX1_sumOfCosts 19 = .ok (.getfield 33, 3) := by decide +kernel
theorem dX1_sumOfCosts_22 : decode cX1_sumOfCosts 22 = .ok (.iload_n 3, 1) := by decide +kernel
theorem dX1_sumOfCosts_23 : decode cX1_sumOfCosts 23 = .ok (.iaload, 1) := by decide +kernel
theorem dX1_sumOfCosts_24 : decode cX1_sumOfCosts 24 = .ok (.aload_n 0, 1) := by decide +kernel
theorem dX1_sumOfCosts_25 : decode cX1_sumOfCosts 25 = .ok (.getfield 24, 3) := by decide +kernel
theorem dX1_sumOfCosts_28 : decode cX1_sumOfCosts 28 = .ok (.iload_n 3, 1) := by decide +kernel
theorem dX1_sumOfCosts_29 : decode cX1_sumOfCosts 29 = .ok (.iaload, 1) := by decide +kernel
theorem dX1_sumOfCosts_30 : decode cX1_sumOfCosts 30 = .ok (.imul, 1) := by decide +kernel
theorem dX1_sumOfCosts_31 : decode cX1_sumOfCosts 31 = .ok (.iadd, 1) := by decide +kernel
theorem dX1_sumOfCosts_32 : decode cX1_sumOfCosts 32 = .ok (.istore_n 2, 1) := by decide +kernel
theorem dX1_sumOfCosts_33 : decode cX1_sumOfCosts 33 = .ok (.iinc 3 1, 3) := by decide +kernel
theorem dX1_sumOfCosts_36 : decode cX1_sumOfCosts 36 = .ok (.goto (-32), 3) := by decide +kernel
theorem dX1_sumOfCosts_39 : decode cX1_sumOfCosts 39 = .ok (.iload_n 2, 1) := by decide +kernel
theorem dX1_sumOfCosts_40 : decode cX1_sumOfCosts 40 = .ok (.ireturn, 1) := by decide +kernel
theorem dX2_init_0 : decode cX2_init 0 = .ok (.aload_n 0, 1) := by decide +kernel
theorem dX2_init_1 : decode cX2_init 1 = .ok (.invokespecial 3, 3) := by decide +kernel
theorem dX2_init_4 : decode cX2_init 4 = .ok (.aload_n 0, 1) := by decide +kernel
theorem dX2_init_5 : decode cX2_init 5 = .ok (.bipush 6, 2) := by decide +kernel
theorem dX2_init_7 : decode cX2_init 7 = .ok (.newarray .int, 2) := by decide +kernel
theorem dX2_init_9 : decode cX2_init 9 = .ok (.putfield 11, 3) := by decide +kernel
theorem dX2_init_12 : decode cX2_init 12 = .ok (.aload_n 0, 1) := by decide +kernel
theorem dX2_init_13 : decode cX2_init 13 = .ok (.bipush 36, 2) := by decide +kernel
theorem dX2_init_15 : decode cX2_init 15 = .ok (.newarray .int, 2) := by decide +kernel
theorem dX2_init_17 : decode cX2_init 17 = .ok (.putfield 15, 3) := by decide +kernel
theorem dX2_init_20 : decode cX2_init 20 = .ok (.return_, 1) := by decide +kernel
theorem dX2_enter_0 : decode cX2_enter 0 = .ok (.aload_n 0, 1) := by decide +kernel
theorem dX2_enter_1 : decode cX2_enter 1 = .ok (.getfield 18, 3) := by decide +kernel
theorem dX2_enter_4 : decode cX2_enter 4 = .ok (.ifCond .lt 12, 3) := by decide +kernel
theorem dX2_enter_7 : decode cX2_enter 7 = .ok (.aload_n 0, 1) := by decide +kernel
theorem dX2_enter_8 : decode cX2_enter 8 = .ok (.getfield 18, 3) := by decide +kernel
theorem dX2_enter_11 : decode cX2_enter 11 = .ok (.bipush 6, 2) := by decide +kernel
theorem dX2_enter_13 : decode cX2_enter 13 = .ok (.if_icmp .lt 5, 3) := by decide +kernel
theorem dX2_enter_16 : decode cX2_enter 16 = .ok (.iconst (-1), 1) := by decide +kernel
theorem dX2_enter_17 : decode cX2_enter 17 = .ok (.ireturn, 1) := by decide +kernel
theorem dX2_enter_18 : decode cX2_enter 18 = .ok (.aload_n 0, 1) := by decide +kernel
theorem dX2_enter_19 : decode cX2_enter 19 = .ok (.getfield 11, 3) := by decide +kernel
theorem dX2_enter_22 : decode cX2_enter 22 = .ok (.aload_n 0, 1) := by decide +kernel
theorem dX2_enter_23 : decode cX2_enter 23 = .ok (.getfield 18, 3) := by decide +kernel
theorem dX2_enter_26 : decode cX2_enter 26 = .ok (.iload_n 1, 1) := by decide +kernel
theorem dX2_enter_27 : decode cX2_enter 27 = .ok (.iastore, 1) := by decide +kernel
theorem dX2_enter_28 : decode cX2_enter 28 = .ok (.aload_n 0, 1) := by decide +kernel
theorem dX2_enter_29 : decode cX2_enter 29 = .ok (.dup, 1) := by decide +kernel
theorem dX2_enter_30 : decode cX2_enter 30 = .ok (.getfield 18, 3) := by decide +kernel
theorem dX2_enter_33 : decode cX2_enter 33 = .ok (.iconst 1, 1) := by decide +kernel
theorem dX2_enter_34 : decode cX2_enter 34 = .ok (.iadd, 1) := by decide +kernel
theorem dX2_enter_35 : decode cX2_enter 35 = .ok (.putfield 18, 3) := by decide +kernel
theorem dX2_enter_38 : decode cX2_enter 38 = .ok (.aload_n 0, 1) := by decide +kernel
theorem dX2_enter_39 : decode cX2_enter 39 = .ok (.getfield 18, 3) := by decide +kernel
theorem dX2_enter_42 : decode cX2_enter 42 = .ok (.iconst 1, 1) := by decide +kernel
theorem dX2_enter_43 : decode cX2_enter 43 = .ok (.isub, 1) := by decide +kernel
theorem dX2_enter_44 : decode cX2_enter 44 = .ok (.ireturn, 1) := by decide +kernel
theorem dX2_gamesLeft_0 : decode cX2_gamesLeft 0 = .ok (.aload_n 0, 1) := by decide +kernel
theorem dX2_gamesLeft_1 : decode cX2_gamesLeft 1 = .ok (.getfield 15, 3) := by decide +kernel
theorem dX2_gamesLeft_4 : decode cX2_gamesLeft 4 = .ok (.iload_n 1, 1) := by decide +kernel
theorem dX2_gamesLeft_5 : decode cX2_gamesLeft 5 = .ok (.bipush 6, 2) := by decide +kernel
theorem dX2_gamesLeft_7 : decode cX2_gamesLeft 7 = .ok (.imul, 1) := by decide +kernel
theorem dX2_gamesLeft_8 : decode cX2_gamesLeft 8 = .ok (.iload_n 2, 1) := by decide +kernel
theorem dX2_gamesLeft_9 : decode cX2_gamesLeft 9 = .ok (.iadd, 1) := by decide +kernel
theorem dX2_gamesLeft_10 : decode cX2_gamesLeft 10 = .ok (.iaload, 1) := by decide +kernel
theorem dX2_gamesLeft_11 : decode cX2_gamesLeft 11 = .ok (.ireturn, 1) := by decide +kernel
theorem dX2_setGames_0 : decode cX2_setGames 0 = .ok (.aload_n 0, 1) := by decide +kernel
theorem dX2_setGames_1 : decode cX2_setGames 1 = .ok (.getfield 15, 3) := by decide +kernel
theorem dX2_setGames_4 : decode cX2_setGames 4 = .ok (.iload_n 1, 1) := by decide +kernel
theorem dX2_setGames_5 : decode cX2_setGames 5 = .ok (.bipush 6, 2) := by decide +kernel
theorem dX2_setGames_7 : decode cX2_setGames 7 = .ok (.imul, 1) := by decide +kernel
theorem dX2_setGames_8 : decode cX2_setGames 8 = .ok (.iload_n 2, 1) := by decide +kernel
theorem dX2_setGames_9 : decode cX2_setGames 9 = .ok (.iadd, 1) := by decide +kernel
theorem dX2_setGames_10 : decode cX2_setGames 10 = .ok (.iload_n 3, 1) := by decide +kernel
theorem dX2_setGames_11 : decode cX2_setGames 11 = .ok (.iastore, 1) := by decide +kernel
theorem dX2_setGames_12 : decode cX2_setGames 12 = .ok (.aload_n 0, 1) := by decide +kernel
theorem dX2_setGames_13 : decode cX2_setGames 13 = .ok (.getfield 15, 3) := by decide +kernel
theorem dX2_setGames_16 : decode cX2_setGames 16 = .ok (.iload_n 2, 1) := by decide +kernel
theorem dX2_setGames_17 : decode cX2_setGames 17 = .ok (.bipush 6, 2) := by decide +kernel
theorem dX2_setGames_19 : decode cX2_setGames 19 = .ok (.imul, 1) := by decide +kernel
theorem dX2_setGames_20 : decode cX2_setGames 20 = .ok (.iload_n 1, 1) := by decide +kernel
theorem dX2_setGames_21 : decode cX2_setGames 21 = .ok (.iadd, 1) := by decide +kernel
theorem dX2_setGames_22 : decode cX2_setGames 22 = .ok (.iload_n 3, 1) := by decide +kernel
theorem dX2_setGames_23 : decode cX2_setGames 23 = .ok (.iastore, 1) := by decide +kernel
theorem dX2_setGames_24 : decode cX2_setGames 24 = .ok (.return_, 1) := by decide +kernel
theorem dX2_leastRivals_0 : decode cX2_leastRivals 0 = .ok (.aload_n 0, 1) := by decide +kernel
theorem dX2_leastRivals_1 : decode cX2_leastRivals 1 = .ok (.getfield 11, 3) := by decide +kernel
theorem dX2_leastRivals_4 : decode cX2_leastRivals 4 = .ok (.iload_n 1, 1) := by decide +kernel
theorem dX2_leastRivals_5 : decode cX2_leastRivals 5 = .ok (.iaload, 1) := by decide +kernel
theorem dX2_leastRivals_6 : decode cX2_leastRivals 6 = .ok (.istore_n 2, 1) := by decide +kernel
theorem dX2_leastRivals_7 : decode cX2_leastRivals 7 = .ok (.iconst 0, 1) := by decide +kernel
theorem dX2_leastRivals_8 : decode cX2_leastRivals 8 = .ok (.istore_n 3, 1) := by decide +kernel
theorem dX2_leastRivals_9 : decode cX2_leastRivals 9 = .ok (.iload_n 3, 1) := by decide +kernel
theorem dX2_leastRivals_10 : decode cX2_leastRivals 10 = .ok (.aload_n 0, 1) := by decide +kernel
theorem dX2_leastRivals_11 : decode cX2_leastRivals 11 = .ok (.getfield 18, 3) := by decide +kernel
theorem dX2_leastRivals_14 : decode cX2_leastRivals 14 = .ok (.if_icmp .ge 18, 3) := by decide +kernel
theorem dX2_leastRivals_17 : decode cX2_leastRivals 17 = .ok (.iload_n 2, 1) := by decide +kernel
theorem dX2_leastRivals_18 : decode cX2_leastRivals 18 = .ok (.aload_n 0, 1) := by decide +kernel
theorem dX2_leastRivals_19 : decode cX2_leastRivals 19 = .ok (.iload_n 1, 1) := by decide +kernel
theorem dX2_leastRivals_20 : decode cX2_leastRivals 20 = .ok (.iload_n 3, 1) := by decide +kernel
theorem dX2_leastRivals_21 : decode cX2_leastRivals 21 = .ok (.invokevirtual 22, 3) := by decide +kernel
theorem dX2_leastRivals_24 : decode cX2_leastRivals 24 = .ok (.iadd, 1) := by decide +kernel
theorem dX2_leastRivals_25 : decode cX2_leastRivals 25 = .ok (.istore_n 2, 1) := by decide +kernel
theorem dX2_leastRivals_26 : decode cX2_leastRivals 26 = .ok (.iinc 3 1, 3) := by decide +kernel
theorem dX2_leastRivals_29 : decode cX2_leastRivals 29 = .ok (.goto (-20), 3) := by decide +kernel
theorem dX2_leastRivals_32 : decode cX2_leastRivals 32 = .ok (.iconst 1, 1) := by decide +kernel
theorem dX2_leastRivals_33 : decode cX2_leastRivals 33 = .ok (.istore_n 3, 1) := by decide +kernel
theorem dX2_leastRivals_34 : decode cX2_leastRivals 34 = .ok (.iload_n 3, 1) := by decide +kernel
theorem dX2_leastRivals_35 : decode cX2_leastRivals 35 = .ok (.iconst 1, 1) := by decide +kernel
theorem dX2_leastRivals_36 : decode cX2_leastRivals 36 = .ok (.aload_n 0, 1) := by decide +kernel
theorem dX2_leastRivals_37 : decode cX2_leastRivals 37 = .ok (.getfield 18, 3) := by decide +kernel
theorem dX2_leastRivals_40 : decode cX2_leastRivals 40 = .ok (.ishl, 1) := by decide +kernel
theorem dX2_leastRivals_41 : decode cX2_leastRivals 41 = .ok (.if_icmp .ge 33, 3) := by decide +kernel
theorem dX2_leastRivals_44 : decode cX2_leastRivals 44 = .ok (.iload_n 3, 1) := by decide +kernel
theorem dX2_leastRivals_45 : decode cX2_leastRivals 45 = .ok (.iload_n 1, 1) := by decide +kernel
theorem dX2_leastRivals_46 : decode cX2_leastRivals 46 = .ok (.invokestatic 26, 3) := by decide +kernel
theorem dX2_leastRivals_49 : decode cX2_leastRivals 49 = .ok (.ifCond .ne 19, 3) := by decide +kernel
theorem dX2_leastRivals_52 : decode cX2_leastRivals 52 = .ok (.aload_n 0, 1) := by decide +kernel
theorem dX2_leastRivals_53 : decode cX2_leastRivals 53 = .ok (.iload_n 3, 1) := by decide +kernel
theorem dX2_leastRivals_54 : decode cX2_leastRivals 54 = .ok (.invokevirtual 30, 3) := by decide +kernel
theorem dX2_leastRivals_57 : decode cX2_leastRivals 57 = .ok (.iload_n 3, 1) := by decide +kernel
theorem dX2_leastRivals_58 : decode cX2_leastRivals 58 = .ok (.invokestatic 34, 3) := by decide +kernel
theorem dX2_leastRivals_61 : decode cX2_leastRivals 61 = .ok (.iload_n 2, 1) := by decide +kernel
theorem dX2_leastRivals_62 : decode cX2_leastRivals 62 = .ok (.imul, 1) := by decide +kernel
theorem dX2_leastRivals_63 : decode cX2_leastRivals 63 = .ok (.if_icmp .le 5, 3) := by decide +kernel
theorem dX2_leastRivals_66 : decode cX2_leastRivals 66 = .ok (.iload_n 3, 1) := by decide +kernel
theorem dX2_leastRivals_67 : decode cX2_leastRivals 67 = .ok (.ireturn, 1) := by decide +kernel
theorem dX2_leastRivals_68 : decode cX2_leastRivals 68 = .ok (.iinc 3 1, 3) := by decide +kernel
theorem dX2_leastRivals_71 : decode cX2_leastRivals 71 = .ok (.goto (-37), 3) := by decide +kernel
theorem dX2_leastRivals_74 : decode cX2_leastRivals 74 = .ok (.iconst 0, 1) := by decide +kernel
theorem dX2_leastRivals_75 : decode cX2_leastRivals 75 = .ok (.ireturn, 1) := by decide +kernel
theorem dX2_winsTogether_0 : decode cX2_winsTogether 0 = .ok (.iconst 0, 1) := by decide +kernel
theorem dX2_winsTogether_1 : decode cX2_winsTogether 1 = .ok (.istore_n 2, 1) := by decide +kernel
theorem dX2_winsTogether_2 : decode cX2_winsTogether 2 = .ok (.iconst 0, 1) := by decide +kernel
theorem dX2_winsTogether_3 : decode cX2_winsTogether 3 = .ok (.istore_n 3, 1) := by decide +kernel
theorem dX2_winsTogether_4 : decode cX2_winsTogether 4 = .ok (.iload_n 3, 1) := by decide +kernel
theorem dX2_winsTogether_5 : decode cX2_winsTogether 5 = .ok (.aload_n 0, 1) := by decide +kernel
theorem dX2_winsTogether_6 : decode cX2_winsTogether 6 = .ok (.getfield 18, 3) := by decide +kernel
theorem dX2_winsTogether_9 : decode cX2_winsTogether 9 = .ok (.if_icmp .ge 69, 3) := by decide +kernel
theorem dX2_winsTogether_12 : decode cX2_winsTogether 12 = .ok (.iload_n 1, 1) := by decide +kernel
theorem dX2_winsTogether_13 : decode cX2_winsTogether 13 = .ok (.iload_n 3, 1) := by decide +kernel
theorem dX2_winsTogether_14 : decode cX2_winsTogether 14 = .ok (.invokestatic 26, 3) := by decide +kernel
theorem dX2_winsTogether_17 : decode cX2_winsTogether 17 = .ok (.ifCond .eq 55, 3) := by decide +kernel
theorem dX2_winsTogether_20 : decode cX2_winsTogether 20 = .ok (.iload_n 2, 1) := by decide +kernel
theorem dX2_winsTogether_21 : decode cX2_winsTogether 21 = .ok (.aload_n 0, 1) := by decide +kernel
theorem dX2_winsTogether_22 : decode cX2_winsTogether 22 = .ok (.getfield 11, 3) := by decide +kernel
theorem dX2_winsTogether_25 : decode cX2_winsTogether 25 = .ok (.iload_n 3, 1) := by decide +kernel
theorem dX2_winsTogether_26 : decode cX2_winsTogether 26 = .ok (.iaload, 1) := by decide +kernel
theorem dX2_winsTogether_27 : decode cX2_winsTogether 27 = .ok (.iadd, 1) := by decide +kernel
theorem dX2_winsTogether_28 : decode cX2_winsTogether 28 = .ok (.istore_n 2, 1) := by decide +kernel
theorem dX2_winsTogether_29 : decode cX2_winsTogether 29 = .ok (.iload_n 3, 1) := by decide +kernel
theorem dX2_winsTogether_30 : decode cX2_winsTogether 30 = .ok (.iconst 1, 1) := by decide +kernel
theorem dX2_winsTogether_31 : decode cX2_winsTogether 31 = .ok (.iadd, 1) := by decide +kernel
theorem dX2_winsTogether_32 : decode cX2_winsTogether 32 = .ok (.istore 4, 2) := by decide +kernel
theorem dX2_winsTogether_34 : decode cX2_winsTogether 34 = .ok (.iload 4, 2) := by decide +kernel
theorem dX2_winsTogether_36 : decode cX2_winsTogether 36 = .ok (.aload_n 0, 1) := by decide +kernel
theorem dX2_winsTogether_37 : decode cX2_winsTogether 37 = .ok (.getfield 18, 3) := by decide +kernel
theorem dX2_winsTogether_40 : decode cX2_winsTogether 40 = .ok (.if_icmp .ge 32, 3) := by decide +kernel
theorem dX2_winsTogether_43 : decode cX2_winsTogether 43 = .ok (.iload_n 2, 1) := by decide +kernel
theorem dX2_winsTogether_44 : decode cX2_winsTogether 44 = .ok (.iload_n 1, 1) := by decide +kernel
theorem dX2_winsTogether_45 : decode cX2_winsTogether 45 = .ok (.iload 4, 2) := by decide +kernel
theorem dX2_winsTogether_47 : decode cX2_winsTogether 47 = .ok (.invokestatic 26, 3) := by decide +kernel
theorem dX2_winsTogether_50 : decode cX2_winsTogether 50 = .ok (.ifCond .eq 13, 3) := by decide +kernel
theorem dX2_winsTogether_53 : decode cX2_winsTogether 53 = .ok (.aload_n 0, 1) := by decide +kernel
theorem dX2_winsTogether_54 : decode cX2_winsTogether 54 = .ok (.iload_n 3, 1) := by decide +kernel
theorem dX2_winsTogether_55 : decode cX2_winsTogether 55 = .ok (.iload 4, 2) := by decide +kernel
theorem dX2_winsTogether_57 : decode cX2_winsTogether 57 = .ok (.invokevirtual 22, 3) := by decide +kernel
theorem dX2_winsTogether_60 : decode cX2_winsTogether 60 = .ok (.goto 4, 3) := by decide +kernel
theorem dX2_winsTogether_63 : decode cX2_winsTogether 63 = .ok (.iconst 0, 1) := by decide +kernel
theorem dX2_winsTogether_64 : decode cX2_winsTogether 64 = .ok (.iadd, 1) := by decide +kernel
theorem dX2_winsTogether_65 : decode cX2_winsTogether 65 = .ok (.istore_n 2, 1) := by decide +kernel
theorem dX2_winsTogether_66 : decode cX2_winsTogether 66 = .ok (.iinc 4 1, 3) := by decide +kernel
theorem dX2_winsTogether_69 : decode cX2_winsTogether 69 = .ok (.goto (-35), 3) := by decide +kernel
theorem dX2_winsTogether_72 : decode cX2_winsTogether 72 = .ok (.iinc 3 1, 3) := by decide +kernel
theorem dX2_winsTogether_75 : decode cX2_winsTogether 75 = .ok (.goto (-71), 3) := by decide +kernel
theorem dX2_winsTogether_78 : decode cX2_winsTogether 78 = .ok (.iload_n 2, 1) := by decide +kernel
theorem dX2_winsTogether_79 : decode cX2_winsTogether 79 = .ok (.ireturn, 1) := by decide +kernel
theorem dX3_init_0 : decode cX3_init 0 = .ok (.aload_n 0, 1) := by decide +kernel
theorem dX3_init_1 : decode cX3_init 1 = .ok (.invokespecial 3, 3) := by decide +kernel
theorem dX3_init_4 : decode cX3_init 4 = .ok (.aload_n 0, 1) := by decide +kernel
theorem dX3_init_5 : decode cX3_init 5 = .ok (.iload_n 1, 1) := by decide +kernel
theorem dX3_init_6 : decode cX3_init 6 = .ok (.putfield 9, 3) := by decide +kernel
theorem dX3_init_9 : decode cX3_init 9 = .ok (.aload_n 0, 1) := by decide +kernel
theorem dX3_init_10 : decode cX3_init 10 = .ok (.bipush 16, 2) := by decide +kernel
theorem dX3_init_12 : decode cX3_init 12 = .ok (.newarray .int, 2) := by decide +kernel
theorem dX3_init_14 : decode cX3_init 14 = .ok (.putfield 15, 3) := by decide +kernel
theorem dX3_init_17 : decode cX3_init 17 = .ok (.aload_n 0, 1) := by decide +kernel
theorem dX3_init_18 : decode cX3_init 18 = .ok (.bipush 16, 2) := by decide +kernel
theorem dX3_init_20 : decode cX3_init 20 = .ok (.newarray .int, 2) := by decide +kernel
theorem dX3_init_22 : decode cX3_init 22 = .ok (.putfield 19, 3) := by decide +kernel
theorem dX3_init_25 : decode cX3_init 25 = .ok (.aload_n 0, 1) := by decide +kernel
theorem dX3_init_26 : decode cX3_init 26 = .ok (.bipush 16, 2) := by decide +kernel
theorem dX3_init_28 : decode cX3_init 28 = .ok (.newarray .int, 2) := by decide +kernel
theorem dX3_init_30 : decode cX3_init 30 = .ok (.putfield 22, 3) := by decide +kernel
theorem dX3_init_33 : decode cX3_init 33 = .ok (.aload_n 0, 1) := by decide +kernel
theorem dX3_init_34 : decode cX3_init 34 = .ok (.bipush 16, 2) := by decide +kernel
theorem dX3_init_36 : decode cX3_init 36 = .ok (.newarray .int, 2) := by decide +kernel
theorem dX3_init_38 : decode cX3_init 38 = .ok (.putfield 25, 3) := by decide +kernel
theorem dX3_init_41 : decode cX3_init 41 = .ok (.aload_n 0, 1) := by decide +kernel
theorem dX3_init_42 : decode cX3_init 42 = .ok (.bipush 16, 2) := by decide +kernel
theorem dX3_init_44 : decode cX3_init 44 = .ok (.newarray .int, 2) := by decide +kernel
theorem dX3_init_46 : decode cX3_init 46 = .ok (.putfield 28, 3) := by decide +kernel
theorem dX3_init_49 : decode cX3_init 49 = .ok (.aload_n 0, 1) := by decide +kernel
theorem dX3_init_50 : decode cX3_init 50 = .ok (.bipush 8, 2) := by decide +kernel
theorem dX3_init_52 : decode cX3_init 52 = .ok (.newarray .int, 2) := by decide +kernel
theorem dX3_init_54 : decode cX3_init 54 = .ok (.putfield 31, 3) := by decide +kernel
theorem dX3_init_57 : decode cX3_init 57 = .ok (.return_, 1) := by decide +kernel
theorem dX3_put_0 : decode cX3_put 0 = .ok (.aload_n 0, 1) := by decide +kernel
theorem dX3_put_1 : decode cX3_put 1 = .ok (.getfield 34, 3) := by decide +kernel
theorem dX3_put_4 : decode cX3_put 4 = .ok (.ifCond .lt 12, 3) := by decide +kernel
theorem dX3_put_7 : decode cX3_put 7 = .ok (.aload_n 0, 1) := by decide +kernel
theorem dX3_put_8 : decode cX3_put 8 = .ok (.getfield 34, 3) := by decide +kernel
theorem dX3_put_11 : decode cX3_put 11 = .ok (.bipush 16, 2) := by decide +kernel
theorem dX3_put_13 : decode cX3_put 13 = .ok (.if_icmp .lt 5, 3) := by decide +kernel
theorem dX3_put_16 : decode cX3_put 16 = .ok (.iconst (-1), 1) := by decide +kernel
theorem dX3_put_17 : decode cX3_put 17 = .ok (.ireturn, 1) := by decide +kernel
theorem dX3_put_18 : decode cX3_put 18 = .ok (.aload_n 0, 1) := by decide +kernel
theorem dX3_put_19 : decode cX3_put 19 = .ok (.getfield 15, 3) := by decide +kernel
theorem dX3_put_22 : decode cX3_put 22 = .ok (.aload_n 0, 1) := by decide +kernel
theorem dX3_put_23 : decode cX3_put 23 = .ok (.getfield 34, 3) := by decide +kernel
theorem dX3_put_26 : decode cX3_put 26 = .ok (.iload_n 1, 1) := by decide +kernel
theorem dX3_put_27 : decode cX3_put 27 = .ok (.iastore, 1) := by decide +kernel
theorem dX3_put_28 : decode cX3_put 28 = .ok (.aload_n 0, 1) := by decide +kernel
theorem dX3_put_29 : decode cX3_put 29 = .ok (.getfield 19, 3) := by decide +kernel
theorem dX3_put_32 : decode cX3_put 32 = .ok (.aload_n 0, 1) := by decide +kernel
theorem dX3_put_33 : decode cX3_put 33 = .ok (.getfield 34, 3) := by decide +kernel
theorem dX3_put_36 : decode cX3_put 36 = .ok (.iload_n 2, 1) := by decide +kernel
theorem dX3_put_37 : decode cX3_put 37 = .ok (.iastore, 1) := by decide +kernel
theorem dX3_put_38 : decode cX3_put 38 = .ok (.aload_n 0, 1) := by decide +kernel
theorem dX3_put_39 : decode cX3_put 39 = .ok (.dup, 1) := by decide +kernel
theorem dX3_put_40 : decode cX3_put 40 = .ok (.getfield 34, 3) := by decide +kernel
theorem dX3_put_43 : decode cX3_put 43 = .ok (.iconst 1, 1) := by decide +kernel
theorem dX3_put_44 : decode cX3_put 44 = .ok (.iadd, 1) := by decide +kernel
theorem dX3_put_45 : decode cX3_put 45 = .ok (.putfield 34, 3) := by decide +kernel
theorem dX3_put_48 : decode cX3_put 48 = .ok (.aload_n 0, 1) := by decide +kernel
theorem dX3_put_49 : decode cX3_put 49 = .ok (.aload_n 0, 1) := by decide +kernel
theorem dX3_put_50 : decode cX3_put 50 = .ok (.getfield 34, 3) := by decide +kernel
theorem dX3_put_53 : decode cX3_put 53 = .ok (.iconst 1, 1) := by decide +kernel
theorem dX3_put_54 : decode cX3_put 54 = .ok (.isub, 1) := by decide +kernel
theorem dX3_put_55 : decode cX3_put 55 = .ok (.iload_n 3, 1) := by decide +kernel
theorem dX3_put_56 : decode cX3_put 56 = .ok (.iload 4, 2) := by decide +kernel
theorem dX3_put_58 : decode cX3_put 58 = .ok (.iload 5, 2) := by decide +kernel
theorem dX3_put_60 : decode cX3_put 60 = .ok (.invokevirtual 37, 3) := by decide +kernel
theorem dX3_put_63 : decode cX3_put 63 = .ok (.aload_n 0, 1) := by decide +kernel
theorem dX3_put_64 : decode cX3_put 64 = .ok (.getfield 34, 3) := by decide +kernel
theorem dX3_put_67 : decode cX3_put 67 = .ok (.iconst 1, 1) := by decide +kernel
theorem dX3_put_68 : decode cX3_put 68 = .ok (.isub, 1) := by decide +kernel
theorem dX3_put_69 : decode cX3_put 69 = .ok (.ireturn, 1) := by decide +kernel
theorem dX3_set_0 : decode cX3_set 0 = .ok (.iload_n 1, 1) := by decide +kernel
theorem dX3_set_1 : decode cX3_set 1 = .ok (.ifCond .lt 33, 3) := by decide +kernel
theorem dX3_set_4 : decode cX3_set 4 = .ok (.iload_n 1, 1) := by decide +kernel
theorem dX3_set_5 : decode cX3_set 5 = .ok (.aload_n 0, 1) := by decide +kernel
theorem dX3_set_6 : decode cX3_set 6 = .ok (.getfield 34, 3) := by decide +kernel
theorem dX3_set_9 : decode cX3_set 9 = .ok (.if_icmp .ge 25, 3) := by decide +kernel
theorem dX3_set_12 : decode cX3_set 12 = .ok (.aload_n 0, 1) := by decide +kernel
theorem dX3_set_13 : decode cX3_set 13 = .ok (.getfield 22, 3) := by decide +kernel
theorem dX3_set_16 : decode cX3_set 16 = .ok (.iload_n 1, 1) := by decide +kernel
theorem dX3_set_17 : decode cX3_set 17 = .ok (.iload_n 2, 1) := by decide +kernel
theorem dX3_set_18 : decode cX3_set 18 = .ok (.iastore, 1) := by decide +kernel
theorem dX3_set_19 : decode cX3_set 19 = .ok (.aload_n 0, 1) := by decide +kernel
theorem dX3_set_20 : decode cX3_set 20 = .ok (.getfield 25, 3) := by decide +kernel
theorem dX3_set_23 : decode cX3_set 23 = .ok (.iload_n 1, 1) := by decide +kernel
theorem dX3_set_24 : decode cX3_set 24 = .ok (.iload_n 3, 1) := by decide +kernel
theorem dX3_set_25 : decode cX3_set 25 = .ok (.iastore, 1) := by decide +kernel
theorem dX3_set_26 : decode cX3_set 26 = .ok (.aload_n 0, 1) := by decide +kernel
theorem dX3_set_27 : decode cX3_set 27 = .ok (.getfield 28, 3) := by decide +kernel
theorem dX3_set_30 : decode cX3_set 30 = .ok (.iload_n 1, 1) := by decide +kernel
theorem dX3_set_31 : decode cX3_set 31 = .ok (.iload 4, 2) := by decide +kernel
theorem dX3_set_33 : decode cX3_set 33 = .ok (.iastore, 1) := by decide +kernel
theorem dX3_set_34 : decode cX3_set 34 = .ok (.return_, 1) := by decide +kernel
theorem dX3_takeOut_0 : decode cX3_takeOut 0 = .ok (.iload_n 1, 1) := by decide +kernel
theorem dX3_takeOut_1 : decode cX3_takeOut 1 = .ok (.ifCond .lt 11, 3) := by decide +kernel
theorem dX3_takeOut_4 : decode cX3_takeOut 4 = .ok (.iload_n 1, 1) := by decide +kernel
theorem dX3_takeOut_5 : decode cX3_takeOut 5 = .ok (.aload_n 0, 1) := by decide +kernel
theorem dX3_takeOut_6 : decode cX3_takeOut 6 = .ok (.getfield 34, 3) := by decide +kernel
theorem dX3_takeOut_9 : decode cX3_takeOut 9 = .ok (.if_icmp .lt 4, 3) := by decide +kernel
theorem dX3_takeOut_12 : decode cX3_takeOut 12 = .ok (.return_, 1) := by decide +kernel
theorem dX3_takeOut_13 : decode cX3_takeOut 13 = .ok (.iload_n 1, 1) := by decide +kernel
theorem dX3_takeOut_14 : decode cX3_takeOut 14 = .ok (.iconst 1, 1) := by decide +kernel
theorem dX3_takeOut_15 : decode cX3_takeOut 15 = .ok (.iadd, 1) := by decide +kernel
theorem dX3_takeOut_16 : decode cX3_takeOut 16 = .ok (.istore_n 2, 1) := by decide +kernel
theorem dX3_takeOut_17 : decode cX3_takeOut 17 = .ok (.iload_n 2, 1) := by decide +kernel
theorem dX3_takeOut_18 : decode cX3_takeOut 18 = .ok (.aload_n 0, 1) := by decide +kernel
theorem dX3_takeOut_19 : decode cX3_takeOut 19 = .ok (.getfield 34, 3) := by decide +kernel
theorem dX3_takeOut_22 : decode cX3_takeOut 22 = .ok (.if_icmp .ge 62, 3) := by decide +kernel
theorem dX3_takeOut_25 : decode cX3_takeOut 25 = .ok (.aload_n 0, 1) := by decide +kernel
theorem dX3_takeOut_26 : decode cX3_takeOut 26 = .ok (.getfield 15, 3) := by decide +kernel
theorem dX3_takeOut_29 : decode cX3_takeOut 29 = .ok (.iload_n 2, 1) := by decide +kernel
theorem dX3_takeOut_30 : decode cX3_takeOut 30 = .ok (.iconst 1, 1) := by decide +kernel
theorem dX3_takeOut_31 : decode cX3_takeOut 31 = .ok (.isub, 1) := by decide +kernel
theorem dX3_takeOut_32 : decode cX3_takeOut 32 = .ok (.aload_n 0, 1) := by decide +kernel
theorem dX3_takeOut_33 : decode cX3_takeOut 33 = .ok (.getfield 15, 3) := by decide +kernel
theorem dX3_takeOut_36 : decode cX3_takeOut 36 = .ok (.iload_n 2, 1) := by decide +kernel
theorem dX3_takeOut_37 : decode cX3_takeOut 37 = .ok (.iaload, 1) := by decide +kernel
theorem dX3_takeOut_38 : decode cX3_takeOut 38 = .ok (.iastore, 1) := by decide +kernel
theorem dX3_takeOut_39 : decode cX3_takeOut 39 = .ok (.aload_n 0, 1) := by decide +kernel
theorem dX3_takeOut_40 : decode cX3_takeOut 40 = .ok (.getfield 19, 3) := by decide +kernel
theorem dX3_takeOut_43 : decode cX3_takeOut 43 = .ok (.iload_n 2, 1) := by decide +kernel
theorem dX3_takeOut_44 : decode cX3_takeOut 44 = .ok (.iconst 1, 1) := by decide +kernel
theorem dX3_takeOut_45 : decode cX3_takeOut 45 = .ok (.isub, 1) := by decide +kernel
theorem dX3_takeOut_46 : decode cX3_takeOut 46 = .ok (.aload_n 0, 1) := by decide +kernel
theorem dX3_takeOut_47 : decode cX3_takeOut 47 = .ok (.getfield 19, 3) := by decide +kernel
theorem dX3_takeOut_50 : decode cX3_takeOut 50 = .ok (.iload_n 2, 1) := by decide +kernel
theorem dX3_takeOut_51 : decode cX3_takeOut 51 = .ok (.iaload, 1) := by decide +kernel
theorem dX3_takeOut_52 : decode cX3_takeOut 52 = .ok (.iastore, 1) := by decide +kernel
theorem dX3_takeOut_53 : decode cX3_takeOut 53 = .ok (.aload_n 0, 1) := by decide +kernel
theorem dX3_takeOut_54 : decode cX3_takeOut 54 = .ok (.iload_n 2, 1) := by decide +kernel
theorem dX3_takeOut_55 : decode cX3_takeOut 55 = .ok (.iconst 1, 1) := by decide +kernel
theorem dX3_takeOut_56 : decode cX3_takeOut 56 = .ok (.isub, 1) := by decide +kernel
theorem dX3_takeOut_57 : decode cX3_takeOut 57 = .ok (.aload_n 0, 1) := by decide +kernel
theorem dX3_takeOut_58 : decode cX3_takeOut 58 = .ok (.getfield 22, 3) := by decide +kernel
theorem dX3_takeOut_61 : decode cX3_takeOut 61 = .ok (.iload_n 2, 1) := by decide +kernel
theorem dX3_takeOut_62 : decode cX3_takeOut 62 = .ok (.iaload, 1) := by decide +kernel
theorem dX3_takeOut_63 : decode cX3_takeOut 63 = .ok (.aload_n 0, 1) := by decide +kernel
theorem dX3_takeOut_64 : decode cX3_takeOut 64 = .ok (.getfield 25, 3) := by decide +kernel
theorem dX3_takeOut_67 : decode cX3_takeOut 67 = .ok (.iload_n 2, 1) := by decide +kernel
theorem dX3_takeOut_68 : decode cX3_takeOut 68 = .ok (.iaload, 1) := by decide +kernel
theorem dX3_takeOut_69 : decode cX3_takeOut 69 = .ok (.aload_n 0, 1) := by decide +kernel
theorem dX3_takeOut_70 : decode cX3_takeOut 70 = .ok (.getfield 28, 3) := by decide +kernel
theorem dX3_takeOut_73 : decode cX3_takeOut 73 = .ok (.iload_n 2, 1) := by decide +kernel
theorem dX3_takeOut_74 : decode cX3_takeOut 74 = .ok (.iaload, 1) := by decide +kernel
theorem dX3_takeOut_75 : decode cX3_takeOut 75 = .ok (.invokevirtual 37, 3) := by decide +kernel
theorem dX3_takeOut_78 : decode cX3_takeOut 78 = .ok (.iinc 2 1, 3) := by decide +kernel
theorem dX3_takeOut_81 : decode cX3_takeOut 81 = .ok (.goto (-64), 3) := by decide +kernel
theorem dX3_takeOut_84 : decode cX3_takeOut 84 = .ok (.aload_n 0, 1) := by decide +kernel
theorem dX3_takeOut_85 : decode cX3_takeOut 85 = .ok (.dup, 1) := by decide +kernel
theorem dX3_takeOut_86 : decode cX3_takeOut 86 = .ok (.getfield 34, 3) := by decide +kernel
theorem dX3_takeOut_89 : decode cX3_takeOut 89 = .ok (.iconst 1, 1) := by decide +kernel
theorem dX3_takeOut_90 : decode cX3_takeOut 90 = .ok (.isub, 1) := by decide +kernel
theorem dX3_takeOut_91 : decode cX3_takeOut 91 = .ok (.putfield 34, 3) := by decide +kernel
theorem dX3_takeOut_94 : decode cX3_takeOut 94 = .ok (.return_, 1) := by decide +kernel
theorem dX3_hasLeast_0 : decode cX3_hasLeast 0 = .ok (.iconst 0, 1) := by decide +kernel
theorem dX3_hasLeast_1 : decode cX3_hasLeast 1 = .ok (.istore_n 1, 1) := by decide +kernel
theorem dX3_hasLeast_2 : decode cX3_hasLeast 2 = .ok (.iload_n 1, 1) := by decide +kernel
theorem dX3_hasLeast_3 : decode cX3_hasLeast 3 = .ok (.aload_n 0, 1) := by decide +kernel
theorem dX3_hasLeast_4 : decode cX3_hasLeast 4 = .ok (.getfield 34, 3) := by decide +kernel
theorem dX3_hasLeast_7 : decode cX3_hasLeast 7 = .ok (.if_icmp .ge 20, 3) := by decide +kernel
theorem dX3_hasLeast_10 : decode cX3_hasLeast 10 = .ok (.aload_n 0, 1) := by decide +kernel
theorem dX3_hasLeast_11 : decode cX3_hasLeast 11 = .ok (.getfield 22, 3) := by decide +kernel
theorem dX3_hasLeast_14 : decode cX3_hasLeast 14 = .ok (.iload_n 1, 1) := by decide +kernel
theorem dX3_hasLeast_15 : decode cX3_hasLeast 15 = .ok (.iaload, 1) := by decide +kernel
theorem dX3_hasLeast_16 : decode cX3_hasLeast 16 = .ok (.ifCond .eq 5, 3) := by decide +kernel
theorem dX3_hasLeast_19 : decode cX3_hasLeast 19 = .ok (.iconst 1, 1) := by decide +kernel
theorem dX3_hasLeast_20 : decode cX3_hasLeast 20 = .ok (.ireturn, 1) := by decide +kernel
theorem dX3_hasLeast_21 : decode cX3_hasLeast 21 = .ok (.iinc 1 1, 3) := by decide +kernel
theorem dX3_hasLeast_24 : decode cX3_hasLeast 24 = .ok (.goto (-22), 3) := by decide +kernel
theorem dX3_hasLeast_27 : decode cX3_hasLeast 27 = .ok (.iconst 0, 1) := by decide +kernel
theorem dX3_hasLeast_28 : decode cX3_hasLeast 28 = .ok (.ireturn, 1) := by decide +kernel
theorem dX3_leadsStraight_0 : decode cX3_leadsStraight 0 = .ok (.iconst 0, 1) := by decide +kernel
theorem dX3_leadsStraight_1 : decode cX3_leadsStraight 1 = .ok (.istore_n 3, 1) := by decide +kernel
theorem dX3_leadsStraight_2 : decode cX3_leadsStraight 2 = .ok (.iload_n 3, 1) := by decide +kernel
theorem dX3_leadsStraight_3 : decode cX3_leadsStraight 3 = .ok (.aload_n 0, 1) := by decide +kernel
theorem dX3_leadsStraight_4 : decode cX3_leadsStraight 4 = .ok (.getfield 34, 3) := by decide +kernel
theorem dX3_leadsStraight_7 : decode cX3_leadsStraight 7 = .ok (.if_icmp .ge 40, 3) := by decide +kernel
theorem dX3_leadsStraight_10 : decode cX3_leadsStraight 10 = .ok (.aload_n 0, 1) := by decide +kernel
theorem dX3_leadsStraight_11 : decode cX3_leadsStraight 11 = .ok (.getfield 15, 3) := by decide +kernel
theorem dX3_leadsStraight_14 : decode cX3_leadsStraight 14 = .ok (.iload_n 3, 1) := by decide +kernel
theorem dX3_leadsStraight_15 : decode cX3_leadsStraight 15 = .ok (.iaload, 1) := by decide +kernel
theorem dX3_leadsStraight_16 : decode cX3_leadsStraight 16 = .ok (.iload_n 1, 1) := by decide +kernel
theorem dX3_leadsStraight_17 : decode cX3_leadsStraight 17 = .ok (.if_icmp .ne 24, 3) := by decide +kernel
theorem dX3_leadsStraight_20 : decode cX3_leadsStraight 20 = .ok (.aload_n 0, 1) := by decide +kernel
theorem dX3_leadsStraight_21 : decode cX3_leadsStraight 21 = .ok (.getfield 19, 3) := by decide +kernel
theorem dX3_leadsStraight_24 : decode cX3_leadsStraight 24 = .ok (.iload_n 3, 1) := by decide +kernel
theorem dX3_leadsStraight_25 : decode cX3_leadsStraight 25 = .ok (.iaload, 1) := by decide +kernel
theorem dX3_leadsStraight_26 : decode cX3_leadsStraight 26 = .ok (.iload_n 2, 1) := by decide +kernel
theorem dX3_leadsStraight_27 : decode cX3_leadsStraight 27 = .ok (.if_icmp .ne 14, 3) := by decide +kernel
theorem dX3_leadsStraight_30 : decode cX3_leadsStraight 30 = .ok (.aload_n 0, 1) := by decide +kernel
theorem dX3_leadsStraight_31 : decode cX3_leadsStraight 31 = .ok (.getfield 25, 3) := by decide +kernel
theorem dX3_leadsStraight_34 : decode cX3_leadsStraight 34 = .ok (.iload_n 3, 1) := by decide +kernel
theorem dX3_leadsStraight_35 : decode cX3_leadsStraight 35 = .ok (.iaload, 1) := by decide +kernel
theorem dX3_leadsStraight_36 : decode cX3_leadsStraight 36 = .ok (.ifCond .eq 5, 3) := by decide +kernel
theorem dX3_leadsStraight_39 : decode cX3_leadsStraight 39 = .ok (.iconst 1, 1) := by decide +kernel
theorem dX3_leadsStraight_40 : decode cX3_leadsStraight 40 = .ok (.ireturn, 1) := by decide +kernel
theorem dX3_leadsStraight_41 : decode cX3_leadsStraight 41 = .ok (.iinc 3 1, 3) := by decide +kernel
theorem dX3_leadsStraight_44 : decode cX3_leadsStraight 44 = .ok (.goto (-42), 3) := by decide +kernel
theorem dX3_leadsStraight_47 : decode cX3_leadsStraight 47 = .ok (.iconst 0, 1) := by decide +kernel
theorem dX3_leadsStraight_48 : decode cX3_leadsStraight 48 = .ok (.ireturn, 1) := by decide +kernel
theorem dX3_reachFrom_0 : decode cX3_reachFrom 0 = .ok (.iconst 1, 1) := by decide +kernel
theorem dX3_reachFrom_1 : decode cX3_reachFrom 1 = .ok (.iload_n 1, 1) := by decide +kernel
theorem dX3_reachFrom_2 : decode cX3_reachFrom 2 = .ok (.ishl, 1) := by decide +kernel
theorem dX3_reachFrom_3 : decode cX3_reachFrom 3 = .ok (.istore_n 3, 1) := by decide +kernel
theorem dX3_reachFrom_4 : decode cX3_reachFrom 4 = .ok (.iconst 0, 1) := by decide +kernel
theorem dX3_reachFrom_5 : decode cX3_reachFrom 5 = .ok (.istore 4, 2) := by decide +kernel
theorem dX3_reachFrom_7 : decode cX3_reachFrom 7 = .ok (.iload 4, 2) := by decide +kernel
theorem dX3_reachFrom_9 : decode cX3_reachFrom 9 = .ok (.aload_n 0, 1) := by decide +kernel
theorem dX3_reachFrom_10 : decode cX3_reachFrom 10 = .ok (.getfield 9, 3) := by decide +kernel
theorem dX3_reachFrom_13 : decode cX3_reachFrom 13 = .ok (.if_icmp .ge 88, 3) := by decide +kernel
theorem dX3_reachFrom_16 : decode cX3_reachFrom 16 = .ok (.iload_n 3, 1) := by decide +kernel
theorem dX3_reachFrom_17 : decode cX3_reachFrom 17 = .ok (.istore 5, 2) := by decide +kernel
theorem dX3_reachFrom_19 : decode cX3_reachFrom 19 = .ok (.iconst 0, 1) := by decide +kernel
theorem dX3_reachFrom_20 : decode cX3_reachFrom 20 = .ok (.istore 6, 2) := by decide +kernel
theorem dX3_reachFrom_22 : decode cX3_reachFrom 22 = .ok (.iload 6, 2) := by decide +kernel
theorem dX3_reachFrom_24 : decode cX3_reachFrom 24 = .ok (.aload_n 0, 1) := by decide +kernel
theorem dX3_reachFrom_25 : decode cX3_reachFrom 25 = .ok (.getfield 34, 3) := by decide +kernel
theorem dX3_reachFrom_28 : decode cX3_reachFrom 28 = .ok (.if_icmp .ge 59, 3) := by decide +kernel
theorem dX3_reachFrom_31 : decode cX3_reachFrom 31 = .ok (.aload_n 0, 1) := by decide +kernel
theorem dX3_reachFrom_32 : decode cX3_reachFrom 32 = .ok (.getfield 25, 3) := by decide +kernel
theorem dX3_reachFrom_35 : decode cX3_reachFrom 35 = .ok (.iload 6, 2) := by decide +kernel
theorem dX3_reachFrom_37 : decode cX3_reachFrom 37 = .ok (.iaload, 1) := by decide +kernel
theorem dX3_reachFrom_38 : decode cX3_reachFrom 38 = .ok (.ifCond .eq 43, 3) := by decide +kernel
theorem dX3_reachFrom_41 : decode cX3_reachFrom 41 = .ok (.iload_n 3, 1) := by decide +kernel
theorem dX3_reachFrom_42 : decode cX3_reachFrom 42 = .ok (.aload_n 0, 1) := by decide +kernel
theorem dX3_reachFrom_43 : decode cX3_reachFrom 43 = .ok (.getfield 15, 3) := by decide +kernel
theorem dX3_reachFrom_46 : decode cX3_reachFrom 46 = .ok (.iload 6, 2) := by decide +kernel
theorem dX3_reachFrom_48 : decode cX3_reachFrom 48 = .ok (.iaload, 1) := by decide +kernel
theorem dX3_reachFrom_49 : decode cX3_reachFrom 49 = .ok (.invokestatic 41, 3) := by decide +kernel
theorem dX3_reachFrom_52 : decode cX3_reachFrom 52 = .ok (.ifCond .eq 29, 3) := by decide +kernel
theorem dX3_reachFrom_55 : decode cX3_reachFrom 55 = .ok (.iload_n 2, 1) := by decide +kernel
theorem dX3_reachFrom_56 : decode cX3_reachFrom 56 = .ok (.aload_n 0, 1) := by decide +kernel
theorem dX3_reachFrom_57 : decode cX3_reachFrom 57 = .ok (.getfield 19, 3) := by decide +kernel
theorem dX3_reachFrom_60 : decode cX3_reachFrom 60 = .ok (.iload 6, 2) := by decide +kernel
theorem dX3_reachFrom_62 : decode cX3_reachFrom 62 = .ok (.iaload, 1) := by decide +kernel
theorem dX3_reachFrom_63 : decode cX3_reachFrom 63 = .ok (.invokestatic 41, 3) := by decide +kernel
theorem dX3_reachFrom_66 : decode cX3_reachFrom 66 = .ok (.ifCond .ne 15, 3) := by decide +kernel
theorem dX3_reachFrom_69 : decode cX3_reachFrom 69 = .ok (.iload_n 3, 1) := by decide +kernel
theorem dX3_reachFrom_70 : decode cX3_reachFrom 70 = .ok (.iconst 1, 1) := by decide +kernel
theorem dX3_reachFrom_71 : decode cX3_reachFrom 71 = .ok (.aload_n 0, 1) := by decide +kernel
theorem dX3_reachFrom_72 : decode cX3_reachFrom 72 = .ok (.getfield 19, 3) := by decide +kernel
theorem dX3_reachFrom_75 : decode cX3_reachFrom 75 = .ok (.iload 6, 2) := by decide +kernel
theorem dX3_reachFrom_77 : decode cX3_reachFrom 77 = .ok (.iaload, 1) := by decide +kernel
theorem dX3_reachFrom_78 : decode cX3_reachFrom 78 = .ok (.ishl, 1) := by decide +kernel
theorem dX3_reachFrom_79 : decode cX3_reachFrom 79 = .ok (.ior, 1) := by decide +kernel
theorem dX3_reachFrom_80 : decode cX3_reachFrom 80 = .ok (.istore_n 3, 1) := by decide +kernel
theorem dX3_reachFrom_81 : decode cX3_reachFrom 81 = .ok (.iinc 6 1, 3) := by decide +kernel
theorem dX3_reachFrom_84 : decode cX3_reachFrom 84 = .ok (.goto (-62), 3) := by decide +kernel
theorem dX3_reachFrom_87 : decode cX3_reachFrom 87 = .ok (.iload_n 3, 1) := by decide +kernel
theorem dX3_reachFrom_88 : decode cX3_reachFrom 88 = .ok (.iload 5, 2) := by decide +kernel
theorem dX3_reachFrom_90 : decode cX3_reachFrom 90 = .ok (.if_icmp .ne 5, 3) := by decide +kernel
theorem dX3_reachFrom_93 : decode cX3_reachFrom 93 = .ok (.iload_n 3, 1) := by decide +kernel
theorem dX3_reachFrom_94 : decode cX3_reachFrom 94 = .ok (.ireturn, 1) := by decide +kernel
theorem dX3_reachFrom_95 : decode cX3_reachFrom 95 = .ok (.iinc 4 1, 3) := by decide +kernel
theorem dX3_reachFrom_98 : decode cX3_reachFrom 98 = .ok (.goto (-91), 3) := by decide +kernel
theorem dX3_reachFrom_101 : decode cX3_reachFrom 101 = .ok (.iload_n 3, 1) := by decide +kernel
theorem dX3_reachFrom_102 : decode cX3_reachFrom 102 = .ok (.ireturn, 1) := by decide +kernel
theorem dX3_sumOfAll_0 : decode cX3_sumOfAll 0 = .ok (.ldc2_w 45, 3) := by decide +kernel
theorem dX3_sumOfAll_3 : decode cX3_sumOfAll 3 = .ok (.lstore_n 1, 1) := by decide +kernel
theorem dX3_sumOfAll_4 : decode cX3_sumOfAll 4 = .ok (.iconst 0, 1) := by decide +kernel
theorem dX3_sumOfAll_5 : decode cX3_sumOfAll 5 = .ok (.istore_n 3, 1) := by decide +kernel
theorem dX3_sumOfAll_6 : decode cX3_sumOfAll 6 = .ok (.iload_n 3, 1) := by decide +kernel
theorem dX3_sumOfAll_7 : decode cX3_sumOfAll 7 = .ok (.aload_n 0, 1) := by decide +kernel
theorem dX3_sumOfAll_8 : decode cX3_sumOfAll 8 = .ok (.getfield 34, 3) := by decide +kernel
theorem dX3_sumOfAll_11 : decode cX3_sumOfAll 11 = .ok (.if_icmp .ge 79, 3) := by decide +kernel
theorem dX3_sumOfAll_14 : decode cX3_sumOfAll 14 = .ok (.lload_n 1, 1) := by decide +kernel
theorem dX3_sumOfAll_15 : decode cX3_sumOfAll 15 = .ok (.ldc2_w 47, 3) := by decide +kernel
theorem dX3_sumOfAll_18 : decode cX3_sumOfAll 18 = .ok (.lmul, 1) := by decide +kernel
theorem dX3_sumOfAll_19 : decode cX3_sumOfAll 19 = .ok (.aload_n 0, 1) := by decide +kernel
theorem dX3_sumOfAll_20 : decode cX3_sumOfAll 20 = .ok (.getfield 15, 3) := by decide +kernel
theorem dX3_sumOfAll_23 : decode cX3_sumOfAll 23 = .ok (.iload_n 3, 1) := by decide +kernel
theorem dX3_sumOfAll_24 : decode cX3_sumOfAll 24 = .ok (.iaload, 1) := by decide +kernel
theorem dX3_sumOfAll_25 : decode cX3_sumOfAll 25 = .ok (.i2l, 1) := by decide +kernel
theorem dX3_sumOfAll_26 : decode cX3_sumOfAll 26 = .ok (.ladd, 1) := by decide +kernel
theorem dX3_sumOfAll_27 : decode cX3_sumOfAll 27 = .ok (.lstore_n 1, 1) := by decide +kernel
theorem dX3_sumOfAll_28 : decode cX3_sumOfAll 28 = .ok (.lload_n 1, 1) := by decide +kernel
theorem dX3_sumOfAll_29 : decode cX3_sumOfAll 29 = .ok (.ldc2_w 47, 3) := by decide +kernel
theorem dX3_sumOfAll_32 : decode cX3_sumOfAll 32 = .ok (.lmul, 1) := by decide +kernel
theorem dX3_sumOfAll_33 : decode cX3_sumOfAll 33 = .ok (.aload_n 0, 1) := by decide +kernel
theorem dX3_sumOfAll_34 : decode cX3_sumOfAll 34 = .ok (.getfield 19, 3) := by decide +kernel
theorem dX3_sumOfAll_37 : decode cX3_sumOfAll 37 = .ok (.iload_n 3, 1) := by decide +kernel
theorem dX3_sumOfAll_38 : decode cX3_sumOfAll 38 = .ok (.iaload, 1) := by decide +kernel
theorem dX3_sumOfAll_39 : decode cX3_sumOfAll 39 = .ok (.i2l, 1) := by decide +kernel
theorem dX3_sumOfAll_40 : decode cX3_sumOfAll 40 = .ok (.ladd, 1) := by decide +kernel
theorem dX3_sumOfAll_41 : decode cX3_sumOfAll 41 = .ok (.lstore_n 1, 1) := by decide +kernel
theorem dX3_sumOfAll_42 : decode cX3_sumOfAll 42 = .ok (.lload_n 1, 1) := by decide +kernel
theorem dX3_sumOfAll_43 : decode cX3_sumOfAll 43 = .ok (.ldc2_w 47, 3) := by decide +kernel
theorem dX3_sumOfAll_46 : decode cX3_sumOfAll 46 = .ok (.lmul, 1) := by decide +kernel
theorem dX3_sumOfAll_47 : decode cX3_sumOfAll 47 = .ok (.aload_n 0, 1) := by decide +kernel
theorem dX3_sumOfAll_48 : decode cX3_sumOfAll 48 = .ok (.getfield 22, 3) := by decide +kernel
theorem dX3_sumOfAll_51 : decode cX3_sumOfAll 51 = .ok (.iload_n 3, 1) := by decide +kernel
theorem dX3_sumOfAll_52 : decode cX3_sumOfAll 52 = .ok (.iaload, 1) := by decide +kernel
theorem dX3_sumOfAll_53 : decode cX3_sumOfAll 53 = .ok (.i2l, 1) := by decide +kernel
theorem dX3_sumOfAll_54 : decode cX3_sumOfAll 54 = .ok (.ladd, 1) := by decide +kernel
theorem dX3_sumOfAll_55 : decode cX3_sumOfAll 55 = .ok (.lstore_n 1, 1) := by decide +kernel
theorem dX3_sumOfAll_56 : decode cX3_sumOfAll 56 = .ok (.lload_n 1, 1) := by decide +kernel
theorem dX3_sumOfAll_57 : decode cX3_sumOfAll 57 = .ok (.ldc2_w 47, 3) := by decide +kernel
theorem dX3_sumOfAll_60 : decode cX3_sumOfAll 60 = .ok (.lmul, 1) := by decide +kernel
theorem dX3_sumOfAll_61 : decode cX3_sumOfAll 61 = .ok (.aload_n 0, 1) := by decide +kernel
theorem dX3_sumOfAll_62 : decode cX3_sumOfAll 62 = .ok (.getfield 25, 3) := by decide +kernel
theorem dX3_sumOfAll_65 : decode cX3_sumOfAll 65 = .ok (.iload_n 3, 1) := by decide +kernel
theorem dX3_sumOfAll_66 : decode cX3_sumOfAll 66 = .ok (.iaload, 1) := by decide +kernel
theorem dX3_sumOfAll_67 : decode cX3_sumOfAll 67 = .ok (.i2l, 1) := by decide +kernel
theorem dX3_sumOfAll_68 : decode cX3_sumOfAll 68 = .ok (.ladd, 1) := by decide +kernel
theorem dX3_sumOfAll_69 : decode cX3_sumOfAll 69 = .ok (.lstore_n 1, 1) := by decide +kernel
theorem dX3_sumOfAll_70 : decode cX3_sumOfAll 70 = .ok (.lload_n 1, 1) := by decide +kernel
theorem dX3_sumOfAll_71 : decode cX3_sumOfAll 71 = .ok (.ldc2_w 47, 3) := by decide +kernel
theorem dX3_sumOfAll_74 : decode cX3_sumOfAll 74 = .ok (.lmul, 1) := by decide +kernel
theorem dX3_sumOfAll_75 : decode cX3_sumOfAll 75 = .ok (.aload_n 0, 1) := by decide +kernel
theorem dX3_sumOfAll_76 : decode cX3_sumOfAll 76 = .ok (.getfield 28, 3) := by decide +kernel
theorem dX3_sumOfAll_79 : decode cX3_sumOfAll 79 = .ok (.iload_n 3, 1) := by decide +kernel
theorem dX3_sumOfAll_80 : decode cX3_sumOfAll 80 = .ok (.iaload, 1) := by decide +kernel
theorem dX3_sumOfAll_81 : decode cX3_sumOfAll 81 = .ok (.i2l, 1) := by decide +kernel
theorem dX3_sumOfAll_82 : decode cX3_sumOfAll 82 = .ok (.ladd, 1) := by decide +kernel
theorem dX3_sumOfAll_83 : decode cX3_sumOfAll 83 = .ok (.lstore_n 1, 1) := by decide +kernel
theorem dX3_sumOfAll_84 : decode cX3_sumOfAll 84 = .ok (.iinc 3 1, 3) := by decide +kernel
theorem dX3_sumOfAll_87 : decode cX3_sumOfAll 87 = .ok (.goto (-81), 3) := by decide +kernel
theorem dX3_sumOfAll_90 : decode cX3_sumOfAll 90 = .ok (.iconst 0, 1) := by decide +kernel
theorem dX3_sumOfAll_91 : decode cX3_sumOfAll 91 = .ok (.istore_n 3, 1) := by decide +kernel
theorem dX3_sumOfAll_92 : decode cX3_sumOfAll 92 = .ok (.iload_n 3, 1) := by decide +kernel
theorem dX3_sumOfAll_93 : decode cX3_sumOfAll 93 = .ok (.aload_n 0, 1) := by decide +kernel
theorem dX3_sumOfAll_94 : decode cX3_sumOfAll 94 = .ok (.getfield 9, 3) := by decide +kernel
theorem dX3_sumOfAll_97 : decode cX3_sumOfAll 97 = .ok (.if_icmp .ge 23, 3) := by decide +kernel
theorem dX3_sumOfAll_100 : decode cX3_sumOfAll 100 = .ok (.lload_n 1, 1) := by decide +kernel
theorem dX3_sumOfAll_101 : decode cX3_sumOfAll 101 = .ok (.ldc2_w 47, 3) := by decide +kernel
theorem dX3_sumOfAll_104 : decode cX3_sumOfAll 104 = .ok (.lmul, 1) := by decide +kernel
theorem dX3_sumOfAll_105 : decode cX3_sumOfAll 105 = .ok (.aload_n 0, 1) := by decide +kernel
theorem dX3_sumOfAll_106 : decode cX3_sumOfAll 106 = .ok (.getfield 31, 3) := by decide +kernel
theorem dX3_sumOfAll_109 : decode cX3_sumOfAll 109 = .ok (.iload_n 3, 1) := by decide +kernel
theorem dX3_sumOfAll_110 : decode cX3_sumOfAll 110 = .ok (.iaload, 1) := by decide +kernel
theorem dX3_sumOfAll_111 : decode cX3_sumOfAll 111 = .ok (.i2l, 1) := by decide +kernel
theorem dX3_sumOfAll_112 : decode cX3_sumOfAll 112 = .ok (.ladd, 1) := by decide +kernel
theorem dX3_sumOfAll_113 : decode cX3_sumOfAll 113 = .ok (.lstore_n 1, 1) := by decide +kernel
theorem dX3_sumOfAll_114 : decode cX3_sumOfAll 114 = .ok (.iinc 3 1, 3) := by decide +kernel
theorem dX3_sumOfAll_117 : decode cX3_sumOfAll 117 = .ok (.goto (-25), 3) := by decide +kernel
theorem dX3_sumOfAll_120 : decode cX3_sumOfAll 120 = .ok (.lload_n 1, 1) := by decide +kernel
theorem dX3_sumOfAll_121 : decode cX3_sumOfAll 121 = .ok (.lreturn, 1) := by decide +kernel
theorem dX4_init_0 : decode cX4_init 0 = .ok (.aload_n 0, 1) := by decide +kernel
theorem dX4_init_1 : decode cX4_init 1 = .ok (.invokespecial 1, 3) := by decide +kernel
theorem dX4_init_4 : decode cX4_init 4 = .ok (.aload_n 0, 1) := by decide +kernel
theorem dX4_init_5 : decode cX4_init 5 = .ok (.bipush 8, 2) := by decide +kernel
theorem dX4_init_7 : decode cX4_init 7 = .ok (.newarray .int, 2) := by decide +kernel
theorem dX4_init_9 : decode cX4_init 9 = .ok (.putfield 9, 3) := by decide +kernel
theorem dX4_init_12 : decode cX4_init 12 = .ok (.aload_n 0, 1) := by decide +kernel
theorem dX4_init_13 : decode cX4_init 13 = .ok (.sipush 256, 3) := by decide +kernel
theorem dX4_init_16 : decode cX4_init 16 = .ok (.newarray .int, 2) := by decide +kernel
theorem dX4_init_18 : decode cX4_init 18 = .ok (.putfield 13, 3) := by decide +kernel
theorem dX4_init_21 : decode cX4_init 21 = .ok (.aload_n 0, 1) := by decide +kernel
theorem dX4_init_22 : decode cX4_init 22 = .ok (.bipush 8, 2) := by decide +kernel
theorem dX4_init_24 : decode cX4_init 24 = .ok (.newarray .int, 2) := by decide +kernel
theorem dX4_init_26 : decode cX4_init 26 = .ok (.putfield 16, 3) := by decide +kernel
theorem dX4_init_29 : decode cX4_init 29 = .ok (.return_, 1) := by decide +kernel
theorem dX4_gather_0 : decode cX4_gather 0 = .ok (.aload_n 0, 1) := by decide +kernel
theorem dX4_gather_1 : decode cX4_gather 1 = .ok (.getfield 13, 3) := by decide +kernel
theorem dX4_gather_4 : decode cX4_gather 4 = .ok (.iconst 0, 1) := by decide +kernel
theorem dX4_gather_5 : decode cX4_gather 5 = .ok (.iconst 0, 1) := by decide +kernel
theorem dX4_gather_6 : decode cX4_gather 6 = .ok (.iastore, 1) := by decide +kernel
theorem dX4_gather_7 : decode cX4_gather 7 = .ok (.iconst 0, 1) := by decide +kernel
theorem dX4_gather_8 : decode cX4_gather 8 = .ok (.istore_n 1, 1) := by decide +kernel
theorem dX4_gather_9 : decode cX4_gather 9 = .ok (.iload_n 1, 1) := by decide +kernel
theorem dX4_gather_10 : decode cX4_gather 10 = .ok (.bipush 8, 2) := by decide +kernel
theorem dX4_gather_12 : decode cX4_gather 12 = .ok (.if_icmp .ge 47, 3) := by decide +kernel
theorem dX4_gather_15 : decode cX4_gather 15 = .ok (.iconst 1, 1) := by decide +kernel
theorem dX4_gather_16 : decode cX4_gather 16 = .ok (.iload_n 1, 1) := by decide +kernel
theorem dX4_gather_17 : decode cX4_gather 17 = .ok (.ishl, 1) := by decide +kernel
theorem dX4_gather_18 : decode cX4_gather 18 = .ok (.istore_n 2, 1) := by decide +kernel
theorem dX4_gather_19 : decode cX4_gather 19 = .ok (.iconst 0, 1) := by decide +kernel
theorem dX4_gather_20 : decode cX4_gather 20 = .ok (.istore_n 3, 1) := by decide +kernel
theorem dX4_gather_21 : decode cX4_gather 21 = .ok (.iload_n 3, 1) := by decide +kernel
theorem dX4_gather_22 : decode cX4_gather 22 = .ok (.iload_n 2, 1) := by decide +kernel
theorem dX4_gather_23 : decode cX4_gather 23 = .ok (.if_icmp .ge 30, 3) := by decide +kernel
theorem dX4_gather_26 : decode cX4_gather 26 = .ok (.aload_n 0, 1) := by decide +kernel
theorem dX4_gather_27 : decode cX4_gather 27 = .ok (.getfield 13, 3) := by decide +kernel
theorem dX4_gather_30 : decode cX4_gather 30 = .ok (.iload_n 3, 1) := by decide +kernel
theorem dX4_gather_31 : decode cX4_gather 31 = .ok (.iload_n 2, 1) := by decide +kernel
theorem dX4_gather_32 : decode cX4_gather 32 = .ok (.iadd, 1) := by decide +kernel
theorem dX4_gather_33 : decode cX4_gather 33 = .ok (.aload_n 0, 1) := by decide +kernel
theorem dX4_gather_34 : decode cX4_gather 34 = .ok (.getfield 13, 3) := by decide +kernel
theorem dX4_gather_37 : decode cX4_gather 37 = .ok (.iload_n 3, 1) := by decide +kernel
theorem dX4_gather_38 : decode cX4_gather 38 = .ok (.iaload, 1) := by decide +kernel
theorem dX4_gather_39 : decode cX4_gather 39 = .ok (.aload_n 0, 1) := by decide +kernel
theorem dX4_gather_40 : decode cX4_gather 40 = .ok (.getfield 9, 3) := by decide +kernel
theorem dX4_gather_43 : decode cX4_gather 43 = .ok (.iload_n 1, 1) := by decide +kernel
theorem dX4_gather_44 : decode cX4_gather 44 = .ok (.iaload, 1) := by decide +kernel
theorem dX4_gather_45 : decode cX4_gather 45 = .ok (.ior, 1) := by decide +kernel
theorem dX4_gather_46 : decode cX4_gather 46 = .ok (.iastore, 1) := by decide +kernel
theorem dX4_gather_47 : decode cX4_gather 47 = .ok (.iinc 3 1, 3) := by decide +kernel
theorem dX4_gather_50 : decode cX4_gather 50 = .ok (.goto (-29), 3) := by decide +kernel
theorem dX4_gather_53 : decode cX4_gather 53 = .ok (.iinc 1 1, 3) := by decide +kernel
theorem dX4_gather_56 : decode cX4_gather 56 = .ok (.goto (-47), 3) := by decide +kernel
theorem dX4_gather_59 : decode cX4_gather 59 = .ok (.return_, 1) := by decide +kernel
theorem dX4_greatest_0 : decode cX4_greatest 0 = .ok (.bipush 8, 2) := by decide +kernel
theorem dX4_greatest_2 : decode cX4_greatest 2 = .ok (.iload_n 1, 1) := by decide +kernel
theorem dX4_greatest_3 : decode cX4_greatest 3 = .ok (.isub, 1) := by decide +kernel
theorem dX4_greatest_4 : decode cX4_greatest 4 = .ok (.istore_n 3, 1) := by decide +kernel
theorem dX4_greatest_5 : decode cX4_greatest 5 = .ok (.iload_n 3, 1) := by decide +kernel
theorem dX4_greatest_6 : decode cX4_greatest 6 = .ok (.istore 4, 2) := by decide +kernel
theorem dX4_greatest_8 : decode cX4_greatest 8 = .ok (.iconst 0, 1) := by decide +kernel
theorem dX4_greatest_9 : decode cX4_greatest 9 = .ok (.istore 5, 2) := by decide +kernel
theorem dX4_greatest_11 : decode cX4_greatest 11 = .ok (.iload 5, 2) := by decide +kernel
theorem dX4_greatest_13 : decode cX4_greatest 13 = .ok (.iconst 1, 1) := by decide +kernel
theorem dX4_greatest_14 : decode cX4_greatest 14 = .ok (.iload_n 3, 1) := by decide +kernel
theorem dX4_greatest_15 : decode cX4_greatest 15 = .ok (.ishl, 1) := by decide +kernel
theorem dX4_greatest_16 : decode cX4_greatest 16 = .ok (.if_icmp .ge 49, 3) := by decide +kernel
theorem dX4_greatest_19 : decode cX4_greatest 19 = .ok (.iload_n 3, 1) := by decide +kernel
theorem dX4_greatest_20 : decode cX4_greatest 20 = .ok (.iload 5, 2) := by decide +kernel
theorem dX4_greatest_22 : decode cX4_greatest 22 = .ok (.invokestatic 19, 3) := by decide +kernel
theorem dX4_greatest_25 : decode cX4_greatest 25 = .ok (.isub, 1) := by decide +kernel
theorem dX4_greatest_26 : decode cX4_greatest 26 = .ok (.aload_n 0, 1) := by decide +kernel
theorem dX4_greatest_27 : decode cX4_greatest 27 = .ok (.getfield 13, 3) := by decide +kernel
theorem dX4_greatest_30 : decode cX4_greatest 30 = .ok (.iload 5, 2) := by decide +kernel
theorem dX4_greatest_32 : decode cX4_greatest 32 = .ok (.iload_n 1, 1) := by decide +kernel
theorem dX4_greatest_33 : decode cX4_greatest 33 = .ok (.ishl, 1) := by decide +kernel
theorem dX4_greatest_34 : decode cX4_greatest 34 = .ok (.iaload, 1) := by decide +kernel
theorem dX4_greatest_35 : decode cX4_greatest 35 = .ok (.iload_n 2, 1) := by decide +kernel
theorem dX4_greatest_36 : decode cX4_greatest 36 = .ok (.iand, 1) := by decide +kernel
theorem dX4_greatest_37 : decode cX4_greatest 37 = .ok (.invokestatic 19, 3) := by decide +kernel
theorem dX4_greatest_40 : decode cX4_greatest 40 = .ok (.iadd, 1) := by decide +kernel
theorem dX4_greatest_41 : decode cX4_greatest 41 = .ok (.istore 6, 2) := by decide +kernel
theorem dX4_greatest_43 : decode cX4_greatest 43 = .ok (.iload 6, 2) := by decide +kernel
theorem dX4_greatest_45 : decode cX4_greatest 45 = .ok (.iload 4, 2) := by decide +kernel
theorem dX4_greatest_47 : decode cX4_greatest 47 = .ok (.if_icmp .ge 8, 3) := by decide +kernel
theorem dX4_greatest_50 : decode cX4_greatest 50 = .ok (.iload 6, 2) := by decide +kernel
theorem dX4_greatest_52 : decode cX4_greatest 52 = .ok (.goto 5, 3) := by decide +kernel
theorem dX4_greatest_55 : decode cX4_greatest 55 = .ok (.iload 4, 2) := by decide +kernel
theorem dX4_greatest_57 : decode cX4_greatest 57 = .ok (.istore 4, 2) := by decide +kernel
theorem dX4_greatest_59 : decode cX4_greatest 59 = .ok (.iinc 5 1, 3) := by decide +kernel
theorem dX4_greatest_62 : decode cX4_greatest 62 = .ok (.goto (-51), 3) := by decide +kernel
theorem dX4_greatest_65 : decode cX4_greatest 65 = .ok (.iload 4, 2) := by decide +kernel
theorem dX4_greatest_67 : decode cX4_greatest 67 = .ok (.ireturn, 1) := by decide +kernel
theorem dX4_tellLeastRow_0 : decode cX4_tellLeastRow 0 = .ok (.sipush 255, 3) := by decide +kernel
theorem dX4_tellLeastRow_3 : decode cX4_tellLeastRow 3 = .ok (.istore_n 1, 1) := by decide +kernel
theorem dX4_tellLeastRow_4 : decode cX4_tellLeastRow 4 = .ok (.aload_n 0, 1) := by decide +kernel
theorem dX4_tellLeastRow_5 : decode cX4_tellLeastRow 5 = .ok (.iconst 0, 1) := by decide +kernel
theorem dX4_tellLeastRow_6 : decode cX4_tellLeastRow 6 = .ok (.iload_n 1, 1) := by decide +kernel
theorem dX4_tellLeastRow_7 : decode cX4_tellLeastRow 7 = .ok (.invokevirtual 25, 3) := by decide +kernel
theorem dX4_tellLeastRow_10 : decode cX4_tellLeastRow 10 = .ok (.istore_n 2, 1) := by decide +kernel
theorem dX4_tellLeastRow_11 : decode cX4_tellLeastRow 11 = .ok (.iconst 0, 1) := by decide +kernel
theorem dX4_tellLeastRow_12 : decode cX4_tellLeastRow 12 = .ok (.istore_n 3, 1) := by decide +kernel
theorem dX4_tellLeastRow_13 : decode cX4_tellLeastRow 13 = .ok (.iload_n 3, 1) := by decide +kernel
theorem dX4_tellLeastRow_14 : decode cX4_tellLeastRow 14 = .ok (.bipush 8, 2) := by decide +kernel
theorem dX4_tellLeastRow_16 : decode cX4_tellLeastRow 16 = .ok (.if_icmp .ge 45, 3) := by decide +kernel
theorem dX4_tellLeastRow_19 : decode cX4_tellLeastRow 19 = .ok (.aload_n 0, 1) := by decide +kernel
theorem dX4_tellLeastRow_20 : decode cX4_tellLeastRow 20 = .ok (.iload_n 3, 1) := by decide +kernel
theorem dX4_tellLeastRow_21 : decode cX4_tellLeastRow 21 = .ok (.iload_n 1, 1) := by decide +kernel
theorem dX4_tellLeastRow_22 : decode cX4_tellLeastRow 22 = .ok (.iload_n 2, 1) := by decide +kernel
theorem dX4_tellLeastRow_23 : decode cX4_tellLeastRow 23 = .ok (.invokevirtual 29, 3) := by decide +kernel
theorem dX4_tellLeastRow_26 : decode cX4_tellLeastRow 26 = .ok (.istore 4, 2) := by decide +kernel
theorem dX4_tellLeastRow_28 : decode cX4_tellLeastRow 28 = .ok (.aload_n 0, 1) := by decide +kernel
theorem dX4_tellLeastRow_29 : decode cX4_tellLeastRow 29 = .ok (.getfield 16, 3) := by decide +kernel
theorem dX4_tellLeastRow_32 : decode cX4_tellLeastRow 32 = .ok (.iload_n 3, 1) := by decide +kernel
theorem dX4_tellLeastRow_33 : decode cX4_tellLeastRow 33 = .ok (.iload 4, 2) := by decide +kernel
theorem dX4_tellLeastRow_35 : decode cX4_tellLeastRow 35 = .ok (.iastore, 1) := by decide +kernel
theorem dX4_tellLeastRow_36 : decode cX4_tellLeastRow 36 = .ok (.iload 4, 2) := by decide +kernel
theorem dX4_tellLeastRow_38 : decode cX4_tellLeastRow 38 = .ok (.bipush 8, 2) := by decide +kernel
theorem dX4_tellLeastRow_40 : decode cX4_tellLeastRow 40 = .ok (.if_icmp .ge 15, 3) := by decide +kernel
theorem dX4_tellLeastRow_43 : decode cX4_tellLeastRow 43 = .ok (.iload_n 1, 1) := by decide +kernel
theorem dX4_tellLeastRow_44 : decode cX4_tellLeastRow 44 = .ok (.iconst 1, 1) := by decide +kernel
theorem dX4_tellLeastRow_45 : decode cX4_tellLeastRow 45 = .ok (.iload 4, 2) := by decide +kernel
theorem dX4_tellLeastRow_47 : decode cX4_tellLeastRow 47 = .ok (.ishl, 1) := by decide +kernel
theorem dX4_tellLeastRow_48 : decode cX4_tellLeastRow 48 = .ok (.iconst (-1), 1) := by decide +kernel
theorem dX4_tellLeastRow_49 : decode cX4_tellLeastRow 49 = .ok (.ixor, 1) := by decide +kernel
theorem dX4_tellLeastRow_50 : decode cX4_tellLeastRow 50 = .ok (.iand, 1) := by decide +kernel
theorem dX4_tellLeastRow_51 : decode cX4_tellLeastRow 51 = .ok (.istore_n 1, 1) := by decide +kernel
theorem dX4_tellLeastRow_52 : decode cX4_tellLeastRow 52 = .ok (.iinc 2 (-1), 3) := by decide +kernel
theorem dX4_tellLeastRow_55 : decode cX4_tellLeastRow 55 = .ok (.iinc 3 1, 3) := by decide +kernel
theorem dX4_tellLeastRow_58 : decode cX4_tellLeastRow 58 = .ok (.goto (-45), 3) := by decide +kernel
theorem dX4_tellLeastRow_61 : decode cX4_tellLeastRow 61 = .ok (.return_, 1) := by decide +kernel
theorem dX4_leastRight_0 : decode cX4_leastRight 0 = .ok (.iconst 0, 1) := by decide +kernel
theorem dX4_leastRight_1 : decode cX4_leastRight 1 = .ok (.istore 4, 2) := by decide +kernel
theorem dX4_leastRight_3 : decode cX4_leastRight 3 = .ok (.iload 4, 2) := by decide +kernel
theorem dX4_leastRight_5 : decode cX4_leastRight 5 = .ok (.bipush 8, 2) := by decide +kernel
theorem dX4_leastRight_7 : decode cX4_leastRight 7 = .ok (.if_icmp .ge 49, 3) := by decide +kernel
theorem dX4_leastRight_10 : decode cX4_leastRight 10 = .ok (.aload_n 0, 1) := by decide +kernel
theorem dX4_leastRight_11 : decode cX4_leastRight 11 = .ok (.getfield 9, 3) := by decide +kernel
theorem dX4_leastRight_14 : decode cX4_leastRight 14 = .ok (.iload_n 1, 1) := by decide +kernel
theorem dX4_leastRight_15 : decode cX4_leastRight 15 = .ok (.iaload, 1) := by decide +kernel
theorem dX4_leastRight_16 : decode cX4_leastRight 16 = .ok (.iload_n 2, 1) := by decide +kernel
theorem dX4_leastRight_17 : decode cX4_leastRight 17 = .ok (.iand, 1) := by decide +kernel
theorem dX4_leastRight_18 : decode cX4_leastRight 18 = .ok (.iload 4, 2) := by decide +kernel
theorem dX4_leastRight_20 : decode cX4_leastRight 20 = .ok (.invokestatic 33, 3) := by decide +kernel
theorem dX4_leastRight_23 : decode cX4_leastRight 23 = .ok (.ifCond .eq 27, 3) := by decide +kernel
theorem dX4_leastRight_26 : decode cX4_leastRight 26 = .ok (.aload_n 0, 1) := by decide +kernel
theorem dX4_leastRight_27 : decode cX4_leastRight 27 = .ok (.iload_n 1, 1) := by decide +kernel
theorem dX4_leastRight_28 : decode cX4_leastRight 28 = .ok (.iconst 1, 1) := by decide +kernel
theorem dX4_leastRight_29 : decode cX4_leastRight 29 = .ok (.iadd, 1) := by decide +kernel
theorem dX4_leastRight_30 : decode cX4_leastRight 30 = .ok (.iload_n 2, 1) := by decide +kernel
theorem dX4_leastRight_31 : decode cX4_leastRight 31 = .ok (.iconst 1, 1) := by decide +kernel
theorem dX4_leastRight_32 : decode cX4_leastRight 32 = .ok (.iload 4, 2) := by decide +kernel
theorem dX4_leastRight_34 : decode cX4_leastRight 34 = .ok (.ishl, 1) := by decide +kernel
theorem dX4_leastRight_35 : decode cX4_leastRight 35 = .ok (.iconst (-1), 1) := by decide +kernel
theorem dX4_leastRight_36 : decode cX4_leastRight 36 = .ok (.ixor, 1) := by decide +kernel
theorem dX4_leastRight_37 : decode cX4_leastRight 37 = .ok (.iand, 1) := by decide +kernel
theorem dX4_leastRight_38 : decode cX4_leastRight 38 = .ok (.invokevirtual 25, 3) := by decide +kernel
theorem dX4_leastRight_41 : decode cX4_leastRight 41 = .ok (.iload_n 3, 1) := by decide +kernel
theorem dX4_leastRight_42 : decode cX4_leastRight 42 = .ok (.iconst 1, 1) := by decide +kernel
theorem dX4_leastRight_43 : decode cX4_leastRight 43 = .ok (.isub, 1) := by decide +kernel
theorem dX4_leastRight_44 : decode cX4_leastRight 44 = .ok (.if_icmp .ne 6, 3) := by decide +kernel
theorem dX4_leastRight_47 : decode cX4_leastRight 47 = .ok (.iload 4, 2) := by decide +kernel
theorem dX4_leastRight_49 : decode cX4_leastRight 49 = .ok (.ireturn, 1) := by decide +kernel
theorem dX4_leastRight_50 : decode cX4_leastRight 50 = .ok (.iinc 4 1, 3) := by decide +kernel
theorem dX4_leastRight_53 : decode cX4_leastRight 53 = .ok (.goto (-50), 3) := by decide +kernel
theorem dX4_leastRight_56 : decode cX4_leastRight 56 = .ok (.bipush 8, 2) := by decide +kernel
theorem dX4_leastRight_58 : decode cX4_leastRight 58 = .ok (.ireturn, 1) := by decide +kernel
theorem dX4_likedByOthers_0 : decode cX4_likedByOthers 0 = .ok (.aload_n 0, 1) := by decide +kernel
theorem dX4_likedByOthers_1 : decode cX4_likedByOthers 1 = .ok (.getfield 13, 3) := by decide +kernel
theorem dX4_likedByOthers_4 : decode cX4_likedByOthers 4 = .ok (.sipush 255, 3) := by decide +kernel
theorem dX4_likedByOthers_7 : decode cX4_likedByOthers 7 = .ok (.iload_n 1, 1) := by decide +kernel
theorem dX4_likedByOthers_8 : decode cX4_likedByOthers 8 = .ok (.iconst (-1), 1) := by decide +kernel
theorem dX4_likedByOthers_9 : decode cX4_likedByOthers 9 = .ok (.ixor, 1) := by decide +kernel
theorem dX4_likedByOthers_10 : decode cX4_likedByOthers 10 = .ok (.iand, 1) := by decide +kernel
theorem dX4_likedByOthers_11 : decode cX4_likedByOthers 11 = .ok (.iaload, 1) := by decide +kernel
theorem dX4_likedByOthers_12 : decode cX4_likedByOthers 12 = .ok (.ireturn, 1) := by decide +kernel
theorem dX4_leftOfCover_0 : decode cX4_leftOfCover 0 = .ok (.iconst 0, 1) := by decide +kernel
theorem dX4_leftOfCover_1 : decode cX4_leftOfCover 1 = .ok (.istore_n 1, 1) := by decide +kernel
theorem dX4_leftOfCover_2 : decode cX4_leftOfCover 2 = .ok (.bipush 17, 2) := by decide +kernel
theorem dX4_leftOfCover_4 : decode cX4_leftOfCover 4 = .ok (.istore_n 2, 1) := by decide +kernel
theorem dX4_leftOfCover_5 : decode cX4_leftOfCover 5 = .ok (.iconst 0, 1) := by decide +kernel
theorem dX4_leftOfCover_6 : decode cX4_leftOfCover 6 = .ok (.istore_n 3, 1) := by decide +kernel
theorem dX4_leftOfCover_7 : decode cX4_leftOfCover 7 = .ok (.iload_n 3, 1) := by decide +kernel
theorem dX4_leftOfCover_8 : decode cX4_leftOfCover 8 = .ok (.sipush 255, 3) := by decide +kernel
theorem dX4_leftOfCover_11 : decode cX4_leftOfCover 11 = .ok (.if_icmp .gt 35, 3) := by decide +kernel
theorem dX4_leftOfCover_14 : decode cX4_leftOfCover 14 = .ok (.iload_n 3, 1) := by decide +kernel
theorem dX4_leftOfCover_15 : decode cX4_leftOfCover 15 = .ok (.invokestatic 19, 3) := by decide +kernel
theorem dX4_leftOfCover_18 : decode cX4_leftOfCover 18 = .ok (.aload_n 0, 1) := by decide +kernel
theorem dX4_leftOfCover_19 : decode cX4_leftOfCover 19 = .ok (.iload_n 3, 1) := by decide +kernel
theorem dX4_leftOfCover_20 : decode cX4_leftOfCover 20 = .ok (.invokevirtual 39, 3) := by decide +kernel
theorem dX4_leftOfCover_23 : decode cX4_leftOfCover 23 = .ok (.invokestatic 19, 3) := by decide +kernel
theorem dX4_leftOfCover_26 : decode cX4_leftOfCover 26 = .ok (.iadd, 1) := by decide +kernel
theorem dX4_leftOfCover_27 : decode cX4_leftOfCover 27 = .ok (.istore 4, 2) := by decide +kernel
theorem dX4_leftOfCover_29 : decode cX4_leftOfCover 29 = .ok (.iload 4, 2) := by decide +kernel
theorem dX4_leftOfCover_31 : decode cX4_leftOfCover 31 = .ok (.iload_n 2, 1) := by decide +kernel
theorem dX4_leftOfCover_32 : decode cX4_leftOfCover 32 = .ok (.if_icmp .ge 8, 3) := by decide +kernel
theorem dX4_leftOfCover_35 : decode cX4_leftOfCover 35 = .ok (.iload_n 3, 1) := by decide +kernel
theorem dX4_leftOfCover_36 : decode cX4_leftOfCover 36 = .ok (.istore_n 1, 1) := by decide +kernel
theorem dX4_leftOfCover_37 : decode cX4_leftOfCover 37 = .ok (.iload 4, 2) := by decide +kernel
theorem dX4_leftOfCover_39 : decode cX4_leftOfCover 39 = .ok (.istore_n 2, 1) := by decide +kernel
theorem dX4_leftOfCover_40 : decode cX4_leftOfCover 40 = .ok (.iinc 3 1, 3) := by decide +kernel
theorem dX4_leftOfCover_43 : decode cX4_leftOfCover 43 = .ok (.goto (-36), 3) := by decide +kernel
theorem dX4_leftOfCover_46 : decode cX4_leftOfCover 46 = .ok (.iload_n 1, 1) := by decide +kernel
theorem dX4_leftOfCover_47 : decode cX4_leftOfCover 47 = .ok (.ireturn, 1) := by decide +kernel
theorem dX4_leastCrowd_0 : decode cX4_leastCrowd 0 = .ok (.iconst 0, 1) := by decide +kernel
theorem dX4_leastCrowd_1 : decode cX4_leastCrowd 1 = .ok (.istore_n 1, 1) := by decide +kernel
theorem dX4_leastCrowd_2 : decode cX4_leastCrowd 2 = .ok (.iconst 0, 1) := by decide +kernel
theorem dX4_leastCrowd_3 : decode cX4_leastCrowd 3 = .ok (.istore_n 2, 1) := by decide +kernel
theorem dX4_leastCrowd_4 : decode cX4_leastCrowd 4 = .ok (.iconst 0, 1) := by decide +kernel
theorem dX4_leastCrowd_5 : decode cX4_leastCrowd 5 = .ok (.istore_n 3, 1) := by decide +kernel
theorem dX4_leastCrowd_6 : decode cX4_leastCrowd 6 = .ok (.iload_n 3, 1) := by decide +kernel
theorem dX4_leastCrowd_7 : decode cX4_leastCrowd 7 = .ok (.sipush 255, 3) := by decide +kernel
theorem dX4_leastCrowd_10 : decode cX4_leastCrowd 10 = .ok (.if_icmp .gt 49, 3) := by decide +kernel
theorem dX4_leastCrowd_13 : decode cX4_leastCrowd 13 = .ok (.iload_n 3, 1) := by decide +kernel
theorem dX4_leastCrowd_14 : decode cX4_leastCrowd 14 = .ok (.invokestatic 19, 3) := by decide +kernel
theorem dX4_leastCrowd_17 : decode cX4_leastCrowd 17 = .ok (.aload_n 0, 1) := by decide +kernel
theorem dX4_leastCrowd_18 : decode cX4_leastCrowd 18 = .ok (.getfield 13, 3) := by decide +kernel
theorem dX4_leastCrowd_21 : decode cX4_leastCrowd 21 = .ok (.iload_n 3, 1) := by decide +kernel
theorem dX4_leastCrowd_22 : decode cX4_leastCrowd 22 = .ok (.iaload, 1) := by decide +kernel
theorem dX4_leastCrowd_23 : decode cX4_leastCrowd 23 = .ok (.invokestatic 19, 3) := by decide +kernel
theorem dX4_leastCrowd_26 : decode cX4_leastCrowd 26 = .ok (.isub, 1) := by decide +kernel
theorem dX4_leastCrowd_27 : decode cX4_leastCrowd 27 = .ok (.istore 4, 2) := by decide +kernel
theorem dX4_leastCrowd_29 : decode cX4_leastCrowd 29 = .ok (.iload 4, 2) := by decide +kernel
theorem dX4_leastCrowd_31 : decode cX4_leastCrowd 31 = .ok (.iload_n 2, 1) := by decide +kernel
theorem dX4_leastCrowd_32 : decode cX4_leastCrowd 32 = .ok (.if_icmp .le 11, 3) := by decide +kernel
theorem dX4_leastCrowd_35 : decode cX4_leastCrowd 35 = .ok (.iload 4, 2) := by decide +kernel
theorem dX4_leastCrowd_37 : decode cX4_leastCrowd 37 = .ok (.istore_n 2, 1) := by decide +kernel
theorem dX4_leastCrowd_38 : decode cX4_leastCrowd 38 = .ok (.iload_n 3, 1) := by decide +kernel
theorem dX4_leastCrowd_39 : decode cX4_leastCrowd 39 = .ok (.istore_n 1, 1) := by decide +kernel
theorem dX4_leastCrowd_40 : decode cX4_leastCrowd 40 = .ok (.goto 13, 3) := by decide +kernel
theorem dX4_leastCrowd_43 : decode cX4_leastCrowd 43 = .ok (.iload 4, 2) := by decide +kernel
theorem dX4_leastCrowd_45 : decode cX4_leastCrowd 45 = .ok (.iload_n 2, 1) := by decide +kernel
theorem dX4_leastCrowd_46 : decode cX4_leastCrowd 46 = .ok (.if_icmp .ne 7, 3) := by decide +kernel
theorem dX4_leastCrowd_49 : decode cX4_leastCrowd 49 = .ok (.iload_n 1, 1) := by decide +kernel
theorem dX4_leastCrowd_50 : decode cX4_leastCrowd 50 = .ok (.iload_n 3, 1) := by decide +kernel
theorem dX4_leastCrowd_51 : decode cX4_leastCrowd 51 = .ok (.iand, 1) := by decide +kernel
theorem dX4_leastCrowd_52 : decode cX4_leastCrowd 52 = .ok (.istore_n 1, 1) := by decide +kernel
theorem dX4_leastCrowd_53 : decode cX4_leastCrowd 53 = .ok (.iinc 3 1, 3) := by decide +kernel
theorem dX4_leastCrowd_56 : decode cX4_leastCrowd 56 = .ok (.goto (-50), 3) := by decide +kernel
theorem dX4_leastCrowd_59 : decode cX4_leastCrowd 59 = .ok (.iload_n 1, 1) := by decide +kernel
theorem dX4_leastCrowd_60 : decode cX4_leastCrowd 60 = .ok (.ireturn, 1) := by decide +kernel
theorem dX4_isCovered_0 : decode cX4_isCovered 0 = .ok (.aload_n 0, 1) := by decide +kernel
theorem dX4_isCovered_1 : decode cX4_isCovered 1 = .ok (.invokevirtual 42, 3) := by decide +kernel
theorem dX4_isCovered_4 : decode cX4_isCovered 4 = .ok (.istore_n 1, 1) := by decide +kernel
theorem dX4_isCovered_5 : decode cX4_isCovered 5 = .ok (.aload_n 0, 1) := by decide +kernel
theorem dX4_isCovered_6 : decode cX4_isCovered 6 = .ok (.iload_n 1, 1) := by decide +kernel
theorem dX4_isCovered_7 : decode cX4_isCovered 7 = .ok (.invokevirtual 39, 3) := by decide +kernel
theorem dX4_isCovered_10 : decode cX4_isCovered 10 = .ok (.istore_n 2, 1) := by decide +kernel
theorem dX4_isCovered_11 : decode cX4_isCovered 11 = .ok (.sipush 255, 3) := by decide +kernel
theorem dX4_isCovered_14 : decode cX4_isCovered 14 = .ok (.istore_n 3, 1) := by decide +kernel
theorem dX4_isCovered_15 : decode cX4_isCovered 15 = .ok (.iconst 0, 1) := by decide +kernel
theorem dX4_isCovered_16 : decode cX4_isCovered 16 = .ok (.istore 4, 2) := by decide +kernel
theorem dX4_isCovered_18 : decode cX4_isCovered 18 = .ok (.iconst 0, 1) := by decide +kernel
theorem dX4_isCovered_19 : decode cX4_isCovered 19 = .ok (.istore 5, 2) := by decide +kernel
theorem dX4_isCovered_21 : decode cX4_isCovered 21 = .ok (.iload 5, 2) := by decide +kernel
theorem dX4_isCovered_23 : decode cX4_isCovered 23 = .ok (.bipush 8, 2) := by decide +kernel
theorem dX4_isCovered_25 : decode cX4_isCovered 25 = .ok (.if_icmp .ge 87, 3) := by decide +kernel
theorem dX4_isCovered_28 : decode cX4_isCovered 28 = .ok (.iload_n 1, 1) := by decide +kernel
theorem dX4_isCovered_29 : decode cX4_isCovered 29 = .ok (.iload 5, 2) := by decide +kernel
theorem dX4_isCovered_31 : decode cX4_isCovered 31 = .ok (.invokestatic 33, 3) := by decide +kernel
theorem dX4_isCovered_34 : decode cX4_isCovered 34 = .ok (.ifCond .ne 19, 3) := by decide +kernel
theorem dX4_isCovered_37 : decode cX4_isCovered 37 = .ok (.aload_n 0, 1) := by decide +kernel
theorem dX4_isCovered_38 : decode cX4_isCovered 38 = .ok (.getfield 9, 3) := by decide +kernel
theorem dX4_isCovered_41 : decode cX4_isCovered 41 = .ok (.iload 5, 2) := by decide +kernel
theorem dX4_isCovered_43 : decode cX4_isCovered 43 = .ok (.iaload, 1) := by decide +kernel
theorem dX4_isCovered_44 : decode cX4_isCovered 44 = .ok (.iload_n 2, 1) := by decide +kernel
theorem dX4_isCovered_45 : decode cX4_isCovered 45 = .ok (.iconst (-1), 1) := by decide +kernel
theorem dX4_isCovered_46 : decode cX4_isCovered 46 = .ok (.ixor, 1) := by decide +kernel
theorem dX4_isCovered_47 : decode cX4_isCovered 47 = .ok (.iand, 1) := by decide +kernel
theorem dX4_isCovered_48 : decode cX4_isCovered 48 = .ok (.ifCond .eq 5, 3) := by decide +kernel
theorem dX4_isCovered_51 : decode cX4_isCovered 51 = .ok (.iconst 0, 1) := by decide +kernel
theorem dX4_isCovered_52 : decode cX4_isCovered 52 = .ok (.ireturn, 1) := by decide +kernel
theorem dX4_isCovered_53 : decode cX4_isCovered 53 = .ok (.aload_n 0, 1) := by decide +kernel
theorem dX4_isCovered_54 : decode cX4_isCovered 54 = .ok (.getfield 16, 3) := by decide +kernel
theorem dX4_isCovered_57 : decode cX4_isCovered 57 = .ok (.iload 5, 2) := by decide +kernel
theorem dX4_isCovered_59 : decode cX4_isCovered 59 = .ok (.iaload, 1) := by decide +kernel
theorem dX4_isCovered_60 : decode cX4_isCovered 60 = .ok (.bipush 8, 2) := by decide +kernel
theorem dX4_isCovered_62 : decode cX4_isCovered 62 = .ok (.if_icmp .ge 44, 3) := by decide +kernel
theorem dX4_isCovered_65 : decode cX4_isCovered 65 = .ok (.aload_n 0, 1) := by decide +kernel
theorem dX4_isCovered_66 : decode cX4_isCovered 66 = .ok (.getfield 9, 3) := by decide +kernel
theorem dX4_isCovered_69 : decode cX4_isCovered 69 = .ok (.iload 5, 2) := by decide +kernel
theorem dX4_isCovered_71 : decode cX4_isCovered 71 = .ok (.iaload, 1) := by decide +kernel
theorem dX4_isCovered_72 : decode cX4_isCovered 72 = .ok (.iload_n 3, 1) := by decide +kernel
theorem dX4_isCovered_73 : decode cX4_isCovered 73 = .ok (.iand, 1) := by decide +kernel
theorem dX4_isCovered_74 : decode cX4_isCovered 74 = .ok (.aload_n 0, 1) := by decide +kernel
theorem dX4_isCovered_75 : decode cX4_isCovered 75 = .ok (.getfield 16, 3) := by decide +kernel
theorem dX4_isCovered_78 : decode cX4_isCovered 78 = .ok (.iload 5, 2) := by decide +kernel
theorem dX4_isCovered_80 : decode cX4_isCovered 80 = .ok (.iaload, 1) := by decide +kernel
theorem dX4_isCovered_81 : decode cX4_isCovered 81 = .ok (.invokestatic 33, 3) := by decide +kernel
theorem dX4_isCovered_84 : decode cX4_isCovered 84 = .ok (.ifCond .ne 5, 3) := by decide +kernel
theorem dX4_isCovered_87 : decode cX4_isCovered 87 = .ok (.iconst 0, 1) := by decide +kernel
theorem dX4_isCovered_88 : decode cX4_isCovered 88 = .ok (.ireturn, 1) := by decide +kernel
theorem dX4_isCovered_89 : decode cX4_isCovered 89 = .ok (.iload_n 3, 1) := by decide +kernel
theorem dX4_isCovered_90 : decode cX4_isCovered 90 = .ok (.iconst 1, 1) := by decide +kernel
theorem dX4_isCovered_91 : decode cX4_isCovered 91 = .ok (.aload_n 0, 1) := by decide +kernel
theorem dX4_isCovered_92 : decode cX4_isCovered 92 = .ok (.getfield 16, 3) := by decide +kernel
theorem dX4_isCovered_95 : decode cX4_isCovered 95 = .ok (.iload 5, 2) := by decide +kernel
theorem dX4_isCovered_97 : decode cX4_isCovered 97 = .ok (.iaload, 1) := by decide +kernel
theorem dX4_isCovered_98 : decode cX4_isCovered 98 = .ok (.ishl, 1) := by decide +kernel
theorem dX4_isCovered_99 : decode cX4_isCovered 99 = .ok (.iconst (-1), 1) := by decide +kernel
theorem dX4_isCovered_100 : decode cX4_isCovered 100 = .ok (.ixor, 1) := by decide +kernel
theorem dX4_isCovered_101 : decode cX4_isCovered 101 = .ok (.iand, 1) := by decide +kernel
theorem dX4_isCovered_102 : decode cX4_isCovered 102 = .ok (.istore_n 3, 1) := by decide +kernel
theorem dX4_isCovered_103 : decode cX4_isCovered 103 = .ok (.iinc 4 1, 3) := by decide +kernel
theorem dX4_isCovered_106 : decode cX4_isCovered 106 = .ok (.iinc 5 1, 3) := by decide +kernel
theorem dX4_isCovered_109 : decode cX4_isCovered 109 = .ok (.goto (-88), 3) := by decide +kernel
theorem dX4_isCovered_112 : decode cX4_isCovered 112 = .ok (.iload 4, 2) := by decide +kernel
theorem dX4_isCovered_114 : decode cX4_isCovered 114 = .ok (.iload_n 1, 1) := by decide +kernel
theorem dX4_isCovered_115 : decode cX4_isCovered 115 = .ok (.invokestatic 19, 3) := by decide +kernel
theorem dX4_isCovered_118 : decode cX4_isCovered 118 = .ok (.iload_n 2, 1) := by decide +kernel
theorem dX4_isCovered_119 : decode cX4_isCovered 119 = .ok (.invokestatic 19, 3) := by decide +kernel
theorem dX4_isCovered_122 : decode cX4_isCovered 122 = .ok (.iadd, 1) := by decide +kernel
theorem dX4_isCovered_123 : decode cX4_isCovered 123 = .ok (.if_icmp .ne 7, 3) := by decide +kernel
theorem dX4_isCovered_126 : decode cX4_isCovered 126 = .ok (.iconst 1, 1) := by decide +kernel
theorem dX4_isCovered_127 : decode cX4_isCovered 127 = .ok (.goto 4, 3) := by decide +kernel
theorem dX4_isCovered_130 : decode cX4_isCovered 130 = .ok (.iconst 0, 1) := by decide +kernel
theorem dX4_isCovered_131 : decode cX4_isCovered 131 = .ok (.ireturn, 1) := by decide +kernel
theorem dX5_init_0 : decode cX5_init 0 = .ok (.aload_n 0, 1) := by decide +kernel
theorem dX5_init_1 : decode cX5_init 1 = .ok (.invokespecial 3, 3) := by decide +kernel
theorem dX5_init_4 : decode cX5_init 4 = .ok (.aload_n 0, 1) := by decide +kernel
theorem dX5_init_5 : decode cX5_init 5 = .ok (.bipush 8, 2) := by decide +kernel
theorem dX5_init_7 : decode cX5_init 7 = .ok (.newarray .int, 2) := by decide +kernel
theorem dX5_init_9 : decode cX5_init 9 = .ok (.putfield 11, 3) := by decide +kernel
theorem dX5_init_12 : decode cX5_init 12 = .ok (.aload_n 0, 1) := by decide +kernel
theorem dX5_init_13 : decode cX5_init 13 = .ok (.bipush 8, 2) := by decide +kernel
theorem dX5_init_15 : decode cX5_init 15 = .ok (.newarray .int, 2) := by decide +kernel
theorem dX5_init_17 : decode cX5_init 17 = .ok (.putfield 15, 3) := by decide +kernel
theorem dX5_init_20 : decode cX5_init 20 = .ok (.aload_n 0, 1) := by decide +kernel
theorem dX5_init_21 : decode cX5_init 21 = .ok (.bipush 8, 2) := by decide +kernel
theorem dX5_init_23 : decode cX5_init 23 = .ok (.newarray .int, 2) := by decide +kernel
theorem dX5_init_25 : decode cX5_init 25 = .ok (.putfield 18, 3) := by decide +kernel
theorem dX5_init_28 : decode cX5_init 28 = .ok (.return_, 1) := by decide +kernel
theorem dX5_put_0 : decode cX5_put 0 = .ok (.aload_n 0, 1) := by decide +kernel
theorem dX5_put_1 : decode cX5_put 1 = .ok (.getfield 21, 3) := by decide +kernel
theorem dX5_put_4 : decode cX5_put 4 = .ok (.ifCond .lt 12, 3) := by decide +kernel
theorem dX5_put_7 : decode cX5_put 7 = .ok (.aload_n 0, 1) := by decide +kernel
theorem dX5_put_8 : decode cX5_put 8 = .ok (.getfield 21, 3) := by decide +kernel
theorem dX5_put_11 : decode cX5_put 11 = .ok (.bipush 8, 2) := by decide +kernel
theorem dX5_put_13 : decode cX5_put 13 = .ok (.if_icmp .lt 5, 3) := by decide +kernel
theorem dX5_put_16 : decode cX5_put 16 = .ok (.iconst (-1), 1) := by decide +kernel
theorem dX5_put_17 : decode cX5_put 17 = .ok (.ireturn, 1) := by decide +kernel
theorem dX5_put_18 : decode cX5_put 18 = .ok (.aload_n 0, 1) := by decide +kernel
theorem dX5_put_19 : decode cX5_put 19 = .ok (.getfield 11, 3) := by decide +kernel
theorem dX5_put_22 : decode cX5_put 22 = .ok (.aload_n 0, 1) := by decide +kernel
theorem dX5_put_23 : decode cX5_put 23 = .ok (.getfield 21, 3) := by decide +kernel
theorem dX5_put_26 : decode cX5_put 26 = .ok (.iload_n 1, 1) := by decide +kernel
theorem dX5_put_27 : decode cX5_put 27 = .ok (.iastore, 1) := by decide +kernel
theorem dX5_put_28 : decode cX5_put 28 = .ok (.aload_n 0, 1) := by decide +kernel
theorem dX5_put_29 : decode cX5_put 29 = .ok (.getfield 15, 3) := by decide +kernel
theorem dX5_put_32 : decode cX5_put 32 = .ok (.aload_n 0, 1) := by decide +kernel
theorem dX5_put_33 : decode cX5_put 33 = .ok (.getfield 21, 3) := by decide +kernel
theorem dX5_put_36 : decode cX5_put 36 = .ok (.iload_n 2, 1) := by decide +kernel
theorem dX5_put_37 : decode cX5_put 37 = .ok (.iastore, 1) := by decide +kernel
theorem dX5_put_38 : decode cX5_put 38 = .ok (.aload_n 0, 1) := by decide +kernel
theorem dX5_put_39 : decode cX5_put 39 = .ok (.dup, 1) := by decide +kernel
theorem dX5_put_40 : decode cX5_put 40 = .ok (.getfield 21, 3) := by decide +kernel
theorem dX5_put_43 : decode cX5_put 43 = .ok (.iconst 1, 1) := by decide +kernel
theorem dX5_put_44 : decode cX5_put 44 = .ok (.iadd, 1) := by decide +kernel
theorem dX5_put_45 : decode cX5_put 45 = .ok (.putfield 21, 3) := by decide +kernel
theorem dX5_put_48 : decode cX5_put 48 = .ok (.aload_n 0, 1) := by decide +kernel
theorem dX5_put_49 : decode cX5_put 49 = .ok (.getfield 21, 3) := by decide +kernel
theorem dX5_put_52 : decode cX5_put 52 = .ok (.iconst 1, 1) := by decide +kernel
theorem dX5_put_53 : decode cX5_put 53 = .ok (.isub, 1) := by decide +kernel
theorem dX5_put_54 : decode cX5_put 54 = .ok (.ireturn, 1) := by decide +kernel
theorem dX5_choose_0 : decode cX5_choose 0 = .ok (.aload_n 0, 1) := by decide +kernel
theorem dX5_choose_1 : decode cX5_choose 1 = .ok (.iconst 0, 1) := by decide +kernel
theorem dX5_choose_2 : decode cX5_choose 2 = .ok (.putfield 25, 3) := by decide +kernel
theorem dX5_choose_5 : decode cX5_choose 5 = .ok (.aload_n 0, 1) := by decide +kernel
theorem dX5_choose_6 : decode cX5_choose 6 = .ok (.iconst 0, 1) := by decide +kernel
theorem dX5_choose_7 : decode cX5_choose 7 = .ok (.putfield 28, 3) := by decide +kernel
theorem dX5_choose_10 : decode cX5_choose 10 = .ok (.aload_n 0, 1) := by decide +kernel
theorem dX5_choose_11 : decode cX5_choose 11 = .ok (.iconst 0, 1) := by decide +kernel
theorem dX5_choose_12 : decode cX5_choose 12 = .ok (.putfield 31, 3) := by decide +kernel
theorem dX5_choose_15 : decode cX5_choose 15 = .ok (.iconst 1, 1) := by decide +kernel
theorem dX5_choose_16 : decode cX5_choose 16 = .ok (.istore_n 1, 1) := by decide +kernel
theorem dX5_choose_17 : decode cX5_choose 17 = .ok (.iload_n 1, 1) := by decide +kernel
theorem dX5_choose_18 : decode cX5_choose 18 = .ok (.iconst 1, 1) := by decide +kernel
theorem dX5_choose_19 : decode cX5_choose 19 = .ok (.aload_n 0, 1) := by decide +kernel
theorem dX5_choose_20 : decode cX5_choose 20 = .ok (.getfield 21, 3) := by decide +kernel
theorem dX5_choose_23 : decode cX5_choose 23 = .ok (.ishl, 1) := by decide +kernel
theorem dX5_choose_24 : decode cX5_choose 24 = .ok (.if_icmp .ge 69, 3) := by decide +kernel
theorem dX5_choose_27 : decode cX5_choose 27 = .ok (.aload_n 0, 1) := by decide +kernel
theorem dX5_choose_28 : decode cX5_choose 28 = .ok (.iload_n 1, 1) := by decide +kernel
theorem dX5_choose_29 : decode cX5_choose 29 = .ok (.invokevirtual 34, 3) := by decide +kernel
theorem dX5_choose_32 : decode cX5_choose 32 = .ok (.istore_n 2, 1) := by decide +kernel
theorem dX5_choose_33 : decode cX5_choose 33 = .ok (.iload_n 2, 1) := by decide +kernel
theorem dX5_choose_34 : decode cX5_choose 34 = .ok (.aload_n 0, 1) := by decide +kernel
theorem dX5_choose_35 : decode cX5_choose 35 = .ok (.getfield 25, 3) := by decide +kernel
theorem dX5_choose_38 : decode cX5_choose 38 = .ok (.if_icmp .le 21, 3) := by decide +kernel
theorem dX5_choose_41 : decode cX5_choose 41 = .ok (.aload_n 0, 1) := by decide +kernel
theorem dX5_choose_42 : decode cX5_choose 42 = .ok (.iload_n 2, 1) := by decide +kernel
theorem dX5_choose_43 : decode cX5_choose 43 = .ok (.putfield 25, 3) := by decide +kernel
theorem dX5_choose_46 : decode cX5_choose 46 = .ok (.aload_n 0, 1) := by decide +kernel
theorem dX5_choose_47 : decode cX5_choose 47 = .ok (.iload_n 1, 1) := by decide +kernel
theorem dX5_choose_48 : decode cX5_choose 48 = .ok (.putfield 28, 3) := by decide +kernel
theorem dX5_choose_51 : decode cX5_choose 51 = .ok (.aload_n 0, 1) := by decide +kernel
theorem dX5_choose_52 : decode cX5_choose 52 = .ok (.iload_n 1, 1) := by decide +kernel
theorem dX5_choose_53 : decode cX5_choose 53 = .ok (.putfield 31, 3) := by decide +kernel
theorem dX5_choose_56 : decode cX5_choose 56 = .ok (.goto 31, 3) := by decide +kernel
theorem dX5_choose_59 : decode cX5_choose 59 = .ok (.iload_n 2, 1) := by decide +kernel
theorem dX5_choose_60 : decode cX5_choose 60 = .ok (.aload_n 0, 1) := by decide +kernel
theorem dX5_choose_61 : decode cX5_choose 61 = .ok (.getfield 25, 3) := by decide +kernel
theorem dX5_choose_64 : decode cX5_choose 64 = .ok (.if_icmp .ne 23, 3) := by decide +kernel
theorem dX5_choose_67 : decode cX5_choose 67 = .ok (.aload_n 0, 1) := by decide +kernel
theorem dX5_choose_68 : decode cX5_choose 68 = .ok (.dup, 1) := by decide +kernel
theorem dX5_choose_69 : decode cX5_choose 69 = .ok (.getfield 28, 3) := by decide +kernel
theorem dX5_choose_72 : decode cX5_choose 72 = .ok (.iload_n 1, 1) := by decide +kernel
theorem dX5_choose_73 : decode cX5_choose 73 = .ok (.iand, 1) := by decide +kernel
theorem dX5_choose_74 : decode cX5_choose 74 = .ok (.putfield 28, 3) := by decide +kernel
theorem dX5_choose_77 : decode cX5_choose 77 = .ok (.aload_n 0, 1) := by decide +kernel
theorem dX5_choose_78 : decode cX5_choose 78 = .ok (.dup, 1) := by decide +kernel
theorem dX5_choose_79 : decode cX5_choose 79 = .ok (.getfield 31, 3) := by decide +kernel
theorem dX5_choose_82 : decode cX5_choose 82 = .ok (.iload_n 1, 1) := by decide +kernel
theorem dX5_choose_83 : decode cX5_choose 83 = .ok (.ior, 1) := by decide +kernel
theorem dX5_choose_84 : decode cX5_choose 84 = .ok (.putfield 31, 3) := by decide +kernel
theorem dX5_choose_87 : decode cX5_choose 87 = .ok (.iinc 1 1, 3) := by decide +kernel
theorem dX5_choose_90 : decode cX5_choose 90 = .ok (.goto (-73), 3) := by decide +kernel
theorem dX5_choose_93 : decode cX5_choose 93 = .ok (.return_, 1) := by decide +kernel
theorem dX5_worthOf_0 : decode cX5_worthOf 0 = .ok (.iconst 0, 1) := by decide +kernel
theorem dX5_worthOf_1 : decode cX5_worthOf 1 = .ok (.istore_n 2, 1) := by decide +kernel
theorem dX5_worthOf_2 : decode cX5_worthOf 2 = .ok (.iconst 0, 1) := by decide +kernel
theorem dX5_worthOf_3 : decode cX5_worthOf 3 = .ok (.istore_n 3, 1) := by decide +kernel
theorem dX5_worthOf_4 : decode cX5_worthOf 4 = .ok (.iconst 0, 1) := by decide +kernel
theorem dX5_worthOf_5 : decode cX5_worthOf 5 = .ok (.istore 4, 2) := by decide +kernel
theorem dX5_worthOf_7 : decode cX5_worthOf 7 = .ok (.iload 4, 2) := by decide +kernel
theorem dX5_worthOf_9 : decode cX5_worthOf 9 = .ok (.aload_n 0, 1) := by decide +kernel
theorem dX5_worthOf_10 : decode cX5_worthOf 10 = .ok (.getfield 21, 3) := by decide +kernel
theorem dX5_worthOf_13 : decode cX5_worthOf 13 = .ok (.if_icmp .ge 38, 3) := by decide +kernel
theorem dX5_worthOf_16 : decode cX5_worthOf 16 = .ok (.iload_n 1, 1) := by decide +kernel
theorem dX5_worthOf_17 : decode cX5_worthOf 17 = .ok (.iload 4, 2) := by decide +kernel
theorem dX5_worthOf_19 : decode cX5_worthOf 19 = .ok (.invokestatic 38, 3) := by decide +kernel
theorem dX5_worthOf_22 : decode cX5_worthOf 22 = .ok (.ifCond .eq 23, 3) := by decide +kernel
theorem dX5_worthOf_25 : decode cX5_worthOf 25 = .ok (.iload_n 2, 1) := by decide +kernel
theorem dX5_worthOf_26 : decode cX5_worthOf 26 = .ok (.aload_n 0, 1) := by decide +kernel
theorem dX5_worthOf_27 : decode cX5_worthOf 27 = .ok (.getfield 11, 3) := by decide +kernel
theorem dX5_worthOf_30 : decode cX5_worthOf 30 = .ok (.iload 4, 2) := by decide +kernel
theorem dX5_worthOf_32 : decode cX5_worthOf 32 = .ok (.iaload, 1) := by decide +kernel
theorem dX5_worthOf_33 : decode cX5_worthOf 33 = .ok (.iadd, 1) := by decide +kernel
theorem dX5_worthOf_34 : decode cX5_worthOf 34 = .ok (.istore_n 2, 1) := by decide +kernel
theorem dX5_worthOf_35 : decode cX5_worthOf 35 = .ok (.iload_n 3, 1) := by decide +kernel
theorem dX5_worthOf_36 : decode cX5_worthOf 36 = .ok (.aload_n 0, 1) := by decide +kernel
theorem dX5_worthOf_37 : decode cX5_worthOf 37 = .ok (.getfield 15, 3) := by decide +kernel
theorem dX5_worthOf_40 : decode cX5_worthOf 40 = .ok (.iload 4, 2) := by decide +kernel
theorem dX5_worthOf_42 : decode cX5_worthOf 42 = .ok (.iaload, 1) := by decide +kernel
theorem dX5_worthOf_43 : decode cX5_worthOf 43 = .ok (.ior, 1) := by decide +kernel
theorem dX5_worthOf_44 : decode cX5_worthOf 44 = .ok (.istore_n 3, 1) := by decide +kernel
theorem dX5_worthOf_45 : decode cX5_worthOf 45 = .ok (.iinc 4 1, 3) := by decide +kernel
theorem dX5_worthOf_48 : decode cX5_worthOf 48 = .ok (.goto (-41), 3) := by decide +kernel
theorem dX5_worthOf_51 : decode cX5_worthOf 51 = .ok (.iconst 0, 1) := by decide +kernel
theorem dX5_worthOf_52 : decode cX5_worthOf 52 = .ok (.istore 4, 2) := by decide +kernel
theorem dX5_worthOf_54 : decode cX5_worthOf 54 = .ok (.iload 4, 2) := by decide +kernel
theorem dX5_worthOf_56 : decode cX5_worthOf 56 = .ok (.bipush 8, 2) := by decide +kernel
theorem dX5_worthOf_58 : decode cX5_worthOf 58 = .ok (.if_icmp .ge 32, 3) := by decide +kernel
theorem dX5_worthOf_61 : decode cX5_worthOf 61 = .ok (.iload_n 2, 1) := by decide +kernel
theorem dX5_worthOf_62 : decode cX5_worthOf 62 = .ok (.iload_n 3, 1) := by decide +kernel
theorem dX5_worthOf_63 : decode cX5_worthOf 63 = .ok (.iload 4, 2) := by decide +kernel
theorem dX5_worthOf_65 : decode cX5_worthOf 65 = .ok (.invokestatic 38, 3) := by decide +kernel
theorem dX5_worthOf_68 : decode cX5_worthOf 68 = .ok (.ifCond .eq 13, 3) := by decide +kernel
theorem dX5_worthOf_71 : decode cX5_worthOf 71 = .ok (.aload_n 0, 1) := by decide +kernel
theorem dX5_worthOf_72 : decode cX5_worthOf 72 = .ok (.getfield 18, 3) := by decide +kernel
theorem dX5_worthOf_75 : decode cX5_worthOf 75 = .ok (.iload 4, 2) := by decide +kernel
theorem dX5_worthOf_77 : decode cX5_worthOf 77 = .ok (.iaload, 1) := by decide +kernel
theorem dX5_worthOf_78 : decode cX5_worthOf 78 = .ok (.goto 4, 3) := by decide +kernel
theorem dX5_worthOf_81 : decode cX5_worthOf 81 = .ok (.iconst 0, 1) := by decide +kernel
theorem dX5_worthOf_82 : decode cX5_worthOf 82 = .ok (.isub, 1) := by decide +kernel
theorem dX5_worthOf_83 : decode cX5_worthOf 83 = .ok (.istore_n 2, 1) := by decide +kernel
theorem dX5_worthOf_84 : decode cX5_worthOf 84 = .ok (.iinc 4 1, 3) := by decide +kernel
theorem dX5_worthOf_87 : decode cX5_worthOf 87 = .ok (.goto (-33), 3) := by decide +kernel
theorem dX5_worthOf_90 : decode cX5_worthOf 90 = .ok (.iload_n 2, 1) := by decide +kernel
theorem dX5_worthOf_91 : decode cX5_worthOf 91 = .ok (.ireturn, 1) := by decide +kernel
theorem dX6_init_0 : decode cX6_init 0 = .ok (.aload_n 0, 1) := by decide +kernel
theorem dX6_init_1 : decode cX6_init 1 = .ok (.invokespecial 3, 3) := by decide +kernel
theorem dX6_init_4 : decode cX6_init 4 = .ok (.aload_n 0, 1) := by decide +kernel
theorem dX6_init_5 : decode cX6_init 5 = .ok (.new 9, 3) := by decide +kernel
theorem dX6_init_8 : decode cX6_init 8 = .ok (.dup, 1) := by decide +kernel
theorem dX6_init_9 : decode cX6_init 9 = .ok (.invokespecial 11, 3) := by decide +kernel
theorem dX6_init_12 : decode cX6_init 12 = .ok (.putfield 12, 3) := by decide +kernel
theorem dX6_init_15 : decode cX6_init 15 = .ok (.return_, 1) := by decide +kernel
theorem dX6_lay_0 : decode cX6_lay 0 = .ok (.aload_n 0, 1) := by decide +kernel
theorem dX6_lay_1 : decode cX6_lay 1 = .ok (.iload_n 2, 1) := by decide +kernel
theorem dX6_lay_2 : decode cX6_lay 2 = .ok (.putfield 18, 3) := by decide +kernel
theorem dX6_lay_5 : decode cX6_lay 5 = .ok (.aload_n 0, 1) := by decide +kernel
theorem dX6_lay_6 : decode cX6_lay 6 = .ok (.iload_n 3, 1) := by decide +kernel
theorem dX6_lay_7 : decode cX6_lay 7 = .ok (.putfield 22, 3) := by decide +kernel
theorem dX6_lay_10 : decode cX6_lay 10 = .ok (.aload_n 0, 1) := by decide +kernel
theorem dX6_lay_11 : decode cX6_lay 11 = .ok (.getfield 12, 3) := by decide +kernel
theorem dX6_lay_14 : decode cX6_lay 14 = .ok (.aload_n 1, 1) := by decide +kernel
theorem dX6_lay_15 : decode cX6_lay 15 = .ok (.getfield 25, 3) := by decide +kernel
theorem dX6_lay_18 : decode cX6_lay 18 = .ok (.invokevirtual 30, 3) := by decide +kernel
theorem dX6_lay_21 : decode cX6_lay 21 = .ok (.aload_n 0, 1) := by decide +kernel
theorem dX6_lay_22 : decode cX6_lay 22 = .ok (.aload_n 1, 1) := by decide +kernel
theorem dX6_lay_23 : decode cX6_lay 23 = .ok (.invokevirtual 34, 3) := by decide +kernel
theorem dX6_lay_26 : decode cX6_lay 26 = .ok (.aload_n 0, 1) := by decide +kernel
theorem dX6_lay_27 : decode cX6_lay 27 = .ok (.aload_n 1, 1) := by decide +kernel
theorem dX6_lay_28 : decode cX6_lay 28 = .ok (.getfield 38, 3) := by decide +kernel
theorem dX6_lay_31 : decode cX6_lay 31 = .ok (.putfield 41, 3) := by decide +kernel
theorem dX6_lay_34 : decode cX6_lay 34 = .ok (.aload_n 0, 1) := by decide +kernel
theorem dX6_lay_35 : decode cX6_lay 35 = .ok (.getfield 12, 3) := by decide +kernel
theorem dX6_lay_38 : decode cX6_lay 38 = .ok (.aload_n 0, 1) := by decide +kernel
theorem dX6_lay_39 : decode cX6_lay 39 = .ok (.getfield 22, 3) := by decide +kernel
theorem dX6_lay_42 : decode cX6_lay 42 = .ok (.aload_n 0, 1) := by decide +kernel
theorem dX6_lay_43 : decode cX6_lay 43 = .ok (.getfield 18, 3) := by decide +kernel
theorem dX6_lay_46 : decode cX6_lay 46 = .ok (.ldc 44, 2) := by decide +kernel
theorem dX6_lay_48 : decode cX6_lay 48 = .ok (.ldc 45, 2) := by decide +kernel
theorem dX6_lay_50 : decode cX6_lay 50 = .ok (.iconst 0, 1) := by decide +kernel
theorem dX6_lay_51 : decode cX6_lay 51 = .ok (.invokevirtual 46, 3) := by decide +kernel
theorem dX6_lay_54 : decode cX6_lay 54 = .ok (.return_, 1) := by decide +kernel
theorem dX6_addEdges_0 : decode cX6_addEdges 0 = .ok (.iconst 0, 1) := by decide +kernel
theorem dX6_addEdges_1 : decode cX6_addEdges 1 = .ok (.istore_n 2, 1) := by decide +kernel
theorem dX6_addEdges_2 : decode cX6_addEdges 2 = .ok (.iload_n 2, 1) := by decide +kernel
theorem dX6_addEdges_3 : decode cX6_addEdges 3 = .ok (.aload_n 1, 1) := by decide +kernel
theorem dX6_addEdges_4 : decode cX6_addEdges 4 = .ok (.getfield 38, 3) := by decide +kernel
theorem dX6_addEdges_7 : decode cX6_addEdges 7 = .ok (.if_icmp .ge 46, 3) := by decide +kernel
theorem dX6_addEdges_10 : decode cX6_addEdges 10 = .ok (.aload_n 0, 1) := by decide +kernel
theorem dX6_addEdges_11 : decode cX6_addEdges 11 = .ok (.getfield 12, 3) := by decide +kernel
theorem dX6_addEdges_14 : decode cX6_addEdges 14 = .ok (.aload_n 1, 1) := by decide +kernel
theorem dX6_addEdges_15 : decode cX6_addEdges 15 = .ok (.getfield 50, 3) := by decide +kernel
theorem dX6_addEdges_18 : decode cX6_addEdges 18 = .ok (.iload_n 2, 1) := by decide +kernel
theorem dX6_addEdges_19 : decode cX6_addEdges 19 = .ok (.iaload, 1) := by decide +kernel
theorem dX6_addEdges_20 : decode cX6_addEdges 20 = .ok (.aload_n 1, 1) := by decide +kernel
theorem dX6_addEdges_21 : decode cX6_addEdges 21 = .ok (.getfield 54, 3) := by decide +kernel
theorem dX6_addEdges_24 : decode cX6_addEdges 24 = .ok (.iload_n 2, 1) := by decide +kernel
theorem dX6_addEdges_25 : decode cX6_addEdges 25 = .ok (.iaload, 1) := by decide +kernel
theorem dX6_addEdges_26 : decode cX6_addEdges 26 = .ok (.aload_n 1, 1) := by decide +kernel
theorem dX6_addEdges_27 : decode cX6_addEdges 27 = .ok (.getfield 57, 3) := by decide +kernel
theorem dX6_addEdges_30 : decode cX6_addEdges 30 = .ok (.iload_n 2, 1) := by decide +kernel
theorem dX6_addEdges_31 : decode cX6_addEdges 31 = .ok (.iaload, 1) := by decide +kernel
theorem dX6_addEdges_32 : decode cX6_addEdges 32 = .ok (.aload_n 1, 1) := by decide +kernel
theorem dX6_addEdges_33 : decode cX6_addEdges 33 = .ok (.getfield 60, 3) := by decide +kernel
theorem dX6_addEdges_36 : decode cX6_addEdges 36 = .ok (.iload_n 2, 1) := by decide +kernel
theorem dX6_addEdges_37 : decode cX6_addEdges 37 = .ok (.iaload, 1) := by decide +kernel
theorem dX6_addEdges_38 : decode cX6_addEdges 38 = .ok (.aload_n 1, 1) := by decide +kernel
theorem dX6_addEdges_39 : decode cX6_addEdges 39 = .ok (.getfield 63, 3) := by decide +kernel
theorem dX6_addEdges_42 : decode cX6_addEdges 42 = .ok (.iload_n 2, 1) := by decide +kernel
theorem dX6_addEdges_43 : decode cX6_addEdges 43 = .ok (.iaload, 1) := by decide +kernel
theorem dX6_addEdges_44 : decode cX6_addEdges 44 = .ok (.invokevirtual 46, 3) := by decide +kernel
theorem dX6_addEdges_47 : decode cX6_addEdges 47 = .ok (.iinc 2 1, 3) := by decide +kernel
theorem dX6_addEdges_50 : decode cX6_addEdges 50 = .ok (.goto (-48), 3) := by decide +kernel
theorem dX6_addEdges_53 : decode cX6_addEdges 53 = .ok (.return_, 1) := by decide +kernel
theorem dX6_setBounds_0 : decode cX6_setBounds 0 = .ok (.aload_n 0, 1) := by decide +kernel
theorem dX6_setBounds_1 : decode cX6_setBounds 1 = .ok (.getfield 12, 3) := by decide +kernel
theorem dX6_setBounds_4 : decode cX6_setBounds 4 = .ok (.iload_n 1, 1) := by decide +kernel
theorem dX6_setBounds_5 : decode cX6_setBounds 5 = .ok (.iload_n 2, 1) := by decide +kernel
theorem dX6_setBounds_6 : decode cX6_setBounds 6 = .ok (.iload_n 3, 1) := by decide +kernel
theorem dX6_setBounds_7 : decode cX6_setBounds 7 = .ok (.invokevirtual 66, 3) := by decide +kernel
theorem dX6_setBounds_10 : decode cX6_setBounds 10 = .ok (.return_, 1) := by decide +kernel
theorem dX6_fill_0 : decode cX6_fill 0 = .ok (.aload_n 0, 1) := by decide +kernel
theorem dX6_fill_1 : decode cX6_fill 1 = .ok (.getfield 12, 3) := by decide +kernel
theorem dX6_fill_4 : decode cX6_fill 4 = .ok (.invokevirtual 70, 3) := by decide +kernel
theorem dX6_fill_7 : decode cX6_fill 7 = .ok (.ifCond .ne 5, 3) := by decide +kernel
theorem dX6_fill_10 : decode cX6_fill 10 = .ok (.iconst 0, 1) := by decide +kernel
theorem dX6_fill_11 : decode cX6_fill 11 = .ok (.ireturn, 1) := by decide +kernel
theorem dX6_fill_12 : decode cX6_fill 12 = .ok (.aload_n 0, 1) := by decide +kernel
theorem dX6_fill_13 : decode cX6_fill 13 = .ok (.getfield 12, 3) := by decide +kernel
theorem dX6_fill_16 : decode cX6_fill 16 = .ok (.aload_n 0, 1) := by decide +kernel
theorem dX6_fill_17 : decode cX6_fill 17 = .ok (.getfield 41, 3) := by decide +kernel
theorem dX6_fill_20 : decode cX6_fill 20 = .ok (.invokevirtual 74, 3) := by decide +kernel
theorem dX6_fill_23 : decode cX6_fill 23 = .ok (.aload_n 0, 1) := by decide +kernel
theorem dX6_fill_24 : decode cX6_fill 24 = .ok (.aload_n 0, 1) := by decide +kernel
theorem dX6_fill_25 : decode cX6_fill 25 = .ok (.getfield 12, 3) := by decide +kernel
theorem dX6_fill_28 : decode cX6_fill 28 = .ok (.aload_n 0, 1) := by decide +kernel
theorem dX6_fill_29 : decode cX6_fill 29 = .ok (.getfield 41, 3) := by decide +kernel
theorem dX6_fill_32 : decode cX6_fill 32 = .ok (.invokevirtual 77, 3) := by decide +kernel
theorem dX6_fill_35 : decode cX6_fill 35 = .ok (.aload_n 0, 1) := by decide +kernel
theorem dX6_fill_36 : decode cX6_fill 36 = .ok (.getfield 12, 3) := by decide +kernel
theorem dX6_fill_39 : decode cX6_fill 39 = .ok (.aload_n 0, 1) := by decide +kernel
theorem dX6_fill_40 : decode cX6_fill 40 = .ok (.getfield 18, 3) := by decide +kernel
theorem dX6_fill_43 : decode cX6_fill 43 = .ok (.aload_n 0, 1) := by decide +kernel
theorem dX6_fill_44 : decode cX6_fill 44 = .ok (.getfield 22, 3) := by decide +kernel
theorem dX6_fill_47 : decode cX6_fill 47 = .ok (.ldc 45, 2) := by decide +kernel
theorem dX6_fill_49 : decode cX6_fill 49 = .ok (.invokevirtual 81, 3) := by decide +kernel
theorem dX6_fill_52 : decode cX6_fill 52 = .ok (.iadd, 1) := by decide +kernel
theorem dX6_fill_53 : decode cX6_fill 53 = .ok (.putfield 85, 3) := by decide +kernel
theorem dX6_fill_56 : decode cX6_fill 56 = .ok (.iconst 1, 1) := by decide +kernel
theorem dX6_fill_57 : decode cX6_fill 57 = .ok (.ireturn, 1) := by decide +kernel
theorem dX6_numberOf_0 : decode cX6_numberOf 0 = .ok (.aload_n 0, 1) := by decide +kernel
theorem dX6_numberOf_1 : decode cX6_numberOf 1 = .ok (.getfield 12, 3) := by decide +kernel
theorem dX6_numberOf_4 : decode cX6_numberOf 4 = .ok (.iload_n 1, 1) := by decide +kernel
theorem dX6_numberOf_5 : decode cX6_numberOf 5 = .ok (.invokevirtual 77, 3) := by decide +kernel
theorem dX6_numberOf_8 : decode cX6_numberOf 8 = .ok (.ireturn, 1) := by decide +kernel
theorem dX6_leastOf_0 : decode cX6_leastOf 0 = .ok (.aload_n 0, 1) := by decide +kernel
theorem dX6_leastOf_1 : decode cX6_leastOf 1 = .ok (.getfield 12, 3) := by decide +kernel
theorem dX6_leastOf_4 : decode cX6_leastOf 4 = .ok (.iload_n 1, 1) := by decide +kernel
theorem dX6_leastOf_5 : decode cX6_leastOf 5 = .ok (.invokevirtual 88, 3) := by decide +kernel
theorem dX6_leastOf_8 : decode cX6_leastOf 8 = .ok (.aload_n 0, 1) := by decide +kernel
theorem dX6_leastOf_9 : decode cX6_leastOf 9 = .ok (.getfield 12, 3) := by decide +kernel
theorem dX6_leastOf_12 : decode cX6_leastOf 12 = .ok (.iload_n 1, 1) := by decide +kernel
theorem dX6_leastOf_13 : decode cX6_leastOf 13 = .ok (.invokevirtual 77, 3) := by decide +kernel
theorem dX6_leastOf_16 : decode cX6_leastOf 16 = .ok (.ireturn, 1) := by decide +kernel
theorem dX6_tellLeastRow_0 : decode cX6_tellLeastRow 0 = .ok (.iconst 0, 1) := by decide +kernel
theorem dX6_tellLeastRow_1 : decode cX6_tellLeastRow 1 = .ok (.istore_n 2, 1) := by decide +kernel
theorem dX6_tellLeastRow_2 : decode cX6_tellLeastRow 2 = .ok (.iload_n 2, 1) := by decide +kernel
theorem dX6_tellLeastRow_3 : decode cX6_tellLeastRow 3 = .ok (.iload_n 1, 1) := by decide +kernel
theorem dX6_tellLeastRow_4 : decode cX6_tellLeastRow 4 = .ok (.if_icmp .ge 17, 3) := by decide +kernel
theorem dX6_tellLeastRow_7 : decode cX6_tellLeastRow 7 = .ok (.aload_n 0, 1) := by decide +kernel
theorem dX6_tellLeastRow_8 : decode cX6_tellLeastRow 8 = .ok (.getfield 12, 3) := by decide +kernel
theorem dX6_tellLeastRow_11 : decode cX6_tellLeastRow 11 = .ok (.iload_n 2, 1) := by decide +kernel
theorem dX6_tellLeastRow_12 : decode cX6_tellLeastRow 12 = .ok (.invokevirtual 88, 3) := by decide +kernel
theorem dX6_tellLeastRow_15 : decode cX6_tellLeastRow 15 = .ok (.iinc 2 1, 3) := by decide +kernel
theorem dX6_tellLeastRow_18 : decode cX6_tellLeastRow 18 = .ok (.goto (-16), 3) := by decide +kernel
theorem dX6_tellLeastRow_21 : decode cX6_tellLeastRow 21 = .ok (.return_, 1) := by decide +kernel
theorem dX6_cheapen_0 : decode cX6_cheapen 0 = .ok (.aload_n 0, 1) := by decide +kernel
theorem dX6_cheapen_1 : decode cX6_cheapen 1 = .ok (.getfield 12, 3) := by decide +kernel
theorem dX6_cheapen_4 : decode cX6_cheapen 4 = .ok (.invokevirtual 91, 3) := by decide +kernel
theorem dX6_cheapen_7 : decode cX6_cheapen 7 = .ok (.aload_n 0, 1) := by decide +kernel
theorem dX6_cheapen_8 : decode cX6_cheapen 8 = .ok (.getfield 12, 3) := by decide +kernel
theorem dX6_cheapen_11 : decode cX6_cheapen 11 = .ok (.invokevirtual 94, 3) := by decide +kernel
theorem dX6_cheapen_14 : decode cX6_cheapen 14 = .ok (.return_, 1) := by decide +kernel
theorem dX6_costOf_0 : decode cX6_costOf 0 = .ok (.aload_n 0, 1) := by decide +kernel
theorem dX6_costOf_1 : decode cX6_costOf 1 = .ok (.getfield 12, 3) := by decide +kernel
theorem dX6_costOf_4 : decode cX6_costOf 4 = .ok (.iload_n 1, 1) := by decide +kernel
theorem dX6_costOf_5 : decode cX6_costOf 5 = .ok (.invokevirtual 97, 3) := by decide +kernel
theorem dX6_costOf_8 : decode cX6_costOf 8 = .ok (.ireturn, 1) := by decide +kernel
theorem dX6_setPrices_0 : decode cX6_setPrices 0 = .ok (.iconst 0, 1) := by decide +kernel
theorem dX6_setPrices_1 : decode cX6_setPrices 1 = .ok (.istore_n 3, 1) := by decide +kernel
theorem dX6_setPrices_2 : decode cX6_setPrices 2 = .ok (.iload_n 3, 1) := by decide +kernel
theorem dX6_setPrices_3 : decode cX6_setPrices 3 = .ok (.iload_n 1, 1) := by decide +kernel
theorem dX6_setPrices_4 : decode cX6_setPrices 4 = .ok (.if_icmp .ge 17, 3) := by decide +kernel
theorem dX6_setPrices_7 : decode cX6_setPrices 7 = .ok (.aload_n 0, 1) := by decide +kernel
theorem dX6_setPrices_8 : decode cX6_setPrices 8 = .ok (.getfield 12, 3) := by decide +kernel
theorem dX6_setPrices_11 : decode cX6_setPrices 11 = .ok (.iload_n 3, 1) := by decide +kernel
theorem dX6_setPrices_12 : decode cX6_setPrices 12 = .ok (.invokevirtual 100, 3) := by decide +kernel
theorem dX6_setPrices_15 : decode cX6_setPrices 15 = .ok (.iinc 3 1, 3) := by decide +kernel
theorem dX6_setPrices_18 : decode cX6_setPrices 18 = .ok (.goto (-16), 3) := by decide +kernel
theorem dX6_setPrices_21 : decode cX6_setPrices 21 = .ok (.aload_n 0, 1) := by decide +kernel
theorem dX6_setPrices_22 : decode cX6_setPrices 22 = .ok (.getfield 12, 3) := by decide +kernel
theorem dX6_setPrices_25 : decode cX6_setPrices 25 = .ok (.iload_n 2, 1) := by decide +kernel
theorem dX6_setPrices_26 : decode cX6_setPrices 26 = .ok (.invokevirtual 103, 3) := by decide +kernel
theorem dX6_setPrices_29 : decode cX6_setPrices 29 = .ok (.return_, 1) := by decide +kernel
theorem dX6_hasPrice_0 : decode cX6_hasPrice 0 = .ok (.aload_n 0, 1) := by decide +kernel
theorem dX6_hasPrice_1 : decode cX6_hasPrice 1 = .ok (.getfield 12, 3) := by decide +kernel
theorem dX6_hasPrice_4 : decode cX6_hasPrice 4 = .ok (.iload_n 1, 1) := by decide +kernel
theorem dX6_hasPrice_5 : decode cX6_hasPrice 5 = .ok (.invokevirtual 106, 3) := by decide +kernel
theorem dX6_hasPrice_8 : decode cX6_hasPrice 8 = .ok (.ldc 109, 2) := by decide +kernel
theorem dX6_hasPrice_10 : decode cX6_hasPrice 10 = .ok (.if_icmp .ge 7, 3) := by decide +kernel
theorem dX6_hasPrice_13 : decode cX6_hasPrice 13 = .ok (.iconst 1, 1) := by decide +kernel
theorem dX6_hasPrice_14 : decode cX6_hasPrice 14 = .ok (.goto 4, 3) := by decide +kernel
theorem dX6_hasPrice_17 : decode cX6_hasPrice 17 = .ok (.iconst 0, 1) := by decide +kernel
theorem dX6_hasPrice_18 : decode cX6_hasPrice 18 = .ok (.ireturn, 1) := by decide +kernel
theorem dX6_priceOf_0 : decode cX6_priceOf 0 = .ok (.aload_n 0, 1) := by decide +kernel
theorem dX6_priceOf_1 : decode cX6_priceOf 1 = .ok (.getfield 12, 3) := by decide +kernel
theorem dX6_priceOf_4 : decode cX6_priceOf 4 = .ok (.iload_n 1, 1) := by decide +kernel
theorem dX6_priceOf_5 : decode cX6_priceOf 5 = .ok (.invokevirtual 106, 3) := by decide +kernel
theorem dX6_priceOf_8 : decode cX6_priceOf 8 = .ok (.ireturn, 1) := by decide +kernel
theorem dX6_goRounds_0 : decode cX6_goRounds 0 = .ok (.aload_n 0, 1) := by decide +kernel
theorem dX6_goRounds_1 : decode cX6_goRounds 1 = .ok (.getfield 12, 3) := by decide +kernel
theorem dX6_goRounds_4 : decode cX6_goRounds 4 = .ok (.aload_n 1, 1) := by decide +kernel
theorem dX6_goRounds_5 : decode cX6_goRounds 5 = .ok (.getfield 25, 3) := by decide +kernel
theorem dX6_goRounds_8 : decode cX6_goRounds 8 = .ok (.invokevirtual 30, 3) := by decide +kernel
theorem dX6_goRounds_11 : decode cX6_goRounds 11 = .ok (.aload_n 0, 1) := by decide +kernel
theorem dX6_goRounds_12 : decode cX6_goRounds 12 = .ok (.aload_n 1, 1) := by decide +kernel
theorem dX6_goRounds_13 : decode cX6_goRounds 13 = .ok (.invokevirtual 34, 3) := by decide +kernel
theorem dX6_goRounds_16 : decode cX6_goRounds 16 = .ok (.aload_n 0, 1) := by decide +kernel
theorem dX6_goRounds_17 : decode cX6_goRounds 17 = .ok (.iconst 0, 1) := by decide +kernel
theorem dX6_goRounds_18 : decode cX6_goRounds 18 = .ok (.putfield 110, 3) := by decide +kernel
theorem dX6_goRounds_21 : decode cX6_goRounds 21 = .ok (.iconst 0, 1) := by decide +kernel
theorem dX6_goRounds_22 : decode cX6_goRounds 22 = .ok (.istore 5, 2) := by decide +kernel
theorem dX6_goRounds_24 : decode cX6_goRounds 24 = .ok (.iconst 0, 1) := by decide +kernel
theorem dX6_goRounds_25 : decode cX6_goRounds 25 = .ok (.istore 6, 2) := by decide +kernel
theorem dX6_goRounds_27 : decode cX6_goRounds 27 = .ok (.iload 6, 2) := by decide +kernel
theorem dX6_goRounds_29 : decode cX6_goRounds 29 = .ok (.ldc 45, 2) := by decide +kernel
theorem dX6_goRounds_31 : decode cX6_goRounds 31 = .ok (.if_icmp .ge 62, 3) := by decide +kernel
theorem dX6_goRounds_34 : decode cX6_goRounds 34 = .ok (.aload_n 0, 1) := by decide +kernel
theorem dX6_goRounds_35 : decode cX6_goRounds 35 = .ok (.aload_n 0, 1) := by decide +kernel
theorem dX6_goRounds_36 : decode cX6_goRounds 36 = .ok (.getfield 12, 3) := by decide +kernel
theorem dX6_goRounds_39 : decode cX6_goRounds 39 = .ok (.iload_n 2, 1) := by decide +kernel
theorem dX6_goRounds_40 : decode cX6_goRounds 40 = .ok (.iload_n 3, 1) := by decide +kernel
theorem dX6_goRounds_41 : decode cX6_goRounds 41 = .ok (.ldc 45, 2) := by decide +kernel
theorem dX6_goRounds_43 : decode cX6_goRounds 43 = .ok (.invokevirtual 113, 3) := by decide +kernel
theorem dX6_goRounds_46 : decode cX6_goRounds 46 = .ok (.putfield 85, 3) := by decide +kernel
theorem dX6_goRounds_49 : decode cX6_goRounds 49 = .ok (.aload_n 0, 1) := by decide +kernel
theorem dX6_goRounds_50 : decode cX6_goRounds 50 = .ok (.getfield 85, 3) := by decide +kernel
theorem dX6_goRounds_53 : decode cX6_goRounds 53 = .ok (.ifCond .gt 6, 3) := by decide +kernel
theorem dX6_goRounds_56 : decode cX6_goRounds 56 = .ok (.iload 5, 2) := by decide +kernel
theorem dX6_goRounds_58 : decode cX6_goRounds 58 = .ok (.ireturn, 1) := by decide +kernel
theorem dX6_goRounds_59 : decode cX6_goRounds 59 = .ok (.aload_n 0, 1) := by decide +kernel
theorem dX6_goRounds_60 : decode cX6_goRounds 60 = .ok (.dup, 1) := by decide +kernel
theorem dX6_goRounds_61 : decode cX6_goRounds 61 = .ok (.getfield 110, 3) := by decide +kernel
theorem dX6_goRounds_64 : decode cX6_goRounds 64 = .ok (.aload_n 0, 1) := by decide +kernel
theorem dX6_goRounds_65 : decode cX6_goRounds 65 = .ok (.getfield 85, 3) := by decide +kernel
theorem dX6_goRounds_68 : decode cX6_goRounds 68 = .ok (.iadd, 1) := by decide +kernel
theorem dX6_goRounds_69 : decode cX6_goRounds 69 = .ok (.putfield 110, 3) := by decide +kernel
theorem dX6_goRounds_72 : decode cX6_goRounds 72 = .ok (.iinc 5 1, 3) := by decide +kernel
theorem dX6_goRounds_75 : decode cX6_goRounds 75 = .ok (.iload 5, 2) := by decide +kernel
theorem dX6_goRounds_77 : decode cX6_goRounds 77 = .ok (.iconst 1, 1) := by decide +kernel
theorem dX6_goRounds_78 : decode cX6_goRounds 78 = .ok (.isub, 1) := by decide +kernel
theorem dX6_goRounds_79 : decode cX6_goRounds 79 = .ok (.iload 4, 2) := by decide +kernel
theorem dX6_goRounds_81 : decode cX6_goRounds 81 = .ok (.if_icmp .ne 6, 3) := by decide +kernel
theorem dX6_goRounds_84 : decode cX6_goRounds 84 = .ok (.iload 5, 2) := by decide +kernel
theorem dX6_goRounds_86 : decode cX6_goRounds 86 = .ok (.ireturn, 1) := by decide +kernel
theorem dX6_goRounds_87 : decode cX6_goRounds 87 = .ok (.iinc 6 1, 3) := by decide +kernel
theorem dX6_goRounds_90 : decode cX6_goRounds 90 = .ok (.goto (-63), 3) := by decide +kernel
theorem dX6_goRounds_93 : decode cX6_goRounds 93 = .ok (.iload 5, 2) := by decide +kernel
theorem dX6_goRounds_95 : decode cX6_goRounds 95 = .ok (.ireturn, 1) := by decide +kernel
theorem dX6_signAt_0 : decode cX6_signAt 0 = .ok (.aload_n 0, 1) := by decide +kernel
theorem dX6_signAt_1 : decode cX6_signAt 1 = .ok (.getfield 12, 3) := by decide +kernel
theorem dX6_signAt_4 : decode cX6_signAt 4 = .ok (.iload_n 1, 1) := by decide +kernel
theorem dX6_signAt_5 : decode cX6_signAt 5 = .ok (.invokevirtual 116, 3) := by decide +kernel
theorem dX6_signAt_8 : decode cX6_signAt 8 = .ok (.istore_n 2, 1) := by decide +kernel
theorem dX6_signAt_9 : decode cX6_signAt 9 = .ok (.iload_n 2, 1) := by decide +kernel
theorem dX6_signAt_10 : decode cX6_signAt 10 = .ok (.bipush 32, 2) := by decide +kernel
theorem dX6_signAt_12 : decode cX6_signAt 12 = .ok (.if_icmp .ge 7, 3) := by decide +kernel
theorem dX6_signAt_15 : decode cX6_signAt 15 = .ok (.iload_n 2, 1) := by decide +kernel
theorem dX6_signAt_16 : decode cX6_signAt 16 = .ok (.goto 10, 3) := by decide +kernel
theorem dX6_signAt_19 : decode cX6_signAt 19 = .ok (.iload_n 2, 1) := by decide +kernel
theorem dX6_signAt_20 : decode cX6_signAt 20 = .ok (.bipush 32, 2) := by decide +kernel
theorem dX6_signAt_22 : decode cX6_signAt 22 = .ok (.isub, 1) := by decide +kernel
theorem dX6_signAt_23 : decode cX6_signAt 23 = .ok (.bipush 16, 2) := by decide +kernel
theorem dX6_signAt_25 : decode cX6_signAt 25 = .ok (.iadd, 1) := by decide +kernel
theorem dX6_signAt_26 : decode cX6_signAt 26 = .ok (.ireturn, 1) := by decide +kernel
theorem dX6_waysByEdges_0 : decode cX6_waysByEdges 0 = .ok (.aload_n 0, 1) := by decide +kernel
theorem dX6_waysByEdges_1 : decode cX6_waysByEdges 1 = .ok (.getfield 12, 3) := by decide +kernel
theorem dX6_waysByEdges_4 : decode cX6_waysByEdges 4 = .ok (.aload_n 1, 1) := by decide +kernel
theorem dX6_waysByEdges_5 : decode cX6_waysByEdges 5 = .ok (.getfield 25, 3) := by decide +kernel
theorem dX6_waysByEdges_8 : decode cX6_waysByEdges 8 = .ok (.invokevirtual 30, 3) := by decide +kernel
theorem dX6_waysByEdges_11 : decode cX6_waysByEdges 11 = .ok (.iconst 0, 1) := by decide +kernel
theorem dX6_waysByEdges_12 : decode cX6_waysByEdges 12 = .ok (.istore 4, 2) := by decide +kernel
theorem dX6_waysByEdges_14 : decode cX6_waysByEdges 14 = .ok (.iload 4, 2) := by decide +kernel
theorem dX6_waysByEdges_16 : decode cX6_waysByEdges 16 = .ok (.aload_n 1, 1) := by decide +kernel
theorem dX6_waysByEdges_17 : decode cX6_waysByEdges 17 = .ok (.getfield 38, 3) := by decide +kernel
theorem dX6_waysByEdges_20 : decode cX6_waysByEdges 20 = .ok (.if_icmp .ge 47, 3) := by decide +kernel
theorem dX6_waysByEdges_23 : decode cX6_waysByEdges 23 = .ok (.aload_n 0, 1) := by decide +kernel
theorem dX6_waysByEdges_24 : decode cX6_waysByEdges 24 = .ok (.getfield 12, 3) := by decide +kernel
theorem dX6_waysByEdges_27 : decode cX6_waysByEdges 27 = .ok (.aload_n 1, 1) := by decide +kernel
theorem dX6_waysByEdges_28 : decode cX6_waysByEdges 28 = .ok (.getfield 50, 3) := by decide +kernel
theorem dX6_waysByEdges_31 : decode cX6_waysByEdges 31 = .ok (.iload 4, 2) := by decide +kernel
theorem dX6_waysByEdges_33 : decode cX6_waysByEdges 33 = .ok (.iaload, 1) := by decide +kernel
theorem dX6_waysByEdges_34 : decode cX6_waysByEdges 34 = .ok (.aload_n 1, 1) := by decide +kernel
theorem dX6_waysByEdges_35 : decode cX6_waysByEdges 35 = .ok (.getfield 54, 3) := by decide +kernel
theorem dX6_waysByEdges_38 : decode cX6_waysByEdges 38 = .ok (.iload 4, 2) := by decide +kernel
theorem dX6_waysByEdges_40 : decode cX6_waysByEdges 40 = .ok (.iaload, 1) := by decide +kernel
theorem dX6_waysByEdges_41 : decode cX6_waysByEdges 41 = .ok (.iconst 0, 1) := by decide +kernel
theorem dX6_waysByEdges_42 : decode cX6_waysByEdges 42 = .ok (.aload_n 1, 1) := by decide +kernel
theorem dX6_waysByEdges_43 : decode cX6_waysByEdges 43 = .ok (.getfield 60, 3) := by decide +kernel
theorem dX6_waysByEdges_46 : decode cX6_waysByEdges 46 = .ok (.iload 4, 2) := by decide +kernel
theorem dX6_waysByEdges_48 : decode cX6_waysByEdges 48 = .ok (.iaload, 1) := by decide +kernel
theorem dX6_waysByEdges_49 : decode cX6_waysByEdges 49 = .ok (.ifCond .eq 7, 3) := by decide +kernel
theorem dX6_waysByEdges_52 : decode cX6_waysByEdges 52 = .ok (.iconst 1, 1) := by decide +kernel
theorem dX6_waysByEdges_53 : decode cX6_waysByEdges 53 = .ok (.goto 4, 3) := by decide +kernel
theorem dX6_waysByEdges_56 : decode cX6_waysByEdges 56 = .ok (.iconst 0, 1) := by decide +kernel
theorem dX6_waysByEdges_57 : decode cX6_waysByEdges 57 = .ok (.iconst 0, 1) := by decide +kernel
theorem dX6_waysByEdges_58 : decode cX6_waysByEdges 58 = .ok (.invokevirtual 46, 3) := by decide +kernel
theorem dX6_waysByEdges_61 : decode cX6_waysByEdges 61 = .ok (.iinc 4 1, 3) := by decide +kernel
theorem dX6_waysByEdges_64 : decode cX6_waysByEdges 64 = .ok (.goto (-50), 3) := by decide +kernel
theorem dX6_waysByEdges_67 : decode cX6_waysByEdges 67 = .ok (.aload_n 0, 1) := by decide +kernel
theorem dX6_waysByEdges_68 : decode cX6_waysByEdges 68 = .ok (.getfield 12, 3) := by decide +kernel
theorem dX6_waysByEdges_71 : decode cX6_waysByEdges 71 = .ok (.iload_n 2, 1) := by decide +kernel
theorem dX6_waysByEdges_72 : decode cX6_waysByEdges 72 = .ok (.iload_n 3, 1) := by decide +kernel
theorem dX6_waysByEdges_73 : decode cX6_waysByEdges 73 = .ok (.ldc 45, 2) := by decide +kernel
theorem dX6_waysByEdges_75 : decode cX6_waysByEdges 75 = .ok (.invokevirtual 81, 3) := by decide +kernel
theorem dX6_waysByEdges_78 : decode cX6_waysByEdges 78 = .ok (.ireturn, 1) := by decide +kernel
theorem dX6_waysByCorners_0 : decode cX6_waysByCorners 0 = .ok (.aload_n 0, 1) := by decide +kernel
theorem dX6_waysByCorners_1 : decode cX6_waysByCorners 1 = .ok (.getfield 12, 3) := by decide +kernel
theorem dX6_waysByCorners_4 : decode cX6_waysByCorners 4 = .ok (.bipush 16, 2) := by decide +kernel
theorem dX6_waysByCorners_6 : decode cX6_waysByCorners 6 = .ok (.invokevirtual 30, 3) := by decide +kernel
theorem dX6_waysByCorners_9 : decode cX6_waysByCorners 9 = .ok (.iconst 0, 1) := by decide +kernel
theorem dX6_waysByCorners_10 : decode cX6_waysByCorners 10 = .ok (.istore 4, 2) := by decide +kernel
theorem dX6_waysByCorners_12 : decode cX6_waysByCorners 12 = .ok (.iload 4, 2) := by decide +kernel
theorem dX6_waysByCorners_14 : decode cX6_waysByCorners 14 = .ok (.aload_n 1, 1) := by decide +kernel
theorem dX6_waysByCorners_15 : decode cX6_waysByCorners 15 = .ok (.getfield 38, 3) := by decide +kernel
theorem dX6_waysByCorners_18 : decode cX6_waysByCorners 18 = .ok (.if_icmp .ge 50, 3) := by decide +kernel
theorem dX6_waysByCorners_21 : decode cX6_waysByCorners 21 = .ok (.aload_n 0, 1) := by decide +kernel
theorem dX6_waysByCorners_22 : decode cX6_waysByCorners 22 = .ok (.getfield 12, 3) := by decide +kernel
theorem dX6_waysByCorners_25 : decode cX6_waysByCorners 25 = .ok (.aload_n 1, 1) := by decide +kernel
theorem dX6_waysByCorners_26 : decode cX6_waysByCorners 26 = .ok (.getfield 50, 3) := by decide +kernel
theorem dX6_waysByCorners_29 : decode cX6_waysByCorners 29 = .ok (.iload 4, 2) := by decide +kernel
theorem dX6_waysByCorners_31 : decode cX6_waysByCorners 31 = .ok (.iaload, 1) := by decide +kernel
theorem dX6_waysByCorners_32 : decode cX6_waysByCorners 32 = .ok (.bipush 8, 2) := by decide +kernel
theorem dX6_waysByCorners_34 : decode cX6_waysByCorners 34 = .ok (.iadd, 1) := by decide +kernel
theorem dX6_waysByCorners_35 : decode cX6_waysByCorners 35 = .ok (.aload_n 1, 1) := by decide +kernel
theorem dX6_waysByCorners_36 : decode cX6_waysByCorners 36 = .ok (.getfield 54, 3) := by decide +kernel
theorem dX6_waysByCorners_39 : decode cX6_waysByCorners 39 = .ok (.iload 4, 2) := by decide +kernel
theorem dX6_waysByCorners_41 : decode cX6_waysByCorners 41 = .ok (.iaload, 1) := by decide +kernel
theorem dX6_waysByCorners_42 : decode cX6_waysByCorners 42 = .ok (.iconst 0, 1) := by decide +kernel
theorem dX6_waysByCorners_43 : decode cX6_waysByCorners 43 = .ok (.aload_n 1, 1) := by decide +kernel
theorem dX6_waysByCorners_44 : decode cX6_waysByCorners 44 = .ok (.getfield 60, 3) := by decide +kernel
theorem dX6_waysByCorners_47 : decode cX6_waysByCorners 47 = .ok (.iload 4, 2) := by decide +kernel
theorem dX6_waysByCorners_49 : decode cX6_waysByCorners 49 = .ok (.iaload, 1) := by decide +kernel
theorem dX6_waysByCorners_50 : decode cX6_waysByCorners 50 = .ok (.ifCond .eq 7, 3) := by decide +kernel
theorem dX6_waysByCorners_53 : decode cX6_waysByCorners 53 = .ok (.iconst 1, 1) := by decide +kernel
theorem dX6_waysByCorners_54 : decode cX6_waysByCorners 54 = .ok (.goto 4, 3) := by decide +kernel
theorem dX6_waysByCorners_57 : decode cX6_waysByCorners 57 = .ok (.iconst 0, 1) := by decide +kernel
theorem dX6_waysByCorners_58 : decode cX6_waysByCorners 58 = .ok (.iconst 0, 1) := by decide +kernel
theorem dX6_waysByCorners_59 : decode cX6_waysByCorners 59 = .ok (.invokevirtual 46, 3) := by decide +kernel
theorem dX6_waysByCorners_62 : decode cX6_waysByCorners 62 = .ok (.iinc 4 1, 3) := by decide +kernel
theorem dX6_waysByCorners_65 : decode cX6_waysByCorners 65 = .ok (.goto (-53), 3) := by decide +kernel
theorem dX6_waysByCorners_68 : decode cX6_waysByCorners 68 = .ok (.iconst 0, 1) := by decide +kernel
theorem dX6_waysByCorners_69 : decode cX6_waysByCorners 69 = .ok (.istore 4, 2) := by decide +kernel
theorem dX6_waysByCorners_71 : decode cX6_waysByCorners 71 = .ok (.iload 4, 2) := by decide +kernel
theorem dX6_waysByCorners_73 : decode cX6_waysByCorners 73 = .ok (.aload_n 1, 1) := by decide +kernel
theorem dX6_waysByCorners_74 : decode cX6_waysByCorners 74 = .ok (.getfield 25, 3) := by decide +kernel
theorem dX6_waysByCorners_77 : decode cX6_waysByCorners 77 = .ok (.if_icmp .ge 38, 3) := by decide +kernel
theorem dX6_waysByCorners_80 : decode cX6_waysByCorners 80 = .ok (.iload 4, 2) := by decide +kernel
theorem dX6_waysByCorners_82 : decode cX6_waysByCorners 82 = .ok (.iload_n 2, 1) := by decide +kernel
theorem dX6_waysByCorners_83 : decode cX6_waysByCorners 83 = .ok (.if_icmp .eq 26, 3) := by decide +kernel
theorem dX6_waysByCorners_86 : decode cX6_waysByCorners 86 = .ok (.iload 4, 2) := by decide +kernel
theorem dX6_waysByCorners_88 : decode cX6_waysByCorners 88 = .ok (.iload_n 3, 1) := by decide +kernel
theorem dX6_waysByCorners_89 : decode cX6_waysByCorners 89 = .ok (.if_icmp .eq 20, 3) := by decide +kernel
theorem dX6_waysByCorners_92 : decode cX6_waysByCorners 92 = .ok (.aload_n 0, 1) := by decide +kernel
theorem dX6_waysByCorners_93 : decode cX6_waysByCorners 93 = .ok (.getfield 12, 3) := by decide +kernel
theorem dX6_waysByCorners_96 : decode cX6_waysByCorners 96 = .ok (.iload 4, 2) := by decide +kernel
theorem dX6_waysByCorners_98 : decode cX6_waysByCorners 98 = .ok (.iload 4, 2) := by decide +kernel
theorem dX6_waysByCorners_100 : decode cX6_waysByCorners 100 = .ok (.bipush 8, 2) := by decide +kernel
theorem dX6_waysByCorners_102 : decode cX6_waysByCorners 102 = .ok (.iadd, 1) := by decide +kernel
theorem dX6_waysByCorners_103 : decode cX6_waysByCorners 103 = .ok (.iconst 0, 1) := by decide +kernel
theorem dX6_waysByCorners_104 : decode cX6_waysByCorners 104 = .ok (.iconst 1, 1) := by decide +kernel
theorem dX6_waysByCorners_105 : decode cX6_waysByCorners 105 = .ok (.iconst 0, 1) := by decide +kernel
theorem dX6_waysByCorners_106 : decode cX6_waysByCorners 106 = .ok (.invokevirtual 46, 3) := by decide +kernel
theorem dX6_waysByCorners_109 : decode cX6_waysByCorners 109 = .ok (.iinc 4 1, 3) := by decide +kernel
theorem dX6_waysByCorners_112 : decode cX6_waysByCorners 112 = .ok (.goto (-41), 3) := by decide +kernel
theorem dX6_waysByCorners_115 : decode cX6_waysByCorners 115 = .ok (.aload_n 0, 1) := by decide +kernel
theorem dX6_waysByCorners_116 : decode cX6_waysByCorners 116 = .ok (.getfield 12, 3) := by decide +kernel
theorem dX6_waysByCorners_119 : decode cX6_waysByCorners 119 = .ok (.iload_n 2, 1) := by decide +kernel
theorem dX6_waysByCorners_120 : decode cX6_waysByCorners 120 = .ok (.bipush 8, 2) := by decide +kernel
theorem dX6_waysByCorners_122 : decode cX6_waysByCorners 122 = .ok (.iadd, 1) := by decide +kernel
theorem dX6_waysByCorners_123 : decode cX6_waysByCorners 123 = .ok (.iload_n 3, 1) := by decide +kernel
theorem dX6_waysByCorners_124 : decode cX6_waysByCorners 124 = .ok (.ldc 45, 2) := by decide +kernel
theorem dX6_waysByCorners_126 : decode cX6_waysByCorners 126 = .ok (.invokevirtual 81, 3) := by decide +kernel
theorem dX6_waysByCorners_129 : decode cX6_waysByCorners 129 = .ok (.ireturn, 1) := by decide +kernel
theorem dX6_meetDemands_0 : decode cX6_meetDemands 0 = .ok (.aload_n 1, 1) := by decide +kernel
theorem dX6_meetDemands_1 : decode cX6_meetDemands 1 = .ok (.getfield 25, 3) := by decide +kernel
theorem dX6_meetDemands_4 : decode cX6_meetDemands 4 = .ok (.istore_n 2, 1) := by decide +kernel
theorem dX6_meetDemands_5 : decode cX6_meetDemands 5 = .ok (.aload_n 0, 1) := by decide +kernel
theorem dX6_meetDemands_6 : decode cX6_meetDemands 6 = .ok (.getfield 12, 3) := by decide +kernel
theorem dX6_meetDemands_9 : decode cX6_meetDemands 9 = .ok (.aload_n 1, 1) := by decide +kernel
theorem dX6_meetDemands_10 : decode cX6_meetDemands 10 = .ok (.getfield 25, 3) := by decide +kernel
theorem dX6_meetDemands_13 : decode cX6_meetDemands 13 = .ok (.iconst 1, 1) := by decide +kernel
theorem dX6_meetDemands_14 : decode cX6_meetDemands 14 = .ok (.iadd, 1) := by decide +kernel
theorem dX6_meetDemands_15 : decode cX6_meetDemands 15 = .ok (.invokevirtual 30, 3) := by decide +kernel
theorem dX6_meetDemands_18 : decode cX6_meetDemands 18 = .ok (.aload_n 0, 1) := by decide +kernel
theorem dX6_meetDemands_19 : decode cX6_meetDemands 19 = .ok (.aload_n 1, 1) := by decide +kernel
theorem dX6_meetDemands_20 : decode cX6_meetDemands 20 = .ok (.invokevirtual 34, 3) := by decide +kernel
theorem dX6_meetDemands_23 : decode cX6_meetDemands 23 = .ok (.iconst 0, 1) := by decide +kernel
theorem dX6_meetDemands_24 : decode cX6_meetDemands 24 = .ok (.istore_n 3, 1) := by decide +kernel
theorem dX6_meetDemands_25 : decode cX6_meetDemands 25 = .ok (.iload_n 3, 1) := by decide +kernel
theorem dX6_meetDemands_26 : decode cX6_meetDemands 26 = .ok (.aload_n 1, 1) := by decide +kernel
theorem dX6_meetDemands_27 : decode cX6_meetDemands 27 = .ok (.getfield 25, 3) := by decide +kernel
theorem dX6_meetDemands_30 : decode cX6_meetDemands 30 = .ok (.if_icmp .ge 60, 3) := by decide +kernel
theorem dX6_meetDemands_33 : decode cX6_meetDemands 33 = .ok (.aload_n 1, 1) := by decide +kernel
theorem dX6_meetDemands_34 : decode cX6_meetDemands 34 = .ok (.getfield 119, 3) := by decide +kernel
theorem dX6_meetDemands_37 : decode cX6_meetDemands 37 = .ok (.iload_n 3, 1) := by decide +kernel
theorem dX6_meetDemands_38 : decode cX6_meetDemands 38 = .ok (.iaload, 1) := by decide +kernel
theorem dX6_meetDemands_39 : decode cX6_meetDemands 39 = .ok (.istore 4, 2) := by decide +kernel
theorem dX6_meetDemands_41 : decode cX6_meetDemands 41 = .ok (.iload 4, 2) := by decide +kernel
theorem dX6_meetDemands_43 : decode cX6_meetDemands 43 = .ok (.ifCond .le 20, 3) := by decide +kernel
theorem dX6_meetDemands_46 : decode cX6_meetDemands 46 = .ok (.aload_n 0, 1) := by decide +kernel
theorem dX6_meetDemands_47 : decode cX6_meetDemands 47 = .ok (.getfield 12, 3) := by decide +kernel
theorem dX6_meetDemands_50 : decode cX6_meetDemands 50 = .ok (.iload_n 2, 1) := by decide +kernel
theorem dX6_meetDemands_51 : decode cX6_meetDemands 51 = .ok (.iload_n 3, 1) := by decide +kernel
theorem dX6_meetDemands_52 : decode cX6_meetDemands 52 = .ok (.iload 4, 2) := by decide +kernel
theorem dX6_meetDemands_54 : decode cX6_meetDemands 54 = .ok (.iload 4, 2) := by decide +kernel
theorem dX6_meetDemands_56 : decode cX6_meetDemands 56 = .ok (.iconst 0, 1) := by decide +kernel
theorem dX6_meetDemands_57 : decode cX6_meetDemands 57 = .ok (.invokevirtual 46, 3) := by decide +kernel
theorem dX6_meetDemands_60 : decode cX6_meetDemands 60 = .ok (.goto 24, 3) := by decide +kernel
theorem dX6_meetDemands_63 : decode cX6_meetDemands 63 = .ok (.iload 4, 2) := by decide +kernel
theorem dX6_meetDemands_65 : decode cX6_meetDemands 65 = .ok (.ifCond .ge 19, 3) := by decide +kernel
theorem dX6_meetDemands_68 : decode cX6_meetDemands 68 = .ok (.aload_n 0, 1) := by decide +kernel
theorem dX6_meetDemands_69 : decode cX6_meetDemands 69 = .ok (.getfield 12, 3) := by decide +kernel
theorem dX6_meetDemands_72 : decode cX6_meetDemands 72 = .ok (.iload_n 3, 1) := by decide +kernel
theorem dX6_meetDemands_73 : decode cX6_meetDemands 73 = .ok (.iload_n 2, 1) := by decide +kernel
theorem dX6_meetDemands_74 : decode cX6_meetDemands 74 = .ok (.iload 4, 2) := by decide +kernel
theorem dX6_meetDemands_76 : decode cX6_meetDemands 76 = .ok (.ineg, 1) := by decide +kernel
theorem dX6_meetDemands_77 : decode cX6_meetDemands 77 = .ok (.iload 4, 2) := by decide +kernel
theorem dX6_meetDemands_79 : decode cX6_meetDemands 79 = .ok (.ineg, 1) := by decide +kernel
theorem dX6_meetDemands_80 : decode cX6_meetDemands 80 = .ok (.iconst 0, 1) := by decide +kernel
theorem dX6_meetDemands_81 : decode cX6_meetDemands 81 = .ok (.invokevirtual 46, 3) := by decide +kernel
theorem dX6_meetDemands_84 : decode cX6_meetDemands 84 = .ok (.iinc 3 1, 3) := by decide +kernel
theorem dX6_meetDemands_87 : decode cX6_meetDemands 87 = .ok (.goto (-62), 3) := by decide +kernel
theorem dX6_meetDemands_90 : decode cX6_meetDemands 90 = .ok (.aload_n 0, 1) := by decide +kernel
theorem dX6_meetDemands_91 : decode cX6_meetDemands 91 = .ok (.getfield 12, 3) := by decide +kernel
theorem dX6_meetDemands_94 : decode cX6_meetDemands 94 = .ok (.invokevirtual 70, 3) := by decide +kernel
theorem dX6_meetDemands_97 : decode cX6_meetDemands 97 = .ok (.ireturn, 1) := by decide +kernel
theorem dX6_arriveBy_0 : decode cX6_arriveBy 0 = .ok (.aload_n 0, 1) := by decide +kernel
theorem dX6_arriveBy_1 : decode cX6_arriveBy 1 = .ok (.getfield 12, 3) := by decide +kernel
theorem dX6_arriveBy_4 : decode cX6_arriveBy 4 = .ok (.aload_n 1, 1) := by decide +kernel
theorem dX6_arriveBy_5 : decode cX6_arriveBy 5 = .ok (.getfield 25, 3) := by decide +kernel
theorem dX6_arriveBy_8 : decode cX6_arriveBy 8 = .ok (.invokevirtual 30, 3) := by decide +kernel
theorem dX6_arriveBy_11 : decode cX6_arriveBy 11 = .ok (.iconst 0, 1) := by decide +kernel
theorem dX6_arriveBy_12 : decode cX6_arriveBy 12 = .ok (.istore 5, 2) := by decide +kernel
theorem dX6_arriveBy_14 : decode cX6_arriveBy 14 = .ok (.iload 5, 2) := by decide +kernel
theorem dX6_arriveBy_16 : decode cX6_arriveBy 16 = .ok (.aload_n 1, 1) := by decide +kernel
theorem dX6_arriveBy_17 : decode cX6_arriveBy 17 = .ok (.getfield 38, 3) := by decide +kernel
theorem dX6_arriveBy_20 : decode cX6_arriveBy 20 = .ok (.if_icmp .ge 39, 3) := by decide +kernel
theorem dX6_arriveBy_23 : decode cX6_arriveBy 23 = .ok (.aload_n 0, 1) := by decide +kernel
theorem dX6_arriveBy_24 : decode cX6_arriveBy 24 = .ok (.getfield 12, 3) := by decide +kernel
theorem dX6_arriveBy_27 : decode cX6_arriveBy 27 = .ok (.aload_n 1, 1) := by decide +kernel
theorem dX6_arriveBy_28 : decode cX6_arriveBy 28 = .ok (.getfield 50, 3) := by decide +kernel
theorem dX6_arriveBy_31 : decode cX6_arriveBy 31 = .ok (.iload 5, 2) := by decide +kernel
theorem dX6_arriveBy_33 : decode cX6_arriveBy 33 = .ok (.iaload, 1) := by decide +kernel
theorem dX6_arriveBy_34 : decode cX6_arriveBy 34 = .ok (.aload_n 1, 1) := by decide +kernel
theorem dX6_arriveBy_35 : decode cX6_arriveBy 35 = .ok (.getfield 54, 3) := by decide +kernel
theorem dX6_arriveBy_38 : decode cX6_arriveBy 38 = .ok (.iload 5, 2) := by decide +kernel
theorem dX6_arriveBy_40 : decode cX6_arriveBy 40 = .ok (.iaload, 1) := by decide +kernel
theorem dX6_arriveBy_41 : decode cX6_arriveBy 41 = .ok (.iconst 0, 1) := by decide +kernel
theorem dX6_arriveBy_42 : decode cX6_arriveBy 42 = .ok (.aload_n 1, 1) := by decide +kernel
theorem dX6_arriveBy_43 : decode cX6_arriveBy 43 = .ok (.getfield 60, 3) := by decide +kernel
theorem dX6_arriveBy_46 : decode cX6_arriveBy 46 = .ok (.iload 5, 2) := by decide +kernel
theorem dX6_arriveBy_48 : decode cX6_arriveBy 48 = .ok (.iaload, 1) := by decide +kernel
theorem dX6_arriveBy_49 : decode cX6_arriveBy 49 = .ok (.iconst 1, 1) := by decide +kernel
theorem dX6_arriveBy_50 : decode cX6_arriveBy 50 = .ok (.invokevirtual 46, 3) := by decide +kernel
theorem dX6_arriveBy_53 : decode cX6_arriveBy 53 = .ok (.iinc 5 1, 3) := by decide +kernel
theorem dX6_arriveBy_56 : decode cX6_arriveBy 56 = .ok (.goto (-42), 3) := by decide +kernel
theorem dX6_arriveBy_59 : decode cX6_arriveBy 59 = .ok (.aload_n 0, 1) := by decide +kernel
theorem dX6_arriveBy_60 : decode cX6_arriveBy 60 = .ok (.getfield 12, 3) := by decide +kernel
theorem dX6_arriveBy_63 : decode cX6_arriveBy 63 = .ok (.iload_n 3, 1) := by decide +kernel
theorem dX6_arriveBy_64 : decode cX6_arriveBy 64 = .ok (.iload_n 2, 1) := by decide +kernel
theorem dX6_arriveBy_65 : decode cX6_arriveBy 65 = .ok (.iconst 0, 1) := by decide +kernel
theorem dX6_arriveBy_66 : decode cX6_arriveBy 66 = .ok (.ldc 45, 2) := by decide +kernel
theorem dX6_arriveBy_68 : decode cX6_arriveBy 68 = .ok (.iload 4, 2) := by decide +kernel
theorem dX6_arriveBy_70 : decode cX6_arriveBy 70 = .ok (.iconst 1, 1) := by decide +kernel
theorem dX6_arriveBy_71 : decode cX6_arriveBy 71 = .ok (.iadd, 1) := by decide +kernel
theorem dX6_arriveBy_72 : decode cX6_arriveBy 72 = .ok (.ineg, 1) := by decide +kernel
theorem dX6_arriveBy_73 : decode cX6_arriveBy 73 = .ok (.invokevirtual 46, 3) := by decide +kernel
theorem dX6_arriveBy_76 : decode cX6_arriveBy 76 = .ok (.aload_n 0, 1) := by decide +kernel
theorem dX6_arriveBy_77 : decode cX6_arriveBy 77 = .ok (.getfield 12, 3) := by decide +kernel
theorem dX6_arriveBy_80 : decode cX6_arriveBy 80 = .ok (.invokevirtual 91, 3) := by decide +kernel
theorem dX6_arriveBy_83 : decode cX6_arriveBy 83 = .ok (.aload_n 0, 1) := by decide +kernel
theorem dX6_arriveBy_84 : decode cX6_arriveBy 84 = .ok (.getfield 12, 3) := by decide +kernel
theorem dX6_arriveBy_87 : decode cX6_arriveBy 87 = .ok (.aload_n 1, 1) := by decide +kernel
theorem dX6_arriveBy_88 : decode cX6_arriveBy 88 = .ok (.getfield 38, 3) := by decide +kernel
theorem dX6_arriveBy_91 : decode cX6_arriveBy 91 = .ok (.iconst 1, 1) := by decide +kernel
theorem dX6_arriveBy_92 : decode cX6_arriveBy 92 = .ok (.iadd, 1) := by decide +kernel
theorem dX6_arriveBy_93 : decode cX6_arriveBy 93 = .ok (.invokevirtual 97, 3) := by decide +kernel
theorem dX6_arriveBy_96 : decode cX6_arriveBy 96 = .ok (.ineg, 1) := by decide +kernel
theorem dX6_arriveBy_97 : decode cX6_arriveBy 97 = .ok (.ireturn, 1) := by decide +kernel
theorem dX6_fills_0 : decode cX6_fills 0 = .ok (.iconst 0, 1) := by decide +kernel
theorem dX6_fills_1 : decode cX6_fills 1 = .ok (.istore_n 3, 1) := by decide +kernel
theorem dX6_fills_2 : decode cX6_fills 2 = .ok (.iload_n 3, 1) := by decide +kernel
theorem dX6_fills_3 : decode cX6_fills 3 = .ok (.aload_n 1, 1) := by decide +kernel
theorem dX6_fills_4 : decode cX6_fills 4 = .ok (.getfield 38, 3) := by decide +kernel
theorem dX6_fills_7 : decode cX6_fills 7 = .ok (.if_icmp .ge 85, 3) := by decide +kernel
theorem dX6_fills_10 : decode cX6_fills 10 = .ok (.iload_n 2, 1) := by decide +kernel
theorem dX6_fills_11 : decode cX6_fills 11 = .ok (.aload_n 1, 1) := by decide +kernel
theorem dX6_fills_12 : decode cX6_fills 12 = .ok (.getfield 50, 3) := by decide +kernel
theorem dX6_fills_15 : decode cX6_fills 15 = .ok (.iload_n 3, 1) := by decide +kernel
theorem dX6_fills_16 : decode cX6_fills 16 = .ok (.iaload, 1) := by decide +kernel
theorem dX6_fills_17 : decode cX6_fills 17 = .ok (.aload_n 1, 1) := by decide +kernel
theorem dX6_fills_18 : decode cX6_fills 18 = .ok (.getfield 54, 3) := by decide +kernel
theorem dX6_fills_21 : decode cX6_fills 21 = .ok (.iload_n 3, 1) := by decide +kernel
theorem dX6_fills_22 : decode cX6_fills 22 = .ok (.iaload, 1) := by decide +kernel
theorem dX6_fills_23 : decode cX6_fills 23 = .ok (.invokestatic 122, 3) := by decide +kernel
theorem dX6_fills_26 : decode cX6_fills 26 = .ok (.istore 4, 2) := by decide +kernel
theorem dX6_fills_28 : decode cX6_fills 28 = .ok (.iload_n 2, 1) := by decide +kernel
theorem dX6_fills_29 : decode cX6_fills 29 = .ok (.aload_n 1, 1) := by decide +kernel
theorem dX6_fills_30 : decode cX6_fills 30 = .ok (.getfield 54, 3) := by decide +kernel
theorem dX6_fills_33 : decode cX6_fills 33 = .ok (.iload_n 3, 1) := by decide +kernel
theorem dX6_fills_34 : decode cX6_fills 34 = .ok (.iaload, 1) := by decide +kernel
theorem dX6_fills_35 : decode cX6_fills 35 = .ok (.aload_n 1, 1) := by decide +kernel
theorem dX6_fills_36 : decode cX6_fills 36 = .ok (.getfield 50, 3) := by decide +kernel
theorem dX6_fills_39 : decode cX6_fills 39 = .ok (.iload_n 3, 1) := by decide +kernel
theorem dX6_fills_40 : decode cX6_fills 40 = .ok (.iaload, 1) := by decide +kernel
theorem dX6_fills_41 : decode cX6_fills 41 = .ok (.invokestatic 122, 3) := by decide +kernel
theorem dX6_fills_44 : decode cX6_fills 44 = .ok (.istore 5, 2) := by decide +kernel
theorem dX6_fills_46 : decode cX6_fills 46 = .ok (.iload 4, 2) := by decide +kernel
theorem dX6_fills_48 : decode cX6_fills 48 = .ok (.ifCond .eq 17, 3) := by decide +kernel
theorem dX6_fills_51 : decode cX6_fills 51 = .ok (.aload_n 0, 1) := by decide +kernel
theorem dX6_fills_52 : decode cX6_fills 52 = .ok (.iload_n 3, 1) := by decide +kernel
theorem dX6_fills_53 : decode cX6_fills 53 = .ok (.invokevirtual 126, 3) := by decide +kernel
theorem dX6_fills_56 : decode cX6_fills 56 = .ok (.aload_n 1, 1) := by decide +kernel
theorem dX6_fills_57 : decode cX6_fills 57 = .ok (.getfield 60, 3) := by decide +kernel
theorem dX6_fills_60 : decode cX6_fills 60 = .ok (.iload_n 3, 1) := by decide +kernel
theorem dX6_fills_61 : decode cX6_fills 61 = .ok (.iaload, 1) := by decide +kernel
theorem dX6_fills_62 : decode cX6_fills 62 = .ok (.if_icmp .ne 22, 3) := by decide +kernel
theorem dX6_fills_65 : decode cX6_fills 65 = .ok (.iload 5, 2) := by decide +kernel
theorem dX6_fills_67 : decode cX6_fills 67 = .ok (.ifCond .eq 19, 3) := by decide +kernel
theorem dX6_fills_70 : decode cX6_fills 70 = .ok (.aload_n 0, 1) := by decide +kernel
theorem dX6_fills_71 : decode cX6_fills 71 = .ok (.iload_n 3, 1) := by decide +kernel
theorem dX6_fills_72 : decode cX6_fills 72 = .ok (.invokevirtual 126, 3) := by decide +kernel
theorem dX6_fills_75 : decode cX6_fills 75 = .ok (.aload_n 1, 1) := by decide +kernel
theorem dX6_fills_76 : decode cX6_fills 76 = .ok (.getfield 57, 3) := by decide +kernel
theorem dX6_fills_79 : decode cX6_fills 79 = .ok (.iload_n 3, 1) := by decide +kernel
theorem dX6_fills_80 : decode cX6_fills 80 = .ok (.iaload, 1) := by decide +kernel
theorem dX6_fills_81 : decode cX6_fills 81 = .ok (.if_icmp .eq 5, 3) := by decide +kernel
theorem dX6_fills_84 : decode cX6_fills 84 = .ok (.iconst 0, 1) := by decide +kernel
theorem dX6_fills_85 : decode cX6_fills 85 = .ok (.ireturn, 1) := by decide +kernel
theorem dX6_fills_86 : decode cX6_fills 86 = .ok (.iinc 3 1, 3) := by decide +kernel
theorem dX6_fills_89 : decode cX6_fills 89 = .ok (.goto (-87), 3) := by decide +kernel
theorem dX6_fills_92 : decode cX6_fills 92 = .ok (.iconst 1, 1) := by decide +kernel
theorem dX6_fills_93 : decode cX6_fills 93 = .ok (.ireturn, 1) := by decide +kernel
theorem dX6_arePricesRight_0 : decode cX6_arePricesRight 0 = .ok (.iconst 0, 1) := by decide +kernel
theorem dX6_arePricesRight_1 : decode cX6_arePricesRight 1 = .ok (.istore_n 2, 1) := by decide +kernel
theorem dX6_arePricesRight_2 : decode cX6_arePricesRight 2 = .ok (.iload_n 2, 1) := by decide +kernel
theorem dX6_arePricesRight_3 : decode cX6_arePricesRight 3 = .ok (.aload_n 1, 1) := by decide +kernel
theorem dX6_arePricesRight_4 : decode cX6_arePricesRight 4 = .ok (.getfield 38, 3) := by decide +kernel
theorem dX6_arePricesRight_7 : decode cX6_arePricesRight 7 = .ok (.if_icmp .ge 104, 3) := by decide +kernel
theorem dX6_arePricesRight_10 : decode cX6_arePricesRight 10 = .ok (.aload_n 0, 1) := by decide +kernel
theorem dX6_arePricesRight_11 : decode cX6_arePricesRight 11 = .ok (.aload_n 1, 1) := by decide +kernel
theorem dX6_arePricesRight_12 : decode cX6_arePricesRight 12 = .ok (.getfield 50, 3) := by decide +kernel
theorem dX6_arePricesRight_15 : decode cX6_arePricesRight 15 = .ok (.iload_n 2, 1) := by decide +kernel
theorem dX6_arePricesRight_16 : decode cX6_arePricesRight 16 = .ok (.iaload, 1) := by decide +kernel
theorem dX6_arePricesRight_17 : decode cX6_arePricesRight 17 = .ok (.invokevirtual 127, 3) := by decide +kernel
theorem dX6_arePricesRight_20 : decode cX6_arePricesRight 20 = .ok (.istore_n 3, 1) := by decide +kernel
theorem dX6_arePricesRight_21 : decode cX6_arePricesRight 21 = .ok (.aload_n 0, 1) := by decide +kernel
theorem dX6_arePricesRight_22 : decode cX6_arePricesRight 22 = .ok (.aload_n 1, 1) := by decide +kernel
theorem dX6_arePricesRight_23 : decode cX6_arePricesRight 23 = .ok (.getfield 54, 3) := by decide +kernel
theorem dX6_arePricesRight_26 : decode cX6_arePricesRight 26 = .ok (.iload_n 2, 1) := by decide +kernel
theorem dX6_arePricesRight_27 : decode cX6_arePricesRight 27 = .ok (.iaload, 1) := by decide +kernel
theorem dX6_arePricesRight_28 : decode cX6_arePricesRight 28 = .ok (.invokevirtual 127, 3) := by decide +kernel
theorem dX6_arePricesRight_31 : decode cX6_arePricesRight 31 = .ok (.istore 4, 2) := by decide +kernel
theorem dX6_arePricesRight_33 : decode cX6_arePricesRight 33 = .ok (.aload_n 0, 1) := by decide +kernel
theorem dX6_arePricesRight_34 : decode cX6_arePricesRight 34 = .ok (.iload_n 2, 1) := by decide +kernel
theorem dX6_arePricesRight_35 : decode cX6_arePricesRight 35 = .ok (.invokevirtual 126, 3) := by decide +kernel
theorem dX6_arePricesRight_38 : decode cX6_arePricesRight 38 = .ok (.istore 5, 2) := by decide +kernel
theorem dX6_arePricesRight_40 : decode cX6_arePricesRight 40 = .ok (.iload 5, 2) := by decide +kernel
theorem dX6_arePricesRight_42 : decode cX6_arePricesRight 42 = .ok (.aload_n 1, 1) := by decide +kernel
theorem dX6_arePricesRight_43 : decode cX6_arePricesRight 43 = .ok (.getfield 60, 3) := by decide +kernel
theorem dX6_arePricesRight_46 : decode cX6_arePricesRight 46 = .ok (.iload_n 2, 1) := by decide +kernel
theorem dX6_arePricesRight_47 : decode cX6_arePricesRight 47 = .ok (.iaload, 1) := by decide +kernel
theorem dX6_arePricesRight_48 : decode cX6_arePricesRight 48 = .ok (.if_icmp .ge 24, 3) := by decide +kernel
theorem dX6_arePricesRight_51 : decode cX6_arePricesRight 51 = .ok (.iload_n 3, 1) := by decide +kernel
theorem dX6_arePricesRight_52 : decode cX6_arePricesRight 52 = .ok (.ldc 109, 2) := by decide +kernel
theorem dX6_arePricesRight_54 : decode cX6_arePricesRight 54 = .ok (.if_icmp .ge 18, 3) := by decide +kernel
theorem dX6_arePricesRight_57 : decode cX6_arePricesRight 57 = .ok (.iload 4, 2) := by decide +kernel
theorem dX6_arePricesRight_59 : decode cX6_arePricesRight 59 = .ok (.iload_n 3, 1) := by decide +kernel
theorem dX6_arePricesRight_60 : decode cX6_arePricesRight 60 = .ok (.aload_n 1, 1) := by decide +kernel
theorem dX6_arePricesRight_61 : decode cX6_arePricesRight 61 = .ok (.getfield 63, 3) := by decide +kernel
theorem dX6_arePricesRight_64 : decode cX6_arePricesRight 64 = .ok (.iload_n 2, 1) := by decide +kernel
theorem dX6_arePricesRight_65 : decode cX6_arePricesRight 65 = .ok (.iaload, 1) := by decide +kernel
theorem dX6_arePricesRight_66 : decode cX6_arePricesRight 66 = .ok (.iadd, 1) := by decide +kernel
theorem dX6_arePricesRight_67 : decode cX6_arePricesRight 67 = .ok (.if_icmp .le 5, 3) := by decide +kernel
theorem dX6_arePricesRight_70 : decode cX6_arePricesRight 70 = .ok (.iconst 0, 1) := by decide +kernel
theorem dX6_arePricesRight_71 : decode cX6_arePricesRight 71 = .ok (.ireturn, 1) := by decide +kernel
theorem dX6_arePricesRight_72 : decode cX6_arePricesRight 72 = .ok (.iload 5, 2) := by decide +kernel
theorem dX6_arePricesRight_74 : decode cX6_arePricesRight 74 = .ok (.aload_n 1, 1) := by decide +kernel
theorem dX6_arePricesRight_75 : decode cX6_arePricesRight 75 = .ok (.getfield 57, 3) := by decide +kernel
theorem dX6_arePricesRight_78 : decode cX6_arePricesRight 78 = .ok (.iload_n 2, 1) := by decide +kernel
theorem dX6_arePricesRight_79 : decode cX6_arePricesRight 79 = .ok (.iaload, 1) := by decide +kernel
theorem dX6_arePricesRight_80 : decode cX6_arePricesRight 80 = .ok (.if_icmp .le 25, 3) := by decide +kernel
theorem dX6_arePricesRight_83 : decode cX6_arePricesRight 83 = .ok (.iload 4, 2) := by decide +kernel
theorem dX6_arePricesRight_85 : decode cX6_arePricesRight 85 = .ok (.ldc 109, 2) := by decide +kernel
theorem dX6_arePricesRight_87 : decode cX6_arePricesRight 87 = .ok (.if_icmp .ge 18, 3) := by decide +kernel
theorem dX6_arePricesRight_90 : decode cX6_arePricesRight 90 = .ok (.iload_n 3, 1) := by decide +kernel
theorem dX6_arePricesRight_91 : decode cX6_arePricesRight 91 = .ok (.iload 4, 2) := by decide +kernel
theorem dX6_arePricesRight_93 : decode cX6_arePricesRight 93 = .ok (.aload_n 1, 1) := by decide +kernel
theorem dX6_arePricesRight_94 : decode cX6_arePricesRight 94 = .ok (.getfield 63, 3) := by decide +kernel
theorem dX6_arePricesRight_97 : decode cX6_arePricesRight 97 = .ok (.iload_n 2, 1) := by decide +kernel
theorem dX6_arePricesRight_98 : decode cX6_arePricesRight 98 = .ok (.iaload, 1) := by decide +kernel
theorem dX6_arePricesRight_99 : decode cX6_arePricesRight 99 = .ok (.isub, 1) := by decide +kernel
theorem dX6_arePricesRight_100 : decode cX6_arePricesRight 100 = .ok (.if_icmp .le 5, 3) := by decide +kernel
theorem dX6_arePricesRight_103 : decode cX6_arePricesRight 103 = .ok (.iconst 0, 1) := by decide +kernel
theorem dX6_arePricesRight_104 : decode cX6_arePricesRight 104 = .ok (.ireturn, 1) := by decide +kernel
theorem dX6_arePricesRight_105 : decode cX6_arePricesRight 105 = .ok (.iinc 2 1, 3) := by decide +kernel
theorem dX6_arePricesRight_108 : decode cX6_arePricesRight 108 = .ok (.goto (-106), 3) := by decide +kernel
theorem dX6_arePricesRight_111 : decode cX6_arePricesRight 111 = .ok (.iconst 1, 1) := by decide +kernel
theorem dX6_arePricesRight_112 : decode cX6_arePricesRight 112 = .ok (.ireturn, 1) := by decide +kernel
theorem dX7_init_0 : decode cX7_init 0 = .ok (.aload_n 0, 1) := by decide +kernel
theorem dX7_init_1 : decode cX7_init 1 = .ok (.invokespecial 1, 3) := by decide +kernel
theorem dX7_init_4 : decode cX7_init 4 = .ok (.aload_n 0, 1) := by decide +kernel
theorem dX7_init_5 : decode cX7_init 5 = .ok (.bipush 16, 2) := by decide +kernel
theorem dX7_init_7 : decode cX7_init 7 = .ok (.newarray .int, 2) := by decide +kernel
theorem dX7_init_9 : decode cX7_init 9 = .ok (.putfield 9, 3) := by decide +kernel
theorem dX7_init_12 : decode cX7_init 12 = .ok (.aload_n 0, 1) := by decide +kernel
theorem dX7_init_13 : decode cX7_init 13 = .ok (.bipush 16, 2) := by decide +kernel
theorem dX7_init_15 : decode cX7_init 15 = .ok (.newarray .int, 2) := by decide +kernel
theorem dX7_init_17 : decode cX7_init 17 = .ok (.putfield 13, 3) := by decide +kernel
theorem dX7_init_20 : decode cX7_init 20 = .ok (.aload_n 0, 1) := by decide +kernel
theorem dX7_init_21 : decode cX7_init 21 = .ok (.iconst 4, 1) := by decide +kernel
theorem dX7_init_22 : decode cX7_init 22 = .ok (.newarray .int, 2) := by decide +kernel
theorem dX7_init_24 : decode cX7_init 24 = .ok (.putfield 16, 3) := by decide +kernel
theorem dX7_init_27 : decode cX7_init 27 = .ok (.aload_n 0, 1) := by decide +kernel
theorem dX7_init_28 : decode cX7_init 28 = .ok (.iconst 4, 1) := by decide +kernel
theorem dX7_init_29 : decode cX7_init 29 = .ok (.newarray .int, 2) := by decide +kernel
theorem dX7_init_31 : decode cX7_init 31 = .ok (.putfield 19, 3) := by decide +kernel
theorem dX7_init_34 : decode cX7_init 34 = .ok (.aload_n 0, 1) := by decide +kernel
theorem dX7_init_35 : decode cX7_init 35 = .ok (.iconst 1, 1) := by decide +kernel
theorem dX7_init_36 : decode cX7_init 36 = .ok (.putfield 22, 3) := by decide +kernel
theorem dX7_init_39 : decode cX7_init 39 = .ok (.aload_n 0, 1) := by decide +kernel
theorem dX7_init_40 : decode cX7_init 40 = .ok (.iconst 1, 1) := by decide +kernel
theorem dX7_init_41 : decode cX7_init 41 = .ok (.putfield 26, 3) := by decide +kernel
theorem dX7_init_44 : decode cX7_init 44 = .ok (.return_, 1) := by decide +kernel
theorem dX7_start_0 : decode cX7_start 0 = .ok (.aload_n 0, 1) := by decide +kernel
theorem dX7_start_1 : decode cX7_start 1 = .ok (.iload_n 1, 1) := by decide +kernel
theorem dX7_start_2 : decode cX7_start 2 = .ok (.putfield 22, 3) := by decide +kernel
theorem dX7_start_5 : decode cX7_start 5 = .ok (.aload_n 0, 1) := by decide +kernel
theorem dX7_start_6 : decode cX7_start 6 = .ok (.iload_n 2, 1) := by decide +kernel
theorem dX7_start_7 : decode cX7_start 7 = .ok (.putfield 26, 3) := by decide +kernel
theorem dX7_start_10 : decode cX7_start 10 = .ok (.iconst 0, 1) := by decide +kernel
theorem dX7_start_11 : decode cX7_start 11 = .ok (.istore_n 3, 1) := by decide +kernel
theorem dX7_start_12 : decode cX7_start 12 = .ok (.iload_n 3, 1) := by decide +kernel
theorem dX7_start_13 : decode cX7_start 13 = .ok (.aload_n 0, 1) := by decide +kernel
theorem dX7_start_14 : decode cX7_start 14 = .ok (.getfield 9, 3) := by decide +kernel
theorem dX7_start_17 : decode cX7_start 17 = .ok (.arraylength, 1) := by decide +kernel
theorem dX7_start_18 : decode cX7_start 18 = .ok (.if_icmp .ge 16, 3) := by decide +kernel
theorem dX7_start_21 : decode cX7_start 21 = .ok (.aload_n 0, 1) := by decide +kernel
theorem dX7_start_22 : decode cX7_start 22 = .ok (.getfield 9, 3) := by decide +kernel
theorem dX7_start_25 : decode cX7_start 25 = .ok (.iload_n 3, 1) := by decide +kernel
theorem dX7_start_26 : decode cX7_start 26 = .ok (.iconst 0, 1) := by decide +kernel
theorem dX7_start_27 : decode cX7_start 27 = .ok (.iastore, 1) := by decide +kernel
theorem dX7_start_28 : decode cX7_start 28 = .ok (.iinc 3 1, 3) := by decide +kernel
theorem dX7_start_31 : decode cX7_start 31 = .ok (.goto (-19), 3) := by decide +kernel
theorem dX7_start_34 : decode cX7_start 34 = .ok (.return_, 1) := by decide +kernel
theorem dX7_placeOf_0 : decode cX7_placeOf 0 = .ok (.iload_n 1, 1) := by decide +kernel
theorem dX7_placeOf_1 : decode cX7_placeOf 1 = .ok (.aload_n 0, 1) := by decide +kernel
theorem dX7_placeOf_2 : decode cX7_placeOf 2 = .ok (.getfield 26, 3) := by decide +kernel
theorem dX7_placeOf_5 : decode cX7_placeOf 5 = .ok (.imul, 1) := by decide +kernel
theorem dX7_placeOf_6 : decode cX7_placeOf 6 = .ok (.iload_n 2, 1) := by decide +kernel
theorem dX7_placeOf_7 : decode cX7_placeOf 7 = .ok (.iadd, 1) := by decide +kernel
theorem dX7_placeOf_8 : decode cX7_placeOf 8 = .ok (.ireturn, 1) := by decide +kernel
theorem dX7_addUp_0 : decode cX7_addUp 0 = .ok (.aload_n 0, 1) := by decide +kernel
theorem dX7_addUp_1 : decode cX7_addUp 1 = .ok (.iconst 0, 1) := by decide +kernel
theorem dX7_addUp_2 : decode cX7_addUp 2 = .ok (.putfield 29, 3) := by decide +kernel
theorem dX7_addUp_5 : decode cX7_addUp 5 = .ok (.iconst 0, 1) := by decide +kernel
theorem dX7_addUp_6 : decode cX7_addUp 6 = .ok (.istore_n 2, 1) := by decide +kernel
theorem dX7_addUp_7 : decode cX7_addUp 7 = .ok (.iload_n 2, 1) := by decide +kernel
theorem dX7_addUp_8 : decode cX7_addUp 8 = .ok (.iconst 4, 1) := by decide +kernel
theorem dX7_addUp_9 : decode cX7_addUp 9 = .ok (.if_icmp .ge 23, 3) := by decide +kernel
theorem dX7_addUp_12 : decode cX7_addUp 12 = .ok (.aload_n 0, 1) := by decide +kernel
theorem dX7_addUp_13 : decode cX7_addUp 13 = .ok (.getfield 16, 3) := by decide +kernel
theorem dX7_addUp_16 : decode cX7_addUp 16 = .ok (.iload_n 2, 1) := by decide +kernel
theorem dX7_addUp_17 : decode cX7_addUp 17 = .ok (.iconst 0, 1) := by decide +kernel
theorem dX7_addUp_18 : decode cX7_addUp 18 = .ok (.iastore, 1) := by decide +kernel
theorem dX7_addUp_19 : decode cX7_addUp 19 = .ok (.aload_n 0, 1) := by decide +kernel
theorem dX7_addUp_20 : decode cX7_addUp 20 = .ok (.getfield 19, 3) := by decide +kernel
theorem dX7_addUp_23 : decode cX7_addUp 23 = .ok (.iload_n 2, 1) := by decide +kernel
theorem dX7_addUp_24 : decode cX7_addUp 24 = .ok (.iconst 0, 1) := by decide +kernel
theorem dX7_addUp_25 : decode cX7_addUp 25 = .ok (.iastore, 1) := by decide +kernel
theorem dX7_addUp_26 : decode cX7_addUp 26 = .ok (.iinc 2 1, 3) := by decide +kernel
theorem dX7_addUp_29 : decode cX7_addUp 29 = .ok (.goto (-22), 3) := by decide +kernel
theorem dX7_addUp_32 : decode cX7_addUp 32 = .ok (.iconst 0, 1) := by decide +kernel
theorem dX7_addUp_33 : decode cX7_addUp 33 = .ok (.istore_n 2, 1) := by decide +kernel
theorem dX7_addUp_34 : decode cX7_addUp 34 = .ok (.iload_n 2, 1) := by decide +kernel
theorem dX7_addUp_35 : decode cX7_addUp 35 = .ok (.aload_n 0, 1) := by decide +kernel
theorem dX7_addUp_36 : decode cX7_addUp 36 = .ok (.getfield 22, 3) := by decide +kernel
theorem dX7_addUp_39 : decode cX7_addUp 39 = .ok (.if_icmp .ge 68, 3) := by decide +kernel
theorem dX7_addUp_42 : decode cX7_addUp 42 = .ok (.iconst 0, 1) := by decide +kernel
theorem dX7_addUp_43 : decode cX7_addUp 43 = .ok (.istore_n 3, 1) := by decide +kernel
theorem dX7_addUp_44 : decode cX7_addUp 44 = .ok (.iload_n 3, 1) := by decide +kernel
theorem dX7_addUp_45 : decode cX7_addUp 45 = .ok (.aload_n 0, 1) := by decide +kernel
theorem dX7_addUp_46 : decode cX7_addUp 46 = .ok (.getfield 26, 3) := by decide +kernel
theorem dX7_addUp_49 : decode cX7_addUp 49 = .ok (.if_icmp .ge 52, 3) := by decide +kernel
theorem dX7_addUp_52 : decode cX7_addUp 52 = .ok (.aload_n 1, 1) := by decide +kernel
theorem dX7_addUp_53 : decode cX7_addUp 53 = .ok (.aload_n 0, 1) := by decide +kernel
theorem dX7_addUp_54 : decode cX7_addUp 54 = .ok (.iload_n 2, 1) := by decide +kernel
theorem dX7_addUp_55 : decode cX7_addUp 55 = .ok (.iload_n 3, 1) := by decide +kernel
theorem dX7_addUp_56 : decode cX7_addUp 56 = .ok (.invokevirtual 32, 3) := by decide +kernel
theorem dX7_addUp_59 : decode cX7_addUp 59 = .ok (.iaload, 1) := by decide +kernel
theorem dX7_addUp_60 : decode cX7_addUp 60 = .ok (.istore 4, 2) := by decide +kernel
theorem dX7_addUp_62 : decode cX7_addUp 62 = .ok (.aload_n 0, 1) := by decide +kernel
theorem dX7_addUp_63 : decode cX7_addUp 63 = .ok (.getfield 16, 3) := by decide +kernel
theorem dX7_addUp_66 : decode cX7_addUp 66 = .ok (.iload_n 2, 1) := by decide +kernel
theorem dX7_addUp_67 : decode cX7_addUp 67 = .ok (.dup2, 1) := by decide +kernel
theorem dX7_addUp_68 : decode cX7_addUp 68 = .ok (.iaload, 1) := by decide +kernel
theorem dX7_addUp_69 : decode cX7_addUp 69 = .ok (.iload 4, 2) := by decide +kernel
theorem dX7_addUp_71 : decode cX7_addUp 71 = .ok (.iadd, 1) := by decide +kernel
theorem dX7_addUp_72 : decode cX7_addUp 72 = .ok (.iastore, 1) := by decide +kernel
theorem dX7_addUp_73 : decode cX7_addUp 73 = .ok (.aload_n 0, 1) := by decide +kernel
theorem dX7_addUp_74 : decode cX7_addUp 74 = .ok (.getfield 19, 3) := by decide +kernel
theorem dX7_addUp_77 : decode cX7_addUp 77 = .ok (.iload_n 3, 1) := by decide +kernel
theorem dX7_addUp_78 : decode cX7_addUp 78 = .ok (.dup2, 1) := by decide +kernel
theorem dX7_addUp_79 : decode cX7_addUp 79 = .ok (.iaload, 1) := by decide +kernel
theorem dX7_addUp_80 : decode cX7_addUp 80 = .ok (.iload 4, 2) := by decide +kernel
theorem dX7_addUp_82 : decode cX7_addUp 82 = .ok (.iadd, 1) := by decide +kernel
theorem dX7_addUp_83 : decode cX7_addUp 83 = .ok (.iastore, 1) := by decide +kernel
theorem dX7_addUp_84 : decode cX7_addUp 84 = .ok (.aload_n 0, 1) := by decide +kernel
theorem dX7_addUp_85 : decode cX7_addUp 85 = .ok (.dup, 1) := by decide +kernel
theorem dX7_addUp_86 : decode cX7_addUp 86 = .ok (.getfield 29, 3) := by decide +kernel
theorem dX7_addUp_89 : decode cX7_addUp 89 = .ok (.iload 4, 2) := by decide +kernel
theorem dX7_addUp_91 : decode cX7_addUp 91 = .ok (.iadd, 1) := by decide +kernel
theorem dX7_addUp_92 : decode cX7_addUp 92 = .ok (.putfield 29, 3) := by decide +kernel
theorem dX7_addUp_95 : decode cX7_addUp 95 = .ok (.iinc 3 1, 3) := by decide +kernel
theorem dX7_addUp_98 : decode cX7_addUp 98 = .ok (.goto (-54), 3) := by decide +kernel
theorem dX7_addUp_101 : decode cX7_addUp 101 = .ok (.iinc 2 1, 3) := by decide +kernel
theorem dX7_addUp_104 : decode cX7_addUp 104 = .ok (.goto (-70), 3) := by decide +kernel
theorem dX7_addUp_107 : decode cX7_addUp 107 = .ok (.return_, 1) := by decide +kernel
theorem dX7_roundBy_0 : decode cX7_roundBy 0 = .ok (.aload_n 0, 1) := by decide +kernel
theorem dX7_roundBy_1 : decode cX7_roundBy 1 = .ok (.aload_n 0, 1) := by decide +kernel
theorem dX7_roundBy_2 : decode cX7_roundBy 2 = .ok (.getfield 9, 3) := by decide +kernel
theorem dX7_roundBy_5 : decode cX7_roundBy 5 = .ok (.invokevirtual 36, 3) := by decide +kernel
theorem dX7_roundBy_8 : decode cX7_roundBy 8 = .ok (.aload_n 0, 1) := by decide +kernel
theorem dX7_roundBy_9 : decode cX7_roundBy 9 = .ok (.getfield 22, 3) := by decide +kernel
theorem dX7_roundBy_12 : decode cX7_roundBy 12 = .ok (.aload_n 0, 1) := by decide +kernel
theorem dX7_roundBy_13 : decode cX7_roundBy 13 = .ok (.getfield 26, 3) := by decide +kernel
theorem dX7_roundBy_16 : decode cX7_roundBy 16 = .ok (.iadd, 1) := by decide +kernel
theorem dX7_roundBy_17 : decode cX7_roundBy 17 = .ok (.istore_n 2, 1) := by decide +kernel
theorem dX7_roundBy_18 : decode cX7_roundBy 18 = .ok (.iload_n 2, 1) := by decide +kernel
theorem dX7_roundBy_19 : decode cX7_roundBy 19 = .ok (.iconst 1, 1) := by decide +kernel
theorem dX7_roundBy_20 : decode cX7_roundBy 20 = .ok (.iadd, 1) := by decide +kernel
theorem dX7_roundBy_21 : decode cX7_roundBy 21 = .ok (.istore_n 3, 1) := by decide +kernel
theorem dX7_roundBy_22 : decode cX7_roundBy 22 = .ok (.aload_n 1, 1) := by decide +kernel
theorem dX7_roundBy_23 : decode cX7_roundBy 23 = .ok (.iload_n 3, 1) := by decide +kernel
theorem dX7_roundBy_24 : decode cX7_roundBy 24 = .ok (.iconst 1, 1) := by decide +kernel
theorem dX7_roundBy_25 : decode cX7_roundBy 25 = .ok (.iadd, 1) := by decide +kernel
theorem dX7_roundBy_26 : decode cX7_roundBy 26 = .ok (.invokevirtual 40, 3) := by decide +kernel
theorem dX7_roundBy_29 : decode cX7_roundBy 29 = .ok (.iconst 0, 1) := by decide +kernel
theorem dX7_roundBy_30 : decode cX7_roundBy 30 = .ok (.istore 4, 2) := by decide +kernel
theorem dX7_roundBy_32 : decode cX7_roundBy 32 = .ok (.iload 4, 2) := by decide +kernel
theorem dX7_roundBy_34 : decode cX7_roundBy 34 = .ok (.aload_n 0, 1) := by decide +kernel
theorem dX7_roundBy_35 : decode cX7_roundBy 35 = .ok (.getfield 22, 3) := by decide +kernel
theorem dX7_roundBy_38 : decode cX7_roundBy 38 = .ok (.if_icmp .ge 53, 3) := by decide +kernel
theorem dX7_roundBy_41 : decode cX7_roundBy 41 = .ok (.iconst 0, 1) := by decide +kernel
theorem dX7_roundBy_42 : decode cX7_roundBy 42 = .ok (.istore 5, 2) := by decide +kernel
theorem dX7_roundBy_44 : decode cX7_roundBy 44 = .ok (.iload 5, 2) := by decide +kernel
theorem dX7_roundBy_46 : decode cX7_roundBy 46 = .ok (.aload_n 0, 1) := by decide +kernel
theorem dX7_roundBy_47 : decode cX7_roundBy 47 = .ok (.getfield 26, 3) := by decide +kernel
theorem dX7_roundBy_50 : decode cX7_roundBy 50 = .ok (.if_icmp .ge 35, 3) := by decide +kernel
theorem dX7_roundBy_53 : decode cX7_roundBy 53 = .ok (.aload_n 1, 1) := by decide +kernel
theorem dX7_roundBy_54 : decode cX7_roundBy 54 = .ok (.iload 4, 2) := by decide +kernel
theorem dX7_roundBy_56 : decode cX7_roundBy 56 = .ok (.aload_n 0, 1) := by decide +kernel
theorem dX7_roundBy_57 : decode cX7_roundBy 57 = .ok (.getfield 22, 3) := by decide +kernel
theorem dX7_roundBy_60 : decode cX7_roundBy 60 = .ok (.iload 5, 2) := by decide +kernel
theorem dX7_roundBy_62 : decode cX7_roundBy 62 = .ok (.iadd, 1) := by decide +kernel
theorem dX7_roundBy_63 : decode cX7_roundBy 63 = .ok (.aload_n 0, 1) := by decide +kernel
theorem dX7_roundBy_64 : decode cX7_roundBy 64 = .ok (.getfield 9, 3) := by decide +kernel
theorem dX7_roundBy_67 : decode cX7_roundBy 67 = .ok (.aload_n 0, 1) := by decide +kernel
theorem dX7_roundBy_68 : decode cX7_roundBy 68 = .ok (.iload 4, 2) := by decide +kernel
theorem dX7_roundBy_70 : decode cX7_roundBy 70 = .ok (.iload 5, 2) := by decide +kernel
theorem dX7_roundBy_72 : decode cX7_roundBy 72 = .ok (.invokevirtual 32, 3) := by decide +kernel
theorem dX7_roundBy_75 : decode cX7_roundBy 75 = .ok (.iaload, 1) := by decide +kernel
theorem dX7_roundBy_76 : decode cX7_roundBy 76 = .ok (.invokestatic 46, 3) := by decide +kernel
theorem dX7_roundBy_79 : decode cX7_roundBy 79 = .ok (.iinc 5 1, 3) := by decide +kernel
theorem dX7_roundBy_82 : decode cX7_roundBy 82 = .ok (.goto (-38), 3) := by decide +kernel
theorem dX7_roundBy_85 : decode cX7_roundBy 85 = .ok (.iinc 4 1, 3) := by decide +kernel
theorem dX7_roundBy_88 : decode cX7_roundBy 88 = .ok (.goto (-56), 3) := by decide +kernel
theorem dX7_roundBy_91 : decode cX7_roundBy 91 = .ok (.iconst 0, 1) := by decide +kernel
theorem dX7_roundBy_92 : decode cX7_roundBy 92 = .ok (.istore 4, 2) := by decide +kernel
theorem dX7_roundBy_94 : decode cX7_roundBy 94 = .ok (.iload 4, 2) := by decide +kernel
theorem dX7_roundBy_96 : decode cX7_roundBy 96 = .ok (.aload_n 0, 1) := by decide +kernel
theorem dX7_roundBy_97 : decode cX7_roundBy 97 = .ok (.getfield 22, 3) := by decide +kernel
theorem dX7_roundBy_100 : decode cX7_roundBy 100 = .ok (.if_icmp .ge 23, 3) := by decide +kernel
theorem dX7_roundBy_103 : decode cX7_roundBy 103 = .ok (.aload_n 1, 1) := by decide +kernel
theorem dX7_roundBy_104 : decode cX7_roundBy 104 = .ok (.iload_n 2, 1) := by decide +kernel
theorem dX7_roundBy_105 : decode cX7_roundBy 105 = .ok (.iload 4, 2) := by decide +kernel
theorem dX7_roundBy_107 : decode cX7_roundBy 107 = .ok (.aload_n 0, 1) := by decide +kernel
theorem dX7_roundBy_108 : decode cX7_roundBy 108 = .ok (.getfield 16, 3) := by decide +kernel
theorem dX7_roundBy_111 : decode cX7_roundBy 111 = .ok (.iload 4, 2) := by decide +kernel
theorem dX7_roundBy_113 : decode cX7_roundBy 113 = .ok (.iaload, 1) := by decide +kernel
theorem dX7_roundBy_114 : decode cX7_roundBy 114 = .ok (.invokestatic 46, 3) := by decide +kernel
theorem dX7_roundBy_117 : decode cX7_roundBy 117 = .ok (.iinc 4 1, 3) := by decide +kernel
theorem dX7_roundBy_120 : decode cX7_roundBy 120 = .ok (.goto (-26), 3) := by decide +kernel
theorem dX7_roundBy_123 : decode cX7_roundBy 123 = .ok (.iconst 0, 1) := by decide +kernel
theorem dX7_roundBy_124 : decode cX7_roundBy 124 = .ok (.istore 4, 2) := by decide +kernel
theorem dX7_roundBy_126 : decode cX7_roundBy 126 = .ok (.iload 4, 2) := by decide +kernel
theorem dX7_roundBy_128 : decode cX7_roundBy 128 = .ok (.aload_n 0, 1) := by decide +kernel
theorem dX7_roundBy_129 : decode cX7_roundBy 129 = .ok (.getfield 26, 3) := by decide +kernel
theorem dX7_roundBy_132 : decode cX7_roundBy 132 = .ok (.if_icmp .ge 28, 3) := by decide +kernel
theorem dX7_roundBy_135 : decode cX7_roundBy 135 = .ok (.aload_n 1, 1) := by decide +kernel
theorem dX7_roundBy_136 : decode cX7_roundBy 136 = .ok (.aload_n 0, 1) := by decide +kernel
theorem dX7_roundBy_137 : decode cX7_roundBy 137 = .ok (.getfield 22, 3) := by decide +kernel
theorem dX7_roundBy_140 : decode cX7_roundBy 140 = .ok (.iload 4, 2) := by decide +kernel
theorem dX7_roundBy_142 : decode cX7_roundBy 142 = .ok (.iadd, 1) := by decide +kernel
theorem dX7_roundBy_143 : decode cX7_roundBy 143 = .ok (.iload_n 3, 1) := by decide +kernel
theorem dX7_roundBy_144 : decode cX7_roundBy 144 = .ok (.aload_n 0, 1) := by decide +kernel
theorem dX7_roundBy_145 : decode cX7_roundBy 145 = .ok (.getfield 19, 3) := by decide +kernel
theorem dX7_roundBy_148 : decode cX7_roundBy 148 = .ok (.iload 4, 2) := by decide +kernel
theorem dX7_roundBy_150 : decode cX7_roundBy 150 = .ok (.iaload, 1) := by decide +kernel
theorem dX7_roundBy_151 : decode cX7_roundBy 151 = .ok (.invokestatic 46, 3) := by decide +kernel
theorem dX7_roundBy_154 : decode cX7_roundBy 154 = .ok (.iinc 4 1, 3) := by decide +kernel
theorem dX7_roundBy_157 : decode cX7_roundBy 157 = .ok (.goto (-31), 3) := by decide +kernel
theorem dX7_roundBy_160 : decode cX7_roundBy 160 = .ok (.aload_n 1, 1) := by decide +kernel
theorem dX7_roundBy_161 : decode cX7_roundBy 161 = .ok (.iload_n 3, 1) := by decide +kernel
theorem dX7_roundBy_162 : decode cX7_roundBy 162 = .ok (.iload_n 2, 1) := by decide +kernel
theorem dX7_roundBy_163 : decode cX7_roundBy 163 = .ok (.aload_n 0, 1) := by decide +kernel
theorem dX7_roundBy_164 : decode cX7_roundBy 164 = .ok (.getfield 29, 3) := by decide +kernel
theorem dX7_roundBy_167 : decode cX7_roundBy 167 = .ok (.invokestatic 46, 3) := by decide +kernel
theorem dX7_roundBy_170 : decode cX7_roundBy 170 = .ok (.aload_n 1, 1) := by decide +kernel
theorem dX7_roundBy_171 : decode cX7_roundBy 171 = .ok (.invokevirtual 50, 3) := by decide +kernel
theorem dX7_roundBy_174 : decode cX7_roundBy 174 = .ok (.pop, 1) := by decide +kernel
theorem dX7_roundBy_175 : decode cX7_roundBy 175 = .ok (.iconst 0, 1) := by decide +kernel
theorem dX7_roundBy_176 : decode cX7_roundBy 176 = .ok (.istore 4, 2) := by decide +kernel
theorem dX7_roundBy_178 : decode cX7_roundBy 178 = .ok (.iload 4, 2) := by decide +kernel
theorem dX7_roundBy_180 : decode cX7_roundBy 180 = .ok (.aload_n 0, 1) := by decide +kernel
theorem dX7_roundBy_181 : decode cX7_roundBy 181 = .ok (.getfield 22, 3) := by decide +kernel
theorem dX7_roundBy_184 : decode cX7_roundBy 184 = .ok (.aload_n 0, 1) := by decide +kernel
theorem dX7_roundBy_185 : decode cX7_roundBy 185 = .ok (.getfield 26, 3) := by decide +kernel
theorem dX7_roundBy_188 : decode cX7_roundBy 188 = .ok (.imul, 1) := by decide +kernel
theorem dX7_roundBy_189 : decode cX7_roundBy 189 = .ok (.if_icmp .ge 38, 3) := by decide +kernel
theorem dX7_roundBy_192 : decode cX7_roundBy 192 = .ok (.iload 4, 2) := by decide +kernel
theorem dX7_roundBy_194 : decode cX7_roundBy 194 = .ok (.aload_n 0, 1) := by decide +kernel
theorem dX7_roundBy_195 : decode cX7_roundBy 195 = .ok (.getfield 13, 3) := by decide +kernel
theorem dX7_roundBy_198 : decode cX7_roundBy 198 = .ok (.arraylength, 1) := by decide +kernel
theorem dX7_roundBy_199 : decode cX7_roundBy 199 = .ok (.if_icmp .ge 28, 3) := by decide +kernel
theorem dX7_roundBy_202 : decode cX7_roundBy 202 = .ok (.aload_n 1, 1) := by decide +kernel
theorem dX7_roundBy_203 : decode cX7_roundBy 203 = .ok (.iload 4, 2) := by decide +kernel
theorem dX7_roundBy_205 : decode cX7_roundBy 205 = .ok (.invokevirtual 54, 3) := by decide +kernel
theorem dX7_roundBy_208 : decode cX7_roundBy 208 = .ok (.aload_n 0, 1) := by decide +kernel
theorem dX7_roundBy_209 : decode cX7_roundBy 209 = .ok (.getfield 13, 3) := by decide +kernel
theorem dX7_roundBy_212 : decode cX7_roundBy 212 = .ok (.iload 4, 2) := by decide +kernel
theorem dX7_roundBy_214 : decode cX7_roundBy 214 = .ok (.aload_n 1, 1) := by decide +kernel
theorem dX7_roundBy_215 : decode cX7_roundBy 215 = .ok (.iload 4, 2) := by decide +kernel
theorem dX7_roundBy_217 : decode cX7_roundBy 217 = .ok (.invokevirtual 57, 3) := by decide +kernel
theorem dX7_roundBy_220 : decode cX7_roundBy 220 = .ok (.iastore, 1) := by decide +kernel
theorem dX7_roundBy_221 : decode cX7_roundBy 221 = .ok (.iinc 4 1, 3) := by decide +kernel
theorem dX7_roundBy_224 : decode cX7_roundBy 224 = .ok (.goto (-46), 3) := by decide +kernel
theorem dX7_roundBy_227 : decode cX7_roundBy 227 = .ok (.return_, 1) := by decide +kernel
theorem dX7_addRounded_0 : decode cX7_addRounded 0 = .ok (.aload_n 0, 1) := by decide +kernel
theorem dX7_addRounded_1 : decode cX7_addRounded 1 = .ok (.iload_n 1, 1) := by decide +kernel
theorem dX7_addRounded_2 : decode cX7_addRounded 2 = .ok (.iload_n 2, 1) := by decide +kernel
theorem dX7_addRounded_3 : decode cX7_addRounded 3 = .ok (.iload_n 3, 1) := by decide +kernel
theorem dX7_addRounded_4 : decode cX7_addRounded 4 = .ok (.bipush 10, 2) := by decide +kernel
theorem dX7_addRounded_6 : decode cX7_addRounded 6 = .ok (.idiv, 1) := by decide +kernel
theorem dX7_addRounded_7 : decode cX7_addRounded 7 = .ok (.iload_n 3, 1) := by decide +kernel
theorem dX7_addRounded_8 : decode cX7_addRounded 8 = .ok (.bipush 9, 2) := by decide +kernel
theorem dX7_addRounded_10 : decode cX7_addRounded 10 = .ok (.iadd, 1) := by decide +kernel
theorem dX7_addRounded_11 : decode cX7_addRounded 11 = .ok (.bipush 10, 2) := by decide +kernel
theorem dX7_addRounded_13 : decode cX7_addRounded 13 = .ok (.idiv, 1) := by decide +kernel
theorem dX7_addRounded_14 : decode cX7_addRounded 14 = .ok (.iconst 0, 1) := by decide +kernel
theorem dX7_addRounded_15 : decode cX7_addRounded 15 = .ok (.invokevirtual 61, 3) := by decide +kernel
theorem dX7_addRounded_18 : decode cX7_addRounded 18 = .ok (.return_, 1) := by decide +kernel
theorem dX7_isRounded_0 : decode cX7_isRounded 0 = .ok (.iconst 0, 1) := by decide +kernel
theorem dX7_isRounded_1 : decode cX7_isRounded 1 = .ok (.istore_n 1, 1) := by decide +kernel
theorem dX7_isRounded_2 : decode cX7_isRounded 2 = .ok (.iload_n 1, 1) := by decide +kernel
theorem dX7_isRounded_3 : decode cX7_isRounded 3 = .ok (.aload_n 0, 1) := by decide +kernel
theorem dX7_isRounded_4 : decode cX7_isRounded 4 = .ok (.getfield 22, 3) := by decide +kernel
theorem dX7_isRounded_7 : decode cX7_isRounded 7 = .ok (.aload_n 0, 1) := by decide +kernel
theorem dX7_isRounded_8 : decode cX7_isRounded 8 = .ok (.getfield 26, 3) := by decide +kernel
theorem dX7_isRounded_11 : decode cX7_isRounded 11 = .ok (.imul, 1) := by decide +kernel
theorem dX7_isRounded_12 : decode cX7_isRounded 12 = .ok (.if_icmp .ge 38, 3) := by decide +kernel
theorem dX7_isRounded_15 : decode cX7_isRounded 15 = .ok (.iload_n 1, 1) := by decide +kernel
theorem dX7_isRounded_16 : decode cX7_isRounded 16 = .ok (.aload_n 0, 1) := by decide +kernel
theorem dX7_isRounded_17 : decode cX7_isRounded 17 = .ok (.getfield 13, 3) := by decide +kernel
theorem dX7_isRounded_20 : decode cX7_isRounded 20 = .ok (.arraylength, 1) := by decide +kernel
theorem dX7_isRounded_21 : decode cX7_isRounded 21 = .ok (.if_icmp .ge 29, 3) := by decide +kernel
theorem dX7_isRounded_24 : decode cX7_isRounded 24 = .ok (.aload_n 0, 1) := by decide +kernel
theorem dX7_isRounded_25 : decode cX7_isRounded 25 = .ok (.getfield 13, 3) := by decide +kernel
theorem dX7_isRounded_28 : decode cX7_isRounded 28 = .ok (.iload_n 1, 1) := by decide +kernel
theorem dX7_isRounded_29 : decode cX7_isRounded 29 = .ok (.iaload, 1) := by decide +kernel
theorem dX7_isRounded_30 : decode cX7_isRounded 30 = .ok (.aload_n 0, 1) := by decide +kernel
theorem dX7_isRounded_31 : decode cX7_isRounded 31 = .ok (.getfield 9, 3) := by decide +kernel
theorem dX7_isRounded_34 : decode cX7_isRounded 34 = .ok (.iload_n 1, 1) := by decide +kernel
theorem dX7_isRounded_35 : decode cX7_isRounded 35 = .ok (.iaload, 1) := by decide +kernel
theorem dX7_isRounded_36 : decode cX7_isRounded 36 = .ok (.invokestatic 65, 3) := by decide +kernel
theorem dX7_isRounded_39 : decode cX7_isRounded 39 = .ok (.ifCond .ne 5, 3) := by decide +kernel
theorem dX7_isRounded_42 : decode cX7_isRounded 42 = .ok (.iconst 0, 1) := by decide +kernel
theorem dX7_isRounded_43 : decode cX7_isRounded 43 = .ok (.ireturn, 1) := by decide +kernel
theorem dX7_isRounded_44 : decode cX7_isRounded 44 = .ok (.iinc 1 1, 3) := by decide +kernel
theorem dX7_isRounded_47 : decode cX7_isRounded 47 = .ok (.goto (-45), 3) := by decide +kernel
theorem dX7_isRounded_50 : decode cX7_isRounded 50 = .ok (.aload_n 0, 1) := by decide +kernel
theorem dX7_isRounded_51 : decode cX7_isRounded 51 = .ok (.aload_n 0, 1) := by decide +kernel
theorem dX7_isRounded_52 : decode cX7_isRounded 52 = .ok (.getfield 13, 3) := by decide +kernel
theorem dX7_isRounded_55 : decode cX7_isRounded 55 = .ok (.invokevirtual 36, 3) := by decide +kernel
theorem dX7_isRounded_58 : decode cX7_isRounded 58 = .ok (.aload_n 0, 1) := by decide +kernel
theorem dX7_isRounded_59 : decode cX7_isRounded 59 = .ok (.getfield 29, 3) := by decide +kernel
theorem dX7_isRounded_62 : decode cX7_isRounded 62 = .ok (.istore_n 1, 1) := by decide +kernel
theorem dX7_isRounded_63 : decode cX7_isRounded 63 = .ok (.iconst 0, 1) := by decide +kernel
theorem dX7_isRounded_64 : decode cX7_isRounded 64 = .ok (.istore_n 2, 1) := by decide +kernel
theorem dX7_isRounded_65 : decode cX7_isRounded 65 = .ok (.iload_n 2, 1) := by decide +kernel
theorem dX7_isRounded_66 : decode cX7_isRounded 66 = .ok (.aload_n 0, 1) := by decide +kernel
theorem dX7_isRounded_67 : decode cX7_isRounded 67 = .ok (.getfield 22, 3) := by decide +kernel
theorem dX7_isRounded_70 : decode cX7_isRounded 70 = .ok (.if_icmp .ge 36, 3) := by decide +kernel
theorem dX7_isRounded_73 : decode cX7_isRounded 73 = .ok (.aload_n 0, 1) := by decide +kernel
theorem dX7_isRounded_74 : decode cX7_isRounded 74 = .ok (.getfield 16, 3) := by decide +kernel
theorem dX7_isRounded_77 : decode cX7_isRounded 77 = .ok (.iload_n 2, 1) := by decide +kernel
theorem dX7_isRounded_78 : decode cX7_isRounded 78 = .ok (.iaload, 1) := by decide +kernel
theorem dX7_isRounded_79 : decode cX7_isRounded 79 = .ok (.aload_n 0, 1) := by decide +kernel
theorem dX7_isRounded_80 : decode cX7_isRounded 80 = .ok (.iload_n 2, 1) := by decide +kernel
theorem dX7_isRounded_81 : decode cX7_isRounded 81 = .ok (.iload_n 2, 1) := by decide +kernel
theorem dX7_isRounded_82 : decode cX7_isRounded 82 = .ok (.iconst 1, 1) := by decide +kernel
theorem dX7_isRounded_83 : decode cX7_isRounded 83 = .ok (.iadd, 1) := by decide +kernel
theorem dX7_isRounded_84 : decode cX7_isRounded 84 = .ok (.iconst 0, 1) := by decide +kernel
theorem dX7_isRounded_85 : decode cX7_isRounded 85 = .ok (.aload_n 0, 1) := by decide +kernel
theorem dX7_isRounded_86 : decode cX7_isRounded 86 = .ok (.getfield 26, 3) := by decide +kernel
theorem dX7_isRounded_89 : decode cX7_isRounded 89 = .ok (.invokevirtual 69, 3) := by decide +kernel
theorem dX7_isRounded_92 : decode cX7_isRounded 92 = .ok (.invokestatic 65, 3) := by decide +kernel
theorem dX7_isRounded_95 : decode cX7_isRounded 95 = .ok (.ifCond .ne 5, 3) := by decide +kernel
theorem dX7_isRounded_98 : decode cX7_isRounded 98 = .ok (.iconst 0, 1) := by decide +kernel
theorem dX7_isRounded_99 : decode cX7_isRounded 99 = .ok (.ireturn, 1) := by decide +kernel
theorem dX7_isRounded_100 : decode cX7_isRounded 100 = .ok (.iinc 2 1, 3) := by decide +kernel
theorem dX7_isRounded_103 : decode cX7_isRounded 103 = .ok (.goto (-38), 3) := by decide +kernel
theorem dX7_isRounded_106 : decode cX7_isRounded 106 = .ok (.iconst 0, 1) := by decide +kernel
theorem dX7_isRounded_107 : decode cX7_isRounded 107 = .ok (.istore_n 2, 1) := by decide +kernel
theorem dX7_isRounded_108 : decode cX7_isRounded 108 = .ok (.iload_n 2, 1) := by decide +kernel
theorem dX7_isRounded_109 : decode cX7_isRounded 109 = .ok (.aload_n 0, 1) := by decide +kernel
theorem dX7_isRounded_110 : decode cX7_isRounded 110 = .ok (.getfield 26, 3) := by decide +kernel
theorem dX7_isRounded_113 : decode cX7_isRounded 113 = .ok (.if_icmp .ge 36, 3) := by decide +kernel
theorem dX7_isRounded_116 : decode cX7_isRounded 116 = .ok (.aload_n 0, 1) := by decide +kernel
theorem dX7_isRounded_117 : decode cX7_isRounded 117 = .ok (.getfield 19, 3) := by decide +kernel
theorem dX7_isRounded_120 : decode cX7_isRounded 120 = .ok (.iload_n 2, 1) := by decide +kernel
theorem dX7_isRounded_121 : decode cX7_isRounded 121 = .ok (.iaload, 1) := by decide +kernel
theorem dX7_isRounded_122 : decode cX7_isRounded 122 = .ok (.aload_n 0, 1) := by decide +kernel
theorem dX7_isRounded_123 : decode cX7_isRounded 123 = .ok (.iconst 0, 1) := by decide +kernel
theorem dX7_isRounded_124 : decode cX7_isRounded 124 = .ok (.aload_n 0, 1) := by decide +kernel
theorem dX7_isRounded_125 : decode cX7_isRounded 125 = .ok (.getfield 22, 3) := by decide +kernel
theorem dX7_isRounded_128 : decode cX7_isRounded 128 = .ok (.iload_n 2, 1) := by decide +kernel
theorem dX7_isRounded_129 : decode cX7_isRounded 129 = .ok (.iload_n 2, 1) := by decide +kernel
theorem dX7_isRounded_130 : decode cX7_isRounded 130 = .ok (.iconst 1, 1) := by decide +kernel
theorem dX7_isRounded_131 : decode cX7_isRounded 131 = .ok (.iadd, 1) := by decide +kernel
theorem dX7_isRounded_132 : decode cX7_isRounded 132 = .ok (.invokevirtual 69, 3) := by decide +kernel
theorem dX7_isRounded_135 : decode cX7_isRounded 135 = .ok (.invokestatic 65, 3) := by decide +kernel
theorem dX7_isRounded_138 : decode cX7_isRounded 138 = .ok (.ifCond .ne 5, 3) := by decide +kernel
theorem dX7_isRounded_141 : decode cX7_isRounded 141 = .ok (.iconst 0, 1) := by decide +kernel
theorem dX7_isRounded_142 : decode cX7_isRounded 142 = .ok (.ireturn, 1) := by decide +kernel
theorem dX7_isRounded_143 : decode cX7_isRounded 143 = .ok (.iinc 2 1, 3) := by decide +kernel
theorem dX7_isRounded_146 : decode cX7_isRounded 146 = .ok (.goto (-38), 3) := by decide +kernel
theorem dX7_isRounded_149 : decode cX7_isRounded 149 = .ok (.iload_n 1, 1) := by decide +kernel
theorem dX7_isRounded_150 : decode cX7_isRounded 150 = .ok (.aload_n 0, 1) := by decide +kernel
theorem dX7_isRounded_151 : decode cX7_isRounded 151 = .ok (.iconst 0, 1) := by decide +kernel
theorem dX7_isRounded_152 : decode cX7_isRounded 152 = .ok (.aload_n 0, 1) := by decide +kernel
theorem dX7_isRounded_153 : decode cX7_isRounded 153 = .ok (.getfield 22, 3) := by decide +kernel
theorem dX7_isRounded_156 : decode cX7_isRounded 156 = .ok (.iconst 0, 1) := by decide +kernel
theorem dX7_isRounded_157 : decode cX7_isRounded 157 = .ok (.aload_n 0, 1) := by decide +kernel
theorem dX7_isRounded_158 : decode cX7_isRounded 158 = .ok (.getfield 26, 3) := by decide +kernel
theorem dX7_isRounded_161 : decode cX7_isRounded 161 = .ok (.invokevirtual 69, 3) := by decide +kernel
theorem dX7_isRounded_164 : decode cX7_isRounded 164 = .ok (.invokestatic 65, 3) := by decide +kernel
theorem dX7_isRounded_167 : decode cX7_isRounded 167 = .ok (.ireturn, 1) := by decide +kernel
theorem dX7_sumOfTenths_0 : decode cX7_sumOfTenths 0 = .ok (.iconst 0, 1) := by decide +kernel
theorem dX7_sumOfTenths_1 : decode cX7_sumOfTenths 1 = .ok (.istore 5, 2) := by decide +kernel
theorem dX7_sumOfTenths_3 : decode cX7_sumOfTenths 3 = .ok (.iload_n 1, 1) := by decide +kernel
theorem dX7_sumOfTenths_4 : decode cX7_sumOfTenths 4 = .ok (.istore 6, 2) := by decide +kernel
theorem dX7_sumOfTenths_6 : decode cX7_sumOfTenths 6 = .ok (.iload 6, 2) := by decide +kernel
theorem dX7_sumOfTenths_8 : decode cX7_sumOfTenths 8 = .ok (.iload_n 2, 1) := by decide +kernel
theorem dX7_sumOfTenths_9 : decode cX7_sumOfTenths 9 = .ok (.if_icmp .ge 43, 3) := by decide +kernel
theorem dX7_sumOfTenths_12 : decode cX7_sumOfTenths 12 = .ok (.iload_n 3, 1) := by decide +kernel
theorem dX7_sumOfTenths_13 : decode cX7_sumOfTenths 13 = .ok (.istore 7, 2) := by decide +kernel
theorem dX7_sumOfTenths_15 : decode cX7_sumOfTenths 15 = .ok (.iload 7, 2) := by decide +kernel
theorem dX7_sumOfTenths_17 : decode cX7_sumOfTenths 17 = .ok (.iload 4, 2) := by decide +kernel
theorem dX7_sumOfTenths_19 : decode cX7_sumOfTenths 19 = .ok (.if_icmp .ge 27, 3) := by decide +kernel
theorem dX7_sumOfTenths_22 : decode cX7_sumOfTenths 22 = .ok (.iload 5, 2) := by decide +kernel
theorem dX7_sumOfTenths_24 : decode cX7_sumOfTenths 24 = .ok (.aload_n 0, 1) := by decide +kernel
theorem dX7_sumOfTenths_25 : decode cX7_sumOfTenths 25 = .ok (.getfield 9, 3) := by decide +kernel
theorem dX7_sumOfTenths_28 : decode cX7_sumOfTenths 28 = .ok (.aload_n 0, 1) := by decide +kernel
theorem dX7_sumOfTenths_29 : decode cX7_sumOfTenths 29 = .ok (.iload 6, 2) := by decide +kernel
theorem dX7_sumOfTenths_31 : decode cX7_sumOfTenths 31 = .ok (.iload 7, 2) := by decide +kernel
theorem dX7_sumOfTenths_33 : decode cX7_sumOfTenths 33 = .ok (.invokevirtual 32, 3) := by decide +kernel
theorem dX7_sumOfTenths_36 : decode cX7_sumOfTenths 36 = .ok (.iaload, 1) := by decide +kernel
theorem dX7_sumOfTenths_37 : decode cX7_sumOfTenths 37 = .ok (.iadd, 1) := by decide +kernel
theorem dX7_sumOfTenths_38 : decode cX7_sumOfTenths 38 = .ok (.istore 5, 2) := by decide +kernel
theorem dX7_sumOfTenths_40 : decode cX7_sumOfTenths 40 = .ok (.iinc 7 1, 3) := by decide +kernel
theorem dX7_sumOfTenths_43 : decode cX7_sumOfTenths 43 = .ok (.goto (-28), 3) := by decide +kernel
theorem dX7_sumOfTenths_46 : decode cX7_sumOfTenths 46 = .ok (.iinc 6 1, 3) := by decide +kernel
theorem dX7_sumOfTenths_49 : decode cX7_sumOfTenths 49 = .ok (.goto (-43), 3) := by decide +kernel
theorem dX7_sumOfTenths_52 : decode cX7_sumOfTenths 52 = .ok (.iload 5, 2) := by decide +kernel
theorem dX7_sumOfTenths_54 : decode cX7_sumOfTenths 54 = .ok (.ireturn, 1) := by decide +kernel
theorem dX7_isNear_0 : decode cX7_isNear 0 = .ok (.iload_n 0, 1) := by decide +kernel
theorem dX7_isNear_1 : decode cX7_isNear 1 = .ok (.iload_n 1, 1) := by decide +kernel
theorem dX7_isNear_2 : decode cX7_isNear 2 = .ok (.bipush 10, 2) := by decide +kernel
theorem dX7_isNear_4 : decode cX7_isNear 4 = .ok (.idiv, 1) := by decide +kernel
theorem dX7_isNear_5 : decode cX7_isNear 5 = .ok (.if_icmp .eq 14, 3) := by decide +kernel
theorem dX7_isNear_8 : decode cX7_isNear 8 = .ok (.iload_n 0, 1) := by decide +kernel
theorem dX7_isNear_9 : decode cX7_isNear 9 = .ok (.iload_n 1, 1) := by decide +kernel
theorem dX7_isNear_10 : decode cX7_isNear 10 = .ok (.bipush 9, 2) := by decide +kernel
theorem dX7_isNear_12 : decode cX7_isNear 12 = .ok (.iadd, 1) := by decide +kernel
theorem dX7_isNear_13 : decode cX7_isNear 13 = .ok (.bipush 10, 2) := by decide +kernel
theorem dX7_isNear_15 : decode cX7_isNear 15 = .ok (.idiv, 1) := by decide +kernel
theorem dX7_isNear_16 : decode cX7_isNear 16 = .ok (.if_icmp .ne 7, 3) := by decide +kernel
theorem dX7_isNear_19 : decode cX7_isNear 19 = .ok (.iconst 1, 1) := by decide +kernel
theorem dX7_isNear_20 : decode cX7_isNear 20 = .ok (.goto 4, 3) := by decide +kernel
theorem dX7_isNear_23 : decode cX7_isNear 23 = .ok (.iconst 0, 1) := by decide +kernel
theorem dX7_isNear_24 : decode cX7_isNear 24 = .ok (.ireturn, 1) := by decide +kernel
theorem dX8_init_0 : decode cX8_init 0 = .ok (.aload_n 0, 1) := by decide +kernel
theorem dX8_init_1 : decode cX8_init 1 = .ok (.invokespecial 3, 3) := by decide +kernel
theorem dX8_init_4 : decode cX8_init 4 = .ok (.aload_n 0, 1) := by decide +kernel
theorem dX8_init_5 : decode cX8_init 5 = .ok (.sipush 256, 3) := by decide +kernel
theorem dX8_init_8 : decode cX8_init 8 = .ok (.newarray .int, 2) := by decide +kernel
theorem dX8_init_10 : decode cX8_init 10 = .ok (.putfield 9, 3) := by decide +kernel
theorem dX8_init_13 : decode cX8_init 13 = .ok (.aload_n 0, 1) := by decide +kernel
theorem dX8_init_14 : decode cX8_init 14 = .ok (.bipush 8, 2) := by decide +kernel
theorem dX8_init_16 : decode cX8_init 16 = .ok (.newarray .int, 2) := by decide +kernel
theorem dX8_init_18 : decode cX8_init 18 = .ok (.putfield 15, 3) := by decide +kernel
theorem dX8_init_21 : decode cX8_init 21 = .ok (.aload_n 0, 1) := by decide +kernel
theorem dX8_init_22 : decode cX8_init 22 = .ok (.bipush 8, 2) := by decide +kernel
theorem dX8_init_24 : decode cX8_init 24 = .ok (.newarray .int, 2) := by decide +kernel
theorem dX8_init_26 : decode cX8_init 26 = .ok (.putfield 18, 3) := by decide +kernel
theorem dX8_init_29 : decode cX8_init 29 = .ok (.return_, 1) := by decide +kernel
theorem dX8_measure_0 : decode cX8_measure 0 = .ok (.aload_n 0, 1) := by decide +kernel
theorem dX8_measure_1 : decode cX8_measure 1 = .ok (.aload_n 1, 1) := by decide +kernel
theorem dX8_measure_2 : decode cX8_measure 2 = .ok (.getfield 21, 3) := by decide +kernel
theorem dX8_measure_5 : decode cX8_measure 5 = .ok (.putfield 27, 3) := by decide +kernel
theorem dX8_measure_8 : decode cX8_measure 8 = .ok (.iconst 1, 1) := by decide +kernel
theorem dX8_measure_9 : decode cX8_measure 9 = .ok (.aload_n 0, 1) := by decide +kernel
theorem dX8_measure_10 : decode cX8_measure 10 = .ok (.getfield 27, 3) := by decide +kernel
theorem dX8_measure_13 : decode cX8_measure 13 = .ok (.ishl, 1) := by decide +kernel
theorem dX8_measure_14 : decode cX8_measure 14 = .ok (.iconst 1, 1) := by decide +kernel
theorem dX8_measure_15 : decode cX8_measure 15 = .ok (.isub, 1) := by decide +kernel
theorem dX8_measure_16 : decode cX8_measure 16 = .ok (.istore_n 3, 1) := by decide +kernel
theorem dX8_measure_17 : decode cX8_measure 17 = .ok (.iconst 0, 1) := by decide +kernel
theorem dX8_measure_18 : decode cX8_measure 18 = .ok (.istore 4, 2) := by decide +kernel
theorem dX8_measure_20 : decode cX8_measure 20 = .ok (.iload 4, 2) := by decide +kernel
theorem dX8_measure_22 : decode cX8_measure 22 = .ok (.iload_n 3, 1) := by decide +kernel
theorem dX8_measure_23 : decode cX8_measure 23 = .ok (.iload 4, 2) := by decide +kernel
theorem dX8_measure_25 : decode cX8_measure 25 = .ok (.isub, 1) := by decide +kernel
theorem dX8_measure_26 : decode cX8_measure 26 = .ok (.if_icmp .gt 39, 3) := by decide +kernel
theorem dX8_measure_29 : decode cX8_measure 29 = .ok (.aload_n 0, 1) := by decide +kernel
theorem dX8_measure_30 : decode cX8_measure 30 = .ok (.getfield 9, 3) := by decide +kernel
theorem dX8_measure_33 : decode cX8_measure 33 = .ok (.iload 4, 2) := by decide +kernel
theorem dX8_measure_35 : decode cX8_measure 35 = .ok (.aload_n 2, 1) := by decide +kernel
theorem dX8_measure_36 : decode cX8_measure 36 = .ok (.aload_n 1, 1) := by decide +kernel
theorem dX8_measure_37 : decode cX8_measure 37 = .ok (.iload 4, 2) := by decide +kernel
theorem dX8_measure_39 : decode cX8_measure 39 = .ok (.invokevirtual 28, 3) := by decide +kernel
theorem dX8_measure_42 : decode cX8_measure 42 = .ok (.iastore, 1) := by decide +kernel
theorem dX8_measure_43 : decode cX8_measure 43 = .ok (.aload_n 0, 1) := by decide +kernel
theorem dX8_measure_44 : decode cX8_measure 44 = .ok (.getfield 9, 3) := by decide +kernel
theorem dX8_measure_47 : decode cX8_measure 47 = .ok (.iload_n 3, 1) := by decide +kernel
theorem dX8_measure_48 : decode cX8_measure 48 = .ok (.iload 4, 2) := by decide +kernel
theorem dX8_measure_50 : decode cX8_measure 50 = .ok (.isub, 1) := by decide +kernel
theorem dX8_measure_51 : decode cX8_measure 51 = .ok (.aload_n 0, 1) := by decide +kernel
theorem dX8_measure_52 : decode cX8_measure 52 = .ok (.getfield 9, 3) := by decide +kernel
theorem dX8_measure_55 : decode cX8_measure 55 = .ok (.iload 4, 2) := by decide +kernel
theorem dX8_measure_57 : decode cX8_measure 57 = .ok (.iaload, 1) := by decide +kernel
theorem dX8_measure_58 : decode cX8_measure 58 = .ok (.iastore, 1) := by decide +kernel
theorem dX8_measure_59 : decode cX8_measure 59 = .ok (.iinc 4 1, 3) := by decide +kernel
theorem dX8_measure_62 : decode cX8_measure 62 = .ok (.goto (-42), 3) := by decide +kernel
theorem dX8_measure_65 : decode cX8_measure 65 = .ok (.return_, 1) := by decide +kernel
theorem dX8_leastCut_0 : decode cX8_leastCut 0 = .ok (.ldc 36, 2) := by decide +kernel
theorem dX8_leastCut_2 : decode cX8_leastCut 2 = .ok (.istore_n 3, 1) := by decide +kernel
theorem dX8_leastCut_3 : decode cX8_leastCut 3 = .ok (.iconst 0, 1) := by decide +kernel
theorem dX8_leastCut_4 : decode cX8_leastCut 4 = .ok (.istore 4, 2) := by decide +kernel
theorem dX8_leastCut_6 : decode cX8_leastCut 6 = .ok (.iload 4, 2) := by decide +kernel
theorem dX8_leastCut_8 : decode cX8_leastCut 8 = .ok (.iconst 1, 1) := by decide +kernel
theorem dX8_leastCut_9 : decode cX8_leastCut 9 = .ok (.aload_n 0, 1) := by decide +kernel
theorem dX8_leastCut_10 : decode cX8_leastCut 10 = .ok (.getfield 27, 3) := by decide +kernel
theorem dX8_leastCut_13 : decode cX8_leastCut 13 = .ok (.ishl, 1) := by decide +kernel
theorem dX8_leastCut_14 : decode cX8_leastCut 14 = .ok (.if_icmp .ge 38, 3) := by decide +kernel
theorem dX8_leastCut_17 : decode cX8_leastCut 17 = .ok (.aload_n 0, 1) := by decide +kernel
theorem dX8_leastCut_18 : decode cX8_leastCut 18 = .ok (.getfield 9, 3) := by decide +kernel
theorem dX8_leastCut_21 : decode cX8_leastCut 21 = .ok (.iload 4, 2) := by decide +kernel
theorem dX8_leastCut_23 : decode cX8_leastCut 23 = .ok (.iaload, 1) := by decide +kernel
theorem dX8_leastCut_24 : decode cX8_leastCut 24 = .ok (.iload_n 3, 1) := by decide +kernel
theorem dX8_leastCut_25 : decode cX8_leastCut 25 = .ok (.if_icmp .ge 21, 3) := by decide +kernel
theorem dX8_leastCut_28 : decode cX8_leastCut 28 = .ok (.iload 4, 2) := by decide +kernel
theorem dX8_leastCut_30 : decode cX8_leastCut 30 = .ok (.iload_n 1, 1) := by decide +kernel
theorem dX8_leastCut_31 : decode cX8_leastCut 31 = .ok (.iload_n 2, 1) := by decide +kernel
theorem dX8_leastCut_32 : decode cX8_leastCut 32 = .ok (.invokestatic 37, 3) := by decide +kernel
theorem dX8_leastCut_35 : decode cX8_leastCut 35 = .ok (.ifCond .eq 11, 3) := by decide +kernel
theorem dX8_leastCut_38 : decode cX8_leastCut 38 = .ok (.aload_n 0, 1) := by decide +kernel
theorem dX8_leastCut_39 : decode cX8_leastCut 39 = .ok (.getfield 9, 3) := by decide +kernel
theorem dX8_leastCut_42 : decode cX8_leastCut 42 = .ok (.iload 4, 2) := by decide +kernel
theorem dX8_leastCut_44 : decode cX8_leastCut 44 = .ok (.iaload, 1) := by decide +kernel
theorem dX8_leastCut_45 : decode cX8_leastCut 45 = .ok (.istore_n 3, 1) := by decide +kernel
theorem dX8_leastCut_46 : decode cX8_leastCut 46 = .ok (.iinc 4 1, 3) := by decide +kernel
theorem dX8_leastCut_49 : decode cX8_leastCut 49 = .ok (.goto (-43), 3) := by decide +kernel
theorem dX8_leastCut_52 : decode cX8_leastCut 52 = .ok (.iload_n 3, 1) := by decide +kernel
theorem dX8_leastCut_53 : decode cX8_leastCut 53 = .ok (.ireturn, 1) := by decide +kernel
theorem dX8_sideInAll_0 : decode cX8_sideInAll 0 = .ok (.iconst (-1), 1) := by decide +kernel
theorem dX8_sideInAll_1 : decode cX8_sideInAll 1 = .ok (.istore 4, 2) := by decide +kernel
theorem dX8_sideInAll_3 : decode cX8_sideInAll 3 = .ok (.iconst 0, 1) := by decide +kernel
theorem dX8_sideInAll_4 : decode cX8_sideInAll 4 = .ok (.istore 5, 2) := by decide +kernel
theorem dX8_sideInAll_6 : decode cX8_sideInAll 6 = .ok (.iload 5, 2) := by decide +kernel
theorem dX8_sideInAll_8 : decode cX8_sideInAll 8 = .ok (.iconst 1, 1) := by decide +kernel
theorem dX8_sideInAll_9 : decode cX8_sideInAll 9 = .ok (.aload_n 0, 1) := by decide +kernel
theorem dX8_sideInAll_10 : decode cX8_sideInAll 10 = .ok (.getfield 27, 3) := by decide +kernel
theorem dX8_sideInAll_13 : decode cX8_sideInAll 13 = .ok (.ishl, 1) := by decide +kernel
theorem dX8_sideInAll_14 : decode cX8_sideInAll 14 = .ok (.if_icmp .ge 37, 3) := by decide +kernel
theorem dX8_sideInAll_17 : decode cX8_sideInAll 17 = .ok (.aload_n 0, 1) := by decide +kernel
theorem dX8_sideInAll_18 : decode cX8_sideInAll 18 = .ok (.getfield 9, 3) := by decide +kernel
theorem dX8_sideInAll_21 : decode cX8_sideInAll 21 = .ok (.iload 5, 2) := by decide +kernel
theorem dX8_sideInAll_23 : decode cX8_sideInAll 23 = .ok (.iaload, 1) := by decide +kernel
theorem dX8_sideInAll_24 : decode cX8_sideInAll 24 = .ok (.iload_n 3, 1) := by decide +kernel
theorem dX8_sideInAll_25 : decode cX8_sideInAll 25 = .ok (.if_icmp .ne 20, 3) := by decide +kernel
theorem dX8_sideInAll_28 : decode cX8_sideInAll 28 = .ok (.iload 5, 2) := by decide +kernel
theorem dX8_sideInAll_30 : decode cX8_sideInAll 30 = .ok (.iload_n 1, 1) := by decide +kernel
theorem dX8_sideInAll_31 : decode cX8_sideInAll 31 = .ok (.iload_n 2, 1) := by decide +kernel
theorem dX8_sideInAll_32 : decode cX8_sideInAll 32 = .ok (.invokestatic 37, 3) := by decide +kernel
theorem dX8_sideInAll_35 : decode cX8_sideInAll 35 = .ok (.ifCond .eq 10, 3) := by decide +kernel
theorem dX8_sideInAll_38 : decode cX8_sideInAll 38 = .ok (.iload 4, 2) := by decide +kernel
theorem dX8_sideInAll_40 : decode cX8_sideInAll 40 = .ok (.iload 5, 2) := by decide +kernel
theorem dX8_sideInAll_42 : decode cX8_sideInAll 42 = .ok (.iand, 1) := by decide +kernel
theorem dX8_sideInAll_43 : decode cX8_sideInAll 43 = .ok (.istore 4, 2) := by decide +kernel
theorem dX8_sideInAll_45 : decode cX8_sideInAll 45 = .ok (.iinc 5 1, 3) := by decide +kernel
theorem dX8_sideInAll_48 : decode cX8_sideInAll 48 = .ok (.goto (-42), 3) := by decide +kernel
theorem dX8_sideInAll_51 : decode cX8_sideInAll 51 = .ok (.iload 4, 2) := by decide +kernel
theorem dX8_sideInAll_53 : decode cX8_sideInAll 53 = .ok (.ireturn, 1) := by decide +kernel
theorem dX8_grow_0 : decode cX8_grow 0 = .ok (.iconst 0, 1) := by decide +kernel
theorem dX8_grow_1 : decode cX8_grow 1 = .ok (.istore_n 1, 1) := by decide +kernel
theorem dX8_grow_2 : decode cX8_grow 2 = .ok (.iload_n 1, 1) := by decide +kernel
theorem dX8_grow_3 : decode cX8_grow 3 = .ok (.aload_n 0, 1) := by decide +kernel
theorem dX8_grow_4 : decode cX8_grow 4 = .ok (.getfield 27, 3) := by decide +kernel
theorem dX8_grow_7 : decode cX8_grow 7 = .ok (.if_icmp .ge 23, 3) := by decide +kernel
theorem dX8_grow_10 : decode cX8_grow 10 = .ok (.aload_n 0, 1) := by decide +kernel
theorem dX8_grow_11 : decode cX8_grow 11 = .ok (.getfield 15, 3) := by decide +kernel
theorem dX8_grow_14 : decode cX8_grow 14 = .ok (.iload_n 1, 1) := by decide +kernel
theorem dX8_grow_15 : decode cX8_grow 15 = .ok (.iconst 0, 1) := by decide +kernel
theorem dX8_grow_16 : decode cX8_grow 16 = .ok (.iastore, 1) := by decide +kernel
theorem dX8_grow_17 : decode cX8_grow 17 = .ok (.aload_n 0, 1) := by decide +kernel
theorem dX8_grow_18 : decode cX8_grow 18 = .ok (.getfield 18, 3) := by decide +kernel
theorem dX8_grow_21 : decode cX8_grow 21 = .ok (.iload_n 1, 1) := by decide +kernel
theorem dX8_grow_22 : decode cX8_grow 22 = .ok (.iconst 0, 1) := by decide +kernel
theorem dX8_grow_23 : decode cX8_grow 23 = .ok (.iastore, 1) := by decide +kernel
theorem dX8_grow_24 : decode cX8_grow 24 = .ok (.iinc 1 1, 3) := by decide +kernel
theorem dX8_grow_27 : decode cX8_grow 27 = .ok (.goto (-25), 3) := by decide +kernel
theorem dX8_grow_30 : decode cX8_grow 30 = .ok (.iconst 1, 1) := by decide +kernel
theorem dX8_grow_31 : decode cX8_grow 31 = .ok (.istore_n 1, 1) := by decide +kernel
theorem dX8_grow_32 : decode cX8_grow 32 = .ok (.iload_n 1, 1) := by decide +kernel
theorem dX8_grow_33 : decode cX8_grow 33 = .ok (.aload_n 0, 1) := by decide +kernel
theorem dX8_grow_34 : decode cX8_grow 34 = .ok (.getfield 27, 3) := by decide +kernel
theorem dX8_grow_37 : decode cX8_grow 37 = .ok (.if_icmp .ge 89, 3) := by decide +kernel
theorem dX8_grow_40 : decode cX8_grow 40 = .ok (.aload_n 0, 1) := by decide +kernel
theorem dX8_grow_41 : decode cX8_grow 41 = .ok (.getfield 15, 3) := by decide +kernel
theorem dX8_grow_44 : decode cX8_grow 44 = .ok (.iload_n 1, 1) := by decide +kernel
theorem dX8_grow_45 : decode cX8_grow 45 = .ok (.iaload, 1) := by decide +kernel
theorem dX8_grow_46 : decode cX8_grow 46 = .ok (.istore_n 2, 1) := by decide +kernel
theorem dX8_grow_47 : decode cX8_grow 47 = .ok (.aload_n 0, 1) := by decide +kernel
theorem dX8_grow_48 : decode cX8_grow 48 = .ok (.getfield 18, 3) := by decide +kernel
theorem dX8_grow_51 : decode cX8_grow 51 = .ok (.iload_n 1, 1) := by decide +kernel
theorem dX8_grow_52 : decode cX8_grow 52 = .ok (.aload_n 0, 1) := by decide +kernel
theorem dX8_grow_53 : decode cX8_grow 53 = .ok (.iload_n 1, 1) := by decide +kernel
theorem dX8_grow_54 : decode cX8_grow 54 = .ok (.iload_n 2, 1) := by decide +kernel
theorem dX8_grow_55 : decode cX8_grow 55 = .ok (.invokevirtual 41, 3) := by decide +kernel
theorem dX8_grow_58 : decode cX8_grow 58 = .ok (.iastore, 1) := by decide +kernel
theorem dX8_grow_59 : decode cX8_grow 59 = .ok (.aload_n 0, 1) := by decide +kernel
theorem dX8_grow_60 : decode cX8_grow 60 = .ok (.iload_n 1, 1) := by decide +kernel
theorem dX8_grow_61 : decode cX8_grow 61 = .ok (.iload_n 2, 1) := by decide +kernel
theorem dX8_grow_62 : decode cX8_grow 62 = .ok (.aload_n 0, 1) := by decide +kernel
theorem dX8_grow_63 : decode cX8_grow 63 = .ok (.getfield 18, 3) := by decide +kernel
theorem dX8_grow_66 : decode cX8_grow 66 = .ok (.iload_n 1, 1) := by decide +kernel
theorem dX8_grow_67 : decode cX8_grow 67 = .ok (.iaload, 1) := by decide +kernel
theorem dX8_grow_68 : decode cX8_grow 68 = .ok (.invokevirtual 45, 3) := by decide +kernel
theorem dX8_grow_71 : decode cX8_grow 71 = .ok (.istore_n 3, 1) := by decide +kernel
theorem dX8_grow_72 : decode cX8_grow 72 = .ok (.iload_n 1, 1) := by decide +kernel
theorem dX8_grow_73 : decode cX8_grow 73 = .ok (.iconst 1, 1) := by decide +kernel
theorem dX8_grow_74 : decode cX8_grow 74 = .ok (.iadd, 1) := by decide +kernel
theorem dX8_grow_75 : decode cX8_grow 75 = .ok (.istore 4, 2) := by decide +kernel
theorem dX8_grow_77 : decode cX8_grow 77 = .ok (.iload 4, 2) := by decide +kernel
theorem dX8_grow_79 : decode cX8_grow 79 = .ok (.aload_n 0, 1) := by decide +kernel
theorem dX8_grow_80 : decode cX8_grow 80 = .ok (.getfield 27, 3) := by decide +kernel
theorem dX8_grow_83 : decode cX8_grow 83 = .ok (.if_icmp .ge 37, 3) := by decide +kernel
theorem dX8_grow_86 : decode cX8_grow 86 = .ok (.aload_n 0, 1) := by decide +kernel
theorem dX8_grow_87 : decode cX8_grow 87 = .ok (.getfield 15, 3) := by decide +kernel
theorem dX8_grow_90 : decode cX8_grow 90 = .ok (.iload 4, 2) := by decide +kernel
theorem dX8_grow_92 : decode cX8_grow 92 = .ok (.iaload, 1) := by decide +kernel
theorem dX8_grow_93 : decode cX8_grow 93 = .ok (.iload_n 2, 1) := by decide +kernel
theorem dX8_grow_94 : decode cX8_grow 94 = .ok (.if_icmp .ne 20, 3) := by decide +kernel
theorem dX8_grow_97 : decode cX8_grow 97 = .ok (.iload_n 3, 1) := by decide +kernel
theorem dX8_grow_98 : decode cX8_grow 98 = .ok (.iload 4, 2) := by decide +kernel
theorem dX8_grow_100 : decode cX8_grow 100 = .ok (.invokestatic 49, 3) := by decide +kernel
theorem dX8_grow_103 : decode cX8_grow 103 = .ok (.ifCond .eq 11, 3) := by decide +kernel
theorem dX8_grow_106 : decode cX8_grow 106 = .ok (.aload_n 0, 1) := by decide +kernel
theorem dX8_grow_107 : decode cX8_grow 107 = .ok (.getfield 15, 3) := by decide +kernel
theorem dX8_grow_110 : decode cX8_grow 110 = .ok (.iload 4, 2) := by decide +kernel
theorem dX8_grow_112 : decode cX8_grow 112 = .ok (.iload_n 1, 1) := by decide +kernel
theorem dX8_grow_113 : decode cX8_grow 113 = .ok (.iastore, 1) := by decide +kernel
theorem dX8_grow_114 : decode cX8_grow 114 = .ok (.iinc 4 1, 3) := by decide +kernel
theorem dX8_grow_117 : decode cX8_grow 117 = .ok (.goto (-40), 3) := by decide +kernel
theorem dX8_grow_120 : decode cX8_grow 120 = .ok (.iinc 1 1, 3) := by decide +kernel
theorem dX8_grow_123 : decode cX8_grow 123 = .ok (.goto (-91), 3) := by decide +kernel
theorem dX8_grow_126 : decode cX8_grow 126 = .ok (.return_, 1) := by decide +kernel
theorem dX8_leastOnWay_0 : decode cX8_leastOnWay 0 = .ok (.ldc 36, 2) := by decide +kernel
theorem dX8_leastOnWay_2 : decode cX8_leastOnWay 2 = .ok (.istore_n 3, 1) := by decide +kernel
theorem dX8_leastOnWay_3 : decode cX8_leastOnWay 3 = .ok (.iload_n 1, 1) := by decide +kernel
theorem dX8_leastOnWay_4 : decode cX8_leastOnWay 4 = .ok (.istore 4, 2) := by decide +kernel
theorem dX8_leastOnWay_6 : decode cX8_leastOnWay 6 = .ok (.iload_n 2, 1) := by decide +kernel
theorem dX8_leastOnWay_7 : decode cX8_leastOnWay 7 = .ok (.istore 5, 2) := by decide +kernel
theorem dX8_leastOnWay_9 : decode cX8_leastOnWay 9 = .ok (.iconst 0, 1) := by decide +kernel
theorem dX8_leastOnWay_10 : decode cX8_leastOnWay 10 = .ok (.istore 6, 2) := by decide +kernel
theorem dX8_leastOnWay_12 : decode cX8_leastOnWay 12 = .ok (.iload 6, 2) := by decide +kernel
theorem dX8_leastOnWay_14 : decode cX8_leastOnWay 14 = .ok (.bipush 16, 2) := by decide +kernel
theorem dX8_leastOnWay_16 : decode cX8_leastOnWay 16 = .ok (.if_icmp .ge 97, 3) := by decide +kernel
theorem dX8_leastOnWay_19 : decode cX8_leastOnWay 19 = .ok (.iload 4, 2) := by decide +kernel
theorem dX8_leastOnWay_21 : decode cX8_leastOnWay 21 = .ok (.iload 5, 2) := by decide +kernel
theorem dX8_leastOnWay_23 : decode cX8_leastOnWay 23 = .ok (.if_icmp .eq 90, 3) := by decide +kernel
theorem dX8_leastOnWay_26 : decode cX8_leastOnWay 26 = .ok (.iload 4, 2) := by decide +kernel
theorem dX8_leastOnWay_28 : decode cX8_leastOnWay 28 = .ok (.iload 5, 2) := by decide +kernel
theorem dX8_leastOnWay_30 : decode cX8_leastOnWay 30 = .ok (.if_icmp .le 8, 3) := by decide +kernel
theorem dX8_leastOnWay_33 : decode cX8_leastOnWay 33 = .ok (.iload 4, 2) := by decide +kernel
theorem dX8_leastOnWay_35 : decode cX8_leastOnWay 35 = .ok (.goto 5, 3) := by decide +kernel
theorem dX8_leastOnWay_38 : decode cX8_leastOnWay 38 = .ok (.iload 5, 2) := by decide +kernel
theorem dX8_leastOnWay_40 : decode cX8_leastOnWay 40 = .ok (.istore 7, 2) := by decide +kernel
theorem dX8_leastOnWay_42 : decode cX8_leastOnWay 42 = .ok (.aload_n 0, 1) := by decide +kernel
theorem dX8_leastOnWay_43 : decode cX8_leastOnWay 43 = .ok (.getfield 18, 3) := by decide +kernel
theorem dX8_leastOnWay_46 : decode cX8_leastOnWay 46 = .ok (.iload 7, 2) := by decide +kernel
theorem dX8_leastOnWay_48 : decode cX8_leastOnWay 48 = .ok (.iaload, 1) := by decide +kernel
theorem dX8_leastOnWay_49 : decode cX8_leastOnWay 49 = .ok (.iload_n 3, 1) := by decide +kernel
theorem dX8_leastOnWay_50 : decode cX8_leastOnWay 50 = .ok (.if_icmp .ge 13, 3) := by decide +kernel
theorem dX8_leastOnWay_53 : decode cX8_leastOnWay 53 = .ok (.aload_n 0, 1) := by decide +kernel
theorem dX8_leastOnWay_54 : decode cX8_leastOnWay 54 = .ok (.getfield 18, 3) := by decide +kernel
theorem dX8_leastOnWay_57 : decode cX8_leastOnWay 57 = .ok (.iload 7, 2) := by decide +kernel
theorem dX8_leastOnWay_59 : decode cX8_leastOnWay 59 = .ok (.iaload, 1) := by decide +kernel
theorem dX8_leastOnWay_60 : decode cX8_leastOnWay 60 = .ok (.goto 4, 3) := by decide +kernel
theorem dX8_leastOnWay_63 : decode cX8_leastOnWay 63 = .ok (.iload_n 3, 1) := by decide +kernel
theorem dX8_leastOnWay_64 : decode cX8_leastOnWay 64 = .ok (.istore_n 3, 1) := by decide +kernel
theorem dX8_leastOnWay_65 : decode cX8_leastOnWay 65 = .ok (.iload 4, 2) := by decide +kernel
theorem dX8_leastOnWay_67 : decode cX8_leastOnWay 67 = .ok (.iload 7, 2) := by decide +kernel
theorem dX8_leastOnWay_69 : decode cX8_leastOnWay 69 = .ok (.if_icmp .ne 13, 3) := by decide +kernel
theorem dX8_leastOnWay_72 : decode cX8_leastOnWay 72 = .ok (.aload_n 0, 1) := by decide +kernel
theorem dX8_leastOnWay_73 : decode cX8_leastOnWay 73 = .ok (.getfield 15, 3) := by decide +kernel
theorem dX8_leastOnWay_76 : decode cX8_leastOnWay 76 = .ok (.iload 7, 2) := by decide +kernel
theorem dX8_leastOnWay_78 : decode cX8_leastOnWay 78 = .ok (.iaload, 1) := by decide +kernel
theorem dX8_leastOnWay_79 : decode cX8_leastOnWay 79 = .ok (.goto 5, 3) := by decide +kernel
theorem dX8_leastOnWay_82 : decode cX8_leastOnWay 82 = .ok (.iload 4, 2) := by decide +kernel
theorem dX8_leastOnWay_84 : decode cX8_leastOnWay 84 = .ok (.istore 4, 2) := by decide +kernel
theorem dX8_leastOnWay_86 : decode cX8_leastOnWay 86 = .ok (.iload 5, 2) := by decide +kernel
theorem dX8_leastOnWay_88 : decode cX8_leastOnWay 88 = .ok (.iload 7, 2) := by decide +kernel
theorem dX8_leastOnWay_90 : decode cX8_leastOnWay 90 = .ok (.if_icmp .ne 13, 3) := by decide +kernel
theorem dX8_leastOnWay_93 : decode cX8_leastOnWay 93 = .ok (.aload_n 0, 1) := by decide +kernel
theorem dX8_leastOnWay_94 : decode cX8_leastOnWay 94 = .ok (.getfield 15, 3) := by decide +kernel
theorem dX8_leastOnWay_97 : decode cX8_leastOnWay 97 = .ok (.iload 7, 2) := by decide +kernel
theorem dX8_leastOnWay_99 : decode cX8_leastOnWay 99 = .ok (.iaload, 1) := by decide +kernel
theorem dX8_leastOnWay_100 : decode cX8_leastOnWay 100 = .ok (.goto 5, 3) := by decide +kernel
theorem dX8_leastOnWay_103 : decode cX8_leastOnWay 103 = .ok (.iload 5, 2) := by decide +kernel
theorem dX8_leastOnWay_105 : decode cX8_leastOnWay 105 = .ok (.istore 5, 2) := by decide +kernel
theorem dX8_leastOnWay_107 : decode cX8_leastOnWay 107 = .ok (.iinc 6 1, 3) := by decide +kernel
theorem dX8_leastOnWay_110 : decode cX8_leastOnWay 110 = .ok (.goto (-98), 3) := by decide +kernel
theorem dX8_leastOnWay_113 : decode cX8_leastOnWay 113 = .ok (.iload_n 3, 1) := by decide +kernel
theorem dX8_leastOnWay_114 : decode cX8_leastOnWay 114 = .ok (.ireturn, 1) := by decide +kernel
theorem dJ6_bitCount_0f7a4_0 : decode cJ6_bitCount_0f7a4 0 = .ok (.iload_n 0, 1) := by decide +kernel
theorem dJ6_bitCount_0f7a4_1 : decode cJ6_bitCount_0f7a4 1 = .ok (.iload_n 0, 1) := by decide +kernel
theorem dJ6_bitCount_0f7a4_2 : decode cJ6_bitCount_0f7a4 2 = .ok (.iconst 1, 1) := by decide +kernel
theorem dJ6_bitCount_0f7a4_3 : decode cJ6_bitCount_0f7a4 3 = .ok (.iushr, 1) := by decide +kernel
theorem dJ6_bitCount_0f7a4_4 : decode cJ6_bitCount_0f7a4 4 = .ok (.ldc_w 265, 3) := by decide +kernel
theorem dJ6_bitCount_0f7a4_7 : decode cJ6_bitCount_0f7a4 7 = .ok (.iand, 1) := by decide +kernel
theorem dJ6_bitCount_0f7a4_8 : decode cJ6_bitCount_0f7a4 8 = .ok (.isub, 1) := by decide +kernel
theorem dJ6_bitCount_0f7a4_9 : decode cJ6_bitCount_0f7a4 9 = .ok (.istore_n 0, 1) := by decide +kernel
theorem dJ6_bitCount_0f7a4_10 : decode cJ6_bitCount_0f7a4 10 = .ok (.iload_n 0, 1) := by decide +kernel
theorem dJ6_bitCount_0f7a4_11 : decode cJ6_bitCount_0f7a4 11 = .ok (.ldc_w 266, 3) := by decide +kernel
theorem dJ6_bitCount_0f7a4_14 : decode cJ6_bitCount_0f7a4 14 = .ok (.iand, 1) := by decide +kernel
theorem dJ6_bitCount_0f7a4_15 : decode cJ6_bitCount_0f7a4 15 = .ok (.iload_n 0, 1) := by decide +kernel
theorem dJ6_bitCount_0f7a4_16 : decode cJ6_bitCount_0f7a4 16 = .ok (.iconst 2, 1) := by decide +kernel
theorem dJ6_bitCount_0f7a4_17 : decode cJ6_bitCount_0f7a4 17 = .ok (.iushr, 1) := by decide +kernel
theorem dJ6_bitCount_0f7a4_18 : decode cJ6_bitCount_0f7a4 18 = .ok (.ldc_w 266, 3) := by decide +kernel
theorem dJ6_bitCount_0f7a4_21 : decode cJ6_bitCount_0f7a4 21 = .ok (.iand, 1) := by decide +kernel
theorem dJ6_bitCount_0f7a4_22 : decode cJ6_bitCount_0f7a4 22 = .ok (.iadd, 1) := by decide +kernel
theorem dJ6_bitCount_0f7a4_23 : decode cJ6_bitCount_0f7a4 23 = .ok (.istore_n 0, 1) := by decide +kernel
theorem dJ6_bitCount_0f7a4_24 : decode cJ6_bitCount_0f7a4 24 = .ok (.iload_n 0, 1) := by decide +kernel
theorem dJ6_bitCount_0f7a4_25 : decode cJ6_bitCount_0f7a4 25 = .ok (.iload_n 0, 1) := by decide +kernel
theorem dJ6_bitCount_0f7a4_26 : decode cJ6_bitCount_0f7a4 26 = .ok (.iconst 4, 1) := by decide +kernel
theorem dJ6_bitCount_0f7a4_27 : decode cJ6_bitCount_0f7a4 27 = .ok (.iushr, 1) := by decide +kernel
theorem dJ6_bitCount_0f7a4_28 : decode cJ6_bitCount_0f7a4 28 = .ok (.iadd, 1) := by decide +kernel
theorem dJ6_bitCount_0f7a4_29 : decode cJ6_bitCount_0f7a4 29 = .ok (.ldc_w 267, 3) := by decide +kernel
theorem dJ6_bitCount_0f7a4_32 : decode cJ6_bitCount_0f7a4 32 = .ok (.iand, 1) := by decide +kernel
theorem dJ6_bitCount_0f7a4_33 : decode cJ6_bitCount_0f7a4 33 = .ok (.istore_n 0, 1) := by decide +kernel
theorem dJ6_bitCount_0f7a4_34 : decode cJ6_bitCount_0f7a4 34 = .ok (.iload_n 0, 1) := by decide +kernel
theorem dJ6_bitCount_0f7a4_35 : decode cJ6_bitCount_0f7a4 35 = .ok (.iload_n 0, 1) := by decide +kernel
theorem dJ6_bitCount_0f7a4_36 : decode cJ6_bitCount_0f7a4 36 = .ok (.bipush 8, 2) := by decide +kernel
theorem dJ6_bitCount_0f7a4_38 : decode cJ6_bitCount_0f7a4 38 = .ok (.iushr, 1) := by decide +kernel
theorem dJ6_bitCount_0f7a4_39 : decode cJ6_bitCount_0f7a4 39 = .ok (.iadd, 1) := by decide +kernel
theorem dJ6_bitCount_0f7a4_40 : decode cJ6_bitCount_0f7a4 40 = .ok (.istore_n 0, 1) := by decide +kernel
theorem dJ6_bitCount_0f7a4_41 : decode cJ6_bitCount_0f7a4 41 = .ok (.iload_n 0, 1) := by decide +kernel
theorem dJ6_bitCount_0f7a4_42 : decode cJ6_bitCount_0f7a4 42 = .ok (.iload_n 0, 1) := by decide +kernel
theorem dJ6_bitCount_0f7a4_43 : decode cJ6_bitCount_0f7a4 43 = .ok (.bipush 16, 2) := by decide +kernel
theorem dJ6_bitCount_0f7a4_45 : decode cJ6_bitCount_0f7a4 45 = .ok (.iushr, 1) := by decide +kernel
theorem dJ6_bitCount_0f7a4_46 : decode cJ6_bitCount_0f7a4 46 = .ok (.iadd, 1) := by decide +kernel
theorem dJ6_bitCount_0f7a4_47 : decode cJ6_bitCount_0f7a4 47 = .ok (.istore_n 0, 1) := by decide +kernel
theorem dJ6_bitCount_0f7a4_48 : decode cJ6_bitCount_0f7a4 48 = .ok (.iload_n 0, 1) := by decide +kernel
theorem dJ6_bitCount_0f7a4_49 : decode cJ6_bitCount_0f7a4 49 = .ok (.bipush 63, 2) := by decide +kernel
theorem dJ6_bitCount_0f7a4_51 : decode cJ6_bitCount_0f7a4 51 = .ok (.iand, 1) := by decide +kernel
theorem dJ6_bitCount_0f7a4_52 : decode cJ6_bitCount_0f7a4 52 = .ok (.ireturn, 1) := by decide +kernel
