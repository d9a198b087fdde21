theorem dL_init_0 : decode cL_init 0 = .ok (.aload_n 0, 1) := by decide +kernel
theorem dL_init_1 : decode cL_init 1 = .ok (.invokespecial 1, 3) := by decide +kernel
theorem dL_init_4 : decode cL_init 4 = .ok (.aload_n 0, 1) := by decide +kernel
theorem dL_init_5 : decode cL_init 5 = .ok (.new 7, 3) := by decide +kernel
theorem dL_init_8 : decode cL_init 8 = .ok (.dup, 1) := by decide +kernel
theorem dL_init_9 : decode cL_init 9 = .ok (.invokespecial 9, 3) := by decide +kernel
theorem dL_init_12 : decode cL_init 12 = .ok (.putfield 10, 3) := by decide +kernel
theorem dL_init_15 : decode cL_init 15 = .ok (.aload_n 0, 1) := by decide +kernel
theorem dL_init_16 : decode cL_init 16 = .ok (.new 16, 3) := by decide +kernel
theorem dL_init_19 : decode cL_init 19 = .ok (.dup, 1) := by decide +kernel
theorem dL_init_20 : decode cL_init 20 = .ok (.invokespecial 18, 3) := by decide +kernel
theorem dL_init_23 : decode cL_init 23 = .ok (.putfield 19, 3) := by decide +kernel
theorem dL_init_26 : decode cL_init 26 = .ok (.return_, 1) := by decide +kernel
theorem dL_cell_0 : decode cL_cell 0 = .ok (.iload_n 1, 1) := by decide +kernel
theorem dL_cell_1 : decode cL_cell 1 = .ok (.aload_n 0, 1) := by decide +kernel
theorem dL_cell_2 : decode cL_cell 2 = .ok (.arraylength, 1) := by decide +kernel
theorem dL_cell_3 : decode cL_cell 3 = .ok (.if_icmp .ge 9, 3) := by decide +kernel
theorem dL_cell_6 : decode cL_cell 6 = .ok (.aload_n 0, 1) := by decide +kernel
theorem dL_cell_7 : decode cL_cell 7 = .ok (.iload_n 1, 1) := by decide +kernel
theorem dL_cell_8 : decode cL_cell 8 = .ok (.iaload, 1) := by decide +kernel
theorem dL_cell_9 : decode cL_cell 9 = .ok (.goto 9, 3) := by decide +kernel
theorem dL_cell_12 : decode cL_cell 12 = .ok (.ldc 23, 2) := by decide +kernel
theorem dL_cell_14 : decode cL_cell 14 = .ok (.iload_n 1, 1) := by decide +kernel
theorem dL_cell_15 : decode cL_cell 15 = .ok (.iconst 1, 1) := by decide +kernel
theorem dL_cell_16 : decode cL_cell 16 = .ok (.iadd, 1) := by decide +kernel
theorem dL_cell_17 : decode cL_cell 17 = .ok (.imul, 1) := by decide +kernel
theorem dL_cell_18 : decode cL_cell 18 = .ok (.ireturn, 1) := by decide +kernel
theorem dL_draw_0 : decode cL_draw 0 = .ok (.aload_n 0, 1) := by decide +kernel
theorem dL_draw_1 : decode cL_draw 1 = .ok (.aload_n 0, 1) := by decide +kernel
theorem dL_draw_2 : decode cL_draw 2 = .ok (.getfield 24, 3) := by decide +kernel
theorem dL_draw_5 : decode cL_draw 5 = .ok (.ifCond .ne 13, 3) := by decide +kernel
theorem dL_draw_8 : decode cL_draw 8 = .ok (.aload_n 0, 1) := by decide +kernel
theorem dL_draw_9 : decode cL_draw 9 = .ok (.getfield 28, 3) := by decide +kernel
theorem dL_draw_12 : decode cL_draw 12 = .ok (.invokestatic 32, 3) := by decide +kernel
theorem dL_draw_15 : decode cL_draw 15 = .ok (.goto 7, 3) := by decide +kernel
theorem dL_draw_18 : decode cL_draw 18 = .ok (.aload_n 0, 1) := by decide +kernel
theorem dL_draw_19 : decode cL_draw 19 = .ok (.getfield 36, 3) := by decide +kernel
theorem dL_draw_22 : decode cL_draw 22 = .ok (.putfield 36, 3) := by decide +kernel
theorem dL_draw_25 : decode cL_draw 25 = .ok (.aload_n 0, 1) := by decide +kernel
theorem dL_draw_26 : decode cL_draw 26 = .ok (.dup, 1) := by decide +kernel
theorem dL_draw_27 : decode cL_draw 27 = .ok (.getfield 24, 3) := by decide +kernel
theorem dL_draw_30 : decode cL_draw 30 = .ok (.iconst 1, 1) := by decide +kernel
theorem dL_draw_31 : decode cL_draw 31 = .ok (.iadd, 1) := by decide +kernel
theorem dL_draw_32 : decode cL_draw 32 = .ok (.putfield 24, 3) := by decide +kernel
theorem dL_draw_35 : decode cL_draw 35 = .ok (.aload_n 0, 1) := by decide +kernel
theorem dL_draw_36 : decode cL_draw 36 = .ok (.getfield 36, 3) := by decide +kernel
theorem dL_draw_39 : decode cL_draw 39 = .ok (.ifCond .ne 34, 3) := by decide +kernel
theorem dL_draw_42 : decode cL_draw 42 = .ok (.aload_n 0, 1) := by decide +kernel
theorem dL_draw_43 : decode cL_draw 43 = .ok (.getfield 28, 3) := by decide +kernel
theorem dL_draw_46 : decode cL_draw 46 = .ok (.aload_n 0, 1) := by decide +kernel
theorem dL_draw_47 : decode cL_draw 47 = .ok (.getfield 24, 3) := by decide +kernel
theorem dL_draw_50 : decode cL_draw 50 = .ok (.invokestatic 39, 3) := by decide +kernel
theorem dL_draw_53 : decode cL_draw 53 = .ok (.aload_n 0, 1) := by decide +kernel
theorem dL_draw_54 : decode cL_draw 54 = .ok (.getfield 28, 3) := by decide +kernel
theorem dL_draw_57 : decode cL_draw 57 = .ok (.aload_n 0, 1) := by decide +kernel
theorem dL_draw_58 : decode cL_draw 58 = .ok (.getfield 24, 3) := by decide +kernel
theorem dL_draw_61 : decode cL_draw 61 = .ok (.iconst 1, 1) := by decide +kernel
theorem dL_draw_62 : decode cL_draw 62 = .ok (.iadd, 1) := by decide +kernel
theorem dL_draw_63 : decode cL_draw 63 = .ok (.invokestatic 39, 3) := by decide +kernel
theorem dL_draw_66 : decode cL_draw 66 = .ok (.bipush 7, 2) := by decide +kernel
theorem dL_draw_68 : decode cL_draw 68 = .ok (.iushr, 1) := by decide +kernel
theorem dL_draw_69 : decode cL_draw 69 = .ok (.ixor, 1) := by decide +kernel
theorem dL_draw_70 : decode cL_draw 70 = .ok (.goto 14, 3) := by decide +kernel
theorem dL_draw_73 : decode cL_draw 73 = .ok (.aload_n 0, 1) := by decide +kernel
theorem dL_draw_74 : decode cL_draw 74 = .ok (.getfield 36, 3) := by decide +kernel
theorem dL_draw_77 : decode cL_draw 77 = .ok (.aload_n 0, 1) := by decide +kernel
theorem dL_draw_78 : decode cL_draw 78 = .ok (.getfield 24, 3) := by decide +kernel
theorem dL_draw_81 : decode cL_draw 81 = .ok (.invokestatic 43, 3) := by decide +kernel
theorem dL_draw_84 : decode cL_draw 84 = .ok (.istore_n 2, 1) := by decide +kernel
theorem dL_draw_85 : decode cL_draw 85 = .ok (.iload_n 2, 1) := by decide +kernel
theorem dL_draw_86 : decode cL_draw 86 = .ok (.ldc 47, 2) := by decide +kernel
theorem dL_draw_88 : decode cL_draw 88 = .ok (.iand, 1) := by decide +kernel
theorem dL_draw_89 : decode cL_draw 89 = .ok (.iload_n 1, 1) := by decide +kernel
theorem dL_draw_90 : decode cL_draw 90 = .ok (.irem, 1) := by decide +kernel
theorem dL_draw_91 : decode cL_draw 91 = .ok (.ireturn, 1) := by decide +kernel
theorem dL_stirred_0 : decode cL_stirred 0 = .ok (.ldc 23, 2) := by decide +kernel
theorem dL_stirred_2 : decode cL_stirred 2 = .ok (.aload_n 0, 1) := by decide +kernel
theorem dL_stirred_3 : decode cL_stirred 3 = .ok (.arraylength, 1) := by decide +kernel
theorem dL_stirred_4 : decode cL_stirred 4 = .ok (.iadd, 1) := by decide +kernel
theorem dL_stirred_5 : decode cL_stirred 5 = .ok (.istore_n 1, 1) := by decide +kernel
theorem dL_stirred_6 : decode cL_stirred 6 = .ok (.aload_n 0, 1) := by decide +kernel
theorem dL_stirred_7 : decode cL_stirred 7 = .ok (.astore_n 2, 1) := by decide +kernel
theorem dL_stirred_8 : decode cL_stirred 8 = .ok (.aload_n 2, 1) := by decide +kernel
theorem dL_stirred_9 : decode cL_stirred 9 = .ok (.arraylength, 1) := by decide +kernel
theorem dL_stirred_10 : decode cL_stirred 10 = .ok (.istore_n 3, 1) := by decide +kernel
theorem dL_stirred_11 : decode cL_stirred 11 = .ok (.iconst 0, 1) := by decide +kernel
theorem dL_stirred_12 : decode cL_stirred 12 = .ok (.istore 4, 2) := by decide +kernel
theorem dL_stirred_14 : decode cL_stirred 14 = .ok (.iload 4, 2) := by decide +kernel
theorem dL_stirred_16 : decode cL_stirred 16 = .ok (.iload_n 3, 1) := by decide +kernel
theorem dL_stirred_17 : decode cL_stirred 17 = .ok (.if_icmp .ge 28, 3) := by decide +kernel
theorem dL_stirred_20 : decode cL_stirred 20 = .ok (.aload_n 2, 1) := by decide +kernel
theorem dL_stirred_21 : decode cL_stirred 21 = .ok (.iload 4, 2) := by decide +kernel
theorem dL_stirred_23 : decode cL_stirred 23 = .ok (.iaload, 1) := by decide +kernel
theorem dL_stirred_24 : decode cL_stirred 24 = .ok (.istore 5, 2) := by decide +kernel
theorem dL_stirred_26 : decode cL_stirred 26 = .ok (.iload_n 1, 1) := by decide +kernel
theorem dL_stirred_27 : decode cL_stirred 27 = .ok (.iload 5, 2) := by decide +kernel
theorem dL_stirred_29 : decode cL_stirred 29 = .ok (.ixor, 1) := by decide +kernel
theorem dL_stirred_30 : decode cL_stirred 30 = .ok (.iload_n 1, 1) := by decide +kernel
theorem dL_stirred_31 : decode cL_stirred 31 = .ok (.bipush 15, 2) := by decide +kernel
theorem dL_stirred_33 : decode cL_stirred 33 = .ok (.iushr, 1) := by decide +kernel
theorem dL_stirred_34 : decode cL_stirred 34 = .ok (.ixor, 1) := by decide +kernel
theorem dL_stirred_35 : decode cL_stirred 35 = .ok (.ldc 48, 2) := by decide +kernel
theorem dL_stirred_37 : decode cL_stirred 37 = .ok (.imul, 1) := by decide +kernel
theorem dL_stirred_38 : decode cL_stirred 38 = .ok (.istore_n 1, 1) := by decide +kernel
theorem dL_stirred_39 : decode cL_stirred 39 = .ok (.iinc 4 1, 3) := by decide +kernel
theorem dL_stirred_42 : decode cL_stirred 42 = .ok (.goto (-28), 3) := by decide +kernel
theorem dL_stirred_45 : decode cL_stirred 45 = .ok (.iload_n 1, 1) := by decide +kernel
theorem dL_stirred_46 : decode cL_stirred 46 = .ok (.iload_n 1, 1) := by decide +kernel
theorem dL_stirred_47 : decode cL_stirred 47 = .ok (.bipush 13, 2) := by decide +kernel
theorem dL_stirred_49 : decode cL_stirred 49 = .ok (.iushr, 1) := by decide +kernel
theorem dL_stirred_50 : decode cL_stirred 50 = .ok (.ixor, 1) := by decide +kernel
theorem dL_stirred_51 : decode cL_stirred 51 = .ok (.istore_n 1, 1) := by decide +kernel
theorem dL_stirred_52 : decode cL_stirred 52 = .ok (.iload_n 1, 1) := by decide +kernel
theorem dL_stirred_53 : decode cL_stirred 53 = .ok (.iconst 3, 1) := by decide +kernel
theorem dL_stirred_54 : decode cL_stirred 54 = .ok (.iand, 1) := by decide +kernel
theorem dL_stirred_55 : decode cL_stirred 55 = .ok (.ifCond .ne 7, 3) := by decide +kernel
theorem dL_stirred_58 : decode cL_stirred 58 = .ok (.iconst 0, 1) := by decide +kernel
theorem dL_stirred_59 : decode cL_stirred 59 = .ok (.goto 4, 3) := by decide +kernel
theorem dL_stirred_62 : decode cL_stirred 62 = .ok (.iload_n 1, 1) := by decide +kernel
theorem dL_stirred_63 : decode cL_stirred 63 = .ok (.ireturn, 1) := by decide +kernel
theorem dL_mixed_0 : decode cL_mixed 0 = .ok (.iload_n 0, 1) := by decide +kernel
theorem dL_mixed_1 : decode cL_mixed 1 = .ok (.iload_n 1, 1) := by decide +kernel
theorem dL_mixed_2 : decode cL_mixed 2 = .ok (.ldc 49, 2) := by decide +kernel
theorem dL_mixed_4 : decode cL_mixed 4 = .ok (.imul, 1) := by decide +kernel
theorem dL_mixed_5 : decode cL_mixed 5 = .ok (.iadd, 1) := by decide +kernel
theorem dL_mixed_6 : decode cL_mixed 6 = .ok (.ldc 50, 2) := by decide +kernel
theorem dL_mixed_8 : decode cL_mixed 8 = .ok (.imul, 1) := by decide +kernel
theorem dL_mixed_9 : decode cL_mixed 9 = .ok (.istore_n 2, 1) := by decide +kernel
theorem dL_mixed_10 : decode cL_mixed 10 = .ok (.iload_n 2, 1) := by decide +kernel
theorem dL_mixed_11 : decode cL_mixed 11 = .ok (.iload_n 2, 1) := by decide +kernel
theorem dL_mixed_12 : decode cL_mixed 12 = .ok (.bipush 15, 2) := by decide +kernel
theorem dL_mixed_14 : decode cL_mixed 14 = .ok (.iushr, 1) := by decide +kernel
theorem dL_mixed_15 : decode cL_mixed 15 = .ok (.ixor, 1) := by decide +kernel
theorem dL_mixed_16 : decode cL_mixed 16 = .ok (.ldc 51, 2) := by decide +kernel
theorem dL_mixed_18 : decode cL_mixed 18 = .ok (.imul, 1) := by decide +kernel
theorem dL_mixed_19 : decode cL_mixed 19 = .ok (.istore_n 2, 1) := by decide +kernel
theorem dL_mixed_20 : decode cL_mixed 20 = .ok (.iload_n 2, 1) := by decide +kernel
theorem dL_mixed_21 : decode cL_mixed 21 = .ok (.iload_n 2, 1) := by decide +kernel
theorem dL_mixed_22 : decode cL_mixed 22 = .ok (.bipush 16, 2) := by decide +kernel
theorem dL_mixed_24 : decode cL_mixed 24 = .ok (.iushr, 1) := by decide +kernel
theorem dL_mixed_25 : decode cL_mixed 25 = .ok (.ixor, 1) := by decide +kernel
theorem dL_mixed_26 : decode cL_mixed 26 = .ok (.ireturn, 1) := by decide +kernel
theorem dL_has_0 : decode cL_has 0 = .ok (.iload_n 1, 1) := by decide +kernel
theorem dL_has_1 : decode cL_has 1 = .ok (.iload_n 2, 1) := by decide +kernel
theorem dL_has_2 : decode cL_has 2 = .ok (.ishr, 1) := by decide +kernel
theorem dL_has_3 : decode cL_has 3 = .ok (.iconst 1, 1) := by decide +kernel
theorem dL_has_4 : decode cL_has 4 = .ok (.iand, 1) := by decide +kernel
theorem dL_has_5 : decode cL_has 5 = .ok (.iconst 1, 1) := by decide +kernel
theorem dL_has_6 : decode cL_has 6 = .ok (.if_icmp .ne 7, 3) := by decide +kernel
theorem dL_has_9 : decode cL_has 9 = .ok (.iconst 1, 1) := by decide +kernel
theorem dL_has_10 : decode cL_has 10 = .ok (.goto 4, 3) := by decide +kernel
theorem dL_has_13 : decode cL_has 13 = .ok (.iconst 0, 1) := by decide +kernel
theorem dL_has_14 : decode cL_has 14 = .ok (.ireturn, 1) := by decide +kernel
theorem dL_netOn_0 : decode cL_netOn 0 = .ok (.aload_n 0, 1) := by decide +kernel
theorem dL_netOn_1 : decode cL_netOn 1 = .ok (.iconst 2, 1) := by decide +kernel
theorem dL_netOn_2 : decode cL_netOn 2 = .ok (.aload_n 0, 1) := by decide +kernel
theorem dL_netOn_3 : decode cL_netOn 3 = .ok (.iconst 5, 1) := by decide +kernel
theorem dL_netOn_4 : decode cL_netOn 4 = .ok (.invokevirtual 52, 3) := by decide +kernel
theorem dL_netOn_7 : decode cL_netOn 7 = .ok (.iadd, 1) := by decide +kernel
theorem dL_netOn_8 : decode cL_netOn 8 = .ok (.putfield 56, 3) := by decide +kernel
theorem dL_netOn_11 : decode cL_netOn 11 = .ok (.aload_n 0, 1) := by decide +kernel
theorem dL_netOn_12 : decode cL_netOn 12 = .ok (.getfield 10, 3) := by decide +kernel
theorem dL_netOn_15 : decode cL_netOn 15 = .ok (.aload_n 0, 1) := by decide +kernel
theorem dL_netOn_16 : decode cL_netOn 16 = .ok (.getfield 56, 3) := by decide +kernel
theorem dL_netOn_19 : decode cL_netOn 19 = .ok (.invokevirtual 59, 3) := by decide +kernel
theorem dL_netOn_22 : decode cL_netOn 22 = .ok (.pop, 1) := by decide +kernel
theorem dL_netOn_23 : decode cL_netOn 23 = .ok (.aload_n 0, 1) := by decide +kernel
theorem dL_netOn_24 : decode cL_netOn 24 = .ok (.iconst 3, 1) := by decide +kernel
theorem dL_netOn_25 : decode cL_netOn 25 = .ok (.invokevirtual 52, 3) := by decide +kernel
theorem dL_netOn_28 : decode cL_netOn 28 = .ok (.ifCond .le 7, 3) := by decide +kernel
theorem dL_netOn_31 : decode cL_netOn 31 = .ok (.iconst 1, 1) := by decide +kernel
theorem dL_netOn_32 : decode cL_netOn 32 = .ok (.goto 4, 3) := by decide +kernel
theorem dL_netOn_35 : decode cL_netOn 35 = .ok (.iconst 0, 1) := by decide +kernel
theorem dL_netOn_36 : decode cL_netOn 36 = .ok (.istore_n 1, 1) := by decide +kernel
theorem dL_netOn_37 : decode cL_netOn 37 = .ok (.iconst 2, 1) := by decide +kernel
theorem dL_netOn_38 : decode cL_netOn 38 = .ok (.aload_n 0, 1) := by decide +kernel
theorem dL_netOn_39 : decode cL_netOn 39 = .ok (.bipush 10, 2) := by decide +kernel
theorem dL_netOn_41 : decode cL_netOn 41 = .ok (.invokevirtual 52, 3) := by decide +kernel
theorem dL_netOn_44 : decode cL_netOn 44 = .ok (.iadd, 1) := by decide +kernel
theorem dL_netOn_45 : decode cL_netOn 45 = .ok (.istore_n 2, 1) := by decide +kernel
theorem dL_netOn_46 : decode cL_netOn 46 = .ok (.iload_n 2, 1) := by decide +kernel
theorem dL_netOn_47 : decode cL_netOn 47 = .ok (.ifCond .le 148, 3) := by decide +kernel
theorem dL_netOn_50 : decode cL_netOn 50 = .ok (.aload_n 0, 1) := by decide +kernel
theorem dL_netOn_51 : decode cL_netOn 51 = .ok (.aload_n 0, 1) := by decide +kernel
theorem dL_netOn_52 : decode cL_netOn 52 = .ok (.getfield 56, 3) := by decide +kernel
theorem dL_netOn_55 : decode cL_netOn 55 = .ok (.invokevirtual 52, 3) := by decide +kernel
theorem dL_netOn_58 : decode cL_netOn 58 = .ok (.istore_n 3, 1) := by decide +kernel
theorem dL_netOn_59 : decode cL_netOn 59 = .ok (.iload_n 3, 1) := by decide +kernel
theorem dL_netOn_60 : decode cL_netOn 60 = .ok (.iconst 1, 1) := by decide +kernel
theorem dL_netOn_61 : decode cL_netOn 61 = .ok (.iadd, 1) := by decide +kernel
theorem dL_netOn_62 : decode cL_netOn 62 = .ok (.aload_n 0, 1) := by decide +kernel
theorem dL_netOn_63 : decode cL_netOn 63 = .ok (.aload_n 0, 1) := by decide +kernel
theorem dL_netOn_64 : decode cL_netOn 64 = .ok (.getfield 56, 3) := by decide +kernel
theorem dL_netOn_67 : decode cL_netOn 67 = .ok (.iconst 1, 1) := by decide +kernel
theorem dL_netOn_68 : decode cL_netOn 68 = .ok (.isub, 1) := by decide +kernel
theorem dL_netOn_69 : decode cL_netOn 69 = .ok (.invokevirtual 52, 3) := by decide +kernel
theorem dL_netOn_72 : decode cL_netOn 72 = .ok (.iadd, 1) := by decide +kernel
theorem dL_netOn_73 : decode cL_netOn 73 = .ok (.aload_n 0, 1) := by decide +kernel
theorem dL_netOn_74 : decode cL_netOn 74 = .ok (.getfield 56, 3) := by decide +kernel
theorem dL_netOn_77 : decode cL_netOn 77 = .ok (.irem, 1) := by decide +kernel
theorem dL_netOn_78 : decode cL_netOn 78 = .ok (.istore 4, 2) := by decide +kernel
theorem dL_netOn_80 : decode cL_netOn 80 = .ok (.aload_n 0, 1) := by decide +kernel
theorem dL_netOn_81 : decode cL_netOn 81 = .ok (.iconst 3, 1) := by decide +kernel
theorem dL_netOn_82 : decode cL_netOn 82 = .ok (.invokevirtual 52, 3) := by decide +kernel
theorem dL_netOn_85 : decode cL_netOn 85 = .ok (.ifCond .ne 7, 3) := by decide +kernel
theorem dL_netOn_88 : decode cL_netOn 88 = .ok (.iconst 1, 1) := by decide +kernel
theorem dL_netOn_89 : decode cL_netOn 89 = .ok (.goto 9, 3) := by decide +kernel
theorem dL_netOn_92 : decode cL_netOn 92 = .ok (.aload_n 0, 1) := by decide +kernel
theorem dL_netOn_93 : decode cL_netOn 93 = .ok (.bipush 9, 2) := by decide +kernel
theorem dL_netOn_95 : decode cL_netOn 95 = .ok (.invokevirtual 52, 3) := by decide +kernel
theorem dL_netOn_98 : decode cL_netOn 98 = .ok (.istore 5, 2) := by decide +kernel
theorem dL_netOn_100 : decode cL_netOn 100 = .ok (.iload_n 1, 1) := by decide +kernel
theorem dL_netOn_101 : decode cL_netOn 101 = .ok (.ifCond .ne 11, 3) := by decide +kernel
theorem dL_netOn_104 : decode cL_netOn 104 = .ok (.aload_n 0, 1) := by decide +kernel
theorem dL_netOn_105 : decode cL_netOn 105 = .ok (.iconst 3, 1) := by decide +kernel
theorem dL_netOn_106 : decode cL_netOn 106 = .ok (.invokevirtual 52, 3) := by decide +kernel
theorem dL_netOn_109 : decode cL_netOn 109 = .ok (.ifCond .le 7, 3) := by decide +kernel
theorem dL_netOn_112 : decode cL_netOn 112 = .ok (.iconst 0, 1) := by decide +kernel
theorem dL_netOn_113 : decode cL_netOn 113 = .ok (.goto 11, 3) := by decide +kernel
theorem dL_netOn_116 : decode cL_netOn 116 = .ok (.aload_n 0, 1) := by decide +kernel
theorem dL_netOn_117 : decode cL_netOn 117 = .ok (.iload 5, 2) := by decide +kernel
theorem dL_netOn_119 : decode cL_netOn 119 = .ok (.iconst 1, 1) := by decide +kernel
theorem dL_netOn_120 : decode cL_netOn 120 = .ok (.iadd, 1) := by decide +kernel
theorem dL_netOn_121 : decode cL_netOn 121 = .ok (.invokevirtual 52, 3) := by decide +kernel
theorem dL_netOn_124 : decode cL_netOn 124 = .ok (.istore 6, 2) := by decide +kernel
theorem dL_netOn_126 : decode cL_netOn 126 = .ok (.aload_n 0, 1) := by decide +kernel
theorem dL_netOn_127 : decode cL_netOn 127 = .ok (.bipush 9, 2) := by decide +kernel
theorem dL_netOn_129 : decode cL_netOn 129 = .ok (.invokevirtual 52, 3) := by decide +kernel
theorem dL_netOn_132 : decode cL_netOn 132 = .ok (.iconst 3, 1) := by decide +kernel
theorem dL_netOn_133 : decode cL_netOn 133 = .ok (.isub, 1) := by decide +kernel
theorem dL_netOn_134 : decode cL_netOn 134 = .ok (.istore 7, 2) := by decide +kernel
theorem dL_netOn_136 : decode cL_netOn 136 = .ok (.aload_n 0, 1) := by decide +kernel
theorem dL_netOn_137 : decode cL_netOn 137 = .ok (.getfield 10, 3) := by decide +kernel
theorem dL_netOn_140 : decode cL_netOn 140 = .ok (.iconst 0, 1) := by decide +kernel
theorem dL_netOn_141 : decode cL_netOn 141 = .ok (.iload_n 3, 1) := by decide +kernel
theorem dL_netOn_142 : decode cL_netOn 142 = .ok (.iload 4, 2) := by decide +kernel
theorem dL_netOn_144 : decode cL_netOn 144 = .ok (.iload 6, 2) := by decide +kernel
theorem dL_netOn_146 : decode cL_netOn 146 = .ok (.iload 5, 2) := by decide +kernel
theorem dL_netOn_148 : decode cL_netOn 148 = .ok (.iload 7, 2) := by decide +kernel
theorem dL_netOn_150 : decode cL_netOn 150 = .ok (.invokevirtual 62, 3) := by decide +kernel
theorem dL_netOn_153 : decode cL_netOn 153 = .ok (.pop, 1) := by decide +kernel
theorem dL_netOn_154 : decode cL_netOn 154 = .ok (.aload_n 0, 1) := by decide +kernel
theorem dL_netOn_155 : decode cL_netOn 155 = .ok (.getfield 19, 3) := by decide +kernel
theorem dL_netOn_158 : decode cL_netOn 158 = .ok (.iconst 5, 1) := by decide +kernel
theorem dL_netOn_159 : decode cL_netOn 159 = .ok (.newarray .int, 2) := by decide +kernel
theorem dL_netOn_161 : decode cL_netOn 161 = .ok (.dup, 1) := by decide +kernel
theorem dL_netOn_162 : decode cL_netOn 162 = .ok (.iconst 0, 1) := by decide +kernel
theorem dL_netOn_163 : decode cL_netOn 163 = .ok (.iload_n 3, 1) := by decide +kernel
theorem dL_netOn_164 : decode cL_netOn 164 = .ok (.iastore, 1) := by decide +kernel
theorem dL_netOn_165 : decode cL_netOn 165 = .ok (.dup, 1) := by decide +kernel
theorem dL_netOn_166 : decode cL_netOn 166 = .ok (.iconst 1, 1) := by decide +kernel
theorem dL_netOn_167 : decode cL_netOn 167 = .ok (.iload 4, 2) := by decide +kernel
theorem dL_netOn_169 : decode cL_netOn 169 = .ok (.iastore, 1) := by decide +kernel
theorem dL_netOn_170 : decode cL_netOn 170 = .ok (.dup, 1) := by decide +kernel
theorem dL_netOn_171 : decode cL_netOn 171 = .ok (.iconst 2, 1) := by decide +kernel
theorem dL_netOn_172 : decode cL_netOn 172 = .ok (.iload 6, 2) := by decide +kernel
theorem dL_netOn_174 : decode cL_netOn 174 = .ok (.iastore, 1) := by decide +kernel
theorem dL_netOn_175 : decode cL_netOn 175 = .ok (.dup, 1) := by decide +kernel
theorem dL_netOn_176 : decode cL_netOn 176 = .ok (.iconst 3, 1) := by decide +kernel
theorem dL_netOn_177 : decode cL_netOn 177 = .ok (.iload 5, 2) := by decide +kernel
theorem dL_netOn_179 : decode cL_netOn 179 = .ok (.iastore, 1) := by decide +kernel
theorem dL_netOn_180 : decode cL_netOn 180 = .ok (.dup, 1) := by decide +kernel
theorem dL_netOn_181 : decode cL_netOn 181 = .ok (.iconst 4, 1) := by decide +kernel
theorem dL_netOn_182 : decode cL_netOn 182 = .ok (.iload 7, 2) := by decide +kernel
theorem dL_netOn_184 : decode cL_netOn 184 = .ok (.iastore, 1) := by decide +kernel
theorem dL_netOn_185 : decode cL_netOn 185 = .ok (.invokevirtual 66, 3) := by decide +kernel
theorem dL_netOn_188 : decode cL_netOn 188 = .ok (.pop, 1) := by decide +kernel
theorem dL_netOn_189 : decode cL_netOn 189 = .ok (.iinc 2 (-1), 3) := by decide +kernel
theorem dL_netOn_192 : decode cL_netOn 192 = .ok (.goto (-146), 3) := by decide +kernel
theorem dL_netOn_195 : decode cL_netOn 195 = .ok (.return_, 1) := by decide +kernel
theorem dL_leaving_0 : decode cL_leaving 0 = .ok (.iconst 0, 1) := by decide +kernel
theorem dL_leaving_1 : decode cL_leaving 1 = .ok (.istore_n 3, 1) := by decide +kernel
theorem dL_leaving_2 : decode cL_leaving 2 = .ok (.iconst 0, 1) := by decide +kernel
theorem dL_leaving_3 : decode cL_leaving 3 = .ok (.istore 4, 2) := by decide +kernel
theorem dL_leaving_5 : decode cL_leaving 5 = .ok (.iload 4, 2) := by decide +kernel
theorem dL_leaving_7 : decode cL_leaving 7 = .ok (.aload_n 1, 1) := by decide +kernel
theorem dL_leaving_8 : decode cL_leaving 8 = .ok (.arraylength, 1) := by decide +kernel
theorem dL_leaving_9 : decode cL_leaving 9 = .ok (.if_icmp .ge 67, 3) := by decide +kernel
theorem dL_leaving_12 : decode cL_leaving 12 = .ok (.iload_n 3, 1) := by decide +kernel
theorem dL_leaving_13 : decode cL_leaving 13 = .ok (.aload_n 0, 1) := by decide +kernel
theorem dL_leaving_14 : decode cL_leaving 14 = .ok (.getfield 19, 3) := by decide +kernel
theorem dL_leaving_17 : decode cL_leaving 17 = .ok (.iload 4, 2) := by decide +kernel
theorem dL_leaving_19 : decode cL_leaving 19 = .ok (.invokevirtual 70, 3) := by decide +kernel
theorem dL_leaving_22 : decode cL_leaving 22 = .ok (.checkcast 74, 3) := by decide +kernel
theorem dL_leaving_25 : decode cL_leaving 25 = .ok (.iconst 0, 1) := by decide +kernel
theorem dL_leaving_26 : decode cL_leaving 26 = .ok (.iaload, 1) := by decide +kernel
theorem dL_leaving_27 : decode cL_leaving 27 = .ok (.iload_n 2, 1) := by decide +kernel
theorem dL_leaving_28 : decode cL_leaving 28 = .ok (.if_icmp .ne 10, 3) := by decide +kernel
theorem dL_leaving_31 : decode cL_leaving 31 = .ok (.aload_n 1, 1) := by decide +kernel
theorem dL_leaving_32 : decode cL_leaving 32 = .ok (.iload 4, 2) := by decide +kernel
theorem dL_leaving_34 : decode cL_leaving 34 = .ok (.iaload, 1) := by decide +kernel
theorem dL_leaving_35 : decode cL_leaving 35 = .ok (.goto 4, 3) := by decide +kernel
theorem dL_leaving_38 : decode cL_leaving 38 = .ok (.iconst 0, 1) := by decide +kernel
theorem dL_leaving_39 : decode cL_leaving 39 = .ok (.iadd, 1) := by decide +kernel
theorem dL_leaving_40 : decode cL_leaving 40 = .ok (.istore_n 3, 1) := by decide +kernel
theorem dL_leaving_41 : decode cL_leaving 41 = .ok (.iload_n 3, 1) := by decide +kernel
theorem dL_leaving_42 : decode cL_leaving 42 = .ok (.aload_n 0, 1) := by decide +kernel
theorem dL_leaving_43 : decode cL_leaving 43 = .ok (.getfield 19, 3) := by decide +kernel
theorem dL_leaving_46 : decode cL_leaving 46 = .ok (.iload 4, 2) := by decide +kernel
theorem dL_leaving_48 : decode cL_leaving 48 = .ok (.invokevirtual 70, 3) := by decide +kernel
theorem dL_leaving_51 : decode cL_leaving 51 = .ok (.checkcast 74, 3) := by decide +kernel
theorem dL_leaving_54 : decode cL_leaving 54 = .ok (.iconst 1, 1) := by decide +kernel
theorem dL_leaving_55 : decode cL_leaving 55 = .ok (.iaload, 1) := by decide +kernel
theorem dL_leaving_56 : decode cL_leaving 56 = .ok (.iload_n 2, 1) := by decide +kernel
theorem dL_leaving_57 : decode cL_leaving 57 = .ok (.if_icmp .ne 10, 3) := by decide +kernel
theorem dL_leaving_60 : decode cL_leaving 60 = .ok (.aload_n 1, 1) := by decide +kernel
theorem dL_leaving_61 : decode cL_leaving 61 = .ok (.iload 4, 2) := by decide +kernel
theorem dL_leaving_63 : decode cL_leaving 63 = .ok (.iaload, 1) := by decide +kernel
theorem dL_leaving_64 : decode cL_leaving 64 = .ok (.goto 4, 3) := by decide +kernel
theorem dL_leaving_67 : decode cL_leaving 67 = .ok (.iconst 0, 1) := by decide +kernel
theorem dL_leaving_68 : decode cL_leaving 68 = .ok (.isub, 1) := by decide +kernel
theorem dL_leaving_69 : decode cL_leaving 69 = .ok (.istore_n 3, 1) := by decide +kernel
theorem dL_leaving_70 : decode cL_leaving 70 = .ok (.iinc 4 1, 3) := by decide +kernel
theorem dL_leaving_73 : decode cL_leaving 73 = .ok (.goto (-68), 3) := by decide +kernel
theorem dL_leaving_76 : decode cL_leaving 76 = .ok (.iload_n 3, 1) := by decide +kernel
theorem dL_leaving_77 : decode cL_leaving 77 = .ok (.ireturn, 1) := by decide +kernel
theorem dL_isFlow_0 : decode cL_isFlow 0 = .ok (.iconst 1, 1) := by decide +kernel
theorem dL_isFlow_1 : decode cL_isFlow 1 = .ok (.istore 5, 2) := by decide +kernel
theorem dL_isFlow_3 : decode cL_isFlow 3 = .ok (.iconst 0, 1) := by decide +kernel
theorem dL_isFlow_4 : decode cL_isFlow 4 = .ok (.istore 6, 2) := by decide +kernel
theorem dL_isFlow_6 : decode cL_isFlow 6 = .ok (.iload 6, 2) := by decide +kernel
theorem dL_isFlow_8 : decode cL_isFlow 8 = .ok (.aload_n 0, 1) := by decide +kernel
theorem dL_isFlow_9 : decode cL_isFlow 9 = .ok (.getfield 56, 3) := by decide +kernel
theorem dL_isFlow_12 : decode cL_isFlow 12 = .ok (.if_icmp .ge 59, 3) := by decide +kernel
theorem dL_isFlow_15 : decode cL_isFlow 15 = .ok (.iload 6, 2) := by decide +kernel
theorem dL_isFlow_17 : decode cL_isFlow 17 = .ok (.iload_n 2, 1) := by decide +kernel
theorem dL_isFlow_18 : decode cL_isFlow 18 = .ok (.if_icmp .ne 8, 3) := by decide +kernel
theorem dL_isFlow_21 : decode cL_isFlow 21 = .ok (.iload 4, 2) := by decide +kernel
theorem dL_isFlow_23 : decode cL_isFlow 23 = .ok (.goto 16, 3) := by decide +kernel
theorem dL_isFlow_26 : decode cL_isFlow 26 = .ok (.iload 6, 2) := by decide +kernel
theorem dL_isFlow_28 : decode cL_isFlow 28 = .ok (.iload_n 3, 1) := by decide +kernel
theorem dL_isFlow_29 : decode cL_isFlow 29 = .ok (.if_icmp .ne 9, 3) := by decide +kernel
theorem dL_isFlow_32 : decode cL_isFlow 32 = .ok (.iload 4, 2) := by decide +kernel
theorem dL_isFlow_34 : decode cL_isFlow 34 = .ok (.ineg, 1) := by decide +kernel
theorem dL_isFlow_35 : decode cL_isFlow 35 = .ok (.goto 4, 3) := by decide +kernel
theorem dL_isFlow_38 : decode cL_isFlow 38 = .ok (.iconst 0, 1) := by decide +kernel
theorem dL_isFlow_39 : decode cL_isFlow 39 = .ok (.istore 7, 2) := by decide +kernel
theorem dL_isFlow_41 : decode cL_isFlow 41 = .ok (.iload 5, 2) := by decide +kernel
theorem dL_isFlow_43 : decode cL_isFlow 43 = .ok (.ifCond .eq 19, 3) := by decide +kernel
theorem dL_isFlow_46 : decode cL_isFlow 46 = .ok (.aload_n 0, 1) := by decide +kernel
theorem dL_isFlow_47 : decode cL_isFlow 47 = .ok (.aload_n 1, 1) := by decide +kernel
theorem dL_isFlow_48 : decode cL_isFlow 48 = .ok (.iload 6, 2) := by decide +kernel
theorem dL_isFlow_50 : decode cL_isFlow 50 = .ok (.invokevirtual 75, 3) := by decide +kernel
theorem dL_isFlow_53 : decode cL_isFlow 53 = .ok (.iload 7, 2) := by decide +kernel
theorem dL_isFlow_55 : decode cL_isFlow 55 = .ok (.if_icmp .ne 7, 3) := by decide +kernel
theorem dL_isFlow_58 : decode cL_isFlow 58 = .ok (.iconst 1, 1) := by decide +kernel
theorem dL_isFlow_59 : decode cL_isFlow 59 = .ok (.goto 4, 3) := by decide +kernel
theorem dL_isFlow_62 : decode cL_isFlow 62 = .ok (.iconst 0, 1) := by decide +kernel
theorem dL_isFlow_63 : decode cL_isFlow 63 = .ok (.istore 5, 2) := by decide +kernel
theorem dL_isFlow_65 : decode cL_isFlow 65 = .ok (.iinc 6 1, 3) := by decide +kernel
theorem dL_isFlow_68 : decode cL_isFlow 68 = .ok (.goto (-62), 3) := by decide +kernel
theorem dL_isFlow_71 : decode cL_isFlow 71 = .ok (.iconst 0, 1) := by decide +kernel
theorem dL_isFlow_72 : decode cL_isFlow 72 = .ok (.istore 6, 2) := by decide +kernel
theorem dL_isFlow_74 : decode cL_isFlow 74 = .ok (.iload 6, 2) := by decide +kernel
theorem dL_isFlow_76 : decode cL_isFlow 76 = .ok (.aload_n 1, 1) := by decide +kernel
theorem dL_isFlow_77 : decode cL_isFlow 77 = .ok (.arraylength, 1) := by decide +kernel
theorem dL_isFlow_78 : decode cL_isFlow 78 = .ok (.if_icmp .ge 63, 3) := by decide +kernel
theorem dL_isFlow_81 : decode cL_isFlow 81 = .ok (.iload 5, 2) := by decide +kernel
theorem dL_isFlow_83 : decode cL_isFlow 83 = .ok (.ifCond .eq 49, 3) := by decide +kernel
theorem dL_isFlow_86 : decode cL_isFlow 86 = .ok (.aload_n 1, 1) := by decide +kernel
theorem dL_isFlow_87 : decode cL_isFlow 87 = .ok (.iload 6, 2) := by decide +kernel
theorem dL_isFlow_89 : decode cL_isFlow 89 = .ok (.iaload, 1) := by decide +kernel
theorem dL_isFlow_90 : decode cL_isFlow 90 = .ok (.aload_n 0, 1) := by decide +kernel
theorem dL_isFlow_91 : decode cL_isFlow 91 = .ok (.getfield 19, 3) := by decide +kernel
theorem dL_isFlow_94 : decode cL_isFlow 94 = .ok (.iload 6, 2) := by decide +kernel
theorem dL_isFlow_96 : decode cL_isFlow 96 = .ok (.invokevirtual 70, 3) := by decide +kernel
theorem dL_isFlow_99 : decode cL_isFlow 99 = .ok (.checkcast 74, 3) := by decide +kernel
theorem dL_isFlow_102 : decode cL_isFlow 102 = .ok (.iconst 2, 1) := by decide +kernel
theorem dL_isFlow_103 : decode cL_isFlow 103 = .ok (.iaload, 1) := by decide +kernel
theorem dL_isFlow_104 : decode cL_isFlow 104 = .ok (.if_icmp .lt 28, 3) := by decide +kernel
theorem dL_isFlow_107 : decode cL_isFlow 107 = .ok (.aload_n 1, 1) := by decide +kernel
theorem dL_isFlow_108 : decode cL_isFlow 108 = .ok (.iload 6, 2) := by decide +kernel
theorem dL_isFlow_110 : decode cL_isFlow 110 = .ok (.iaload, 1) := by decide +kernel
theorem dL_isFlow_111 : decode cL_isFlow 111 = .ok (.aload_n 0, 1) := by decide +kernel
theorem dL_isFlow_112 : decode cL_isFlow 112 = .ok (.getfield 19, 3) := by decide +kernel
theorem dL_isFlow_115 : decode cL_isFlow 115 = .ok (.iload 6, 2) := by decide +kernel
theorem dL_isFlow_117 : decode cL_isFlow 117 = .ok (.invokevirtual 70, 3) := by decide +kernel
theorem dL_isFlow_120 : decode cL_isFlow 120 = .ok (.checkcast 74, 3) := by decide +kernel
theorem dL_isFlow_123 : decode cL_isFlow 123 = .ok (.iconst 3, 1) := by decide +kernel
theorem dL_isFlow_124 : decode cL_isFlow 124 = .ok (.iaload, 1) := by decide +kernel
theorem dL_isFlow_125 : decode cL_isFlow 125 = .ok (.if_icmp .gt 7, 3) := by decide +kernel
theorem dL_isFlow_128 : decode cL_isFlow 128 = .ok (.iconst 1, 1) := by decide +kernel
theorem dL_isFlow_129 : decode cL_isFlow 129 = .ok (.goto 4, 3) := by decide +kernel
theorem dL_isFlow_132 : decode cL_isFlow 132 = .ok (.iconst 0, 1) := by decide +kernel
theorem dL_isFlow_133 : decode cL_isFlow 133 = .ok (.istore 5, 2) := by decide +kernel
theorem dL_isFlow_135 : decode cL_isFlow 135 = .ok (.iinc 6 1, 3) := by decide +kernel
theorem dL_isFlow_138 : decode cL_isFlow 138 = .ok (.goto (-64), 3) := by decide +kernel
theorem dL_isFlow_141 : decode cL_isFlow 141 = .ok (.iload 5, 2) := by decide +kernel
theorem dL_isFlow_143 : decode cL_isFlow 143 = .ok (.ireturn, 1) := by decide +kernel
theorem dL_out_0 : decode cL_out 0 = .ok (.iconst 0, 1) := by decide +kernel
theorem dL_out_1 : decode cL_out 1 = .ok (.istore_n 3, 1) := by decide +kernel
theorem dL_out_2 : decode cL_out 2 = .ok (.aload_n 0, 1) := by decide +kernel
theorem dL_out_3 : decode cL_out 3 = .ok (.getfield 19, 3) := by decide +kernel
theorem dL_out_6 : decode cL_out 6 = .ok (.invokevirtual 78, 3) := by decide +kernel
theorem dL_out_9 : decode cL_out 9 = .ok (.astore 4, 2) := by decide +kernel
theorem dL_out_11 : decode cL_out 11 = .ok (.aload 4, 2) := by decide +kernel
theorem dL_out_13 : decode cL_out 13 = .ok (.invokeinterface 82 1, 5) := by decide +kernel
theorem dL_out_18 : decode cL_out 18 = .ok (.ifCond .eq 53, 3) := by decide +kernel
theorem dL_out_21 : decode cL_out 21 = .ok (.aload 4, 2) := by decide +kernel
theorem dL_out_23 : decode cL_out 23 = .ok (.invokeinterface 88 1, 5) := by decide +kernel
theorem dL_out_28 : decode cL_out 28 = .ok (.checkcast 74, 3) := by decide +kernel
theorem dL_out_31 : decode cL_out 31 = .ok (.astore 5, 2) := by decide +kernel
theorem dL_out_33 : decode cL_out 33 = .ok (.iload_n 3, 1) := by decide +kernel
theorem dL_out_34 : decode cL_out 34 = .ok (.aload_n 0, 1) := by decide +kernel
theorem dL_out_35 : decode cL_out 35 = .ok (.iload_n 1, 1) := by decide +kernel
theorem dL_out_36 : decode cL_out 36 = .ok (.aload 5, 2) := by decide +kernel
theorem dL_out_38 : decode cL_out 38 = .ok (.iconst 0, 1) := by decide +kernel
theorem dL_out_39 : decode cL_out 39 = .ok (.iaload, 1) := by decide +kernel
theorem dL_out_40 : decode cL_out 40 = .ok (.invokevirtual 92, 3) := by decide +kernel
theorem dL_out_43 : decode cL_out 43 = .ok (.ifCond .eq 22, 3) := by decide +kernel
theorem dL_out_46 : decode cL_out 46 = .ok (.aload_n 0, 1) := by decide +kernel
theorem dL_out_47 : decode cL_out 47 = .ok (.iload_n 1, 1) := by decide +kernel
theorem dL_out_48 : decode cL_out 48 = .ok (.aload 5, 2) := by decide +kernel
theorem dL_out_50 : decode cL_out 50 = .ok (.iconst 1, 1) := by decide +kernel
theorem dL_out_51 : decode cL_out 51 = .ok (.iaload, 1) := by decide +kernel
theorem dL_out_52 : decode cL_out 52 = .ok (.invokevirtual 92, 3) := by decide +kernel
theorem dL_out_55 : decode cL_out 55 = .ok (.ifCond .ne 10, 3) := by decide +kernel
theorem dL_out_58 : decode cL_out 58 = .ok (.aload 5, 2) := by decide +kernel
theorem dL_out_60 : decode cL_out 60 = .ok (.iload_n 2, 1) := by decide +kernel
theorem dL_out_61 : decode cL_out 61 = .ok (.iaload, 1) := by decide +kernel
theorem dL_out_62 : decode cL_out 62 = .ok (.goto 4, 3) := by decide +kernel
theorem dL_out_65 : decode cL_out 65 = .ok (.iconst 0, 1) := by decide +kernel
theorem dL_out_66 : decode cL_out 66 = .ok (.iadd, 1) := by decide +kernel
theorem dL_out_67 : decode cL_out 67 = .ok (.istore_n 3, 1) := by decide +kernel
theorem dL_out_68 : decode cL_out 68 = .ok (.goto (-57), 3) := by decide +kernel
theorem dL_out_71 : decode cL_out 71 = .ok (.iload_n 3, 1) := by decide +kernel
theorem dL_out_72 : decode cL_out 72 = .ok (.ireturn, 1) := by decide +kernel
theorem dL_into_0 : decode cL_into 0 = .ok (.iconst 0, 1) := by decide +kernel
theorem dL_into_1 : decode cL_into 1 = .ok (.istore_n 3, 1) := by decide +kernel
theorem dL_into_2 : decode cL_into 2 = .ok (.aload_n 0, 1) := by decide +kernel
theorem dL_into_3 : decode cL_into 3 = .ok (.getfield 19, 3) := by decide +kernel
theorem dL_into_6 : decode cL_into 6 = .ok (.invokevirtual 78, 3) := by decide +kernel
theorem dL_into_9 : decode cL_into 9 = .ok (.astore 4, 2) := by decide +kernel
theorem dL_into_11 : decode cL_into 11 = .ok (.aload 4, 2) := by decide +kernel
theorem dL_into_13 : decode cL_into 13 = .ok (.invokeinterface 82 1, 5) := by decide +kernel
theorem dL_into_18 : decode cL_into 18 = .ok (.ifCond .eq 53, 3) := by decide +kernel
theorem dL_into_21 : decode cL_into 21 = .ok (.aload 4, 2) := by decide +kernel
theorem dL_into_23 : decode cL_into 23 = .ok (.invokeinterface 88 1, 5) := by decide +kernel
theorem dL_into_28 : decode cL_into 28 = .ok (.checkcast 74, 3) := by decide +kernel
theorem dL_into_31 : decode cL_into 31 = .ok (.astore 5, 2) := by decide +kernel
theorem dL_into_33 : decode cL_into 33 = .ok (.iload_n 3, 1) := by decide +kernel
theorem dL_into_34 : decode cL_into 34 = .ok (.aload_n 0, 1) := by decide +kernel
theorem dL_into_35 : decode cL_into 35 = .ok (.iload_n 1, 1) := by decide +kernel
theorem dL_into_36 : decode cL_into 36 = .ok (.aload 5, 2) := by decide +kernel
theorem dL_into_38 : decode cL_into 38 = .ok (.iconst 0, 1) := by decide +kernel
theorem dL_into_39 : decode cL_into 39 = .ok (.iaload, 1) := by decide +kernel
theorem dL_into_40 : decode cL_into 40 = .ok (.invokevirtual 92, 3) := by decide +kernel
theorem dL_into_43 : decode cL_into 43 = .ok (.ifCond .ne 22, 3) := by decide +kernel
theorem dL_into_46 : decode cL_into 46 = .ok (.aload_n 0, 1) := by decide +kernel
theorem dL_into_47 : decode cL_into 47 = .ok (.iload_n 1, 1) := by decide +kernel
theorem dL_into_48 : decode cL_into 48 = .ok (.aload 5, 2) := by decide +kernel
theorem dL_into_50 : decode cL_into 50 = .ok (.iconst 1, 1) := by decide +kernel
theorem dL_into_51 : decode cL_into 51 = .ok (.iaload, 1) := by decide +kernel
theorem dL_into_52 : decode cL_into 52 = .ok (.invokevirtual 92, 3) := by decide +kernel
theorem dL_into_55 : decode cL_into 55 = .ok (.ifCond .eq 10, 3) := by decide +kernel
theorem dL_into_58 : decode cL_into 58 = .ok (.aload 5, 2) := by decide +kernel
theorem dL_into_60 : decode cL_into 60 = .ok (.iload_n 2, 1) := by decide +kernel
theorem dL_into_61 : decode cL_into 61 = .ok (.iaload, 1) := by decide +kernel
theorem dL_into_62 : decode cL_into 62 = .ok (.goto 4, 3) := by decide +kernel
theorem dL_into_65 : decode cL_into 65 = .ok (.iconst 0, 1) := by decide +kernel
theorem dL_into_66 : decode cL_into 66 = .ok (.iadd, 1) := by decide +kernel
theorem dL_into_67 : decode cL_into 67 = .ok (.istore_n 3, 1) := by decide +kernel
theorem dL_into_68 : decode cL_into 68 = .ok (.goto (-57), 3) := by decide +kernel
theorem dL_into_71 : decode cL_into 71 = .ok (.iload_n 3, 1) := by decide +kernel
theorem dL_into_72 : decode cL_into 72 = .ok (.ireturn, 1) := by decide +kernel
theorem dL_isFilled_0 : decode cL_isFilled 0 = .ok (.iconst 1, 1) := by decide +kernel
theorem dL_isFilled_1 : decode cL_isFilled 1 = .ok (.istore_n 3, 1) := by decide +kernel
theorem dL_isFilled_2 : decode cL_isFilled 2 = .ok (.iconst 0, 1) := by decide +kernel
theorem dL_isFilled_3 : decode cL_isFilled 3 = .ok (.istore 4, 2) := by decide +kernel
theorem dL_isFilled_5 : decode cL_isFilled 5 = .ok (.iload 4, 2) := by decide +kernel
theorem dL_isFilled_7 : decode cL_isFilled 7 = .ok (.aload_n 1, 1) := by decide +kernel
theorem dL_isFilled_8 : decode cL_isFilled 8 = .ok (.arraylength, 1) := by decide +kernel
theorem dL_isFilled_9 : decode cL_isFilled 9 = .ok (.if_icmp .ge 103, 3) := by decide +kernel
theorem dL_isFilled_12 : decode cL_isFilled 12 = .ok (.aload_n 0, 1) := by decide +kernel
theorem dL_isFilled_13 : decode cL_isFilled 13 = .ok (.getfield 19, 3) := by decide +kernel
theorem dL_isFilled_16 : decode cL_isFilled 16 = .ok (.iload 4, 2) := by decide +kernel
theorem dL_isFilled_18 : decode cL_isFilled 18 = .ok (.invokevirtual 70, 3) := by decide +kernel
theorem dL_isFilled_21 : decode cL_isFilled 21 = .ok (.checkcast 74, 3) := by decide +kernel
theorem dL_isFilled_24 : decode cL_isFilled 24 = .ok (.astore 5, 2) := by decide +kernel
theorem dL_isFilled_26 : decode cL_isFilled 26 = .ok (.iload_n 3, 1) := by decide +kernel
theorem dL_isFilled_27 : decode cL_isFilled 27 = .ok (.ifCond .eq 77, 3) := by decide +kernel
theorem dL_isFilled_30 : decode cL_isFilled 30 = .ok (.aload_n 0, 1) := by decide +kernel
theorem dL_isFilled_31 : decode cL_isFilled 31 = .ok (.iload_n 2, 1) := by decide +kernel
theorem dL_isFilled_32 : decode cL_isFilled 32 = .ok (.aload 5, 2) := by decide +kernel
theorem dL_isFilled_34 : decode cL_isFilled 34 = .ok (.iconst 0, 1) := by decide +kernel
theorem dL_isFilled_35 : decode cL_isFilled 35 = .ok (.iaload, 1) := by decide +kernel
theorem dL_isFilled_36 : decode cL_isFilled 36 = .ok (.invokevirtual 92, 3) := by decide +kernel
theorem dL_isFilled_39 : decode cL_isFilled 39 = .ok (.ifCond .eq 26, 3) := by decide +kernel
theorem dL_isFilled_42 : decode cL_isFilled 42 = .ok (.aload_n 0, 1) := by decide +kernel
theorem dL_isFilled_43 : decode cL_isFilled 43 = .ok (.iload_n 2, 1) := by decide +kernel
theorem dL_isFilled_44 : decode cL_isFilled 44 = .ok (.aload 5, 2) := by decide +kernel
theorem dL_isFilled_46 : decode cL_isFilled 46 = .ok (.iconst 1, 1) := by decide +kernel
theorem dL_isFilled_47 : decode cL_isFilled 47 = .ok (.iaload, 1) := by decide +kernel
theorem dL_isFilled_48 : decode cL_isFilled 48 = .ok (.invokevirtual 92, 3) := by decide +kernel
theorem dL_isFilled_51 : decode cL_isFilled 51 = .ok (.ifCond .ne 14, 3) := by decide +kernel
theorem dL_isFilled_54 : decode cL_isFilled 54 = .ok (.aload_n 1, 1) := by decide +kernel
theorem dL_isFilled_55 : decode cL_isFilled 55 = .ok (.iload 4, 2) := by decide +kernel
theorem dL_isFilled_57 : decode cL_isFilled 57 = .ok (.iaload, 1) := by decide +kernel
theorem dL_isFilled_58 : decode cL_isFilled 58 = .ok (.aload 5, 2) := by decide +kernel
theorem dL_isFilled_60 : decode cL_isFilled 60 = .ok (.iconst 3, 1) := by decide +kernel
theorem dL_isFilled_61 : decode cL_isFilled 61 = .ok (.iaload, 1) := by decide +kernel
theorem dL_isFilled_62 : decode cL_isFilled 62 = .ok (.if_icmp .ne 42, 3) := by decide +kernel
theorem dL_isFilled_65 : decode cL_isFilled 65 = .ok (.aload_n 0, 1) := by decide +kernel
theorem dL_isFilled_66 : decode cL_isFilled 66 = .ok (.iload_n 2, 1) := by decide +kernel
theorem dL_isFilled_67 : decode cL_isFilled 67 = .ok (.aload 5, 2) := by decide +kernel
theorem dL_isFilled_69 : decode cL_isFilled 69 = .ok (.iconst 0, 1) := by decide +kernel
theorem dL_isFilled_70 : decode cL_isFilled 70 = .ok (.iaload, 1) := by decide +kernel
theorem dL_isFilled_71 : decode cL_isFilled 71 = .ok (.invokevirtual 92, 3) := by decide +kernel
theorem dL_isFilled_74 : decode cL_isFilled 74 = .ok (.ifCond .ne 26, 3) := by decide +kernel
theorem dL_isFilled_77 : decode cL_isFilled 77 = .ok (.aload_n 0, 1) := by decide +kernel
theorem dL_isFilled_78 : decode cL_isFilled 78 = .ok (.iload_n 2, 1) := by decide +kernel
theorem dL_isFilled_79 : decode cL_isFilled 79 = .ok (.aload 5, 2) := by decide +kernel
theorem dL_isFilled_81 : decode cL_isFilled 81 = .ok (.iconst 1, 1) := by decide +kernel
theorem dL_isFilled_82 : decode cL_isFilled 82 = .ok (.iaload, 1) := by decide +kernel
theorem dL_isFilled_83 : decode cL_isFilled 83 = .ok (.invokevirtual 92, 3) := by decide +kernel
theorem dL_isFilled_86 : decode cL_isFilled 86 = .ok (.ifCond .eq 14, 3) := by decide +kernel
theorem dL_isFilled_89 : decode cL_isFilled 89 = .ok (.aload_n 1, 1) := by decide +kernel
theorem dL_isFilled_90 : decode cL_isFilled 90 = .ok (.iload 4, 2) := by decide +kernel
theorem dL_isFilled_92 : decode cL_isFilled 92 = .ok (.iaload, 1) := by decide +kernel
theorem dL_isFilled_93 : decode cL_isFilled 93 = .ok (.aload 5, 2) := by decide +kernel
theorem dL_isFilled_95 : decode cL_isFilled 95 = .ok (.iconst 2, 1) := by decide +kernel
theorem dL_isFilled_96 : decode cL_isFilled 96 = .ok (.iaload, 1) := by decide +kernel
theorem dL_isFilled_97 : decode cL_isFilled 97 = .ok (.if_icmp .ne 7, 3) := by decide +kernel
theorem dL_isFilled_100 : decode cL_isFilled 100 = .ok (.iconst 1, 1) := by decide +kernel
theorem dL_isFilled_101 : decode cL_isFilled 101 = .ok (.goto 4, 3) := by decide +kernel
theorem dL_isFilled_104 : decode cL_isFilled 104 = .ok (.iconst 0, 1) := by decide +kernel
theorem dL_isFilled_105 : decode cL_isFilled 105 = .ok (.istore_n 3, 1) := by decide +kernel
theorem dL_isFilled_106 : decode cL_isFilled 106 = .ok (.iinc 4 1, 3) := by decide +kernel
theorem dL_isFilled_109 : decode cL_isFilled 109 = .ok (.goto (-104), 3) := by decide +kernel
theorem dL_isFilled_112 : decode cL_isFilled 112 = .ok (.iload_n 3, 1) := by decide +kernel
theorem dL_isFilled_113 : decode cL_isFilled 113 = .ok (.ireturn, 1) := by decide +kernel
theorem dL_pricesSo_0 : decode cL_pricesSo 0 = .ok (.aload_n 0, 1) := by decide +kernel
theorem dL_pricesSo_1 : decode cL_pricesSo 1 = .ok (.getfield 56, 3) := by decide +kernel
theorem dL_pricesSo_4 : decode cL_pricesSo 4 = .ok (.newarray .int, 2) := by decide +kernel
theorem dL_pricesSo_6 : decode cL_pricesSo 6 = .ok (.astore 4, 2) := by decide +kernel
theorem dL_pricesSo_8 : decode cL_pricesSo 8 = .ok (.aload_n 0, 1) := by decide +kernel
theorem dL_pricesSo_9 : decode cL_pricesSo 9 = .ok (.getfield 56, 3) := by decide +kernel
theorem dL_pricesSo_12 : decode cL_pricesSo 12 = .ok (.newarray .boolean, 2) := by decide +kernel
theorem dL_pricesSo_14 : decode cL_pricesSo 14 = .ok (.astore 5, 2) := by decide +kernel
theorem dL_pricesSo_16 : decode cL_pricesSo 16 = .ok (.iconst 0, 1) := by decide +kernel
theorem dL_pricesSo_17 : decode cL_pricesSo 17 = .ok (.istore 6, 2) := by decide +kernel
theorem dL_pricesSo_19 : decode cL_pricesSo 19 = .ok (.iload 6, 2) := by decide +kernel
theorem dL_pricesSo_21 : decode cL_pricesSo 21 = .ok (.aload_n 0, 1) := by decide +kernel
theorem dL_pricesSo_22 : decode cL_pricesSo 22 = .ok (.getfield 56, 3) := by decide +kernel
theorem dL_pricesSo_25 : decode cL_pricesSo 25 = .ok (.if_icmp .ge 43, 3) := by decide +kernel
theorem dL_pricesSo_28 : decode cL_pricesSo 28 = .ok (.aload 4, 2) := by decide +kernel
theorem dL_pricesSo_30 : decode cL_pricesSo 30 = .ok (.iload 6, 2) := by decide +kernel
theorem dL_pricesSo_32 : decode cL_pricesSo 32 = .ok (.aload_n 0, 1) := by decide +kernel
theorem dL_pricesSo_33 : decode cL_pricesSo 33 = .ok (.getfield 10, 3) := by decide +kernel
theorem dL_pricesSo_36 : decode cL_pricesSo 36 = .ok (.iconst 0, 1) := by decide +kernel
theorem dL_pricesSo_37 : decode cL_pricesSo 37 = .ok (.iload_n 2, 1) := by decide +kernel
theorem dL_pricesSo_38 : decode cL_pricesSo 38 = .ok (.iload_n 3, 1) := by decide +kernel
theorem dL_pricesSo_39 : decode cL_pricesSo 39 = .ok (.iload 6, 2) := by decide +kernel
theorem dL_pricesSo_41 : decode cL_pricesSo 41 = .ok (.invokevirtual 155, 3) := by decide +kernel
theorem dL_pricesSo_44 : decode cL_pricesSo 44 = .ok (.iastore, 1) := by decide +kernel
theorem dL_pricesSo_45 : decode cL_pricesSo 45 = .ok (.aload 5, 2) := by decide +kernel
theorem dL_pricesSo_47 : decode cL_pricesSo 47 = .ok (.iload 6, 2) := by decide +kernel
theorem dL_pricesSo_49 : decode cL_pricesSo 49 = .ok (.iconst 1, 1) := by decide +kernel
theorem dL_pricesSo_50 : decode cL_pricesSo 50 = .ok (.bastore, 1) := by decide +kernel
theorem dL_pricesSo_51 : decode cL_pricesSo 51 = .ok (.goto 11, 3) := by decide +kernel
theorem dL_pricesSo_54 : decode cL_pricesSo 54 = .ok (.astore 7, 2) := by decide +kernel
theorem dL_pricesSo_56 : decode cL_pricesSo 56 = .ok (.aload 5, 2) := by decide +kernel
theorem dL_pricesSo_58 : decode cL_pricesSo 58 = .ok (.iload 6, 2) := by decide +kernel
theorem dL_pricesSo_60 : decode cL_pricesSo 60 = .ok (.iconst 0, 1) := by decide +kernel
theorem dL_pricesSo_61 : decode cL_pricesSo 61 = .ok (.bastore, 1) := by decide +kernel
theorem dL_pricesSo_62 : decode cL_pricesSo 62 = .ok (.iinc 6 1, 3) := by decide +kernel
theorem dL_pricesSo_65 : decode cL_pricesSo 65 = .ok (.goto (-46), 3) := by decide +kernel
theorem dL_pricesSo_68 : decode cL_pricesSo 68 = .ok (.aload 5, 2) := by decide +kernel
theorem dL_pricesSo_70 : decode cL_pricesSo 70 = .ok (.iload_n 2, 1) := by decide +kernel
theorem dL_pricesSo_71 : decode cL_pricesSo 71 = .ok (.baload, 1) := by decide +kernel
theorem dL_pricesSo_72 : decode cL_pricesSo 72 = .ok (.ifCond .eq 14, 3) := by decide +kernel
theorem dL_pricesSo_75 : decode cL_pricesSo 75 = .ok (.aload 4, 2) := by decide +kernel
theorem dL_pricesSo_77 : decode cL_pricesSo 77 = .ok (.iload_n 2, 1) := by decide +kernel
theorem dL_pricesSo_78 : decode cL_pricesSo 78 = .ok (.iaload, 1) := by decide +kernel
theorem dL_pricesSo_79 : decode cL_pricesSo 79 = .ok (.ifCond .ne 7, 3) := by decide +kernel
theorem dL_pricesSo_82 : decode cL_pricesSo 82 = .ok (.iconst 1, 1) := by decide +kernel
theorem dL_pricesSo_83 : decode cL_pricesSo 83 = .ok (.goto 4, 3) := by decide +kernel
theorem dL_pricesSo_86 : decode cL_pricesSo 86 = .ok (.iconst 0, 1) := by decide +kernel
theorem dL_pricesSo_87 : decode cL_pricesSo 87 = .ok (.istore 6, 2) := by decide +kernel
theorem dL_pricesSo_89 : decode cL_pricesSo 89 = .ok (.iconst 0, 1) := by decide +kernel
theorem dL_pricesSo_90 : decode cL_pricesSo 90 = .ok (.istore 7, 2) := by decide +kernel
theorem dL_pricesSo_92 : decode cL_pricesSo 92 = .ok (.iload 7, 2) := by decide +kernel
theorem dL_pricesSo_94 : decode cL_pricesSo 94 = .ok (.aload_n 1, 1) := by decide +kernel
theorem dL_pricesSo_95 : decode cL_pricesSo 95 = .ok (.arraylength, 1) := by decide +kernel
theorem dL_pricesSo_96 : decode cL_pricesSo 96 = .ok (.if_icmp .ge 153, 3) := by decide +kernel
theorem dL_pricesSo_99 : decode cL_pricesSo 99 = .ok (.iload 6, 2) := by decide +kernel
theorem dL_pricesSo_101 : decode cL_pricesSo 101 = .ok (.ifCond .eq 148, 3) := by decide +kernel
theorem dL_pricesSo_104 : decode cL_pricesSo 104 = .ok (.aload_n 0, 1) := by decide +kernel
theorem dL_pricesSo_105 : decode cL_pricesSo 105 = .ok (.getfield 19, 3) := by decide +kernel
theorem dL_pricesSo_108 : decode cL_pricesSo 108 = .ok (.iload 7, 2) := by decide +kernel
theorem dL_pricesSo_110 : decode cL_pricesSo 110 = .ok (.invokevirtual 70, 3) := by decide +kernel
theorem dL_pricesSo_113 : decode cL_pricesSo 113 = .ok (.checkcast 74, 3) := by decide +kernel
theorem dL_pricesSo_116 : decode cL_pricesSo 116 = .ok (.astore 8, 2) := by decide +kernel
theorem dL_pricesSo_118 : decode cL_pricesSo 118 = .ok (.aload_n 1, 1) := by decide +kernel
theorem dL_pricesSo_119 : decode cL_pricesSo 119 = .ok (.iload 7, 2) := by decide +kernel
theorem dL_pricesSo_121 : decode cL_pricesSo 121 = .ok (.iaload, 1) := by decide +kernel
theorem dL_pricesSo_122 : decode cL_pricesSo 122 = .ok (.aload 8, 2) := by decide +kernel
theorem dL_pricesSo_124 : decode cL_pricesSo 124 = .ok (.iconst 3, 1) := by decide +kernel
theorem dL_pricesSo_125 : decode cL_pricesSo 125 = .ok (.iaload, 1) := by decide +kernel
theorem dL_pricesSo_126 : decode cL_pricesSo 126 = .ok (.if_icmp .ge 52, 3) := by decide +kernel
theorem dL_pricesSo_129 : decode cL_pricesSo 129 = .ok (.aload 5, 2) := by decide +kernel
theorem dL_pricesSo_131 : decode cL_pricesSo 131 = .ok (.aload 8, 2) := by decide +kernel
theorem dL_pricesSo_133 : decode cL_pricesSo 133 = .ok (.iconst 0, 1) := by decide +kernel
theorem dL_pricesSo_134 : decode cL_pricesSo 134 = .ok (.iaload, 1) := by decide +kernel
theorem dL_pricesSo_135 : decode cL_pricesSo 135 = .ok (.baload, 1) := by decide +kernel
theorem dL_pricesSo_136 : decode cL_pricesSo 136 = .ok (.ifCond .eq 42, 3) := by decide +kernel
theorem dL_pricesSo_139 : decode cL_pricesSo 139 = .ok (.aload 5, 2) := by decide +kernel
theorem dL_pricesSo_141 : decode cL_pricesSo 141 = .ok (.aload 8, 2) := by decide +kernel
theorem dL_pricesSo_143 : decode cL_pricesSo 143 = .ok (.iconst 1, 1) := by decide +kernel
theorem dL_pricesSo_144 : decode cL_pricesSo 144 = .ok (.iaload, 1) := by decide +kernel
theorem dL_pricesSo_145 : decode cL_pricesSo 145 = .ok (.baload, 1) := by decide +kernel
theorem dL_pricesSo_146 : decode cL_pricesSo 146 = .ok (.ifCond .eq 29, 3) := by decide +kernel
theorem dL_pricesSo_149 : decode cL_pricesSo 149 = .ok (.aload 4, 2) := by decide +kernel
theorem dL_pricesSo_151 : decode cL_pricesSo 151 = .ok (.aload 8, 2) := by decide +kernel
theorem dL_pricesSo_153 : decode cL_pricesSo 153 = .ok (.iconst 1, 1) := by decide +kernel
theorem dL_pricesSo_154 : decode cL_pricesSo 154 = .ok (.iaload, 1) := by decide +kernel
theorem dL_pricesSo_155 : decode cL_pricesSo 155 = .ok (.iaload, 1) := by decide +kernel
theorem dL_pricesSo_156 : decode cL_pricesSo 156 = .ok (.aload 4, 2) := by decide +kernel
theorem dL_pricesSo_158 : decode cL_pricesSo 158 = .ok (.aload 8, 2) := by decide +kernel
theorem dL_pricesSo_160 : decode cL_pricesSo 160 = .ok (.iconst 0, 1) := by decide +kernel
theorem dL_pricesSo_161 : decode cL_pricesSo 161 = .ok (.iaload, 1) := by decide +kernel
theorem dL_pricesSo_162 : decode cL_pricesSo 162 = .ok (.iaload, 1) := by decide +kernel
theorem dL_pricesSo_163 : decode cL_pricesSo 163 = .ok (.aload 8, 2) := by decide +kernel
theorem dL_pricesSo_165 : decode cL_pricesSo 165 = .ok (.iconst 4, 1) := by decide +kernel
theorem dL_pricesSo_166 : decode cL_pricesSo 166 = .ok (.iaload, 1) := by decide +kernel
theorem dL_pricesSo_167 : decode cL_pricesSo 167 = .ok (.iadd, 1) := by decide +kernel
theorem dL_pricesSo_168 : decode cL_pricesSo 168 = .ok (.if_icmp .gt 7, 3) := by decide +kernel
theorem dL_pricesSo_171 : decode cL_pricesSo 171 = .ok (.iconst 1, 1) := by decide +kernel
theorem dL_pricesSo_172 : decode cL_pricesSo 172 = .ok (.goto 4, 3) := by decide +kernel
theorem dL_pricesSo_175 : decode cL_pricesSo 175 = .ok (.iconst 0, 1) := by decide +kernel
theorem dL_pricesSo_176 : decode cL_pricesSo 176 = .ok (.istore 6, 2) := by decide +kernel
theorem dL_pricesSo_178 : decode cL_pricesSo 178 = .ok (.iload 6, 2) := by decide +kernel
theorem dL_pricesSo_180 : decode cL_pricesSo 180 = .ok (.ifCond .eq 63, 3) := by decide +kernel
theorem dL_pricesSo_183 : decode cL_pricesSo 183 = .ok (.aload_n 1, 1) := by decide +kernel
theorem dL_pricesSo_184 : decode cL_pricesSo 184 = .ok (.iload 7, 2) := by decide +kernel
theorem dL_pricesSo_186 : decode cL_pricesSo 186 = .ok (.iaload, 1) := by decide +kernel
theorem dL_pricesSo_187 : decode cL_pricesSo 187 = .ok (.aload 8, 2) := by decide +kernel
theorem dL_pricesSo_189 : decode cL_pricesSo 189 = .ok (.iconst 2, 1) := by decide +kernel
theorem dL_pricesSo_190 : decode cL_pricesSo 190 = .ok (.iaload, 1) := by decide +kernel
theorem dL_pricesSo_191 : decode cL_pricesSo 191 = .ok (.if_icmp .le 52, 3) := by decide +kernel
theorem dL_pricesSo_194 : decode cL_pricesSo 194 = .ok (.aload 5, 2) := by decide +kernel
theorem dL_pricesSo_196 : decode cL_pricesSo 196 = .ok (.aload 8, 2) := by decide +kernel
theorem dL_pricesSo_198 : decode cL_pricesSo 198 = .ok (.iconst 1, 1) := by decide +kernel
theorem dL_pricesSo_199 : decode cL_pricesSo 199 = .ok (.iaload, 1) := by decide +kernel
theorem dL_pricesSo_200 : decode cL_pricesSo 200 = .ok (.baload, 1) := by decide +kernel
theorem dL_pricesSo_201 : decode cL_pricesSo 201 = .ok (.ifCond .eq 42, 3) := by decide +kernel
theorem dL_pricesSo_204 : decode cL_pricesSo 204 = .ok (.aload 5, 2) := by decide +kernel
theorem dL_pricesSo_206 : decode cL_pricesSo 206 = .ok (.aload 8, 2) := by decide +kernel
theorem dL_pricesSo_208 : decode cL_pricesSo 208 = .ok (.iconst 0, 1) := by decide +kernel
theorem dL_pricesSo_209 : decode cL_pricesSo 209 = .ok (.iaload, 1) := by decide +kernel
theorem dL_pricesSo_210 : decode cL_pricesSo 210 = .ok (.baload, 1) := by decide +kernel
theorem dL_pricesSo_211 : decode cL_pricesSo 211 = .ok (.ifCond .eq 29, 3) := by decide +kernel
theorem dL_pricesSo_214 : decode cL_pricesSo 214 = .ok (.aload 4, 2) := by decide +kernel
theorem dL_pricesSo_216 : decode cL_pricesSo 216 = .ok (.aload 8, 2) := by decide +kernel
theorem dL_pricesSo_218 : decode cL_pricesSo 218 = .ok (.iconst 1, 1) := by decide +kernel
theorem dL_pricesSo_219 : decode cL_pricesSo 219 = .ok (.iaload, 1) := by decide +kernel
theorem dL_pricesSo_220 : decode cL_pricesSo 220 = .ok (.iaload, 1) := by decide +kernel
theorem dL_pricesSo_221 : decode cL_pricesSo 221 = .ok (.aload 4, 2) := by decide +kernel
theorem dL_pricesSo_223 : decode cL_pricesSo 223 = .ok (.aload 8, 2) := by decide +kernel
theorem dL_pricesSo_225 : decode cL_pricesSo 225 = .ok (.iconst 0, 1) := by decide +kernel
theorem dL_pricesSo_226 : decode cL_pricesSo 226 = .ok (.iaload, 1) := by decide +kernel
theorem dL_pricesSo_227 : decode cL_pricesSo 227 = .ok (.iaload, 1) := by decide +kernel
theorem dL_pricesSo_228 : decode cL_pricesSo 228 = .ok (.aload 8, 2) := by decide +kernel
theorem dL_pricesSo_230 : decode cL_pricesSo 230 = .ok (.iconst 4, 1) := by decide +kernel
theorem dL_pricesSo_231 : decode cL_pricesSo 231 = .ok (.iaload, 1) := by decide +kernel
theorem dL_pricesSo_232 : decode cL_pricesSo 232 = .ok (.iadd, 1) := by decide +kernel
theorem dL_pricesSo_233 : decode cL_pricesSo 233 = .ok (.if_icmp .lt 7, 3) := by decide +kernel
theorem dL_pricesSo_236 : decode cL_pricesSo 236 = .ok (.iconst 1, 1) := by decide +kernel
theorem dL_pricesSo_237 : decode cL_pricesSo 237 = .ok (.goto 4, 3) := by decide +kernel
theorem dL_pricesSo_240 : decode cL_pricesSo 240 = .ok (.iconst 0, 1) := by decide +kernel
theorem dL_pricesSo_241 : decode cL_pricesSo 241 = .ok (.istore 6, 2) := by decide +kernel
theorem dL_pricesSo_243 : decode cL_pricesSo 243 = .ok (.iinc 7 1, 3) := by decide +kernel
theorem dL_pricesSo_246 : decode cL_pricesSo 246 = .ok (.goto (-154), 3) := by decide +kernel
theorem dL_pricesSo_249 : decode cL_pricesSo 249 = .ok (.iload 6, 2) := by decide +kernel
theorem dL_pricesSo_251 : decode cL_pricesSo 251 = .ok (.ireturn, 1) := by decide +kernel
theorem dL_roundsSo_0 : decode cL_roundsSo 0 = .ok (.aload_n 0, 1) := by decide +kernel
theorem dL_roundsSo_1 : decode cL_roundsSo 1 = .ok (.getfield 10, 3) := by decide +kernel
theorem dL_roundsSo_4 : decode cL_roundsSo 4 = .ok (.iconst 0, 1) := by decide +kernel
theorem dL_roundsSo_5 : decode cL_roundsSo 5 = .ok (.iload_n 1, 1) := by decide +kernel
theorem dL_roundsSo_6 : decode cL_roundsSo 6 = .ok (.iload_n 2, 1) := by decide +kernel
theorem dL_roundsSo_7 : decode cL_roundsSo 7 = .ok (.invokevirtual 158, 3) := by decide +kernel
theorem dL_roundsSo_10 : decode cL_roundsSo 10 = .ok (.istore 4, 2) := by decide +kernel
theorem dL_roundsSo_12 : decode cL_roundsSo 12 = .ok (.goto 7, 3) := by decide +kernel
theorem dL_roundsSo_15 : decode cL_roundsSo 15 = .ok (.astore 5, 2) := by decide +kernel
theorem dL_roundsSo_17 : decode cL_roundsSo 17 = .ok (.iconst 1, 1) := by decide +kernel
theorem dL_roundsSo_18 : decode cL_roundsSo 18 = .ok (.ireturn, 1) := by decide +kernel
theorem dL_roundsSo_19 : decode cL_roundsSo 19 = .ok (.iconst 0, 1) := by decide +kernel
theorem dL_roundsSo_20 : decode cL_roundsSo 20 = .ok (.istore 5, 2) := by decide +kernel
theorem dL_roundsSo_22 : decode cL_roundsSo 22 = .ok (.iconst 0, 1) := by decide +kernel
theorem dL_roundsSo_23 : decode cL_roundsSo 23 = .ok (.istore 6, 2) := by decide +kernel
theorem dL_roundsSo_25 : decode cL_roundsSo 25 = .ok (.iload 6, 2) := by decide +kernel
theorem dL_roundsSo_27 : decode cL_roundsSo 27 = .ok (.iload 4, 2) := by decide +kernel
theorem dL_roundsSo_29 : decode cL_roundsSo 29 = .ok (.if_icmp .ge 26, 3) := by decide +kernel
theorem dL_roundsSo_32 : decode cL_roundsSo 32 = .ok (.iload 5, 2) := by decide +kernel
theorem dL_roundsSo_34 : decode cL_roundsSo 34 = .ok (.aload_n 0, 1) := by decide +kernel
theorem dL_roundsSo_35 : decode cL_roundsSo 35 = .ok (.getfield 10, 3) := by decide +kernel
theorem dL_roundsSo_38 : decode cL_roundsSo 38 = .ok (.iconst 0, 1) := by decide +kernel
theorem dL_roundsSo_39 : decode cL_roundsSo 39 = .ok (.iload_n 1, 1) := by decide +kernel
theorem dL_roundsSo_40 : decode cL_roundsSo 40 = .ok (.iload_n 2, 1) := by decide +kernel
theorem dL_roundsSo_41 : decode cL_roundsSo 41 = .ok (.iload 6, 2) := by decide +kernel
theorem dL_roundsSo_43 : decode cL_roundsSo 43 = .ok (.invokevirtual 163, 3) := by decide +kernel
theorem dL_roundsSo_46 : decode cL_roundsSo 46 = .ok (.iadd, 1) := by decide +kernel
theorem dL_roundsSo_47 : decode cL_roundsSo 47 = .ok (.istore 5, 2) := by decide +kernel
theorem dL_roundsSo_49 : decode cL_roundsSo 49 = .ok (.iinc 6 1, 3) := by decide +kernel
theorem dL_roundsSo_52 : decode cL_roundsSo 52 = .ok (.goto (-27), 3) := by decide +kernel
theorem dL_roundsSo_55 : decode cL_roundsSo 55 = .ok (.iload 5, 2) := by decide +kernel
theorem dL_roundsSo_57 : decode cL_roundsSo 57 = .ok (.iload_n 3, 1) := by decide +kernel
theorem dL_roundsSo_58 : decode cL_roundsSo 58 = .ok (.if_icmp .ne 24, 3) := by decide +kernel
theorem dL_roundsSo_61 : decode cL_roundsSo 61 = .ok (.iload 4, 2) := by decide +kernel
theorem dL_roundsSo_63 : decode cL_roundsSo 63 = .ok (.aload_n 0, 1) := by decide +kernel
theorem dL_roundsSo_64 : decode cL_roundsSo 64 = .ok (.getfield 56, 3) := by decide +kernel
theorem dL_roundsSo_67 : decode cL_roundsSo 67 = .ok (.aload_n 0, 1) := by decide +kernel
theorem dL_roundsSo_68 : decode cL_roundsSo 68 = .ok (.getfield 19, 3) := by decide +kernel
theorem dL_roundsSo_71 : decode cL_roundsSo 71 = .ok (.invokevirtual 122, 3) := by decide +kernel
theorem dL_roundsSo_74 : decode cL_roundsSo 74 = .ok (.imul, 1) := by decide +kernel
theorem dL_roundsSo_75 : decode cL_roundsSo 75 = .ok (.if_icmp .gt 7, 3) := by decide +kernel
theorem dL_roundsSo_78 : decode cL_roundsSo 78 = .ok (.iconst 1, 1) := by decide +kernel
theorem dL_roundsSo_79 : decode cL_roundsSo 79 = .ok (.goto 4, 3) := by decide +kernel
theorem dL_roundsSo_82 : decode cL_roundsSo 82 = .ok (.iconst 0, 1) := by decide +kernel
theorem dL_roundsSo_83 : decode cL_roundsSo 83 = .ok (.ireturn, 1) := by decide +kernel
theorem dL_waysSo_0 : decode cL_waysSo 0 = .ok (.aload_n 0, 1) := by decide +kernel
theorem dL_waysSo_1 : decode cL_waysSo 1 = .ok (.aload_n 0, 1) := by decide +kernel
theorem dL_waysSo_2 : decode cL_waysSo 2 = .ok (.getfield 56, 3) := by decide +kernel
theorem dL_waysSo_5 : decode cL_waysSo 5 = .ok (.invokevirtual 52, 3) := by decide +kernel
theorem dL_waysSo_8 : decode cL_waysSo 8 = .ok (.istore_n 1, 1) := by decide +kernel
theorem dL_waysSo_9 : decode cL_waysSo 9 = .ok (.iload_n 1, 1) := by decide +kernel
theorem dL_waysSo_10 : decode cL_waysSo 10 = .ok (.iconst 1, 1) := by decide +kernel
theorem dL_waysSo_11 : decode cL_waysSo 11 = .ok (.iadd, 1) := by decide +kernel
theorem dL_waysSo_12 : decode cL_waysSo 12 = .ok (.aload_n 0, 1) := by decide +kernel
theorem dL_waysSo_13 : decode cL_waysSo 13 = .ok (.aload_n 0, 1) := by decide +kernel
theorem dL_waysSo_14 : decode cL_waysSo 14 = .ok (.getfield 56, 3) := by decide +kernel
theorem dL_waysSo_17 : decode cL_waysSo 17 = .ok (.iconst 1, 1) := by decide +kernel
theorem dL_waysSo_18 : decode cL_waysSo 18 = .ok (.isub, 1) := by decide +kernel
theorem dL_waysSo_19 : decode cL_waysSo 19 = .ok (.invokevirtual 52, 3) := by decide +kernel
theorem dL_waysSo_22 : decode cL_waysSo 22 = .ok (.iadd, 1) := by decide +kernel
theorem dL_waysSo_23 : decode cL_waysSo 23 = .ok (.aload_n 0, 1) := by decide +kernel
theorem dL_waysSo_24 : decode cL_waysSo 24 = .ok (.getfield 56, 3) := by decide +kernel
theorem dL_waysSo_27 : decode cL_waysSo 27 = .ok (.irem, 1) := by decide +kernel
theorem dL_waysSo_28 : decode cL_waysSo 28 = .ok (.istore_n 2, 1) := by decide +kernel
theorem dL_waysSo_29 : decode cL_waysSo 29 = .ok (.aload_n 0, 1) := by decide +kernel
theorem dL_waysSo_30 : decode cL_waysSo 30 = .ok (.getfield 10, 3) := by decide +kernel
theorem dL_waysSo_33 : decode cL_waysSo 33 = .ok (.iconst 0, 1) := by decide +kernel
theorem dL_waysSo_34 : decode cL_waysSo 34 = .ok (.iload_n 1, 1) := by decide +kernel
theorem dL_waysSo_35 : decode cL_waysSo 35 = .ok (.iload_n 2, 1) := by decide +kernel
theorem dL_waysSo_36 : decode cL_waysSo 36 = .ok (.invokevirtual 166, 3) := by decide +kernel
theorem dL_waysSo_39 : decode cL_waysSo 39 = .ok (.istore_n 3, 1) := by decide +kernel
theorem dL_waysSo_40 : decode cL_waysSo 40 = .ok (.aload_n 0, 1) := by decide +kernel
theorem dL_waysSo_41 : decode cL_waysSo 41 = .ok (.getfield 10, 3) := by decide +kernel
theorem dL_waysSo_44 : decode cL_waysSo 44 = .ok (.iconst 0, 1) := by decide +kernel
theorem dL_waysSo_45 : decode cL_waysSo 45 = .ok (.iload_n 1, 1) := by decide +kernel
theorem dL_waysSo_46 : decode cL_waysSo 46 = .ok (.iload_n 2, 1) := by decide +kernel
theorem dL_waysSo_47 : decode cL_waysSo 47 = .ok (.invokevirtual 169, 3) := by decide +kernel
theorem dL_waysSo_50 : decode cL_waysSo 50 = .ok (.istore 4, 2) := by decide +kernel
theorem dL_waysSo_52 : decode cL_waysSo 52 = .ok (.iload_n 3, 1) := by decide +kernel
theorem dL_waysSo_53 : decode cL_waysSo 53 = .ok (.iload 4, 2) := by decide +kernel
theorem dL_waysSo_55 : decode cL_waysSo 55 = .ok (.if_icmp .gt 7, 3) := by decide +kernel
theorem dL_waysSo_58 : decode cL_waysSo 58 = .ok (.iconst 1, 1) := by decide +kernel
theorem dL_waysSo_59 : decode cL_waysSo 59 = .ok (.goto 4, 3) := by decide +kernel
theorem dL_waysSo_62 : decode cL_waysSo 62 = .ok (.iconst 0, 1) := by decide +kernel
theorem dL_waysSo_63 : decode cL_waysSo 63 = .ok (.istore 5, 2) := by decide +kernel
theorem dL_waysSo_65 : decode cL_waysSo 65 = .ok (.iload 5, 2) := by decide +kernel
theorem dL_waysSo_67 : decode cL_waysSo 67 = .ok (.ifCond .eq 24, 3) := by decide +kernel
theorem dL_waysSo_70 : decode cL_waysSo 70 = .ok (.aload_n 0, 1) := by decide +kernel
theorem dL_waysSo_71 : decode cL_waysSo 71 = .ok (.getfield 10, 3) := by decide +kernel
theorem dL_waysSo_74 : decode cL_waysSo 74 = .ok (.iconst 0, 1) := by decide +kernel
theorem dL_waysSo_75 : decode cL_waysSo 75 = .ok (.iload_n 1, 1) := by decide +kernel
theorem dL_waysSo_76 : decode cL_waysSo 76 = .ok (.iload_n 2, 1) := by decide +kernel
theorem dL_waysSo_77 : decode cL_waysSo 77 = .ok (.invokevirtual 172, 3) := by decide +kernel
theorem dL_waysSo_80 : decode cL_waysSo 80 = .ok (.invokestatic 175, 3) := by decide +kernel
theorem dL_waysSo_83 : decode cL_waysSo 83 = .ok (.iload_n 3, 1) := by decide +kernel
theorem dL_waysSo_84 : decode cL_waysSo 84 = .ok (.if_icmp .ne 7, 3) := by decide +kernel
theorem dL_waysSo_87 : decode cL_waysSo 87 = .ok (.iconst 1, 1) := by decide +kernel
theorem dL_waysSo_88 : decode cL_waysSo 88 = .ok (.goto 4, 3) := by decide +kernel
theorem dL_waysSo_91 : decode cL_waysSo 91 = .ok (.iconst 0, 1) := by decide +kernel
theorem dL_waysSo_92 : decode cL_waysSo 92 = .ok (.istore 5, 2) := by decide +kernel
theorem dL_waysSo_94 : decode cL_waysSo 94 = .ok (.goto 21, 3) := by decide +kernel
theorem dL_waysSo_97 : decode cL_waysSo 97 = .ok (.astore 6, 2) := by decide +kernel
theorem dL_waysSo_99 : decode cL_waysSo 99 = .ok (.iload 5, 2) := by decide +kernel
theorem dL_waysSo_101 : decode cL_waysSo 101 = .ok (.ifCond .eq 11, 3) := by decide +kernel
theorem dL_waysSo_104 : decode cL_waysSo 104 = .ok (.iload_n 3, 1) := by decide +kernel
theorem dL_waysSo_105 : decode cL_waysSo 105 = .ok (.ifCond .le 7, 3) := by decide +kernel
theorem dL_waysSo_108 : decode cL_waysSo 108 = .ok (.iconst 1, 1) := by decide +kernel
theorem dL_waysSo_109 : decode cL_waysSo 109 = .ok (.goto 4, 3) := by decide +kernel
theorem dL_waysSo_112 : decode cL_waysSo 112 = .ok (.iconst 0, 1) := by decide +kernel
theorem dL_waysSo_113 : decode cL_waysSo 113 = .ok (.istore 5, 2) := by decide +kernel
theorem dL_waysSo_115 : decode cL_waysSo 115 = .ok (.aload_n 0, 1) := by decide +kernel
theorem dL_waysSo_116 : decode cL_waysSo 116 = .ok (.iconst 5, 1) := by decide +kernel
theorem dL_waysSo_117 : decode cL_waysSo 117 = .ok (.invokevirtual 52, 3) := by decide +kernel
theorem dL_waysSo_120 : decode cL_waysSo 120 = .ok (.istore 6, 2) := by decide +kernel
theorem dL_waysSo_122 : decode cL_waysSo 122 = .ok (.aload_n 0, 1) := by decide +kernel
theorem dL_waysSo_123 : decode cL_waysSo 123 = .ok (.getfield 10, 3) := by decide +kernel
theorem dL_waysSo_126 : decode cL_waysSo 126 = .ok (.iconst 0, 1) := by decide +kernel
theorem dL_waysSo_127 : decode cL_waysSo 127 = .ok (.iload_n 1, 1) := by decide +kernel
theorem dL_waysSo_128 : decode cL_waysSo 128 = .ok (.iload_n 2, 1) := by decide +kernel
theorem dL_waysSo_129 : decode cL_waysSo 129 = .ok (.iload 6, 2) := by decide +kernel
theorem dL_waysSo_131 : decode cL_waysSo 131 = .ok (.invokevirtual 180, 3) := by decide +kernel
theorem dL_waysSo_134 : decode cL_waysSo 134 = .ok (.istore 7, 2) := by decide +kernel
theorem dL_waysSo_136 : decode cL_waysSo 136 = .ok (.iload 5, 2) := by decide +kernel
theorem dL_waysSo_138 : decode cL_waysSo 138 = .ok (.ifCond .eq 40, 3) := by decide +kernel
theorem dL_waysSo_141 : decode cL_waysSo 141 = .ok (.iload 7, 2) := by decide +kernel
theorem dL_waysSo_143 : decode cL_waysSo 143 = .ok (.aload_n 0, 1) := by decide +kernel
theorem dL_waysSo_144 : decode cL_waysSo 144 = .ok (.getfield 10, 3) := by decide +kernel
theorem dL_waysSo_147 : decode cL_waysSo 147 = .ok (.iconst 0, 1) := by decide +kernel
theorem dL_waysSo_148 : decode cL_waysSo 148 = .ok (.iload_n 1, 1) := by decide +kernel
theorem dL_waysSo_149 : decode cL_waysSo 149 = .ok (.iload_n 2, 1) := by decide +kernel
theorem dL_waysSo_150 : decode cL_waysSo 150 = .ok (.iload 6, 2) := by decide +kernel
theorem dL_waysSo_152 : decode cL_waysSo 152 = .ok (.iconst 1, 1) := by decide +kernel
theorem dL_waysSo_153 : decode cL_waysSo 153 = .ok (.iadd, 1) := by decide +kernel
theorem dL_waysSo_154 : decode cL_waysSo 154 = .ok (.invokevirtual 180, 3) := by decide +kernel
theorem dL_waysSo_157 : decode cL_waysSo 157 = .ok (.if_icmp .gt 21, 3) := by decide +kernel
theorem dL_waysSo_160 : decode cL_waysSo 160 = .ok (.aload_n 0, 1) := by decide +kernel
theorem dL_waysSo_161 : decode cL_waysSo 161 = .ok (.getfield 10, 3) := by decide +kernel
theorem dL_waysSo_164 : decode cL_waysSo 164 = .ok (.iconst 0, 1) := by decide +kernel
theorem dL_waysSo_165 : decode cL_waysSo 165 = .ok (.iload_n 1, 1) := by decide +kernel
theorem dL_waysSo_166 : decode cL_waysSo 166 = .ok (.iload_n 2, 1) := by decide +kernel
theorem dL_waysSo_167 : decode cL_waysSo 167 = .ok (.iconst 0, 1) := by decide +kernel
theorem dL_waysSo_168 : decode cL_waysSo 168 = .ok (.invokevirtual 180, 3) := by decide +kernel
theorem dL_waysSo_171 : decode cL_waysSo 171 = .ok (.ifCond .ne 7, 3) := by decide +kernel
theorem dL_waysSo_174 : decode cL_waysSo 174 = .ok (.iconst 1, 1) := by decide +kernel
theorem dL_waysSo_175 : decode cL_waysSo 175 = .ok (.goto 4, 3) := by decide +kernel
theorem dL_waysSo_178 : decode cL_waysSo 178 = .ok (.iconst 0, 1) := by decide +kernel
theorem dL_waysSo_179 : decode cL_waysSo 179 = .ok (.ireturn, 1) := by decide +kernel
theorem dL_isNear_0 : decode cL_isNear 0 = .ok (.bipush 10, 2) := by decide +kernel
theorem dL_isNear_2 : decode cL_isNear 2 = .ok (.iload_n 0, 1) := by decide +kernel
theorem dL_isNear_3 : decode cL_isNear 3 = .ok (.imul, 1) := by decide +kernel
theorem dL_isNear_4 : decode cL_isNear 4 = .ok (.iload_n 1, 1) := by decide +kernel
theorem dL_isNear_5 : decode cL_isNear 5 = .ok (.bipush 10, 2) := by decide +kernel
theorem dL_isNear_7 : decode cL_isNear 7 = .ok (.isub, 1) := by decide +kernel
theorem dL_isNear_8 : decode cL_isNear 8 = .ok (.if_icmp .le 18, 3) := by decide +kernel
theorem dL_isNear_11 : decode cL_isNear 11 = .ok (.bipush 10, 2) := by decide +kernel
theorem dL_isNear_13 : decode cL_isNear 13 = .ok (.iload_n 0, 1) := by decide +kernel
theorem dL_isNear_14 : decode cL_isNear 14 = .ok (.imul, 1) := by decide +kernel
theorem dL_isNear_15 : decode cL_isNear 15 = .ok (.iload_n 1, 1) := by decide +kernel
theorem dL_isNear_16 : decode cL_isNear 16 = .ok (.bipush 10, 2) := by decide +kernel
theorem dL_isNear_18 : decode cL_isNear 18 = .ok (.iadd, 1) := by decide +kernel
theorem dL_isNear_19 : decode cL_isNear 19 = .ok (.if_icmp .ge 7, 3) := by decide +kernel
theorem dL_isNear_22 : decode cL_isNear 22 = .ok (.iconst 1, 1) := by decide +kernel
theorem dL_isNear_23 : decode cL_isNear 23 = .ok (.goto 4, 3) := by decide +kernel
theorem dL_isNear_26 : decode cL_isNear 26 = .ok (.iconst 0, 1) := by decide +kernel
theorem dL_isNear_27 : decode cL_isNear 27 = .ok (.ireturn, 1) := by decide +kernel
theorem dL_refusedSo_0 : decode cL_refusedSo 0 = .ok (.aload_n 0, 1) := by decide +kernel
theorem dL_refusedSo_1 : decode cL_refusedSo 1 = .ok (.getfield 10, 3) := by decide +kernel
theorem dL_refusedSo_4 : decode cL_refusedSo 4 = .ok (.iconst 0, 1) := by decide +kernel
theorem dL_refusedSo_5 : decode cL_refusedSo 5 = .ok (.invokevirtual 238, 3) := by decide +kernel
theorem dL_refusedSo_8 : decode cL_refusedSo 8 = .ok (.lstore_n 1, 1) := by decide +kernel
theorem dL_refusedSo_9 : decode cL_refusedSo 9 = .ok (.iconst 0, 1) := by decide +kernel
theorem dL_refusedSo_10 : decode cL_refusedSo 10 = .ok (.istore_n 3, 1) := by decide +kernel
theorem dL_refusedSo_11 : decode cL_refusedSo 11 = .ok (.iconst 0, 1) := by decide +kernel
theorem dL_refusedSo_12 : decode cL_refusedSo 12 = .ok (.istore 4, 2) := by decide +kernel
theorem dL_refusedSo_14 : decode cL_refusedSo 14 = .ok (.iload 4, 2) := by decide +kernel
theorem dL_refusedSo_16 : decode cL_refusedSo 16 = .ok (.bipush 6, 2) := by decide +kernel
theorem dL_refusedSo_18 : decode cL_refusedSo 18 = .ok (.if_icmp .ge 131, 3) := by decide +kernel
theorem dL_refusedSo_21 : decode cL_refusedSo 21 = .ok (.iload 4, 2) := by decide +kernel
theorem dL_refusedSo_23 : decode cL_refusedSo 23 = .ok (.ifCond .ne 15, 3) := by decide +kernel
theorem dL_refusedSo_26 : decode cL_refusedSo 26 = .ok (.aload_n 0, 1) := by decide +kernel
theorem dL_refusedSo_27 : decode cL_refusedSo 27 = .ok (.getfield 10, 3) := by decide +kernel
theorem dL_refusedSo_30 : decode cL_refusedSo 30 = .ok (.bipush 9, 2) := by decide +kernel
theorem dL_refusedSo_32 : decode cL_refusedSo 32 = .ok (.invokevirtual 59, 3) := by decide +kernel
theorem dL_refusedSo_35 : decode cL_refusedSo 35 = .ok (.goto 98, 3) := by decide +kernel
theorem dL_refusedSo_38 : decode cL_refusedSo 38 = .ok (.iload 4, 2) := by decide +kernel
theorem dL_refusedSo_40 : decode cL_refusedSo 40 = .ok (.iconst 1, 1) := by decide +kernel
theorem dL_refusedSo_41 : decode cL_refusedSo 41 = .ok (.if_icmp .ne 19, 3) := by decide +kernel
theorem dL_refusedSo_44 : decode cL_refusedSo 44 = .ok (.aload_n 0, 1) := by decide +kernel
theorem dL_refusedSo_45 : decode cL_refusedSo 45 = .ok (.getfield 10, 3) := by decide +kernel
theorem dL_refusedSo_48 : decode cL_refusedSo 48 = .ok (.iconst 0, 1) := by decide +kernel
theorem dL_refusedSo_49 : decode cL_refusedSo 49 = .ok (.iconst 0, 1) := by decide +kernel
theorem dL_refusedSo_50 : decode cL_refusedSo 50 = .ok (.iconst 0, 1) := by decide +kernel
theorem dL_refusedSo_51 : decode cL_refusedSo 51 = .ok (.iconst 0, 1) := by decide +kernel
theorem dL_refusedSo_52 : decode cL_refusedSo 52 = .ok (.iconst 1, 1) := by decide +kernel
theorem dL_refusedSo_53 : decode cL_refusedSo 53 = .ok (.iconst 0, 1) := by decide +kernel
theorem dL_refusedSo_54 : decode cL_refusedSo 54 = .ok (.invokevirtual 62, 3) := by decide +kernel
theorem dL_refusedSo_57 : decode cL_refusedSo 57 = .ok (.goto 76, 3) := by decide +kernel
theorem dL_refusedSo_60 : decode cL_refusedSo 60 = .ok (.iload 4, 2) := by decide +kernel
theorem dL_refusedSo_62 : decode cL_refusedSo 62 = .ok (.iconst 2, 1) := by decide +kernel
theorem dL_refusedSo_63 : decode cL_refusedSo 63 = .ok (.if_icmp .ne 19, 3) := by decide +kernel
theorem dL_refusedSo_66 : decode cL_refusedSo 66 = .ok (.aload_n 0, 1) := by decide +kernel
theorem dL_refusedSo_67 : decode cL_refusedSo 67 = .ok (.getfield 10, 3) := by decide +kernel
theorem dL_refusedSo_70 : decode cL_refusedSo 70 = .ok (.iconst 0, 1) := by decide +kernel
theorem dL_refusedSo_71 : decode cL_refusedSo 71 = .ok (.iconst 0, 1) := by decide +kernel
theorem dL_refusedSo_72 : decode cL_refusedSo 72 = .ok (.iconst 1, 1) := by decide +kernel
theorem dL_refusedSo_73 : decode cL_refusedSo 73 = .ok (.iconst 2, 1) := by decide +kernel
theorem dL_refusedSo_74 : decode cL_refusedSo 74 = .ok (.iconst 1, 1) := by decide +kernel
theorem dL_refusedSo_75 : decode cL_refusedSo 75 = .ok (.iconst 0, 1) := by decide +kernel
theorem dL_refusedSo_76 : decode cL_refusedSo 76 = .ok (.invokevirtual 62, 3) := by decide +kernel
theorem dL_refusedSo_79 : decode cL_refusedSo 79 = .ok (.goto 54, 3) := by decide +kernel
theorem dL_refusedSo_82 : decode cL_refusedSo 82 = .ok (.iload 4, 2) := by decide +kernel
theorem dL_refusedSo_84 : decode cL_refusedSo 84 = .ok (.iconst 3, 1) := by decide +kernel
theorem dL_refusedSo_85 : decode cL_refusedSo 85 = .ok (.if_icmp .ne 19, 3) := by decide +kernel
theorem dL_refusedSo_88 : decode cL_refusedSo 88 = .ok (.aload_n 0, 1) := by decide +kernel
theorem dL_refusedSo_89 : decode cL_refusedSo 89 = .ok (.getfield 10, 3) := by decide +kernel
theorem dL_refusedSo_92 : decode cL_refusedSo 92 = .ok (.iconst 0, 1) := by decide +kernel
theorem dL_refusedSo_93 : decode cL_refusedSo 93 = .ok (.bipush 16, 2) := by decide +kernel
theorem dL_refusedSo_95 : decode cL_refusedSo 95 = .ok (.iconst 0, 1) := by decide +kernel
theorem dL_refusedSo_96 : decode cL_refusedSo 96 = .ok (.iconst 1, 1) := by decide +kernel
theorem dL_refusedSo_97 : decode cL_refusedSo 97 = .ok (.iconst 0, 1) := by decide +kernel
theorem dL_refusedSo_98 : decode cL_refusedSo 98 = .ok (.invokevirtual 242, 3) := by decide +kernel
theorem dL_refusedSo_101 : decode cL_refusedSo 101 = .ok (.goto 32, 3) := by decide +kernel
theorem dL_refusedSo_104 : decode cL_refusedSo 104 = .ok (.iload 4, 2) := by decide +kernel
theorem dL_refusedSo_106 : decode cL_refusedSo 106 = .ok (.iconst 4, 1) := by decide +kernel
theorem dL_refusedSo_107 : decode cL_refusedSo 107 = .ok (.if_icmp .ne 16, 3) := by decide +kernel
theorem dL_refusedSo_110 : decode cL_refusedSo 110 = .ok (.aload_n 0, 1) := by decide +kernel
theorem dL_refusedSo_111 : decode cL_refusedSo 111 = .ok (.getfield 10, 3) := by decide +kernel
theorem dL_refusedSo_114 : decode cL_refusedSo 114 = .ok (.iconst 1, 1) := by decide +kernel
theorem dL_refusedSo_115 : decode cL_refusedSo 115 = .ok (.iconst 0, 1) := by decide +kernel
theorem dL_refusedSo_116 : decode cL_refusedSo 116 = .ok (.iconst 0, 1) := by decide +kernel
theorem dL_refusedSo_117 : decode cL_refusedSo 117 = .ok (.invokevirtual 183, 3) := by decide +kernel
theorem dL_refusedSo_120 : decode cL_refusedSo 120 = .ok (.goto 13, 3) := by decide +kernel
theorem dL_refusedSo_123 : decode cL_refusedSo 123 = .ok (.aload_n 0, 1) := by decide +kernel
theorem dL_refusedSo_124 : decode cL_refusedSo 124 = .ok (.getfield 10, 3) := by decide +kernel
theorem dL_refusedSo_127 : decode cL_refusedSo 127 = .ok (.bipush 8, 2) := by decide +kernel
theorem dL_refusedSo_129 : decode cL_refusedSo 129 = .ok (.iconst 0, 1) := by decide +kernel
theorem dL_refusedSo_130 : decode cL_refusedSo 130 = .ok (.invokevirtual 207, 3) := by decide +kernel
theorem dL_refusedSo_133 : decode cL_refusedSo 133 = .ok (.istore 5, 2) := by decide +kernel
theorem dL_refusedSo_135 : decode cL_refusedSo 135 = .ok (.goto 8, 3) := by decide +kernel
theorem dL_refusedSo_138 : decode cL_refusedSo 138 = .ok (.astore 5, 2) := by decide +kernel
theorem dL_refusedSo_140 : decode cL_refusedSo 140 = .ok (.iinc 3 1, 3) := by decide +kernel
theorem dL_refusedSo_143 : decode cL_refusedSo 143 = .ok (.iinc 4 1, 3) := by decide +kernel
theorem dL_refusedSo_146 : decode cL_refusedSo 146 = .ok (.goto (-132), 3) := by decide +kernel
theorem dL_refusedSo_149 : decode cL_refusedSo 149 = .ok (.iload_n 3, 1) := by decide +kernel
theorem dL_refusedSo_150 : decode cL_refusedSo 150 = .ok (.bipush 6, 2) := by decide +kernel
theorem dL_refusedSo_152 : decode cL_refusedSo 152 = .ok (.if_icmp .ne 20, 3) := by decide +kernel
theorem dL_refusedSo_155 : decode cL_refusedSo 155 = .ok (.aload_n 0, 1) := by decide +kernel
theorem dL_refusedSo_156 : decode cL_refusedSo 156 = .ok (.getfield 10, 3) := by decide +kernel
theorem dL_refusedSo_159 : decode cL_refusedSo 159 = .ok (.iconst 0, 1) := by decide +kernel
theorem dL_refusedSo_160 : decode cL_refusedSo 160 = .ok (.invokevirtual 238, 3) := by decide +kernel
theorem dL_refusedSo_163 : decode cL_refusedSo 163 = .ok (.lload_n 1, 1) := by decide +kernel
theorem dL_refusedSo_164 : decode cL_refusedSo 164 = .ok (.lcmp, 1) := by decide +kernel
theorem dL_refusedSo_165 : decode cL_refusedSo 165 = .ok (.ifCond .ne 7, 3) := by decide +kernel
theorem dL_refusedSo_168 : decode cL_refusedSo 168 = .ok (.iconst 1, 1) := by decide +kernel
theorem dL_refusedSo_169 : decode cL_refusedSo 169 = .ok (.goto 4, 3) := by decide +kernel
theorem dL_refusedSo_172 : decode cL_refusedSo 172 = .ok (.iconst 0, 1) := by decide +kernel
theorem dL_refusedSo_173 : decode cL_refusedSo 173 = .ok (.ireturn, 1) := by decide +kernel
theorem dL_holdsAll_0 : decode cL_holdsAll 0 = .ok (.aload_n 0, 1) := by decide +kernel
theorem dL_holdsAll_1 : decode cL_holdsAll 1 = .ok (.aload_n 1, 1) := by decide +kernel
theorem dL_holdsAll_2 : decode cL_holdsAll 2 = .ok (.putfield 28, 3) := by decide +kernel
theorem dL_holdsAll_5 : decode cL_holdsAll 5 = .ok (.aload_n 0, 1) := by decide +kernel
theorem dL_holdsAll_6 : decode cL_holdsAll 6 = .ok (.invokevirtual 250, 3) := by decide +kernel
theorem dL_holdsAll_9 : decode cL_holdsAll 9 = .ok (.aload_n 0, 1) := by decide +kernel
theorem dL_holdsAll_10 : decode cL_holdsAll 10 = .ok (.invokevirtual 253, 3) := by decide +kernel
theorem dL_holdsAll_13 : decode cL_holdsAll 13 = .ok (.istore_n 2, 1) := by decide +kernel
theorem dL_holdsAll_14 : decode cL_holdsAll 14 = .ok (.aload_n 0, 1) := by decide +kernel
theorem dL_holdsAll_15 : decode cL_holdsAll 15 = .ok (.iconst 4, 1) := by decide +kernel
theorem dL_holdsAll_16 : decode cL_holdsAll 16 = .ok (.invokevirtual 52, 3) := by decide +kernel
theorem dL_holdsAll_19 : decode cL_holdsAll 19 = .ok (.istore_n 3, 1) := by decide +kernel
theorem dL_holdsAll_20 : decode cL_holdsAll 20 = .ok (.iload_n 3, 1) := by decide +kernel
theorem dL_holdsAll_21 : decode cL_holdsAll 21 = .ok (.ifCond .le 72, 3) := by decide +kernel
theorem dL_holdsAll_24 : decode cL_holdsAll 24 = .ok (.aload_n 0, 1) := by decide +kernel
theorem dL_holdsAll_25 : decode cL_holdsAll 25 = .ok (.getfield 10, 3) := by decide +kernel
theorem dL_holdsAll_28 : decode cL_holdsAll 28 = .ok (.aload_n 0, 1) := by decide +kernel
theorem dL_holdsAll_29 : decode cL_holdsAll 29 = .ok (.bipush 20, 2) := by decide +kernel
theorem dL_holdsAll_31 : decode cL_holdsAll 31 = .ok (.invokevirtual 52, 3) := by decide +kernel
theorem dL_holdsAll_34 : decode cL_holdsAll 34 = .ok (.invokevirtual 256, 3) := by decide +kernel
theorem dL_holdsAll_37 : decode cL_holdsAll 37 = .ok (.pop, 1) := by decide +kernel
theorem dL_holdsAll_38 : decode cL_holdsAll 38 = .ok (.aload_n 0, 1) := by decide +kernel
theorem dL_holdsAll_39 : decode cL_holdsAll 39 = .ok (.getfield 10, 3) := by decide +kernel
theorem dL_holdsAll_42 : decode cL_holdsAll 42 = .ok (.aload_n 0, 1) := by decide +kernel
theorem dL_holdsAll_43 : decode cL_holdsAll 43 = .ok (.bipush 40, 2) := by decide +kernel
theorem dL_holdsAll_45 : decode cL_holdsAll 45 = .ok (.invokevirtual 52, 3) := by decide +kernel
theorem dL_holdsAll_48 : decode cL_holdsAll 48 = .ok (.aload_n 0, 1) := by decide +kernel
theorem dL_holdsAll_49 : decode cL_holdsAll 49 = .ok (.sipush 256, 3) := by decide +kernel
theorem dL_holdsAll_52 : decode cL_holdsAll 52 = .ok (.invokevirtual 52, 3) := by decide +kernel
theorem dL_holdsAll_55 : decode cL_holdsAll 55 = .ok (.aload_n 0, 1) := by decide +kernel
theorem dL_holdsAll_56 : decode cL_holdsAll 56 = .ok (.sipush 256, 3) := by decide +kernel
theorem dL_holdsAll_59 : decode cL_holdsAll 59 = .ok (.invokevirtual 52, 3) := by decide +kernel
theorem dL_holdsAll_62 : decode cL_holdsAll 62 = .ok (.iand, 1) := by decide +kernel
theorem dL_holdsAll_63 : decode cL_holdsAll 63 = .ok (.invokevirtual 259, 3) := by decide +kernel
theorem dL_holdsAll_66 : decode cL_holdsAll 66 = .ok (.pop, 1) := by decide +kernel
theorem dL_holdsAll_67 : decode cL_holdsAll 67 = .ok (.aload_n 0, 1) := by decide +kernel
theorem dL_holdsAll_68 : decode cL_holdsAll 68 = .ok (.getfield 10, 3) := by decide +kernel
theorem dL_holdsAll_71 : decode cL_holdsAll 71 = .ok (.aload_n 0, 1) := by decide +kernel
theorem dL_holdsAll_72 : decode cL_holdsAll 72 = .ok (.bipush 8, 2) := by decide +kernel
theorem dL_holdsAll_74 : decode cL_holdsAll 74 = .ok (.invokevirtual 52, 3) := by decide +kernel
theorem dL_holdsAll_77 : decode cL_holdsAll 77 = .ok (.aload_n 0, 1) := by decide +kernel
theorem dL_holdsAll_78 : decode cL_holdsAll 78 = .ok (.bipush 20, 2) := by decide +kernel
theorem dL_holdsAll_80 : decode cL_holdsAll 80 = .ok (.invokevirtual 52, 3) := by decide +kernel
theorem dL_holdsAll_83 : decode cL_holdsAll 83 = .ok (.invokevirtual 262, 3) := by decide +kernel
theorem dL_holdsAll_86 : decode cL_holdsAll 86 = .ok (.pop, 1) := by decide +kernel
theorem dL_holdsAll_87 : decode cL_holdsAll 87 = .ok (.iinc 3 (-1), 3) := by decide +kernel
theorem dL_holdsAll_90 : decode cL_holdsAll 90 = .ok (.goto (-70), 3) := by decide +kernel
theorem dL_holdsAll_93 : decode cL_holdsAll 93 = .ok (.iconst 5, 1) := by decide +kernel
theorem dL_holdsAll_94 : decode cL_holdsAll 94 = .ok (.aload_n 0, 1) := by decide +kernel
theorem dL_holdsAll_95 : decode cL_holdsAll 95 = .ok (.bipush 6, 2) := by decide +kernel
theorem dL_holdsAll_97 : decode cL_holdsAll 97 = .ok (.invokevirtual 52, 3) := by decide +kernel
theorem dL_holdsAll_100 : decode cL_holdsAll 100 = .ok (.iadd, 1) := by decide +kernel
theorem dL_holdsAll_101 : decode cL_holdsAll 101 = .ok (.istore_n 3, 1) := by decide +kernel
theorem dL_holdsAll_102 : decode cL_holdsAll 102 = .ok (.iload_n 3, 1) := by decide +kernel
theorem dL_holdsAll_103 : decode cL_holdsAll 103 = .ok (.ifCond .le 107, 3) := by decide +kernel
theorem dL_holdsAll_106 : decode cL_holdsAll 106 = .ok (.iload_n 2, 1) := by decide +kernel
theorem dL_holdsAll_107 : decode cL_holdsAll 107 = .ok (.ifCond .eq 103, 3) := by decide +kernel
theorem dL_holdsAll_110 : decode cL_holdsAll 110 = .ok (.aload_n 0, 1) := by decide +kernel
theorem dL_holdsAll_111 : decode cL_holdsAll 111 = .ok (.bipush 10, 2) := by decide +kernel
theorem dL_holdsAll_113 : decode cL_holdsAll 113 = .ok (.invokevirtual 52, 3) := by decide +kernel
theorem dL_holdsAll_116 : decode cL_holdsAll 116 = .ok (.istore 4, 2) := by decide +kernel
theorem dL_holdsAll_118 : decode cL_holdsAll 118 = .ok (.iload 4, 2) := by decide +kernel
theorem dL_holdsAll_120 : decode cL_holdsAll 120 = .ok (.iconst 4, 1) := by decide +kernel
theorem dL_holdsAll_121 : decode cL_holdsAll 121 = .ok (.if_icmp .ge 10, 3) := by decide +kernel
theorem dL_holdsAll_124 : decode cL_holdsAll 124 = .ok (.aload_n 0, 1) := by decide +kernel
theorem dL_holdsAll_125 : decode cL_holdsAll 125 = .ok (.invokevirtual 265, 3) := by decide +kernel
theorem dL_holdsAll_128 : decode cL_holdsAll 128 = .ok (.goto 75, 3) := by decide +kernel
theorem dL_holdsAll_131 : decode cL_holdsAll 131 = .ok (.iload 4, 2) := by decide +kernel
theorem dL_holdsAll_133 : decode cL_holdsAll 133 = .ok (.iconst 4, 1) := by decide +kernel
theorem dL_holdsAll_134 : decode cL_holdsAll 134 = .ok (.if_icmp .ne 10, 3) := by decide +kernel
theorem dL_holdsAll_137 : decode cL_holdsAll 137 = .ok (.aload_n 0, 1) := by decide +kernel
theorem dL_holdsAll_138 : decode cL_holdsAll 138 = .ok (.invokevirtual 268, 3) := by decide +kernel
theorem dL_holdsAll_141 : decode cL_holdsAll 141 = .ok (.goto 62, 3) := by decide +kernel
theorem dL_holdsAll_144 : decode cL_holdsAll 144 = .ok (.iload 4, 2) := by decide +kernel
theorem dL_holdsAll_146 : decode cL_holdsAll 146 = .ok (.iconst 5, 1) := by decide +kernel
theorem dL_holdsAll_147 : decode cL_holdsAll 147 = .ok (.if_icmp .ne 10, 3) := by decide +kernel
theorem dL_holdsAll_150 : decode cL_holdsAll 150 = .ok (.aload_n 0, 1) := by decide +kernel
theorem dL_holdsAll_151 : decode cL_holdsAll 151 = .ok (.invokevirtual 271, 3) := by decide +kernel
theorem dL_holdsAll_154 : decode cL_holdsAll 154 = .ok (.goto 49, 3) := by decide +kernel
theorem dL_holdsAll_157 : decode cL_holdsAll 157 = .ok (.iload 4, 2) := by decide +kernel
theorem dL_holdsAll_159 : decode cL_holdsAll 159 = .ok (.bipush 6, 2) := by decide +kernel
theorem dL_holdsAll_161 : decode cL_holdsAll 161 = .ok (.if_icmp .ne 10, 3) := by decide +kernel
theorem dL_holdsAll_164 : decode cL_holdsAll 164 = .ok (.aload_n 0, 1) := by decide +kernel
theorem dL_holdsAll_165 : decode cL_holdsAll 165 = .ok (.invokevirtual 274, 3) := by decide +kernel
theorem dL_holdsAll_168 : decode cL_holdsAll 168 = .ok (.goto 35, 3) := by decide +kernel
theorem dL_holdsAll_171 : decode cL_holdsAll 171 = .ok (.iload 4, 2) := by decide +kernel
theorem dL_holdsAll_173 : decode cL_holdsAll 173 = .ok (.bipush 7, 2) := by decide +kernel
theorem dL_holdsAll_175 : decode cL_holdsAll 175 = .ok (.if_icmp .ne 10, 3) := by decide +kernel
theorem dL_holdsAll_178 : decode cL_holdsAll 178 = .ok (.aload_n 0, 1) := by decide +kernel
theorem dL_holdsAll_179 : decode cL_holdsAll 179 = .ok (.invokevirtual 277, 3) := by decide +kernel
theorem dL_holdsAll_182 : decode cL_holdsAll 182 = .ok (.goto 21, 3) := by decide +kernel
theorem dL_holdsAll_185 : decode cL_holdsAll 185 = .ok (.iload 4, 2) := by decide +kernel
theorem dL_holdsAll_187 : decode cL_holdsAll 187 = .ok (.bipush 8, 2) := by decide +kernel
theorem dL_holdsAll_189 : decode cL_holdsAll 189 = .ok (.if_icmp .ne 10, 3) := by decide +kernel
theorem dL_holdsAll_192 : decode cL_holdsAll 192 = .ok (.aload_n 0, 1) := by decide +kernel
theorem dL_holdsAll_193 : decode cL_holdsAll 193 = .ok (.invokevirtual 280, 3) := by decide +kernel
theorem dL_holdsAll_196 : decode cL_holdsAll 196 = .ok (.goto 7, 3) := by decide +kernel
theorem dL_holdsAll_199 : decode cL_holdsAll 199 = .ok (.aload_n 0, 1) := by decide +kernel
theorem dL_holdsAll_200 : decode cL_holdsAll 200 = .ok (.invokevirtual 253, 3) := by decide +kernel
theorem dL_holdsAll_203 : decode cL_holdsAll 203 = .ok (.istore_n 2, 1) := by decide +kernel
theorem dL_holdsAll_204 : decode cL_holdsAll 204 = .ok (.iinc 3 (-1), 3) := by decide +kernel
theorem dL_holdsAll_207 : decode cL_holdsAll 207 = .ok (.goto (-105), 3) := by decide +kernel
theorem dL_holdsAll_210 : decode cL_holdsAll 210 = .ok (.iload_n 2, 1) := by decide +kernel
theorem dL_holdsAll_211 : decode cL_holdsAll 211 = .ok (.ifCond .eq 24, 3) := by decide +kernel
theorem dL_holdsAll_214 : decode cL_holdsAll 214 = .ok (.aload_n 0, 1) := by decide +kernel
theorem dL_holdsAll_215 : decode cL_holdsAll 215 = .ok (.invokevirtual 265, 3) := by decide +kernel
theorem dL_holdsAll_218 : decode cL_holdsAll 218 = .ok (.ifCond .eq 17, 3) := by decide +kernel
theorem dL_holdsAll_221 : decode cL_holdsAll 221 = .ok (.aload_n 0, 1) := by decide +kernel
theorem dL_holdsAll_222 : decode cL_holdsAll 222 = .ok (.getfield 10, 3) := by decide +kernel
theorem dL_holdsAll_225 : decode cL_holdsAll 225 = .ok (.invokevirtual 283, 3) := by decide +kernel
theorem dL_holdsAll_228 : decode cL_holdsAll 228 = .ok (.ifCond .eq 7, 3) := by decide +kernel
theorem dL_holdsAll_231 : decode cL_holdsAll 231 = .ok (.iconst 1, 1) := by decide +kernel
theorem dL_holdsAll_232 : decode cL_holdsAll 232 = .ok (.goto 4, 3) := by decide +kernel
theorem dL_holdsAll_235 : decode cL_holdsAll 235 = .ok (.iconst 0, 1) := by decide +kernel
theorem dL_holdsAll_236 : decode cL_holdsAll 236 = .ok (.ireturn, 1) := by decide +kernel
theorem dL_law_0 : decode cL_law 0 = .ok (.new 11, 3) := by decide +kernel
theorem dL_law_3 : decode cL_law 3 = .ok (.dup, 1) := by decide +kernel
theorem dL_law_4 : decode cL_law 4 = .ok (.invokespecial 286, 3) := by decide +kernel
theorem dL_law_7 : decode cL_law 7 = .ok (.aload_n 0, 1) := by decide +kernel
theorem dL_law_8 : decode cL_law 8 = .ok (.invokevirtual 287, 3) := by decide +kernel
theorem dL_law_11 : decode cL_law 11 = .ok (.ireturn, 1) := by decide +kernel
