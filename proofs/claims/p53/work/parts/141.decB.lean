theorem dX5_init_0 : decode cX5_init 0 = .ok (.aload_n 0, 1) := by decide +kernel
theorem dX5_init_1 : decode cX5_init 1 = .ok (.invokespecial 3, 3) := by decide +kernel
theorem dX5_init_4 : decode cX5_init 4 = .ok (.aload_n 0, 1) := by decide +kernel
theorem dX5_init_5 : decode cX5_init 5 = .ok (.bipush 8, 2) := by decide +kernel
theorem dX5_init_7 : decode cX5_init 7 = .ok (.newarray .int, 2) := by decide +kernel
theorem dX5_init_9 : decode cX5_init 9 = .ok (.putfield 11, 3) := by decide +kernel
theorem dX5_init_12 : decode cX5_init 12 = .ok (.aload_n 0, 1) := by decide +kernel
theorem dX5_init_13 : decode cX5_init 13 = .ok (.bipush 8, 2) := by decide +kernel
theorem dX5_init_15 : decode cX5_init 15 = .ok (.newarray .int, 2) := by decide +kernel
theorem dX5_init_17 : decode cX5_init 17 = .ok (.putfield 15, 3) := by decide +kernel
theorem dX5_init_20 : decode cX5_init 20 = .ok (.aload_n 0, 1) := by decide +kernel
theorem dX5_init_21 : decode cX5_init 21 = .ok (.bipush 8, 2) := by decide +kernel
theorem dX5_init_23 : decode cX5_init 23 = .ok (.newarray .int, 2) := by decide +kernel
theorem dX5_init_25 : decode cX5_init 25 = .ok (.putfield 18, 3) := by decide +kernel
theorem dX5_init_28 : decode cX5_init 28 = .ok (.return_, 1) := by decide +kernel
theorem dX5_put_0 : decode cX5_put 0 = .ok (.aload_n 0, 1) := by decide +kernel
theorem dX5_put_1 : decode cX5_put 1 = .ok (.getfield 21, 3) := by decide +kernel
theorem dX5_put_4 : decode cX5_put 4 = .ok (.ifCond .lt 12, 3) := by decide +kernel
theorem dX5_put_7 : decode cX5_put 7 = .ok (.aload_n 0, 1) := by decide +kernel
theorem dX5_put_8 : decode cX5_put 8 = .ok (.getfield 21, 3) := by decide +kernel
theorem dX5_put_11 : decode cX5_put 11 = .ok (.bipush 8, 2) := by decide +kernel
theorem dX5_put_13 : decode cX5_put 13 = .ok (.if_icmp .lt 5, 3) := by decide +kernel
theorem dX5_put_16 : decode cX5_put 16 = .ok (.iconst (-1), 1) := by decide +kernel
theorem dX5_put_17 : decode cX5_put 17 = .ok (.ireturn, 1) := by decide +kernel
theorem dX5_put_18 : decode cX5_put 18 = .ok (.aload_n 0, 1) := by decide +kernel
theorem dX5_put_19 : decode cX5_put 19 = .ok (.getfield 11, 3) := by decide +kernel
theorem dX5_put_22 : decode cX5_put 22 = .ok (.aload_n 0, 1) := by decide +kernel
theorem dX5_put_23 : decode cX5_put 23 = .ok (.getfield 21, 3) := by decide +kernel
theorem dX5_put_26 : decode cX5_put 26 = .ok (.iload_n 1, 1) := by decide +kernel
theorem dX5_put_27 : decode cX5_put 27 = .ok (.iastore, 1) := by decide +kernel
theorem dX5_put_28 : decode cX5_put 28 = .ok (.aload_n 0, 1) := by decide +kernel
theorem dX5_put_29 : decode cX5_put 29 = .ok (.getfield 15, 3) := by decide +kernel
theorem dX5_put_32 : decode cX5_put 32 = .ok (.aload_n 0, 1) := by decide +kernel
theorem dX5_put_33 : decode cX5_put 33 = .ok (.getfield 21, 3) := by decide +kernel
theorem dX5_put_36 : decode cX5_put 36 = .ok (.iload_n 2, 1) := by decide +kernel
theorem dX5_put_37 : decode cX5_put 37 = .ok (.iastore, 1) := by decide +kernel
theorem dX5_put_38 : decode cX5_put 38 = .ok (.aload_n 0, 1) := by decide +kernel
theorem dX5_put_39 : decode cX5_put 39 = .ok (.dup, 1) := by decide +kernel
theorem dX5_put_40 : decode cX5_put 40 = .ok (.getfield 21, 3) := by decide +kernel
theorem dX5_put_43 : decode cX5_put 43 = .ok (.iconst 1, 1) := by decide +kernel
theorem dX5_put_44 : decode cX5_put 44 = .ok (.iadd, 1) := by decide +kernel
theorem dX5_put_45 : decode cX5_put 45 = .ok (.putfield 21, 3) := by decide +kernel
theorem dX5_put_48 : decode cX5_put 48 = .ok (.aload_n 0, 1) := by decide +kernel
theorem dX5_put_49 : decode cX5_put 49 = .ok (.getfield 21, 3) := by decide +kernel
theorem dX5_put_52 : decode cX5_put 52 = .ok (.iconst 1, 1) := by decide +kernel
theorem dX5_put_53 : decode cX5_put 53 = .ok (.isub, 1) := by decide +kernel
theorem dX5_put_54 : decode cX5_put 54 = .ok (.ireturn, 1) := by decide +kernel
theorem dX5_choose_0 : decode cX5_choose 0 = .ok (.aload_n 0, 1) := by decide +kernel
theorem dX5_choose_1 : decode cX5_choose 1 = .ok (.iconst 0, 1) := by decide +kernel
theorem dX5_choose_2 : decode cX5_choose 2 = .ok (.putfield 25, 3) := by decide +kernel
theorem dX5_choose_5 : decode cX5_choose 5 = .ok (.aload_n 0, 1) := by decide +kernel
theorem dX5_choose_6 : decode cX5_choose 6 = .ok (.iconst 0, 1) := by decide +kernel
theorem dX5_choose_7 : decode cX5_choose 7 = .ok (.putfield 28, 3) := by decide +kernel
theorem dX5_choose_10 : decode cX5_choose 10 = .ok (.aload_n 0, 1) := by decide +kernel
theorem dX5_choose_11 : decode cX5_choose 11 = .ok (.iconst 0, 1) := by decide +kernel
theorem dX5_choose_12 : decode cX5_choose 12 = .ok (.putfield 31, 3) := by decide +kernel
theorem dX5_choose_15 : decode cX5_choose 15 = .ok (.iconst 1, 1) := by decide +kernel
theorem dX5_choose_16 : decode cX5_choose 16 = .ok (.istore_n 1, 1) := by decide +kernel
theorem dX5_choose_17 : decode cX5_choose 17 = .ok (.iload_n 1, 1) := by decide +kernel
theorem dX5_choose_18 : decode cX5_choose 18 = .ok (.iconst 1, 1) := by decide +kernel
theorem dX5_choose_19 : decode cX5_choose 19 = .ok (.aload_n 0, 1) := by decide +kernel
theorem dX5_choose_20 : decode cX5_choose 20 = .ok (.getfield 21, 3) := by decide +kernel
theorem dX5_choose_23 : decode cX5_choose 23 = .ok (.ishl, 1) := by decide +kernel
theorem dX5_choose_24 : decode cX5_choose 24 = .ok (.if_icmp .ge 69, 3) := by decide +kernel
theorem dX5_choose_27 : decode cX5_choose 27 = .ok (.aload_n 0, 1) := by decide +kernel
theorem dX5_choose_28 : decode cX5_choose 28 = .ok (.iload_n 1, 1) := by decide +kernel
theorem dX5_choose_29 : decode cX5_choose 29 = .ok (.invokevirtual 34, 3) := by decide +kernel
theorem dX5_choose_32 : decode cX5_choose 32 = .ok (.istore_n 2, 1) := by decide +kernel
theorem dX5_choose_33 : decode cX5_choose 33 = .ok (.iload_n 2, 1) := by decide +kernel
theorem dX5_choose_34 : decode cX5_choose 34 = .ok (.aload_n 0, 1) := by decide +kernel
theorem dX5_choose_35 : decode cX5_choose 35 = .ok (.getfield 25, 3) := by decide +kernel
theorem dX5_choose_38 : decode cX5_choose 38 = .ok (.if_icmp .le 21, 3) := by decide +kernel
theorem dX5_choose_41 : decode cX5_choose 41 = .ok (.aload_n 0, 1) := by decide +kernel
theorem dX5_choose_42 : decode cX5_choose 42 = .ok (.iload_n 2, 1) := by decide +kernel
theorem dX5_choose_43 : decode cX5_choose 43 = .ok (.putfield 25, 3) := by decide +kernel
theorem dX5_choose_46 : decode cX5_choose 46 = .ok (.aload_n 0, 1) := by decide +kernel
theorem dX5_choose_47 : decode cX5_choose 47 = .ok (.iload_n 1, 1) := by decide +kernel
theorem dX5_choose_48 : decode cX5_choose 48 = .ok (.putfield 28, 3) := by decide +kernel
theorem dX5_choose_51 : decode cX5_choose 51 = .ok (.aload_n 0, 1) := by decide +kernel
theorem dX5_choose_52 : decode cX5_choose 52 = .ok (.iload_n 1, 1) := by decide +kernel
theorem dX5_choose_53 : decode cX5_choose 53 = .ok (.putfield 31, 3) := by decide +kernel
theorem dX5_choose_56 : decode cX5_choose 56 = .ok (.goto 31, 3) := by decide +kernel
theorem dX5_choose_59 : decode cX5_choose 59 = .ok (.iload_n 2, 1) := by decide +kernel
theorem dX5_choose_60 : decode cX5_choose 60 = .ok (.aload_n 0, 1) := by decide +kernel
theorem dX5_choose_61 : decode cX5_choose 61 = .ok (.getfield 25, 3) := by decide +kernel
theorem dX5_choose_64 : decode cX5_choose 64 = .ok (.if_icmp .ne 23, 3) := by decide +kernel
theorem dX5_choose_67 : decode cX5_choose 67 = .ok (.aload_n 0, 1) := by decide +kernel
theorem dX5_choose_68 : decode cX5_choose 68 = .ok (.dup, 1) := by decide +kernel
theorem dX5_choose_69 : decode cX5_choose 69 = .ok (.getfield 28, 3) := by decide +kernel
theorem dX5_choose_72 : decode cX5_choose 72 = .ok (.iload_n 1, 1) := by decide +kernel
theorem dX5_choose_73 : decode cX5_choose 73 = .ok (.iand, 1) := by decide +kernel
theorem dX5_choose_74 : decode cX5_choose 74 = .ok (.putfield 28, 3) := by decide +kernel
theorem dX5_choose_77 : decode cX5_choose 77 = .ok (.aload_n 0, 1) := by decide +kernel
theorem dX5_choose_78 : decode cX5_choose 78 = .ok (.dup, 1) := by decide +kernel
theorem dX5_choose_79 : decode cX5_choose 79 = .ok (.getfield 31, 3) := by decide +kernel
theorem dX5_choose_82 : decode cX5_choose 82 = .ok (.iload_n 1, 1) := by decide +kernel
theorem dX5_choose_83 : decode cX5_choose 83 = .ok (.ior, 1) := by decide +kernel
theorem dX5_choose_84 : decode cX5_choose 84 = .ok (.putfield 31, 3) := by decide +kernel
theorem dX5_choose_87 : decode cX5_choose 87 = .ok (.iinc 1 1, 3) := by decide +kernel
theorem dX5_choose_90 : decode cX5_choose 90 = .ok (.goto (-73), 3) := by decide +kernel
theorem dX5_choose_93 : decode cX5_choose 93 = .ok (.return_, 1) := by decide +kernel
theorem dX5_worthOf_0 : decode cX5_worthOf 0 = .ok (.iconst 0, 1) := by decide +kernel
theorem dX5_worthOf_1 : decode cX5_worthOf 1 = .ok (.istore_n 2, 1) := by decide +kernel
theorem dX5_worthOf_2 : decode cX5_worthOf 2 = .ok (.iconst 0, 1) := by decide +kernel
theorem dX5_worthOf_3 : decode cX5_worthOf 3 = .ok (.istore_n 3, 1) := by decide +kernel
theorem dX5_worthOf_4 : decode cX5_worthOf 4 = .ok (.iconst 0, 1) := by decide +kernel
theorem dX5_worthOf_5 : decode cX5_worthOf 5 = .ok (.istore 4, 2) := by decide +kernel
theorem dX5_worthOf_7 : decode cX5_worthOf 7 = .ok (.iload 4, 2) := by decide +kernel
theorem dX5_worthOf_9 : decode cX5_worthOf 9 = .ok (.aload_n 0, 1) := by decide +kernel
theorem dX5_worthOf_10 : decode cX5_worthOf 10 = .ok (.getfield 21, 3) := by decide +kernel
theorem dX5_worthOf_13 : decode cX5_worthOf 13 = .ok (.if_icmp .ge 38, 3) := by decide +kernel
theorem dX5_worthOf_16 : decode cX5_worthOf 16 = .ok (.iload_n 1, 1) := by decide +kernel
theorem dX5_worthOf_17 : decode cX5_worthOf 17 = .ok (.iload 4, 2) := by decide +kernel
theorem dX5_worthOf_19 : decode cX5_worthOf 19 = .ok (.invokestatic 38, 3) := by decide +kernel
theorem dX5_worthOf_22 : decode cX5_worthOf 22 = .ok (.ifCond .eq 23, 3) := by decide +kernel
theorem dX5_worthOf_25 : decode cX5_worthOf 25 = .ok (.iload_n 2, 1) := by decide +kernel
theorem dX5_worthOf_26 : decode cX5_worthOf 26 = .ok (.aload_n 0, 1) := by decide +kernel
theorem dX5_worthOf_27 : decode cX5_worthOf 27 = .ok (.getfield 11, 3) := by decide +kernel
theorem dX5_worthOf_30 : decode cX5_worthOf 30 = .ok (.iload 4, 2) := by decide +kernel
theorem dX5_worthOf_32 : decode cX5_worthOf 32 = .ok (.iaload, 1) := by decide +kernel
theorem dX5_worthOf_33 : decode cX5_worthOf 33 = .ok (.iadd, 1) := by decide +kernel
theorem dX5_worthOf_34 : decode cX5_worthOf 34 = .ok (.istore_n 2, 1) := by decide +kernel
theorem dX5_worthOf_35 : decode cX5_worthOf 35 = .ok (.iload_n 3, 1) := by decide +kernel
theorem dX5_worthOf_36 : decode cX5_worthOf 36 = .ok (.aload_n 0, 1) := by decide +kernel
theorem dX5_worthOf_37 : decode cX5_worthOf 37 = .ok (.getfield 15, 3) := by decide +kernel
theorem dX5_worthOf_40 : decode cX5_worthOf 40 = .ok (.iload 4, 2) := by decide +kernel
theorem dX5_worthOf_42 : decode cX5_worthOf 42 = .ok (.iaload, 1) := by decide +kernel
theorem dX5_worthOf_43 : decode cX5_worthOf 43 = .ok (.ior, 1) := by decide +kernel
theorem dX5_worthOf_44 : decode cX5_worthOf 44 = .ok (.istore_n 3, 1) := by decide +kernel
theorem dX5_worthOf_45 : decode cX5_worthOf 45 = .ok (.iinc 4 1, 3) := by decide +kernel
theorem dX5_worthOf_48 : decode cX5_worthOf 48 = .ok (.goto (-41), 3) := by decide +kernel
theorem dX5_worthOf_51 : decode cX5_worthOf 51 = .ok (.iconst 0, 1) := by decide +kernel
theorem dX5_worthOf_52 : decode cX5_worthOf 52 = .ok (.istore 4, 2) := by decide +kernel
theorem dX5_worthOf_54 : decode cX5_worthOf 54 = .ok (.iload 4, 2) := by decide +kernel
theorem dX5_worthOf_56 : decode cX5_worthOf 56 = .ok (.bipush 8, 2) := by decide +kernel
theorem dX5_worthOf_58 : decode cX5_worthOf 58 = .ok (.if_icmp .ge 32, 3) := by decide +kernel
theorem dX5_worthOf_61 : decode cX5_worthOf 61 = .ok (.iload_n 2, 1) := by decide +kernel
theorem dX5_worthOf_62 : decode cX5_worthOf 62 = .ok (.iload_n 3, 1) := by decide +kernel
theorem dX5_worthOf_63 : decode cX5_worthOf 63 = .ok (.iload 4, 2) := by decide +kernel
theorem dX5_worthOf_65 : decode cX5_worthOf 65 = .ok (.invokestatic 38, 3) := by decide +kernel
theorem dX5_worthOf_68 : decode cX5_worthOf 68 = .ok (.ifCond .eq 13, 3) := by decide +kernel
theorem dX5_worthOf_71 : decode cX5_worthOf 71 = .ok (.aload_n 0, 1) := by decide +kernel
theorem dX5_worthOf_72 : decode cX5_worthOf 72 = .ok (.getfield 18, 3) := by decide +kernel
theorem dX5_worthOf_75 : decode cX5_worthOf 75 = .ok (.iload 4, 2) := by decide +kernel
theorem dX5_worthOf_77 : decode cX5_worthOf 77 = .ok (.iaload, 1) := by decide +kernel
theorem dX5_worthOf_78 : decode cX5_worthOf 78 = .ok (.goto 4, 3) := by decide +kernel
theorem dX5_worthOf_81 : decode cX5_worthOf 81 = .ok (.iconst 0, 1) := by decide +kernel
theorem dX5_worthOf_82 : decode cX5_worthOf 82 = .ok (.isub, 1) := by decide +kernel
theorem dX5_worthOf_83 : decode cX5_worthOf 83 = .ok (.istore_n 2, 1) := by decide +kernel
theorem dX5_worthOf_84 : decode cX5_worthOf 84 = .ok (.iinc 4 1, 3) := by decide +kernel
theorem dX5_worthOf_87 : decode cX5_worthOf 87 = .ok (.goto (-33), 3) := by decide +kernel
theorem dX5_worthOf_90 : decode cX5_worthOf 90 = .ok (.iload_n 2, 1) := by decide +kernel
theorem dX5_worthOf_91 : decode cX5_worthOf 91 = .ok (.ireturn, 1) := by decide +kernel
theorem dX6_init_0 : decode cX6_init 0 = .ok (.aload_n 0, 1) := by decide +kernel
theorem dX6_init_1 : decode cX6_init 1 = .ok (.invokespecial 3, 3) := by decide +kernel
theorem dX6_init_4 : decode cX6_init 4 = .ok (.aload_n 0, 1) := by decide +kernel
theorem dX6_init_5 : decode cX6_init 5 = .ok (.new 9, 3) := by decide +kernel
theorem dX6_init_8 : decode cX6_init 8 = .ok (.dup, 1) := by decide +kernel
theorem dX6_init_9 : decode cX6_init 9 = .ok (.invokespecial 11, 3) := by decide +kernel
theorem dX6_init_12 : decode cX6_init 12 = .ok (.putfield 12, 3) := by decide +kernel
theorem dX6_init_15 : decode cX6_init 15 = .ok (.return_, 1) := by decide +kernel
theorem dX6_lay_0 : decode cX6_lay 0 = .ok (.aload_n 0, 1) := by decide +kernel
theorem dX6_lay_1 : decode cX6_lay 1 = .ok (.iload_n 2, 1) := by decide +kernel
theorem dX6_lay_2 : decode cX6_lay 2 = .ok (.putfield 18, 3) := by decide +kernel
theorem dX6_lay_5 : decode cX6_lay 5 = .ok (.aload_n 0, 1) := by decide +kernel
theorem dX6_lay_6 : decode cX6_lay 6 = .ok (.iload_n 3, 1) := by decide +kernel
theorem dX6_lay_7 : decode cX6_lay 7 = .ok (.putfield 22, 3) := by decide +kernel
theorem dX6_lay_10 : decode cX6_lay 10 = .ok (.aload_n 0, 1) := by decide +kernel
theorem dX6_lay_11 : decode cX6_lay 11 = .ok (.getfield 12, 3) := by decide +kernel
theorem dX6_lay_14 : decode cX6_lay 14 = .ok (.aload_n 1, 1) := by decide +kernel
theorem dX6_lay_15 : decode cX6_lay 15 = .ok (.getfield 25, 3) := by decide +kernel
theorem dX6_lay_18 : decode cX6_lay 18 = .ok (.invokevirtual 30, 3) := by decide +kernel
theorem dX6_lay_21 : decode cX6_lay 21 = .ok (.aload_n 0, 1) := by decide +kernel
theorem dX6_lay_22 : decode cX6_lay 22 = .ok (.aload_n 1, 1) := by decide +kernel
theorem dX6_lay_23 : decode cX6_lay 23 = .ok (.invokevirtual 34, 3) := by decide +kernel
theorem dX6_lay_26 : decode cX6_lay 26 = .ok (.aload_n 0, 1) := by decide +kernel
theorem dX6_lay_27 : decode cX6_lay 27 = .ok (.aload_n 1, 1) := by decide +kernel
theorem dX6_lay_28 : decode cX6_lay 28 = .ok (.getfield 38, 3) := by decide +kernel
theorem dX6_lay_31 : decode cX6_lay 31 = .ok (.putfield 41, 3) := by decide +kernel
theorem dX6_lay_34 : decode cX6_lay 34 = .ok (.aload_n 0, 1) := by decide +kernel
theorem dX6_lay_35 : decode cX6_lay 35 = .ok (.getfield 12, 3) := by decide +kernel
theorem dX6_lay_38 : decode cX6_lay 38 = .ok (.aload_n 0, 1) := by decide +kernel
theorem dX6_lay_39 : decode cX6_lay 39 = .ok (.getfield 22, 3) := by decide +kernel
theorem dX6_lay_42 : decode cX6_lay 42 = .ok (.aload_n 0, 1) := by decide +kernel
theorem dX6_lay_43 : decode cX6_lay 43 = .ok (.getfield 18, 3) := by decide +kernel
theorem dX6_lay_46 : decode cX6_lay 46 = .ok (.ldc 44, 2) := by decide +kernel
theorem dX6_lay_48 : decode cX6_lay 48 = .ok (.ldc 45, 2) := by decide +kernel
theorem dX6_lay_50 : decode cX6_lay 50 = .ok (.iconst 0, 1) := by decide +kernel
theorem dX6_lay_51 : decode cX6_lay 51 = .ok (.invokevirtual 46, 3) := by decide +kernel
theorem dX6_lay_54 : decode cX6_lay 54 = .ok (.return_, 1) := by decide +kernel
theorem dX6_addEdges_0 : decode cX6_addEdges 0 = .ok (.iconst 0, 1) := by decide +kernel
theorem dX6_addEdges_1 : decode cX6_addEdges 1 = .ok (.istore_n 2, 1) := by decide +kernel
theorem dX6_addEdges_2 : decode cX6_addEdges 2 = .ok (.iload_n 2, 1) := by decide +kernel
theorem dX6_addEdges_3 : decode cX6_addEdges 3 = .ok (.aload_n 1, 1) := by decide +kernel
theorem dX6_addEdges_4 : decode cX6_addEdges 4 = .ok (.getfield 38, 3) := by decide +kernel
theorem dX6_addEdges_7 : decode cX6_addEdges 7 = .ok (.if_icmp .ge 46, 3) := by decide +kernel
theorem dX6_addEdges_10 : decode cX6_addEdges 10 = .ok (.aload_n 0, 1) := by decide +kernel
theorem dX6_addEdges_11 : decode cX6_addEdges 11 = .ok (.getfield 12, 3) := by decide +kernel
theorem dX6_addEdges_14 : decode cX6_addEdges 14 = .ok (.aload_n 1, 1) := by decide +kernel
theorem dX6_addEdges_15 : decode cX6_addEdges 15 = .ok (.getfield 50, 3) := by decide +kernel
theorem dX6_addEdges_18 : decode cX6_addEdges 18 = .ok (.iload_n 2, 1) := by decide +kernel
theorem dX6_addEdges_19 : decode cX6_addEdges 19 = .ok (.iaload, 1) := by decide +kernel
theorem dX6_addEdges_20 : decode cX6_addEdges 20 = .ok (.aload_n 1, 1) := by decide +kernel
theorem dX6_addEdges_21 : decode cX6_addEdges 21 = .ok (.getfield 54, 3) := by decide +kernel
theorem dX6_addEdges_24 : decode cX6_addEdges 24 = .ok (.iload_n 2, 1) := by decide +kernel
theorem dX6_addEdges_25 : decode cX6_addEdges 25 = .ok (.iaload, 1) := by decide +kernel
theorem dX6_addEdges_26 : decode cX6_addEdges 26 = .ok (.aload_n 1, 1) := by decide +kernel
theorem dX6_addEdges_27 : decode cX6_addEdges 27 = .ok (.getfield 57, 3) := by decide +kernel
theorem dX6_addEdges_30 : decode cX6_addEdges 30 = .ok (.iload_n 2, 1) := by decide +kernel
theorem dX6_addEdges_31 : decode cX6_addEdges 31 = .ok (.iaload, 1) := by decide +kernel
theorem dX6_addEdges_32 : decode cX6_addEdges 32 = .ok (.aload_n 1, 1) := by decide +kernel
theorem dX6_addEdges_33 : decode cX6_addEdges 33 = .ok (.getfield 60, 3) := by decide +kernel
theorem dX6_addEdges_36 : decode cX6_addEdges 36 = .ok (.iload_n 2, 1) := by decide +kernel
theorem dX6_addEdges_37 : decode cX6_addEdges 37 = .ok (.iaload, 1) := by decide +kernel
theorem dX6_addEdges_38 : decode cX6_addEdges 38 = .ok (.aload_n 1, 1) := by decide +kernel
theorem dX6_addEdges_39 : decode cX6_addEdges 39 = .ok (.getfield 63, 3) := by decide +kernel
theorem dX6_addEdges_42 : decode cX6_addEdges 42 = .ok (.iload_n 2, 1) := by decide +kernel
theorem dX6_addEdges_43 : decode cX6_addEdges 43 = .ok (.iaload, 1) := by decide +kernel
theorem dX6_addEdges_44 : decode cX6_addEdges 44 = .ok (.invokevirtual 46, 3) := by decide +kernel
theorem dX6_addEdges_47 : decode cX6_addEdges 47 = .ok (.iinc 2 1, 3) := by decide +kernel
theorem dX6_addEdges_50 : decode cX6_addEdges 50 = .ok (.goto (-48), 3) := by decide +kernel
theorem dX6_addEdges_53 : decode cX6_addEdges 53 = .ok (.return_, 1) := by decide +kernel
theorem dX6_fill_0 : decode cX6_fill 0 = .ok (.aload_n 0, 1) := by decide +kernel
theorem dX6_fill_1 : decode cX6_fill 1 = .ok (.getfield 12, 3) := by decide +kernel
theorem dX6_fill_4 : decode cX6_fill 4 = .ok (.invokevirtual 70, 3) := by decide +kernel
theorem dX6_fill_7 : decode cX6_fill 7 = .ok (.ifCond .ne 5, 3) := by decide +kernel
theorem dX6_fill_10 : decode cX6_fill 10 = .ok (.iconst 0, 1) := by decide +kernel
theorem dX6_fill_11 : decode cX6_fill 11 = .ok (.ireturn, 1) := by decide +kernel
theorem dX6_fill_12 : decode cX6_fill 12 = .ok (.aload_n 0, 1) := by decide +kernel
theorem dX6_fill_13 : decode cX6_fill 13 = .ok (.getfield 12, 3) := by decide +kernel
theorem dX6_fill_16 : decode cX6_fill 16 = .ok (.aload_n 0, 1) := by decide +kernel
theorem dX6_fill_17 : decode cX6_fill 17 = .ok (.getfield 41, 3) := by decide +kernel
theorem dX6_fill_20 : decode cX6_fill 20 = .ok (.invokevirtual 74, 3) := by decide +kernel
theorem dX6_fill_23 : decode cX6_fill 23 = .ok (.aload_n 0, 1) := by decide +kernel
theorem dX6_fill_24 : decode cX6_fill 24 = .ok (.aload_n 0, 1) := by decide +kernel
theorem dX6_fill_25 : decode cX6_fill 25 = .ok (.getfield 12, 3) := by decide +kernel
theorem dX6_fill_28 : decode cX6_fill 28 = .ok (.aload_n 0, 1) := by decide +kernel
theorem dX6_fill_29 : decode cX6_fill 29 = .ok (.getfield 41, 3) := by decide +kernel
theorem dX6_fill_32 : decode cX6_fill 32 = .ok (.invokevirtual 77, 3) := by decide +kernel
theorem dX6_fill_35 : decode cX6_fill 35 = .ok (.aload_n 0, 1) := by decide +kernel
theorem dX6_fill_36 : decode cX6_fill 36 = .ok (.getfield 12, 3) := by decide +kernel
theorem dX6_fill_39 : decode cX6_fill 39 = .ok (.aload_n 0, 1) := by decide +kernel
theorem dX6_fill_40 : decode cX6_fill 40 = .ok (.getfield 18, 3) := by decide +kernel
theorem dX6_fill_43 : decode cX6_fill 43 = .ok (.aload_n 0, 1) := by decide +kernel
theorem dX6_fill_44 : decode cX6_fill 44 = .ok (.getfield 22, 3) := by decide +kernel
theorem dX6_fill_47 : decode cX6_fill 47 = .ok (.ldc 45, 2) := by decide +kernel
theorem dX6_fill_49 : decode cX6_fill 49 = .ok (.invokevirtual 81, 3) := by decide +kernel
theorem dX6_fill_52 : decode cX6_fill 52 = .ok (.iadd, 1) := by decide +kernel
theorem dX6_fill_53 : decode cX6_fill 53 = .ok (.putfield 85, 3) := by decide +kernel
theorem dX6_fill_56 : decode cX6_fill 56 = .ok (.iconst 1, 1) := by decide +kernel
theorem dX6_fill_57 : decode cX6_fill 57 = .ok (.ireturn, 1) := by decide +kernel
theorem dX6_numberOf_0 : decode cX6_numberOf 0 = .ok (.aload_n 0, 1) := by decide +kernel
theorem dX6_numberOf_1 : decode cX6_numberOf 1 = .ok (.getfield 12, 3) := by decide +kernel
theorem dX6_numberOf_4 : decode cX6_numberOf 4 = .ok (.iload_n 1, 1) := by decide +kernel
theorem dX6_numberOf_5 : decode cX6_numberOf 5 = .ok (.invokevirtual 77, 3) := by decide +kernel
theorem dX6_numberOf_8 : decode cX6_numberOf 8 = .ok (.ireturn, 1) := by decide +kernel
theorem dX6_leastOf_0 : decode cX6_leastOf 0 = .ok (.aload_n 0, 1) := by decide +kernel
theorem dX6_leastOf_1 : decode cX6_leastOf 1 = .ok (.getfield 12, 3) := by decide +kernel
theorem dX6_leastOf_4 : decode cX6_leastOf 4 = .ok (.iload_n 1, 1) := by decide +kernel
theorem dX6_leastOf_5 : decode cX6_leastOf 5 = .ok (.invokevirtual 88, 3) := by decide +kernel
theorem dX6_leastOf_8 : decode cX6_leastOf 8 = .ok (.aload_n 0, 1) := by decide +kernel
theorem dX6_leastOf_9 : decode cX6_leastOf 9 = .ok (.getfield 12, 3) := by decide +kernel
theorem dX6_leastOf_12 : decode cX6_leastOf 12 = .ok (.iload_n 1, 1) := by decide +kernel
theorem dX6_leastOf_13 : decode cX6_leastOf 13 = .ok (.invokevirtual 77, 3) := by decide +kernel
theorem dX6_leastOf_16 : decode cX6_leastOf 16 = .ok (.ireturn, 1) := by decide +kernel
theorem dX6_tellLeastRow_0 : decode cX6_tellLeastRow 0 = .ok (.iconst 0, 1) := by decide +kernel
theorem dX6_tellLeastRow_1 : decode cX6_tellLeastRow 1 = .ok (.istore_n 2, 1) := by decide +kernel
theorem dX6_tellLeastRow_2 : decode cX6_tellLeastRow 2 = .ok (.iload_n 2, 1) := by decide +kernel
theorem dX6_tellLeastRow_3 : decode cX6_tellLeastRow 3 = .ok (.iload_n 1, 1) := by decide +kernel
theorem dX6_tellLeastRow_4 : decode cX6_tellLeastRow 4 = .ok (.if_icmp .ge 17, 3) := by decide +kernel
theorem dX6_tellLeastRow_7 : decode cX6_tellLeastRow 7 = .ok (.aload_n 0, 1) := by decide +kernel
theorem dX6_tellLeastRow_8 : decode cX6_tellLeastRow 8 = .ok (.getfield 12, 3) := by decide +kernel
theorem dX6_tellLeastRow_11 : decode cX6_tellLeastRow 11 = .ok (.iload_n 2, 1) := by decide +kernel
theorem dX6_tellLeastRow_12 : decode cX6_tellLeastRow 12 = .ok (.invokevirtual 88, 3) := by decide +kernel
theorem dX6_tellLeastRow_15 : decode cX6_tellLeastRow 15 = .ok (.iinc 2 1, 3) := by decide +kernel
theorem dX6_tellLeastRow_18 : decode cX6_tellLeastRow 18 = .ok (.goto (-16), 3) := by decide +kernel
theorem dX6_tellLeastRow_21 : decode cX6_tellLeastRow 21 = .ok (.return_, 1) := by decide +kernel
theorem dX6_cheapen_0 : decode cX6_cheapen 0 = .ok (.aload_n 0, 1) := by decide +kernel
theorem dX6_cheapen_1 : decode cX6_cheapen 1 = .ok (.getfield 12, 3) := by decide +kernel
theorem dX6_cheapen_4 : decode cX6_cheapen 4 = .ok (.invokevirtual 91, 3) := by decide +kernel
theorem dX6_cheapen_7 : decode cX6_cheapen 7 = .ok (.aload_n 0, 1) := by decide +kernel
theorem dX6_cheapen_8 : decode cX6_cheapen 8 = .ok (.getfield 12, 3) := by decide +kernel
theorem dX6_cheapen_11 : decode cX6_cheapen 11 = .ok (.invokevirtual 94, 3) := by decide +kernel
theorem dX6_cheapen_14 : decode cX6_cheapen 14 = .ok (.return_, 1) := by decide +kernel
theorem dX6_costOf_0 : decode cX6_costOf 0 = .ok (.aload_n 0, 1) := by decide +kernel
theorem dX6_costOf_1 : decode cX6_costOf 1 = .ok (.getfield 12, 3) := by decide +kernel
theorem dX6_costOf_4 : decode cX6_costOf 4 = .ok (.iload_n 1, 1) := by decide +kernel
theorem dX6_costOf_5 : decode cX6_costOf 5 = .ok (.invokevirtual 97, 3) := by decide +kernel
theorem dX6_costOf_8 : decode cX6_costOf 8 = .ok (.ireturn, 1) := by decide +kernel
theorem dX6_setPrices_0 : decode cX6_setPrices 0 = .ok (.iconst 0, 1) := by decide +kernel
theorem dX6_setPrices_1 : decode cX6_setPrices 1 = .ok (.istore_n 3, 1) := by decide +kernel
theorem dX6_setPrices_2 : decode cX6_setPrices 2 = .ok (.iload_n 3, 1) := by decide +kernel
theorem dX6_setPrices_3 : decode cX6_setPrices 3 = .ok (.iload_n 1, 1) := by decide +kernel
theorem dX6_setPrices_4 : decode cX6_setPrices 4 = .ok (.if_icmp .ge 17, 3) := by decide +kernel
theorem dX6_setPrices_7 : decode cX6_setPrices 7 = .ok (.aload_n 0, 1) := by decide +kernel
theorem dX6_setPrices_8 : decode cX6_setPrices 8 = .ok (.getfield 12, 3) := by decide +kernel
theorem dX6_setPrices_11 : decode cX6_setPrices 11 = .ok (.iload_n 3, 1) := by decide +kernel
theorem dX6_setPrices_12 : decode cX6_setPrices 12 = .ok (.invokevirtual 100, 3) := by decide +kernel
theorem dX6_setPrices_15 : decode cX6_setPrices 15 = .ok (.iinc 3 1, 3) := by decide +kernel
theorem dX6_setPrices_18 : decode cX6_setPrices 18 = .ok (.goto (-16), 3) := by decide +kernel
theorem dX6_setPrices_21 : decode cX6_setPrices 21 = .ok (.aload_n 0, 1) := by decide +kernel
theorem dX6_setPrices_22 : decode cX6_setPrices 22 = .ok (.getfield 12, 3) := by decide +kernel
theorem dX6_setPrices_25 : decode cX6_setPrices 25 = .ok (.iload_n 2, 1) := by decide +kernel
theorem dX6_setPrices_26 : decode cX6_setPrices 26 = .ok (.invokevirtual 103, 3) := by decide +kernel
theorem dX6_setPrices_29 : decode cX6_setPrices 29 = .ok (.return_, 1) := by decide +kernel
theorem dX6_hasPrice_0 : decode cX6_hasPrice 0 = .ok (.aload_n 0, 1) := by decide +kernel
theorem dX6_hasPrice_1 : decode cX6_hasPrice 1 = .ok (.getfield 12, 3) := by decide +kernel
theorem dX6_hasPrice_4 : decode cX6_hasPrice 4 = .ok (.iload_n 1, 1) := by decide +kernel
theorem dX6_hasPrice_5 : decode cX6_hasPrice 5 = .ok (.invokevirtual 106, 3) := by decide +kernel
theorem dX6_hasPrice_8 : decode cX6_hasPrice 8 = .ok (.ldc 109, 2) := by decide +kernel
theorem dX6_hasPrice_10 : decode cX6_hasPrice 10 = .ok (.if_icmp .ge 7, 3) := by decide +kernel
theorem dX6_hasPrice_13 : decode cX6_hasPrice 13 = .ok (.iconst 1, 1) := by decide +kernel
theorem dX6_hasPrice_14 : decode cX6_hasPrice 14 = .ok (.goto 4, 3) := by decide +kernel
theorem dX6_hasPrice_17 : decode cX6_hasPrice 17 = .ok (.iconst 0, 1) := by decide +kernel
theorem dX6_hasPrice_18 : decode cX6_hasPrice 18 = .ok (.ireturn, 1) := by decide +kernel
theorem dX6_priceOf_0 : decode cX6_priceOf 0 = .ok (.aload_n 0, 1) := by decide +kernel
theorem dX6_priceOf_1 : decode cX6_priceOf 1 = .ok (.getfield 12, 3) := by decide +kernel
theorem dX6_priceOf_4 : decode cX6_priceOf 4 = .ok (.iload_n 1, 1) := by decide +kernel
theorem dX6_priceOf_5 : decode cX6_priceOf 5 = .ok (.invokevirtual 106, 3) := by decide +kernel
theorem dX6_priceOf_8 : decode cX6_priceOf 8 = .ok (.ireturn, 1) := by decide +kernel
theorem dX6_goRounds_0 : decode cX6_goRounds 0 = .ok (.aload_n 0, 1) := by decide +kernel
theorem dX6_goRounds_1 : decode cX6_goRounds 1 = .ok (.getfield 12, 3) := by decide +kernel
theorem dX6_goRounds_4 : decode cX6_goRounds 4 = .ok (.aload_n 1, 1) := by decide +kernel
theorem dX6_goRounds_5 : decode cX6_goRounds 5 = .ok (.getfield 25, 3) := by decide +kernel
theorem dX6_goRounds_8 : decode cX6_goRounds 8 = .ok (.invokevirtual 30, 3) := by decide +kernel
theorem dX6_goRounds_11 : decode cX6_goRounds 11 = .ok (.aload_n 0, 1) := by decide +kernel
theorem dX6_goRounds_12 : decode cX6_goRounds 12 = .ok (.aload_n 1, 1) := by decide +kernel
theorem dX6_goRounds_13 : decode cX6_goRounds 13 = .ok (.invokevirtual 34, 3) := by decide +kernel
theorem dX6_goRounds_16 : decode cX6_goRounds 16 = .ok (.aload_n 0, 1) := by decide +kernel
theorem dX6_goRounds_17 : decode cX6_goRounds 17 = .ok (.iconst 0, 1) := by decide +kernel
theorem dX6_goRounds_18 : decode cX6_goRounds 18 = .ok (.putfield 110, 3) := by decide +kernel
theorem dX6_goRounds_21 : decode cX6_goRounds 21 = .ok (.iconst 0, 1) := by decide +kernel
theorem dX6_goRounds_22 : decode cX6_goRounds 22 = .ok (.istore 5, 2) := by decide +kernel
theorem dX6_goRounds_24 : decode cX6_goRounds 24 = .ok (.iconst 0, 1) := by decide +kernel
theorem dX6_goRounds_25 : decode cX6_goRounds 25 = .ok (.istore 6, 2) := by decide +kernel
theorem dX6_goRounds_27 : decode cX6_goRounds 27 = .ok (.iload 6, 2) := by decide +kernel
theorem dX6_goRounds_29 : decode cX6_goRounds 29 = .ok (.ldc 45, 2) := by decide +kernel
theorem dX6_goRounds_31 : decode cX6_goRounds 31 = .ok (.if_icmp .ge 62, 3) := by decide +kernel
theorem dX6_goRounds_34 : decode cX6_goRounds 34 = .ok (.aload_n 0, 1) := by decide +kernel
theorem dX6_goRounds_35 : decode cX6_goRounds 35 = .ok (.aload_n 0, 1) := by decide +kernel
theorem dX6_goRounds_36 : decode cX6_goRounds 36 = .ok (.getfield 12, 3) := by decide +kernel
theorem dX6_goRounds_39 : decode cX6_goRounds 39 = .ok (.iload_n 2, 1) := by decide +kernel
theorem dX6_goRounds_40 : decode cX6_goRounds 40 = .ok (.iload_n 3, 1) := by decide +kernel
theorem dX6_goRounds_41 : decode cX6_goRounds 41 = .ok (.ldc 45, 2) := by decide +kernel
theorem dX6_goRounds_43 : decode cX6_goRounds 43 = .ok (.invokevirtual 113, 3) := by decide +kernel
theorem dX6_goRounds_46 : decode cX6_goRounds 46 = .ok (.putfield 85, 3) := by decide +kernel
theorem dX6_goRounds_49 : decode cX6_goRounds 49 = .ok (.aload_n 0, 1) := by decide +kernel
theorem dX6_goRounds_50 : decode cX6_goRounds 50 = .ok (.getfield 85, 3) := by decide +kernel
theorem dX6_goRounds_53 : decode cX6_goRounds 53 = .ok (.ifCond .gt 6, 3) := by decide +kernel
theorem dX6_goRounds_56 : decode cX6_goRounds 56 = .ok (.iload 5, 2) := by decide +kernel
theorem dX6_goRounds_58 : decode cX6_goRounds 58 = .ok (.ireturn, 1) := by decide +kernel
theorem dX6_goRounds_59 : decode cX6_goRounds 59 = .ok (.aload_n 0, 1) := by decide +kernel
theorem dX6_goRounds_60 : decode cX6_goRounds 60 = .ok (.dup, 1) := by decide +kernel
theorem dX6_goRounds_61 : decode cX6_goRounds 61 = .ok (.getfield 110, 3) := by decide +kernel
theorem dX6_goRounds_64 : decode cX6_goRounds 64 = .ok (.aload_n 0, 1) := by decide +kernel
theorem dX6_goRounds_65 : decode cX6_goRounds 65 = .ok (.getfield 85, 3) := by decide +kernel
theorem dX6_goRounds_68 : decode cX6_goRounds 68 = .ok (.iadd, 1) := by decide +kernel
theorem dX6_goRounds_69 : decode cX6_goRounds 69 = .ok (.putfield 110, 3) := by decide +kernel
theorem dX6_goRounds_72 : decode cX6_goRounds 72 = .ok (.iinc 5 1, 3) := by decide +kernel
theorem dX6_goRounds_75 : decode cX6_goRounds 75 = .ok (.iload 5, 2) := by decide +kernel
theorem dX6_goRounds_77 : decode cX6_goRounds 77 = .ok (.iconst 1, 1) := by decide +kernel
theorem dX6_goRounds_78 : decode cX6_goRounds 78 = .ok (.isub, 1) := by decide +kernel
theorem dX6_goRounds_79 : decode cX6_goRounds 79 = .ok (.iload 4, 2) := by decide +kernel
theorem dX6_goRounds_81 : decode cX6_goRounds 81 = .ok (.if_icmp .ne 6, 3) := by decide +kernel
theorem dX6_goRounds_84 : decode cX6_goRounds 84 = .ok (.iload 5, 2) := by decide +kernel
theorem dX6_goRounds_86 : decode cX6_goRounds 86 = .ok (.ireturn, 1) := by decide +kernel
theorem dX6_goRounds_87 : decode cX6_goRounds 87 = .ok (.iinc 6 1, 3) := by decide +kernel
theorem dX6_goRounds_90 : decode cX6_goRounds 90 = .ok (.goto (-63), 3) := by decide +kernel
theorem dX6_goRounds_93 : decode cX6_goRounds 93 = .ok (.iload 5, 2) := by decide +kernel
theorem dX6_goRounds_95 : decode cX6_goRounds 95 = .ok (.ireturn, 1) := by decide +kernel
theorem dX6_waysByEdges_0 : decode cX6_waysByEdges 0 = .ok (.aload_n 0, 1) := by decide +kernel
theorem dX6_waysByEdges_1 : decode cX6_waysByEdges 1 = .ok (.getfield 12, 3) := by decide +kernel
theorem dX6_waysByEdges_4 : decode cX6_waysByEdges 4 = .ok (.aload_n 1, 1) := by decide +kernel
theorem dX6_waysByEdges_5 : decode cX6_waysByEdges 5 = .ok (.getfield 25, 3) := by decide +kernel
theorem dX6_waysByEdges_8 : decode cX6_waysByEdges 8 = .ok (.invokevirtual 30, 3) := by decide +kernel
theorem dX6_waysByEdges_11 : decode cX6_waysByEdges 11 = .ok (.iconst 0, 1) := by decide +kernel
theorem dX6_waysByEdges_12 : decode cX6_waysByEdges 12 = .ok (.istore 4, 2) := by decide +kernel
theorem dX6_waysByEdges_14 : decode cX6_waysByEdges 14 = .ok (.iload 4, 2) := by decide +kernel
theorem dX6_waysByEdges_16 : decode cX6_waysByEdges 16 = .ok (.aload_n 1, 1) := by decide +kernel
theorem dX6_waysByEdges_17 : decode cX6_waysByEdges 17 = .ok (.getfield 38, 3) := by decide +kernel
theorem dX6_waysByEdges_20 : decode cX6_waysByEdges 20 = .ok (.if_icmp .ge 47, 3) := by decide +kernel
theorem dX6_waysByEdges_23 : decode cX6_waysByEdges 23 = .ok (.aload_n 0, 1) := by decide +kernel
theorem dX6_waysByEdges_24 : decode cX6_waysByEdges 24 = .ok (.getfield 12, 3) := by decide +kernel
theorem dX6_waysByEdges_27 : decode cX6_waysByEdges 27 = .ok (.aload_n 1, 1) := by decide +kernel
theorem dX6_waysByEdges_28 : decode cX6_waysByEdges 28 = .ok (.getfield 50, 3) := by decide +kernel
theorem dX6_waysByEdges_31 : decode cX6_waysByEdges 31 = .ok (.iload 4, 2) := by decide +kernel
theorem dX6_waysByEdges_33 : decode cX6_waysByEdges 33 = .ok (.iaload, 1) := by decide +kernel
theorem dX6_waysByEdges_34 : decode cX6_waysByEdges 34 = .ok (.aload_n 1, 1) := by decide +kernel
theorem dX6_waysByEdges_35 : decode cX6_waysByEdges 35 = .ok (.getfield 54, 3) := by decide +kernel
theorem dX6_waysByEdges_38 : decode cX6_waysByEdges 38 = .ok (.iload 4, 2) := by decide +kernel
theorem dX6_waysByEdges_40 : decode cX6_waysByEdges 40 = .ok (.iaload, 1) := by decide +kernel
theorem dX6_waysByEdges_41 : decode cX6_waysByEdges 41 = .ok (.iconst 0, 1) := by decide +kernel
theorem dX6_waysByEdges_42 : decode cX6_waysByEdges 42 = .ok (.aload_n 1, 1) := by decide +kernel
theorem dX6_waysByEdges_43 : decode cX6_waysByEdges 43 = .ok (.getfield 60, 3) := by decide +kernel
theorem dX6_waysByEdges_46 : decode cX6_waysByEdges 46 = .ok (.iload 4, 2) := by decide +kernel
theorem dX6_waysByEdges_48 : decode cX6_waysByEdges 48 = .ok (.iaload, 1) := by decide +kernel
theorem dX6_waysByEdges_49 : decode cX6_waysByEdges 49 = .ok (.ifCond .eq 7, 3) := by decide +kernel
theorem dX6_waysByEdges_52 : decode cX6_waysByEdges 52 = .ok (.iconst 1, 1) := by decide +kernel
theorem dX6_waysByEdges_53 : decode cX6_waysByEdges 53 = .ok (.goto 4, 3) := by decide +kernel
theorem dX6_waysByEdges_56 : decode cX6_waysByEdges 56 = .ok (.iconst 0, 1) := by decide +kernel
theorem dX6_waysByEdges_57 : decode cX6_waysByEdges 57 = .ok (.iconst 0, 1) := by decide +kernel
theorem dX6_waysByEdges_58 : decode cX6_waysByEdges 58 = .ok (.invokevirtual 46, 3) := by decide +kernel
theorem dX6_waysByEdges_61 : decode cX6_waysByEdges 61 = .ok (.iinc 4 1, 3) := by decide +kernel
theorem dX6_waysByEdges_64 : decode cX6_waysByEdges 64 = .ok (.goto (-50), 3) := by decide +kernel
theorem dX6_waysByEdges_67 : decode cX6_waysByEdges 67 = .ok (.aload_n 0, 1) := by decide +kernel
theorem dX6_waysByEdges_68 : decode cX6_waysByEdges 68 = .ok (.getfield 12, 3) := by decide +kernel
theorem dX6_waysByEdges_71 : decode cX6_waysByEdges 71 = .ok (.iload_n 2, 1) := by decide +kernel
theorem dX6_waysByEdges_72 : decode cX6_waysByEdges 72 = .ok (.iload_n 3, 1) := by decide +kernel
theorem dX6_waysByEdges_73 : decode cX6_waysByEdges 73 = .ok (.ldc 45, 2) := by decide +kernel
theorem dX6_waysByEdges_75 : decode cX6_waysByEdges 75 = .ok (.invokevirtual 81, 3) := by decide +kernel
theorem dX6_waysByEdges_78 : decode cX6_waysByEdges 78 = .ok (.ireturn, 1) := by decide +kernel
theorem dX6_waysByCorners_0 : decode cX6_waysByCorners 0 = .ok (.aload_n 0, 1) := by decide +kernel
theorem dX6_waysByCorners_1 : decode cX6_waysByCorners 1 = .ok (.getfield 12, 3) := by decide +kernel
theorem dX6_waysByCorners_4 : decode cX6_waysByCorners 4 = .ok (.bipush 16, 2) := by decide +kernel
theorem dX6_waysByCorners_6 : decode cX6_waysByCorners 6 = .ok (.invokevirtual 30, 3) := by decide +kernel
theorem dX6_waysByCorners_9 : decode cX6_waysByCorners 9 = .ok (.iconst 0, 1) := by decide +kernel
theorem dX6_waysByCorners_10 : decode cX6_waysByCorners 10 = .ok (.istore 4, 2) := by decide +kernel
theorem dX6_waysByCorners_12 : decode cX6_waysByCorners 12 = .ok (.iload 4, 2) := by decide +kernel
theorem dX6_waysByCorners_14 : decode cX6_waysByCorners 14 = .ok (.aload_n 1, 1) := by decide +kernel
theorem dX6_waysByCorners_15 : decode cX6_waysByCorners 15 = .ok (.getfield 38, 3) := by decide +kernel
theorem dX6_waysByCorners_18 : decode cX6_waysByCorners 18 = .ok (.if_icmp .ge 50, 3) := by decide +kernel
theorem dX6_waysByCorners_21 : decode cX6_waysByCorners 21 = .ok (.aload_n 0, 1) := by decide +kernel
theorem dX6_waysByCorners_22 : decode cX6_waysByCorners 22 = .ok (.getfield 12, 3) := by decide +kernel
theorem dX6_waysByCorners_25 : decode cX6_waysByCorners 25 = .ok (.aload_n 1, 1) := by decide +kernel
theorem dX6_waysByCorners_26 : decode cX6_waysByCorners 26 = .ok (.getfield 50, 3) := by decide +kernel
theorem dX6_waysByCorners_29 : decode cX6_waysByCorners 29 = .ok (.iload 4, 2) := by decide +kernel
theorem dX6_waysByCorners_31 : decode cX6_waysByCorners 31 = .ok (.iaload, 1) := by decide +kernel
theorem dX6_waysByCorners_32 : decode cX6_waysByCorners 32 = .ok (.bipush 8, 2) := by decide +kernel
theorem dX6_waysByCorners_34 : decode cX6_waysByCorners 34 = .ok (.iadd, 1) := by decide +kernel
theorem dX6_waysByCorners_35 : decode cX6_waysByCorners 35 = .ok (.aload_n 1, 1) := by decide +kernel
theorem dX6_waysByCorners_36 : decode cX6_waysByCorners 36 = .ok (.getfield 54, 3) := by decide +kernel
theorem dX6_waysByCorners_39 : decode cX6_waysByCorners 39 = .ok (.iload 4, 2) := by decide +kernel
theorem dX6_waysByCorners_41 : decode cX6_waysByCorners 41 = .ok (.iaload, 1) := by decide +kernel
theorem dX6_waysByCorners_42 : decode cX6_waysByCorners 42 = .ok (.iconst 0, 1) := by decide +kernel
theorem dX6_waysByCorners_43 : decode cX6_waysByCorners 43 = .ok (.aload_n 1, 1) := by decide +kernel
theorem dX6_waysByCorners_44 : decode cX6_waysByCorners 44 = .ok (.getfield 60, 3) := by decide +kernel
theorem dX6_waysByCorners_47 : decode cX6_waysByCorners 47 = .ok (.iload 4, 2) := by decide +kernel
theorem dX6_waysByCorners_49 : decode cX6_waysByCorners 49 = .ok (.iaload, 1) := by decide +kernel
theorem dX6_waysByCorners_50 : decode cX6_waysByCorners 50 = .ok (.ifCond .eq 7, 3) := by decide +kernel
theorem dX6_waysByCorners_53 : decode cX6_waysByCorners 53 = .ok (.iconst 1, 1) := by decide +kernel
theorem dX6_waysByCorners_54 : decode cX6_waysByCorners 54 = .ok (.goto 4, 3) := by decide +kernel
theorem dX6_waysByCorners_57 : decode cX6_waysByCorners 57 = .ok (.iconst 0, 1) := by decide +kernel
theorem dX6_waysByCorners_58 : decode cX6_waysByCorners 58 = .ok (.iconst 0, 1) := by decide +kernel
theorem dX6_waysByCorners_59 : decode cX6_waysByCorners 59 = .ok (.invokevirtual 46, 3) := by decide +kernel
theorem dX6_waysByCorners_62 : decode cX6_waysByCorners 62 = .ok (.iinc 4 1, 3) := by decide +kernel
theorem dX6_waysByCorners_65 : decode cX6_waysByCorners 65 = .ok (.goto (-53), 3) := by decide +kernel
theorem dX6_waysByCorners_68 : decode cX6_waysByCorners 68 = .ok (.iconst 0, 1) := by decide +kernel
theorem dX6_waysByCorners_69 : decode cX6_waysByCorners 69 = .ok (.istore 4, 2) := by decide +kernel
theorem dX6_waysByCorners_71 : decode cX6_waysByCorners 71 = .ok (.iload 4, 2) := by decide +kernel
theorem dX6_waysByCorners_73 : decode cX6_waysByCorners 73 = .ok (.aload_n 1, 1) := by decide +kernel
theorem dX6_waysByCorners_74 : decode cX6_waysByCorners 74 = .ok (.getfield 25, 3) := by decide +kernel
theorem dX6_waysByCorners_77 : decode cX6_waysByCorners 77 = .ok (.if_icmp .ge 38, 3) := by decide +kernel
theorem dX6_waysByCorners_80 : decode cX6_waysByCorners 80 = .ok (.iload 4, 2) := by decide +kernel
theorem dX6_waysByCorners_82 : decode cX6_waysByCorners 82 = .ok (.iload_n 2, 1) := by decide +kernel
theorem dX6_waysByCorners_83 : decode cX6_waysByCorners 83 = .ok (.if_icmp .eq 26, 3) := by decide +kernel
theorem dX6_waysByCorners_86 : decode cX6_waysByCorners 86 = .ok (.iload 4, 2) := by decide +kernel
theorem dX6_waysByCorners_88 : decode cX6_waysByCorners 88 = .ok (.iload_n 3, 1) := by decide +kernel
theorem dX6_waysByCorners_89 : decode cX6_waysByCorners 89 = .ok (.if_icmp .eq 20, 3) := by decide +kernel
theorem dX6_waysByCorners_92 : decode cX6_waysByCorners 92 = .ok (.aload_n 0, 1) := by decide +kernel
theorem dX6_waysByCorners_93 : decode cX6_waysByCorners 93 = .ok (.getfield 12, 3) := by decide +kernel
theorem dX6_waysByCorners_96 : decode cX6_waysByCorners 96 = .ok (.iload 4, 2) := by decide +kernel
theorem dX6_waysByCorners_98 : decode cX6_waysByCorners 98 = .ok (.iload 4, 2) := by decide +kernel
theorem dX6_waysByCorners_100 : decode cX6_waysByCorners 100 = .ok (.bipush 8, 2) := by decide +kernel
theorem dX6_waysByCorners_102 : decode cX6_waysByCorners 102 = .ok (.iadd, 1) := by decide +kernel
theorem dX6_waysByCorners_103 : decode cX6_waysByCorners 103 = .ok (.iconst 0, 1) := by decide +kernel
theorem dX6_waysByCorners_104 : decode cX6_waysByCorners 104 = .ok (.iconst 1, 1) := by decide +kernel
theorem dX6_waysByCorners_105 : decode cX6_waysByCorners 105 = .ok (.iconst 0, 1) := by decide +kernel
theorem dX6_waysByCorners_106 : decode cX6_waysByCorners 106 = .ok (.invokevirtual 46, 3) := by decide +kernel
theorem dX6_waysByCorners_109 : decode cX6_waysByCorners 109 = .ok (.iinc 4 1, 3) := by decide +kernel
theorem dX6_waysByCorners_112 : decode cX6_waysByCorners 112 = .ok (.goto (-41), 3) := by decide +kernel
theorem dX6_waysByCorners_115 : decode cX6_waysByCorners 115 = .ok (.aload_n 0, 1) := by decide +kernel
theorem dX6_waysByCorners_116 : decode cX6_waysByCorners 116 = .ok (.getfield 12, 3) := by decide +kernel
theorem dX6_waysByCorners_119 : decode cX6_waysByCorners 119 = .ok (.iload_n 2, 1) := by decide +kernel
theorem dX6_waysByCorners_120 : decode cX6_waysByCorners 120 = .ok (.bipush 8, 2) := by decide +kernel
theorem dX6_waysByCorners_122 : decode cX6_waysByCorners 122 = .ok (.iadd, 1) := by decide +kernel
theorem dX6_waysByCorners_123 : decode cX6_waysByCorners 123 = .ok (.iload_n 3, 1) := by decide +kernel
theorem dX6_waysByCorners_124 : decode cX6_waysByCorners 124 = .ok (.ldc 45, 2) := by decide +kernel
theorem dX6_waysByCorners_126 : decode cX6_waysByCorners 126 = .ok (.invokevirtual 81, 3) := by decide +kernel
theorem dX6_waysByCorners_129 : decode cX6_waysByCorners 129 = .ok (.ireturn, 1) := by decide +kernel
theorem dX6_meetDemands_0 : decode cX6_meetDemands 0 = .ok (.aload_n 1, 1) := by decide +kernel
theorem dX6_meetDemands_1 : decode cX6_meetDemands 1 = .ok (.getfield 25, 3) := by decide +kernel
theorem dX6_meetDemands_4 : decode cX6_meetDemands 4 = .ok (.istore_n 2, 1) := by decide +kernel
theorem dX6_meetDemands_5 : decode cX6_meetDemands 5 = .ok (.aload_n 0, 1) := by decide +kernel
theorem dX6_meetDemands_6 : decode cX6_meetDemands 6 = .ok (.getfield 12, 3) := by decide +kernel
theorem dX6_meetDemands_9 : decode cX6_meetDemands 9 = .ok (.aload_n 1, 1) := by decide +kernel
theorem dX6_meetDemands_10 : decode cX6_meetDemands 10 = .ok (.getfield 25, 3) := by decide +kernel
theorem dX6_meetDemands_13 : decode cX6_meetDemands 13 = .ok (.iconst 1, 1) := by decide +kernel
theorem dX6_meetDemands_14 : decode cX6_meetDemands 14 = .ok (.iadd, 1) := by decide +kernel
theorem dX6_meetDemands_15 : decode cX6_meetDemands 15 = .ok (.invokevirtual 30, 3) := by decide +kernel
theorem dX6_meetDemands_18 : decode cX6_meetDemands 18 = .ok (.aload_n 0, 1) := by decide +kernel
theorem dX6_meetDemands_19 : decode cX6_meetDemands 19 = .ok (.aload_n 1, 1) := by decide +kernel
theorem dX6_meetDemands_20 : decode cX6_meetDemands 20 = .ok (.invokevirtual 34, 3) := by decide +kernel
theorem dX6_meetDemands_23 : decode cX6_meetDemands 23 = .ok (.iconst 0, 1) := by decide +kernel
theorem dX6_meetDemands_24 : decode cX6_meetDemands 24 = .ok (.istore_n 3, 1) := by decide +kernel
theorem dX6_meetDemands_25 : decode cX6_meetDemands 25 = .ok (.iload_n 3, 1) := by decide +kernel
theorem dX6_meetDemands_26 : decode cX6_meetDemands 26 = .ok (.aload_n 1, 1) := by decide +kernel
theorem dX6_meetDemands_27 : decode cX6_meetDemands 27 = .ok (.getfield 25, 3) := by decide +kernel
theorem dX6_meetDemands_30 : decode cX6_meetDemands 30 = .ok (.if_icmp .ge 60, 3) := by decide +kernel
theorem dX6_meetDemands_33 : decode cX6_meetDemands 33 = .ok (.aload_n 1, 1) := by decide +kernel
theorem dX6_meetDemands_34 : decode cX6_meetDemands 34 = .ok (.getfield 119, 3) := by decide +kernel
theorem dX6_meetDemands_37 : decode cX6_meetDemands 37 = .ok (.iload_n 3, 1) := by decide +kernel
theorem dX6_meetDemands_38 : decode cX6_meetDemands 38 = .ok (.iaload, 1) := by decide +kernel
theorem dX6_meetDemands_39 : decode cX6_meetDemands 39 = .ok (.istore 4, 2) := by decide +kernel
theorem dX6_meetDemands_41 : decode cX6_meetDemands 41 = .ok (.iload 4, 2) := by decide +kernel
theorem dX6_meetDemands_43 : decode cX6_meetDemands 43 = .ok (.ifCond .le 20, 3) := by decide +kernel
theorem dX6_meetDemands_46 : decode cX6_meetDemands 46 = .ok (.aload_n 0, 1) := by decide +kernel
theorem dX6_meetDemands_47 : decode cX6_meetDemands 47 = .ok (.getfield 12, 3) := by decide +kernel
theorem dX6_meetDemands_50 : decode cX6_meetDemands 50 = .ok (.iload_n 2, 1) := by decide +kernel
theorem dX6_meetDemands_51 : decode cX6_meetDemands 51 = .ok (.iload_n 3, 1) := by decide +kernel
theorem dX6_meetDemands_52 : decode cX6_meetDemands 52 = .ok (.iload 4, 2) := by decide +kernel
theorem dX6_meetDemands_54 : decode cX6_meetDemands 54 = .ok (.iload 4, 2) := by decide +kernel
theorem dX6_meetDemands_56 : decode cX6_meetDemands 56 = .ok (.iconst 0, 1) := by decide +kernel
theorem dX6_meetDemands_57 : decode cX6_meetDemands 57 = .ok (.invokevirtual 46, 3) := by decide +kernel
theorem dX6_meetDemands_60 : decode cX6_meetDemands 60 = .ok (.goto 24, 3) := by decide +kernel
theorem dX6_meetDemands_63 : decode cX6_meetDemands 63 = .ok (.iload 4, 2) := by decide +kernel
theorem dX6_meetDemands_65 : decode cX6_meetDemands 65 = .ok (.ifCond .ge 19, 3) := by decide +kernel
theorem dX6_meetDemands_68 : decode cX6_meetDemands 68 = .ok (.aload_n 0, 1) := by decide +kernel
theorem dX6_meetDemands_69 : decode cX6_meetDemands 69 = .ok (.getfield 12, 3) := by decide +kernel
theorem dX6_meetDemands_72 : decode cX6_meetDemands 72 = .ok (.iload_n 3, 1) := by decide +kernel
theorem dX6_meetDemands_73 : decode cX6_meetDemands 73 = .ok (.iload_n 2, 1) := by decide +kernel
theorem dX6_meetDemands_74 : decode cX6_meetDemands 74 = .ok (.iload 4, 2) := by decide +kernel
theorem dX6_meetDemands_76 : decode cX6_meetDemands 76 = .ok (.ineg, 1) := by decide +kernel
theorem dX6_meetDemands_77 : decode cX6_meetDemands 77 = .ok (.iload 4, 2) := by decide +kernel
theorem dX6_meetDemands_79 : decode cX6_meetDemands 79 = .ok (.ineg, 1) := by decide +kernel
theorem dX6_meetDemands_80 : decode cX6_meetDemands 80 = .ok (.iconst 0, 1) := by decide +kernel
theorem dX6_meetDemands_81 : decode cX6_meetDemands 81 = .ok (.invokevirtual 46, 3) := by decide +kernel
theorem dX6_meetDemands_84 : decode cX6_meetDemands 84 = .ok (.iinc 3 1, 3) := by decide +kernel
theorem dX6_meetDemands_87 : decode cX6_meetDemands 87 = .ok (.goto (-62), 3) := by decide +kernel
theorem dX6_meetDemands_90 : decode cX6_meetDemands 90 = .ok (.aload_n 0, 1) := by decide +kernel
theorem dX6_meetDemands_91 : decode cX6_meetDemands 91 = .ok (.getfield 12, 3) := by decide +kernel
theorem dX6_meetDemands_94 : decode cX6_meetDemands 94 = .ok (.invokevirtual 70, 3) := by decide +kernel
theorem dX6_meetDemands_97 : decode cX6_meetDemands 97 = .ok (.ireturn, 1) := by decide +kernel
theorem dX6_arriveBy_0 : decode cX6_arriveBy 0 = .ok (.aload_n 0, 1) := by decide +kernel
theorem dX6_arriveBy_1 : decode cX6_arriveBy 1 = .ok (.getfield 12, 3) := by decide +kernel
theorem dX6_arriveBy_4 : decode cX6_arriveBy 4 = .ok (.aload_n 1, 1) := by decide +kernel
theorem dX6_arriveBy_5 : decode cX6_arriveBy 5 = .ok (.getfield 25, 3) := by decide +kernel
theorem dX6_arriveBy_8 : decode cX6_arriveBy 8 = .ok (.invokevirtual 30, 3) := by decide +kernel
theorem dX6_arriveBy_11 : decode cX6_arriveBy 11 = .ok (.iconst 0, 1) := by decide +kernel
theorem dX6_arriveBy_12 : decode cX6_arriveBy 12 = .ok (.istore 5, 2) := by decide +kernel
theorem dX6_arriveBy_14 : decode cX6_arriveBy 14 = .ok (.iload 5, 2) := by decide +kernel
theorem dX6_arriveBy_16 : decode cX6_arriveBy 16 = .ok (.aload_n 1, 1) := by decide +kernel
theorem dX6_arriveBy_17 : decode cX6_arriveBy 17 = .ok (.getfield 38, 3) := by decide +kernel
theorem dX6_arriveBy_20 : decode cX6_arriveBy 20 = .ok (.if_icmp .ge 39, 3) := by decide +kernel
theorem dX6_arriveBy_23 : decode cX6_arriveBy 23 = .ok (.aload_n 0, 1) := by decide +kernel
theorem dX6_arriveBy_24 : decode cX6_arriveBy 24 = .ok (.getfield 12, 3) := by decide +kernel
theorem dX6_arriveBy_27 : decode cX6_arriveBy 27 = .ok (.aload_n 1, 1) := by decide +kernel
theorem dX6_arriveBy_28 : decode cX6_arriveBy 28 = .ok (.getfield 50, 3) := by decide +kernel
theorem dX6_arriveBy_31 : decode cX6_arriveBy 31 = .ok (.iload 5, 2) := by decide +kernel
theorem dX6_arriveBy_33 : decode cX6_arriveBy 33 = .ok (.iaload, 1) := by decide +kernel
theorem dX6_arriveBy_34 : decode cX6_arriveBy 34 = .ok (.aload_n 1, 1) := by decide +kernel
theorem dX6_arriveBy_35 : decode cX6_arriveBy 35 = .ok (.getfield 54, 3) := by decide +kernel
theorem dX6_arriveBy_38 : decode cX6_arriveBy 38 = .ok (.iload 5, 2) := by decide +kernel
theorem dX6_arriveBy_40 : decode cX6_arriveBy 40 = .ok (.iaload, 1) := by decide +kernel
theorem dX6_arriveBy_41 : decode cX6_arriveBy 41 = .ok (.iconst 0, 1) := by decide +kernel
theorem dX6_arriveBy_42 : decode cX6_arriveBy 42 = .ok (.aload_n 1, 1) := by decide +kernel
theorem dX6_arriveBy_43 : decode cX6_arriveBy 43 = .ok (.getfield 60, 3) := by decide +kernel
theorem dX6_arriveBy_46 : decode cX6_arriveBy 46 = .ok (.iload 5, 2) := by decide +kernel
theorem dX6_arriveBy_48 : decode cX6_arriveBy 48 = .ok (.iaload, 1) := by decide +kernel
theorem dX6_arriveBy_49 : decode cX6_arriveBy 49 = .ok (.iconst 1, 1) := by decide +kernel
theorem dX6_arriveBy_50 : decode cX6_arriveBy 50 = .ok (.invokevirtual 46, 3) := by decide +kernel
theorem dX6_arriveBy_53 : decode cX6_arriveBy 53 = .ok (.iinc 5 1, 3) := by decide +kernel
theorem dX6_arriveBy_56 : decode cX6_arriveBy 56 = .ok (.goto (-42), 3) := by decide +kernel
theorem dX6_arriveBy_59 : decode cX6_arriveBy 59 = .ok (.aload_n 0, 1) := by decide +kernel
theorem dX6_arriveBy_60 : decode cX6_arriveBy 60 = .ok (.getfield 12, 3) := by decide +kernel
theorem dX6_arriveBy_63 : decode cX6_arriveBy 63 = .ok (.iload_n 3, 1) := by decide +kernel
theorem dX6_arriveBy_64 : decode cX6_arriveBy 64 = .ok (.iload_n 2, 1) := by decide +kernel
theorem dX6_arriveBy_65 : decode cX6_arriveBy 65 = .ok (.iconst 0, 1) := by decide +kernel
theorem dX6_arriveBy_66 : decode cX6_arriveBy 66 = .ok (.ldc 45, 2) := by decide +kernel
theorem dX6_arriveBy_68 : decode cX6_arriveBy 68 = .ok (.iload 4, 2) := by decide +kernel
theorem dX6_arriveBy_70 : decode cX6_arriveBy 70 = .ok (.iconst 1, 1) := by decide +kernel
theorem dX6_arriveBy_71 : decode cX6_arriveBy 71 = .ok (.iadd, 1) := by decide +kernel
theorem dX6_arriveBy_72 : decode cX6_arriveBy 72 = .ok (.ineg, 1) := by decide +kernel
theorem dX6_arriveBy_73 : decode cX6_arriveBy 73 = .ok (.invokevirtual 46, 3) := by decide +kernel
theorem dX6_arriveBy_76 : decode cX6_arriveBy 76 = .ok (.aload_n 0, 1) := by decide +kernel
theorem dX6_arriveBy_77 : decode cX6_arriveBy 77 = .ok (.getfield 12, 3) := by decide +kernel
theorem dX6_arriveBy_80 : decode cX6_arriveBy 80 = .ok (.invokevirtual 91, 3) := by decide +kernel
theorem dX6_arriveBy_83 : decode cX6_arriveBy 83 = .ok (.aload_n 0, 1) := by decide +kernel
theorem dX6_arriveBy_84 : decode cX6_arriveBy 84 = .ok (.getfield 12, 3) := by decide +kernel
theorem dX6_arriveBy_87 : decode cX6_arriveBy 87 = .ok (.aload_n 1, 1) := by decide +kernel
theorem dX6_arriveBy_88 : decode cX6_arriveBy 88 = .ok (.getfield 38, 3) := by decide +kernel
theorem dX6_arriveBy_91 : decode cX6_arriveBy 91 = .ok (.iconst 1, 1) := by decide +kernel
theorem dX6_arriveBy_92 : decode cX6_arriveBy 92 = .ok (.iadd, 1) := by decide +kernel
theorem dX6_arriveBy_93 : decode cX6_arriveBy 93 = .ok (.invokevirtual 97, 3) := by decide +kernel
theorem dX6_arriveBy_96 : decode cX6_arriveBy 96 = .ok (.ineg, 1) := by decide +kernel
theorem dX6_arriveBy_97 : decode cX6_arriveBy 97 = .ok (.ireturn, 1) := by decide +kernel
theorem dX6_fills_0 : decode cX6_fills 0 = .ok (.iconst 0, 1) := by decide +kernel
theorem dX6_fills_1 : decode cX6_fills 1 = .ok (.istore_n 3, 1) := by decide +kernel
theorem dX6_fills_2 : decode cX6_fills 2 = .ok (.iload_n 3, 1) := by decide +kernel
theorem dX6_fills_3 : decode cX6_fills 3 = .ok (.aload_n 1, 1) := by decide +kernel
theorem dX6_fills_4 : decode cX6_fills 4 = .ok (.getfield 38, 3) := by decide +kernel
theorem dX6_fills_7 : decode cX6_fills 7 = .ok (.if_icmp .ge 85, 3) := by decide +kernel
theorem dX6_fills_10 : decode cX6_fills 10 = .ok (.iload_n 2, 1) := by decide +kernel
theorem dX6_fills_11 : decode cX6_fills 11 = .ok (.aload_n 1, 1) := by decide +kernel
theorem dX6_fills_12 : decode cX6_fills 12 = .ok (.getfield 50, 3) := by decide +kernel
theorem dX6_fills_15 : decode cX6_fills 15 = .ok (.iload_n 3, 1) := by decide +kernel
theorem dX6_fills_16 : decode cX6_fills 16 = .ok (.iaload, 1) := by decide +kernel
theorem dX6_fills_17 : decode cX6_fills 17 = .ok (.aload_n 1, 1) := by decide +kernel
theorem dX6_fills_18 : decode cX6_fills 18 = .ok (.getfield 54, 3) := by decide +kernel
theorem dX6_fills_21 : decode cX6_fills 21 = .ok (.iload_n 3, 1) := by decide +kernel
theorem dX6_fills_22 : decode cX6_fills 22 = .ok (.iaload, 1) := by decide +kernel
theorem dX6_fills_23 : decode cX6_fills 23 = .ok (.invokestatic 122, 3) := by decide +kernel
theorem dX6_fills_26 : decode cX6_fills 26 = .ok (.istore 4, 2) := by decide +kernel
theorem dX6_fills_28 : decode cX6_fills 28 = .ok (.iload_n 2, 1) := by decide +kernel
theorem dX6_fills_29 : decode cX6_fills 29 = .ok (.aload_n 1, 1) := by decide +kernel
theorem dX6_fills_30 : decode cX6_fills 30 = .ok (.getfield 54, 3) := by decide +kernel
theorem dX6_fills_33 : decode cX6_fills 33 = .ok (.iload_n 3, 1) := by decide +kernel
theorem dX6_fills_34 : decode cX6_fills 34 = .ok (.iaload, 1) := by decide +kernel
theorem dX6_fills_35 : decode cX6_fills 35 = .ok (.aload_n 1, 1) := by decide +kernel
theorem dX6_fills_36 : decode cX6_fills 36 = .ok (.getfield 50, 3) := by decide +kernel
theorem dX6_fills_39 : decode cX6_fills 39 = .ok (.iload_n 3, 1) := by decide +kernel
theorem dX6_fills_40 : decode cX6_fills 40 = .ok (.iaload, 1) := by decide +kernel
theorem dX6_fills_41 : decode cX6_fills 41 = .ok (.invokestatic 122, 3) := by decide +kernel
theorem dX6_fills_44 : decode cX6_fills 44 = .ok (.istore 5, 2) := by decide +kernel
theorem dX6_fills_46 : decode cX6_fills 46 = .ok (.iload 4, 2) := by decide +kernel
theorem dX6_fills_48 : decode cX6_fills 48 = .ok (.ifCond .eq 17, 3) := by decide +kernel
theorem dX6_fills_51 : decode cX6_fills 51 = .ok (.aload_n 0, 1) := by decide +kernel
theorem dX6_fills_52 : decode cX6_fills 52 = .ok (.iload_n 3, 1) := by decide +kernel
theorem dX6_fills_53 : decode cX6_fills 53 = .ok (.invokevirtual 126, 3) := by decide +kernel
theorem dX6_fills_56 : decode cX6_fills 56 = .ok (.aload_n 1, 1) := by decide +kernel
theorem dX6_fills_57 : decode cX6_fills 57 = .ok (.getfield 60, 3) := by decide +kernel
theorem dX6_fills_60 : decode cX6_fills 60 = .ok (.iload_n 3, 1) := by decide +kernel
theorem dX6_fills_61 : decode cX6_fills 61 = .ok (.iaload, 1) := by decide +kernel
theorem dX6_fills_62 : decode cX6_fills 62 = .ok (.if_icmp .ne 22, 3) := by decide +kernel
theorem dX6_fills_65 : decode cX6_fills 65 = .ok (.iload 5, 2) := by decide +kernel
theorem dX6_fills_67 : decode cX6_fills 67 = .ok (.ifCond .eq 19, 3) := by decide +kernel
theorem dX6_fills_70 : decode cX6_fills 70 = .ok (.aload_n 0, 1) := by decide +kernel
theorem dX6_fills_71 : decode cX6_fills 71 = .ok (.iload_n 3, 1) := by decide +kernel
theorem dX6_fills_72 : decode cX6_fills 72 = .ok (.invokevirtual 126, 3) := by decide +kernel
theorem dX6_fills_75 : decode cX6_fills 75 = .ok (.aload_n 1, 1) := by decide +kernel
theorem dX6_fills_76 : decode cX6_fills 76 = .ok (.getfield 57, 3) := by decide +kernel
theorem dX6_fills_79 : decode cX6_fills 79 = .ok (.iload_n 3, 1) := by decide +kernel
theorem dX6_fills_80 : decode cX6_fills 80 = .ok (.iaload, 1) := by decide +kernel
theorem dX6_fills_81 : decode cX6_fills 81 = .ok (.if_icmp .eq 5, 3) := by decide +kernel
theorem dX6_fills_84 : decode cX6_fills 84 = .ok (.iconst 0, 1) := by decide +kernel
theorem dX6_fills_85 : decode cX6_fills 85 = .ok (.ireturn, 1) := by decide +kernel
theorem dX6_fills_86 : decode cX6_fills 86 = .ok (.iinc 3 1, 3) := by decide +kernel
theorem dX6_fills_89 : decode cX6_fills 89 = .ok (.goto (-87), 3) := by decide +kernel
theorem dX6_fills_92 : decode cX6_fills 92 = .ok (.iconst 1, 1) := by decide +kernel
theorem dX6_fills_93 : decode cX6_fills 93 = .ok (.ireturn, 1) := by decide +kernel
theorem dX6_arePricesRight_0 : decode cX6_arePricesRight 0 = .ok (.iconst 0, 1) := by decide +kernel
theorem dX6_arePricesRight_1 : decode cX6_arePricesRight 1 = .ok (.istore_n 2, 1) := by decide +kernel
theorem dX6_arePricesRight_2 : decode cX6_arePricesRight 2 = .ok (.iload_n 2, 1) := by decide +kernel
theorem dX6_arePricesRight_3 : decode cX6_arePricesRight 3 = .ok (.aload_n 1, 1) := by decide +kernel
theorem dX6_arePricesRight_4 : decode cX6_arePricesRight 4 = .ok (.getfield 38, 3) := by decide +kernel
theorem dX6_arePricesRight_7 : decode cX6_arePricesRight 7 = .ok (.if_icmp .ge 104, 3) := by decide +kernel
theorem dX6_arePricesRight_10 : decode cX6_arePricesRight 10 = .ok (.aload_n 0, 1) := by decide +kernel
theorem dX6_arePricesRight_11 : decode cX6_arePricesRight 11 = .ok (.aload_n 1, 1) := by decide +kernel
theorem dX6_arePricesRight_12 : decode cX6_arePricesRight 12 = .ok (.getfield 50, 3) := by decide +kernel
theorem dX6_arePricesRight_15 : decode cX6_arePricesRight 15 = .ok (.iload_n 2, 1) := by decide +kernel
theorem dX6_arePricesRight_16 : decode cX6_arePricesRight 16 = .ok (.iaload, 1) := by decide +kernel
theorem dX6_arePricesRight_17 : decode cX6_arePricesRight 17 = .ok (.invokevirtual 127, 3) := by decide +kernel
theorem dX6_arePricesRight_20 : decode cX6_arePricesRight 20 = .ok (.istore_n 3, 1) := by decide +kernel
theorem dX6_arePricesRight_21 : decode cX6_arePricesRight 21 = .ok (.aload_n 0, 1) := by decide +kernel
theorem dX6_arePricesRight_22 : decode cX6_arePricesRight 22 = .ok (.aload_n 1, 1) := by decide +kernel
theorem dX6_arePricesRight_23 : decode cX6_arePricesRight 23 = .ok (.getfield 54, 3) := by decide +kernel
theorem dX6_arePricesRight_26 : decode cX6_arePricesRight 26 = .ok (.iload_n 2, 1) := by decide +kernel
theorem dX6_arePricesRight_27 : decode cX6_arePricesRight 27 = .ok (.iaload, 1) := by decide +kernel
theorem dX6_arePricesRight_28 : decode cX6_arePricesRight 28 = .ok (.invokevirtual 127, 3) := by decide +kernel
theorem dX6_arePricesRight_31 : decode cX6_arePricesRight 31 = .ok (.istore 4, 2) := by decide +kernel
theorem dX6_arePricesRight_33 : decode cX6_arePricesRight 33 = .ok (.aload_n 0, 1) := by decide +kernel
theorem dX6_arePricesRight_34 : decode cX6_arePricesRight 34 = .ok (.iload_n 2, 1) := by decide +kernel
theorem dX6_arePricesRight_35 : decode cX6_arePricesRight 35 = .ok (.invokevirtual 126, 3) := by decide +kernel
theorem dX6_arePricesRight_38 : decode cX6_arePricesRight 38 = .ok (.istore 5, 2) := by decide +kernel
theorem dX6_arePricesRight_40 : decode cX6_arePricesRight 40 = .ok (.iload 5, 2) := by decide +kernel
theorem dX6_arePricesRight_42 : decode cX6_arePricesRight 42 = .ok (.aload_n 1, 1) := by decide +kernel
theorem dX6_arePricesRight_43 : decode cX6_arePricesRight 43 = .ok (.getfield 60, 3) := by decide +kernel
theorem dX6_arePricesRight_46 : decode cX6_arePricesRight 46 = .ok (.iload_n 2, 1) := by decide +kernel
theorem dX6_arePricesRight_47 : decode cX6_arePricesRight 47 = .ok (.iaload, 1) := by decide +kernel
theorem dX6_arePricesRight_48 : decode cX6_arePricesRight 48 = .ok (.if_icmp .ge 24, 3) := by decide +kernel
theorem dX6_arePricesRight_51 : decode cX6_arePricesRight 51 = .ok (.iload_n 3, 1) := by decide +kernel
theorem dX6_arePricesRight_52 : decode cX6_arePricesRight 52 = .ok (.ldc 109, 2) := by decide +kernel
theorem dX6_arePricesRight_54 : decode cX6_arePricesRight 54 = .ok (.if_icmp .ge 18, 3) := by decide +kernel
theorem dX6_arePricesRight_57 : decode cX6_arePricesRight 57 = .ok (.iload 4, 2) := by decide +kernel
theorem dX6_arePricesRight_59 : decode cX6_arePricesRight 59 = .ok (.iload_n 3, 1) := by decide +kernel
theorem dX6_arePricesRight_60 : decode cX6_arePricesRight 60 = .ok (.aload_n 1, 1) := by decide +kernel
theorem dX6_arePricesRight_61 : decode cX6_arePricesRight 61 = .ok (.getfield 63, 3) := by decide +kernel
theorem dX6_arePricesRight_64 : decode cX6_arePricesRight 64 = .ok (.iload_n 2, 1) := by decide +kernel
theorem dX6_arePricesRight_65 : decode cX6_arePricesRight 65 = .ok (.iaload, 1) := by decide +kernel
theorem dX6_arePricesRight_66 : decode cX6_arePricesRight 66 = .ok (.iadd, 1) := by decide +kernel
theorem dX6_arePricesRight_67 : decode cX6_arePricesRight 67 = .ok (.if_icmp .le 5, 3) := by decide +kernel
theorem dX6_arePricesRight_70 : decode cX6_arePricesRight 70 = .ok (.iconst 0, 1) := by decide +kernel
theorem dX6_arePricesRight_71 : decode cX6_arePricesRight 71 = .ok (.ireturn, 1) := by decide +kernel
theorem dX6_arePricesRight_72 : decode cX6_arePricesRight 72 = .ok (.iload 5, 2) := by decide +kernel
theorem dX6_arePricesRight_74 : decode cX6_arePricesRight 74 = .ok (.aload_n 1, 1) := by decide +kernel
theorem dX6_arePricesRight_75 : decode cX6_arePricesRight 75 = .ok (.getfield 57, 3) := by decide +kernel
theorem dX6_arePricesRight_78 : decode cX6_arePricesRight 78 = .ok (.iload_n 2, 1) := by decide +kernel
theorem dX6_arePricesRight_79 : decode cX6_arePricesRight 79 = .ok (.iaload, 1) := by decide +kernel
theorem dX6_arePricesRight_80 : decode cX6_arePricesRight 80 = .ok (.if_icmp .le 25, 3) := by decide +kernel
theorem dX6_arePricesRight_83 : decode cX6_arePricesRight 83 = .ok (.iload 4, 2) := by decide +kernel
theorem dX6_arePricesRight_85 : decode cX6_arePricesRight 85 = .ok (.ldc 109, 2) := by decide +kernel
theorem dX6_arePricesRight_87 : decode cX6_arePricesRight 87 = .ok (.if_icmp .ge 18, 3) := by decide +kernel
theorem dX6_arePricesRight_90 : decode cX6_arePricesRight 90 = .ok (.iload_n 3, 1) := by decide +kernel
theorem dX6_arePricesRight_91 : decode cX6_arePricesRight 91 = .ok (.iload 4, 2) := by decide +kernel
theorem dX6_arePricesRight_93 : decode cX6_arePricesRight 93 = .ok (.aload_n 1, 1) := by decide +kernel
theorem dX6_arePricesRight_94 : decode cX6_arePricesRight 94 = .ok (.getfield 63, 3) := by decide +kernel
theorem dX6_arePricesRight_97 : decode cX6_arePricesRight 97 = .ok (.iload_n 2, 1) := by decide +kernel
theorem dX6_arePricesRight_98 : decode cX6_arePricesRight 98 = .ok (.iaload, 1) := by decide +kernel
theorem dX6_arePricesRight_99 : decode cX6_arePricesRight 99 = .ok (.isub, 1) := by decide +kernel
theorem dX6_arePricesRight_100 : decode cX6_arePricesRight 100 = .ok (.if_icmp .le 5, 3) := by decide +kernel
theorem dX6_arePricesRight_103 : decode cX6_arePricesRight 103 = .ok (.iconst 0, 1) := by decide +kernel
theorem dX6_arePricesRight_104 : decode cX6_arePricesRight 104 = .ok (.ireturn, 1) := by decide +kernel
theorem dX6_arePricesRight_105 : decode cX6_arePricesRight 105 = .ok (.iinc 2 1, 3) := by decide +kernel
theorem dX6_arePricesRight_108 : decode cX6_arePricesRight 108 = .ok (.goto (-106), 3) := by decide +kernel
theorem dX6_arePricesRight_111 : decode cX6_arePricesRight 111 = .ok (.iconst 1, 1) := by decide +kernel
theorem dX6_arePricesRight_112 : decode cX6_arePricesRight 112 = .ok (.ireturn, 1) := by decide +kernel
theorem dX7_init_0 : decode cX7_init 0 = .ok (.aload_n 0, 1) := by decide +kernel
theorem dX7_init_1 : decode cX7_init 1 = .ok (.invokespecial 1, 3) := by decide +kernel
theorem dX7_init_4 : decode cX7_init 4 = .ok (.aload_n 0, 1) := by decide +kernel
theorem dX7_init_5 : decode cX7_init 5 = .ok (.bipush 16, 2) := by decide +kernel
theorem dX7_init_7 : decode cX7_init 7 = .ok (.newarray .int, 2) := by decide +kernel
theorem dX7_init_9 : decode cX7_init 9 = .ok (.putfield 9, 3) := by decide +kernel
theorem dX7_init_12 : decode cX7_init 12 = .ok (.aload_n 0, 1) := by decide +kernel
theorem dX7_init_13 : decode cX7_init 13 = .ok (.bipush 16, 2) := by decide +kernel
theorem dX7_init_15 : decode cX7_init 15 = .ok (.newarray .int, 2) := by decide +kernel
theorem dX7_init_17 : decode cX7_init 17 = .ok (.putfield 13, 3) := by decide +kernel
theorem dX7_init_20 : decode cX7_init 20 = .ok (.aload_n 0, 1) := by decide +kernel
theorem dX7_init_21 : decode cX7_init 21 = .ok (.iconst 4, 1) := by decide +kernel
theorem dX7_init_22 : decode cX7_init 22 = .ok (.newarray .int, 2) := by decide +kernel
theorem dX7_init_24 : decode cX7_init 24 = .ok (.putfield 16, 3) := by decide +kernel
theorem dX7_init_27 : decode cX7_init 27 = .ok (.aload_n 0, 1) := by decide +kernel
theorem dX7_init_28 : decode cX7_init 28 = .ok (.iconst 4, 1) := by decide +kernel
theorem dX7_init_29 : decode cX7_init 29 = .ok (.newarray .int, 2) := by decide +kernel
theorem dX7_init_31 : decode cX7_init 31 = .ok (.putfield 19, 3) := by decide +kernel
theorem dX7_init_34 : decode cX7_init 34 = .ok (.aload_n 0, 1) := by decide +kernel
theorem dX7_init_35 : decode cX7_init 35 = .ok (.iconst 1, 1) := by decide +kernel
theorem dX7_init_36 : decode cX7_init 36 = .ok (.putfield 22, 3) := by decide +kernel
theorem dX7_init_39 : decode cX7_init 39 = .ok (.aload_n 0, 1) := by decide +kernel
theorem dX7_init_40 : decode cX7_init 40 = .ok (.iconst 1, 1) := by decide +kernel
theorem dX7_init_41 : decode cX7_init 41 = .ok (.putfield 26, 3) := by decide +kernel
theorem dX7_init_44 : decode cX7_init 44 = .ok (.return_, 1) := by decide +kernel
theorem dX7_start_0 : decode cX7_start 0 = .ok (.aload_n 0, 1) := by decide +kernel
theorem dX7_start_1 : decode cX7_start 1 = .ok (.iload_n 1, 1) := by decide +kernel
theorem dX7_start_2 : decode cX7_start 2 = .ok (.putfield 22, 3) := by decide +kernel
theorem dX7_start_5 : decode cX7_start 5 = .ok (.aload_n 0, 1) := by decide +kernel
theorem dX7_start_6 : decode cX7_start 6 = .ok (.iload_n 2, 1) := by decide +kernel
theorem dX7_start_7 : decode cX7_start 7 = .ok (.putfield 26, 3) := by decide +kernel
theorem dX7_start_10 : decode cX7_start 10 = .ok (.iconst 0, 1) := by decide +kernel
theorem dX7_start_11 : decode cX7_start 11 = .ok (.istore_n 3, 1) := by decide +kernel
theorem dX7_start_12 : decode cX7_start 12 = .ok (.iload_n 3, 1) := by decide +kernel
theorem dX7_start_13 : decode cX7_start 13 = .ok (.aload_n 0, 1) := by decide +kernel
theorem dX7_start_14 : decode cX7_start 14 = .ok (.getfield 9, 3) := by decide +kernel
theorem dX7_start_17 : decode cX7_start 17 = .ok (.arraylength, 1) := by decide +kernel
theorem dX7_start_18 : decode cX7_start 18 = .ok (.if_icmp .ge 16, 3) := by decide +kernel
theorem dX7_start_21 : decode cX7_start 21 = .ok (.aload_n 0, 1) := by decide +kernel
theorem dX7_start_22 : decode cX7_start 22 = .ok (.getfield 9, 3) := by decide +kernel
theorem dX7_start_25 : decode cX7_start 25 = .ok (.iload_n 3, 1) := by decide +kernel
theorem dX7_start_26 : decode cX7_start 26 = .ok (.iconst 0, 1) := by decide +kernel
theorem dX7_start_27 : decode cX7_start 27 = .ok (.iastore, 1) := by decide +kernel
theorem dX7_start_28 : decode cX7_start 28 = .ok (.iinc 3 1, 3) := by decide +kernel
theorem dX7_start_31 : decode cX7_start 31 = .ok (.goto (-19), 3) := by decide +kernel
theorem dX7_start_34 : decode cX7_start 34 = .ok (.return_, 1) := by decide +kernel
theorem dX7_placeOf_0 : decode cX7_placeOf 0 = .ok (.iload_n 1, 1) := by decide +kernel
theorem dX7_placeOf_1 : decode cX7_placeOf 1 = .ok (.aload_n 0, 1) := by decide +kernel
theorem dX7_placeOf_2 : decode cX7_placeOf 2 = .ok (.getfield 26, 3) := by decide +kernel
theorem dX7_placeOf_5 : decode cX7_placeOf 5 = .ok (.imul, 1) := by decide +kernel
theorem dX7_placeOf_6 : decode cX7_placeOf 6 = .ok (.iload_n 2, 1) := by decide +kernel
theorem dX7_placeOf_7 : decode cX7_placeOf 7 = .ok (.iadd, 1) := by decide +kernel
theorem dX7_placeOf_8 : decode cX7_placeOf 8 = .ok (.ireturn, 1) := by decide +kernel
theorem dX7_addUp_0 : decode cX7_addUp 0 = .ok (.aload_n 0, 1) := by decide +kernel
theorem dX7_addUp_1 : decode cX7_addUp 1 = .ok (.iconst 0, 1) := by decide +kernel
theorem dX7_addUp_2 : decode cX7_addUp 2 = .ok (.putfield 29, 3) := by decide +kernel
theorem dX7_addUp_5 : decode cX7_addUp 5 = .ok (.iconst 0, 1) := by decide +kernel
theorem dX7_addUp_6 : decode cX7_addUp 6 = .ok (.istore_n 2, 1) := by decide +kernel
theorem dX7_addUp_7 : decode cX7_addUp 7 = .ok (.iload_n 2, 1) := by decide +kernel
theorem dX7_addUp_8 : decode cX7_addUp 8 = .ok (.iconst 4, 1) := by decide +kernel
theorem dX7_addUp_9 : decode cX7_addUp 9 = .ok (.if_icmp .ge 23, 3) := by decide +kernel
theorem dX7_addUp_12 : decode cX7_addUp 12 = .ok (.aload_n 0, 1) := by decide +kernel
theorem dX7_addUp_13 : decode cX7_addUp 13 = .ok (.getfield 16, 3) := by decide +kernel
theorem dX7_addUp_16 : decode cX7_addUp 16 = .ok (.iload_n 2, 1) := by decide +kernel
theorem dX7_addUp_17 : decode cX7_addUp 17 = .ok (.iconst 0, 1) := by decide +kernel
theorem dX7_addUp_18 : decode cX7_addUp 18 = .ok (.iastore, 1) := by decide +kernel
theorem dX7_addUp_19 : decode cX7_addUp 19 = .ok (.aload_n 0, 1) := by decide +kernel
theorem dX7_addUp_20 : decode cX7_addUp 20 = .ok (.getfield 19, 3) := by decide +kernel
theorem dX7_addUp_23 : decode cX7_addUp 23 = .ok (.iload_n 2, 1) := by decide +kernel
theorem dX7_addUp_24 : decode cX7_addUp 24 = .ok (.iconst 0, 1) := by decide +kernel
theorem dX7_addUp_25 : decode cX7_addUp 25 = .ok (.iastore, 1) := by decide +kernel
theorem dX7_addUp_26 : decode cX7_addUp 26 = .ok (.iinc 2 1, 3) := by decide +kernel
theorem dX7_addUp_29 : decode cX7_addUp 29 = .ok (.goto (-22), 3) := by decide +kernel
theorem dX7_addUp_32 : decode cX7_addUp 32 = .ok (.iconst 0, 1) := by decide +kernel
theorem dX7_addUp_33 : decode cX7_addUp 33 = .ok (.istore_n 2, 1) := by decide +kernel
theorem dX7_addUp_34 : decode cX7_addUp 34 = .ok (.iload_n 2, 1) := by decide +kernel
theorem dX7_addUp_35 : decode cX7_addUp 35 = .ok (.aload_n 0, 1) := by decide +kernel
theorem dX7_addUp_36 : decode cX7_addUp 36 = .ok (.getfield 22, 3) := by decide +kernel
theorem dX7_addUp_39 : decode cX7_addUp 39 = .ok (.if_icmp .ge 68, 3) := by decide +kernel
theorem dX7_addUp_42 : decode cX7_addUp 42 = .ok (.iconst 0, 1) := by decide +kernel
theorem dX7_addUp_43 : decode cX7_addUp 43 = .ok (.istore_n 3, 1) := by decide +kernel
theorem dX7_addUp_44 : decode cX7_addUp 44 = .ok (.iload_n 3, 1) := by decide +kernel
theorem dX7_addUp_45 : decode cX7_addUp 45 = .ok (.aload_n 0, 1) := by decide +kernel
theorem dX7_addUp_46 : decode cX7_addUp 46 = .ok (.getfield 26, 3) := by decide +kernel
theorem dX7_addUp_49 : decode cX7_addUp 49 = .ok (.if_icmp .ge 52, 3) := by decide +kernel
theorem dX7_addUp_52 : decode cX7_addUp 52 = .ok (.aload_n 1, 1) := by decide +kernel
theorem dX7_addUp_53 : decode cX7_addUp 53 = .ok (.aload_n 0, 1) := by decide +kernel
theorem dX7_addUp_54 : decode cX7_addUp 54 = .ok (.iload_n 2, 1) := by decide +kernel
theorem dX7_addUp_55 : decode cX7_addUp 55 = .ok (.iload_n 3, 1) := by decide +kernel
theorem dX7_addUp_56 : decode cX7_addUp 56 = .ok (.invokevirtual 32, 3) := by decide +kernel
theorem dX7_addUp_59 : decode cX7_addUp 59 = .ok (.iaload, 1) := by decide +kernel
theorem dX7_addUp_60 : decode cX7_addUp 60 = .ok (.istore 4, 2) := by decide +kernel
theorem dX7_addUp_62 : decode cX7_addUp 62 = .ok (.aload_n 0, 1) := by decide +kernel
theorem dX7_addUp_63 : decode cX7_addUp 63 = .ok (.getfield 16, 3) := by decide +kernel
theorem dX7_addUp_66 : decode cX7_addUp 66 = .ok (.iload_n 2, 1) := by decide +kernel
theorem dX7_addUp_67 : decode cX7_addUp 67 = .ok (.dup2, 1) := by decide +kernel
theorem dX7_addUp_68 : decode cX7_addUp 68 = .ok (.iaload, 1) := by decide +kernel
theorem dX7_addUp_69 : decode cX7_addUp 69 = .ok (.iload 4, 2) := by decide +kernel
theorem dX7_addUp_71 : decode cX7_addUp 71 = .ok (.iadd, 1) := by decide +kernel
theorem dX7_addUp_72 : decode cX7_addUp 72 = .ok (.iastore, 1) := by decide +kernel
theorem dX7_addUp_73 : decode cX7_addUp 73 = .ok (.aload_n 0, 1) := by decide +kernel
theorem dX7_addUp_74 : decode cX7_addUp 74 = .ok (.getfield 19, 3) := by decide +kernel
theorem dX7_addUp_77 : decode cX7_addUp 77 = .ok (.iload_n 3, 1) := by decide +kernel
theorem dX7_addUp_78 : decode cX7_addUp 78 = .ok (.dup2, 1) := by decide +kernel
theorem dX7_addUp_79 : decode cX7_addUp 79 = .ok (.iaload, 1) := by decide +kernel
theorem dX7_addUp_80 : decode cX7_addUp 80 = .ok (.iload 4, 2) := by decide +kernel
theorem dX7_addUp_82 : decode cX7_addUp 82 = .ok (.iadd, 1) := by decide +kernel
theorem dX7_addUp_83 : decode cX7_addUp 83 = .ok (.iastore, 1) := by decide +kernel
theorem dX7_addUp_84 : decode cX7_addUp 84 = .ok (.aload_n 0, 1) := by decide +kernel
theorem dX7_addUp_85 : decode cX7_addUp 85 = .ok (.dup, 1) := by decide +kernel
theorem dX7_addUp_86 : decode cX7_addUp 86 = .ok (.getfield 29, 3) := by decide +kernel
theorem dX7_addUp_89 : decode cX7_addUp 89 = .ok (.iload 4, 2) := by decide +kernel
theorem dX7_addUp_91 : decode cX7_addUp 91 = .ok (.iadd, 1) := by decide +kernel
theorem dX7_addUp_92 : decode cX7_addUp 92 = .ok (.putfield 29, 3) := by decide +kernel
theorem dX7_addUp_95 : decode cX7_addUp 95 = .ok (.iinc 3 1, 3) := by decide +kernel
theorem dX7_addUp_98 : decode cX7_addUp 98 = .ok (.goto (-54), 3) := by decide +kernel
theorem dX7_addUp_101 : decode cX7_addUp 101 = .ok (.iinc 2 1, 3) := by decide +kernel
theorem dX7_addUp_104 : decode cX7_addUp 104 = .ok (.goto (-70), 3) := by decide +kernel
theorem dX7_addUp_107 : decode cX7_addUp 107 = .ok (.return_, 1) := by decide +kernel
theorem dX7_roundBy_0 : decode cX7_roundBy 0 = .ok (.aload_n 0, 1) := by decide +kernel
theorem dX7_roundBy_1 : decode cX7_roundBy 1 = .ok (.aload_n 0, 1) := by decide +kernel
theorem dX7_roundBy_2 : decode cX7_roundBy 2 = .ok (.getfield 9, 3) := by decide +kernel
theorem dX7_roundBy_5 : decode cX7_roundBy 5 = .ok (.invokevirtual 36, 3) := by decide +kernel
theorem dX7_roundBy_8 : decode cX7_roundBy 8 = .ok (.aload_n 0, 1) := by decide +kernel
theorem dX7_roundBy_9 : decode cX7_roundBy 9 = .ok (.getfield 22, 3) := by decide +kernel
theorem dX7_roundBy_12 : decode cX7_roundBy 12 = .ok (.aload_n 0, 1) := by decide +kernel
theorem dX7_roundBy_13 : decode cX7_roundBy 13 = .ok (.getfield 26, 3) := by decide +kernel
theorem dX7_roundBy_16 : decode cX7_roundBy 16 = .ok (.iadd, 1) := by decide +kernel
theorem dX7_roundBy_17 : decode cX7_roundBy 17 = .ok (.istore_n 2, 1) := by decide +kernel
theorem dX7_roundBy_18 : decode cX7_roundBy 18 = .ok (.iload_n 2, 1) := by decide +kernel
theorem dX7_roundBy_19 : decode cX7_roundBy 19 = .ok (.iconst 1, 1) := by decide +kernel
theorem dX7_roundBy_20 : decode cX7_roundBy 20 = .ok (.iadd, 1) := by decide +kernel
theorem dX7_roundBy_21 : decode cX7_roundBy 21 = .ok (.istore_n 3, 1) := by decide +kernel
theorem dX7_roundBy_22 : decode cX7_roundBy 22 = .ok (.aload_n 1, 1) := by decide +kernel
theorem dX7_roundBy_23 : decode cX7_roundBy 23 = .ok (.iload_n 3, 1) := by decide +kernel
theorem dX7_roundBy_24 : decode cX7_roundBy 24 = .ok (.iconst 1, 1) := by decide +kernel
theorem dX7_roundBy_25 : decode cX7_roundBy 25 = .ok (.iadd, 1) := by decide +kernel
theorem dX7_roundBy_26 : decode cX7_roundBy 26 = .ok (.invokevirtual 40, 3) := by decide +kernel
theorem dX7_roundBy_29 : decode cX7_roundBy 29 = .ok (.iconst 0, 1) := by decide +kernel
theorem dX7_roundBy_30 : decode cX7_roundBy 30 = .ok (.istore 4, 2) := by decide +kernel
theorem dX7_roundBy_32 : decode cX7_roundBy 32 = .ok (.iload 4, 2) := by decide +kernel
theorem dX7_roundBy_34 : decode cX7_roundBy 34 = .ok (.aload_n 0, 1) := by decide +kernel
theorem dX7_roundBy_35 : decode cX7_roundBy 35 = .ok (.getfield 22, 3) := by decide +kernel
theorem dX7_roundBy_38 : decode cX7_roundBy 38 = .ok (.if_icmp .ge 53, 3) := by decide +kernel
theorem dX7_roundBy_41 : decode cX7_roundBy 41 = .ok (.iconst 0, 1) := by decide +kernel
theorem dX7_roundBy_42 : decode cX7_roundBy 42 = .ok (.istore 5, 2) := by decide +kernel
theorem dX7_roundBy_44 : decode cX7_roundBy 44 = .ok (.iload 5, 2) := by decide +kernel
theorem dX7_roundBy_46 : decode cX7_roundBy 46 = .ok (.aload_n 0, 1) := by decide +kernel
theorem dX7_roundBy_47 : decode cX7_roundBy 47 = .ok (.getfield 26, 3) := by decide +kernel
theorem dX7_roundBy_50 : decode cX7_roundBy 50 = .ok (.if_icmp .ge 35, 3) := by decide +kernel
theorem dX7_roundBy_53 : decode cX7_roundBy 53 = .ok (.aload_n 1, 1) := by decide +kernel
theorem dX7_roundBy_54 : decode cX7_roundBy 54 = .ok (.iload 4, 2) := by decide +kernel
theorem dX7_roundBy_56 : decode cX7_roundBy 56 = .ok (.aload_n 0, 1) := by decide +kernel
theorem dX7_roundBy_57 : decode cX7_roundBy 57 = .ok (.getfield 22, 3) := by decide +kernel
theorem dX7_roundBy_60 : decode cX7_roundBy 60 = .ok (.iload 5, 2) := by decide +kernel
theorem dX7_roundBy_62 : decode cX7_roundBy 62 = .ok (.iadd, 1) := by decide +kernel
theorem dX7_roundBy_63 : decode cX7_roundBy 63 = .ok (.aload_n 0, 1) := by decide +kernel
theorem dX7_roundBy_64 : decode cX7_roundBy 64 = .ok (.getfield 9, 3) := by decide +kernel
theorem dX7_roundBy_67 : decode cX7_roundBy 67 = .ok (.aload_n 0, 1) := by decide +kernel
theorem dX7_roundBy_68 : decode cX7_roundBy 68 = .ok (.iload 4, 2) := by decide +kernel
theorem dX7_roundBy_70 : decode cX7_roundBy 70 = .ok (.iload 5, 2) := by decide +kernel
theorem dX7_roundBy_72 : decode cX7_roundBy 72 = .ok (.invokevirtual 32, 3) := by decide +kernel
theorem dX7_roundBy_75 : decode cX7_roundBy 75 = .ok (.iaload, 1) := by decide +kernel
theorem dX7_roundBy_76 : decode cX7_roundBy 76 = .ok (.invokestatic 46, 3) := by decide +kernel
theorem dX7_roundBy_79 : decode cX7_roundBy 79 = .ok (.iinc 5 1, 3) := by decide +kernel
theorem dX7_roundBy_82 : decode cX7_roundBy 82 = .ok (.goto (-38), 3) := by decide +kernel
theorem dX7_roundBy_85 : decode cX7_roundBy 85 = .ok (.iinc 4 1, 3) := by decide +kernel
theorem dX7_roundBy_88 : decode cX7_roundBy 88 = .ok (.goto (-56), 3) := by decide +kernel
theorem dX7_roundBy_91 : decode cX7_roundBy 91 = .ok (.iconst 0, 1) := by decide +kernel
theorem dX7_roundBy_92 : decode cX7_roundBy 92 = .ok (.istore 4, 2) := by decide +kernel
theorem dX7_roundBy_94 : decode cX7_roundBy 94 = .ok (.iload 4, 2) := by decide +kernel
theorem dX7_roundBy_96 : decode cX7_roundBy 96 = .ok (.aload_n 0, 1) := by decide +kernel
theorem dX7_roundBy_97 : decode cX7_roundBy 97 = .ok (.getfield 22, 3) := by decide +kernel
theorem dX7_roundBy_100 : decode cX7_roundBy 100 = .ok (.if_icmp .ge 23, 3) := by decide +kernel
theorem dX7_roundBy_103 : decode cX7_roundBy 103 = .ok (.aload_n 1, 1) := by decide +kernel
theorem dX7_roundBy_104 : decode cX7_roundBy 104 = .ok (.iload_n 2, 1) := by decide +kernel
theorem dX7_roundBy_105 : decode cX7_roundBy 105 = .ok (.iload 4, 2) := by decide +kernel
theorem dX7_roundBy_107 : decode cX7_roundBy 107 = .ok (.aload_n 0, 1) := by decide +kernel
theorem dX7_roundBy_108 : decode cX7_roundBy 108 = .ok (.getfield 16, 3) := by decide +kernel
theorem dX7_roundBy_111 : decode cX7_roundBy 111 = .ok (.iload 4, 2) := by decide +kernel
theorem dX7_roundBy_113 : decode cX7_roundBy 113 = .ok (.iaload, 1) := by decide +kernel
theorem dX7_roundBy_114 : decode cX7_roundBy 114 = .ok (.invokestatic 46, 3) := by decide +kernel
theorem dX7_roundBy_117 : decode cX7_roundBy 117 = .ok (.iinc 4 1, 3) := by decide +kernel
theorem dX7_roundBy_120 : decode cX7_roundBy 120 = .ok (.goto (-26), 3) := by decide +kernel
theorem dX7_roundBy_123 : decode cX7_roundBy 123 = .ok (.iconst 0, 1) := by decide +kernel
theorem dX7_roundBy_124 : decode cX7_roundBy 124 = .ok (.istore 4, 2) := by decide +kernel
theorem dX7_roundBy_126 : decode cX7_roundBy 126 = .ok (.iload 4, 2) := by decide +kernel
theorem dX7_roundBy_128 : decode cX7_roundBy 128 = .ok (.aload_n 0, 1) := by decide +kernel
theorem dX7_roundBy_129 : decode cX7_roundBy 129 = .ok (.getfield 26, 3) := by decide +kernel
theorem dX7_roundBy_132 : decode cX7_roundBy 132 = .ok (.if_icmp .ge 28, 3) := by decide +kernel
theorem dX7_roundBy_135 : decode cX7_roundBy 135 = .ok (.aload_n 1, 1) := by decide +kernel
theorem dX7_roundBy_136 : decode cX7_roundBy 136 = .ok (.aload_n 0, 1) := by decide +kernel
theorem dX7_roundBy_137 : decode cX7_roundBy 137 = .ok (.getfield 22, 3) := by decide +kernel
theorem dX7_roundBy_140 : decode cX7_roundBy 140 = .ok (.iload 4, 2) := by decide +kernel
theorem dX7_roundBy_142 : decode cX7_roundBy 142 = .ok (.iadd, 1) := by decide +kernel
theorem dX7_roundBy_143 : decode cX7_roundBy 143 = .ok (.iload_n 3, 1) := by decide +kernel
theorem dX7_roundBy_144 : decode cX7_roundBy 144 = .ok (.aload_n 0, 1) := by decide +kernel
theorem dX7_roundBy_145 : decode cX7_roundBy 145 = .ok (.getfield 19, 3) := by decide +kernel
theorem dX7_roundBy_148 : decode cX7_roundBy 148 = .ok (.iload 4, 2) := by decide +kernel
theorem dX7_roundBy_150 : decode cX7_roundBy 150 = .ok (.iaload, 1) := by decide +kernel
theorem dX7_roundBy_151 : decode cX7_roundBy 151 = .ok (.invokestatic 46, 3) := by decide +kernel
theorem dX7_roundBy_154 : decode cX7_roundBy 154 = .ok (.iinc 4 1, 3) := by decide +kernel
theorem dX7_roundBy_157 : decode cX7_roundBy 157 = .ok (.goto (-31), 3) := by decide +kernel
theorem dX7_roundBy_160 : decode cX7_roundBy 160 = .ok (.aload_n 1, 1) := by decide +kernel
theorem dX7_roundBy_161 : decode cX7_roundBy 161 = .ok (.iload_n 3, 1) := by decide +kernel
theorem dX7_roundBy_162 : decode cX7_roundBy 162 = .ok (.iload_n 2, 1) := by decide +kernel
theorem dX7_roundBy_163 : decode cX7_roundBy 163 = .ok (.aload_n 0, 1) := by decide +kernel
theorem dX7_roundBy_164 : decode cX7_roundBy 164 = .ok (.getfield 29, 3) := by decide +kernel
theorem dX7_roundBy_167 : decode cX7_roundBy 167 = .ok (.invokestatic 46, 3) := by decide +kernel
theorem dX7_roundBy_170 : decode cX7_roundBy 170 = .ok (.aload_n 1, 1) := by decide +kernel
theorem dX7_roundBy_171 : decode cX7_roundBy 171 = .ok (.invokevirtual 50, 3) := by decide +kernel
theorem dX7_roundBy_174 : decode cX7_roundBy 174 = .ok (.pop, 1) := by decide +kernel
theorem dX7_roundBy_175 : decode cX7_roundBy 175 = .ok (.iconst 0, 1) := by decide +kernel
theorem dX7_roundBy_176 : decode cX7_roundBy 176 = .ok (.istore 4, 2) := by decide +kernel
theorem dX7_roundBy_178 : decode cX7_roundBy 178 = .ok (.iload 4, 2) := by decide +kernel
theorem dX7_roundBy_180 : decode cX7_roundBy 180 = .ok (.aload_n 0, 1) := by decide +kernel
theorem dX7_roundBy_181 : decode cX7_roundBy 181 = .ok (.getfield 22, 3) := by decide +kernel
theorem dX7_roundBy_184 : decode cX7_roundBy 184 = .ok (.aload_n 0, 1) := by decide +kernel
theorem dX7_roundBy_185 : decode cX7_roundBy 185 = .ok (.getfield 26, 3) := by decide +kernel
theorem dX7_roundBy_188 : decode cX7_roundBy 188 = .ok (.imul, 1) := by decide +kernel
theorem dX7_roundBy_189 : decode cX7_roundBy 189 = .ok (.if_icmp .ge 38, 3) := by decide +kernel
theorem dX7_roundBy_192 : decode cX7_roundBy 192 = .ok (.iload 4, 2) := by decide +kernel
theorem dX7_roundBy_194 : decode cX7_roundBy 194 = .ok (.aload_n 0, 1) := by decide +kernel
theorem dX7_roundBy_195 : decode cX7_roundBy 195 = .ok (.getfield 13, 3) := by decide +kernel
theorem dX7_roundBy_198 : decode cX7_roundBy 198 = .ok (.arraylength, 1) := by decide +kernel
theorem dX7_roundBy_199 : decode cX7_roundBy 199 = .ok (.if_icmp .ge 28, 3) := by decide +kernel
theorem dX7_roundBy_202 : decode cX7_roundBy 202 = .ok (.aload_n 1, 1) := by decide +kernel
theorem dX7_roundBy_203 : decode cX7_roundBy 203 = .ok (.iload 4, 2) := by decide +kernel
theorem dX7_roundBy_205 : decode cX7_roundBy 205 = .ok (.invokevirtual 54, 3) := by decide +kernel
theorem dX7_roundBy_208 : decode cX7_roundBy 208 = .ok (.aload_n 0, 1) := by decide +kernel
theorem dX7_roundBy_209 : decode cX7_roundBy 209 = .ok (.getfield 13, 3) := by decide +kernel
theorem dX7_roundBy_212 : decode cX7_roundBy 212 = .ok (.iload 4, 2) := by decide +kernel
theorem dX7_roundBy_214 : decode cX7_roundBy 214 = .ok (.aload_n 1, 1) := by decide +kernel
theorem dX7_roundBy_215 : decode cX7_roundBy 215 = .ok (.iload 4, 2) := by decide +kernel
theorem dX7_roundBy_217 : decode cX7_roundBy 217 = .ok (.invokevirtual 57, 3) := by decide +kernel
theorem dX7_roundBy_220 : decode cX7_roundBy 220 = .ok (.iastore, 1) := by decide +kernel
theorem dX7_roundBy_221 : decode cX7_roundBy 221 = .ok (.iinc 4 1, 3) := by decide +kernel
theorem dX7_roundBy_224 : decode cX7_roundBy 224 = .ok (.goto (-46), 3) := by decide +kernel
theorem dX7_roundBy_227 : decode cX7_roundBy 227 = .ok (.return_, 1) := by decide +kernel
theorem dX7_addRounded_0 : decode cX7_addRounded 0 = .ok (.aload_n 0, 1) := by decide +kernel
theorem dX7_addRounded_1 : decode cX7_addRounded 1 = .ok (.iload_n 1, 1) := by decide +kernel
theorem dX7_addRounded_2 : decode cX7_addRounded 2 = .ok (.iload_n 2, 1) := by decide +kernel
theorem dX7_addRounded_3 : decode cX7_addRounded 3 = .ok (.iload_n 3, 1) := by decide +kernel
theorem dX7_addRounded_4 : decode cX7_addRounded 4 = .ok (.bipush 10, 2) := by decide +kernel
theorem dX7_addRounded_6 : decode cX7_addRounded 6 = .ok (.idiv, 1) := by decide +kernel
theorem dX7_addRounded_7 : decode cX7_addRounded 7 = .ok (.iload_n 3, 1) := by decide +kernel
theorem dX7_addRounded_8 : decode cX7_addRounded 8 = .ok (.bipush 9, 2) := by decide +kernel
theorem dX7_addRounded_10 : decode cX7_addRounded 10 = .ok (.iadd, 1) := by decide +kernel
theorem dX7_addRounded_11 : decode cX7_addRounded 11 = .ok (.bipush 10, 2) := by decide +kernel
theorem dX7_addRounded_13 : decode cX7_addRounded 13 = .ok (.idiv, 1) := by decide +kernel
theorem dX7_addRounded_14 : decode cX7_addRounded 14 = .ok (.iconst 0, 1) := by decide +kernel
theorem dX7_addRounded_15 : decode cX7_addRounded 15 = .ok (.invokevirtual 61, 3) := by decide +kernel
theorem dX7_addRounded_18 : decode cX7_addRounded 18 = .ok (.return_, 1) := by decide +kernel
theorem dX7_isRounded_0 : decode cX7_isRounded 0 = .ok (.iconst 0, 1) := by decide +kernel
theorem dX7_isRounded_1 : decode cX7_isRounded 1 = .ok (.istore_n 1, 1) := by decide +kernel
theorem dX7_isRounded_2 : decode cX7_isRounded 2 = .ok (.iload_n 1, 1) := by decide +kernel
theorem dX7_isRounded_3 : decode cX7_isRounded 3 = .ok (.aload_n 0, 1) := by decide +kernel
theorem dX7_isRounded_4 : decode cX7_isRounded 4 = .ok (.getfield 22, 3) := by decide +kernel
theorem dX7_isRounded_7 : decode cX7_isRounded 7 = .ok (.aload_n 0, 1) := by decide +kernel
theorem dX7_isRounded_8 : decode cX7_isRounded 8 = .ok (.getfield 26, 3) := by decide +kernel
theorem dX7_isRounded_11 : decode cX7_isRounded 11 = .ok (.imul, 1) := by decide +kernel
theorem dX7_isRounded_12 : decode cX7_isRounded 12 = .ok (.if_icmp .ge 38, 3) := by decide +kernel
theorem dX7_isRounded_15 : decode cX7_isRounded 15 = .ok (.iload_n 1, 1) := by decide +kernel
theorem dX7_isRounded_16 : decode cX7_isRounded 16 = .ok (.aload_n 0, 1) := by decide +kernel
theorem dX7_isRounded_17 : decode cX7_isRounded 17 = .ok (.getfield 13, 3) := by decide +kernel
theorem dX7_isRounded_20 : decode cX7_isRounded 20 = .ok (.arraylength, 1) := by decide +kernel
theorem dX7_isRounded_21 : decode cX7_isRounded 21 = .ok (.if_icmp .ge 29, 3) := by decide +kernel
theorem dX7_isRounded_24 : decode cX7_isRounded 24 = .ok (.aload_n 0, 1) := by decide +kernel
theorem dX7_isRounded_25 : decode cX7_isRounded 25 = .ok (.getfield 13, 3) := by decide +kernel
theorem dX7_isRounded_28 : decode cX7_isRounded 28 = .ok (.iload_n 1, 1) := by decide +kernel
theorem dX7_isRounded_29 : decode cX7_isRounded 29 = .ok (.iaload, 1) := by decide +kernel
theorem dX7_isRounded_30 : decode cX7_isRounded 30 = .ok (.aload_n 0, 1) := by decide +kernel
theorem dX7_isRounded_31 : decode cX7_isRounded 31 = .ok (.getfield 9, 3) := by decide +kernel
theorem dX7_isRounded_34 : decode cX7_isRounded 34 = .ok (.iload_n 1, 1) := by decide +kernel
theorem dX7_isRounded_35 : decode cX7_isRounded 35 = .ok (.iaload, 1) := by decide +kernel
theorem dX7_isRounded_36 : decode cX7_isRounded 36 = .ok (.invokestatic 65, 3) := by decide +kernel
theorem dX7_isRounded_39 : decode cX7_isRounded 39 = .ok (.ifCond .ne 5, 3) := by decide +kernel
theorem dX7_isRounded_42 : decode cX7_isRounded 42 = .ok (.iconst 0, 1) := by decide +kernel
theorem dX7_isRounded_43 : decode cX7_isRounded 43 = .ok (.ireturn, 1) := by decide +kernel
theorem dX7_isRounded_44 : decode cX7_isRounded 44 = .ok (.iinc 1 1, 3) := by decide +kernel
theorem dX7_isRounded_47 : decode cX7_isRounded 47 = .ok (.goto (-45), 3) := by decide +kernel
theorem dX7_isRounded_50 : decode cX7_isRounded 50 = .ok (.aload_n 0, 1) := by decide +kernel
theorem dX7_isRounded_51 : decode cX7_isRounded 51 = .ok (.aload_n 0, 1) := by decide +kernel
theorem dX7_isRounded_52 : decode cX7_isRounded 52 = .ok (.getfield 13, 3) := by decide +kernel
theorem dX7_isRounded_55 : decode cX7_isRounded 55 = .ok (.invokevirtual 36, 3) := by decide +kernel
theorem dX7_isRounded_58 : decode cX7_isRounded 58 = .ok (.aload_n 0, 1) := by decide +kernel
theorem dX7_isRounded_59 : decode cX7_isRounded 59 = .ok (.getfield 29, 3) := by decide +kernel
theorem dX7_isRounded_62 : decode cX7_isRounded 62 = .ok (.istore_n 1, 1) := by decide +kernel
theorem dX7_isRounded_63 : decode cX7_isRounded 63 = .ok (.iconst 0, 1) := by decide +kernel
theorem dX7_isRounded_64 : decode cX7_isRounded 64 = .ok (.istore_n 2, 1) := by decide +kernel
theorem dX7_isRounded_65 : decode cX7_isRounded 65 = .ok (.iload_n 2, 1) := by decide +kernel
theorem dX7_isRounded_66 : decode cX7_isRounded 66 = .ok (.aload_n 0, 1) := by decide +kernel
theorem dX7_isRounded_67 : decode cX7_isRounded 67 = .ok (.getfield 22, 3) := by decide +kernel
theorem dX7_isRounded_70 : decode cX7_isRounded 70 = .ok (.if_icmp .ge 36, 3) := by decide +kernel
theorem dX7_isRounded_73 : decode cX7_isRounded 73 = .ok (.aload_n 0, 1) := by decide +kernel
theorem dX7_isRounded_74 : decode cX7_isRounded 74 = .ok (.getfield 16, 3) := by decide +kernel
theorem dX7_isRounded_77 : decode cX7_isRounded 77 = .ok (.iload_n 2, 1) := by decide +kernel
theorem dX7_isRounded_78 : decode cX7_isRounded 78 = .ok (.iaload, 1) := by decide +kernel
theorem dX7_isRounded_79 : decode cX7_isRounded 79 = .ok (.aload_n 0, 1) := by decide +kernel
theorem dX7_isRounded_80 : decode cX7_isRounded 80 = .ok (.iload_n 2, 1) := by decide +kernel
theorem dX7_isRounded_81 : decode cX7_isRounded 81 = .ok (.iload_n 2, 1) := by decide +kernel
theorem dX7_isRounded_82 : decode cX7_isRounded 82 = .ok (.iconst 1, 1) := by decide +kernel
theorem dX7_isRounded_83 : decode cX7_isRounded 83 = .ok (.iadd, 1) := by decide +kernel
theorem dX7_isRounded_84 : decode cX7_isRounded 84 = .ok (.iconst 0, 1) := by decide +kernel
theorem dX7_isRounded_85 : decode cX7_isRounded 85 = .ok (.aload_n 0, 1) := by decide +kernel
theorem dX7_isRounded_86 : decode cX7_isRounded 86 = .ok (.getfield 26, 3) := by decide +kernel
theorem dX7_isRounded_89 : decode cX7_isRounded 89 = .ok (.invokevirtual 69, 3) := by decide +kernel
theorem dX7_isRounded_92 : decode cX7_isRounded 92 = .ok (.invokestatic 65, 3) := by decide +kernel
theorem dX7_isRounded_95 : decode cX7_isRounded 95 = .ok (.ifCond .ne 5, 3) := by decide +kernel
theorem dX7_isRounded_98 : decode cX7_isRounded 98 = .ok (.iconst 0, 1) := by decide +kernel
theorem dX7_isRounded_99 : decode cX7_isRounded 99 = .ok (.ireturn, 1) := by decide +kernel
theorem dX7_isRounded_100 : decode cX7_isRounded 100 = .ok (.iinc 2 1, 3) := by decide +kernel
theorem dX7_isRounded_103 : decode cX7_isRounded 103 = .ok (.goto (-38), 3) := by decide +kernel
theorem dX7_isRounded_106 : decode cX7_isRounded 106 = .ok (.iconst 0, 1) := by decide +kernel
theorem dX7_isRounded_107 : decode cX7_isRounded 107 = .ok (.istore_n 2, 1) := by decide +kernel
theorem dX7_isRounded_108 : decode cX7_isRounded 108 = .ok (.iload_n 2, 1) := by decide +kernel
theorem dX7_isRounded_109 : decode cX7_isRounded 109 = .ok (.aload_n 0, 1) := by decide +kernel
theorem dX7_isRounded_110 : decode cX7_isRounded 110 = .ok (.getfield 26, 3) := by decide +kernel
theorem dX7_isRounded_113 : decode cX7_isRounded 113 = .ok (.if_icmp .ge 36, 3) := by decide +kernel
theorem dX7_isRounded_116 : decode cX7_isRounded 116 = .ok (.aload_n 0, 1) := by decide +kernel
theorem dX7_isRounded_117 : decode cX7_isRounded 117 = .ok (.getfield 19, 3) := by decide +kernel
theorem dX7_isRounded_120 : decode cX7_isRounded 120 = .ok (.iload_n 2, 1) := by decide +kernel
theorem dX7_isRounded_121 : decode cX7_isRounded 121 = .ok (.iaload, 1) := by decide +kernel
theorem dX7_isRounded_122 : decode cX7_isRounded 122 = .ok (.aload_n 0, 1) := by decide +kernel
theorem dX7_isRounded_123 : decode cX7_isRounded 123 = .ok (.iconst 0, 1) := by decide +kernel
theorem dX7_isRounded_124 : decode cX7_isRounded 124 = .ok (.aload_n 0, 1) := by decide +kernel
theorem dX7_isRounded_125 : decode cX7_isRounded 125 = .ok (.getfield 22, 3) := by decide +kernel
theorem dX7_isRounded_128 : decode cX7_isRounded 128 = .ok (.iload_n 2, 1) := by decide +kernel
theorem dX7_isRounded_129 : decode cX7_isRounded 129 = .ok (.iload_n 2, 1) := by decide +kernel
theorem dX7_isRounded_130 : decode cX7_isRounded 130 = .ok (.iconst 1, 1) := by decide +kernel
theorem dX7_isRounded_131 : decode cX7_isRounded 131 = .ok (.iadd, 1) := by decide +kernel
theorem dX7_isRounded_132 : decode cX7_isRounded 132 = .ok (.invokevirtual 69, 3) := by decide +kernel
theorem dX7_isRounded_135 : decode cX7_isRounded 135 = .ok (.invokestatic 65, 3) := by decide +kernel
theorem dX7_isRounded_138 : decode cX7_isRounded 138 = .ok (.ifCond .ne 5, 3) := by decide +kernel
theorem dX7_isRounded_141 : decode cX7_isRounded 141 = .ok (.iconst 0, 1) := by decide +kernel
theorem dX7_isRounded_142 : decode cX7_isRounded 142 = .ok (.ireturn, 1) := by decide +kernel
theorem dX7_isRounded_143 : decode cX7_isRounded 143 = .ok (.iinc 2 1, 3) := by decide +kernel
theorem dX7_isRounded_146 : decode cX7_isRounded 146 = .ok (.goto (-38), 3) := by decide +kernel
theorem dX7_isRounded_149 : decode cX7_isRounded 149 = .ok (.iload_n 1, 1) := by decide +kernel
theorem dX7_isRounded_150 : decode cX7_isRounded 150 = .ok (.aload_n 0, 1) := by decide +kernel
theorem dX7_isRounded_151 : decode cX7_isRounded 151 = .ok (.iconst 0, 1) := by decide +kernel
theorem dX7_isRounded_152 : decode cX7_isRounded 152 = .ok (.aload_n 0, 1) := by decide +kernel
theorem dX7_isRounded_153 : decode cX7_isRounded 153 = .ok (.getfield 22, 3) := by decide +kernel
theorem dX7_isRounded_156 : decode cX7_isRounded 156 = .ok (.iconst 0, 1) := by decide +kernel
theorem dX7_isRounded_157 : decode cX7_isRounded 157 = .ok (.aload_n 0, 1) := by decide +kernel
theorem dX7_isRounded_158 : decode cX7_isRounded 158 = .ok (.getfield 26, 3) := by decide +kernel
theorem dX7_isRounded_161 : decode cX7_isRounded 161 = .ok (.invokevirtual 69, 3) := by decide +kernel
theorem dX7_isRounded_164 : decode cX7_isRounded 164 = .ok (.invokestatic 65, 3) := by decide +kernel
theorem dX7_isRounded_167 : decode cX7_isRounded 167 = .ok (.ireturn, 1) := by decide +kernel
theorem dX7_sumOfTenths_0 : decode cX7_sumOfTenths 0 = .ok (.iconst 0, 1) := by decide +kernel
theorem dX7_sumOfTenths_1 : decode cX7_sumOfTenths 1 = .ok (.istore 5, 2) := by decide +kernel
theorem dX7_sumOfTenths_3 : decode cX7_sumOfTenths 3 = .ok (.iload_n 1, 1) := by decide +kernel
theorem dX7_sumOfTenths_4 : decode cX7_sumOfTenths 4 = .ok (.istore 6, 2) := by decide +kernel
theorem dX7_sumOfTenths_6 : decode cX7_sumOfTenths 6 = .ok (.iload 6, 2) := by decide +kernel
theorem dX7_sumOfTenths_8 : decode cX7_sumOfTenths 8 = .ok (.iload_n 2, 1) := by decide +kernel
theorem dX7_sumOfTenths_9 : decode cX7_sumOfTenths 9 = .ok (.if_icmp .ge 43, 3) := by decide +kernel
theorem dX7_sumOfTenths_12 : decode cX7_sumOfTenths 12 = .ok (.iload_n 3, 1) := by decide +kernel
theorem dX7_sumOfTenths_13 : decode cX7_sumOfTenths 13 = .ok (.istore 7, 2) := by decide +kernel
theorem dX7_sumOfTenths_15 : decode cX7_sumOfTenths 15 = .ok (.iload 7, 2) := by decide +kernel
theorem dX7_sumOfTenths_17 : decode cX7_sumOfTenths 17 = .ok (.iload 4, 2) := by decide +kernel
theorem dX7_sumOfTenths_19 : decode cX7_sumOfTenths 19 = .ok (.if_icmp .ge 27, 3) := by decide +kernel
theorem dX7_sumOfTenths_22 : decode cX7_sumOfTenths 22 = .ok (.iload 5, 2) := by decide +kernel
theorem dX7_sumOfTenths_24 : decode cX7_sumOfTenths 24 = .ok (.aload_n 0, 1) := by decide +kernel
theorem dX7_sumOfTenths_25 : decode cX7_sumOfTenths 25 = .ok (.getfield 9, 3) := by decide +kernel
theorem dX7_sumOfTenths_28 : decode cX7_sumOfTenths 28 = .ok (.aload_n 0, 1) := by decide +kernel
theorem dX7_sumOfTenths_29 : decode cX7_sumOfTenths 29 = .ok (.iload 6, 2) := by decide +kernel
theorem dX7_sumOfTenths_31 : decode cX7_sumOfTenths 31 = .ok (.iload 7, 2) := by decide +kernel
theorem dX7_sumOfTenths_33 : decode cX7_sumOfTenths 33 = .ok (.invokevirtual 32, 3) := by decide +kernel
theorem dX7_sumOfTenths_36 : decode cX7_sumOfTenths 36 = .ok (.iaload, 1) := by decide +kernel
theorem dX7_sumOfTenths_37 : decode cX7_sumOfTenths 37 = .ok (.iadd, 1) := by decide +kernel
theorem dX7_sumOfTenths_38 : decode cX7_sumOfTenths 38 = .ok (.istore 5, 2) := by decide +kernel
theorem dX7_sumOfTenths_40 : decode cX7_sumOfTenths 40 = .ok (.iinc 7 1, 3) := by decide +kernel
theorem dX7_sumOfTenths_43 : decode cX7_sumOfTenths 43 = .ok (.goto (-28), 3) := by decide +kernel
theorem dX7_sumOfTenths_46 : decode cX7_sumOfTenths 46 = .ok (.iinc 6 1, 3) := by decide +kernel
theorem dX7_sumOfTenths_49 : decode cX7_sumOfTenths 49 = .ok (.goto (-43), 3) := by decide +kernel
theorem dX7_sumOfTenths_52 : decode cX7_sumOfTenths 52 = .ok (.iload 5, 2) := by decide +kernel
theorem dX7_sumOfTenths_54 : decode cX7_sumOfTenths 54 = .ok (.ireturn, 1) := by decide +kernel
theorem dX7_isNear_0 : decode cX7_isNear 0 = .ok (.iload_n 0, 1) := by decide +kernel
theorem dX7_isNear_1 : decode cX7_isNear 1 = .ok (.iload_n 1, 1) := by decide +kernel
theorem dX7_isNear_2 : decode cX7_isNear 2 = .ok (.bipush 10, 2) := by decide +kernel
theorem dX7_isNear_4 : decode cX7_isNear 4 = .ok (.idiv, 1) := by decide +kernel
theorem dX7_isNear_5 : decode cX7_isNear 5 = .ok (.if_icmp .eq 14, 3) := by decide +kernel
theorem dX7_isNear_8 : decode cX7_isNear 8 = .ok (.iload_n 0, 1) := by decide +kernel
theorem dX7_isNear_9 : decode cX7_isNear 9 = .ok (.iload_n 1, 1) := by decide +kernel
theorem dX7_isNear_10 : decode cX7_isNear 10 = .ok (.bipush 9, 2) := by decide +kernel
theorem dX7_isNear_12 : decode cX7_isNear 12 = .ok (.iadd, 1) := by decide +kernel
theorem dX7_isNear_13 : decode cX7_isNear 13 = .ok (.bipush 10, 2) := by decide +kernel
theorem dX7_isNear_15 : decode cX7_isNear 15 = .ok (.idiv, 1) := by decide +kernel
theorem dX7_isNear_16 : decode cX7_isNear 16 = .ok (.if_icmp .ne 7, 3) := by decide +kernel
theorem dX7_isNear_19 : decode cX7_isNear 19 = .ok (.iconst 1, 1) := by decide +kernel
theorem dX7_isNear_20 : decode cX7_isNear 20 = .ok (.goto 4, 3) := by decide +kernel
theorem dX7_isNear_23 : decode cX7_isNear 23 = .ok (.iconst 0, 1) := by decide +kernel
theorem dX7_isNear_24 : decode cX7_isNear 24 = .ok (.ireturn, 1) := by decide +kernel
theorem dX8_init_0 : decode cX8_init 0 = .ok (.aload_n 0, 1) := by decide +kernel
theorem dX8_init_1 : decode cX8_init 1 = .ok (.invokespecial 3, 3) := by decide +kernel
theorem dX8_init_4 : decode cX8_init 4 = .ok (.aload_n 0, 1) := by decide +kernel
theorem dX8_init_5 : decode cX8_init 5 = .ok (.sipush 256, 3) := by decide +kernel
theorem dX8_init_8 : decode cX8_init 8 = .ok (.newarray .int, 2) := by decide +kernel
theorem dX8_init_10 : decode cX8_init 10 = .ok (.putfield 9, 3) := by decide +kernel
theorem dX8_init_13 : decode cX8_init 13 = .ok (.aload_n 0, 1) := by decide +kernel
theorem dX8_init_14 : decode cX8_init 14 = .ok (.bipush 8, 2) := by decide +kernel
theorem dX8_init_16 : decode cX8_init 16 = .ok (.newarray .int, 2) := by decide +kernel
theorem dX8_init_18 : decode cX8_init 18 = .ok (.putfield 15, 3) := by decide +kernel
theorem dX8_init_21 : decode cX8_init 21 = .ok (.aload_n 0, 1) := by decide +kernel
theorem dX8_init_22 : decode cX8_init 22 = .ok (.bipush 8, 2) := by decide +kernel
theorem dX8_init_24 : decode cX8_init 24 = .ok (.newarray .int, 2) := by decide +kernel
theorem dX8_init_26 : decode cX8_init 26 = .ok (.putfield 18, 3) := by decide +kernel
theorem dX8_init_29 : decode cX8_init 29 = .ok (.return_, 1) := by decide +kernel
theorem dX8_measure_0 : decode cX8_measure 0 = .ok (.aload_n 0, 1) := by decide +kernel
theorem dX8_measure_1 : decode cX8_measure 1 = .ok (.aload_n 1, 1) := by decide +kernel
theorem dX8_measure_2 : decode cX8_measure 2 = .ok (.getfield 21, 3) := by decide +kernel
theorem dX8_measure_5 : decode cX8_measure 5 = .ok (.putfield 27, 3) := by decide +kernel
theorem dX8_measure_8 : decode cX8_measure 8 = .ok (.iconst 1, 1) := by decide +kernel
theorem dX8_measure_9 : decode cX8_measure 9 = .ok (.aload_n 0, 1) := by decide +kernel
theorem dX8_measure_10 : decode cX8_measure 10 = .ok (.getfield 27, 3) := by decide +kernel
theorem dX8_measure_13 : decode cX8_measure 13 = .ok (.ishl, 1) := by decide +kernel
theorem dX8_measure_14 : decode cX8_measure 14 = .ok (.iconst 1, 1) := by decide +kernel
theorem dX8_measure_15 : decode cX8_measure 15 = .ok (.isub, 1) := by decide +kernel
theorem dX8_measure_16 : decode cX8_measure 16 = .ok (.istore_n 3, 1) := by decide +kernel
theorem dX8_measure_17 : decode cX8_measure 17 = .ok (.iconst 0, 1) := by decide +kernel
theorem dX8_measure_18 : decode cX8_measure 18 = .ok (.istore 4, 2) := by decide +kernel
theorem dX8_measure_20 : decode cX8_measure 20 = .ok (.iload 4, 2) := by decide +kernel
theorem dX8_measure_22 : decode cX8_measure 22 = .ok (.iload_n 3, 1) := by decide +kernel
theorem dX8_measure_23 : decode cX8_measure 23 = .ok (.iload 4, 2) := by decide +kernel
theorem dX8_measure_25 : decode cX8_measure 25 = .ok (.isub, 1) := by decide +kernel
theorem dX8_measure_26 : decode cX8_measure 26 = .ok (.if_icmp .gt 39, 3) := by decide +kernel
theorem dX8_measure_29 : decode cX8_measure 29 = .ok (.aload_n 0, 1) := by decide +kernel
theorem dX8_measure_30 : decode cX8_measure 30 = .ok (.getfield 9, 3) := by decide +kernel
theorem dX8_measure_33 : decode cX8_measure 33 = .ok (.iload 4, 2) := by decide +kernel
theorem dX8_measure_35 : decode cX8_measure 35 = .ok (.aload_n 2, 1) := by decide +kernel
theorem dX8_measure_36 : decode cX8_measure 36 = .ok (.aload_n 1, 1) := by decide +kernel
theorem dX8_measure_37 : decode cX8_measure 37 = .ok (.iload 4, 2) := by decide +kernel
theorem dX8_measure_39 : decode cX8_measure 39 = .ok (.invokevirtual 28, 3) := by decide +kernel
theorem dX8_measure_42 : decode cX8_measure 42 = .ok (.iastore, 1) := by decide +kernel
theorem dX8_measure_43 : decode cX8_measure 43 = .ok (.aload_n 0, 1) := by decide +kernel
theorem dX8_measure_44 : decode cX8_measure 44 = .ok (.getfield 9, 3) := by decide +kernel
theorem dX8_measure_47 : decode cX8_measure 47 = .ok (.iload_n 3, 1) := by decide +kernel
theorem dX8_measure_48 : decode cX8_measure 48 = .ok (.iload 4, 2) := by decide +kernel
theorem dX8_measure_50 : decode cX8_measure 50 = .ok (.isub, 1) := by decide +kernel
theorem dX8_measure_51 : decode cX8_measure 51 = .ok (.aload_n 0, 1) := by decide +kernel
theorem dX8_measure_52 : decode cX8_measure 52 = .ok (.getfield 9, 3) := by decide +kernel
theorem dX8_measure_55 : decode cX8_measure 55 = .ok (.iload 4, 2) := by decide +kernel
theorem dX8_measure_57 : decode cX8_measure 57 = .ok (.iaload, 1) := by decide +kernel
theorem dX8_measure_58 : decode cX8_measure 58 = .ok (.iastore, 1) := by decide +kernel
theorem dX8_measure_59 : decode cX8_measure 59 = .ok (.iinc 4 1, 3) := by decide +kernel
theorem dX8_measure_62 : decode cX8_measure 62 = .ok (.goto (-42), 3) := by decide +kernel
theorem dX8_measure_65 : decode cX8_measure 65 = .ok (.return_, 1) := by decide +kernel
theorem dX8_leastCut_0 : decode cX8_leastCut 0 = .ok (.ldc 36, 2) := by decide +kernel
theorem dX8_leastCut_2 : decode cX8_leastCut 2 = .ok (.istore_n 3, 1) := by decide +kernel
theorem dX8_leastCut_3 : decode cX8_leastCut 3 = .ok (.iconst 0, 1) := by decide +kernel
theorem dX8_leastCut_4 : decode cX8_leastCut 4 = .ok (.istore 4, 2) := by decide +kernel
theorem dX8_leastCut_6 : decode cX8_leastCut 6 = .ok (.iload 4, 2) := by decide +kernel
theorem dX8_leastCut_8 : decode cX8_leastCut 8 = .ok (.iconst 1, 1) := by decide +kernel
theorem dX8_leastCut_9 : decode cX8_leastCut 9 = .ok (.aload_n 0, 1) := by decide +kernel
theorem dX8_leastCut_10 : decode cX8_leastCut 10 = .ok (.getfield 27, 3) := by decide +kernel
theorem dX8_leastCut_13 : decode cX8_leastCut 13 = .ok (.ishl, 1) := by decide +kernel
theorem dX8_leastCut_14 : decode cX8_leastCut 14 = .ok (.if_icmp .ge 38, 3) := by decide +kernel
theorem dX8_leastCut_17 : decode cX8_leastCut 17 = .ok (.aload_n 0, 1) := by decide +kernel
theorem dX8_leastCut_18 : decode cX8_leastCut 18 = .ok (.getfield 9, 3) := by decide +kernel
theorem dX8_leastCut_21 : decode cX8_leastCut 21 = .ok (.iload 4, 2) := by decide +kernel
theorem dX8_leastCut_23 : decode cX8_leastCut 23 = .ok (.iaload, 1) := by decide +kernel
theorem dX8_leastCut_24 : decode cX8_leastCut 24 = .ok (.iload_n 3, 1) := by decide +kernel
theorem dX8_leastCut_25 : decode cX8_leastCut 25 = .ok (.if_icmp .ge 21, 3) := by decide +kernel
theorem dX8_leastCut_28 : decode cX8_leastCut 28 = .ok (.iload 4, 2) := by decide +kernel
theorem dX8_leastCut_30 : decode cX8_leastCut 30 = .ok (.iload_n 1, 1) := by decide +kernel
theorem dX8_leastCut_31 : decode cX8_leastCut 31 = .ok (.iload_n 2, 1) := by decide +kernel
theorem dX8_leastCut_32 : decode cX8_leastCut 32 = .ok (.invokestatic 37, 3) := by decide +kernel
theorem dX8_leastCut_35 : decode cX8_leastCut 35 = .ok (.ifCond .eq 11, 3) := by decide +kernel
theorem dX8_leastCut_38 : decode cX8_leastCut 38 = .ok (.aload_n 0, 1) := by decide +kernel
theorem dX8_leastCut_39 : decode cX8_leastCut 39 = .ok (.getfield 9, 3) := by decide +kernel
theorem dX8_leastCut_42 : decode cX8_leastCut 42 = .ok (.iload 4, 2) := by decide +kernel
theorem dX8_leastCut_44 : decode cX8_leastCut 44 = .ok (.iaload, 1) := by decide +kernel
theorem dX8_leastCut_45 : decode cX8_leastCut 45 = .ok (.istore_n 3, 1) := by decide +kernel
theorem dX8_leastCut_46 : decode cX8_leastCut 46 = .ok (.iinc 4 1, 3) := by decide +kernel
theorem dX8_leastCut_49 : decode cX8_leastCut 49 = .ok (.goto (-43), 3) := by decide +kernel
theorem dX8_leastCut_52 : decode cX8_leastCut 52 = .ok (.iload_n 3, 1) := by decide +kernel
theorem dX8_leastCut_53 : decode cX8_leastCut 53 = .ok (.ireturn, 1) := by decide +kernel
theorem dX8_sideInAll_0 : decode cX8_sideInAll 0 = .ok (.iconst (-1), 1) := by decide +kernel
theorem dX8_sideInAll_1 : decode cX8_sideInAll 1 = .ok (.istore 4, 2) := by decide +kernel
theorem dX8_sideInAll_3 : decode cX8_sideInAll 3 = .ok (.iconst 0, 1) := by decide +kernel
theorem dX8_sideInAll_4 : decode cX8_sideInAll 4 = .ok (.istore 5, 2) := by decide +kernel
theorem dX8_sideInAll_6 : decode cX8_sideInAll 6 = .ok (.iload 5, 2) := by decide +kernel
theorem dX8_sideInAll_8 : decode cX8_sideInAll 8 = .ok (.iconst 1, 1) := by decide +kernel
theorem dX8_sideInAll_9 : decode cX8_sideInAll 9 = .ok (.aload_n 0, 1) := by decide +kernel
theorem dX8_sideInAll_10 : decode cX8_sideInAll 10 = .ok (.getfield 27, 3) := by decide +kernel
theorem dX8_sideInAll_13 : decode cX8_sideInAll 13 = .ok (.ishl, 1) := by decide +kernel
theorem dX8_sideInAll_14 : decode cX8_sideInAll 14 = .ok (.if_icmp .ge 37, 3) := by decide +kernel
theorem dX8_sideInAll_17 : decode cX8_sideInAll 17 = .ok (.aload_n 0, 1) := by decide +kernel
theorem dX8_sideInAll_18 : decode cX8_sideInAll 18 = .ok (.getfield 9, 3) := by decide +kernel
theorem dX8_sideInAll_21 : decode cX8_sideInAll 21 = .ok (.iload 5, 2) := by decide +kernel
theorem dX8_sideInAll_23 : decode cX8_sideInAll 23 = .ok (.iaload, 1) := by decide +kernel
theorem dX8_sideInAll_24 : decode cX8_sideInAll 24 = .ok (.iload_n 3, 1) := by decide +kernel
theorem dX8_sideInAll_25 : decode cX8_sideInAll 25 = .ok (.if_icmp .ne 20, 3) := by decide +kernel
theorem dX8_sideInAll_28 : decode cX8_sideInAll 28 = .ok (.iload 5, 2) := by decide +kernel
theorem dX8_sideInAll_30 : decode cX8_sideInAll 30 = .ok (.iload_n 1, 1) := by decide +kernel
theorem dX8_sideInAll_31 : decode cX8_sideInAll 31 = .ok (.iload_n 2, 1) := by decide +kernel
theorem dX8_sideInAll_32 : decode cX8_sideInAll 32 = .ok (.invokestatic 37, 3) := by decide +kernel
theorem dX8_sideInAll_35 : decode cX8_sideInAll 35 = .ok (.ifCond .eq 10, 3) := by decide +kernel
theorem dX8_sideInAll_38 : decode cX8_sideInAll 38 = .ok (.iload 4, 2) := by decide +kernel
theorem dX8_sideInAll_40 : decode cX8_sideInAll 40 = .ok (.iload 5, 2) := by decide +kernel
theorem dX8_sideInAll_42 : decode cX8_sideInAll 42 = .ok (.iand, 1) := by decide +kernel
theorem dX8_sideInAll_43 : decode cX8_sideInAll 43 = .ok (.istore 4, 2) := by decide +kernel
theorem dX8_sideInAll_45 : decode cX8_sideInAll 45 = .ok (.iinc 5 1, 3) := by decide +kernel
theorem dX8_sideInAll_48 : decode cX8_sideInAll 48 = .ok (.goto (-42), 3) := by decide +kernel
theorem dX8_sideInAll_51 : decode cX8_sideInAll 51 = .ok (.iload 4, 2) := by decide +kernel
theorem dX8_sideInAll_53 : decode cX8_sideInAll 53 = .ok (.ireturn, 1) := by decide +kernel
theorem dX8_grow_0 : decode cX8_grow 0 = .ok (.iconst 0, 1) := by decide +kernel
theorem dX8_grow_1 : decode cX8_grow 1 = .ok (.istore_n 1, 1) := by decide +kernel
theorem dX8_grow_2 : decode cX8_grow 2 = .ok (.iload_n 1, 1) := by decide +kernel
theorem dX8_grow_3 : decode cX8_grow 3 = .ok (.aload_n 0, 1) := by decide +kernel
theorem dX8_grow_4 : decode cX8_grow 4 = .ok (.getfield 27, 3) := by decide +kernel
theorem dX8_grow_7 : decode cX8_grow 7 = .ok (.if_icmp .ge 23, 3) := by decide +kernel
theorem dX8_grow_10 : decode cX8_grow 10 = .ok (.aload_n 0, 1) := by decide +kernel
theorem dX8_grow_11 : decode cX8_grow 11 = .ok (.getfield 15, 3) := by decide +kernel
theorem dX8_grow_14 : decode cX8_grow 14 = .ok (.iload_n 1, 1) := by decide +kernel
theorem dX8_grow_15 : decode cX8_grow 15 = .ok (.iconst 0, 1) := by decide +kernel
theorem dX8_grow_16 : decode cX8_grow 16 = .ok (.iastore, 1) := by decide +kernel
theorem dX8_grow_17 : decode cX8_grow 17 = .ok (.aload_n 0, 1) := by decide +kernel
theorem dX8_grow_18 : decode cX8_grow 18 = .ok (.getfield 18, 3) := by decide +kernel
theorem dX8_grow_21 : decode cX8_grow 21 = .ok (.iload_n 1, 1) := by decide +kernel
theorem dX8_grow_22 : decode cX8_grow 22 = .ok (.iconst 0, 1) := by decide +kernel
theorem dX8_grow_23 : decode cX8_grow 23 = .ok (.iastore, 1) := by decide +kernel
theorem dX8_grow_24 : decode cX8_grow 24 = .ok (.iinc 1 1, 3) := by decide +kernel
theorem dX8_grow_27 : decode cX8_grow 27 = .ok (.goto (-25), 3) := by decide +kernel
theorem dX8_grow_30 : decode cX8_grow 30 = .ok (.iconst 1, 1) := by decide +kernel
theorem dX8_grow_31 : decode cX8_grow 31 = .ok (.istore_n 1, 1) := by decide +kernel
theorem dX8_grow_32 : decode cX8_grow 32 = .ok (.iload_n 1, 1) := by decide +kernel
theorem dX8_grow_33 : decode cX8_grow 33 = .ok (.aload_n 0, 1) := by decide +kernel
theorem dX8_grow_34 : decode cX8_grow 34 = .ok (.getfield 27, 3) := by decide +kernel
theorem dX8_grow_37 : decode cX8_grow 37 = .ok (.if_icmp .ge 89, 3) := by decide +kernel
theorem dX8_grow_40 : decode cX8_grow 40 = .ok (.aload_n 0, 1) := by decide +kernel
theorem dX8_grow_41 : decode cX8_grow 41 = .ok (.getfield 15, 3) := by decide +kernel
theorem dX8_grow_44 : decode cX8_grow 44 = .ok (.iload_n 1, 1) := by decide +kernel
theorem dX8_grow_45 : decode cX8_grow 45 = .ok (.iaload, 1) := by decide +kernel
theorem dX8_grow_46 : decode cX8_grow 46 = .ok (.istore_n 2, 1) := by decide +kernel
theorem dX8_grow_47 : decode cX8_grow 47 = .ok (.aload_n 0, 1) := by decide +kernel
theorem dX8_grow_48 : decode cX8_grow 48 = .ok (.getfield 18, 3) := by decide +kernel
theorem dX8_grow_51 : decode cX8_grow 51 = .ok (.iload_n 1, 1) := by decide +kernel
theorem dX8_grow_52 : decode cX8_grow 52 = .ok (.aload_n 0, 1) := by decide +kernel
theorem dX8_grow_53 : decode cX8_grow 53 = .ok (.iload_n 1, 1) := by decide +kernel
theorem dX8_grow_54 : decode cX8_grow 54 = .ok (.iload_n 2, 1) := by decide +kernel
theorem dX8_grow_55 : decode cX8_grow 55 = .ok (.invokevirtual 41, 3) := by decide +kernel
theorem dX8_grow_58 : decode cX8_grow 58 = .ok (.iastore, 1) := by decide +kernel
theorem dX8_grow_59 : decode cX8_grow 59 = .ok (.aload_n 0, 1) := by decide +kernel
theorem dX8_grow_60 : decode cX8_grow 60 = .ok (.iload_n 1, 1) := by decide +kernel
theorem dX8_grow_61 : decode cX8_grow 61 = .ok (.iload_n 2, 1) := by decide +kernel
theorem dX8_grow_62 : decode cX8_grow 62 = .ok (.aload_n 0, 1) := by decide +kernel
theorem dX8_grow_63 : decode cX8_grow 63 = .ok (.getfield 18, 3) := by decide +kernel
theorem dX8_grow_66 : decode cX8_grow 66 = .ok (.iload_n 1, 1) := by decide +kernel
theorem dX8_grow_67 : decode cX8_grow 67 = .ok (.iaload, 1) := by decide +kernel
theorem dX8_grow_68 : decode cX8_grow 68 = .ok (.invokevirtual 45, 3) := by decide +kernel
theorem dX8_grow_71 : decode cX8_grow 71 = .ok (.istore_n 3, 1) := by decide +kernel
theorem dX8_grow_72 : decode cX8_grow 72 = .ok (.iload_n 1, 1) := by decide +kernel
theorem dX8_grow_73 : decode cX8_grow 73 = .ok (.iconst 1, 1) := by decide +kernel
theorem dX8_grow_74 : decode cX8_grow 74 = .ok (.iadd, 1) := by decide +kernel
theorem dX8_grow_75 : decode cX8_grow 75 = .ok (.istore 4, 2) := by decide +kernel
theorem dX8_grow_77 : decode cX8_grow 77 = .ok (.iload 4, 2) := by decide +kernel
theorem dX8_grow_79 : decode cX8_grow 79 = .ok (.aload_n 0, 1) := by decide +kernel
theorem dX8_grow_80 : decode cX8_grow 80 = .ok (.getfield 27, 3) := by decide +kernel
theorem dX8_grow_83 : decode cX8_grow 83 = .ok (.if_icmp .ge 37, 3) := by decide +kernel
theorem dX8_grow_86 : decode cX8_grow 86 = .ok (.aload_n 0, 1) := by decide +kernel
theorem dX8_grow_87 : decode cX8_grow 87 = .ok (.getfield 15, 3) := by decide +kernel
theorem dX8_grow_90 : decode cX8_grow 90 = .ok (.iload 4, 2) := by decide +kernel
theorem dX8_grow_92 : decode cX8_grow 92 = .ok (.iaload, 1) := by decide +kernel
theorem dX8_grow_93 : decode cX8_grow 93 = .ok (.iload_n 2, 1) := by decide +kernel
theorem dX8_grow_94 : decode cX8_grow 94 = .ok (.if_icmp .ne 20, 3) := by decide +kernel
theorem dX8_grow_97 : decode cX8_grow 97 = .ok (.iload_n 3, 1) := by decide +kernel
theorem dX8_grow_98 : decode cX8_grow 98 = .ok (.iload 4, 2) := by decide +kernel
theorem dX8_grow_100 : decode cX8_grow 100 = .ok (.invokestatic 49, 3) := by decide +kernel
theorem dX8_grow_103 : decode cX8_grow 103 = .ok (.ifCond .eq 11, 3) := by decide +kernel
theorem dX8_grow_106 : decode cX8_grow 106 = .ok (.aload_n 0, 1) := by decide +kernel
theorem dX8_grow_107 : decode cX8_grow 107 = .ok (.getfield 15, 3) := by decide +kernel
theorem dX8_grow_110 : decode cX8_grow 110 = .ok (.iload 4, 2) := by decide +kernel
theorem dX8_grow_112 : decode cX8_grow 112 = .ok (.iload_n 1, 1) := by decide +kernel
theorem dX8_grow_113 : decode cX8_grow 113 = .ok (.iastore, 1) := by decide +kernel
theorem dX8_grow_114 : decode cX8_grow 114 = .ok (.iinc 4 1, 3) := by decide +kernel
theorem dX8_grow_117 : decode cX8_grow 117 = .ok (.goto (-40), 3) := by decide +kernel
theorem dX8_grow_120 : decode cX8_grow 120 = .ok (.iinc 1 1, 3) := by decide +kernel
theorem dX8_grow_123 : decode cX8_grow 123 = .ok (.goto (-91), 3) := by decide +kernel
theorem dX8_grow_126 : decode cX8_grow 126 = .ok (.return_, 1) := by decide +kernel
theorem dX8_leastOnWay_0 : decode cX8_leastOnWay 0 = .ok (.ldc 36, 2) := by decide +kernel
theorem dX8_leastOnWay_2 : decode cX8_leastOnWay 2 = .ok (.istore_n 3, 1) := by decide +kernel
theorem dX8_leastOnWay_3 : decode cX8_leastOnWay 3 = .ok (.iload_n 1, 1) := by decide +kernel
theorem dX8_leastOnWay_4 : decode cX8_leastOnWay 4 = .ok (.istore 4, 2) := by decide +kernel
theorem dX8_leastOnWay_6 : decode cX8_leastOnWay 6 = .ok (.iload_n 2, 1) := by decide +kernel
theorem dX8_leastOnWay_7 : decode cX8_leastOnWay 7 = .ok (.istore 5, 2) := by decide +kernel
theorem dX8_leastOnWay_9 : decode cX8_leastOnWay 9 = .ok (.iconst 0, 1) := by decide +kernel
theorem dX8_leastOnWay_10 : decode cX8_leastOnWay 10 = .ok (.istore 6, 2) := by decide +kernel
theorem dX8_leastOnWay_12 : decode cX8_leastOnWay 12 = .ok (.iload 6, 2) := by decide +kernel
theorem dX8_leastOnWay_14 : decode cX8_leastOnWay 14 = .ok (.bipush 16, 2) := by decide +kernel
theorem dX8_leastOnWay_16 : decode cX8_leastOnWay 16 = .ok (.if_icmp .ge 97, 3) := by decide +kernel
theorem dX8_leastOnWay_19 : decode cX8_leastOnWay 19 = .ok (.iload 4, 2) := by decide +kernel
theorem dX8_leastOnWay_21 : decode cX8_leastOnWay 21 = .ok (.iload 5, 2) := by decide +kernel
theorem dX8_leastOnWay_23 : decode cX8_leastOnWay 23 = .ok (.if_icmp .eq 90, 3) := by decide +kernel
theorem dX8_leastOnWay_26 : decode cX8_leastOnWay 26 = .ok (.iload 4, 2) := by decide +kernel
theorem dX8_leastOnWay_28 : decode cX8_leastOnWay 28 = .ok (.iload 5, 2) := by decide +kernel
theorem dX8_leastOnWay_30 : decode cX8_leastOnWay 30 = .ok (.if_icmp .le 8, 3) := by decide +kernel
theorem dX8_leastOnWay_33 : decode cX8_leastOnWay 33 = .ok (.iload 4, 2) := by decide +kernel
theorem dX8_leastOnWay_35 : decode cX8_leastOnWay 35 = .ok (.goto 5, 3) := by decide +kernel
theorem dX8_leastOnWay_38 : decode cX8_leastOnWay 38 = .ok (.iload 5, 2) := by decide +kernel
theorem dX8_leastOnWay_40 : decode cX8_leastOnWay 40 = .ok (.istore 7, 2) := by decide +kernel
theorem dX8_leastOnWay_42 : decode cX8_leastOnWay 42 = .ok (.aload_n 0, 1) := by decide +kernel
theorem dX8_leastOnWay_43 : decode cX8_leastOnWay 43 = .ok (.getfield 18, 3) := by decide +kernel
theorem dX8_leastOnWay_46 : decode cX8_leastOnWay 46 = .ok (.iload 7, 2) := by decide +kernel
theorem dX8_leastOnWay_48 : decode cX8_leastOnWay 48 = .ok (.iaload, 1) := by decide +kernel
theorem dX8_leastOnWay_49 : decode cX8_leastOnWay 49 = .ok (.iload_n 3, 1) := by decide +kernel
theorem dX8_leastOnWay_50 : decode cX8_leastOnWay 50 = .ok (.if_icmp .ge 13, 3) := by decide +kernel
theorem dX8_leastOnWay_53 : decode cX8_leastOnWay 53 = .ok (.aload_n 0, 1) := by decide +kernel
theorem dX8_leastOnWay_54 : decode cX8_leastOnWay 54 = .ok (.getfield 18, 3) := by decide +kernel
theorem dX8_leastOnWay_57 : decode cX8_leastOnWay 57 = .ok (.iload 7, 2) := by decide +kernel
theorem dX8_leastOnWay_59 : decode cX8_leastOnWay 59 = .ok (.iaload, 1) := by decide +kernel
theorem dX8_leastOnWay_60 : decode cX8_leastOnWay 60 = .ok (.goto 4, 3) := by decide +kernel
theorem dX8_leastOnWay_63 : decode cX8_leastOnWay 63 = .ok (.iload_n 3, 1) := by decide +kernel
theorem dX8_leastOnWay_64 : decode cX8_leastOnWay 64 = .ok (.istore_n 3, 1) := by decide +kernel
theorem dX8_leastOnWay_65 : decode cX8_leastOnWay 65 = .ok (.iload 4, 2) := by decide +kernel
theorem dX8_leastOnWay_67 : decode cX8_leastOnWay 67 = .ok (.iload 7, 2) := by decide +kernel
theorem dX8_leastOnWay_69 : decode cX8_leastOnWay 69 = .ok (.if_icmp .ne 13, 3) := by decide +kernel
theorem dX8_leastOnWay_72 : decode cX8_leastOnWay 72 = .ok (.aload_n 0, 1) := by decide +kernel
theorem dX8_leastOnWay_73 : decode cX8_leastOnWay 73 = .ok (.getfield 15, 3) := by decide +kernel
theorem dX8_leastOnWay_76 : decode cX8_leastOnWay 76 = .ok (.iload 7, 2) := by decide +kernel
theorem dX8_leastOnWay_78 : decode cX8_leastOnWay 78 = .ok (.iaload, 1) := by decide +kernel
theorem dX8_leastOnWay_79 : decode cX8_leastOnWay 79 = .ok (.goto 5, 3) := by decide +kernel
theorem dX8_leastOnWay_82 : decode cX8_leastOnWay 82 = .ok (.iload 4, 2) := by decide +kernel
theorem dX8_leastOnWay_84 : decode cX8_leastOnWay 84 = .ok (.istore 4, 2) := by decide +kernel
theorem dX8_leastOnWay_86 : decode cX8_leastOnWay 86 = .ok (.iload 5, 2) := by decide +kernel
theorem dX8_leastOnWay_88 : decode cX8_leastOnWay 88 = .ok (.iload 7, 2) := by decide +kernel
theorem dX8_leastOnWay_90 : decode cX8_leastOnWay 90 = .ok (.if_icmp .ne 13, 3) := by decide +kernel
theorem dX8_leastOnWay_93 : decode cX8_leastOnWay 93 = .ok (.aload_n 0, 1) := by decide +kernel
theorem dX8_leastOnWay_94 : decode cX8_leastOnWay 94 = .ok (.getfield 15, 3) := by decide +kernel
theorem dX8_leastOnWay_97 : decode cX8_leastOnWay 97 = .ok (.iload 7, 2) := by decide +kernel
theorem dX8_leastOnWay_99 : decode cX8_leastOnWay 99 = .ok (.iaload, 1) := by decide +kernel
theorem dX8_leastOnWay_100 : decode cX8_leastOnWay 100 = .ok (.goto 5, 3) := by decide +kernel
theorem dX8_leastOnWay_103 : decode cX8_leastOnWay 103 = .ok (.iload 5, 2) := by decide +kernel
theorem dX8_leastOnWay_105 : decode cX8_leastOnWay 105 = .ok (.istore 5, 2) := by decide +kernel
theorem dX8_leastOnWay_107 : decode cX8_leastOnWay 107 = .ok (.iinc 6 1, 3) := by decide +kernel
theorem dX8_leastOnWay_110 : decode cX8_leastOnWay 110 = .ok (.goto (-98), 3) := by decide +kernel
theorem dX8_leastOnWay_113 : decode cX8_leastOnWay 113 = .ok (.iload_n 3, 1) := by decide +kernel
theorem dX8_leastOnWay_114 : decode cX8_leastOnWay 114 = .ok (.ireturn, 1) := by decide +kernel
