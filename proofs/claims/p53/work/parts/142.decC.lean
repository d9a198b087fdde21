theorem dX9_init_0 : decode cX9_init 0 = .ok (.aload_n 0, 1) := by decide +kernel
theorem dX9_init_1 : decode cX9_init 1 = .ok (.invokespecial 1, 3) := by decide +kernel
theorem dX9_init_4 : decode cX9_init 4 = .ok (.aload_n 0, 1) := by decide +kernel
theorem dX9_init_5 : decode cX9_init 5 = .ok (.iconst 4, 1) := by decide +kernel
theorem dX9_init_6 : decode cX9_init 6 = .ok (.anewarray 9, 3) := by decide +kernel
theorem dX9_init_9 : decode cX9_init 9 = .ok (.putfield 11, 3) := by decide +kernel
theorem dX9_init_12 : decode cX9_init 12 = .ok (.aload_n 0, 1) := by decide +kernel
theorem dX9_init_13 : decode cX9_init 13 = .ok (.new 15, 3) := by decide +kernel
theorem dX9_init_16 : decode cX9_init 16 = .ok (.dup, 1) := by decide +kernel
theorem dX9_init_17 : decode cX9_init 17 = .ok (.invokespecial 17, 3) := by decide +kernel
theorem dX9_init_20 : decode cX9_init 20 = .ok (.putfield 18, 3) := by decide +kernel
theorem dX9_init_23 : decode cX9_init 23 = .ok (.aload_n 0, 1) := by decide +kernel
theorem dX9_init_24 : decode cX9_init 24 = .ok (.new 22, 3) := by decide +kernel
theorem dX9_init_27 : decode cX9_init 27 = .ok (.dup, 1) := by decide +kernel
theorem dX9_init_28 : decode cX9_init 28 = .ok (.invokespecial 24, 3) := by decide +kernel
theorem dX9_init_31 : decode cX9_init 31 = .ok (.putfield 25, 3) := by decide +kernel
theorem dX9_init_34 : decode cX9_init 34 = .ok (.aload_n 0, 1) := by decide +kernel
theorem dX9_init_35 : decode cX9_init 35 = .ok (.new 29, 3) := by decide +kernel
theorem dX9_init_38 : decode cX9_init 38 = .ok (.dup, 1) := by decide +kernel
theorem dX9_init_39 : decode cX9_init 39 = .ok (.invokespecial 31, 3) := by decide +kernel
theorem dX9_init_42 : decode cX9_init 42 = .ok (.putfield 32, 3) := by decide +kernel
theorem dX9_init_45 : decode cX9_init 45 = .ok (.aload_n 0, 1) := by decide +kernel
theorem dX9_init_46 : decode cX9_init 46 = .ok (.new 36, 3) := by decide +kernel
theorem dX9_init_49 : decode cX9_init 49 = .ok (.dup, 1) := by decide +kernel
theorem dX9_init_50 : decode cX9_init 50 = .ok (.invokespecial 38, 3) := by decide +kernel
theorem dX9_init_53 : decode cX9_init 53 = .ok (.putfield 39, 3) := by decide +kernel
theorem dX9_init_56 : decode cX9_init 56 = .ok (.aload_n 0, 1) := by decide +kernel
theorem dX9_init_57 : decode cX9_init 57 = .ok (.new 43, 3) := by decide +kernel
theorem dX9_init_60 : decode cX9_init 60 = .ok (.dup, 1) := by decide +kernel
theorem dX9_init_61 : decode cX9_init 61 = .ok (.invokespecial 45, 3) := by decide +kernel
theorem dX9_init_64 : decode cX9_init 64 = .ok (.putfield 46, 3) := by decide +kernel
theorem dX9_init_67 : decode cX9_init 67 = .ok (.aload_n 0, 1) := by decide +kernel
theorem dX9_init_68 : decode cX9_init 68 = .ok (.new 50, 3) := by decide +kernel
theorem dX9_init_71 : decode cX9_init 71 = .ok (.dup, 1) := by decide +kernel
theorem dX9_init_72 : decode cX9_init 72 = .ok (.invokespecial 52, 3) := by decide +kernel
theorem dX9_init_75 : decode cX9_init 75 = .ok (.putfield 53, 3) := by decide +kernel
theorem dX9_init_78 : decode cX9_init 78 = .ok (.aload_n 0, 1) := by decide +kernel
theorem dX9_init_79 : decode cX9_init 79 = .ok (.new 57, 3) := by decide +kernel
theorem dX9_init_82 : decode cX9_init 82 = .ok (.dup, 1) := by decide +kernel
theorem dX9_init_83 : decode cX9_init 83 = .ok (.invokespecial 59, 3) := by decide +kernel
theorem dX9_init_86 : decode cX9_init 86 = .ok (.putfield 60, 3) := by decide +kernel
theorem dX9_init_89 : decode cX9_init 89 = .ok (.return_, 1) := by decide +kernel
theorem dX9_net_0 : decode cX9_net 0 = .ok (.iload_n 1, 1) := by decide +kernel
theorem dX9_net_1 : decode cX9_net 1 = .ok (.iconst 2, 1) := by decide +kernel
theorem dX9_net_2 : decode cX9_net 2 = .ok (.if_icmp .lt 9, 3) := by decide +kernel
theorem dX9_net_5 : decode cX9_net 5 = .ok (.iload_n 1, 1) := by decide +kernel
theorem dX9_net_6 : decode cX9_net 6 = .ok (.bipush 8, 2) := by decide +kernel
theorem dX9_net_8 : decode cX9_net 8 = .ok (.if_icmp .le 13, 3) := by decide +kernel
theorem dX9_net_11 : decode cX9_net 11 = .ok (.new 64, 3) := by decide +kernel
theorem dX9_net_14 : decode cX9_net 14 = .ok (.dup, 1) := by decide +kernel
theorem dX9_net_15 : decode cX9_net 15 = .ok (.ldc 66, 2) := by decide +kernel
theorem dX9_net_17 : decode cX9_net 17 = .ok (.invokespecial 68, 3) := by decide +kernel
theorem dX9_net_20 : decode cX9_net 20 = .ok (.athrow, 1) := by decide +kernel
theorem dX9_net_21 : decode cX9_net 21 = .ok (.aload_n 0, 1) := by decide +kernel
theorem dX9_net_22 : decode cX9_net 22 = .ok (.getfield 71, 3) := by decide +kernel
theorem dX9_net_25 : decode cX9_net 25 = .ok (.ifCond .lt 15, 3) := by decide +kernel
theorem dX9_net_28 : decode cX9_net 28 = .ok (.aload_n 0, 1) := by decide +kernel
theorem dX9_net_29 : decode cX9_net 29 = .ok (.getfield 71, 3) := by decide +kernel
theorem dX9_net_32 : decode cX9_net 32 = .ok (.aload_n 0, 1) := by decide +kernel
theorem dX9_net_33 : decode cX9_net 33 = .ok (.getfield 11, 3) := by decide +kernel
theorem dX9_net_36 : decode cX9_net 36 = .ok (.arraylength, 1) := by decide +kernel
theorem dX9_net_37 : decode cX9_net 37 = .ok (.if_icmp .lt 13, 3) := by decide +kernel
theorem dX9_net_40 : decode cX9_net 40 = .ok (.new 75, 3) := by decide +kernel
theorem dX9_net_43 : decode cX9_net 43 = .ok (.dup, 1) := by decide +kernel
theorem dX9_net_44 : decode cX9_net 44 = .ok (.ldc 77, 2) := by decide +kernel
theorem dX9_net_46 : decode cX9_net 46 = .ok (.invokespecial 79, 3) := by decide +kernel
theorem dX9_net_49 : decode cX9_net 49 = .ok (.athrow, 1) := by decide +kernel
theorem dX9_net_50 : decode cX9_net 50 = .ok (.aload_n 0, 1) := by decide +kernel
theorem dX9_net_51 : decode cX9_net 51 = .ok (.getfield 11, 3) := by decide +kernel
theorem dX9_net_54 : decode cX9_net 54 = .ok (.aload_n 0, 1) := by decide +kernel
theorem dX9_net_55 : decode cX9_net 55 = .ok (.getfield 71, 3) := by decide +kernel
theorem dX9_net_58 : decode cX9_net 58 = .ok (.new 9, 3) := by decide +kernel
theorem dX9_net_61 : decode cX9_net 61 = .ok (.dup, 1) := by decide +kernel
theorem dX9_net_62 : decode cX9_net 62 = .ok (.iload_n 1, 1) := by decide +kernel
theorem dX9_net_63 : decode cX9_net 63 = .ok (.invokespecial 80, 3) := by decide +kernel
theorem dX9_net_66 : decode cX9_net 66 = .ok (.aastore, 1) := by decide +kernel
theorem dX9_net_67 : decode cX9_net 67 = .ok (.aload_n 0, 1) := by decide +kernel
theorem dX9_net_68 : decode cX9_net 68 = .ok (.dup, 1) := by decide +kernel
theorem dX9_net_69 : decode cX9_net 69 = .ok (.getfield 71, 3) := by decide +kernel
theorem dX9_net_72 : decode cX9_net 72 = .ok (.iconst 1, 1) := by decide +kernel
theorem dX9_net_73 : decode cX9_net 73 = .ok (.iadd, 1) := by decide +kernel
theorem dX9_net_74 : decode cX9_net 74 = .ok (.putfield 71, 3) := by decide +kernel
theorem dX9_net_77 : decode cX9_net 77 = .ok (.aload_n 0, 1) := by decide +kernel
theorem dX9_net_78 : decode cX9_net 78 = .ok (.getfield 71, 3) := by decide +kernel
theorem dX9_net_81 : decode cX9_net 81 = .ok (.iconst 1, 1) := by decide +kernel
theorem dX9_net_82 : decode cX9_net 82 = .ok (.isub, 1) := by decide +kernel
theorem dX9_net_83 : decode cX9_net 83 = .ok (.ireturn, 1) := by decide +kernel
theorem dX9_edge_0 : decode cX9_edge 0 = .ok (.aload_n 0, 1) := by decide +kernel
theorem dX9_edge_1 : decode cX9_edge 1 = .ok (.iload_n 1, 1) := by decide +kernel
theorem dX9_edge_2 : decode cX9_edge 2 = .ok (.invokevirtual 83, 3) := by decide +kernel
theorem dX9_edge_5 : decode cX9_edge 5 = .ok (.astore 7, 2) := by decide +kernel
theorem dX9_edge_7 : decode cX9_edge 7 = .ok (.aload 7, 2) := by decide +kernel
theorem dX9_edge_9 : decode cX9_edge 9 = .ok (.iload_n 2, 1) := by decide +kernel
theorem dX9_edge_10 : decode cX9_edge 10 = .ok (.iload_n 3, 1) := by decide +kernel
theorem dX9_edge_11 : decode cX9_edge 11 = .ok (.invokestatic 87, 3) := by decide +kernel
theorem dX9_edge_14 : decode cX9_edge 14 = .ok (.iload 4, 2) := by decide +kernel
theorem dX9_edge_16 : decode cX9_edge 16 = .ok (.iload 5, 2) := by decide +kernel
theorem dX9_edge_18 : decode cX9_edge 18 = .ok (.iload 6, 2) := by decide +kernel
theorem dX9_edge_20 : decode cX9_edge 20 = .ok (.invokestatic 91, 3) := by decide +kernel
theorem dX9_edge_23 : decode cX9_edge 23 = .ok (.aload 7, 2) := by decide +kernel
theorem dX9_edge_25 : decode cX9_edge 25 = .ok (.getfield 95, 3) := by decide +kernel
theorem dX9_edge_28 : decode cX9_edge 28 = .ok (.bipush 16, 2) := by decide +kernel
theorem dX9_edge_30 : decode cX9_edge 30 = .ok (.if_icmp .lt 13, 3) := by decide +kernel
theorem dX9_edge_33 : decode cX9_edge 33 = .ok (.new 75, 3) := by decide +kernel
theorem dX9_edge_36 : decode cX9_edge 36 = .ok (.dup, 1) := by decide +kernel
theorem dX9_edge_37 : decode cX9_edge 37 = .ok (.ldc 98, 2) := by decide +kernel
theorem dX9_edge_39 : decode cX9_edge 39 = .ok (.invokespecial 79, 3) := by decide +kernel
theorem dX9_edge_42 : decode cX9_edge 42 = .ok (.athrow, 1) := by decide +kernel
theorem dX9_edge_43 : decode cX9_edge 43 = .ok (.aload 7, 2) := by decide +kernel
theorem dX9_edge_45 : decode cX9_edge 45 = .ok (.iload_n 2, 1) := by decide +kernel
theorem dX9_edge_46 : decode cX9_edge 46 = .ok (.iload_n 3, 1) := by decide +kernel
theorem dX9_edge_47 : decode cX9_edge 47 = .ok (.iload 4, 2) := by decide +kernel
theorem dX9_edge_49 : decode cX9_edge 49 = .ok (.iload 5, 2) := by decide +kernel
theorem dX9_edge_51 : decode cX9_edge 51 = .ok (.iload 6, 2) := by decide +kernel
theorem dX9_edge_53 : decode cX9_edge 53 = .ok (.invokevirtual 100, 3) := by decide +kernel
theorem dX9_edge_56 : decode cX9_edge 56 = .ok (.ireturn, 1) := by decide +kernel
theorem dX9_change_0 : decode cX9_change 0 = .ok (.aload_n 0, 1) := by decide +kernel
theorem dX9_change_1 : decode cX9_change 1 = .ok (.iload_n 1, 1) := by decide +kernel
theorem dX9_change_2 : decode cX9_change 2 = .ok (.invokevirtual 83, 3) := by decide +kernel
theorem dX9_change_5 : decode cX9_change 5 = .ok (.astore 6, 2) := by decide +kernel
theorem dX9_change_7 : decode cX9_change 7 = .ok (.aload 6, 2) := by decide +kernel
theorem dX9_change_9 : decode cX9_change 9 = .ok (.iload_n 2, 1) := by decide +kernel
theorem dX9_change_10 : decode cX9_change 10 = .ok (.invokestatic 104, 3) := by decide +kernel
theorem dX9_change_13 : decode cX9_change 13 = .ok (.iload_n 3, 1) := by decide +kernel
theorem dX9_change_14 : decode cX9_change 14 = .ok (.iload 4, 2) := by decide +kernel
theorem dX9_change_16 : decode cX9_change 16 = .ok (.iload 5, 2) := by decide +kernel
theorem dX9_change_18 : decode cX9_change 18 = .ok (.invokestatic 91, 3) := by decide +kernel
theorem dX9_change_21 : decode cX9_change 21 = .ok (.aload 6, 2) := by decide +kernel
theorem dX9_change_23 : decode cX9_change 23 = .ok (.getfield 108, 3) := by decide +kernel
theorem dX9_change_26 : decode cX9_change 26 = .ok (.iload_n 2, 1) := by decide +kernel
theorem dX9_change_27 : decode cX9_change 27 = .ok (.iaload, 1) := by decide +kernel
theorem dX9_change_28 : decode cX9_change 28 = .ok (.istore 7, 2) := by decide +kernel
theorem dX9_change_30 : decode cX9_change 30 = .ok (.aload 6, 2) := by decide +kernel
theorem dX9_change_32 : decode cX9_change 32 = .ok (.iload_n 2, 1) := by decide +kernel
theorem dX9_change_33 : decode cX9_change 33 = .ok (.iload_n 3, 1) := by decide +kernel
theorem dX9_change_34 : decode cX9_change 34 = .ok (.iload 4, 2) := by decide +kernel
theorem dX9_change_36 : decode cX9_change 36 = .ok (.iload 5, 2) := by decide +kernel
theorem dX9_change_38 : decode cX9_change 38 = .ok (.invokevirtual 112, 3) := by decide +kernel
theorem dX9_change_41 : decode cX9_change 41 = .ok (.iload 7, 2) := by decide +kernel
theorem dX9_change_43 : decode cX9_change 43 = .ok (.ireturn, 1) := by decide +kernel
theorem dX9_supply_0 : decode cX9_supply 0 = .ok (.aload_n 0, 1) := by decide +kernel
theorem dX9_supply_1 : decode cX9_supply 1 = .ok (.iload_n 1, 1) := by decide +kernel
theorem dX9_supply_2 : decode cX9_supply 2 = .ok (.invokevirtual 83, 3) := by decide +kernel
theorem dX9_supply_5 : decode cX9_supply 5 = .ok (.astore 4, 2) := by decide +kernel
theorem dX9_supply_7 : decode cX9_supply 7 = .ok (.aload 4, 2) := by decide +kernel
theorem dX9_supply_9 : decode cX9_supply 9 = .ok (.iload_n 2, 1) := by decide +kernel
theorem dX9_supply_10 : decode cX9_supply 10 = .ok (.invokestatic 119, 3) := by decide +kernel
theorem dX9_supply_13 : decode cX9_supply 13 = .ok (.iload_n 3, 1) := by decide +kernel
theorem dX9_supply_14 : decode cX9_supply 14 = .ok (.bipush (-99), 2) := by decide +kernel
theorem dX9_supply_16 : decode cX9_supply 16 = .ok (.if_icmp .lt 9, 3) := by decide +kernel
theorem dX9_supply_19 : decode cX9_supply 19 = .ok (.iload_n 3, 1) := by decide +kernel
theorem dX9_supply_20 : decode cX9_supply 20 = .ok (.bipush 99, 2) := by decide +kernel
theorem dX9_supply_22 : decode cX9_supply 22 = .ok (.if_icmp .le 13, 3) := by decide +kernel
theorem dX9_supply_25 : decode cX9_supply 25 = .ok (.new 64, 3) := by decide +kernel
theorem dX9_supply_28 : decode cX9_supply 28 = .ok (.dup, 1) := by decide +kernel
theorem dX9_supply_29 : decode cX9_supply 29 = .ok (.ldc 122, 2) := by decide +kernel
theorem dX9_supply_31 : decode cX9_supply 31 = .ok (.invokespecial 68, 3) := by decide +kernel
theorem dX9_supply_34 : decode cX9_supply 34 = .ok (.athrow, 1) := by decide +kernel
theorem dX9_supply_35 : decode cX9_supply 35 = .ok (.aload 4, 2) := by decide +kernel
theorem dX9_supply_37 : decode cX9_supply 37 = .ok (.getfield 124, 3) := by decide +kernel
theorem dX9_supply_40 : decode cX9_supply 40 = .ok (.iload_n 2, 1) := by decide +kernel
theorem dX9_supply_41 : decode cX9_supply 41 = .ok (.iaload, 1) := by decide +kernel
theorem dX9_supply_42 : decode cX9_supply 42 = .ok (.istore 5, 2) := by decide +kernel
theorem dX9_supply_44 : decode cX9_supply 44 = .ok (.aload 4, 2) := by decide +kernel
theorem dX9_supply_46 : decode cX9_supply 46 = .ok (.getfield 124, 3) := by decide +kernel
theorem dX9_supply_49 : decode cX9_supply 49 = .ok (.iload_n 2, 1) := by decide +kernel
theorem dX9_supply_50 : decode cX9_supply 50 = .ok (.iload_n 3, 1) := by decide +kernel
theorem dX9_supply_51 : decode cX9_supply 51 = .ok (.iastore, 1) := by decide +kernel
theorem dX9_supply_52 : decode cX9_supply 52 = .ok (.iload 5, 2) := by decide +kernel
theorem dX9_supply_54 : decode cX9_supply 54 = .ok (.ireturn, 1) := by decide +kernel
theorem dX9_most_0 : decode cX9_most 0 = .ok (.aload_n 0, 1) := by decide +kernel
theorem dX9_most_1 : decode cX9_most 1 = .ok (.iload_n 1, 1) := by decide +kernel
theorem dX9_most_2 : decode cX9_most 2 = .ok (.invokevirtual 83, 3) := by decide +kernel
theorem dX9_most_5 : decode cX9_most 5 = .ok (.astore 4, 2) := by decide +kernel
theorem dX9_most_7 : decode cX9_most 7 = .ok (.aload 4, 2) := by decide +kernel
theorem dX9_most_9 : decode cX9_most 9 = .ok (.iload_n 2, 1) := by decide +kernel
theorem dX9_most_10 : decode cX9_most 10 = .ok (.iload_n 3, 1) := by decide +kernel
theorem dX9_most_11 : decode cX9_most 11 = .ok (.invokestatic 87, 3) := by decide +kernel
theorem dX9_most_14 : decode cX9_most 14 = .ok (.aload_n 0, 1) := by decide +kernel
theorem dX9_most_15 : decode cX9_most 15 = .ok (.aload 4, 2) := by decide +kernel
theorem dX9_most_17 : decode cX9_most 17 = .ok (.iload_n 2, 1) := by decide +kernel
theorem dX9_most_18 : decode cX9_most 18 = .ok (.iload_n 3, 1) := by decide +kernel
theorem dX9_most_19 : decode cX9_most 19 = .ok (.invokevirtual 127, 3) := by decide +kernel
theorem dX9_most_22 : decode cX9_most 22 = .ok (.ireturn, 1) := by decide +kernel
theorem dX9_flow_0 : decode cX9_flow 0 = .ok (.aload_n 0, 1) := by decide +kernel
theorem dX9_flow_1 : decode cX9_flow 1 = .ok (.iload_n 1, 1) := by decide +kernel
theorem dX9_flow_2 : decode cX9_flow 2 = .ok (.invokevirtual 83, 3) := by decide +kernel
theorem dX9_flow_5 : decode cX9_flow 5 = .ok (.astore 5, 2) := by decide +kernel
theorem dX9_flow_7 : decode cX9_flow 7 = .ok (.aload 5, 2) := by decide +kernel
theorem dX9_flow_9 : decode cX9_flow 9 = .ok (.iload 4, 2) := by decide +kernel
theorem dX9_flow_11 : decode cX9_flow 11 = .ok (.invokestatic 104, 3) := by decide +kernel
theorem dX9_flow_14 : decode cX9_flow 14 = .ok (.aload 5, 2) := by decide +kernel
theorem dX9_flow_16 : decode cX9_flow 16 = .ok (.iload_n 2, 1) := by decide +kernel
theorem dX9_flow_17 : decode cX9_flow 17 = .ok (.iload_n 3, 1) := by decide +kernel
theorem dX9_flow_18 : decode cX9_flow 18 = .ok (.invokestatic 87, 3) := by decide +kernel
theorem dX9_flow_21 : decode cX9_flow 21 = .ok (.aload_n 0, 1) := by decide +kernel
theorem dX9_flow_22 : decode cX9_flow 22 = .ok (.aload 5, 2) := by decide +kernel
theorem dX9_flow_24 : decode cX9_flow 24 = .ok (.iload_n 2, 1) := by decide +kernel
theorem dX9_flow_25 : decode cX9_flow 25 = .ok (.iload_n 3, 1) := by decide +kernel
theorem dX9_flow_26 : decode cX9_flow 26 = .ok (.invokevirtual 131, 3) := by decide +kernel
theorem dX9_flow_29 : decode cX9_flow 29 = .ok (.aload_n 0, 1) := by decide +kernel
theorem dX9_flow_30 : decode cX9_flow 30 = .ok (.getfield 18, 3) := by decide +kernel
theorem dX9_flow_33 : decode cX9_flow 33 = .ok (.iload 4, 2) := by decide +kernel
theorem dX9_flow_35 : decode cX9_flow 35 = .ok (.invokevirtual 134, 3) := by decide +kernel
theorem dX9_flow_38 : decode cX9_flow 38 = .ok (.ireturn, 1) := by decide +kernel
theorem dX9_crowd_0 : decode cX9_crowd 0 = .ok (.aload_n 0, 1) := by decide +kernel
theorem dX9_crowd_1 : decode cX9_crowd 1 = .ok (.iload_n 1, 1) := by decide +kernel
theorem dX9_crowd_2 : decode cX9_crowd 2 = .ok (.invokevirtual 83, 3) := by decide +kernel
theorem dX9_crowd_5 : decode cX9_crowd 5 = .ok (.astore 4, 2) := by decide +kernel
theorem dX9_crowd_7 : decode cX9_crowd 7 = .ok (.aload 4, 2) := by decide +kernel
theorem dX9_crowd_9 : decode cX9_crowd 9 = .ok (.iload_n 2, 1) := by decide +kernel
theorem dX9_crowd_10 : decode cX9_crowd 10 = .ok (.iload_n 3, 1) := by decide +kernel
theorem dX9_crowd_11 : decode cX9_crowd 11 = .ok (.invokestatic 87, 3) := by decide +kernel
theorem dX9_crowd_14 : decode cX9_crowd 14 = .ok (.aload_n 0, 1) := by decide +kernel
theorem dX9_crowd_15 : decode cX9_crowd 15 = .ok (.getfield 25, 3) := by decide +kernel
theorem dX9_crowd_18 : decode cX9_crowd 18 = .ok (.aload 4, 2) := by decide +kernel
theorem dX9_crowd_20 : decode cX9_crowd 20 = .ok (.iload_n 2, 1) := by decide +kernel
theorem dX9_crowd_21 : decode cX9_crowd 21 = .ok (.iload_n 3, 1) := by decide +kernel
theorem dX9_crowd_22 : decode cX9_crowd 22 = .ok (.invokevirtual 138, 3) := by decide +kernel
theorem dX9_crowd_25 : decode cX9_crowd 25 = .ok (.istore 5, 2) := by decide +kernel
theorem dX9_crowd_27 : decode cX9_crowd 27 = .ok (.iload 5, 2) := by decide +kernel
theorem dX9_crowd_29 : decode cX9_crowd 29 = .ok (.iconst (-1), 1) := by decide +kernel
theorem dX9_crowd_30 : decode cX9_crowd 30 = .ok (.if_icmp .ne 13, 3) := by decide +kernel
theorem dX9_crowd_33 : decode cX9_crowd 33 = .ok (.new 141, 3) := by decide +kernel
theorem dX9_crowd_36 : decode cX9_crowd 36 = .ok (.dup, 1) := by decide +kernel
theorem dX9_crowd_37 : decode cX9_crowd 37 = .ok (.ldc 143, 2) := by decide +kernel
theorem dX9_crowd_39 : decode cX9_crowd 39 = .ok (.invokespecial 145, 3) := by decide +kernel
theorem dX9_crowd_42 : decode cX9_crowd 42 = .ok (.athrow, 1) := by decide +kernel
theorem dX9_crowd_43 : decode cX9_crowd 43 = .ok (.iload 5, 2) := by decide +kernel
theorem dX9_crowd_45 : decode cX9_crowd 45 = .ok (.ireturn, 1) := by decide +kernel
theorem dX9_cut_0 : decode cX9_cut 0 = .ok (.aload_n 0, 1) := by decide +kernel
theorem dX9_cut_1 : decode cX9_cut 1 = .ok (.iload_n 1, 1) := by decide +kernel
theorem dX9_cut_2 : decode cX9_cut 2 = .ok (.invokevirtual 83, 3) := by decide +kernel
theorem dX9_cut_5 : decode cX9_cut 5 = .ok (.astore 5, 2) := by decide +kernel
theorem dX9_cut_7 : decode cX9_cut 7 = .ok (.aload 5, 2) := by decide +kernel
theorem dX9_cut_9 : decode cX9_cut 9 = .ok (.iload_n 2, 1) := by decide +kernel
theorem dX9_cut_10 : decode cX9_cut 10 = .ok (.iload_n 3, 1) := by decide +kernel
theorem dX9_cut_11 : decode cX9_cut 11 = .ok (.invokestatic 87, 3) := by decide +kernel
theorem dX9_cut_14 : decode cX9_cut 14 = .ok (.aload_n 0, 1) := by decide +kernel
theorem dX9_cut_15 : decode cX9_cut 15 = .ok (.aload 5, 2) := by decide +kernel
theorem dX9_cut_17 : decode cX9_cut 17 = .ok (.iload_n 2, 1) := by decide +kernel
theorem dX9_cut_18 : decode cX9_cut 18 = .ok (.iload_n 3, 1) := by decide +kernel
theorem dX9_cut_19 : decode cX9_cut 19 = .ok (.invokevirtual 127, 3) := by decide +kernel
theorem dX9_cut_22 : decode cX9_cut 22 = .ok (.pop, 1) := by decide +kernel
theorem dX9_cut_23 : decode cX9_cut 23 = .ok (.aload_n 0, 1) := by decide +kernel
theorem dX9_cut_24 : decode cX9_cut 24 = .ok (.getfield 25, 3) := by decide +kernel
theorem dX9_cut_27 : decode cX9_cut 27 = .ok (.aload 5, 2) := by decide +kernel
theorem dX9_cut_29 : decode cX9_cut 29 = .ok (.iload_n 2, 1) := by decide +kernel
theorem dX9_cut_30 : decode cX9_cut 30 = .ok (.iload_n 3, 1) := by decide +kernel
theorem dX9_cut_31 : decode cX9_cut 31 = .ok (.invokevirtual 146, 3) := by decide +kernel
theorem dX9_cut_34 : decode cX9_cut 34 = .ok (.iload 4, 2) := by decide +kernel
theorem dX9_cut_36 : decode cX9_cut 36 = .ok (.ifCond .eq 13, 3) := by decide +kernel
theorem dX9_cut_39 : decode cX9_cut 39 = .ok (.aload_n 0, 1) := by decide +kernel
theorem dX9_cut_40 : decode cX9_cut 40 = .ok (.getfield 25, 3) := by decide +kernel
theorem dX9_cut_43 : decode cX9_cut 43 = .ok (.getfield 149, 3) := by decide +kernel
theorem dX9_cut_46 : decode cX9_cut 46 = .ok (.goto 10, 3) := by decide +kernel
theorem dX9_cut_49 : decode cX9_cut 49 = .ok (.aload_n 0, 1) := by decide +kernel
theorem dX9_cut_50 : decode cX9_cut 50 = .ok (.getfield 25, 3) := by decide +kernel
theorem dX9_cut_53 : decode cX9_cut 53 = .ok (.getfield 152, 3) := by decide +kernel
theorem dX9_cut_56 : decode cX9_cut 56 = .ok (.ireturn, 1) := by decide +kernel
theorem dX9_cutSum_0 : decode cX9_cutSum 0 = .ok (.aload_n 0, 1) := by decide +kernel
theorem dX9_cutSum_1 : decode cX9_cutSum 1 = .ok (.iload_n 1, 1) := by decide +kernel
theorem dX9_cutSum_2 : decode cX9_cutSum 2 = .ok (.invokevirtual 83, 3) := by decide +kernel
theorem dX9_cutSum_5 : decode cX9_cutSum 5 = .ok (.astore 5, 2) := by decide +kernel
theorem dX9_cutSum_7 : decode cX9_cutSum 7 = .ok (.aload 5, 2) := by decide +kernel
theorem dX9_cutSum_9 : decode cX9_cutSum 9 = .ok (.iload_n 2, 1) := by decide +kernel
theorem dX9_cutSum_10 : decode cX9_cutSum 10 = .ok (.iload_n 3, 1) := by decide +kernel
theorem dX9_cutSum_11 : decode cX9_cutSum 11 = .ok (.invokestatic 87, 3) := by decide +kernel
theorem dX9_cutSum_14 : decode cX9_cutSum 14 = .ok (.iload 4, 2) := by decide +kernel
theorem dX9_cutSum_16 : decode cX9_cutSum 16 = .ok (.ifCond .lt 25, 3) := by decide +kernel
theorem dX9_cutSum_19 : decode cX9_cutSum 19 = .ok (.iload 4, 2) := by decide +kernel
theorem dX9_cutSum_21 : decode cX9_cutSum 21 = .ok (.iconst 1, 1) := by decide +kernel
theorem dX9_cutSum_22 : decode cX9_cutSum 22 = .ok (.aload 5, 2) := by decide +kernel
theorem dX9_cutSum_24 : decode cX9_cutSum 24 = .ok (.getfield 155, 3) := by decide +kernel
theorem dX9_cutSum_27 : decode cX9_cutSum 27 = .ok (.ishl, 1) := by decide +kernel
theorem dX9_cutSum_28 : decode cX9_cutSum 28 = .ok (.if_icmp .ge 13, 3) := by decide +kernel
theorem dX9_cutSum_31 : decode cX9_cutSum 31 = .ok (.iload 4, 2) := by decide +kernel
theorem dX9_cutSum_33 : decode cX9_cutSum 33 = .ok (.iload_n 2, 1) := by decide +kernel
theorem dX9_cutSum_34 : decode cX9_cutSum 34 = .ok (.iload_n 3, 1) := by decide +kernel
theorem dX9_cutSum_35 : decode cX9_cutSum 35 = .ok (.invokestatic 158, 3) := by decide +kernel
theorem dX9_cutSum_38 : decode cX9_cutSum 38 = .ok (.ifCond .ne 13, 3) := by decide +kernel
theorem dX9_cutSum_41 : decode cX9_cutSum 41 = .ok (.new 64, 3) := by decide +kernel
theorem dX9_cutSum_44 : decode cX9_cutSum 44 = .ok (.dup, 1) := by decide +kernel
theorem dX9_cutSum_45 : decode cX9_cutSum 45 = .ok (.ldc 162, 2) := by decide +kernel
theorem dX9_cutSum_47 : decode cX9_cutSum 47 = .ok (.invokespecial 68, 3) := by decide +kernel
theorem dX9_cutSum_50 : decode cX9_cutSum 50 = .ok (.athrow, 1) := by decide +kernel
theorem dX9_cutSum_51 : decode cX9_cutSum 51 = .ok (.aload_n 0, 1) := by decide +kernel
theorem dX9_cutSum_52 : decode cX9_cutSum 52 = .ok (.getfield 25, 3) := by decide +kernel
theorem dX9_cutSum_55 : decode cX9_cutSum 55 = .ok (.aload 5, 2) := by decide +kernel
theorem dX9_cutSum_57 : decode cX9_cutSum 57 = .ok (.iload 4, 2) := by decide +kernel
theorem dX9_cutSum_59 : decode cX9_cutSum 59 = .ok (.invokevirtual 164, 3) := by decide +kernel
theorem dX9_cutSum_62 : decode cX9_cutSum 62 = .ok (.ireturn, 1) := by decide +kernel
theorem dX9_cuts_0 : decode cX9_cuts 0 = .ok (.aload_n 0, 1) := by decide +kernel
theorem dX9_cuts_1 : decode cX9_cuts 1 = .ok (.iload_n 1, 1) := by decide +kernel
theorem dX9_cuts_2 : decode cX9_cuts 2 = .ok (.invokevirtual 83, 3) := by decide +kernel
theorem dX9_cuts_5 : decode cX9_cuts 5 = .ok (.astore 4, 2) := by decide +kernel
theorem dX9_cuts_7 : decode cX9_cuts 7 = .ok (.aload 4, 2) := by decide +kernel
theorem dX9_cuts_9 : decode cX9_cuts 9 = .ok (.iload_n 2, 1) := by decide +kernel
theorem dX9_cuts_10 : decode cX9_cuts 10 = .ok (.iload_n 3, 1) := by decide +kernel
theorem dX9_cuts_11 : decode cX9_cuts 11 = .ok (.invokestatic 87, 3) := by decide +kernel
theorem dX9_cuts_14 : decode cX9_cuts 14 = .ok (.aload_n 0, 1) := by decide +kernel
theorem dX9_cuts_15 : decode cX9_cuts 15 = .ok (.aload 4, 2) := by decide +kernel
theorem dX9_cuts_17 : decode cX9_cuts 17 = .ok (.iload_n 2, 1) := by decide +kernel
theorem dX9_cuts_18 : decode cX9_cuts 18 = .ok (.iload_n 3, 1) := by decide +kernel
theorem dX9_cuts_19 : decode cX9_cuts 19 = .ok (.invokevirtual 127, 3) := by decide +kernel
theorem dX9_cuts_22 : decode cX9_cuts 22 = .ok (.pop, 1) := by decide +kernel
theorem dX9_cuts_23 : decode cX9_cuts 23 = .ok (.aload_n 0, 1) := by decide +kernel
theorem dX9_cuts_24 : decode cX9_cuts 24 = .ok (.getfield 25, 3) := by decide +kernel
theorem dX9_cuts_27 : decode cX9_cuts 27 = .ok (.aload 4, 2) := by decide +kernel
theorem dX9_cuts_29 : decode cX9_cuts 29 = .ok (.iload_n 2, 1) := by decide +kernel
theorem dX9_cuts_30 : decode cX9_cuts 30 = .ok (.iload_n 3, 1) := by decide +kernel
theorem dX9_cuts_31 : decode cX9_cuts 31 = .ok (.invokevirtual 146, 3) := by decide +kernel
theorem dX9_cuts_34 : decode cX9_cuts 34 = .ok (.aload_n 0, 1) := by decide +kernel
theorem dX9_cuts_35 : decode cX9_cuts 35 = .ok (.getfield 25, 3) := by decide +kernel
theorem dX9_cuts_38 : decode cX9_cuts 38 = .ok (.getfield 168, 3) := by decide +kernel
theorem dX9_cuts_41 : decode cX9_cuts 41 = .ok (.ireturn, 1) := by decide +kernel
theorem dX9_isFull_0 : decode cX9_isFull 0 = .ok (.aload_n 0, 1) := by decide +kernel
theorem dX9_isFull_1 : decode cX9_isFull 1 = .ok (.iload_n 1, 1) := by decide +kernel
theorem dX9_isFull_2 : decode cX9_isFull 2 = .ok (.invokevirtual 83, 3) := by decide +kernel
theorem dX9_isFull_5 : decode cX9_isFull 5 = .ok (.astore 5, 2) := by decide +kernel
theorem dX9_isFull_7 : decode cX9_isFull 7 = .ok (.aload 5, 2) := by decide +kernel
theorem dX9_isFull_9 : decode cX9_isFull 9 = .ok (.iload 4, 2) := by decide +kernel
theorem dX9_isFull_11 : decode cX9_isFull 11 = .ok (.invokestatic 104, 3) := by decide +kernel
theorem dX9_isFull_14 : decode cX9_isFull 14 = .ok (.aload 5, 2) := by decide +kernel
theorem dX9_isFull_16 : decode cX9_isFull 16 = .ok (.iload_n 2, 1) := by decide +kernel
theorem dX9_isFull_17 : decode cX9_isFull 17 = .ok (.iload_n 3, 1) := by decide +kernel
theorem dX9_isFull_18 : decode cX9_isFull 18 = .ok (.invokestatic 87, 3) := by decide +kernel
theorem dX9_isFull_21 : decode cX9_isFull 21 = .ok (.aload_n 0, 1) := by decide +kernel
theorem dX9_isFull_22 : decode cX9_isFull 22 = .ok (.aload 5, 2) := by decide +kernel
theorem dX9_isFull_24 : decode cX9_isFull 24 = .ok (.iload_n 2, 1) := by decide +kernel
theorem dX9_isFull_25 : decode cX9_isFull 25 = .ok (.iload_n 3, 1) := by decide +kernel
theorem dX9_isFull_26 : decode cX9_isFull 26 = .ok (.invokevirtual 127, 3) := by decide +kernel
theorem dX9_isFull_29 : decode cX9_isFull 29 = .ok (.pop, 1) := by decide +kernel
theorem dX9_isFull_30 : decode cX9_isFull 30 = .ok (.aload_n 0, 1) := by decide +kernel
theorem dX9_isFull_31 : decode cX9_isFull 31 = .ok (.getfield 18, 3) := by decide +kernel
theorem dX9_isFull_34 : decode cX9_isFull 34 = .ok (.iload 4, 2) := by decide +kernel
theorem dX9_isFull_36 : decode cX9_isFull 36 = .ok (.invokevirtual 171, 3) := by decide +kernel
theorem dX9_isFull_39 : decode cX9_isFull 39 = .ok (.aload 5, 2) := by decide +kernel
theorem dX9_isFull_41 : decode cX9_isFull 41 = .ok (.getfield 108, 3) := by decide +kernel
theorem dX9_isFull_44 : decode cX9_isFull 44 = .ok (.iload 4, 2) := by decide +kernel
theorem dX9_isFull_46 : decode cX9_isFull 46 = .ok (.iaload, 1) := by decide +kernel
theorem dX9_isFull_47 : decode cX9_isFull 47 = .ok (.if_icmp .ne 7, 3) := by decide +kernel
theorem dX9_isFull_50 : decode cX9_isFull 50 = .ok (.iconst 1, 1) := by decide +kernel
theorem dX9_isFull_51 : decode cX9_isFull 51 = .ok (.goto 4, 3) := by decide +kernel
theorem dX9_isFull_54 : decode cX9_isFull 54 = .ok (.iconst 0, 1) := by decide +kernel
theorem dX9_isFull_55 : decode cX9_isFull 55 = .ok (.ireturn, 1) := by decide +kernel
theorem dX9_rounds_0 : decode cX9_rounds 0 = .ok (.aload_n 0, 1) := by decide +kernel
theorem dX9_rounds_1 : decode cX9_rounds 1 = .ok (.iload_n 1, 1) := by decide +kernel
theorem dX9_rounds_2 : decode cX9_rounds 2 = .ok (.invokevirtual 83, 3) := by decide +kernel
theorem dX9_rounds_5 : decode cX9_rounds 5 = .ok (.astore 4, 2) := by decide +kernel
theorem dX9_rounds_7 : decode cX9_rounds 7 = .ok (.aload 4, 2) := by decide +kernel
theorem dX9_rounds_9 : decode cX9_rounds 9 = .ok (.iload_n 2, 1) := by decide +kernel
theorem dX9_rounds_10 : decode cX9_rounds 10 = .ok (.iload_n 3, 1) := by decide +kernel
theorem dX9_rounds_11 : decode cX9_rounds 11 = .ok (.invokestatic 87, 3) := by decide +kernel
theorem dX9_rounds_14 : decode cX9_rounds 14 = .ok (.aload 4, 2) := by decide +kernel
theorem dX9_rounds_16 : decode cX9_rounds 16 = .ok (.invokestatic 174, 3) := by decide +kernel
theorem dX9_rounds_19 : decode cX9_rounds 19 = .ok (.aload_n 0, 1) := by decide +kernel
theorem dX9_rounds_20 : decode cX9_rounds 20 = .ok (.getfield 18, 3) := by decide +kernel
theorem dX9_rounds_23 : decode cX9_rounds 23 = .ok (.aload 4, 2) := by decide +kernel
theorem dX9_rounds_25 : decode cX9_rounds 25 = .ok (.iload_n 2, 1) := by decide +kernel
theorem dX9_rounds_26 : decode cX9_rounds 26 = .ok (.iload_n 3, 1) := by decide +kernel
theorem dX9_rounds_27 : decode cX9_rounds 27 = .ok (.iconst (-1), 1) := by decide +kernel
theorem dX9_rounds_28 : decode cX9_rounds 28 = .ok (.invokevirtual 178, 3) := by decide +kernel
theorem dX9_rounds_31 : decode cX9_rounds 31 = .ok (.ireturn, 1) := by decide +kernel
theorem dX9_roundAmount_0 : decode cX9_roundAmount 0 = .ok (.aload_n 0, 1) := by decide +kernel
theorem dX9_roundAmount_1 : decode cX9_roundAmount 1 = .ok (.iload_n 1, 1) := by decide +kernel
theorem dX9_roundAmount_2 : decode cX9_roundAmount 2 = .ok (.invokevirtual 83, 3) := by decide +kernel
theorem dX9_roundAmount_5 : decode cX9_roundAmount 5 = .ok (.astore 5, 2) := by decide +kernel
theorem dX9_roundAmount_7 : decode cX9_roundAmount 7 = .ok (.aload 5, 2) := by decide +kernel
theorem dX9_roundAmount_9 : decode cX9_roundAmount 9 = .ok (.iload_n 2, 1) := by decide +kernel
theorem dX9_roundAmount_10 : decode cX9_roundAmount 10 = .ok (.iload_n 3, 1) := by decide +kernel
theorem dX9_roundAmount_11 : decode cX9_roundAmount 11 = .ok (.invokestatic 87, 3) := by decide +kernel
theorem dX9_roundAmount_14 : decode cX9_roundAmount 14 = .ok (.aload 5, 2) := by decide +kernel
theorem dX9_roundAmount_16 : decode cX9_roundAmount 16 = .ok (.invokestatic 174, 3) := by decide +kernel
theorem dX9_roundAmount_19 : decode cX9_roundAmount 19 = .ok (.aload_n 0, 1) := by decide +kernel
theorem dX9_roundAmount_20 : decode cX9_roundAmount 20 = .ok (.aload 5, 2) := by decide +kernel
theorem dX9_roundAmount_22 : decode cX9_roundAmount 22 = .ok (.iload_n 2, 1) := by decide +kernel
theorem dX9_roundAmount_23 : decode cX9_roundAmount 23 = .ok (.iload_n 3, 1) := by decide +kernel
theorem dX9_roundAmount_24 : decode cX9_roundAmount 24 = .ok (.iload 4, 2) := by decide +kernel
theorem dX9_roundAmount_26 : decode cX9_roundAmount 26 = .ok (.invokevirtual 182, 3) := by decide +kernel
theorem dX9_roundAmount_29 : decode cX9_roundAmount 29 = .ok (.aload_n 0, 1) := by decide +kernel
theorem dX9_roundAmount_30 : decode cX9_roundAmount 30 = .ok (.getfield 18, 3) := by decide +kernel
theorem dX9_roundAmount_33 : decode cX9_roundAmount 33 = .ok (.getfield 186, 3) := by decide +kernel
theorem dX9_roundAmount_36 : decode cX9_roundAmount 36 = .ok (.ireturn, 1) := by decide +kernel
theorem dX9_cost_0 : decode cX9_cost 0 = .ok (.aload_n 0, 1) := by decide +kernel
theorem dX9_cost_1 : decode cX9_cost 1 = .ok (.iload_n 1, 1) := by decide +kernel
theorem dX9_cost_2 : decode cX9_cost 2 = .ok (.invokevirtual 83, 3) := by decide +kernel
theorem dX9_cost_5 : decode cX9_cost 5 = .ok (.astore 4, 2) := by decide +kernel
theorem dX9_cost_7 : decode cX9_cost 7 = .ok (.aload 4, 2) := by decide +kernel
theorem dX9_cost_9 : decode cX9_cost 9 = .ok (.iload_n 2, 1) := by decide +kernel
theorem dX9_cost_10 : decode cX9_cost 10 = .ok (.iload_n 3, 1) := by decide +kernel
theorem dX9_cost_11 : decode cX9_cost 11 = .ok (.invokestatic 87, 3) := by decide +kernel
theorem dX9_cost_14 : decode cX9_cost 14 = .ok (.aload_n 0, 1) := by decide +kernel
theorem dX9_cost_15 : decode cX9_cost 15 = .ok (.aload 4, 2) := by decide +kernel
theorem dX9_cost_17 : decode cX9_cost 17 = .ok (.iload_n 2, 1) := by decide +kernel
theorem dX9_cost_18 : decode cX9_cost 18 = .ok (.iload_n 3, 1) := by decide +kernel
theorem dX9_cost_19 : decode cX9_cost 19 = .ok (.invokevirtual 194, 3) := by decide +kernel
theorem dX9_cost_22 : decode cX9_cost 22 = .ok (.aload_n 0, 1) := by decide +kernel
theorem dX9_cost_23 : decode cX9_cost 23 = .ok (.getfield 18, 3) := by decide +kernel
theorem dX9_cost_26 : decode cX9_cost 26 = .ok (.aload 4, 2) := by decide +kernel
theorem dX9_cost_28 : decode cX9_cost 28 = .ok (.getfield 95, 3) := by decide +kernel
theorem dX9_cost_31 : decode cX9_cost 31 = .ok (.invokevirtual 197, 3) := by decide +kernel
theorem dX9_cost_34 : decode cX9_cost 34 = .ok (.ireturn, 1) := by decide +kernel
theorem dX9_cheapest_0 : decode cX9_cheapest 0 = .ok (.aload_n 0, 1) := by decide +kernel
theorem dX9_cheapest_1 : decode cX9_cheapest 1 = .ok (.iload_n 1, 1) := by decide +kernel
theorem dX9_cheapest_2 : decode cX9_cheapest 2 = .ok (.invokevirtual 83, 3) := by decide +kernel
theorem dX9_cheapest_5 : decode cX9_cheapest 5 = .ok (.astore 5, 2) := by decide +kernel
theorem dX9_cheapest_7 : decode cX9_cheapest 7 = .ok (.aload 5, 2) := by decide +kernel
theorem dX9_cheapest_9 : decode cX9_cheapest 9 = .ok (.iload 4, 2) := by decide +kernel
theorem dX9_cheapest_11 : decode cX9_cheapest 11 = .ok (.invokestatic 104, 3) := by decide +kernel
theorem dX9_cheapest_14 : decode cX9_cheapest 14 = .ok (.aload 5, 2) := by decide +kernel
theorem dX9_cheapest_16 : decode cX9_cheapest 16 = .ok (.iload_n 2, 1) := by decide +kernel
theorem dX9_cheapest_17 : decode cX9_cheapest 17 = .ok (.iload_n 3, 1) := by decide +kernel
theorem dX9_cheapest_18 : decode cX9_cheapest 18 = .ok (.invokestatic 87, 3) := by decide +kernel
theorem dX9_cheapest_21 : decode cX9_cheapest 21 = .ok (.aload_n 0, 1) := by decide +kernel
theorem dX9_cheapest_22 : decode cX9_cheapest 22 = .ok (.aload 5, 2) := by decide +kernel
theorem dX9_cheapest_24 : decode cX9_cheapest 24 = .ok (.iload_n 2, 1) := by decide +kernel
theorem dX9_cheapest_25 : decode cX9_cheapest 25 = .ok (.iload_n 3, 1) := by decide +kernel
theorem dX9_cheapest_26 : decode cX9_cheapest 26 = .ok (.invokevirtual 194, 3) := by decide +kernel
theorem dX9_cheapest_29 : decode cX9_cheapest 29 = .ok (.aload_n 0, 1) := by decide +kernel
theorem dX9_cheapest_30 : decode cX9_cheapest 30 = .ok (.getfield 18, 3) := by decide +kernel
theorem dX9_cheapest_33 : decode cX9_cheapest 33 = .ok (.iload 4, 2) := by decide +kernel
theorem dX9_cheapest_35 : decode cX9_cheapest 35 = .ok (.invokevirtual 134, 3) := by decide +kernel
theorem dX9_cheapest_38 : decode cX9_cheapest 38 = .ok (.ireturn, 1) := by decide +kernel
theorem dX9_price_0 : decode cX9_price 0 = .ok (.aload_n 0, 1) := by decide +kernel
theorem dX9_price_1 : decode cX9_price 1 = .ok (.iload_n 1, 1) := by decide +kernel
theorem dX9_price_2 : decode cX9_price 2 = .ok (.invokevirtual 83, 3) := by decide +kernel
theorem dX9_price_5 : decode cX9_price 5 = .ok (.astore 5, 2) := by decide +kernel
theorem dX9_price_7 : decode cX9_price 7 = .ok (.aload 5, 2) := by decide +kernel
theorem dX9_price_9 : decode cX9_price 9 = .ok (.iload 4, 2) := by decide +kernel
theorem dX9_price_11 : decode cX9_price 11 = .ok (.invokestatic 119, 3) := by decide +kernel
theorem dX9_price_14 : decode cX9_price 14 = .ok (.aload 5, 2) := by decide +kernel
theorem dX9_price_16 : decode cX9_price 16 = .ok (.iload_n 2, 1) := by decide +kernel
theorem dX9_price_17 : decode cX9_price 17 = .ok (.iload_n 3, 1) := by decide +kernel
theorem dX9_price_18 : decode cX9_price 18 = .ok (.invokestatic 87, 3) := by decide +kernel
theorem dX9_price_21 : decode cX9_price 21 = .ok (.aload_n 0, 1) := by decide +kernel
theorem dX9_price_22 : decode cX9_price 22 = .ok (.aload 5, 2) := by decide +kernel
theorem dX9_price_24 : decode cX9_price 24 = .ok (.iload_n 2, 1) := by decide +kernel
theorem dX9_price_25 : decode cX9_price 25 = .ok (.iload_n 3, 1) := by decide +kernel
theorem dX9_price_26 : decode cX9_price 26 = .ok (.invokevirtual 194, 3) := by decide +kernel
theorem dX9_price_29 : decode cX9_price 29 = .ok (.aload_n 0, 1) := by decide +kernel
theorem dX9_price_30 : decode cX9_price 30 = .ok (.getfield 18, 3) := by decide +kernel
theorem dX9_price_33 : decode cX9_price 33 = .ok (.aload 5, 2) := by decide +kernel
theorem dX9_price_35 : decode cX9_price 35 = .ok (.getfield 95, 3) := by decide +kernel
theorem dX9_price_38 : decode cX9_price 38 = .ok (.iload_n 2, 1) := by decide +kernel
theorem dX9_price_39 : decode cX9_price 39 = .ok (.invokevirtual 200, 3) := by decide +kernel
theorem dX9_price_42 : decode cX9_price 42 = .ok (.aload_n 0, 1) := by decide +kernel
theorem dX9_price_43 : decode cX9_price 43 = .ok (.getfield 18, 3) := by decide +kernel
theorem dX9_price_46 : decode cX9_price 46 = .ok (.iload 4, 2) := by decide +kernel
theorem dX9_price_48 : decode cX9_price 48 = .ok (.invokevirtual 204, 3) := by decide +kernel
theorem dX9_price_51 : decode cX9_price 51 = .ok (.ifCond .ne 13, 3) := by decide +kernel
theorem dX9_price_54 : decode cX9_price 54 = .ok (.new 141, 3) := by decide +kernel
theorem dX9_price_57 : decode cX9_price 57 = .ok (.dup, 1) := by decide +kernel
theorem dX9_price_58 : decode cX9_price 58 = .ok (.ldc 208, 2) := by decide +kernel
theorem dX9_price_60 : decode cX9_price 60 = .ok (.invokespecial 145, 3) := by decide +kernel
theorem dX9_price_63 : decode cX9_price 63 = .ok (.athrow, 1) := by decide +kernel
theorem dX9_price_64 : decode cX9_price 64 = .ok (.aload_n 0, 1) := by decide +kernel
theorem dX9_price_65 : decode cX9_price 65 = .ok (.getfield 18, 3) := by decide +kernel
theorem dX9_price_68 : decode cX9_price 68 = .ok (.iload 4, 2) := by decide +kernel
theorem dX9_price_70 : decode cX9_price 70 = .ok (.invokevirtual 210, 3) := by decide +kernel
theorem dX9_price_73 : decode cX9_price 73 = .ok (.ireturn, 1) := by decide +kernel
theorem dX9_edgeWays_0 : decode cX9_edgeWays 0 = .ok (.aload_n 0, 1) := by decide +kernel
theorem dX9_edgeWays_1 : decode cX9_edgeWays 1 = .ok (.iload_n 1, 1) := by decide +kernel
theorem dX9_edgeWays_2 : decode cX9_edgeWays 2 = .ok (.invokevirtual 83, 3) := by decide +kernel
theorem dX9_edgeWays_5 : decode cX9_edgeWays 5 = .ok (.astore 4, 2) := by decide +kernel
theorem dX9_edgeWays_7 : decode cX9_edgeWays 7 = .ok (.aload 4, 2) := by decide +kernel
theorem dX9_edgeWays_9 : decode cX9_edgeWays 9 = .ok (.iload_n 2, 1) := by decide +kernel
theorem dX9_edgeWays_10 : decode cX9_edgeWays 10 = .ok (.iload_n 3, 1) := by decide +kernel
theorem dX9_edgeWays_11 : decode cX9_edgeWays 11 = .ok (.invokestatic 87, 3) := by decide +kernel
theorem dX9_edgeWays_14 : decode cX9_edgeWays 14 = .ok (.aload_n 0, 1) := by decide +kernel
theorem dX9_edgeWays_15 : decode cX9_edgeWays 15 = .ok (.getfield 18, 3) := by decide +kernel
theorem dX9_edgeWays_18 : decode cX9_edgeWays 18 = .ok (.aload 4, 2) := by decide +kernel
theorem dX9_edgeWays_20 : decode cX9_edgeWays 20 = .ok (.iload_n 2, 1) := by decide +kernel
theorem dX9_edgeWays_21 : decode cX9_edgeWays 21 = .ok (.iload_n 3, 1) := by decide +kernel
theorem dX9_edgeWays_22 : decode cX9_edgeWays 22 = .ok (.invokevirtual 213, 3) := by decide +kernel
theorem dX9_edgeWays_25 : decode cX9_edgeWays 25 = .ok (.ireturn, 1) := by decide +kernel
theorem dX9_cornerWays_0 : decode cX9_cornerWays 0 = .ok (.aload_n 0, 1) := by decide +kernel
theorem dX9_cornerWays_1 : decode cX9_cornerWays 1 = .ok (.iload_n 1, 1) := by decide +kernel
theorem dX9_cornerWays_2 : decode cX9_cornerWays 2 = .ok (.invokevirtual 83, 3) := by decide +kernel
theorem dX9_cornerWays_5 : decode cX9_cornerWays 5 = .ok (.astore 4, 2) := by decide +kernel
theorem dX9_cornerWays_7 : decode cX9_cornerWays 7 = .ok (.aload 4, 2) := by decide +kernel
theorem dX9_cornerWays_9 : decode cX9_cornerWays 9 = .ok (.iload_n 2, 1) := by decide +kernel
theorem dX9_cornerWays_10 : decode cX9_cornerWays 10 = .ok (.iload_n 3, 1) := by decide +kernel
theorem dX9_cornerWays_11 : decode cX9_cornerWays 11 = .ok (.invokestatic 87, 3) := by decide +kernel
theorem dX9_cornerWays_14 : decode cX9_cornerWays 14 = .ok (.aload_n 0, 1) := by decide +kernel
theorem dX9_cornerWays_15 : decode cX9_cornerWays 15 = .ok (.getfield 18, 3) := by decide +kernel
theorem dX9_cornerWays_18 : decode cX9_cornerWays 18 = .ok (.aload 4, 2) := by decide +kernel
theorem dX9_cornerWays_20 : decode cX9_cornerWays 20 = .ok (.iload_n 2, 1) := by decide +kernel
theorem dX9_cornerWays_21 : decode cX9_cornerWays 21 = .ok (.iload_n 3, 1) := by decide +kernel
theorem dX9_cornerWays_22 : decode cX9_cornerWays 22 = .ok (.invokevirtual 216, 3) := by decide +kernel
theorem dX9_cornerWays_25 : decode cX9_cornerWays 25 = .ok (.ireturn, 1) := by decide +kernel
theorem dX9_apart_0 : decode cX9_apart 0 = .ok (.aload_n 0, 1) := by decide +kernel
theorem dX9_apart_1 : decode cX9_apart 1 = .ok (.iload_n 1, 1) := by decide +kernel
theorem dX9_apart_2 : decode cX9_apart 2 = .ok (.invokevirtual 83, 3) := by decide +kernel
theorem dX9_apart_5 : decode cX9_apart 5 = .ok (.astore 4, 2) := by decide +kernel
theorem dX9_apart_7 : decode cX9_apart 7 = .ok (.aload 4, 2) := by decide +kernel
theorem dX9_apart_9 : decode cX9_apart 9 = .ok (.iload_n 2, 1) := by decide +kernel
theorem dX9_apart_10 : decode cX9_apart 10 = .ok (.iload_n 3, 1) := by decide +kernel
theorem dX9_apart_11 : decode cX9_apart 11 = .ok (.invokestatic 87, 3) := by decide +kernel
theorem dX9_apart_14 : decode cX9_apart 14 = .ok (.aload 4, 2) := by decide +kernel
theorem dX9_apart_16 : decode cX9_apart 16 = .ok (.iload_n 2, 1) := by decide +kernel
theorem dX9_apart_17 : decode cX9_apart 17 = .ok (.iload_n 3, 1) := by decide +kernel
theorem dX9_apart_18 : decode cX9_apart 18 = .ok (.invokevirtual 219, 3) := by decide +kernel
theorem dX9_apart_21 : decode cX9_apart 21 = .ok (.ifCond .eq 13, 3) := by decide +kernel
theorem dX9_apart_24 : decode cX9_apart 24 = .ok (.new 223, 3) := by decide +kernel
theorem dX9_apart_27 : decode cX9_apart 27 = .ok (.dup, 1) := by decide +kernel
theorem dX9_apart_28 : decode cX9_apart 28 = .ok (.ldc 225, 2) := by decide +kernel
theorem dX9_apart_30 : decode cX9_apart 30 = .ok (.invokespecial 227, 3) := by decide +kernel
theorem dX9_apart_33 : decode cX9_apart 33 = .ok (.athrow, 1) := by decide +kernel
theorem dX9_apart_34 : decode cX9_apart 34 = .ok (.aload_n 0, 1) := by decide +kernel
theorem dX9_apart_35 : decode cX9_apart 35 = .ok (.getfield 25, 3) := by decide +kernel
theorem dX9_apart_38 : decode cX9_apart 38 = .ok (.aload 4, 2) := by decide +kernel
theorem dX9_apart_40 : decode cX9_apart 40 = .ok (.iload_n 2, 1) := by decide +kernel
theorem dX9_apart_41 : decode cX9_apart 41 = .ok (.iload_n 3, 1) := by decide +kernel
theorem dX9_apart_42 : decode cX9_apart 42 = .ok (.invokevirtual 228, 3) := by decide +kernel
theorem dX9_apart_45 : decode cX9_apart 45 = .ok (.ireturn, 1) := by decide +kernel
theorem dX9_holds_0 : decode cX9_holds 0 = .ok (.aload_n 0, 1) := by decide +kernel
theorem dX9_holds_1 : decode cX9_holds 1 = .ok (.getfield 18, 3) := by decide +kernel
theorem dX9_holds_4 : decode cX9_holds 4 = .ok (.aload_n 0, 1) := by decide +kernel
theorem dX9_holds_5 : decode cX9_holds 5 = .ok (.iload_n 1, 1) := by decide +kernel
theorem dX9_holds_6 : decode cX9_holds 6 = .ok (.invokevirtual 83, 3) := by decide +kernel
theorem dX9_holds_9 : decode cX9_holds 9 = .ok (.invokevirtual 248, 3) := by decide +kernel
theorem dX9_holds_12 : decode cX9_holds 12 = .ok (.ireturn, 1) := by decide +kernel
theorem dX9_meets_0 : decode cX9_meets 0 = .ok (.aload_n 0, 1) := by decide +kernel
theorem dX9_meets_1 : decode cX9_meets 1 = .ok (.iload_n 1, 1) := by decide +kernel
theorem dX9_meets_2 : decode cX9_meets 2 = .ok (.invokevirtual 83, 3) := by decide +kernel
theorem dX9_meets_5 : decode cX9_meets 5 = .ok (.astore_n 3, 1) := by decide +kernel
theorem dX9_meets_6 : decode cX9_meets 6 = .ok (.aload_n 3, 1) := by decide +kernel
theorem dX9_meets_7 : decode cX9_meets 7 = .ok (.iload_n 2, 1) := by decide +kernel
theorem dX9_meets_8 : decode cX9_meets 8 = .ok (.invokestatic 104, 3) := by decide +kernel
theorem dX9_meets_11 : decode cX9_meets 11 = .ok (.aload_n 0, 1) := by decide +kernel
theorem dX9_meets_12 : decode cX9_meets 12 = .ok (.getfield 18, 3) := by decide +kernel
theorem dX9_meets_15 : decode cX9_meets 15 = .ok (.aload_n 3, 1) := by decide +kernel
theorem dX9_meets_16 : decode cX9_meets 16 = .ok (.invokevirtual 248, 3) := by decide +kernel
theorem dX9_meets_19 : decode cX9_meets 19 = .ok (.ifCond .ne 13, 3) := by decide +kernel
theorem dX9_meets_22 : decode cX9_meets 22 = .ok (.new 141, 3) := by decide +kernel
theorem dX9_meets_25 : decode cX9_meets 25 = .ok (.dup, 1) := by decide +kernel
theorem dX9_meets_26 : decode cX9_meets 26 = .ok (.ldc 252, 2) := by decide +kernel
theorem dX9_meets_28 : decode cX9_meets 28 = .ok (.invokespecial 145, 3) := by decide +kernel
theorem dX9_meets_31 : decode cX9_meets 31 = .ok (.athrow, 1) := by decide +kernel
theorem dX9_meets_32 : decode cX9_meets 32 = .ok (.aload_n 0, 1) := by decide +kernel
theorem dX9_meets_33 : decode cX9_meets 33 = .ok (.getfield 18, 3) := by decide +kernel
theorem dX9_meets_36 : decode cX9_meets 36 = .ok (.aload_n 3, 1) := by decide +kernel
theorem dX9_meets_37 : decode cX9_meets 37 = .ok (.getfield 95, 3) := by decide +kernel
theorem dX9_meets_40 : decode cX9_meets 40 = .ok (.invokevirtual 254, 3) := by decide +kernel
theorem dX9_meets_43 : decode cX9_meets 43 = .ok (.aload_n 0, 1) := by decide +kernel
theorem dX9_meets_44 : decode cX9_meets 44 = .ok (.getfield 18, 3) := by decide +kernel
theorem dX9_meets_47 : decode cX9_meets 47 = .ok (.iload_n 2, 1) := by decide +kernel
theorem dX9_meets_48 : decode cX9_meets 48 = .ok (.invokevirtual 134, 3) := by decide +kernel
theorem dX9_meets_51 : decode cX9_meets 51 = .ok (.ireturn, 1) := by decide +kernel
theorem dX9_breaks_0 : decode cX9_breaks 0 = .ok (.aload_n 0, 1) := by decide +kernel
theorem dX9_breaks_1 : decode cX9_breaks 1 = .ok (.getfield 25, 3) := by decide +kernel
theorem dX9_breaks_4 : decode cX9_breaks 4 = .ok (.aload_n 0, 1) := by decide +kernel
theorem dX9_breaks_5 : decode cX9_breaks 5 = .ok (.iload_n 1, 1) := by decide +kernel
theorem dX9_breaks_6 : decode cX9_breaks 6 = .ok (.invokevirtual 83, 3) := by decide +kernel
theorem dX9_breaks_9 : decode cX9_breaks 9 = .ok (.invokevirtual 257, 3) := by decide +kernel
theorem dX9_breaks_12 : decode cX9_breaks 12 = .ok (.istore_n 2, 1) := by decide +kernel
theorem dX9_breaks_13 : decode cX9_breaks 13 = .ok (.iload_n 2, 1) := by decide +kernel
theorem dX9_breaks_14 : decode cX9_breaks 14 = .ok (.iconst (-1), 1) := by decide +kernel
theorem dX9_breaks_15 : decode cX9_breaks 15 = .ok (.if_icmp .ne 14, 3) := by decide +kernel
theorem dX9_breaks_18 : decode cX9_breaks 18 = .ok (.new 141, 3) := by decide +kernel
theorem dX9_breaks_21 : decode cX9_breaks 21 = .ok (.dup, 1) := by decide +kernel
theorem dX9_breaks_22 : decode cX9_breaks 22 = .ok (.ldc_w 261, 3) := by decide +kernel
theorem dX9_breaks_25 : decode cX9_breaks 25 = .ok (.invokespecial 145, 3) := by decide +kernel
theorem dX9_breaks_28 : decode cX9_breaks 28 = .ok (.athrow, 1) := by decide +kernel
theorem dX9_breaks_29 : decode cX9_breaks 29 = .ok (.iload_n 2, 1) := by decide +kernel
theorem dX9_breaks_30 : decode cX9_breaks 30 = .ok (.ireturn, 1) := by decide +kernel
theorem dX9_parent_0 : decode cX9_parent 0 = .ok (.aload_n 0, 1) := by decide +kernel
theorem dX9_parent_1 : decode cX9_parent 1 = .ok (.iload_n 1, 1) := by decide +kernel
theorem dX9_parent_2 : decode cX9_parent 2 = .ok (.invokevirtual 83, 3) := by decide +kernel
theorem dX9_parent_5 : decode cX9_parent 5 = .ok (.astore_n 3, 1) := by decide +kernel
theorem dX9_parent_6 : decode cX9_parent 6 = .ok (.aload_n 3, 1) := by decide +kernel
theorem dX9_parent_7 : decode cX9_parent 7 = .ok (.iload_n 2, 1) := by decide +kernel
theorem dX9_parent_8 : decode cX9_parent 8 = .ok (.invokestatic 119, 3) := by decide +kernel
theorem dX9_parent_11 : decode cX9_parent 11 = .ok (.iload_n 2, 1) := by decide +kernel
theorem dX9_parent_12 : decode cX9_parent 12 = .ok (.ifCond .ne 14, 3) := by decide +kernel
theorem dX9_parent_15 : decode cX9_parent 15 = .ok (.new 141, 3) := by decide +kernel
theorem dX9_parent_18 : decode cX9_parent 18 = .ok (.dup, 1) := by decide +kernel
theorem dX9_parent_19 : decode cX9_parent 19 = .ok (.ldc_w 263, 3) := by decide +kernel
theorem dX9_parent_22 : decode cX9_parent 22 = .ok (.invokespecial 145, 3) := by decide +kernel
theorem dX9_parent_25 : decode cX9_parent 25 = .ok (.athrow, 1) := by decide +kernel
theorem dX9_parent_26 : decode cX9_parent 26 = .ok (.aload_n 0, 1) := by decide +kernel
theorem dX9_parent_27 : decode cX9_parent 27 = .ok (.getfield 32, 3) := by decide +kernel
theorem dX9_parent_30 : decode cX9_parent 30 = .ok (.aload_n 3, 1) := by decide +kernel
theorem dX9_parent_31 : decode cX9_parent 31 = .ok (.aload_n 0, 1) := by decide +kernel
theorem dX9_parent_32 : decode cX9_parent 32 = .ok (.getfield 25, 3) := by decide +kernel
theorem dX9_parent_35 : decode cX9_parent 35 = .ok (.invokevirtual 265, 3) := by decide +kernel
theorem dX9_parent_38 : decode cX9_parent 38 = .ok (.aload_n 0, 1) := by decide +kernel
theorem dX9_parent_39 : decode cX9_parent 39 = .ok (.getfield 32, 3) := by decide +kernel
theorem dX9_parent_42 : decode cX9_parent 42 = .ok (.invokevirtual 269, 3) := by decide +kernel
theorem dX9_parent_45 : decode cX9_parent 45 = .ok (.aload_n 0, 1) := by decide +kernel
theorem dX9_parent_46 : decode cX9_parent 46 = .ok (.getfield 32, 3) := by decide +kernel
theorem dX9_parent_49 : decode cX9_parent 49 = .ok (.getfield 272, 3) := by decide +kernel
theorem dX9_parent_52 : decode cX9_parent 52 = .ok (.iload_n 2, 1) := by decide +kernel
theorem dX9_parent_53 : decode cX9_parent 53 = .ok (.iaload, 1) := by decide +kernel
theorem dX9_parent_54 : decode cX9_parent 54 = .ok (.ireturn, 1) := by decide +kernel
theorem dX9_between_0 : decode cX9_between 0 = .ok (.aload_n 0, 1) := by decide +kernel
theorem dX9_between_1 : decode cX9_between 1 = .ok (.iload_n 1, 1) := by decide +kernel
theorem dX9_between_2 : decode cX9_between 2 = .ok (.invokevirtual 83, 3) := by decide +kernel
theorem dX9_between_5 : decode cX9_between 5 = .ok (.astore 4, 2) := by decide +kernel
theorem dX9_between_7 : decode cX9_between 7 = .ok (.aload 4, 2) := by decide +kernel
theorem dX9_between_9 : decode cX9_between 9 = .ok (.iload_n 2, 1) := by decide +kernel
theorem dX9_between_10 : decode cX9_between 10 = .ok (.iload_n 3, 1) := by decide +kernel
theorem dX9_between_11 : decode cX9_between 11 = .ok (.invokestatic 87, 3) := by decide +kernel
theorem dX9_between_14 : decode cX9_between 14 = .ok (.aload_n 0, 1) := by decide +kernel
theorem dX9_between_15 : decode cX9_between 15 = .ok (.getfield 32, 3) := by decide +kernel
theorem dX9_between_18 : decode cX9_between 18 = .ok (.aload 4, 2) := by decide +kernel
theorem dX9_between_20 : decode cX9_between 20 = .ok (.aload_n 0, 1) := by decide +kernel
theorem dX9_between_21 : decode cX9_between 21 = .ok (.getfield 25, 3) := by decide +kernel
theorem dX9_between_24 : decode cX9_between 24 = .ok (.invokevirtual 265, 3) := by decide +kernel
theorem dX9_between_27 : decode cX9_between 27 = .ok (.aload_n 0, 1) := by decide +kernel
theorem dX9_between_28 : decode cX9_between 28 = .ok (.getfield 32, 3) := by decide +kernel
theorem dX9_between_31 : decode cX9_between 31 = .ok (.iload_n 2, 1) := by decide +kernel
theorem dX9_between_32 : decode cX9_between 32 = .ok (.iload_n 3, 1) := by decide +kernel
theorem dX9_between_33 : decode cX9_between 33 = .ok (.invokevirtual 275, 3) := by decide +kernel
theorem dX9_between_36 : decode cX9_between 36 = .ok (.ireturn, 1) := by decide +kernel
theorem dX9_inSteps_0 : decode cX9_inSteps 0 = .ok (.aload_n 0, 1) := by decide +kernel
theorem dX9_inSteps_1 : decode cX9_inSteps 1 = .ok (.iload_n 1, 1) := by decide +kernel
theorem dX9_inSteps_2 : decode cX9_inSteps 2 = .ok (.invokevirtual 83, 3) := by decide +kernel
theorem dX9_inSteps_5 : decode cX9_inSteps 5 = .ok (.astore 5, 2) := by decide +kernel
theorem dX9_inSteps_7 : decode cX9_inSteps 7 = .ok (.aload 5, 2) := by decide +kernel
theorem dX9_inSteps_9 : decode cX9_inSteps 9 = .ok (.iload_n 2, 1) := by decide +kernel
theorem dX9_inSteps_10 : decode cX9_inSteps 10 = .ok (.iload_n 3, 1) := by decide +kernel
theorem dX9_inSteps_11 : decode cX9_inSteps 11 = .ok (.invokestatic 87, 3) := by decide +kernel
theorem dX9_inSteps_14 : decode cX9_inSteps 14 = .ok (.iload 4, 2) := by decide +kernel
theorem dX9_inSteps_16 : decode cX9_inSteps 16 = .ok (.ifCond .lt 10, 3) := by decide +kernel
theorem dX9_inSteps_19 : decode cX9_inSteps 19 = .ok (.iload 4, 2) := by decide +kernel
theorem dX9_inSteps_21 : decode cX9_inSteps 21 = .ok (.bipush 8, 2) := by decide +kernel
theorem dX9_inSteps_23 : decode cX9_inSteps 23 = .ok (.if_icmp .le 14, 3) := by decide +kernel
theorem dX9_inSteps_26 : decode cX9_inSteps 26 = .ok (.new 64, 3) := by decide +kernel
theorem dX9_inSteps_29 : decode cX9_inSteps 29 = .ok (.dup, 1) := by decide +kernel
theorem dX9_inSteps_30 : decode cX9_inSteps 30 = .ok (.ldc_w 279, 3) := by decide +kernel
theorem dX9_inSteps_33 : decode cX9_inSteps 33 = .ok (.invokespecial 68, 3) := by decide +kernel
theorem dX9_inSteps_36 : decode cX9_inSteps 36 = .ok (.athrow, 1) := by decide +kernel
theorem dX9_inSteps_37 : decode cX9_inSteps 37 = .ok (.aload_n 0, 1) := by decide +kernel
theorem dX9_inSteps_38 : decode cX9_inSteps 38 = .ok (.getfield 18, 3) := by decide +kernel
theorem dX9_inSteps_41 : decode cX9_inSteps 41 = .ok (.aload 5, 2) := by decide +kernel
theorem dX9_inSteps_43 : decode cX9_inSteps 43 = .ok (.iload_n 2, 1) := by decide +kernel
theorem dX9_inSteps_44 : decode cX9_inSteps 44 = .ok (.iload_n 3, 1) := by decide +kernel
theorem dX9_inSteps_45 : decode cX9_inSteps 45 = .ok (.iload 4, 2) := by decide +kernel
theorem dX9_inSteps_47 : decode cX9_inSteps 47 = .ok (.invokevirtual 281, 3) := by decide +kernel
theorem dX9_inSteps_50 : decode cX9_inSteps 50 = .ok (.ireturn, 1) := by decide +kernel
theorem dX9_likes_0 : decode cX9_likes 0 = .ok (.iload_n 1, 1) := by decide +kernel
theorem dX9_likes_1 : decode cX9_likes 1 = .ok (.invokestatic 284, 3) := by decide +kernel
theorem dX9_likes_4 : decode cX9_likes 4 = .ok (.iload_n 2, 1) := by decide +kernel
theorem dX9_likes_5 : decode cX9_likes 5 = .ok (.ifCond .lt 10, 3) := by decide +kernel
theorem dX9_likes_8 : decode cX9_likes 8 = .ok (.iload_n 2, 1) := by decide +kernel
theorem dX9_likes_9 : decode cX9_likes 9 = .ok (.sipush 255, 3) := by decide +kernel
theorem dX9_likes_12 : decode cX9_likes 12 = .ok (.if_icmp .le 14, 3) := by decide +kernel
theorem dX9_likes_15 : decode cX9_likes 15 = .ok (.new 64, 3) := by decide +kernel
theorem dX9_likes_18 : decode cX9_likes 18 = .ok (.dup, 1) := by decide +kernel
theorem dX9_likes_19 : decode cX9_likes 19 = .ok (.ldc_w 287, 3) := by decide +kernel
theorem dX9_likes_22 : decode cX9_likes 22 = .ok (.invokespecial 68, 3) := by decide +kernel
theorem dX9_likes_25 : decode cX9_likes 25 = .ok (.athrow, 1) := by decide +kernel
theorem dX9_likes_26 : decode cX9_likes 26 = .ok (.aload_n 0, 1) := by decide +kernel
theorem dX9_likes_27 : decode cX9_likes 27 = .ok (.getfield 39, 3) := by decide +kernel
theorem dX9_likes_30 : decode cX9_likes 30 = .ok (.getfield 289, 3) := by decide +kernel
theorem dX9_likes_33 : decode cX9_likes 33 = .ok (.iload_n 1, 1) := by decide +kernel
theorem dX9_likes_34 : decode cX9_likes 34 = .ok (.iaload, 1) := by decide +kernel
theorem dX9_likes_35 : decode cX9_likes 35 = .ok (.istore_n 3, 1) := by decide +kernel
theorem dX9_likes_36 : decode cX9_likes 36 = .ok (.aload_n 0, 1) := by decide +kernel
theorem dX9_likes_37 : decode cX9_likes 37 = .ok (.getfield 39, 3) := by decide +kernel
theorem dX9_likes_40 : decode cX9_likes 40 = .ok (.getfield 289, 3) := by decide +kernel
theorem dX9_likes_43 : decode cX9_likes 43 = .ok (.iload_n 1, 1) := by decide +kernel
theorem dX9_likes_44 : decode cX9_likes 44 = .ok (.iload_n 2, 1) := by decide +kernel
theorem dX9_likes_45 : decode cX9_likes 45 = .ok (.iastore, 1) := by decide +kernel
theorem dX9_likes_46 : decode cX9_likes 46 = .ok (.iload_n 3, 1) := by decide +kernel
theorem dX9_likes_47 : decode cX9_likes 47 = .ok (.ireturn, 1) := by decide +kernel
theorem dX9_pairs_0 : decode cX9_pairs 0 = .ok (.aload_n 0, 1) := by decide +kernel
theorem dX9_pairs_1 : decode cX9_pairs 1 = .ok (.getfield 39, 3) := by decide +kernel
theorem dX9_pairs_4 : decode cX9_pairs 4 = .ok (.invokevirtual 292, 3) := by decide +kernel
theorem dX9_pairs_7 : decode cX9_pairs 7 = .ok (.aload_n 0, 1) := by decide +kernel
theorem dX9_pairs_8 : decode cX9_pairs 8 = .ok (.getfield 39, 3) := by decide +kernel
theorem dX9_pairs_11 : decode cX9_pairs 11 = .ok (.iconst 0, 1) := by decide +kernel
theorem dX9_pairs_12 : decode cX9_pairs 12 = .ok (.sipush 255, 3) := by decide +kernel
theorem dX9_pairs_15 : decode cX9_pairs 15 = .ok (.invokevirtual 295, 3) := by decide +kernel
theorem dX9_pairs_18 : decode cX9_pairs 18 = .ok (.ireturn, 1) := by decide +kernel
theorem dX9_pairOf_0 : decode cX9_pairOf 0 = .ok (.iload_n 1, 1) := by decide +kernel
theorem dX9_pairOf_1 : decode cX9_pairOf 1 = .ok (.invokestatic 284, 3) := by decide +kernel
theorem dX9_pairOf_4 : decode cX9_pairOf 4 = .ok (.aload_n 0, 1) := by decide +kernel
theorem dX9_pairOf_5 : decode cX9_pairOf 5 = .ok (.getfield 39, 3) := by decide +kernel
theorem dX9_pairOf_8 : decode cX9_pairOf 8 = .ok (.invokevirtual 292, 3) := by decide +kernel
theorem dX9_pairOf_11 : decode cX9_pairOf 11 = .ok (.aload_n 0, 1) := by decide +kernel
theorem dX9_pairOf_12 : decode cX9_pairOf 12 = .ok (.getfield 39, 3) := by decide +kernel
theorem dX9_pairOf_15 : decode cX9_pairOf 15 = .ok (.invokevirtual 298, 3) := by decide +kernel
theorem dX9_pairOf_18 : decode cX9_pairOf 18 = .ok (.aload_n 0, 1) := by decide +kernel
theorem dX9_pairOf_19 : decode cX9_pairOf 19 = .ok (.getfield 39, 3) := by decide +kernel
theorem dX9_pairOf_22 : decode cX9_pairOf 22 = .ok (.getfield 300, 3) := by decide +kernel
theorem dX9_pairOf_25 : decode cX9_pairOf 25 = .ok (.iload_n 1, 1) := by decide +kernel
theorem dX9_pairOf_26 : decode cX9_pairOf 26 = .ok (.iaload, 1) := by decide +kernel
theorem dX9_pairOf_27 : decode cX9_pairOf 27 = .ok (.istore_n 2, 1) := by decide +kernel
theorem dX9_pairOf_28 : decode cX9_pairOf 28 = .ok (.iload_n 2, 1) := by decide +kernel
theorem dX9_pairOf_29 : decode cX9_pairOf 29 = .ok (.bipush 8, 2) := by decide +kernel
theorem dX9_pairOf_31 : decode cX9_pairOf 31 = .ok (.if_icmp .ne 14, 3) := by decide +kernel
theorem dX9_pairOf_34 : decode cX9_pairOf 34 = .ok (.new 141, 3) := by decide +kernel
theorem dX9_pairOf_37 : decode cX9_pairOf 37 = .ok (.dup, 1) := by decide +kernel
theorem dX9_pairOf_38 : decode cX9_pairOf 38 = .ok (.ldc_w 303, 3) := by decide +kernel
theorem dX9_pairOf_41 : decode cX9_pairOf 41 = .ok (.invokespecial 145, 3) := by decide +kernel
theorem dX9_pairOf_44 : decode cX9_pairOf 44 = .ok (.athrow, 1) := by decide +kernel
theorem dX9_pairOf_45 : decode cX9_pairOf 45 = .ok (.iload_n 2, 1) := by decide +kernel
theorem dX9_pairOf_46 : decode cX9_pairOf 46 = .ok (.ireturn, 1) := by decide +kernel
theorem dX9_cover_0 : decode cX9_cover 0 = .ok (.aload_n 0, 1) := by decide +kernel
theorem dX9_cover_1 : decode cX9_cover 1 = .ok (.getfield 39, 3) := by decide +kernel
theorem dX9_cover_4 : decode cX9_cover 4 = .ok (.invokevirtual 292, 3) := by decide +kernel
theorem dX9_cover_7 : decode cX9_cover 7 = .ok (.aload_n 0, 1) := by decide +kernel
theorem dX9_cover_8 : decode cX9_cover 8 = .ok (.getfield 39, 3) := by decide +kernel
theorem dX9_cover_11 : decode cX9_cover 11 = .ok (.invokevirtual 305, 3) := by decide +kernel
theorem dX9_cover_14 : decode cX9_cover 14 = .ok (.istore_n 2, 1) := by decide +kernel
theorem dX9_cover_15 : decode cX9_cover 15 = .ok (.iload_n 1, 1) := by decide +kernel
theorem dX9_cover_16 : decode cX9_cover 16 = .ok (.ifCond .eq 7, 3) := by decide +kernel
theorem dX9_cover_19 : decode cX9_cover 19 = .ok (.iload_n 2, 1) := by decide +kernel
theorem dX9_cover_20 : decode cX9_cover 20 = .ok (.goto 11, 3) := by decide +kernel
theorem dX9_cover_23 : decode cX9_cover 23 = .ok (.aload_n 0, 1) := by decide +kernel
theorem dX9_cover_24 : decode cX9_cover 24 = .ok (.getfield 39, 3) := by decide +kernel
theorem dX9_cover_27 : decode cX9_cover 27 = .ok (.iload_n 2, 1) := by decide +kernel
theorem dX9_cover_28 : decode cX9_cover 28 = .ok (.invokevirtual 309, 3) := by decide +kernel
theorem dX9_cover_31 : decode cX9_cover 31 = .ok (.ireturn, 1) := by decide +kernel
theorem dX9_team_0 : decode cX9_team 0 = .ok (.iload_n 1, 1) := by decide +kernel
theorem dX9_team_1 : decode cX9_team 1 = .ok (.ifCond .lt 9, 3) := by decide +kernel
theorem dX9_team_4 : decode cX9_team 4 = .ok (.iload_n 1, 1) := by decide +kernel
theorem dX9_team_5 : decode cX9_team 5 = .ok (.bipush 99, 2) := by decide +kernel
theorem dX9_team_7 : decode cX9_team 7 = .ok (.if_icmp .le 14, 3) := by decide +kernel
theorem dX9_team_10 : decode cX9_team 10 = .ok (.new 64, 3) := by decide +kernel
theorem dX9_team_13 : decode cX9_team 13 = .ok (.dup, 1) := by decide +kernel
theorem dX9_team_14 : decode cX9_team 14 = .ok (.ldc_w 316, 3) := by decide +kernel
theorem dX9_team_17 : decode cX9_team 17 = .ok (.invokespecial 68, 3) := by decide +kernel
theorem dX9_team_20 : decode cX9_team 20 = .ok (.athrow, 1) := by decide +kernel
theorem dX9_team_21 : decode cX9_team 21 = .ok (.aload_n 0, 1) := by decide +kernel
theorem dX9_team_22 : decode cX9_team 22 = .ok (.getfield 46, 3) := by decide +kernel
theorem dX9_team_25 : decode cX9_team 25 = .ok (.getfield 318, 3) := by decide +kernel
theorem dX9_team_28 : decode cX9_team 28 = .ok (.bipush 6, 2) := by decide +kernel
theorem dX9_team_30 : decode cX9_team 30 = .ok (.if_icmp .lt 14, 3) := by decide +kernel
theorem dX9_team_33 : decode cX9_team 33 = .ok (.new 75, 3) := by decide +kernel
theorem dX9_team_36 : decode cX9_team 36 = .ok (.dup, 1) := by decide +kernel
theorem dX9_team_37 : decode cX9_team 37 = .ok (.ldc_w 321, 3) := by decide +kernel
theorem dX9_team_40 : decode cX9_team 40 = .ok (.invokespecial 79, 3) := by decide +kernel
theorem dX9_team_43 : decode cX9_team 43 = .ok (.athrow, 1) := by decide +kernel
theorem dX9_team_44 : decode cX9_team 44 = .ok (.aload_n 0, 1) := by decide +kernel
theorem dX9_team_45 : decode cX9_team 45 = .ok (.getfield 46, 3) := by decide +kernel
theorem dX9_team_48 : decode cX9_team 48 = .ok (.iload_n 1, 1) := by decide +kernel
theorem dX9_team_49 : decode cX9_team 49 = .ok (.invokevirtual 323, 3) := by decide +kernel
theorem dX9_team_52 : decode cX9_team 52 = .ok (.ireturn, 1) := by decide +kernel
theorem dX9_table_0 : decode cX9_table 0 = .ok (.iload_n 1, 1) := by decide +kernel
theorem dX9_table_1 : decode cX9_table 1 = .ok (.iconst 1, 1) := by decide +kernel
theorem dX9_table_2 : decode cX9_table 2 = .ok (.if_icmp .lt 18, 3) := by decide +kernel
theorem dX9_table_5 : decode cX9_table 5 = .ok (.iload_n 1, 1) := by decide +kernel
theorem dX9_table_6 : decode cX9_table 6 = .ok (.iconst 4, 1) := by decide +kernel
theorem dX9_table_7 : decode cX9_table 7 = .ok (.if_icmp .gt 13, 3) := by decide +kernel
theorem dX9_table_10 : decode cX9_table 10 = .ok (.iload_n 2, 1) := by decide +kernel
theorem dX9_table_11 : decode cX9_table 11 = .ok (.iconst 1, 1) := by decide +kernel
theorem dX9_table_12 : decode cX9_table 12 = .ok (.if_icmp .lt 8, 3) := by decide +kernel
theorem dX9_table_15 : decode cX9_table 15 = .ok (.iload_n 2, 1) := by decide +kernel
theorem dX9_table_16 : decode cX9_table 16 = .ok (.iconst 4, 1) := by decide +kernel
theorem dX9_table_17 : decode cX9_table 17 = .ok (.if_icmp .le 14, 3) := by decide +kernel
theorem dX9_table_20 : decode cX9_table 20 = .ok (.new 64, 3) := by decide +kernel
theorem dX9_table_23 : decode cX9_table 23 = .ok (.dup, 1) := by decide +kernel
theorem dX9_table_24 : decode cX9_table 24 = .ok (.ldc_w 344, 3) := by decide +kernel
theorem dX9_table_27 : decode cX9_table 27 = .ok (.invokespecial 68, 3) := by decide +kernel
theorem dX9_table_30 : decode cX9_table 30 = .ok (.athrow, 1) := by decide +kernel
theorem dX9_table_31 : decode cX9_table 31 = .ok (.aload_n 0, 1) := by decide +kernel
theorem dX9_table_32 : decode cX9_table 32 = .ok (.getfield 53, 3) := by decide +kernel
theorem dX9_table_35 : decode cX9_table 35 = .ok (.iload_n 1, 1) := by decide +kernel
theorem dX9_table_36 : decode cX9_table 36 = .ok (.iload_n 2, 1) := by decide +kernel
theorem dX9_table_37 : decode cX9_table 37 = .ok (.invokevirtual 346, 3) := by decide +kernel
theorem dX9_table_40 : decode cX9_table 40 = .ok (.iload_n 1, 1) := by decide +kernel
theorem dX9_table_41 : decode cX9_table 41 = .ok (.iload_n 2, 1) := by decide +kernel
theorem dX9_table_42 : decode cX9_table 42 = .ok (.imul, 1) := by decide +kernel
theorem dX9_table_43 : decode cX9_table 43 = .ok (.ireturn, 1) := by decide +kernel
theorem dX9_tell_0 : decode cX9_tell 0 = .ok (.aload_n 0, 1) := by decide +kernel
theorem dX9_tell_1 : decode cX9_tell 1 = .ok (.iload_n 1, 1) := by decide +kernel
theorem dX9_tell_2 : decode cX9_tell 2 = .ok (.iload_n 2, 1) := by decide +kernel
theorem dX9_tell_3 : decode cX9_tell 3 = .ok (.invokevirtual 349, 3) := by decide +kernel
theorem dX9_tell_6 : decode cX9_tell 6 = .ok (.iload_n 3, 1) := by decide +kernel
theorem dX9_tell_7 : decode cX9_tell 7 = .ok (.ifCond .lt 10, 3) := by decide +kernel
theorem dX9_tell_10 : decode cX9_tell 10 = .ok (.iload_n 3, 1) := by decide +kernel
theorem dX9_tell_11 : decode cX9_tell 11 = .ok (.sipush 999, 3) := by decide +kernel
theorem dX9_tell_14 : decode cX9_tell 14 = .ok (.if_icmp .le 14, 3) := by decide +kernel
theorem dX9_tell_17 : decode cX9_tell 17 = .ok (.new 64, 3) := by decide +kernel
theorem dX9_tell_20 : decode cX9_tell 20 = .ok (.dup, 1) := by decide +kernel
theorem dX9_tell_21 : decode cX9_tell 21 = .ok (.ldc_w 352, 3) := by decide +kernel
theorem dX9_tell_24 : decode cX9_tell 24 = .ok (.invokespecial 68, 3) := by decide +kernel
theorem dX9_tell_27 : decode cX9_tell 27 = .ok (.athrow, 1) := by decide +kernel
theorem dX9_tell_28 : decode cX9_tell 28 = .ok (.aload_n 0, 1) := by decide +kernel
theorem dX9_tell_29 : decode cX9_tell 29 = .ok (.getfield 53, 3) := by decide +kernel
theorem dX9_tell_32 : decode cX9_tell 32 = .ok (.iload_n 1, 1) := by decide +kernel
theorem dX9_tell_33 : decode cX9_tell 33 = .ok (.iload_n 2, 1) := by decide +kernel
theorem dX9_tell_34 : decode cX9_tell 34 = .ok (.invokevirtual 354, 3) := by decide +kernel
theorem dX9_tell_37 : decode cX9_tell 37 = .ok (.istore 4, 2) := by decide +kernel
theorem dX9_tell_39 : decode cX9_tell 39 = .ok (.aload_n 0, 1) := by decide +kernel
theorem dX9_tell_40 : decode cX9_tell 40 = .ok (.getfield 53, 3) := by decide +kernel
theorem dX9_tell_43 : decode cX9_tell 43 = .ok (.getfield 357, 3) := by decide +kernel
theorem dX9_tell_46 : decode cX9_tell 46 = .ok (.iload 4, 2) := by decide +kernel
theorem dX9_tell_48 : decode cX9_tell 48 = .ok (.iaload, 1) := by decide +kernel
theorem dX9_tell_49 : decode cX9_tell 49 = .ok (.istore 5, 2) := by decide +kernel
theorem dX9_tell_51 : decode cX9_tell 51 = .ok (.aload_n 0, 1) := by decide +kernel
theorem dX9_tell_52 : decode cX9_tell 52 = .ok (.getfield 53, 3) := by decide +kernel
theorem dX9_tell_55 : decode cX9_tell 55 = .ok (.getfield 357, 3) := by decide +kernel
theorem dX9_tell_58 : decode cX9_tell 58 = .ok (.iload 4, 2) := by decide +kernel
theorem dX9_tell_60 : decode cX9_tell 60 = .ok (.iload_n 3, 1) := by decide +kernel
theorem dX9_tell_61 : decode cX9_tell 61 = .ok (.iastore, 1) := by decide +kernel
theorem dX9_tell_62 : decode cX9_tell 62 = .ok (.iload 5, 2) := by decide +kernel
theorem dX9_tell_64 : decode cX9_tell 64 = .ok (.ireturn, 1) := by decide +kernel
theorem dX9_rounded_0 : decode cX9_rounded 0 = .ok (.aload_n 0, 1) := by decide +kernel
theorem dX9_rounded_1 : decode cX9_rounded 1 = .ok (.iload_n 1, 1) := by decide +kernel
theorem dX9_rounded_2 : decode cX9_rounded 2 = .ok (.iload_n 2, 1) := by decide +kernel
theorem dX9_rounded_3 : decode cX9_rounded 3 = .ok (.invokevirtual 349, 3) := by decide +kernel
theorem dX9_rounded_6 : decode cX9_rounded 6 = .ok (.aload_n 0, 1) := by decide +kernel
theorem dX9_rounded_7 : decode cX9_rounded 7 = .ok (.getfield 53, 3) := by decide +kernel
theorem dX9_rounded_10 : decode cX9_rounded 10 = .ok (.aload_n 0, 1) := by decide +kernel
theorem dX9_rounded_11 : decode cX9_rounded 11 = .ok (.getfield 18, 3) := by decide +kernel
theorem dX9_rounded_14 : decode cX9_rounded 14 = .ok (.getfield 360, 3) := by decide +kernel
theorem dX9_rounded_17 : decode cX9_rounded 17 = .ok (.invokevirtual 364, 3) := by decide +kernel
theorem dX9_rounded_20 : decode cX9_rounded 20 = .ok (.aload_n 0, 1) := by decide +kernel
theorem dX9_rounded_21 : decode cX9_rounded 21 = .ok (.getfield 53, 3) := by decide +kernel
theorem dX9_rounded_24 : decode cX9_rounded 24 = .ok (.getfield 368, 3) := by decide +kernel
theorem dX9_rounded_27 : decode cX9_rounded 27 = .ok (.aload_n 0, 1) := by decide +kernel
theorem dX9_rounded_28 : decode cX9_rounded 28 = .ok (.getfield 53, 3) := by decide +kernel
theorem dX9_rounded_31 : decode cX9_rounded 31 = .ok (.iload_n 1, 1) := by decide +kernel
theorem dX9_rounded_32 : decode cX9_rounded 32 = .ok (.iload_n 2, 1) := by decide +kernel
theorem dX9_rounded_33 : decode cX9_rounded 33 = .ok (.invokevirtual 354, 3) := by decide +kernel
theorem dX9_rounded_36 : decode cX9_rounded 36 = .ok (.iaload, 1) := by decide +kernel
theorem dX9_rounded_37 : decode cX9_rounded 37 = .ok (.ireturn, 1) := by decide +kernel
theorem dX9_project_0 : decode cX9_project 0 = .ok (.iload_n 1, 1) := by decide +kernel
theorem dX9_project_1 : decode cX9_project 1 = .ok (.ifCond .lt 20, 3) := by decide +kernel
theorem dX9_project_4 : decode cX9_project 4 = .ok (.iload_n 1, 1) := by decide +kernel
theorem dX9_project_5 : decode cX9_project 5 = .ok (.bipush 99, 2) := by decide +kernel
theorem dX9_project_7 : decode cX9_project 7 = .ok (.if_icmp .gt 14, 3) := by decide +kernel
theorem dX9_project_10 : decode cX9_project 10 = .ok (.iload_n 2, 1) := by decide +kernel
theorem dX9_project_11 : decode cX9_project 11 = .ok (.ifCond .lt 10, 3) := by decide +kernel
theorem dX9_project_14 : decode cX9_project 14 = .ok (.iload_n 2, 1) := by decide +kernel
theorem dX9_project_15 : decode cX9_project 15 = .ok (.sipush 255, 3) := by decide +kernel
theorem dX9_project_18 : decode cX9_project 18 = .ok (.if_icmp .le 14, 3) := by decide +kernel
theorem dX9_project_21 : decode cX9_project 21 = .ok (.new 64, 3) := by decide +kernel
theorem dX9_project_24 : decode cX9_project 24 = .ok (.dup, 1) := by decide +kernel
theorem dX9_project_25 : decode cX9_project 25 = .ok (.ldc_w 371, 3) := by decide +kernel
theorem dX9_project_28 : decode cX9_project 28 = .ok (.invokespecial 68, 3) := by decide +kernel
theorem dX9_project_31 : decode cX9_project 31 = .ok (.athrow, 1) := by decide +kernel
theorem dX9_project_32 : decode cX9_project 32 = .ok (.aload_n 0, 1) := by decide +kernel
theorem dX9_project_33 : decode cX9_project 33 = .ok (.getfield 60, 3) := by decide +kernel
theorem dX9_project_36 : decode cX9_project 36 = .ok (.getfield 373, 3) := by decide +kernel
theorem dX9_project_39 : decode cX9_project 39 = .ok (.bipush 8, 2) := by decide +kernel
theorem dX9_project_41 : decode cX9_project 41 = .ok (.if_icmp .lt 14, 3) := by decide +kernel
theorem dX9_project_44 : decode cX9_project 44 = .ok (.new 75, 3) := by decide +kernel
theorem dX9_project_47 : decode cX9_project 47 = .ok (.dup, 1) := by decide +kernel
theorem dX9_project_48 : decode cX9_project 48 = .ok (.ldc_w 376, 3) := by decide +kernel
theorem dX9_project_51 : decode cX9_project 51 = .ok (.invokespecial 79, 3) := by decide +kernel
theorem dX9_project_54 : decode cX9_project 54 = .ok (.athrow, 1) := by decide +kernel
theorem dX9_project_55 : decode cX9_project 55 = .ok (.aload_n 0, 1) := by decide +kernel
theorem dX9_project_56 : decode cX9_project 56 = .ok (.getfield 60, 3) := by decide +kernel
theorem dX9_project_59 : decode cX9_project 59 = .ok (.iload_n 1, 1) := by decide +kernel
theorem dX9_project_60 : decode cX9_project 60 = .ok (.iload_n 2, 1) := by decide +kernel
theorem dX9_project_61 : decode cX9_project 61 = .ok (.invokevirtual 378, 3) := by decide +kernel
theorem dX9_project_64 : decode cX9_project 64 = .ok (.ireturn, 1) := by decide +kernel
theorem dX9_toolCost_0 : decode cX9_toolCost 0 = .ok (.iload_n 1, 1) := by decide +kernel
theorem dX9_toolCost_1 : decode cX9_toolCost 1 = .ok (.ifCond .lt 9, 3) := by decide +kernel
theorem dX9_toolCost_4 : decode cX9_toolCost 4 = .ok (.iload_n 1, 1) := by decide +kernel
theorem dX9_toolCost_5 : decode cX9_toolCost 5 = .ok (.bipush 8, 2) := by decide +kernel
theorem dX9_toolCost_7 : decode cX9_toolCost 7 = .ok (.if_icmp .lt 14, 3) := by decide +kernel
theorem dX9_toolCost_10 : decode cX9_toolCost 10 = .ok (.new 380, 3) := by decide +kernel
theorem dX9_toolCost_13 : decode cX9_toolCost 13 = .ok (.dup, 1) := by decide +kernel
theorem dX9_toolCost_14 : decode cX9_toolCost 14 = .ok (.ldc_w 382, 3) := by decide +kernel
theorem dX9_toolCost_17 : decode cX9_toolCost 17 = .ok (.invokespecial 384, 3) := by decide +kernel
theorem dX9_toolCost_20 : decode cX9_toolCost 20 = .ok (.athrow, 1) := by decide +kernel
theorem dX9_toolCost_21 : decode cX9_toolCost 21 = .ok (.iload_n 2, 1) := by decide +kernel
theorem dX9_toolCost_22 : decode cX9_toolCost 22 = .ok (.ifCond .lt 9, 3) := by decide +kernel
theorem dX9_toolCost_25 : decode cX9_toolCost 25 = .ok (.iload_n 2, 1) := by decide +kernel
theorem dX9_toolCost_26 : decode cX9_toolCost 26 = .ok (.bipush 99, 2) := by decide +kernel
theorem dX9_toolCost_28 : decode cX9_toolCost 28 = .ok (.if_icmp .le 14, 3) := by decide +kernel
theorem dX9_toolCost_31 : decode cX9_toolCost 31 = .ok (.new 64, 3) := by decide +kernel
theorem dX9_toolCost_34 : decode cX9_toolCost 34 = .ok (.dup, 1) := by decide +kernel
theorem dX9_toolCost_35 : decode cX9_toolCost 35 = .ok (.ldc_w 385, 3) := by decide +kernel
theorem dX9_toolCost_38 : decode cX9_toolCost 38 = .ok (.invokespecial 68, 3) := by decide +kernel
theorem dX9_toolCost_41 : decode cX9_toolCost 41 = .ok (.athrow, 1) := by decide +kernel
theorem dX9_toolCost_42 : decode cX9_toolCost 42 = .ok (.aload_n 0, 1) := by decide +kernel
theorem dX9_toolCost_43 : decode cX9_toolCost 43 = .ok (.getfield 60, 3) := by decide +kernel
theorem dX9_toolCost_46 : decode cX9_toolCost 46 = .ok (.getfield 387, 3) := by decide +kernel
theorem dX9_toolCost_49 : decode cX9_toolCost 49 = .ok (.iload_n 1, 1) := by decide +kernel
theorem dX9_toolCost_50 : decode cX9_toolCost 50 = .ok (.iaload, 1) := by decide +kernel
theorem dX9_toolCost_51 : decode cX9_toolCost 51 = .ok (.istore_n 3, 1) := by decide +kernel
theorem dX9_toolCost_52 : decode cX9_toolCost 52 = .ok (.aload_n 0, 1) := by decide +kernel
theorem dX9_toolCost_53 : decode cX9_toolCost 53 = .ok (.getfield 60, 3) := by decide +kernel
theorem dX9_toolCost_56 : decode cX9_toolCost 56 = .ok (.getfield 387, 3) := by decide +kernel
theorem dX9_toolCost_59 : decode cX9_toolCost 59 = .ok (.iload_n 1, 1) := by decide +kernel
theorem dX9_toolCost_60 : decode cX9_toolCost 60 = .ok (.iload_n 2, 1) := by decide +kernel
theorem dX9_toolCost_61 : decode cX9_toolCost 61 = .ok (.iastore, 1) := by decide +kernel
theorem dX9_toolCost_62 : decode cX9_toolCost 62 = .ok (.iload_n 3, 1) := by decide +kernel
theorem dX9_toolCost_63 : decode cX9_toolCost 63 = .ok (.ireturn, 1) := by decide +kernel
theorem dX9_best_0 : decode cX9_best 0 = .ok (.aload_n 0, 1) := by decide +kernel
theorem dX9_best_1 : decode cX9_best 1 = .ok (.getfield 60, 3) := by decide +kernel
theorem dX9_best_4 : decode cX9_best 4 = .ok (.invokevirtual 390, 3) := by decide +kernel
theorem dX9_best_7 : decode cX9_best 7 = .ok (.aload_n 0, 1) := by decide +kernel
theorem dX9_best_8 : decode cX9_best 8 = .ok (.getfield 60, 3) := by decide +kernel
theorem dX9_best_11 : decode cX9_best 11 = .ok (.getfield 393, 3) := by decide +kernel
theorem dX9_best_14 : decode cX9_best 14 = .ok (.ireturn, 1) := by decide +kernel
theorem dX9_chosen_0 : decode cX9_chosen 0 = .ok (.aload_n 0, 1) := by decide +kernel
theorem dX9_chosen_1 : decode cX9_chosen 1 = .ok (.getfield 60, 3) := by decide +kernel
theorem dX9_chosen_4 : decode cX9_chosen 4 = .ok (.invokevirtual 390, 3) := by decide +kernel
theorem dX9_chosen_7 : decode cX9_chosen 7 = .ok (.iload_n 1, 1) := by decide +kernel
theorem dX9_chosen_8 : decode cX9_chosen 8 = .ok (.ifCond .eq 13, 3) := by decide +kernel
theorem dX9_chosen_11 : decode cX9_chosen 11 = .ok (.aload_n 0, 1) := by decide +kernel
theorem dX9_chosen_12 : decode cX9_chosen 12 = .ok (.getfield 60, 3) := by decide +kernel
theorem dX9_chosen_15 : decode cX9_chosen 15 = .ok (.getfield 395, 3) := by decide +kernel
theorem dX9_chosen_18 : decode cX9_chosen 18 = .ok (.goto 10, 3) := by decide +kernel
theorem dX9_chosen_21 : decode cX9_chosen 21 = .ok (.aload_n 0, 1) := by decide +kernel
theorem dX9_chosen_22 : decode cX9_chosen 22 = .ok (.getfield 60, 3) := by decide +kernel
theorem dX9_chosen_25 : decode cX9_chosen 25 = .ok (.getfield 398, 3) := by decide +kernel
theorem dX9_chosen_28 : decode cX9_chosen 28 = .ok (.ireturn, 1) := by decide +kernel
theorem dX9_checksum_0 : decode cX9_checksum 0 = .ok (.aload_n 0, 1) := by decide +kernel
theorem dX9_checksum_1 : decode cX9_checksum 1 = .ok (.iload_n 1, 1) := by decide +kernel
theorem dX9_checksum_2 : decode cX9_checksum 2 = .ok (.invokevirtual 83, 3) := by decide +kernel
theorem dX9_checksum_5 : decode cX9_checksum 5 = .ok (.invokevirtual 401, 3) := by decide +kernel
theorem dX9_checksum_8 : decode cX9_checksum 8 = .ok (.lreturn, 1) := by decide +kernel
theorem dX9_isSound_0 : decode cX9_isSound 0 = .ok (.iconst 0, 1) := by decide +kernel
theorem dX9_isSound_1 : decode cX9_isSound 1 = .ok (.istore_n 1, 1) := by decide +kernel
theorem dX9_isSound_2 : decode cX9_isSound 2 = .ok (.iload_n 1, 1) := by decide +kernel
theorem dX9_isSound_3 : decode cX9_isSound 3 = .ok (.aload_n 0, 1) := by decide +kernel
theorem dX9_isSound_4 : decode cX9_isSound 4 = .ok (.getfield 71, 3) := by decide +kernel
theorem dX9_isSound_7 : decode cX9_isSound 7 = .ok (.if_icmp .ge 47, 3) := by decide +kernel
theorem dX9_isSound_10 : decode cX9_isSound 10 = .ok (.iload_n 1, 1) := by decide +kernel
theorem dX9_isSound_11 : decode cX9_isSound 11 = .ok (.aload_n 0, 1) := by decide +kernel
theorem dX9_isSound_12 : decode cX9_isSound 12 = .ok (.getfield 11, 3) := by decide +kernel
theorem dX9_isSound_15 : decode cX9_isSound 15 = .ok (.arraylength, 1) := by decide +kernel
theorem dX9_isSound_16 : decode cX9_isSound 16 = .ok (.if_icmp .ge 38, 3) := by decide +kernel
theorem dX9_isSound_19 : decode cX9_isSound 19 = .ok (.aload_n 0, 1) := by decide +kernel
theorem dX9_isSound_20 : decode cX9_isSound 20 = .ok (.getfield 11, 3) := by decide +kernel
theorem dX9_isSound_23 : decode cX9_isSound 23 = .ok (.iload_n 1, 1) := by decide +kernel
theorem dX9_isSound_24 : decode cX9_isSound 24 = .ok (.aaload, 1) := by decide +kernel
theorem dX9_isSound_25 : decode cX9_isSound 25 = .ok (.astore_n 2, 1) := by decide +kernel
theorem dX9_isSound_26 : decode cX9_isSound 26 = .ok (.aload_n 2, 1) := by decide +kernel
theorem dX9_isSound_27 : decode cX9_isSound 27 = .ok (.ifnull 21, 3) := by decide +kernel
theorem dX9_isSound_30 : decode cX9_isSound 30 = .ok (.aload_n 0, 1) := by decide +kernel
theorem dX9_isSound_31 : decode cX9_isSound 31 = .ok (.aload_n 2, 1) := by decide +kernel
theorem dX9_isSound_32 : decode cX9_isSound 32 = .ok (.invokevirtual 408, 3) := by decide +kernel
theorem dX9_isSound_35 : decode cX9_isSound 35 = .ok (.ifCond .eq 11, 3) := by decide +kernel
theorem dX9_isSound_38 : decode cX9_isSound 38 = .ok (.aload_n 0, 1) := by decide +kernel
theorem dX9_isSound_39 : decode cX9_isSound 39 = .ok (.aload_n 2, 1) := by decide +kernel
theorem dX9_isSound_40 : decode cX9_isSound 40 = .ok (.invokevirtual 411, 3) := by decide +kernel
theorem dX9_isSound_43 : decode cX9_isSound 43 = .ok (.ifCond .ne 5, 3) := by decide +kernel
theorem dX9_isSound_46 : decode cX9_isSound 46 = .ok (.iconst 0, 1) := by decide +kernel
theorem dX9_isSound_47 : decode cX9_isSound 47 = .ok (.ireturn, 1) := by decide +kernel
theorem dX9_isSound_48 : decode cX9_isSound 48 = .ok (.iinc 1 1, 3) := by decide +kernel
theorem dX9_isSound_51 : decode cX9_isSound 51 = .ok (.goto (-49), 3) := by decide +kernel
theorem dX9_isSound_54 : decode cX9_isSound 54 = .ok (.aload_n 0, 1) := by decide +kernel
theorem dX9_isSound_55 : decode cX9_isSound 55 = .ok (.getfield 39, 3) := by decide +kernel
theorem dX9_isSound_58 : decode cX9_isSound 58 = .ok (.invokevirtual 292, 3) := by decide +kernel
theorem dX9_isSound_61 : decode cX9_isSound 61 = .ok (.aload_n 0, 1) := by decide +kernel
theorem dX9_isSound_62 : decode cX9_isSound 62 = .ok (.getfield 39, 3) := by decide +kernel
theorem dX9_isSound_65 : decode cX9_isSound 65 = .ok (.invokevirtual 298, 3) := by decide +kernel
theorem dX9_isSound_68 : decode cX9_isSound 68 = .ok (.aload_n 0, 1) := by decide +kernel
theorem dX9_isSound_69 : decode cX9_isSound 69 = .ok (.getfield 53, 3) := by decide +kernel
theorem dX9_isSound_72 : decode cX9_isSound 72 = .ok (.aload_n 0, 1) := by decide +kernel
theorem dX9_isSound_73 : decode cX9_isSound 73 = .ok (.getfield 18, 3) := by decide +kernel
theorem dX9_isSound_76 : decode cX9_isSound 76 = .ok (.getfield 360, 3) := by decide +kernel
theorem dX9_isSound_79 : decode cX9_isSound 79 = .ok (.invokevirtual 364, 3) := by decide +kernel
theorem dX9_isSound_82 : decode cX9_isSound 82 = .ok (.aload_n 0, 1) := by decide +kernel
theorem dX9_isSound_83 : decode cX9_isSound 83 = .ok (.getfield 39, 3) := by decide +kernel
theorem dX9_isSound_86 : decode cX9_isSound 86 = .ok (.invokevirtual 414, 3) := by decide +kernel
theorem dX9_isSound_89 : decode cX9_isSound 89 = .ok (.ifCond .eq 17, 3) := by decide +kernel
theorem dX9_isSound_92 : decode cX9_isSound 92 = .ok (.aload_n 0, 1) := by decide +kernel
theorem dX9_isSound_93 : decode cX9_isSound 93 = .ok (.getfield 53, 3) := by decide +kernel
theorem dX9_isSound_96 : decode cX9_isSound 96 = .ok (.invokevirtual 417, 3) := by decide +kernel
theorem dX9_isSound_99 : decode cX9_isSound 99 = .ok (.ifCond .eq 7, 3) := by decide +kernel
theorem dX9_isSound_102 : decode cX9_isSound 102 = .ok (.iconst 1, 1) := by decide +kernel
theorem dX9_isSound_103 : decode cX9_isSound 103 = .ok (.goto 4, 3) := by decide +kernel
theorem dX9_isSound_106 : decode cX9_isSound 106 = .ok (.iconst 0, 1) := by decide +kernel
theorem dX9_isSound_107 : decode cX9_isSound 107 = .ok (.ireturn, 1) := by decide +kernel
theorem dX9_isFlowSound_0 : decode cX9_isFlowSound 0 = .ok (.aload_n 1, 1) := by decide +kernel
theorem dX9_isFlowSound_1 : decode cX9_isFlowSound 1 = .ok (.getfield 155, 3) := by decide +kernel
theorem dX9_isFlowSound_4 : decode cX9_isFlowSound 4 = .ok (.iconst 1, 1) := by decide +kernel
theorem dX9_isFlowSound_5 : decode cX9_isFlowSound 5 = .ok (.isub, 1) := by decide +kernel
theorem dX9_isFlowSound_6 : decode cX9_isFlowSound 6 = .ok (.istore_n 2, 1) := by decide +kernel
theorem dX9_isFlowSound_7 : decode cX9_isFlowSound 7 = .ok (.aload_n 0, 1) := by decide +kernel
theorem dX9_isFlowSound_8 : decode cX9_isFlowSound 8 = .ok (.getfield 18, 3) := by decide +kernel
theorem dX9_isFlowSound_11 : decode cX9_isFlowSound 11 = .ok (.aload_n 1, 1) := by decide +kernel
theorem dX9_isFlowSound_12 : decode cX9_isFlowSound 12 = .ok (.iconst 0, 1) := by decide +kernel
theorem dX9_isFlowSound_13 : decode cX9_isFlowSound 13 = .ok (.iload_n 2, 1) := by decide +kernel
theorem dX9_isFlowSound_14 : decode cX9_isFlowSound 14 = .ok (.invokevirtual 231, 3) := by decide +kernel
theorem dX9_isFlowSound_17 : decode cX9_isFlowSound 17 = .ok (.aload_n 0, 1) := by decide +kernel
theorem dX9_isFlowSound_18 : decode cX9_isFlowSound 18 = .ok (.getfield 18, 3) := by decide +kernel
theorem dX9_isFlowSound_21 : decode cX9_isFlowSound 21 = .ok (.invokevirtual 240, 3) := by decide +kernel
theorem dX9_isFlowSound_24 : decode cX9_isFlowSound 24 = .ok (.ifCond .ne 50, 3) := by decide +kernel
theorem dX9_isFlowSound_27 : decode cX9_isFlowSound 27 = .ok (.aload_n 0, 1) := by decide +kernel
theorem dX9_isFlowSound_28 : decode cX9_isFlowSound 28 = .ok (.getfield 25, 3) := by decide +kernel
theorem dX9_isFlowSound_31 : decode cX9_isFlowSound 31 = .ok (.aload_n 1, 1) := by decide +kernel
theorem dX9_isFlowSound_32 : decode cX9_isFlowSound 32 = .ok (.iconst 0, 1) := by decide +kernel
theorem dX9_isFlowSound_33 : decode cX9_isFlowSound 33 = .ok (.iload_n 2, 1) := by decide +kernel
theorem dX9_isFlowSound_34 : decode cX9_isFlowSound 34 = .ok (.invokevirtual 138, 3) := by decide +kernel
theorem dX9_isFlowSound_37 : decode cX9_isFlowSound 37 = .ok (.istore_n 3, 1) := by decide +kernel
theorem dX9_isFlowSound_38 : decode cX9_isFlowSound 38 = .ok (.iload_n 3, 1) := by decide +kernel
theorem dX9_isFlowSound_39 : decode cX9_isFlowSound 39 = .ok (.iconst (-1), 1) := by decide +kernel
theorem dX9_isFlowSound_40 : decode cX9_isFlowSound 40 = .ok (.if_icmp .eq 32, 3) := by decide +kernel
theorem dX9_isFlowSound_43 : decode cX9_isFlowSound 43 = .ok (.iload_n 3, 1) := by decide +kernel
theorem dX9_isFlowSound_44 : decode cX9_isFlowSound 44 = .ok (.iconst 0, 1) := by decide +kernel
theorem dX9_isFlowSound_45 : decode cX9_isFlowSound 45 = .ok (.invokestatic 420, 3) := by decide +kernel
theorem dX9_isFlowSound_48 : decode cX9_isFlowSound 48 = .ok (.iload_n 3, 1) := by decide +kernel
theorem dX9_isFlowSound_49 : decode cX9_isFlowSound 49 = .ok (.iload_n 2, 1) := by decide +kernel
theorem dX9_isFlowSound_50 : decode cX9_isFlowSound 50 = .ok (.invokestatic 420, 3) := by decide +kernel
theorem dX9_isFlowSound_53 : decode cX9_isFlowSound 53 = .ok (.if_icmp .ne 19, 3) := by decide +kernel
theorem dX9_isFlowSound_56 : decode cX9_isFlowSound 56 = .ok (.aload_n 0, 1) := by decide +kernel
theorem dX9_isFlowSound_57 : decode cX9_isFlowSound 57 = .ok (.getfield 25, 3) := by decide +kernel
theorem dX9_isFlowSound_60 : decode cX9_isFlowSound 60 = .ok (.aload_n 1, 1) := by decide +kernel
theorem dX9_isFlowSound_61 : decode cX9_isFlowSound 61 = .ok (.iload_n 3, 1) := by decide +kernel
theorem dX9_isFlowSound_62 : decode cX9_isFlowSound 62 = .ok (.invokevirtual 423, 3) := by decide +kernel
theorem dX9_isFlowSound_65 : decode cX9_isFlowSound 65 = .ok (.ifCond .eq 7, 3) := by decide +kernel
theorem dX9_isFlowSound_68 : decode cX9_isFlowSound 68 = .ok (.iconst 1, 1) := by decide +kernel
theorem dX9_isFlowSound_69 : decode cX9_isFlowSound 69 = .ok (.goto 4, 3) := by decide +kernel
theorem dX9_isFlowSound_72 : decode cX9_isFlowSound 72 = .ok (.iconst 0, 1) := by decide +kernel
theorem dX9_isFlowSound_73 : decode cX9_isFlowSound 73 = .ok (.ireturn, 1) := by decide +kernel
theorem dX9_isFlowSound_74 : decode cX9_isFlowSound 74 = .ok (.aload_n 0, 1) := by decide +kernel
theorem dX9_isFlowSound_75 : decode cX9_isFlowSound 75 = .ok (.getfield 18, 3) := by decide +kernel
theorem dX9_isFlowSound_78 : decode cX9_isFlowSound 78 = .ok (.getfield 186, 3) := by decide +kernel
theorem dX9_isFlowSound_81 : decode cX9_isFlowSound 81 = .ok (.istore_n 3, 1) := by decide +kernel
theorem dX9_isFlowSound_82 : decode cX9_isFlowSound 82 = .ok (.aload_n 0, 1) := by decide +kernel
theorem dX9_isFlowSound_83 : decode cX9_isFlowSound 83 = .ok (.getfield 18, 3) := by decide +kernel
theorem dX9_isFlowSound_86 : decode cX9_isFlowSound 86 = .ok (.aload_n 1, 1) := by decide +kernel
theorem dX9_isFlowSound_87 : decode cX9_isFlowSound 87 = .ok (.getfield 95, 3) := by decide +kernel
theorem dX9_isFlowSound_90 : decode cX9_isFlowSound 90 = .ok (.invokevirtual 254, 3) := by decide +kernel
theorem dX9_isFlowSound_93 : decode cX9_isFlowSound 93 = .ok (.aload_n 0, 1) := by decide +kernel
theorem dX9_isFlowSound_94 : decode cX9_isFlowSound 94 = .ok (.getfield 25, 3) := by decide +kernel
theorem dX9_isFlowSound_97 : decode cX9_isFlowSound 97 = .ok (.aload_n 1, 1) := by decide +kernel
theorem dX9_isFlowSound_98 : decode cX9_isFlowSound 98 = .ok (.iconst 0, 1) := by decide +kernel
theorem dX9_isFlowSound_99 : decode cX9_isFlowSound 99 = .ok (.iload_n 2, 1) := by decide +kernel
theorem dX9_isFlowSound_100 : decode cX9_isFlowSound 100 = .ok (.invokevirtual 146, 3) := by decide +kernel
theorem dX9_isFlowSound_103 : decode cX9_isFlowSound 103 = .ok (.aload_n 0, 1) := by decide +kernel
theorem dX9_isFlowSound_104 : decode cX9_isFlowSound 104 = .ok (.aload_n 1, 1) := by decide +kernel
theorem dX9_isFlowSound_105 : decode cX9_isFlowSound 105 = .ok (.aload_n 0, 1) := by decide +kernel
theorem dX9_isFlowSound_106 : decode cX9_isFlowSound 106 = .ok (.getfield 25, 3) := by decide +kernel
theorem dX9_isFlowSound_109 : decode cX9_isFlowSound 109 = .ok (.getfield 152, 3) := by decide +kernel
theorem dX9_isFlowSound_112 : decode cX9_isFlowSound 112 = .ok (.iload_n 3, 1) := by decide +kernel
theorem dX9_isFlowSound_113 : decode cX9_isFlowSound 113 = .ok (.invokevirtual 427, 3) := by decide +kernel
theorem dX9_isFlowSound_116 : decode cX9_isFlowSound 116 = .ok (.ifCond .eq 19, 3) := by decide +kernel
theorem dX9_isFlowSound_119 : decode cX9_isFlowSound 119 = .ok (.aload_n 0, 1) := by decide +kernel
theorem dX9_isFlowSound_120 : decode cX9_isFlowSound 120 = .ok (.aload_n 1, 1) := by decide +kernel
theorem dX9_isFlowSound_121 : decode cX9_isFlowSound 121 = .ok (.aload_n 0, 1) := by decide +kernel
theorem dX9_isFlowSound_122 : decode cX9_isFlowSound 122 = .ok (.getfield 25, 3) := by decide +kernel
theorem dX9_isFlowSound_125 : decode cX9_isFlowSound 125 = .ok (.getfield 149, 3) := by decide +kernel
theorem dX9_isFlowSound_128 : decode cX9_isFlowSound 128 = .ok (.iload_n 3, 1) := by decide +kernel
theorem dX9_isFlowSound_129 : decode cX9_isFlowSound 129 = .ok (.invokevirtual 427, 3) := by decide +kernel
theorem dX9_isFlowSound_132 : decode cX9_isFlowSound 132 = .ok (.ifCond .ne 5, 3) := by decide +kernel
theorem dX9_isFlowSound_135 : decode cX9_isFlowSound 135 = .ok (.iconst 0, 1) := by decide +kernel
theorem dX9_isFlowSound_136 : decode cX9_isFlowSound 136 = .ok (.ireturn, 1) := by decide +kernel
theorem dX9_isFlowSound_137 : decode cX9_isFlowSound 137 = .ok (.aload_n 0, 1) := by decide +kernel
theorem dX9_isFlowSound_138 : decode cX9_isFlowSound 138 = .ok (.getfield 18, 3) := by decide +kernel
theorem dX9_isFlowSound_141 : decode cX9_isFlowSound 141 = .ok (.aload_n 1, 1) := by decide +kernel
theorem dX9_isFlowSound_142 : decode cX9_isFlowSound 142 = .ok (.iconst 0, 1) := by decide +kernel
theorem dX9_isFlowSound_143 : decode cX9_isFlowSound 143 = .ok (.iload_n 2, 1) := by decide +kernel
theorem dX9_isFlowSound_144 : decode cX9_isFlowSound 144 = .ok (.invokevirtual 231, 3) := by decide +kernel
theorem dX9_isFlowSound_147 : decode cX9_isFlowSound 147 = .ok (.aload_n 0, 1) := by decide +kernel
theorem dX9_isFlowSound_148 : decode cX9_isFlowSound 148 = .ok (.getfield 18, 3) := by decide +kernel
theorem dX9_isFlowSound_151 : decode cX9_isFlowSound 151 = .ok (.invokevirtual 240, 3) := by decide +kernel
theorem dX9_isFlowSound_154 : decode cX9_isFlowSound 154 = .ok (.ifCond .ne 5, 3) := by decide +kernel
theorem dX9_isFlowSound_157 : decode cX9_isFlowSound 157 = .ok (.iconst 0, 1) := by decide +kernel
theorem dX9_isFlowSound_158 : decode cX9_isFlowSound 158 = .ok (.ireturn, 1) := by decide +kernel
theorem dX9_isFlowSound_159 : decode cX9_isFlowSound 159 = .ok (.aload_n 0, 1) := by decide +kernel
theorem dX9_isFlowSound_160 : decode cX9_isFlowSound 160 = .ok (.getfield 18, 3) := by decide +kernel
theorem dX9_isFlowSound_163 : decode cX9_isFlowSound 163 = .ok (.invokevirtual 431, 3) := by decide +kernel
theorem dX9_isFlowSound_166 : decode cX9_isFlowSound 166 = .ok (.aload_n 0, 1) := by decide +kernel
theorem dX9_isFlowSound_167 : decode cX9_isFlowSound 167 = .ok (.getfield 18, 3) := by decide +kernel
theorem dX9_isFlowSound_170 : decode cX9_isFlowSound 170 = .ok (.aload_n 1, 1) := by decide +kernel
theorem dX9_isFlowSound_171 : decode cX9_isFlowSound 171 = .ok (.getfield 95, 3) := by decide +kernel
theorem dX9_isFlowSound_174 : decode cX9_isFlowSound 174 = .ok (.invokevirtual 254, 3) := by decide +kernel
theorem dX9_isFlowSound_177 : decode cX9_isFlowSound 177 = .ok (.aload_n 0, 1) := by decide +kernel
theorem dX9_isFlowSound_178 : decode cX9_isFlowSound 178 = .ok (.getfield 18, 3) := by decide +kernel
theorem dX9_isFlowSound_181 : decode cX9_isFlowSound 181 = .ok (.aload_n 1, 1) := by decide +kernel
theorem dX9_isFlowSound_182 : decode cX9_isFlowSound 182 = .ok (.getfield 95, 3) := by decide +kernel
theorem dX9_isFlowSound_185 : decode cX9_isFlowSound 185 = .ok (.iconst 0, 1) := by decide +kernel
theorem dX9_isFlowSound_186 : decode cX9_isFlowSound 186 = .ok (.invokevirtual 200, 3) := by decide +kernel
theorem dX9_isFlowSound_189 : decode cX9_isFlowSound 189 = .ok (.aload_n 0, 1) := by decide +kernel
theorem dX9_isFlowSound_190 : decode cX9_isFlowSound 190 = .ok (.getfield 18, 3) := by decide +kernel
theorem dX9_isFlowSound_193 : decode cX9_isFlowSound 193 = .ok (.aload_n 1, 1) := by decide +kernel
theorem dX9_isFlowSound_194 : decode cX9_isFlowSound 194 = .ok (.invokevirtual 434, 3) := by decide +kernel
theorem dX9_isFlowSound_197 : decode cX9_isFlowSound 197 = .ok (.ifCond .eq 17, 3) := by decide +kernel
theorem dX9_isFlowSound_200 : decode cX9_isFlowSound 200 = .ok (.aload_n 0, 1) := by decide +kernel
theorem dX9_isFlowSound_201 : decode cX9_isFlowSound 201 = .ok (.aload_n 1, 1) := by decide +kernel
theorem dX9_isFlowSound_202 : decode cX9_isFlowSound 202 = .ok (.iload_n 2, 1) := by decide +kernel
theorem dX9_isFlowSound_203 : decode cX9_isFlowSound 203 = .ok (.iload_n 3, 1) := by decide +kernel
theorem dX9_isFlowSound_204 : decode cX9_isFlowSound 204 = .ok (.invokevirtual 437, 3) := by decide +kernel
theorem dX9_isFlowSound_207 : decode cX9_isFlowSound 207 = .ok (.ifCond .eq 7, 3) := by decide +kernel
theorem dX9_isFlowSound_210 : decode cX9_isFlowSound 210 = .ok (.iconst 1, 1) := by decide +kernel
theorem dX9_isFlowSound_211 : decode cX9_isFlowSound 211 = .ok (.goto 4, 3) := by decide +kernel
theorem dX9_isFlowSound_214 : decode cX9_isFlowSound 214 = .ok (.iconst 0, 1) := by decide +kernel
theorem dX9_isFlowSound_215 : decode cX9_isFlowSound 215 = .ok (.ireturn, 1) := by decide +kernel
theorem dX9_isCutSound_0 : decode cX9_isCutSound 0 = .ok (.aload_n 0, 1) := by decide +kernel
theorem dX9_isCutSound_1 : decode cX9_isCutSound 1 = .ok (.getfield 25, 3) := by decide +kernel
theorem dX9_isCutSound_4 : decode cX9_isCutSound 4 = .ok (.aload_n 1, 1) := by decide +kernel
theorem dX9_isCutSound_5 : decode cX9_isCutSound 5 = .ok (.iload_n 2, 1) := by decide +kernel
theorem dX9_isCutSound_6 : decode cX9_isCutSound 6 = .ok (.invokevirtual 164, 3) := by decide +kernel
theorem dX9_isCutSound_9 : decode cX9_isCutSound 9 = .ok (.iload_n 3, 1) := by decide +kernel
theorem dX9_isCutSound_10 : decode cX9_isCutSound 10 = .ok (.if_icmp .ne 19, 3) := by decide +kernel
theorem dX9_isCutSound_13 : decode cX9_isCutSound 13 = .ok (.aload_n 0, 1) := by decide +kernel
theorem dX9_isCutSound_14 : decode cX9_isCutSound 14 = .ok (.getfield 18, 3) := by decide +kernel
theorem dX9_isCutSound_17 : decode cX9_isCutSound 17 = .ok (.aload_n 1, 1) := by decide +kernel
theorem dX9_isCutSound_18 : decode cX9_isCutSound 18 = .ok (.iload_n 2, 1) := by decide +kernel
theorem dX9_isCutSound_19 : decode cX9_isCutSound 19 = .ok (.invokevirtual 440, 3) := by decide +kernel
theorem dX9_isCutSound_22 : decode cX9_isCutSound 22 = .ok (.ifCond .eq 7, 3) := by decide +kernel
theorem dX9_isCutSound_25 : decode cX9_isCutSound 25 = .ok (.iconst 1, 1) := by decide +kernel
theorem dX9_isCutSound_26 : decode cX9_isCutSound 26 = .ok (.goto 4, 3) := by decide +kernel
theorem dX9_isCutSound_29 : decode cX9_isCutSound 29 = .ok (.iconst 0, 1) := by decide +kernel
theorem dX9_isCutSound_30 : decode cX9_isCutSound 30 = .ok (.ireturn, 1) := by decide +kernel
theorem dX9_areRoundsSound_0 : decode cX9_areRoundsSound 0 = .ok (.aload_n 1, 1) := by decide +kernel
theorem dX9_areRoundsSound_1 : decode cX9_areRoundsSound 1 = .ok (.invokevirtual 443, 3) := by decide +kernel
theorem dX9_areRoundsSound_4 : decode cX9_areRoundsSound 4 = .ok (.ifCond .eq 5, 3) := by decide +kernel
theorem dX9_areRoundsSound_7 : decode cX9_areRoundsSound 7 = .ok (.iconst 1, 1) := by decide +kernel
theorem dX9_areRoundsSound_8 : decode cX9_areRoundsSound 8 = .ok (.ireturn, 1) := by decide +kernel
theorem dX9_areRoundsSound_9 : decode cX9_areRoundsSound 9 = .ok (.aload_n 0, 1) := by decide +kernel
theorem dX9_areRoundsSound_10 : decode cX9_areRoundsSound 10 = .ok (.getfield 18, 3) := by decide +kernel
theorem dX9_areRoundsSound_13 : decode cX9_areRoundsSound 13 = .ok (.aload_n 1, 1) := by decide +kernel
theorem dX9_areRoundsSound_14 : decode cX9_areRoundsSound 14 = .ok (.iconst 0, 1) := by decide +kernel
theorem dX9_areRoundsSound_15 : decode cX9_areRoundsSound 15 = .ok (.iload_n 2, 1) := by decide +kernel
theorem dX9_areRoundsSound_16 : decode cX9_areRoundsSound 16 = .ok (.iconst (-1), 1) := by decide +kernel
theorem dX9_areRoundsSound_17 : decode cX9_areRoundsSound 17 = .ok (.invokevirtual 178, 3) := by decide +kernel
theorem dX9_areRoundsSound_20 : decode cX9_areRoundsSound 20 = .ok (.istore 4, 2) := by decide +kernel
theorem dX9_areRoundsSound_22 : decode cX9_areRoundsSound 22 = .ok (.iload 4, 2) := by decide +kernel
theorem dX9_areRoundsSound_24 : decode cX9_areRoundsSound 24 = .ok (.aload_n 1, 1) := by decide +kernel
theorem dX9_areRoundsSound_25 : decode cX9_areRoundsSound 25 = .ok (.getfield 155, 3) := by decide +kernel
theorem dX9_areRoundsSound_28 : decode cX9_areRoundsSound 28 = .ok (.aload_n 1, 1) := by decide +kernel
theorem dX9_areRoundsSound_29 : decode cX9_areRoundsSound 29 = .ok (.getfield 95, 3) := by decide +kernel
theorem dX9_areRoundsSound_32 : decode cX9_areRoundsSound 32 = .ok (.imul, 1) := by decide +kernel
theorem dX9_areRoundsSound_33 : decode cX9_areRoundsSound 33 = .ok (.if_icmp .gt 18, 3) := by decide +kernel
theorem dX9_areRoundsSound_36 : decode cX9_areRoundsSound 36 = .ok (.aload_n 0, 1) := by decide +kernel
theorem dX9_areRoundsSound_37 : decode cX9_areRoundsSound 37 = .ok (.getfield 18, 3) := by decide +kernel
theorem dX9_areRoundsSound_40 : decode cX9_areRoundsSound 40 = .ok (.getfield 446, 3) := by decide +kernel
theorem dX9_areRoundsSound_43 : decode cX9_areRoundsSound 43 = .ok (.iload_n 3, 1) := by decide +kernel
theorem dX9_areRoundsSound_44 : decode cX9_areRoundsSound 44 = .ok (.if_icmp .ne 7, 3) := by decide +kernel
theorem dX9_areRoundsSound_47 : decode cX9_areRoundsSound 47 = .ok (.iconst 1, 1) := by decide +kernel
theorem dX9_areRoundsSound_48 : decode cX9_areRoundsSound 48 = .ok (.goto 4, 3) := by decide +kernel
theorem dX9_areRoundsSound_51 : decode cX9_areRoundsSound 51 = .ok (.iconst 0, 1) := by decide +kernel
theorem dX9_areRoundsSound_52 : decode cX9_areRoundsSound 52 = .ok (.ireturn, 1) := by decide +kernel
theorem dX9_isTreeSound_0 : decode cX9_isTreeSound 0 = .ok (.aload_n 0, 1) := by decide +kernel
theorem dX9_isTreeSound_1 : decode cX9_isTreeSound 1 = .ok (.getfield 32, 3) := by decide +kernel
theorem dX9_isTreeSound_4 : decode cX9_isTreeSound 4 = .ok (.aload_n 1, 1) := by decide +kernel
theorem dX9_isTreeSound_5 : decode cX9_isTreeSound 5 = .ok (.aload_n 0, 1) := by decide +kernel
theorem dX9_isTreeSound_6 : decode cX9_isTreeSound 6 = .ok (.getfield 25, 3) := by decide +kernel
theorem dX9_isTreeSound_9 : decode cX9_isTreeSound 9 = .ok (.invokevirtual 265, 3) := by decide +kernel
theorem dX9_isTreeSound_12 : decode cX9_isTreeSound 12 = .ok (.aload_n 0, 1) := by decide +kernel
theorem dX9_isTreeSound_13 : decode cX9_isTreeSound 13 = .ok (.getfield 32, 3) := by decide +kernel
theorem dX9_isTreeSound_16 : decode cX9_isTreeSound 16 = .ok (.invokevirtual 269, 3) := by decide +kernel
theorem dX9_isTreeSound_19 : decode cX9_isTreeSound 19 = .ok (.iconst 0, 1) := by decide +kernel
theorem dX9_isTreeSound_20 : decode cX9_isTreeSound 20 = .ok (.istore_n 2, 1) := by decide +kernel
theorem dX9_isTreeSound_21 : decode cX9_isTreeSound 21 = .ok (.iload_n 2, 1) := by decide +kernel
theorem dX9_isTreeSound_22 : decode cX9_isTreeSound 22 = .ok (.aload_n 1, 1) := by decide +kernel
theorem dX9_isTreeSound_23 : decode cX9_isTreeSound 23 = .ok (.getfield 155, 3) := by decide +kernel
theorem dX9_isTreeSound_26 : decode cX9_isTreeSound 26 = .ok (.if_icmp .ge 50, 3) := by decide +kernel
theorem dX9_isTreeSound_29 : decode cX9_isTreeSound 29 = .ok (.iload_n 2, 1) := by decide +kernel
theorem dX9_isTreeSound_30 : decode cX9_isTreeSound 30 = .ok (.iconst 1, 1) := by decide +kernel
theorem dX9_isTreeSound_31 : decode cX9_isTreeSound 31 = .ok (.iadd, 1) := by decide +kernel
theorem dX9_isTreeSound_32 : decode cX9_isTreeSound 32 = .ok (.istore_n 3, 1) := by decide +kernel
theorem dX9_isTreeSound_33 : decode cX9_isTreeSound 33 = .ok (.iload_n 3, 1) := by decide +kernel
theorem dX9_isTreeSound_34 : decode cX9_isTreeSound 34 = .ok (.aload_n 1, 1) := by decide +kernel
theorem dX9_isTreeSound_35 : decode cX9_isTreeSound 35 = .ok (.getfield 155, 3) := by decide +kernel
theorem dX9_isTreeSound_38 : decode cX9_isTreeSound 38 = .ok (.if_icmp .ge 32, 3) := by decide +kernel
theorem dX9_isTreeSound_41 : decode cX9_isTreeSound 41 = .ok (.aload_n 0, 1) := by decide +kernel
theorem dX9_isTreeSound_42 : decode cX9_isTreeSound 42 = .ok (.getfield 32, 3) := by decide +kernel
theorem dX9_isTreeSound_45 : decode cX9_isTreeSound 45 = .ok (.iload_n 2, 1) := by decide +kernel
theorem dX9_isTreeSound_46 : decode cX9_isTreeSound 46 = .ok (.iload_n 3, 1) := by decide +kernel
theorem dX9_isTreeSound_47 : decode cX9_isTreeSound 47 = .ok (.invokevirtual 449, 3) := by decide +kernel
theorem dX9_isTreeSound_50 : decode cX9_isTreeSound 50 = .ok (.aload_n 0, 1) := by decide +kernel
theorem dX9_isTreeSound_51 : decode cX9_isTreeSound 51 = .ok (.getfield 32, 3) := by decide +kernel
theorem dX9_isTreeSound_54 : decode cX9_isTreeSound 54 = .ok (.iload_n 2, 1) := by decide +kernel
theorem dX9_isTreeSound_55 : decode cX9_isTreeSound 55 = .ok (.iload_n 3, 1) := by decide +kernel
theorem dX9_isTreeSound_56 : decode cX9_isTreeSound 56 = .ok (.invokevirtual 275, 3) := by decide +kernel
theorem dX9_isTreeSound_59 : decode cX9_isTreeSound 59 = .ok (.if_icmp .eq 5, 3) := by decide +kernel
theorem dX9_isTreeSound_62 : decode cX9_isTreeSound 62 = .ok (.iconst 0, 1) := by decide +kernel
theorem dX9_isTreeSound_63 : decode cX9_isTreeSound 63 = .ok (.ireturn, 1) := by decide +kernel
theorem dX9_isTreeSound_64 : decode cX9_isTreeSound 64 = .ok (.iinc 3 1, 3) := by decide +kernel
theorem dX9_isTreeSound_67 : decode cX9_isTreeSound 67 = .ok (.goto (-34), 3) := by decide +kernel
theorem dX9_isTreeSound_70 : decode cX9_isTreeSound 70 = .ok (.iinc 2 1, 3) := by decide +kernel
theorem dX9_isTreeSound_73 : decode cX9_isTreeSound 73 = .ok (.goto (-52), 3) := by decide +kernel
theorem dX9_isTreeSound_76 : decode cX9_isTreeSound 76 = .ok (.iconst 1, 1) := by decide +kernel
theorem dX9_isTreeSound_77 : decode cX9_isTreeSound 77 = .ok (.ireturn, 1) := by decide +kernel
theorem dX9_greatestAmount_0 : decode cX9_greatestAmount 0 = .ok (.aload_n 0, 1) := by decide +kernel
theorem dX9_greatestAmount_1 : decode cX9_greatestAmount 1 = .ok (.getfield 18, 3) := by decide +kernel
theorem dX9_greatestAmount_4 : decode cX9_greatestAmount 4 = .ok (.aload_n 1, 1) := by decide +kernel
theorem dX9_greatestAmount_5 : decode cX9_greatestAmount 5 = .ok (.iload_n 2, 1) := by decide +kernel
theorem dX9_greatestAmount_6 : decode cX9_greatestAmount 6 = .ok (.iload_n 3, 1) := by decide +kernel
theorem dX9_greatestAmount_7 : decode cX9_greatestAmount 7 = .ok (.invokevirtual 231, 3) := by decide +kernel
theorem dX9_greatestAmount_10 : decode cX9_greatestAmount 10 = .ok (.aload_n 0, 1) := by decide +kernel
theorem dX9_greatestAmount_11 : decode cX9_greatestAmount 11 = .ok (.getfield 18, 3) := by decide +kernel
theorem dX9_greatestAmount_14 : decode cX9_greatestAmount 14 = .ok (.invokevirtual 240, 3) := by decide +kernel
theorem dX9_greatestAmount_17 : decode cX9_greatestAmount 17 = .ok (.invokestatic 244, 3) := by decide +kernel
theorem dX9_greatestAmount_20 : decode cX9_greatestAmount 20 = .ok (.aload_n 0, 1) := by decide +kernel
theorem dX9_greatestAmount_21 : decode cX9_greatestAmount 21 = .ok (.getfield 18, 3) := by decide +kernel
theorem dX9_greatestAmount_24 : decode cX9_greatestAmount 24 = .ok (.getfield 186, 3) := by decide +kernel
theorem dX9_greatestAmount_27 : decode cX9_greatestAmount 27 = .ok (.ireturn, 1) := by decide +kernel
theorem dX9_tellGreatest_0 : decode cX9_tellGreatest 0 = .ok (.aload_n 0, 1) := by decide +kernel
theorem dX9_tellGreatest_1 : decode cX9_tellGreatest 1 = .ok (.getfield 18, 3) := by decide +kernel
theorem dX9_tellGreatest_4 : decode cX9_tellGreatest 4 = .ok (.aload_n 1, 1) := by decide +kernel
theorem dX9_tellGreatest_5 : decode cX9_tellGreatest 5 = .ok (.iload_n 2, 1) := by decide +kernel
theorem dX9_tellGreatest_6 : decode cX9_tellGreatest 6 = .ok (.iload_n 3, 1) := by decide +kernel
theorem dX9_tellGreatest_7 : decode cX9_tellGreatest 7 = .ok (.invokevirtual 231, 3) := by decide +kernel
theorem dX9_tellGreatest_10 : decode cX9_tellGreatest 10 = .ok (.aload_n 0, 1) := by decide +kernel
theorem dX9_tellGreatest_11 : decode cX9_tellGreatest 11 = .ok (.getfield 18, 3) := by decide +kernel
theorem dX9_tellGreatest_14 : decode cX9_tellGreatest 14 = .ok (.invokevirtual 240, 3) := by decide +kernel
theorem dX9_tellGreatest_17 : decode cX9_tellGreatest 17 = .ok (.invokestatic 244, 3) := by decide +kernel
theorem dX9_tellGreatest_20 : decode cX9_tellGreatest 20 = .ok (.aload_n 0, 1) := by decide +kernel
theorem dX9_tellGreatest_21 : decode cX9_tellGreatest 21 = .ok (.getfield 18, 3) := by decide +kernel
theorem dX9_tellGreatest_24 : decode cX9_tellGreatest 24 = .ok (.aload_n 1, 1) := by decide +kernel
theorem dX9_tellGreatest_25 : decode cX9_tellGreatest 25 = .ok (.getfield 95, 3) := by decide +kernel
theorem dX9_tellGreatest_28 : decode cX9_tellGreatest 28 = .ok (.invokevirtual 254, 3) := by decide +kernel
theorem dX9_tellGreatest_31 : decode cX9_tellGreatest 31 = .ok (.return_, 1) := by decide +kernel
theorem dX9_tellCheapest_0 : decode cX9_tellCheapest 0 = .ok (.aload_n 0, 1) := by decide +kernel
theorem dX9_tellCheapest_1 : decode cX9_tellCheapest 1 = .ok (.getfield 18, 3) := by decide +kernel
theorem dX9_tellCheapest_4 : decode cX9_tellCheapest 4 = .ok (.aload_n 1, 1) := by decide +kernel
theorem dX9_tellCheapest_5 : decode cX9_tellCheapest 5 = .ok (.iload_n 2, 1) := by decide +kernel
theorem dX9_tellCheapest_6 : decode cX9_tellCheapest 6 = .ok (.iload_n 3, 1) := by decide +kernel
theorem dX9_tellCheapest_7 : decode cX9_tellCheapest 7 = .ok (.invokevirtual 231, 3) := by decide +kernel
theorem dX9_tellCheapest_10 : decode cX9_tellCheapest 10 = .ok (.aload_n 0, 1) := by decide +kernel
theorem dX9_tellCheapest_11 : decode cX9_tellCheapest 11 = .ok (.getfield 18, 3) := by decide +kernel
theorem dX9_tellCheapest_14 : decode cX9_tellCheapest 14 = .ok (.invokevirtual 240, 3) := by decide +kernel
theorem dX9_tellCheapest_17 : decode cX9_tellCheapest 17 = .ok (.invokestatic 244, 3) := by decide +kernel
theorem dX9_tellCheapest_20 : decode cX9_tellCheapest 20 = .ok (.aload_n 0, 1) := by decide +kernel
theorem dX9_tellCheapest_21 : decode cX9_tellCheapest 21 = .ok (.getfield 18, 3) := by decide +kernel
theorem dX9_tellCheapest_24 : decode cX9_tellCheapest 24 = .ok (.invokevirtual 431, 3) := by decide +kernel
theorem dX9_tellCheapest_27 : decode cX9_tellCheapest 27 = .ok (.aload_n 0, 1) := by decide +kernel
theorem dX9_tellCheapest_28 : decode cX9_tellCheapest 28 = .ok (.getfield 18, 3) := by decide +kernel
theorem dX9_tellCheapest_31 : decode cX9_tellCheapest 31 = .ok (.aload_n 1, 1) := by decide +kernel
theorem dX9_tellCheapest_32 : decode cX9_tellCheapest 32 = .ok (.getfield 95, 3) := by decide +kernel
theorem dX9_tellCheapest_35 : decode cX9_tellCheapest 35 = .ok (.invokevirtual 254, 3) := by decide +kernel
theorem dX9_tellCheapest_38 : decode cX9_tellCheapest 38 = .ok (.return_, 1) := by decide +kernel
theorem dX9_netAt_0 : decode cX9_netAt 0 = .ok (.iload_n 1, 1) := by decide +kernel
theorem dX9_netAt_1 : decode cX9_netAt 1 = .ok (.ifCond .lt 29, 3) := by decide +kernel
theorem dX9_netAt_4 : decode cX9_netAt 4 = .ok (.iload_n 1, 1) := by decide +kernel
theorem dX9_netAt_5 : decode cX9_netAt 5 = .ok (.aload_n 0, 1) := by decide +kernel
theorem dX9_netAt_6 : decode cX9_netAt 6 = .ok (.getfield 71, 3) := by decide +kernel
theorem dX9_netAt_9 : decode cX9_netAt 9 = .ok (.if_icmp .ge 21, 3) := by decide +kernel
theorem dX9_netAt_12 : decode cX9_netAt 12 = .ok (.iload_n 1, 1) := by decide +kernel
theorem dX9_netAt_13 : decode cX9_netAt 13 = .ok (.aload_n 0, 1) := by decide +kernel
theorem dX9_netAt_14 : decode cX9_netAt 14 = .ok (.getfield 11, 3) := by decide +kernel
theorem dX9_netAt_17 : decode cX9_netAt 17 = .ok (.arraylength, 1) := by decide +kernel
theorem dX9_netAt_18 : decode cX9_netAt 18 = .ok (.if_icmp .ge 12, 3) := by decide +kernel
theorem dX9_netAt_21 : decode cX9_netAt 21 = .ok (.aload_n 0, 1) := by decide +kernel
theorem dX9_netAt_22 : decode cX9_netAt 22 = .ok (.getfield 11, 3) := by decide +kernel
theorem dX9_netAt_25 : decode cX9_netAt 25 = .ok (.iload_n 1, 1) := by decide +kernel
theorem dX9_netAt_26 : decode cX9_netAt 26 = .ok (.aaload, 1) := by decide +kernel
theorem dX9_netAt_27 : decode cX9_netAt 27 = .ok (.goto 4, 3) := by decide +kernel
theorem dX9_netAt_30 : decode cX9_netAt 30 = .ok (.aconst_null, 1) := by decide +kernel
theorem dX9_netAt_31 : decode cX9_netAt 31 = .ok (.astore_n 2, 1) := by decide +kernel
theorem dX9_netAt_32 : decode cX9_netAt 32 = .ok (.aload_n 2, 1) := by decide +kernel
theorem dX9_netAt_33 : decode cX9_netAt 33 = .ok (.ifnonnull 14, 3) := by decide +kernel
theorem dX9_netAt_36 : decode cX9_netAt 36 = .ok (.new 380, 3) := by decide +kernel
theorem dX9_netAt_39 : decode cX9_netAt 39 = .ok (.dup, 1) := by decide +kernel
theorem dX9_netAt_40 : decode cX9_netAt 40 = .ok (.ldc_w 452, 3) := by decide +kernel
theorem dX9_netAt_43 : decode cX9_netAt 43 = .ok (.invokespecial 384, 3) := by decide +kernel
theorem dX9_netAt_46 : decode cX9_netAt 46 = .ok (.athrow, 1) := by decide +kernel
theorem dX9_netAt_47 : decode cX9_netAt 47 = .ok (.aload_n 2, 1) := by decide +kernel
theorem dX9_netAt_48 : decode cX9_netAt 48 = .ok (.areturn, 1) := by decide +kernel
theorem dX9_needEdge_0 : decode cX9_needEdge 0 = .ok (.iload_n 1, 1) := by decide +kernel
theorem dX9_needEdge_1 : decode cX9_needEdge 1 = .ok (.ifCond .lt 11, 3) := by decide +kernel
theorem dX9_needEdge_4 : decode cX9_needEdge 4 = .ok (.iload_n 1, 1) := by decide +kernel
theorem dX9_needEdge_5 : decode cX9_needEdge 5 = .ok (.aload_n 0, 1) := by decide +kernel
theorem dX9_needEdge_6 : decode cX9_needEdge 6 = .ok (.getfield 95, 3) := by decide +kernel
theorem dX9_needEdge_9 : decode cX9_needEdge 9 = .ok (.if_icmp .lt 14, 3) := by decide +kernel
theorem dX9_needEdge_12 : decode cX9_needEdge 12 = .ok (.new 380, 3) := by decide +kernel
theorem dX9_needEdge_15 : decode cX9_needEdge 15 = .ok (.dup, 1) := by decide +kernel
theorem dX9_needEdge_16 : decode cX9_needEdge 16 = .ok (.ldc_w 454, 3) := by decide +kernel
theorem dX9_needEdge_19 : decode cX9_needEdge 19 = .ok (.invokespecial 384, 3) := by decide +kernel
theorem dX9_needEdge_22 : decode cX9_needEdge 22 = .ok (.athrow, 1) := by decide +kernel
theorem dX9_needEdge_23 : decode cX9_needEdge 23 = .ok (.return_, 1) := by decide +kernel
theorem dX9_needCorner_0 : decode cX9_needCorner 0 = .ok (.iload_n 1, 1) := by decide +kernel
theorem dX9_needCorner_1 : decode cX9_needCorner 1 = .ok (.ifCond .lt 11, 3) := by decide +kernel
theorem dX9_needCorner_4 : decode cX9_needCorner 4 = .ok (.iload_n 1, 1) := by decide +kernel
theorem dX9_needCorner_5 : decode cX9_needCorner 5 = .ok (.aload_n 0, 1) := by decide +kernel
theorem dX9_needCorner_6 : decode cX9_needCorner 6 = .ok (.getfield 155, 3) := by decide +kernel
theorem dX9_needCorner_9 : decode cX9_needCorner 9 = .ok (.if_icmp .lt 14, 3) := by decide +kernel
theorem dX9_needCorner_12 : decode cX9_needCorner 12 = .ok (.new 380, 3) := by decide +kernel
theorem dX9_needCorner_15 : decode cX9_needCorner 15 = .ok (.dup, 1) := by decide +kernel
theorem dX9_needCorner_16 : decode cX9_needCorner 16 = .ok (.ldc_w 456, 3) := by decide +kernel
theorem dX9_needCorner_19 : decode cX9_needCorner 19 = .ok (.invokespecial 384, 3) := by decide +kernel
theorem dX9_needCorner_22 : decode cX9_needCorner 22 = .ok (.athrow, 1) := by decide +kernel
theorem dX9_needCorner_23 : decode cX9_needCorner 23 = .ok (.return_, 1) := by decide +kernel
theorem dX9_needEnds_0 : decode cX9_needEnds 0 = .ok (.iload_n 1, 1) := by decide +kernel
theorem dX9_needEnds_1 : decode cX9_needEnds 1 = .ok (.ifCond .lt 28, 3) := by decide +kernel
theorem dX9_needEnds_4 : decode cX9_needEnds 4 = .ok (.iload_n 1, 1) := by decide +kernel
theorem dX9_needEnds_5 : decode cX9_needEnds 5 = .ok (.aload_n 0, 1) := by decide +kernel
theorem dX9_needEnds_6 : decode cX9_needEnds 6 = .ok (.getfield 155, 3) := by decide +kernel
theorem dX9_needEnds_9 : decode cX9_needEnds 9 = .ok (.if_icmp .ge 20, 3) := by decide +kernel
theorem dX9_needEnds_12 : decode cX9_needEnds 12 = .ok (.iload_n 2, 1) := by decide +kernel
theorem dX9_needEnds_13 : decode cX9_needEnds 13 = .ok (.ifCond .lt 16, 3) := by decide +kernel
theorem dX9_needEnds_16 : decode cX9_needEnds 16 = .ok (.iload_n 2, 1) := by decide +kernel
theorem dX9_needEnds_17 : decode cX9_needEnds 17 = .ok (.aload_n 0, 1) := by decide +kernel
theorem dX9_needEnds_18 : decode cX9_needEnds 18 = .ok (.getfield 155, 3) := by decide +kernel
theorem dX9_needEnds_21 : decode cX9_needEnds 21 = .ok (.if_icmp .ge 8, 3) := by decide +kernel
theorem dX9_needEnds_24 : decode cX9_needEnds 24 = .ok (.iload_n 1, 1) := by decide +kernel
theorem dX9_needEnds_25 : decode cX9_needEnds 25 = .ok (.iload_n 2, 1) := by decide +kernel
theorem dX9_needEnds_26 : decode cX9_needEnds 26 = .ok (.if_icmp .ne 14, 3) := by decide +kernel
theorem dX9_needEnds_29 : decode cX9_needEnds 29 = .ok (.new 64, 3) := by decide +kernel
theorem dX9_needEnds_32 : decode cX9_needEnds 32 = .ok (.dup, 1) := by decide +kernel
theorem dX9_needEnds_33 : decode cX9_needEnds 33 = .ok (.ldc_w 458, 3) := by decide +kernel
theorem dX9_needEnds_36 : decode cX9_needEnds 36 = .ok (.invokespecial 68, 3) := by decide +kernel
theorem dX9_needEnds_39 : decode cX9_needEnds 39 = .ok (.athrow, 1) := by decide +kernel
theorem dX9_needEnds_40 : decode cX9_needEnds 40 = .ok (.return_, 1) := by decide +kernel
theorem dX9_needNumbers_0 : decode cX9_needNumbers 0 = .ok (.iload_n 0, 1) := by decide +kernel
theorem dX9_needNumbers_1 : decode cX9_needNumbers 1 = .ok (.ifCond .lt 26, 3) := by decide +kernel
theorem dX9_needNumbers_4 : decode cX9_needNumbers 4 = .ok (.iload_n 1, 1) := by decide +kernel
theorem dX9_needNumbers_5 : decode cX9_needNumbers 5 = .ok (.bipush 99, 2) := by decide +kernel
theorem dX9_needNumbers_7 : decode cX9_needNumbers 7 = .ok (.if_icmp .gt 20, 3) := by decide +kernel
theorem dX9_needNumbers_10 : decode cX9_needNumbers 10 = .ok (.iload_n 0, 1) := by decide +kernel
theorem dX9_needNumbers_11 : decode cX9_needNumbers 11 = .ok (.iload_n 1, 1) := by decide +kernel
theorem dX9_needNumbers_12 : decode cX9_needNumbers 12 = .ok (.if_icmp .gt 15, 3) := by decide +kernel
theorem dX9_needNumbers_15 : decode cX9_needNumbers 15 = .ok (.iload_n 2, 1) := by decide +kernel
theorem dX9_needNumbers_16 : decode cX9_needNumbers 16 = .ok (.bipush (-20), 2) := by decide +kernel
theorem dX9_needNumbers_18 : decode cX9_needNumbers 18 = .ok (.if_icmp .lt 9, 3) := by decide +kernel
theorem dX9_needNumbers_21 : decode cX9_needNumbers 21 = .ok (.iload_n 2, 1) := by decide +kernel
theorem dX9_needNumbers_22 : decode cX9_needNumbers 22 = .ok (.bipush 20, 2) := by decide +kernel
theorem dX9_needNumbers_24 : decode cX9_needNumbers 24 = .ok (.if_icmp .le 14, 3) := by decide +kernel
theorem dX9_needNumbers_27 : decode cX9_needNumbers 27 = .ok (.new 64, 3) := by decide +kernel
theorem dX9_needNumbers_30 : decode cX9_needNumbers 30 = .ok (.dup, 1) := by decide +kernel
theorem dX9_needNumbers_31 : decode cX9_needNumbers 31 = .ok (.ldc_w 460, 3) := by decide +kernel
theorem dX9_needNumbers_34 : decode cX9_needNumbers 34 = .ok (.invokespecial 68, 3) := by decide +kernel
theorem dX9_needNumbers_37 : decode cX9_needNumbers 37 = .ok (.athrow, 1) := by decide +kernel
theorem dX9_needNumbers_38 : decode cX9_needNumbers 38 = .ok (.return_, 1) := by decide +kernel
theorem dX9_needFlow_0 : decode cX9_needFlow 0 = .ok (.iload_n 0, 1) := by decide +kernel
theorem dX9_needFlow_1 : decode cX9_needFlow 1 = .ok (.ifCond .ne 14, 3) := by decide +kernel
theorem dX9_needFlow_4 : decode cX9_needFlow 4 = .ok (.new 141, 3) := by decide +kernel
theorem dX9_needFlow_7 : decode cX9_needFlow 7 = .ok (.dup, 1) := by decide +kernel
theorem dX9_needFlow_8 : decode cX9_needFlow 8 = .ok (.ldc_w 462, 3) := by decide +kernel
theorem dX9_needFlow_11 : decode cX9_needFlow 11 = .ok (.invokespecial 145, 3) := by decide +kernel
theorem dX9_needFlow_14 : decode cX9_needFlow 14 = .ok (.athrow, 1) := by decide +kernel
theorem dX9_needFlow_15 : decode cX9_needFlow 15 = .ok (.return_, 1) := by decide +kernel
theorem dX9_needNoLeasts_0 : decode cX9_needNoLeasts 0 = .ok (.aload_n 0, 1) := by decide +kernel
theorem dX9_needNoLeasts_1 : decode cX9_needNoLeasts 1 = .ok (.invokevirtual 443, 3) := by decide +kernel
theorem dX9_needNoLeasts_4 : decode cX9_needNoLeasts 4 = .ok (.ifCond .eq 14, 3) := by decide +kernel
theorem dX9_needNoLeasts_7 : decode cX9_needNoLeasts 7 = .ok (.new 223, 3) := by decide +kernel
theorem dX9_needNoLeasts_10 : decode cX9_needNoLeasts 10 = .ok (.dup, 1) := by decide +kernel
theorem dX9_needNoLeasts_11 : decode cX9_needNoLeasts 11 = .ok (.ldc_w 464, 3) := by decide +kernel
theorem dX9_needNoLeasts_14 : decode cX9_needNoLeasts 14 = .ok (.invokespecial 227, 3) := by decide +kernel
theorem dX9_needNoLeasts_17 : decode cX9_needNoLeasts 17 = .ok (.athrow, 1) := by decide +kernel
theorem dX9_needNoLeasts_18 : decode cX9_needNoLeasts 18 = .ok (.return_, 1) := by decide +kernel
theorem dX9_needRound_0 : decode cX9_needRound 0 = .ok (.iload 4, 2) := by decide +kernel
theorem dX9_needRound_2 : decode cX9_needRound 2 = .ok (.ifCond .lt 20, 3) := by decide +kernel
theorem dX9_needRound_5 : decode cX9_needRound 5 = .ok (.iload 4, 2) := by decide +kernel
theorem dX9_needRound_7 : decode cX9_needRound 7 = .ok (.aload_n 0, 1) := by decide +kernel
theorem dX9_needRound_8 : decode cX9_needRound 8 = .ok (.getfield 18, 3) := by decide +kernel
theorem dX9_needRound_11 : decode cX9_needRound 11 = .ok (.aload_n 1, 1) := by decide +kernel
theorem dX9_needRound_12 : decode cX9_needRound 12 = .ok (.iload_n 2, 1) := by decide +kernel
theorem dX9_needRound_13 : decode cX9_needRound 13 = .ok (.iload_n 3, 1) := by decide +kernel
theorem dX9_needRound_14 : decode cX9_needRound 14 = .ok (.iload 4, 2) := by decide +kernel
theorem dX9_needRound_16 : decode cX9_needRound 16 = .ok (.invokevirtual 178, 3) := by decide +kernel
theorem dX9_needRound_19 : decode cX9_needRound 19 = .ok (.if_icmp .lt 14, 3) := by decide +kernel
theorem dX9_needRound_22 : decode cX9_needRound 22 = .ok (.new 141, 3) := by decide +kernel
theorem dX9_needRound_25 : decode cX9_needRound 25 = .ok (.dup, 1) := by decide +kernel
theorem dX9_needRound_26 : decode cX9_needRound 26 = .ok (.ldc_w 466, 3) := by decide +kernel
theorem dX9_needRound_29 : decode cX9_needRound 29 = .ok (.invokespecial 145, 3) := by decide +kernel
theorem dX9_needRound_32 : decode cX9_needRound 32 = .ok (.athrow, 1) := by decide +kernel
theorem dX9_needRound_33 : decode cX9_needRound 33 = .ok (.return_, 1) := by decide +kernel
theorem dX9_needLeft_0 : decode cX9_needLeft 0 = .ok (.iload_n 0, 1) := by decide +kernel
theorem dX9_needLeft_1 : decode cX9_needLeft 1 = .ok (.ifCond .lt 9, 3) := by decide +kernel
theorem dX9_needLeft_4 : decode cX9_needLeft 4 = .ok (.iload_n 0, 1) := by decide +kernel
theorem dX9_needLeft_5 : decode cX9_needLeft 5 = .ok (.bipush 8, 2) := by decide +kernel
theorem dX9_needLeft_7 : decode cX9_needLeft 7 = .ok (.if_icmp .lt 14, 3) := by decide +kernel
theorem dX9_needLeft_10 : decode cX9_needLeft 10 = .ok (.new 380, 3) := by decide +kernel
theorem dX9_needLeft_13 : decode cX9_needLeft 13 = .ok (.dup, 1) := by decide +kernel
theorem dX9_needLeft_14 : decode cX9_needLeft 14 = .ok (.ldc_w 470, 3) := by decide +kernel
theorem dX9_needLeft_17 : decode cX9_needLeft 17 = .ok (.invokespecial 384, 3) := by decide +kernel
theorem dX9_needLeft_20 : decode cX9_needLeft 20 = .ok (.athrow, 1) := by decide +kernel
theorem dX9_needLeft_21 : decode cX9_needLeft 21 = .ok (.return_, 1) := by decide +kernel
theorem dX9_needPlace_0 : decode cX9_needPlace 0 = .ok (.iload_n 1, 1) := by decide +kernel
theorem dX9_needPlace_1 : decode cX9_needPlace 1 = .ok (.ifCond .lt 29, 3) := by decide +kernel
theorem dX9_needPlace_4 : decode cX9_needPlace 4 = .ok (.iload_n 1, 1) := by decide +kernel
theorem dX9_needPlace_5 : decode cX9_needPlace 5 = .ok (.aload_n 0, 1) := by decide +kernel
theorem dX9_needPlace_6 : decode cX9_needPlace 6 = .ok (.getfield 53, 3) := by decide +kernel
theorem dX9_needPlace_9 : decode cX9_needPlace 9 = .ok (.getfield 474, 3) := by decide +kernel
theorem dX9_needPlace_12 : decode cX9_needPlace 12 = .ok (.if_icmp .ge 18, 3) := by decide +kernel
theorem dX9_needPlace_15 : decode cX9_needPlace 15 = .ok (.iload_n 2, 1) := by decide +kernel
theorem dX9_needPlace_16 : decode cX9_needPlace 16 = .ok (.ifCond .lt 14, 3) := by decide +kernel
theorem dX9_needPlace_19 : decode cX9_needPlace 19 = .ok (.iload_n 2, 1) := by decide +kernel
theorem dX9_needPlace_20 : decode cX9_needPlace 20 = .ok (.aload_n 0, 1) := by decide +kernel
theorem dX9_needPlace_21 : decode cX9_needPlace 21 = .ok (.getfield 53, 3) := by decide +kernel
theorem dX9_needPlace_24 : decode cX9_needPlace 24 = .ok (.getfield 477, 3) := by decide +kernel
theorem dX9_needPlace_27 : decode cX9_needPlace 27 = .ok (.if_icmp .lt 14, 3) := by decide +kernel
theorem dX9_needPlace_30 : decode cX9_needPlace 30 = .ok (.new 380, 3) := by decide +kernel
theorem dX9_needPlace_33 : decode cX9_needPlace 33 = .ok (.dup, 1) := by decide +kernel
theorem dX9_needPlace_34 : decode cX9_needPlace 34 = .ok (.ldc_w 480, 3) := by decide +kernel
theorem dX9_needPlace_37 : decode cX9_needPlace 37 = .ok (.invokespecial 384, 3) := by decide +kernel
theorem dX9_needPlace_40 : decode cX9_needPlace 40 = .ok (.athrow, 1) := by decide +kernel
theorem dX9_needPlace_41 : decode cX9_needPlace 41 = .ok (.return_, 1) := by decide +kernel
theorem dX9_hasBit_0 : decode cX9_hasBit 0 = .ok (.iload_n 0, 1) := by decide +kernel
theorem dX9_hasBit_1 : decode cX9_hasBit 1 = .ok (.iload_n 1, 1) := by decide +kernel
theorem dX9_hasBit_2 : decode cX9_hasBit 2 = .ok (.ishr, 1) := by decide +kernel
theorem dX9_hasBit_3 : decode cX9_hasBit 3 = .ok (.iconst 1, 1) := by decide +kernel
theorem dX9_hasBit_4 : decode cX9_hasBit 4 = .ok (.iand, 1) := by decide +kernel
theorem dX9_hasBit_5 : decode cX9_hasBit 5 = .ok (.ifCond .eq 7, 3) := by decide +kernel
theorem dX9_hasBit_8 : decode cX9_hasBit 8 = .ok (.iconst 1, 1) := by decide +kernel
theorem dX9_hasBit_9 : decode cX9_hasBit 9 = .ok (.goto 4, 3) := by decide +kernel
theorem dX9_hasBit_12 : decode cX9_hasBit 12 = .ok (.iconst 0, 1) := by decide +kernel
theorem dX9_hasBit_13 : decode cX9_hasBit 13 = .ok (.ireturn, 1) := by decide +kernel
theorem dX9_hasOneOf_0 : decode cX9_hasOneOf 0 = .ok (.iload_n 0, 1) := by decide +kernel
theorem dX9_hasOneOf_1 : decode cX9_hasOneOf 1 = .ok (.iload_n 1, 1) := by decide +kernel
theorem dX9_hasOneOf_2 : decode cX9_hasOneOf 2 = .ok (.invokestatic 420, 3) := by decide +kernel
theorem dX9_hasOneOf_5 : decode cX9_hasOneOf 5 = .ok (.ifCond .eq 15, 3) := by decide +kernel
theorem dX9_hasOneOf_8 : decode cX9_hasOneOf 8 = .ok (.iload_n 0, 1) := by decide +kernel
theorem dX9_hasOneOf_9 : decode cX9_hasOneOf 9 = .ok (.iload_n 2, 1) := by decide +kernel
theorem dX9_hasOneOf_10 : decode cX9_hasOneOf 10 = .ok (.invokestatic 420, 3) := by decide +kernel
theorem dX9_hasOneOf_13 : decode cX9_hasOneOf 13 = .ok (.ifCond .ne 7, 3) := by decide +kernel
theorem dX9_hasOneOf_16 : decode cX9_hasOneOf 16 = .ok (.iconst 1, 1) := by decide +kernel
theorem dX9_hasOneOf_17 : decode cX9_hasOneOf 17 = .ok (.goto 4, 3) := by decide +kernel
theorem dX9_hasOneOf_20 : decode cX9_hasOneOf 20 = .ok (.iconst 0, 1) := by decide +kernel
theorem dX9_hasOneOf_21 : decode cX9_hasOneOf 21 = .ok (.ireturn, 1) := by decide +kernel
