theorem dL_net_0 : decode cL_net 0 = .ok (.aload_n 2, 1) := by decide +kernel
theorem dL_net_1 : decode cL_net 1 = .ok (.iconst 0, 1) := by decide +kernel
theorem dL_net_2 : decode cL_net 2 = .ok (.aload_n 0, 1) := by decide +kernel
theorem dL_net_3 : decode cL_net 3 = .ok (.iload_n 1, 1) := by decide +kernel
theorem dL_net_4 : decode cL_net 4 = .ok (.invokevirtual 7, 3) := by decide +kernel
theorem dL_net_7 : decode cL_net 7 = .ok (.i2l, 1) := by decide +kernel
theorem dL_net_8 : decode cL_net 8 = .ok (.lastore, 1) := by decide +kernel
theorem dL_net_9 : decode cL_net 9 = .ok (.goto 9, 3) := by decide +kernel
theorem dL_net_12 : decode cL_net 12 = .ok (.astore_n 3, 1) := by decide +kernel
theorem dL_net_13 : decode cL_net 13 = .ok (.iconst 1, 1) := by decide +kernel
theorem dL_net_14 : decode cL_net 14 = .ok (.ireturn, 1) := by decide +kernel
theorem dL_net_15 : decode cL_net 15 = .ok (.astore_n 3, 1) := by decide +kernel
theorem dL_net_16 : decode cL_net 16 = .ok (.iconst 2, 1) := by decide +kernel
theorem dL_net_17 : decode cL_net 17 = .ok (.ireturn, 1) := by decide +kernel
theorem dL_net_18 : decode cL_net 18 = .ok (.iconst 0, 1) := by decide +kernel
theorem dL_net_19 : decode cL_net 19 = .ok (.ireturn, 1) := by decide +kernel
theorem dL_edge_0 : decode cL_edge 0 = .ok (.aload 7, 2) := by decide +kernel
theorem dL_edge_2 : decode cL_edge 2 = .ok (.iconst 0, 1) := by decide +kernel
theorem dL_edge_3 : decode cL_edge 3 = .ok (.aload_n 0, 1) := by decide +kernel
theorem dL_edge_4 : decode cL_edge 4 = .ok (.iload_n 1, 1) := by decide +kernel
theorem dL_edge_5 : decode cL_edge 5 = .ok (.iload_n 2, 1) := by decide +kernel
theorem dL_edge_6 : decode cL_edge 6 = .ok (.iload_n 3, 1) := by decide +kernel
theorem dL_edge_7 : decode cL_edge 7 = .ok (.iload 4, 2) := by decide +kernel
theorem dL_edge_9 : decode cL_edge 9 = .ok (.iload 5, 2) := by decide +kernel
theorem dL_edge_11 : decode cL_edge 11 = .ok (.iload 6, 2) := by decide +kernel
theorem dL_edge_13 : decode cL_edge 13 = .ok (.invokevirtual 17, 3) := by decide +kernel
theorem dL_edge_16 : decode cL_edge 16 = .ok (.i2l, 1) := by decide +kernel
theorem dL_edge_17 : decode cL_edge 17 = .ok (.lastore, 1) := by decide +kernel
theorem dL_edge_18 : decode cL_edge 18 = .ok (.goto 15, 3) := by decide +kernel
theorem dL_edge_21 : decode cL_edge 21 = .ok (.astore 8, 2) := by decide +kernel
theorem dL_edge_23 : decode cL_edge 23 = .ok (.iconst 1, 1) := by decide +kernel
theorem dL_edge_24 : decode cL_edge 24 = .ok (.ireturn, 1) := by decide +kernel
theorem dL_edge_25 : decode cL_edge 25 = .ok (.astore 8, 2) := by decide +kernel
theorem dL_edge_27 : decode cL_edge 27 = .ok (.iconst 2, 1) := by decide +kernel
theorem dL_edge_28 : decode cL_edge 28 = .ok (.ireturn, 1) := by decide +kernel
theorem dL_edge_29 : decode cL_edge 29 = .ok (.astore 8, 2) := by decide +kernel
theorem dL_edge_31 : decode cL_edge 31 = .ok (.iconst 3, 1) := by decide +kernel
theorem dL_edge_32 : decode cL_edge 32 = .ok (.ireturn, 1) := by decide +kernel
theorem dL_edge_33 : decode cL_edge 33 = .ok (.iconst 0, 1) := by decide +kernel
theorem dL_edge_34 : decode cL_edge 34 = .ok (.ireturn, 1) := by decide +kernel
theorem dL_change_0 : decode cL_change 0 = .ok (.aload 6, 2) := by decide +kernel
theorem dL_change_2 : decode cL_change 2 = .ok (.iconst 0, 1) := by decide +kernel
theorem dL_change_3 : decode cL_change 3 = .ok (.aload_n 0, 1) := by decide +kernel
theorem dL_change_4 : decode cL_change 4 = .ok (.iload_n 1, 1) := by decide +kernel
theorem dL_change_5 : decode cL_change 5 = .ok (.iload_n 2, 1) := by decide +kernel
theorem dL_change_6 : decode cL_change 6 = .ok (.iload_n 3, 1) := by decide +kernel
theorem dL_change_7 : decode cL_change 7 = .ok (.iload 4, 2) := by decide +kernel
theorem dL_change_9 : decode cL_change 9 = .ok (.iload 5, 2) := by decide +kernel
theorem dL_change_11 : decode cL_change 11 = .ok (.invokevirtual 23, 3) := by decide +kernel
theorem dL_change_14 : decode cL_change 14 = .ok (.i2l, 1) := by decide +kernel
theorem dL_change_15 : decode cL_change 15 = .ok (.lastore, 1) := by decide +kernel
theorem dL_change_16 : decode cL_change 16 = .ok (.goto 11, 3) := by decide +kernel
theorem dL_change_19 : decode cL_change 19 = .ok (.astore 7, 2) := by decide +kernel
theorem dL_change_21 : decode cL_change 21 = .ok (.iconst 1, 1) := by decide +kernel
theorem dL_change_22 : decode cL_change 22 = .ok (.ireturn, 1) := by decide +kernel
theorem dL_change_23 : decode cL_change 23 = .ok (.astore 7, 2) := by decide +kernel
theorem dL_change_25 : decode cL_change 25 = .ok (.iconst 2, 1) := by decide +kernel
theorem dL_change_26 : decode cL_change 26 = .ok (.ireturn, 1) := by decide +kernel
theorem dL_change_27 : decode cL_change 27 = .ok (.iconst 0, 1) := by decide +kernel
theorem dL_change_28 : decode cL_change 28 = .ok (.ireturn, 1) := by decide +kernel
theorem dL_drop_0 : decode cL_drop 0 = .ok (.aload_n 3, 1) := by decide +kernel
theorem dL_drop_1 : decode cL_drop 1 = .ok (.iconst 0, 1) := by decide +kernel
theorem dL_drop_2 : decode cL_drop 2 = .ok (.aload_n 0, 1) := by decide +kernel
theorem dL_drop_3 : decode cL_drop 3 = .ok (.iload_n 1, 1) := by decide +kernel
theorem dL_drop_4 : decode cL_drop 4 = .ok (.iload_n 2, 1) := by decide +kernel
theorem dL_drop_5 : decode cL_drop 5 = .ok (.invokevirtual 27, 3) := by decide +kernel
theorem dL_drop_8 : decode cL_drop 8 = .ok (.i2l, 1) := by decide +kernel
theorem dL_drop_9 : decode cL_drop 9 = .ok (.lastore, 1) := by decide +kernel
theorem dL_drop_10 : decode cL_drop 10 = .ok (.goto 7, 3) := by decide +kernel
theorem dL_drop_13 : decode cL_drop 13 = .ok (.astore 4, 2) := by decide +kernel
theorem dL_drop_15 : decode cL_drop 15 = .ok (.iconst 1, 1) := by decide +kernel
theorem dL_drop_16 : decode cL_drop 16 = .ok (.ireturn, 1) := by decide +kernel
theorem dL_drop_17 : decode cL_drop 17 = .ok (.iconst 0, 1) := by decide +kernel
theorem dL_drop_18 : decode cL_drop 18 = .ok (.ireturn, 1) := by decide +kernel
theorem dL_edges_0 : decode cL_edges 0 = .ok (.aload_n 2, 1) := by decide +kernel
theorem dL_edges_1 : decode cL_edges 1 = .ok (.iconst 0, 1) := by decide +kernel
theorem dL_edges_2 : decode cL_edges 2 = .ok (.aload_n 0, 1) := by decide +kernel
theorem dL_edges_3 : decode cL_edges 3 = .ok (.iload_n 1, 1) := by decide +kernel
theorem dL_edges_4 : decode cL_edges 4 = .ok (.invokevirtual 31, 3) := by decide +kernel
theorem dL_edges_7 : decode cL_edges 7 = .ok (.i2l, 1) := by decide +kernel
theorem dL_edges_8 : decode cL_edges 8 = .ok (.lastore, 1) := by decide +kernel
theorem dL_edges_9 : decode cL_edges 9 = .ok (.goto 6, 3) := by decide +kernel
theorem dL_edges_12 : decode cL_edges 12 = .ok (.astore_n 3, 1) := by decide +kernel
theorem dL_edges_13 : decode cL_edges 13 = .ok (.iconst 1, 1) := by decide +kernel
theorem dL_edges_14 : decode cL_edges 14 = .ok (.ireturn, 1) := by decide +kernel
theorem dL_edges_15 : decode cL_edges 15 = .ok (.iconst 0, 1) := by decide +kernel
theorem dL_edges_16 : decode cL_edges 16 = .ok (.ireturn, 1) := by decide +kernel
theorem dL_supply_0 : decode cL_supply 0 = .ok (.aload 4, 2) := by decide +kernel
theorem dL_supply_2 : decode cL_supply 2 = .ok (.iconst 0, 1) := by decide +kernel
theorem dL_supply_3 : decode cL_supply 3 = .ok (.aload_n 0, 1) := by decide +kernel
theorem dL_supply_4 : decode cL_supply 4 = .ok (.iload_n 1, 1) := by decide +kernel
theorem dL_supply_5 : decode cL_supply 5 = .ok (.iload_n 2, 1) := by decide +kernel
theorem dL_supply_6 : decode cL_supply 6 = .ok (.iload_n 3, 1) := by decide +kernel
theorem dL_supply_7 : decode cL_supply 7 = .ok (.invokevirtual 34, 3) := by decide +kernel
theorem dL_supply_10 : decode cL_supply 10 = .ok (.i2l, 1) := by decide +kernel
theorem dL_supply_11 : decode cL_supply 11 = .ok (.lastore, 1) := by decide +kernel
theorem dL_supply_12 : decode cL_supply 12 = .ok (.goto 11, 3) := by decide +kernel
theorem dL_supply_15 : decode cL_supply 15 = .ok (.astore 5, 2) := by decide +kernel
theorem dL_supply_17 : decode cL_supply 17 = .ok (.iconst 1, 1) := by decide +kernel
theorem dL_supply_18 : decode cL_supply 18 = .ok (.ireturn, 1) := by decide +kernel
theorem dL_supply_19 : decode cL_supply 19 = .ok (.astore 5, 2) := by decide +kernel
theorem dL_supply_21 : decode cL_supply 21 = .ok (.iconst 2, 1) := by decide +kernel
theorem dL_supply_22 : decode cL_supply 22 = .ok (.ireturn, 1) := by decide +kernel
theorem dL_supply_23 : decode cL_supply 23 = .ok (.iconst 0, 1) := by decide +kernel
theorem dL_supply_24 : decode cL_supply 24 = .ok (.ireturn, 1) := by decide +kernel
theorem dL_most_0 : decode cL_most 0 = .ok (.aload 4, 2) := by decide +kernel
theorem dL_most_2 : decode cL_most 2 = .ok (.iconst 0, 1) := by decide +kernel
theorem dL_most_3 : decode cL_most 3 = .ok (.aload_n 0, 1) := by decide +kernel
theorem dL_most_4 : decode cL_most 4 = .ok (.iload_n 1, 1) := by decide +kernel
theorem dL_most_5 : decode cL_most 5 = .ok (.iload_n 2, 1) := by decide +kernel
theorem dL_most_6 : decode cL_most 6 = .ok (.iload_n 3, 1) := by decide +kernel
theorem dL_most_7 : decode cL_most 7 = .ok (.invokevirtual 38, 3) := by decide +kernel
theorem dL_most_10 : decode cL_most 10 = .ok (.i2l, 1) := by decide +kernel
theorem dL_most_11 : decode cL_most 11 = .ok (.lastore, 1) := by decide +kernel
theorem dL_most_12 : decode cL_most 12 = .ok (.goto 15, 3) := by decide +kernel
theorem dL_most_15 : decode cL_most 15 = .ok (.astore 5, 2) := by decide +kernel
theorem dL_most_17 : decode cL_most 17 = .ok (.iconst 1, 1) := by decide +kernel
theorem dL_most_18 : decode cL_most 18 = .ok (.ireturn, 1) := by decide +kernel
theorem dL_most_19 : decode cL_most 19 = .ok (.astore 5, 2) := by decide +kernel
theorem dL_most_21 : decode cL_most 21 = .ok (.iconst 2, 1) := by decide +kernel
theorem dL_most_22 : decode cL_most 22 = .ok (.ireturn, 1) := by decide +kernel
theorem dL_most_23 : decode cL_most 23 = .ok (.astore 5, 2) := by decide +kernel
theorem dL_most_25 : decode cL_most 25 = .ok (.iconst 3, 1) := by decide +kernel
theorem dL_most_26 : decode cL_most 26 = .ok (.ireturn, 1) := by decide +kernel
theorem dL_most_27 : decode cL_most 27 = .ok (.iconst 0, 1) := by decide +kernel
theorem dL_most_28 : decode cL_most 28 = .ok (.ireturn, 1) := by decide +kernel
theorem dL_flow_0 : decode cL_flow 0 = .ok (.aload 5, 2) := by decide +kernel
theorem dL_flow_2 : decode cL_flow 2 = .ok (.iconst 0, 1) := by decide +kernel
theorem dL_flow_3 : decode cL_flow 3 = .ok (.aload_n 0, 1) := by decide +kernel
theorem dL_flow_4 : decode cL_flow 4 = .ok (.iload_n 1, 1) := by decide +kernel
theorem dL_flow_5 : decode cL_flow 5 = .ok (.iload_n 2, 1) := by decide +kernel
theorem dL_flow_6 : decode cL_flow 6 = .ok (.iload_n 3, 1) := by decide +kernel
theorem dL_flow_7 : decode cL_flow 7 = .ok (.iload 4, 2) := by decide +kernel
theorem dL_flow_9 : decode cL_flow 9 = .ok (.invokevirtual 43, 3) := by decide +kernel
theorem dL_flow_12 : decode cL_flow 12 = .ok (.i2l, 1) := by decide +kernel
theorem dL_flow_13 : decode cL_flow 13 = .ok (.lastore, 1) := by decide +kernel
theorem dL_flow_14 : decode cL_flow 14 = .ok (.goto 15, 3) := by decide +kernel
theorem dL_flow_17 : decode cL_flow 17 = .ok (.astore 6, 2) := by decide +kernel
theorem dL_flow_19 : decode cL_flow 19 = .ok (.iconst 1, 1) := by decide +kernel
theorem dL_flow_20 : decode cL_flow 20 = .ok (.ireturn, 1) := by decide +kernel
theorem dL_flow_21 : decode cL_flow 21 = .ok (.astore 6, 2) := by decide +kernel
theorem dL_flow_23 : decode cL_flow 23 = .ok (.iconst 2, 1) := by decide +kernel
theorem dL_flow_24 : decode cL_flow 24 = .ok (.ireturn, 1) := by decide +kernel
theorem dL_flow_25 : decode cL_flow 25 = .ok (.astore 6, 2) := by decide +kernel
theorem dL_flow_27 : decode cL_flow 27 = .ok (.iconst 3, 1) := by decide +kernel
theorem dL_flow_28 : decode cL_flow 28 = .ok (.ireturn, 1) := by decide +kernel
theorem dL_flow_29 : decode cL_flow 29 = .ok (.iconst 0, 1) := by decide +kernel
theorem dL_flow_30 : decode cL_flow 30 = .ok (.ireturn, 1) := by decide +kernel
theorem dL_crowd_0 : decode cL_crowd 0 = .ok (.aload 4, 2) := by decide +kernel
theorem dL_crowd_2 : decode cL_crowd 2 = .ok (.iconst 0, 1) := by decide +kernel
theorem dL_crowd_3 : decode cL_crowd 3 = .ok (.aload_n 0, 1) := by decide +kernel
theorem dL_crowd_4 : decode cL_crowd 4 = .ok (.iload_n 1, 1) := by decide +kernel
theorem dL_crowd_5 : decode cL_crowd 5 = .ok (.iload_n 2, 1) := by decide +kernel
theorem dL_crowd_6 : decode cL_crowd 6 = .ok (.iload_n 3, 1) := by decide +kernel
theorem dL_crowd_7 : decode cL_crowd 7 = .ok (.invokevirtual 47, 3) := by decide +kernel
theorem dL_crowd_10 : decode cL_crowd 10 = .ok (.i2l, 1) := by decide +kernel
theorem dL_crowd_11 : decode cL_crowd 11 = .ok (.lastore, 1) := by decide +kernel
theorem dL_crowd_12 : decode cL_crowd 12 = .ok (.goto 15, 3) := by decide +kernel
theorem dL_crowd_15 : decode cL_crowd 15 = .ok (.astore 5, 2) := by decide +kernel
theorem dL_crowd_17 : decode cL_crowd 17 = .ok (.iconst 1, 1) := by decide +kernel
theorem dL_crowd_18 : decode cL_crowd 18 = .ok (.ireturn, 1) := by decide +kernel
theorem dL_crowd_19 : decode cL_crowd 19 = .ok (.astore 5, 2) := by decide +kernel
theorem dL_crowd_21 : decode cL_crowd 21 = .ok (.iconst 2, 1) := by decide +kernel
theorem dL_crowd_22 : decode cL_crowd 22 = .ok (.ireturn, 1) := by decide +kernel
theorem dL_crowd_23 : decode cL_crowd 23 = .ok (.astore 5, 2) := by decide +kernel
theorem dL_crowd_25 : decode cL_crowd 25 = .ok (.iconst 3, 1) := by decide +kernel
theorem dL_crowd_26 : decode cL_crowd 26 = .ok (.ireturn, 1) := by decide +kernel
theorem dL_crowd_27 : decode cL_crowd 27 = .ok (.iconst 0, 1) := by decide +kernel
theorem dL_crowd_28 : decode cL_crowd 28 = .ok (.ireturn, 1) := by decide +kernel
theorem dL_cut_0 : decode cL_cut 0 = .ok (.aload 5, 2) := by decide +kernel
theorem dL_cut_2 : decode cL_cut 2 = .ok (.iconst 0, 1) := by decide +kernel
theorem dL_cut_3 : decode cL_cut 3 = .ok (.aload_n 0, 1) := by decide +kernel
theorem dL_cut_4 : decode cL_cut 4 = .ok (.iload_n 1, 1) := by decide +kernel
theorem dL_cut_5 : decode cL_cut 5 = .ok (.iload_n 2, 1) := by decide +kernel
theorem dL_cut_6 : decode cL_cut 6 = .ok (.iload_n 3, 1) := by decide +kernel
theorem dL_cut_7 : decode cL_cut 7 = .ok (.iload 4, 2) := by decide +kernel
theorem dL_cut_9 : decode cL_cut 9 = .ok (.invokevirtual 50, 3) := by decide +kernel
theorem dL_cut_12 : decode cL_cut 12 = .ok (.i2l, 1) := by decide +kernel
theorem dL_cut_13 : decode cL_cut 13 = .ok (.lastore, 1) := by decide +kernel
theorem dL_cut_14 : decode cL_cut 14 = .ok (.goto 15, 3) := by decide +kernel
theorem dL_cut_17 : decode cL_cut 17 = .ok (.astore 6, 2) := by decide +kernel
theorem dL_cut_19 : decode cL_cut 19 = .ok (.iconst 1, 1) := by decide +kernel
theorem dL_cut_20 : decode cL_cut 20 = .ok (.ireturn, 1) := by decide +kernel
theorem dL_cut_21 : decode cL_cut 21 = .ok (.astore 6, 2) := by decide +kernel
theorem dL_cut_23 : decode cL_cut 23 = .ok (.iconst 2, 1) := by decide +kernel
theorem dL_cut_24 : decode cL_cut 24 = .ok (.ireturn, 1) := by decide +kernel
theorem dL_cut_25 : decode cL_cut 25 = .ok (.astore 6, 2) := by decide +kernel
theorem dL_cut_27 : decode cL_cut 27 = .ok (.iconst 3, 1) := by decide +kernel
theorem dL_cut_28 : decode cL_cut 28 = .ok (.ireturn, 1) := by decide +kernel
theorem dL_cut_29 : decode cL_cut 29 = .ok (.iconst 0, 1) := by decide +kernel
theorem dL_cut_30 : decode cL_cut 30 = .ok (.ireturn, 1) := by decide +kernel
theorem dL_cutSum_0 : decode cL_cutSum 0 = .ok (.aload 5, 2) := by decide +kernel
theorem dL_cutSum_2 : decode cL_cutSum 2 = .ok (.iconst 0, 1) := by decide +kernel
theorem dL_cutSum_3 : decode cL_cutSum 3 = .ok (.aload_n 0, 1) := by decide +kernel
theorem dL_cutSum_4 : decode cL_cutSum 4 = .ok (.iload_n 1, 1) := by decide +kernel
theorem dL_cutSum_5 : decode cL_cutSum 5 = .ok (.iload_n 2, 1) := by decide +kernel
theorem dL_cutSum_6 : decode cL_cutSum 6 = .ok (.iload_n 3, 1) := by decide +kernel
theorem dL_cutSum_7 : decode cL_cutSum 7 = .ok (.iload 4, 2) := by decide +kernel
theorem dL_cutSum_9 : decode cL_cutSum 9 = .ok (.invokevirtual 54, 3) := by decide +kernel
theorem dL_cutSum_12 : decode cL_cutSum 12 = .ok (.i2l, 1) := by decide +kernel
theorem dL_cutSum_13 : decode cL_cutSum 13 = .ok (.lastore, 1) := by decide +kernel
theorem dL_cutSum_14 : decode cL_cutSum 14 = .ok (.goto 11, 3) := by decide +kernel
theorem dL_cutSum_17 : decode cL_cutSum 17 = .ok (.astore 6, 2) := by decide +kernel
theorem dL_cutSum_19 : decode cL_cutSum 19 = .ok (.iconst 1, 1) := by decide +kernel
theorem dL_cutSum_20 : decode cL_cutSum 20 = .ok (.ireturn, 1) := by decide +kernel
theorem dL_cutSum_21 : decode cL_cutSum 21 = .ok (.astore 6, 2) := by decide +kernel
theorem dL_cutSum_23 : decode cL_cutSum 23 = .ok (.iconst 2, 1) := by decide +kernel
theorem dL_cutSum_24 : decode cL_cutSum 24 = .ok (.ireturn, 1) := by decide +kernel
theorem dL_cutSum_25 : decode cL_cutSum 25 = .ok (.iconst 0, 1) := by decide +kernel
theorem dL_cutSum_26 : decode cL_cutSum 26 = .ok (.ireturn, 1) := by decide +kernel
theorem dL_cuts_0 : decode cL_cuts 0 = .ok (.aload 4, 2) := by decide +kernel
theorem dL_cuts_2 : decode cL_cuts 2 = .ok (.iconst 0, 1) := by decide +kernel
theorem dL_cuts_3 : decode cL_cuts 3 = .ok (.aload_n 0, 1) := by decide +kernel
theorem dL_cuts_4 : decode cL_cuts 4 = .ok (.iload_n 1, 1) := by decide +kernel
theorem dL_cuts_5 : decode cL_cuts 5 = .ok (.iload_n 2, 1) := by decide +kernel
theorem dL_cuts_6 : decode cL_cuts 6 = .ok (.iload_n 3, 1) := by decide +kernel
theorem dL_cuts_7 : decode cL_cuts 7 = .ok (.invokevirtual 57, 3) := by decide +kernel
theorem dL_cuts_10 : decode cL_cuts 10 = .ok (.i2l, 1) := by decide +kernel
theorem dL_cuts_11 : decode cL_cuts 11 = .ok (.lastore, 1) := by decide +kernel
theorem dL_cuts_12 : decode cL_cuts 12 = .ok (.goto 15, 3) := by decide +kernel
theorem dL_cuts_15 : decode cL_cuts 15 = .ok (.astore 5, 2) := by decide +kernel
theorem dL_cuts_17 : decode cL_cuts 17 = .ok (.iconst 1, 1) := by decide +kernel
theorem dL_cuts_18 : decode cL_cuts 18 = .ok (.ireturn, 1) := by decide +kernel
theorem dL_cuts_19 : decode cL_cuts 19 = .ok (.astore 5, 2) := by decide +kernel
theorem dL_cuts_21 : decode cL_cuts 21 = .ok (.iconst 2, 1) := by decide +kernel
theorem dL_cuts_22 : decode cL_cuts 22 = .ok (.ireturn, 1) := by decide +kernel
theorem dL_cuts_23 : decode cL_cuts 23 = .ok (.astore 5, 2) := by decide +kernel
theorem dL_cuts_25 : decode cL_cuts 25 = .ok (.iconst 3, 1) := by decide +kernel
theorem dL_cuts_26 : decode cL_cuts 26 = .ok (.ireturn, 1) := by decide +kernel
theorem dL_cuts_27 : decode cL_cuts 27 = .ok (.iconst 0, 1) := by decide +kernel
theorem dL_cuts_28 : decode cL_cuts 28 = .ok (.ireturn, 1) := by decide +kernel
theorem dL_isFull_0 : decode cL_isFull 0 = .ok (.aload 5, 2) := by decide +kernel
theorem dL_isFull_2 : decode cL_isFull 2 = .ok (.iconst 0, 1) := by decide +kernel
theorem dL_isFull_3 : decode cL_isFull 3 = .ok (.aload_n 0, 1) := by decide +kernel
theorem dL_isFull_4 : decode cL_isFull 4 = .ok (.iload_n 1, 1) := by decide +kernel
theorem dL_isFull_5 : decode cL_isFull 5 = .ok (.iload_n 2, 1) := by decide +kernel
theorem dL_isFull_6 : decode cL_isFull 6 = .ok (.iload_n 3, 1) := by decide +kernel
theorem dL_isFull_7 : decode cL_isFull 7 = .ok (.iload 4, 2) := by decide +kernel
theorem dL_isFull_9 : decode cL_isFull 9 = .ok (.invokevirtual 60, 3) := by decide +kernel
theorem dL_isFull_12 : decode cL_isFull 12 = .ok (.ifCond .eq 7, 3) := by decide +kernel
theorem dL_isFull_15 : decode cL_isFull 15 = .ok (.lconst 1, 1) := by decide +kernel
theorem dL_isFull_16 : decode cL_isFull 16 = .ok (.goto 4, 3) := by decide +kernel
theorem dL_isFull_19 : decode cL_isFull 19 = .ok (.lconst 0, 1) := by decide +kernel
theorem dL_isFull_20 : decode cL_isFull 20 = .ok (.lastore, 1) := by decide +kernel
theorem dL_isFull_21 : decode cL_isFull 21 = .ok (.goto 15, 3) := by decide +kernel
theorem dL_isFull_24 : decode cL_isFull 24 = .ok (.astore 6, 2) := by decide +kernel
theorem dL_isFull_26 : decode cL_isFull 26 = .ok (.iconst 1, 1) := by decide +kernel
theorem dL_isFull_27 : decode cL_isFull 27 = .ok (.ireturn, 1) := by decide +kernel
theorem dL_isFull_28 : decode cL_isFull 28 = .ok (.astore 6, 2) := by decide +kernel
theorem dL_isFull_30 : decode cL_isFull 30 = .ok (.iconst 2, 1) := by decide +kernel
theorem dL_isFull_31 : decode cL_isFull 31 = .ok (.ireturn, 1) := by decide +kernel
theorem dL_isFull_32 : decode cL_isFull 32 = .ok (.astore 6, 2) := by decide +kernel
theorem dL_isFull_34 : decode cL_isFull 34 = .ok (.iconst 3, 1) := by decide +kernel
theorem dL_isFull_35 : decode cL_isFull 35 = .ok (.ireturn, 1) := by decide +kernel
theorem dL_isFull_36 : decode cL_isFull 36 = .ok (.iconst 0, 1) := by decide +kernel
theorem dL_isFull_37 : decode cL_isFull 37 = .ok (.ireturn, 1) := by decide +kernel
theorem dL_rounds_0 : decode cL_rounds 0 = .ok (.aload 4, 2) := by decide +kernel
theorem dL_rounds_2 : decode cL_rounds 2 = .ok (.iconst 0, 1) := by decide +kernel
theorem dL_rounds_3 : decode cL_rounds 3 = .ok (.aload_n 0, 1) := by decide +kernel
theorem dL_rounds_4 : decode cL_rounds 4 = .ok (.iload_n 1, 1) := by decide +kernel
theorem dL_rounds_5 : decode cL_rounds 5 = .ok (.iload_n 2, 1) := by decide +kernel
theorem dL_rounds_6 : decode cL_rounds 6 = .ok (.iload_n 3, 1) := by decide +kernel
theorem dL_rounds_7 : decode cL_rounds 7 = .ok (.invokevirtual 64, 3) := by decide +kernel
theorem dL_rounds_10 : decode cL_rounds 10 = .ok (.i2l, 1) := by decide +kernel
theorem dL_rounds_11 : decode cL_rounds 11 = .ok (.lastore, 1) := by decide +kernel
theorem dL_rounds_12 : decode cL_rounds 12 = .ok (.goto 15, 3) := by decide +kernel
theorem dL_rounds_15 : decode cL_rounds 15 = .ok (.astore 5, 2) := by decide +kernel
theorem dL_rounds_17 : decode cL_rounds 17 = .ok (.iconst 1, 1) := by decide +kernel
theorem dL_rounds_18 : decode cL_rounds 18 = .ok (.ireturn, 1) := by decide +kernel
theorem dL_rounds_19 : decode cL_rounds 19 = .ok (.astore 5, 2) := by decide +kernel
theorem dL_rounds_21 : decode cL_rounds 21 = .ok (.iconst 2, 1) := by decide +kernel
theorem dL_rounds_22 : decode cL_rounds 22 = .ok (.ireturn, 1) := by decide +kernel
theorem dL_rounds_23 : decode cL_rounds 23 = .ok (.astore 5, 2) := by decide +kernel
theorem dL_rounds_25 : decode cL_rounds 25 = .ok (.iconst 3, 1) := by decide +kernel
theorem dL_rounds_26 : decode cL_rounds 26 = .ok (.ireturn, 1) := by decide +kernel
theorem dL_rounds_27 : decode cL_rounds 27 = .ok (.iconst 0, 1) := by decide +kernel
theorem dL_rounds_28 : decode cL_rounds 28 = .ok (.ireturn, 1) := by decide +kernel
theorem dL_roundAmount_0 : decode cL_roundAmount 0 = .ok (.aload 5, 2) := by decide +kernel
theorem dL_roundAmount_2 : decode cL_roundAmount 2 = .ok (.iconst 0, 1) := by decide +kernel
theorem dL_roundAmount_3 : decode cL_roundAmount 3 = .ok (.aload_n 0, 1) := by decide +kernel
theorem dL_roundAmount_4 : decode cL_roundAmount 4 = .ok (.iload_n 1, 1) := by decide +kernel
theorem dL_roundAmount_5 : decode cL_roundAmount 5 = .ok (.iload_n 2, 1) := by decide +kernel
theorem dL_roundAmount_6 : decode cL_roundAmount 6 = .ok (.iload_n 3, 1) := by decide +kernel
theorem dL_roundAmount_7 : decode cL_roundAmount 7 = .ok (.iload 4, 2) := by decide +kernel
theorem dL_roundAmount_9 : decode cL_roundAmount 9 = .ok (.invokevirtual 69, 3) := by decide +kernel
theorem dL_roundAmount_12 : decode cL_roundAmount 12 = .ok (.i2l, 1) := by decide +kernel
theorem dL_roundAmount_13 : decode cL_roundAmount 13 = .ok (.lastore, 1) := by decide +kernel
theorem dL_roundAmount_14 : decode cL_roundAmount 14 = .ok (.goto 19, 3) := by decide +kernel
theorem dL_roundAmount_17 : decode cL_roundAmount 17 = .ok (.astore 6, 2) := by decide +kernel
theorem dL_roundAmount_19 : decode cL_roundAmount 19 = .ok (.iconst 1, 1) := by decide +kernel
theorem dL_roundAmount_20 : decode cL_roundAmount 20 = .ok (.ireturn, 1) := by decide +kernel
theorem dL_roundAmount_21 : decode cL_roundAmount 21 = .ok (.astore 6, 2) := by decide +kernel
theorem dL_roundAmount_23 : decode cL_roundAmount 23 = .ok (.iconst 2, 1) := by decide +kernel
theorem dL_roundAmount_24 : decode cL_roundAmount 24 = .ok (.ireturn, 1) := by decide +kernel
theorem dL_roundAmount_25 : decode cL_roundAmount 25 = .ok (.astore 6, 2) := by decide +kernel
theorem dL_roundAmount_27 : decode cL_roundAmount 27 = .ok (.iconst 3, 1) := by decide +kernel
theorem dL_roundAmount_28 : decode cL_roundAmount 28 = .ok (.ireturn, 1) := by decide +kernel
theorem dL_roundAmount_29 : decode cL_roundAmount 29 = .ok (.astore 6, 2) := by decide +kernel
theorem dL_roundAmount_31 : decode cL_roundAmount 31 = .ok (.iconst 4, 1) := by decide +kernel
theorem dL_roundAmount_32 : decode cL_roundAmount 32 = .ok (.ireturn, 1) := by decide +kernel
theorem dL_roundAmount_33 : decode cL_roundAmount 33 = .ok (.iconst 0, 1) := by decide +kernel
theorem dL_roundAmount_34 : decode cL_roundAmount 34 = .ok (.ireturn, 1) := by decide +kernel
theorem dL_roundSign_0 : decode cL_roundSign 0 = .ok (.aload 6, 2) := by decide +kernel
theorem dL_roundSign_2 : decode cL_roundSign 2 = .ok (.iconst 0, 1) := by decide +kernel
theorem dL_roundSign_3 : decode cL_roundSign 3 = .ok (.aload_n 0, 1) := by decide +kernel
theorem dL_roundSign_4 : decode cL_roundSign 4 = .ok (.iload_n 1, 1) := by decide +kernel
theorem dL_roundSign_5 : decode cL_roundSign 5 = .ok (.iload_n 2, 1) := by decide +kernel
theorem dL_roundSign_6 : decode cL_roundSign 6 = .ok (.iload_n 3, 1) := by decide +kernel
theorem dL_roundSign_7 : decode cL_roundSign 7 = .ok (.iload 4, 2) := by decide +kernel
theorem dL_roundSign_9 : decode cL_roundSign 9 = .ok (.iload 5, 2) := by decide +kernel
theorem dL_roundSign_11 : decode cL_roundSign 11 = .ok (.invokevirtual 72, 3) := by decide +kernel
theorem dL_roundSign_14 : decode cL_roundSign 14 = .ok (.i2l, 1) := by decide +kernel
theorem dL_roundSign_15 : decode cL_roundSign 15 = .ok (.lastore, 1) := by decide +kernel
theorem dL_roundSign_16 : decode cL_roundSign 16 = .ok (.goto 19, 3) := by decide +kernel
theorem dL_roundSign_19 : decode cL_roundSign 19 = .ok (.astore 7, 2) := by decide +kernel
theorem dL_roundSign_21 : decode cL_roundSign 21 = .ok (.iconst 1, 1) := by decide +kernel
theorem dL_roundSign_22 : decode cL_roundSign 22 = .ok (.ireturn, 1) := by decide +kernel
theorem dL_roundSign_23 : decode cL_roundSign 23 = .ok (.astore 7, 2) := by decide +kernel
theorem dL_roundSign_25 : decode cL_roundSign 25 = .ok (.iconst 2, 1) := by decide +kernel
theorem dL_roundSign_26 : decode cL_roundSign 26 = .ok (.ireturn, 1) := by decide +kernel
theorem dL_roundSign_27 : decode cL_roundSign 27 = .ok (.astore 7, 2) := by decide +kernel
theorem dL_roundSign_29 : decode cL_roundSign 29 = .ok (.iconst 3, 1) := by decide +kernel
theorem dL_roundSign_30 : decode cL_roundSign 30 = .ok (.ireturn, 1) := by decide +kernel
theorem dL_roundSign_31 : decode cL_roundSign 31 = .ok (.astore 7, 2) := by decide +kernel
theorem dL_roundSign_33 : decode cL_roundSign 33 = .ok (.iconst 4, 1) := by decide +kernel
theorem dL_roundSign_34 : decode cL_roundSign 34 = .ok (.ireturn, 1) := by decide +kernel
theorem dL_roundSign_35 : decode cL_roundSign 35 = .ok (.iconst 0, 1) := by decide +kernel
theorem dL_roundSign_36 : decode cL_roundSign 36 = .ok (.ireturn, 1) := by decide +kernel
theorem dL_cost_0 : decode cL_cost 0 = .ok (.aload 4, 2) := by decide +kernel
theorem dL_cost_2 : decode cL_cost 2 = .ok (.iconst 0, 1) := by decide +kernel
theorem dL_cost_3 : decode cL_cost 3 = .ok (.aload_n 0, 1) := by decide +kernel
theorem dL_cost_4 : decode cL_cost 4 = .ok (.iload_n 1, 1) := by decide +kernel
theorem dL_cost_5 : decode cL_cost 5 = .ok (.iload_n 2, 1) := by decide +kernel
theorem dL_cost_6 : decode cL_cost 6 = .ok (.iload_n 3, 1) := by decide +kernel
theorem dL_cost_7 : decode cL_cost 7 = .ok (.invokevirtual 75, 3) := by decide +kernel
theorem dL_cost_10 : decode cL_cost 10 = .ok (.i2l, 1) := by decide +kernel
theorem dL_cost_11 : decode cL_cost 11 = .ok (.lastore, 1) := by decide +kernel
theorem dL_cost_12 : decode cL_cost 12 = .ok (.goto 15, 3) := by decide +kernel
theorem dL_cost_15 : decode cL_cost 15 = .ok (.astore 5, 2) := by decide +kernel
theorem dL_cost_17 : decode cL_cost 17 = .ok (.iconst 1, 1) := by decide +kernel
theorem dL_cost_18 : decode cL_cost 18 = .ok (.ireturn, 1) := by decide +kernel
theorem dL_cost_19 : decode cL_cost 19 = .ok (.astore 5, 2) := by decide +kernel
theorem dL_cost_21 : decode cL_cost 21 = .ok (.iconst 2, 1) := by decide +kernel
theorem dL_cost_22 : decode cL_cost 22 = .ok (.ireturn, 1) := by decide +kernel
theorem dL_cost_23 : decode cL_cost 23 = .ok (.astore 5, 2) := by decide +kernel
theorem dL_cost_25 : decode cL_cost 25 = .ok (.iconst 3, 1) := by decide +kernel
theorem dL_cost_26 : decode cL_cost 26 = .ok (.ireturn, 1) := by decide +kernel
theorem dL_cost_27 : decode cL_cost 27 = .ok (.iconst 0, 1) := by decide +kernel
theorem dL_cost_28 : decode cL_cost 28 = .ok (.ireturn, 1) := by decide +kernel
theorem dL_cheapest_0 : decode cL_cheapest 0 = .ok (.aload 5, 2) := by decide +kernel
theorem dL_cheapest_2 : decode cL_cheapest 2 = .ok (.iconst 0, 1) := by decide +kernel
theorem dL_cheapest_3 : decode cL_cheapest 3 = .ok (.aload_n 0, 1) := by decide +kernel
theorem dL_cheapest_4 : decode cL_cheapest 4 = .ok (.iload_n 1, 1) := by decide +kernel
theorem dL_cheapest_5 : decode cL_cheapest 5 = .ok (.iload_n 2, 1) := by decide +kernel
theorem dL_cheapest_6 : decode cL_cheapest 6 = .ok (.iload_n 3, 1) := by decide +kernel
theorem dL_cheapest_7 : decode cL_cheapest 7 = .ok (.iload 4, 2) := by decide +kernel
theorem dL_cheapest_9 : decode cL_cheapest 9 = .ok (.invokevirtual 78, 3) := by decide +kernel
theorem dL_cheapest_12 : decode cL_cheapest 12 = .ok (.i2l, 1) := by decide +kernel
theorem dL_cheapest_13 : decode cL_cheapest 13 = .ok (.lastore, 1) := by decide +kernel
theorem dL_cheapest_14 : decode cL_cheapest 14 = .ok (.goto 15, 3) := by decide +kernel
theorem dL_cheapest_17 : decode cL_cheapest 17 = .ok (.astore 6, 2) := by decide +kernel
theorem dL_cheapest_19 : decode cL_cheapest 19 = .ok (.iconst 1, 1) := by decide +kernel
theorem dL_cheapest_20 : decode cL_cheapest 20 = .ok (.ireturn, 1) := by decide +kernel
theorem dL_cheapest_21 : decode cL_cheapest 21 = .ok (.astore 6, 2) := by decide +kernel
theorem dL_cheapest_23 : decode cL_cheapest 23 = .ok (.iconst 2, 1) := by decide +kernel
theorem dL_cheapest_24 : decode cL_cheapest 24 = .ok (.ireturn, 1) := by decide +kernel
theorem dL_cheapest_25 : decode cL_cheapest 25 = .ok (.astore 6, 2) := by decide +kernel
theorem dL_cheapest_27 : decode cL_cheapest 27 = .ok (.iconst 3, 1) := by decide +kernel
theorem dL_cheapest_28 : decode cL_cheapest 28 = .ok (.ireturn, 1) := by decide +kernel
theorem dL_cheapest_29 : decode cL_cheapest 29 = .ok (.iconst 0, 1) := by decide +kernel
theorem dL_cheapest_30 : decode cL_cheapest 30 = .ok (.ireturn, 1) := by decide +kernel
theorem dL_price_0 : decode cL_price 0 = .ok (.aload 5, 2) := by decide +kernel
theorem dL_price_2 : decode cL_price 2 = .ok (.iconst 0, 1) := by decide +kernel
theorem dL_price_3 : decode cL_price 3 = .ok (.aload_n 0, 1) := by decide +kernel
theorem dL_price_4 : decode cL_price 4 = .ok (.iload_n 1, 1) := by decide +kernel
theorem dL_price_5 : decode cL_price 5 = .ok (.iload_n 2, 1) := by decide +kernel
theorem dL_price_6 : decode cL_price 6 = .ok (.iload_n 3, 1) := by decide +kernel
theorem dL_price_7 : decode cL_price 7 = .ok (.iload 4, 2) := by decide +kernel
theorem dL_price_9 : decode cL_price 9 = .ok (.invokevirtual 81, 3) := by decide +kernel
theorem dL_price_12 : decode cL_price 12 = .ok (.i2l, 1) := by decide +kernel
theorem dL_price_13 : decode cL_price 13 = .ok (.lastore, 1) := by decide +kernel
theorem dL_price_14 : decode cL_price 14 = .ok (.goto 15, 3) := by decide +kernel
theorem dL_price_17 : decode cL_price 17 = .ok (.astore 6, 2) := by decide +kernel
theorem dL_price_19 : decode cL_price 19 = .ok (.iconst 1, 1) := by decide +kernel
theorem dL_price_20 : decode cL_price 20 = .ok (.ireturn, 1) := by decide +kernel
theorem dL_price_21 : decode cL_price 21 = .ok (.astore 6, 2) := by decide +kernel
theorem dL_price_23 : decode cL_price 23 = .ok (.iconst 2, 1) := by decide +kernel
theorem dL_price_24 : decode cL_price 24 = .ok (.ireturn, 1) := by decide +kernel
theorem dL_price_25 : decode cL_price 25 = .ok (.astore 6, 2) := by decide +kernel
theorem dL_price_27 : decode cL_price 27 = .ok (.iconst 3, 1) := by decide +kernel
theorem dL_price_28 : decode cL_price 28 = .ok (.ireturn, 1) := by decide +kernel
theorem dL_price_29 : decode cL_price 29 = .ok (.iconst 0, 1) := by decide +kernel
theorem dL_price_30 : decode cL_price 30 = .ok (.ireturn, 1) := by decide +kernel
theorem dL_edgeWays_0 : decode cL_edgeWays 0 = .ok (.aload 4, 2) := by decide +kernel
theorem dL_edgeWays_2 : decode cL_edgeWays 2 = .ok (.iconst 0, 1) := by decide +kernel
theorem dL_edgeWays_3 : decode cL_edgeWays 3 = .ok (.aload_n 0, 1) := by decide +kernel
theorem dL_edgeWays_4 : decode cL_edgeWays 4 = .ok (.iload_n 1, 1) := by decide +kernel
theorem dL_edgeWays_5 : decode cL_edgeWays 5 = .ok (.iload_n 2, 1) := by decide +kernel
theorem dL_edgeWays_6 : decode cL_edgeWays 6 = .ok (.iload_n 3, 1) := by decide +kernel
theorem dL_edgeWays_7 : decode cL_edgeWays 7 = .ok (.invokevirtual 84, 3) := by decide +kernel
theorem dL_edgeWays_10 : decode cL_edgeWays 10 = .ok (.i2l, 1) := by decide +kernel
theorem dL_edgeWays_11 : decode cL_edgeWays 11 = .ok (.lastore, 1) := by decide +kernel
theorem dL_edgeWays_12 : decode cL_edgeWays 12 = .ok (.goto 11, 3) := by decide +kernel
theorem dL_edgeWays_15 : decode cL_edgeWays 15 = .ok (.astore 5, 2) := by decide +kernel
theorem dL_edgeWays_17 : decode cL_edgeWays 17 = .ok (.iconst 1, 1) := by decide +kernel
theorem dL_edgeWays_18 : decode cL_edgeWays 18 = .ok (.ireturn, 1) := by decide +kernel
theorem dL_edgeWays_19 : decode cL_edgeWays 19 = .ok (.astore 5, 2) := by decide +kernel
theorem dL_edgeWays_21 : decode cL_edgeWays 21 = .ok (.iconst 2, 1) := by decide +kernel
theorem dL_edgeWays_22 : decode cL_edgeWays 22 = .ok (.ireturn, 1) := by decide +kernel
theorem dL_edgeWays_23 : decode cL_edgeWays 23 = .ok (.iconst 0, 1) := by decide +kernel
theorem dL_edgeWays_24 : decode cL_edgeWays 24 = .ok (.ireturn, 1) := by decide +kernel
theorem dL_cornerWays_0 : decode cL_cornerWays 0 = .ok (.aload 4, 2) := by decide +kernel
theorem dL_cornerWays_2 : decode cL_cornerWays 2 = .ok (.iconst 0, 1) := by decide +kernel
theorem dL_cornerWays_3 : decode cL_cornerWays 3 = .ok (.aload_n 0, 1) := by decide +kernel
theorem dL_cornerWays_4 : decode cL_cornerWays 4 = .ok (.iload_n 1, 1) := by decide +kernel
theorem dL_cornerWays_5 : decode cL_cornerWays 5 = .ok (.iload_n 2, 1) := by decide +kernel
theorem dL_cornerWays_6 : decode cL_cornerWays 6 = .ok (.iload_n 3, 1) := by decide +kernel
theorem dL_cornerWays_7 : decode cL_cornerWays 7 = .ok (.invokevirtual 87, 3) := by decide +kernel
theorem dL_cornerWays_10 : decode cL_cornerWays 10 = .ok (.i2l, 1) := by decide +kernel
theorem dL_cornerWays_11 : decode cL_cornerWays 11 = .ok (.lastore, 1) := by decide +kernel
theorem dL_cornerWays_12 : decode cL_cornerWays 12 = .ok (.goto 11, 3) := by decide +kernel
theorem dL_cornerWays_15 : decode cL_cornerWays 15 = .ok (.astore 5, 2) := by decide +kernel
theorem dL_cornerWays_17 : decode cL_cornerWays 17 = .ok (.iconst 1, 1) := by decide +kernel
theorem dL_cornerWays_18 : decode cL_cornerWays 18 = .ok (.ireturn, 1) := by decide +kernel
theorem dL_cornerWays_19 : decode cL_cornerWays 19 = .ok (.astore 5, 2) := by decide +kernel
theorem dL_cornerWays_21 : decode cL_cornerWays 21 = .ok (.iconst 2, 1) := by decide +kernel
theorem dL_cornerWays_22 : decode cL_cornerWays 22 = .ok (.ireturn, 1) := by decide +kernel
theorem dL_cornerWays_23 : decode cL_cornerWays 23 = .ok (.iconst 0, 1) := by decide +kernel
theorem dL_cornerWays_24 : decode cL_cornerWays 24 = .ok (.ireturn, 1) := by decide +kernel
theorem dL_apart_0 : decode cL_apart 0 = .ok (.aload 4, 2) := by decide +kernel
theorem dL_apart_2 : decode cL_apart 2 = .ok (.iconst 0, 1) := by decide +kernel
theorem dL_apart_3 : decode cL_apart 3 = .ok (.aload_n 0, 1) := by decide +kernel
theorem dL_apart_4 : decode cL_apart 4 = .ok (.iload_n 1, 1) := by decide +kernel
theorem dL_apart_5 : decode cL_apart 5 = .ok (.iload_n 2, 1) := by decide +kernel
theorem dL_apart_6 : decode cL_apart 6 = .ok (.iload_n 3, 1) := by decide +kernel
theorem dL_apart_7 : decode cL_apart 7 = .ok (.invokevirtual 90, 3) := by decide +kernel
theorem dL_apart_10 : decode cL_apart 10 = .ok (.i2l, 1) := by decide +kernel
theorem dL_apart_11 : decode cL_apart 11 = .ok (.lastore, 1) := by decide +kernel
theorem dL_apart_12 : decode cL_apart 12 = .ok (.goto 15, 3) := by decide +kernel
theorem dL_apart_15 : decode cL_apart 15 = .ok (.astore 5, 2) := by decide +kernel
theorem dL_apart_17 : decode cL_apart 17 = .ok (.iconst 1, 1) := by decide +kernel
theorem dL_apart_18 : decode cL_apart 18 = .ok (.ireturn, 1) := by decide +kernel
theorem dL_apart_19 : decode cL_apart 19 = .ok (.astore 5, 2) := by decide +kernel
theorem dL_apart_21 : decode cL_apart 21 = .ok (.iconst 2, 1) := by decide +kernel
theorem dL_apart_22 : decode cL_apart 22 = .ok (.ireturn, 1) := by decide +kernel
theorem dL_apart_23 : decode cL_apart 23 = .ok (.astore 5, 2) := by decide +kernel
theorem dL_apart_25 : decode cL_apart 25 = .ok (.iconst 3, 1) := by decide +kernel
theorem dL_apart_26 : decode cL_apart 26 = .ok (.ireturn, 1) := by decide +kernel
theorem dL_apart_27 : decode cL_apart 27 = .ok (.iconst 0, 1) := by decide +kernel
theorem dL_apart_28 : decode cL_apart 28 = .ok (.ireturn, 1) := by decide +kernel
theorem dL_wider_0 : decode cL_wider 0 = .ok (.aload 5, 2) := by decide +kernel
theorem dL_wider_2 : decode cL_wider 2 = .ok (.iconst 0, 1) := by decide +kernel
theorem dL_wider_3 : decode cL_wider 3 = .ok (.aload_n 0, 1) := by decide +kernel
theorem dL_wider_4 : decode cL_wider 4 = .ok (.iload_n 1, 1) := by decide +kernel
theorem dL_wider_5 : decode cL_wider 5 = .ok (.iload_n 2, 1) := by decide +kernel
theorem dL_wider_6 : decode cL_wider 6 = .ok (.iload_n 3, 1) := by decide +kernel
theorem dL_wider_7 : decode cL_wider 7 = .ok (.iload 4, 2) := by decide +kernel
theorem dL_wider_9 : decode cL_wider 9 = .ok (.invokevirtual 93, 3) := by decide +kernel
theorem dL_wider_12 : decode cL_wider 12 = .ok (.i2l, 1) := by decide +kernel
theorem dL_wider_13 : decode cL_wider 13 = .ok (.lastore, 1) := by decide +kernel
theorem dL_wider_14 : decode cL_wider 14 = .ok (.goto 15, 3) := by decide +kernel
theorem dL_wider_17 : decode cL_wider 17 = .ok (.astore 6, 2) := by decide +kernel
theorem dL_wider_19 : decode cL_wider 19 = .ok (.iconst 1, 1) := by decide +kernel
theorem dL_wider_20 : decode cL_wider 20 = .ok (.ireturn, 1) := by decide +kernel
theorem dL_wider_21 : decode cL_wider 21 = .ok (.astore 6, 2) := by decide +kernel
theorem dL_wider_23 : decode cL_wider 23 = .ok (.iconst 2, 1) := by decide +kernel
theorem dL_wider_24 : decode cL_wider 24 = .ok (.ireturn, 1) := by decide +kernel
theorem dL_wider_25 : decode cL_wider 25 = .ok (.astore 6, 2) := by decide +kernel
theorem dL_wider_27 : decode cL_wider 27 = .ok (.iconst 3, 1) := by decide +kernel
theorem dL_wider_28 : decode cL_wider 28 = .ok (.ireturn, 1) := by decide +kernel
theorem dL_wider_29 : decode cL_wider 29 = .ok (.iconst 0, 1) := by decide +kernel
theorem dL_wider_30 : decode cL_wider 30 = .ok (.ireturn, 1) := by decide +kernel
theorem dL_without_0 : decode cL_without 0 = .ok (.aload 5, 2) := by decide +kernel
theorem dL_without_2 : decode cL_without 2 = .ok (.iconst 0, 1) := by decide +kernel
theorem dL_without_3 : decode cL_without 3 = .ok (.aload_n 0, 1) := by decide +kernel
theorem dL_without_4 : decode cL_without 4 = .ok (.iload_n 1, 1) := by decide +kernel
theorem dL_without_5 : decode cL_without 5 = .ok (.iload_n 2, 1) := by decide +kernel
theorem dL_without_6 : decode cL_without 6 = .ok (.iload_n 3, 1) := by decide +kernel
theorem dL_without_7 : decode cL_without 7 = .ok (.iload 4, 2) := by decide +kernel
theorem dL_without_9 : decode cL_without 9 = .ok (.invokevirtual 96, 3) := by decide +kernel
theorem dL_without_12 : decode cL_without 12 = .ok (.i2l, 1) := by decide +kernel
theorem dL_without_13 : decode cL_without 13 = .ok (.lastore, 1) := by decide +kernel
theorem dL_without_14 : decode cL_without 14 = .ok (.goto 15, 3) := by decide +kernel
theorem dL_without_17 : decode cL_without 17 = .ok (.astore 6, 2) := by decide +kernel
theorem dL_without_19 : decode cL_without 19 = .ok (.iconst 1, 1) := by decide +kernel
theorem dL_without_20 : decode cL_without 20 = .ok (.ireturn, 1) := by decide +kernel
theorem dL_without_21 : decode cL_without 21 = .ok (.astore 6, 2) := by decide +kernel
theorem dL_without_23 : decode cL_without 23 = .ok (.iconst 2, 1) := by decide +kernel
theorem dL_without_24 : decode cL_without 24 = .ok (.ireturn, 1) := by decide +kernel
theorem dL_without_25 : decode cL_without 25 = .ok (.astore 6, 2) := by decide +kernel
theorem dL_without_27 : decode cL_without 27 = .ok (.iconst 3, 1) := by decide +kernel
theorem dL_without_28 : decode cL_without 28 = .ok (.ireturn, 1) := by decide +kernel
theorem dL_without_29 : decode cL_without 29 = .ok (.iconst 0, 1) := by decide +kernel
theorem dL_without_30 : decode cL_without 30 = .ok (.ireturn, 1) := by decide +kernel
theorem dL_holds_0 : decode cL_holds 0 = .ok (.aload_n 2, 1) := by decide +kernel
theorem dL_holds_1 : decode cL_holds 1 = .ok (.iconst 0, 1) := by decide +kernel
theorem dL_holds_2 : decode cL_holds 2 = .ok (.aload_n 0, 1) := by decide +kernel
theorem dL_holds_3 : decode cL_holds 3 = .ok (.iload_n 1, 1) := by decide +kernel
theorem dL_holds_4 : decode cL_holds 4 = .ok (.invokevirtual 99, 3) := by decide +kernel
theorem dL_holds_7 : decode cL_holds 7 = .ok (.ifCond .eq 7, 3) := by decide +kernel
theorem dL_holds_10 : decode cL_holds 10 = .ok (.lconst 1, 1) := by decide +kernel
theorem dL_holds_11 : decode cL_holds 11 = .ok (.goto 4, 3) := by decide +kernel
theorem dL_holds_14 : decode cL_holds 14 = .ok (.lconst 0, 1) := by decide +kernel
theorem dL_holds_15 : decode cL_holds 15 = .ok (.lastore, 1) := by decide +kernel
theorem dL_holds_16 : decode cL_holds 16 = .ok (.goto 6, 3) := by decide +kernel
theorem dL_holds_19 : decode cL_holds 19 = .ok (.astore_n 3, 1) := by decide +kernel
theorem dL_holds_20 : decode cL_holds 20 = .ok (.iconst 1, 1) := by decide +kernel
theorem dL_holds_21 : decode cL_holds 21 = .ok (.ireturn, 1) := by decide +kernel
theorem dL_holds_22 : decode cL_holds 22 = .ok (.iconst 0, 1) := by decide +kernel
theorem dL_holds_23 : decode cL_holds 23 = .ok (.ireturn, 1) := by decide +kernel
theorem dL_meets_0 : decode cL_meets 0 = .ok (.aload_n 3, 1) := by decide +kernel
theorem dL_meets_1 : decode cL_meets 1 = .ok (.iconst 0, 1) := by decide +kernel
theorem dL_meets_2 : decode cL_meets 2 = .ok (.aload_n 0, 1) := by decide +kernel
theorem dL_meets_3 : decode cL_meets 3 = .ok (.iload_n 1, 1) := by decide +kernel
theorem dL_meets_4 : decode cL_meets 4 = .ok (.iload_n 2, 1) := by decide +kernel
theorem dL_meets_5 : decode cL_meets 5 = .ok (.invokevirtual 103, 3) := by decide +kernel
theorem dL_meets_8 : decode cL_meets 8 = .ok (.i2l, 1) := by decide +kernel
theorem dL_meets_9 : decode cL_meets 9 = .ok (.lastore, 1) := by decide +kernel
theorem dL_meets_10 : decode cL_meets 10 = .ok (.goto 11, 3) := by decide +kernel
theorem dL_meets_13 : decode cL_meets 13 = .ok (.astore 4, 2) := by decide +kernel
theorem dL_meets_15 : decode cL_meets 15 = .ok (.iconst 1, 1) := by decide +kernel
theorem dL_meets_16 : decode cL_meets 16 = .ok (.ireturn, 1) := by decide +kernel
theorem dL_meets_17 : decode cL_meets 17 = .ok (.astore 4, 2) := by decide +kernel
theorem dL_meets_19 : decode cL_meets 19 = .ok (.iconst 2, 1) := by decide +kernel
theorem dL_meets_20 : decode cL_meets 20 = .ok (.ireturn, 1) := by decide +kernel
theorem dL_meets_21 : decode cL_meets 21 = .ok (.iconst 0, 1) := by decide +kernel
theorem dL_meets_22 : decode cL_meets 22 = .ok (.ireturn, 1) := by decide +kernel
theorem dL_breaks_0 : decode cL_breaks 0 = .ok (.aload_n 2, 1) := by decide +kernel
theorem dL_breaks_1 : decode cL_breaks 1 = .ok (.iconst 0, 1) := by decide +kernel
theorem dL_breaks_2 : decode cL_breaks 2 = .ok (.aload_n 0, 1) := by decide +kernel
theorem dL_breaks_3 : decode cL_breaks 3 = .ok (.iload_n 1, 1) := by decide +kernel
theorem dL_breaks_4 : decode cL_breaks 4 = .ok (.invokevirtual 106, 3) := by decide +kernel
theorem dL_breaks_7 : decode cL_breaks 7 = .ok (.i2l, 1) := by decide +kernel
theorem dL_breaks_8 : decode cL_breaks 8 = .ok (.lastore, 1) := by decide +kernel
theorem dL_breaks_9 : decode cL_breaks 9 = .ok (.goto 9, 3) := by decide +kernel
theorem dL_breaks_12 : decode cL_breaks 12 = .ok (.astore_n 3, 1) := by decide +kernel
theorem dL_breaks_13 : decode cL_breaks 13 = .ok (.iconst 1, 1) := by decide +kernel
theorem dL_breaks_14 : decode cL_breaks 14 = .ok (.ireturn, 1) := by decide +kernel
theorem dL_breaks_15 : decode cL_breaks 15 = .ok (.astore_n 3, 1) := by decide +kernel
theorem dL_breaks_16 : decode cL_breaks 16 = .ok (.iconst 2, 1) := by decide +kernel
theorem dL_breaks_17 : decode cL_breaks 17 = .ok (.ireturn, 1) := by decide +kernel
theorem dL_breaks_18 : decode cL_breaks 18 = .ok (.iconst 0, 1) := by decide +kernel
theorem dL_breaks_19 : decode cL_breaks 19 = .ok (.ireturn, 1) := by decide +kernel
theorem dL_parent_0 : decode cL_parent 0 = .ok (.aload_n 3, 1) := by decide +kernel
theorem dL_parent_1 : decode cL_parent 1 = .ok (.iconst 0, 1) := by decide +kernel
theorem dL_parent_2 : decode cL_parent 2 = .ok (.aload_n 0, 1) := by decide +kernel
theorem dL_parent_3 : decode cL_parent 3 = .ok (.iload_n 1, 1) := by decide +kernel
theorem dL_parent_4 : decode cL_parent 4 = .ok (.iload_n 2, 1) := by decide +kernel
theorem dL_parent_5 : decode cL_parent 5 = .ok (.invokevirtual 109, 3) := by decide +kernel
theorem dL_parent_8 : decode cL_parent 8 = .ok (.i2l, 1) := by decide +kernel
theorem dL_parent_9 : decode cL_parent 9 = .ok (.lastore, 1) := by decide +kernel
theorem dL_parent_10 : decode cL_parent 10 = .ok (.goto 11, 3) := by decide +kernel
theorem dL_parent_13 : decode cL_parent 13 = .ok (.astore 4, 2) := by decide +kernel
theorem dL_parent_15 : decode cL_parent 15 = .ok (.iconst 1, 1) := by decide +kernel
theorem dL_parent_16 : decode cL_parent 16 = .ok (.ireturn, 1) := by decide +kernel
theorem dL_parent_17 : decode cL_parent 17 = .ok (.astore 4, 2) := by decide +kernel
theorem dL_parent_19 : decode cL_parent 19 = .ok (.iconst 2, 1) := by decide +kernel
theorem dL_parent_20 : decode cL_parent 20 = .ok (.ireturn, 1) := by decide +kernel
theorem dL_parent_21 : decode cL_parent 21 = .ok (.iconst 0, 1) := by decide +kernel
theorem dL_parent_22 : decode cL_parent 22 = .ok (.ireturn, 1) := by decide +kernel
theorem dL_between_0 : decode cL_between 0 = .ok (.aload 4, 2) := by decide +kernel
theorem dL_between_2 : decode cL_between 2 = .ok (.iconst 0, 1) := by decide +kernel
theorem dL_between_3 : decode cL_between 3 = .ok (.aload_n 0, 1) := by decide +kernel
theorem dL_between_4 : decode cL_between 4 = .ok (.iload_n 1, 1) := by decide +kernel
theorem dL_between_5 : decode cL_between 5 = .ok (.iload_n 2, 1) := by decide +kernel
theorem dL_between_6 : decode cL_between 6 = .ok (.iload_n 3, 1) := by decide +kernel
theorem dL_between_7 : decode cL_between 7 = .ok (.invokevirtual 112, 3) := by decide +kernel
theorem dL_between_10 : decode cL_between 10 = .ok (.i2l, 1) := by decide +kernel
theorem dL_between_11 : decode cL_between 11 = .ok (.lastore, 1) := by decide +kernel
theorem dL_between_12 : decode cL_between 12 = .ok (.goto 11, 3) := by decide +kernel
theorem dL_between_15 : decode cL_between 15 = .ok (.astore 5, 2) := by decide +kernel
theorem dL_between_17 : decode cL_between 17 = .ok (.iconst 1, 1) := by decide +kernel
theorem dL_between_18 : decode cL_between 18 = .ok (.ireturn, 1) := by decide +kernel
theorem dL_between_19 : decode cL_between 19 = .ok (.astore 5, 2) := by decide +kernel
theorem dL_between_21 : decode cL_between 21 = .ok (.iconst 2, 1) := by decide +kernel
theorem dL_between_22 : decode cL_between 22 = .ok (.ireturn, 1) := by decide +kernel
theorem dL_between_23 : decode cL_between 23 = .ok (.iconst 0, 1) := by decide +kernel
theorem dL_between_24 : decode cL_between 24 = .ok (.ireturn, 1) := by decide +kernel
theorem dL_inSteps_0 : decode cL_inSteps 0 = .ok (.aload 5, 2) := by decide +kernel
theorem dL_inSteps_2 : decode cL_inSteps 2 = .ok (.iconst 0, 1) := by decide +kernel
theorem dL_inSteps_3 : decode cL_inSteps 3 = .ok (.aload_n 0, 1) := by decide +kernel
theorem dL_inSteps_4 : decode cL_inSteps 4 = .ok (.iload_n 1, 1) := by decide +kernel
theorem dL_inSteps_5 : decode cL_inSteps 5 = .ok (.iload_n 2, 1) := by decide +kernel
theorem dL_inSteps_6 : decode cL_inSteps 6 = .ok (.iload_n 3, 1) := by decide +kernel
theorem dL_inSteps_7 : decode cL_inSteps 7 = .ok (.iload 4, 2) := by decide +kernel
theorem dL_inSteps_9 : decode cL_inSteps 9 = .ok (.invokevirtual 115, 3) := by decide +kernel
theorem dL_inSteps_12 : decode cL_inSteps 12 = .ok (.i2l, 1) := by decide +kernel
theorem dL_inSteps_13 : decode cL_inSteps 13 = .ok (.lastore, 1) := by decide +kernel
theorem dL_inSteps_14 : decode cL_inSteps 14 = .ok (.goto 11, 3) := by decide +kernel
theorem dL_inSteps_17 : decode cL_inSteps 17 = .ok (.astore 6, 2) := by decide +kernel
theorem dL_inSteps_19 : decode cL_inSteps 19 = .ok (.iconst 1, 1) := by decide +kernel
theorem dL_inSteps_20 : decode cL_inSteps 20 = .ok (.ireturn, 1) := by decide +kernel
theorem dL_inSteps_21 : decode cL_inSteps 21 = .ok (.astore 6, 2) := by decide +kernel
theorem dL_inSteps_23 : decode cL_inSteps 23 = .ok (.iconst 2, 1) := by decide +kernel
theorem dL_inSteps_24 : decode cL_inSteps 24 = .ok (.ireturn, 1) := by decide +kernel
theorem dL_inSteps_25 : decode cL_inSteps 25 = .ok (.iconst 0, 1) := by decide +kernel
theorem dL_inSteps_26 : decode cL_inSteps 26 = .ok (.ireturn, 1) := by decide +kernel
theorem dL_likes_0 : decode cL_likes 0 = .ok (.aload_n 3, 1) := by decide +kernel
theorem dL_likes_1 : decode cL_likes 1 = .ok (.iconst 0, 1) := by decide +kernel
theorem dL_likes_2 : decode cL_likes 2 = .ok (.aload_n 0, 1) := by decide +kernel
theorem dL_likes_3 : decode cL_likes 3 = .ok (.iload_n 1, 1) := by decide +kernel
theorem dL_likes_4 : decode cL_likes 4 = .ok (.iload_n 2, 1) := by decide +kernel
theorem dL_likes_5 : decode cL_likes 5 = .ok (.invokevirtual 118, 3) := by decide +kernel
theorem dL_likes_8 : decode cL_likes 8 = .ok (.i2l, 1) := by decide +kernel
theorem dL_likes_9 : decode cL_likes 9 = .ok (.lastore, 1) := by decide +kernel
theorem dL_likes_10 : decode cL_likes 10 = .ok (.goto 11, 3) := by decide +kernel
theorem dL_likes_13 : decode cL_likes 13 = .ok (.astore 4, 2) := by decide +kernel
theorem dL_likes_15 : decode cL_likes 15 = .ok (.iconst 1, 1) := by decide +kernel
theorem dL_likes_16 : decode cL_likes 16 = .ok (.ireturn, 1) := by decide +kernel
theorem dL_likes_17 : decode cL_likes 17 = .ok (.astore 4, 2) := by decide +kernel
theorem dL_likes_19 : decode cL_likes 19 = .ok (.iconst 2, 1) := by decide +kernel
theorem dL_likes_20 : decode cL_likes 20 = .ok (.ireturn, 1) := by decide +kernel
theorem dL_likes_21 : decode cL_likes 21 = .ok (.iconst 0, 1) := by decide +kernel
theorem dL_likes_22 : decode cL_likes 22 = .ok (.ireturn, 1) := by decide +kernel
theorem dL_pairOf_0 : decode cL_pairOf 0 = .ok (.aload_n 2, 1) := by decide +kernel
theorem dL_pairOf_1 : decode cL_pairOf 1 = .ok (.iconst 0, 1) := by decide +kernel
theorem dL_pairOf_2 : decode cL_pairOf 2 = .ok (.aload_n 0, 1) := by decide +kernel
theorem dL_pairOf_3 : decode cL_pairOf 3 = .ok (.iload_n 1, 1) := by decide +kernel
theorem dL_pairOf_4 : decode cL_pairOf 4 = .ok (.invokevirtual 121, 3) := by decide +kernel
theorem dL_pairOf_7 : decode cL_pairOf 7 = .ok (.i2l, 1) := by decide +kernel
theorem dL_pairOf_8 : decode cL_pairOf 8 = .ok (.lastore, 1) := by decide +kernel
theorem dL_pairOf_9 : decode cL_pairOf 9 = .ok (.goto 9, 3) := by decide +kernel
theorem dL_pairOf_12 : decode cL_pairOf 12 = .ok (.astore_n 3, 1) := by decide +kernel
theorem dL_pairOf_13 : decode cL_pairOf 13 = .ok (.iconst 1, 1) := by decide +kernel
theorem dL_pairOf_14 : decode cL_pairOf 14 = .ok (.ireturn, 1) := by decide +kernel
theorem dL_pairOf_15 : decode cL_pairOf 15 = .ok (.astore_n 3, 1) := by decide +kernel
theorem dL_pairOf_16 : decode cL_pairOf 16 = .ok (.iconst 2, 1) := by decide +kernel
theorem dL_pairOf_17 : decode cL_pairOf 17 = .ok (.ireturn, 1) := by decide +kernel
theorem dL_pairOf_18 : decode cL_pairOf 18 = .ok (.iconst 0, 1) := by decide +kernel
theorem dL_pairOf_19 : decode cL_pairOf 19 = .ok (.ireturn, 1) := by decide +kernel
theorem dL_crowdOfLeft_0 : decode cL_crowdOfLeft 0 = .ok (.aload_n 1, 1) := by decide +kernel
theorem dL_crowdOfLeft_1 : decode cL_crowdOfLeft 1 = .ok (.iconst 0, 1) := by decide +kernel
theorem dL_crowdOfLeft_2 : decode cL_crowdOfLeft 2 = .ok (.aload_n 0, 1) := by decide +kernel
theorem dL_crowdOfLeft_3 : decode cL_crowdOfLeft 3 = .ok (.invokevirtual 124, 3) := by decide +kernel
theorem dL_crowdOfLeft_6 : decode cL_crowdOfLeft 6 = .ok (.i2l, 1) := by decide +kernel
theorem dL_crowdOfLeft_7 : decode cL_crowdOfLeft 7 = .ok (.lastore, 1) := by decide +kernel
theorem dL_crowdOfLeft_8 : decode cL_crowdOfLeft 8 = .ok (.goto 6, 3) := by decide +kernel
theorem dL_crowdOfLeft_11 : decode cL_crowdOfLeft 11 = .ok (.astore_n 2, 1) := by decide +kernel
theorem dL_crowdOfLeft_12 : decode cL_crowdOfLeft 12 = .ok (.iconst 1, 1) := by decide +kernel
theorem dL_crowdOfLeft_13 : decode cL_crowdOfLeft 13 = .ok (.ireturn, 1) := by decide +kernel
theorem dL_crowdOfLeft_14 : decode cL_crowdOfLeft 14 = .ok (.iconst 0, 1) := by decide +kernel
theorem dL_crowdOfLeft_15 : decode cL_crowdOfLeft 15 = .ok (.ireturn, 1) := by decide +kernel
theorem dL_team_0 : decode cL_team 0 = .ok (.aload_n 2, 1) := by decide +kernel
theorem dL_team_1 : decode cL_team 1 = .ok (.iconst 0, 1) := by decide +kernel
theorem dL_team_2 : decode cL_team 2 = .ok (.aload_n 0, 1) := by decide +kernel
theorem dL_team_3 : decode cL_team 3 = .ok (.iload_n 1, 1) := by decide +kernel
theorem dL_team_4 : decode cL_team 4 = .ok (.invokevirtual 128, 3) := by decide +kernel
theorem dL_team_7 : decode cL_team 7 = .ok (.i2l, 1) := by decide +kernel
theorem dL_team_8 : decode cL_team 8 = .ok (.lastore, 1) := by decide +kernel
theorem dL_team_9 : decode cL_team 9 = .ok (.goto 9, 3) := by decide +kernel
theorem dL_team_12 : decode cL_team 12 = .ok (.astore_n 3, 1) := by decide +kernel
theorem dL_team_13 : decode cL_team 13 = .ok (.iconst 1, 1) := by decide +kernel
theorem dL_team_14 : decode cL_team 14 = .ok (.ireturn, 1) := by decide +kernel
theorem dL_team_15 : decode cL_team 15 = .ok (.astore_n 3, 1) := by decide +kernel
theorem dL_team_16 : decode cL_team 16 = .ok (.iconst 2, 1) := by decide +kernel
theorem dL_team_17 : decode cL_team 17 = .ok (.ireturn, 1) := by decide +kernel
theorem dL_team_18 : decode cL_team 18 = .ok (.iconst 0, 1) := by decide +kernel
theorem dL_team_19 : decode cL_team 19 = .ok (.ireturn, 1) := by decide +kernel
theorem dL_games_0 : decode cL_games 0 = .ok (.aload 4, 2) := by decide +kernel
theorem dL_games_2 : decode cL_games 2 = .ok (.iconst 0, 1) := by decide +kernel
theorem dL_games_3 : decode cL_games 3 = .ok (.aload_n 0, 1) := by decide +kernel
theorem dL_games_4 : decode cL_games 4 = .ok (.iload_n 1, 1) := by decide +kernel
theorem dL_games_5 : decode cL_games 5 = .ok (.iload_n 2, 1) := by decide +kernel
theorem dL_games_6 : decode cL_games 6 = .ok (.iload_n 3, 1) := by decide +kernel
theorem dL_games_7 : decode cL_games 7 = .ok (.invokevirtual 131, 3) := by decide +kernel
theorem dL_games_10 : decode cL_games 10 = .ok (.i2l, 1) := by decide +kernel
theorem dL_games_11 : decode cL_games 11 = .ok (.lastore, 1) := by decide +kernel
theorem dL_games_12 : decode cL_games 12 = .ok (.goto 11, 3) := by decide +kernel
theorem dL_games_15 : decode cL_games 15 = .ok (.astore 5, 2) := by decide +kernel
theorem dL_games_17 : decode cL_games 17 = .ok (.iconst 1, 1) := by decide +kernel
theorem dL_games_18 : decode cL_games 18 = .ok (.ireturn, 1) := by decide +kernel
theorem dL_games_19 : decode cL_games 19 = .ok (.astore 5, 2) := by decide +kernel
theorem dL_games_21 : decode cL_games 21 = .ok (.iconst 2, 1) := by decide +kernel
theorem dL_games_22 : decode cL_games 22 = .ok (.ireturn, 1) := by decide +kernel
theorem dL_games_23 : decode cL_games 23 = .ok (.iconst 0, 1) := by decide +kernel
theorem dL_games_24 : decode cL_games 24 = .ok (.ireturn, 1) := by decide +kernel
theorem dL_canWin_0 : decode cL_canWin 0 = .ok (.aload_n 2, 1) := by decide +kernel
theorem dL_canWin_1 : decode cL_canWin 1 = .ok (.iconst 0, 1) := by decide +kernel
theorem dL_canWin_2 : decode cL_canWin 2 = .ok (.aload_n 0, 1) := by decide +kernel
theorem dL_canWin_3 : decode cL_canWin 3 = .ok (.iload_n 1, 1) := by decide +kernel
theorem dL_canWin_4 : decode cL_canWin 4 = .ok (.invokevirtual 134, 3) := by decide +kernel
theorem dL_canWin_7 : decode cL_canWin 7 = .ok (.ifCond .eq 7, 3) := by decide +kernel
theorem dL_canWin_10 : decode cL_canWin 10 = .ok (.lconst 1, 1) := by decide +kernel
theorem dL_canWin_11 : decode cL_canWin 11 = .ok (.goto 4, 3) := by decide +kernel
theorem dL_canWin_14 : decode cL_canWin 14 = .ok (.lconst 0, 1) := by decide +kernel
theorem dL_canWin_15 : decode cL_canWin 15 = .ok (.lastore, 1) := by decide +kernel
theorem dL_canWin_16 : decode cL_canWin 16 = .ok (.goto 6, 3) := by decide +kernel
theorem dL_canWin_19 : decode cL_canWin 19 = .ok (.astore_n 3, 1) := by decide +kernel
theorem dL_canWin_20 : decode cL_canWin 20 = .ok (.iconst 1, 1) := by decide +kernel
theorem dL_canWin_21 : decode cL_canWin 21 = .ok (.ireturn, 1) := by decide +kernel
theorem dL_canWin_22 : decode cL_canWin 22 = .ok (.iconst 0, 1) := by decide +kernel
theorem dL_canWin_23 : decode cL_canWin 23 = .ok (.ireturn, 1) := by decide +kernel
theorem dL_against_0 : decode cL_against 0 = .ok (.aload_n 2, 1) := by decide +kernel
theorem dL_against_1 : decode cL_against 1 = .ok (.iconst 0, 1) := by decide +kernel
theorem dL_against_2 : decode cL_against 2 = .ok (.aload_n 0, 1) := by decide +kernel
theorem dL_against_3 : decode cL_against 3 = .ok (.iload_n 1, 1) := by decide +kernel
theorem dL_against_4 : decode cL_against 4 = .ok (.invokevirtual 137, 3) := by decide +kernel
theorem dL_against_7 : decode cL_against 7 = .ok (.i2l, 1) := by decide +kernel
theorem dL_against_8 : decode cL_against 8 = .ok (.lastore, 1) := by decide +kernel
theorem dL_against_9 : decode cL_against 9 = .ok (.goto 9, 3) := by decide +kernel
theorem dL_against_12 : decode cL_against 12 = .ok (.astore_n 3, 1) := by decide +kernel
theorem dL_against_13 : decode cL_against 13 = .ok (.iconst 1, 1) := by decide +kernel
theorem dL_against_14 : decode cL_against 14 = .ok (.ireturn, 1) := by decide +kernel
theorem dL_against_15 : decode cL_against 15 = .ok (.astore_n 3, 1) := by decide +kernel
theorem dL_against_16 : decode cL_against 16 = .ok (.iconst 2, 1) := by decide +kernel
theorem dL_against_17 : decode cL_against 17 = .ok (.ireturn, 1) := by decide +kernel
theorem dL_against_18 : decode cL_against 18 = .ok (.iconst 0, 1) := by decide +kernel
theorem dL_against_19 : decode cL_against 19 = .ok (.ireturn, 1) := by decide +kernel
theorem dL_table_0 : decode cL_table 0 = .ok (.aload_n 3, 1) := by decide +kernel
theorem dL_table_1 : decode cL_table 1 = .ok (.iconst 0, 1) := by decide +kernel
theorem dL_table_2 : decode cL_table 2 = .ok (.aload_n 0, 1) := by decide +kernel
theorem dL_table_3 : decode cL_table 3 = .ok (.iload_n 1, 1) := by decide +kernel
theorem dL_table_4 : decode cL_table 4 = .ok (.iload_n 2, 1) := by decide +kernel
theorem dL_table_5 : decode cL_table 5 = .ok (.invokevirtual 140, 3) := by decide +kernel
theorem dL_table_8 : decode cL_table 8 = .ok (.i2l, 1) := by decide +kernel
theorem dL_table_9 : decode cL_table 9 = .ok (.lastore, 1) := by decide +kernel
theorem dL_table_10 : decode cL_table 10 = .ok (.goto 7, 3) := by decide +kernel
theorem dL_table_13 : decode cL_table 13 = .ok (.astore 4, 2) := by decide +kernel
theorem dL_table_15 : decode cL_table 15 = .ok (.iconst 1, 1) := by decide +kernel
theorem dL_table_16 : decode cL_table 16 = .ok (.ireturn, 1) := by decide +kernel
theorem dL_table_17 : decode cL_table 17 = .ok (.iconst 0, 1) := by decide +kernel
theorem dL_table_18 : decode cL_table 18 = .ok (.ireturn, 1) := by decide +kernel
theorem dL_tell_0 : decode cL_tell 0 = .ok (.aload 4, 2) := by decide +kernel
theorem dL_tell_2 : decode cL_tell 2 = .ok (.iconst 0, 1) := by decide +kernel
theorem dL_tell_3 : decode cL_tell 3 = .ok (.aload_n 0, 1) := by decide +kernel
theorem dL_tell_4 : decode cL_tell 4 = .ok (.iload_n 1, 1) := by decide +kernel
theorem dL_tell_5 : decode cL_tell 5 = .ok (.iload_n 2, 1) := by decide +kernel
theorem dL_tell_6 : decode cL_tell 6 = .ok (.iload_n 3, 1) := by decide +kernel
theorem dL_tell_7 : decode cL_tell 7 = .ok (.invokevirtual 143, 3) := by decide +kernel
theorem dL_tell_10 : decode cL_tell 10 = .ok (.i2l, 1) := by decide +kernel
theorem dL_tell_11 : decode cL_tell 11 = .ok (.lastore, 1) := by decide +kernel
theorem dL_tell_12 : decode cL_tell 12 = .ok (.goto 11, 3) := by decide +kernel
theorem dL_tell_15 : decode cL_tell 15 = .ok (.astore 5, 2) := by decide +kernel
theorem dL_tell_17 : decode cL_tell 17 = .ok (.iconst 1, 1) := by decide +kernel
theorem dL_tell_18 : decode cL_tell 18 = .ok (.ireturn, 1) := by decide +kernel
theorem dL_tell_19 : decode cL_tell 19 = .ok (.astore 5, 2) := by decide +kernel
theorem dL_tell_21 : decode cL_tell 21 = .ok (.iconst 2, 1) := by decide +kernel
theorem dL_tell_22 : decode cL_tell 22 = .ok (.ireturn, 1) := by decide +kernel
theorem dL_tell_23 : decode cL_tell 23 = .ok (.iconst 0, 1) := by decide +kernel
theorem dL_tell_24 : decode cL_tell 24 = .ok (.ireturn, 1) := by decide +kernel
theorem dL_rounded_0 : decode cL_rounded 0 = .ok (.aload_n 3, 1) := by decide +kernel
theorem dL_rounded_1 : decode cL_rounded 1 = .ok (.iconst 0, 1) := by decide +kernel
theorem dL_rounded_2 : decode cL_rounded 2 = .ok (.aload_n 0, 1) := by decide +kernel
theorem dL_rounded_3 : decode cL_rounded 3 = .ok (.iload_n 1, 1) := by decide +kernel
theorem dL_rounded_4 : decode cL_rounded 4 = .ok (.iload_n 2, 1) := by decide +kernel
theorem dL_rounded_5 : decode cL_rounded 5 = .ok (.invokevirtual 146, 3) := by decide +kernel
theorem dL_rounded_8 : decode cL_rounded 8 = .ok (.i2l, 1) := by decide +kernel
theorem dL_rounded_9 : decode cL_rounded 9 = .ok (.lastore, 1) := by decide +kernel
theorem dL_rounded_10 : decode cL_rounded 10 = .ok (.goto 7, 3) := by decide +kernel
theorem dL_rounded_13 : decode cL_rounded 13 = .ok (.astore 4, 2) := by decide +kernel
theorem dL_rounded_15 : decode cL_rounded 15 = .ok (.iconst 1, 1) := by decide +kernel
theorem dL_rounded_16 : decode cL_rounded 16 = .ok (.ireturn, 1) := by decide +kernel
theorem dL_rounded_17 : decode cL_rounded 17 = .ok (.iconst 0, 1) := by decide +kernel
theorem dL_rounded_18 : decode cL_rounded 18 = .ok (.ireturn, 1) := by decide +kernel
theorem dL_project_0 : decode cL_project 0 = .ok (.aload_n 3, 1) := by decide +kernel
theorem dL_project_1 : decode cL_project 1 = .ok (.iconst 0, 1) := by decide +kernel
theorem dL_project_2 : decode cL_project 2 = .ok (.aload_n 0, 1) := by decide +kernel
theorem dL_project_3 : decode cL_project 3 = .ok (.iload_n 1, 1) := by decide +kernel
theorem dL_project_4 : decode cL_project 4 = .ok (.iload_n 2, 1) := by decide +kernel
theorem dL_project_5 : decode cL_project 5 = .ok (.invokevirtual 149, 3) := by decide +kernel
theorem dL_project_8 : decode cL_project 8 = .ok (.i2l, 1) := by decide +kernel
theorem dL_project_9 : decode cL_project 9 = .ok (.lastore, 1) := by decide +kernel
theorem dL_project_10 : decode cL_project 10 = .ok (.goto 11, 3) := by decide +kernel
theorem dL_project_13 : decode cL_project 13 = .ok (.astore 4, 2) := by decide +kernel
theorem dL_project_15 : decode cL_project 15 = .ok (.iconst 1, 1) := by decide +kernel
theorem dL_project_16 : decode cL_project 16 = .ok (.ireturn, 1) := by decide +kernel
theorem dL_project_17 : decode cL_project 17 = .ok (.astore 4, 2) := by decide +kernel
theorem dL_project_19 : decode cL_project 19 = .ok (.iconst 2, 1) := by decide +kernel
theorem dL_project_20 : decode cL_project 20 = .ok (.ireturn, 1) := by decide +kernel
theorem dL_project_21 : decode cL_project 21 = .ok (.iconst 0, 1) := by decide +kernel
theorem dL_project_22 : decode cL_project 22 = .ok (.ireturn, 1) := by decide +kernel
theorem dL_toolCost_0 : decode cL_toolCost 0 = .ok (.aload_n 3, 1) := by decide +kernel
theorem dL_toolCost_1 : decode cL_toolCost 1 = .ok (.iconst 0, 1) := by decide +kernel
theorem dL_toolCost_2 : decode cL_toolCost 2 = .ok (.aload_n 0, 1) := by decide +kernel
theorem dL_toolCost_3 : decode cL_toolCost 3 = .ok (.iload_n 1, 1) := by decide +kernel
theorem dL_toolCost_4 : decode cL_toolCost 4 = .ok (.iload_n 2, 1) := by decide +kernel
theorem dL_toolCost_5 : decode cL_toolCost 5 = .ok (.invokevirtual 152, 3) := by decide +kernel
theorem dL_toolCost_8 : decode cL_toolCost 8 = .ok (.i2l, 1) := by decide +kernel
theorem dL_toolCost_9 : decode cL_toolCost 9 = .ok (.lastore, 1) := by decide +kernel
theorem dL_toolCost_10 : decode cL_toolCost 10 = .ok (.goto 11, 3) := by decide +kernel
theorem dL_toolCost_13 : decode cL_toolCost 13 = .ok (.astore 4, 2) := by decide +kernel
theorem dL_toolCost_15 : decode cL_toolCost 15 = .ok (.iconst 1, 1) := by decide +kernel
theorem dL_toolCost_16 : decode cL_toolCost 16 = .ok (.ireturn, 1) := by decide +kernel
theorem dL_toolCost_17 : decode cL_toolCost 17 = .ok (.astore 4, 2) := by decide +kernel
theorem dL_toolCost_19 : decode cL_toolCost 19 = .ok (.iconst 2, 1) := by decide +kernel
theorem dL_toolCost_20 : decode cL_toolCost 20 = .ok (.ireturn, 1) := by decide +kernel
theorem dL_toolCost_21 : decode cL_toolCost 21 = .ok (.iconst 0, 1) := by decide +kernel
theorem dL_toolCost_22 : decode cL_toolCost 22 = .ok (.ireturn, 1) := by decide +kernel
theorem dL_checksum_0 : decode cL_checksum 0 = .ok (.aload_n 2, 1) := by decide +kernel
theorem dL_checksum_1 : decode cL_checksum 1 = .ok (.iconst 0, 1) := by decide +kernel
theorem dL_checksum_2 : decode cL_checksum 2 = .ok (.aload_n 0, 1) := by decide +kernel
theorem dL_checksum_3 : decode cL_checksum 3 = .ok (.iload_n 1, 1) := by decide +kernel
theorem dL_checksum_4 : decode cL_checksum 4 = .ok (.invokevirtual 155, 3) := by decide +kernel
theorem dL_checksum_7 : decode cL_checksum 7 = .ok (.lastore, 1) := by decide +kernel
theorem dL_checksum_8 : decode cL_checksum 8 = .ok (.goto 6, 3) := by decide +kernel
theorem dL_checksum_11 : decode cL_checksum 11 = .ok (.astore_n 3, 1) := by decide +kernel
theorem dL_checksum_12 : decode cL_checksum 12 = .ok (.iconst 1, 1) := by decide +kernel
theorem dL_checksum_13 : decode cL_checksum 13 = .ok (.ireturn, 1) := by decide +kernel
theorem dL_checksum_14 : decode cL_checksum 14 = .ok (.iconst 0, 1) := by decide +kernel
theorem dL_checksum_15 : decode cL_checksum 15 = .ok (.ireturn, 1) := by decide +kernel
theorem dL_fullShare_0 : decode cL_fullShare 0 = .ok (.aload 4, 2) := by decide +kernel
theorem dL_fullShare_2 : decode cL_fullShare 2 = .ok (.iconst 0, 1) := by decide +kernel
theorem dL_fullShare_3 : decode cL_fullShare 3 = .ok (.aload_n 0, 1) := by decide +kernel
theorem dL_fullShare_4 : decode cL_fullShare 4 = .ok (.iload_n 1, 1) := by decide +kernel
theorem dL_fullShare_5 : decode cL_fullShare 5 = .ok (.iload_n 2, 1) := by decide +kernel
theorem dL_fullShare_6 : decode cL_fullShare 6 = .ok (.iload_n 3, 1) := by decide +kernel
theorem dL_fullShare_7 : decode cL_fullShare 7 = .ok (.invokevirtual 159, 3) := by decide +kernel
theorem dL_fullShare_10 : decode cL_fullShare 10 = .ok (.f2d, 1) := by decide +kernel
theorem dL_fullShare_11 : decode cL_fullShare 11 = .ok (.dastore, 1) := by decide +kernel
theorem dL_fullShare_12 : decode cL_fullShare 12 = .ok (.goto 15, 3) := by decide +kernel
theorem dL_fullShare_15 : decode cL_fullShare 15 = .ok (.astore 5, 2) := by decide +kernel
theorem dL_fullShare_17 : decode cL_fullShare 17 = .ok (.iconst 1, 1) := by decide +kernel
theorem dL_fullShare_18 : decode cL_fullShare 18 = .ok (.ireturn, 1) := by decide +kernel
theorem dL_fullShare_19 : decode cL_fullShare 19 = .ok (.astore 5, 2) := by decide +kernel
theorem dL_fullShare_21 : decode cL_fullShare 21 = .ok (.iconst 2, 1) := by decide +kernel
theorem dL_fullShare_22 : decode cL_fullShare 22 = .ok (.ireturn, 1) := by decide +kernel
theorem dL_fullShare_23 : decode cL_fullShare 23 = .ok (.astore 5, 2) := by decide +kernel
theorem dL_fullShare_25 : decode cL_fullShare 25 = .ok (.iconst 3, 1) := by decide +kernel
theorem dL_fullShare_26 : decode cL_fullShare 26 = .ok (.ireturn, 1) := by decide +kernel
theorem dL_fullShare_27 : decode cL_fullShare 27 = .ok (.iconst 0, 1) := by decide +kernel
theorem dL_fullShare_28 : decode cL_fullShare 28 = .ok (.ireturn, 1) := by decide +kernel
theorem dL_meanFlow_0 : decode cL_meanFlow 0 = .ok (.aload 4, 2) := by decide +kernel
theorem dL_meanFlow_2 : decode cL_meanFlow 2 = .ok (.iconst 0, 1) := by decide +kernel
theorem dL_meanFlow_3 : decode cL_meanFlow 3 = .ok (.aload_n 0, 1) := by decide +kernel
theorem dL_meanFlow_4 : decode cL_meanFlow 4 = .ok (.iload_n 1, 1) := by decide +kernel
theorem dL_meanFlow_5 : decode cL_meanFlow 5 = .ok (.iload_n 2, 1) := by decide +kernel
theorem dL_meanFlow_6 : decode cL_meanFlow 6 = .ok (.iload_n 3, 1) := by decide +kernel
theorem dL_meanFlow_7 : decode cL_meanFlow 7 = .ok (.invokevirtual 163, 3) := by decide +kernel
theorem dL_meanFlow_10 : decode cL_meanFlow 10 = .ok (.dastore, 1) := by decide +kernel
theorem dL_meanFlow_11 : decode cL_meanFlow 11 = .ok (.goto 15, 3) := by decide +kernel
theorem dL_meanFlow_14 : decode cL_meanFlow 14 = .ok (.astore 5, 2) := by decide +kernel
theorem dL_meanFlow_16 : decode cL_meanFlow 16 = .ok (.iconst 1, 1) := by decide +kernel
theorem dL_meanFlow_17 : decode cL_meanFlow 17 = .ok (.ireturn, 1) := by decide +kernel
theorem dL_meanFlow_18 : decode cL_meanFlow 18 = .ok (.astore 5, 2) := by decide +kernel
theorem dL_meanFlow_20 : decode cL_meanFlow 20 = .ok (.iconst 2, 1) := by decide +kernel
theorem dL_meanFlow_21 : decode cL_meanFlow 21 = .ok (.ireturn, 1) := by decide +kernel
theorem dL_meanFlow_22 : decode cL_meanFlow 22 = .ok (.astore 5, 2) := by decide +kernel
theorem dL_meanFlow_24 : decode cL_meanFlow 24 = .ok (.iconst 3, 1) := by decide +kernel
theorem dL_meanFlow_25 : decode cL_meanFlow 25 = .ok (.ireturn, 1) := by decide +kernel
theorem dL_meanFlow_26 : decode cL_meanFlow 26 = .ok (.iconst 0, 1) := by decide +kernel
theorem dL_meanFlow_27 : decode cL_meanFlow 27 = .ok (.ireturn, 1) := by decide +kernel
