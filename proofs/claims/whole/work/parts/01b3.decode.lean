theorem dX6_days_33 : decode cX6_days 33 = .ok (.iload_n 1, 1) := by decide +kernel
theorem dX6_days_34 : decode cX6_days 34 = .ok (.iadd, 1) := by decide +kernel
theorem dX6_days_35 : decode cX6_days 35 = .ok (.sipush 999, 3) := by decide +kernel
theorem dX6_days_38 : decode cX6_days 38 = .ok (.if_icmp .le 6, 3) := by decide +kernel
theorem dX6_days_41 : decode cX6_days 41 = .ok (.ldc 133, 2) := by decide +kernel
theorem dX6_days_43 : decode cX6_days 43 = .ok (.ireturn, 1) := by decide +kernel
theorem dX6_days_44 : decode cX6_days 44 = .ok (.iconst 0, 1) := by decide +kernel
theorem dX6_days_45 : decode cX6_days 45 = .ok (.istore_n 2, 1) := by decide +kernel
theorem dX6_days_46 : decode cX6_days 46 = .ok (.iload_n 2, 1) := by decide +kernel
theorem dX6_days_47 : decode cX6_days 47 = .ok (.iload_n 1, 1) := by decide +kernel
theorem dX6_days_48 : decode cX6_days 48 = .ok (.if_icmp .ge 27, 3) := by decide +kernel
theorem dX6_days_51 : decode cX6_days 51 = .ok (.aload_n 0, 1) := by decide +kernel
theorem dX6_days_52 : decode cX6_days 52 = .ok (.getfield 33, 3) := by decide +kernel
theorem dX6_days_55 : decode cX6_days 55 = .ok (.aload_n 0, 1) := by decide +kernel
theorem dX6_days_56 : decode cX6_days 56 = .ok (.getfield 26, 3) := by decide +kernel
theorem dX6_days_59 : decode cX6_days 59 = .ok (.invokevirtual 134, 3) := by decide +kernel
theorem dX6_days_62 : decode cX6_days 62 = .ok (.aload_n 0, 1) := by decide +kernel
theorem dX6_days_63 : decode cX6_days 63 = .ok (.getfield 26, 3) := by decide +kernel
theorem dX6_days_66 : decode cX6_days 66 = .ok (.invokevirtual 137, 3) := by decide +kernel
theorem dX6_days_69 : decode cX6_days 69 = .ok (.iinc 2 1, 3) := by decide +kernel
theorem dX6_days_72 : decode cX6_days 72 = .ok (.goto (-26), 3) := by decide +kernel
theorem dX6_days_75 : decode cX6_days 75 = .ok (.aload_n 0, 1) := by decide +kernel
theorem dX6_days_76 : decode cX6_days 76 = .ok (.getfield 26, 3) := by decide +kernel
theorem dX6_days_79 : decode cX6_days 79 = .ok (.invokevirtual 140, 3) := by decide +kernel
theorem dX6_days_82 : decode cX6_days 82 = .ok (.ireturn, 1) := by decide +kernel
theorem dX6_plane_0 : decode cX6_plane 0 = .ok (.aload_n 0, 1) := by decide +kernel
theorem dX6_plane_1 : decode cX6_plane 1 = .ok (.getfield 26, 3) := by decide +kernel
theorem dX6_plane_4 : decode cX6_plane 4 = .ok (.iload_n 1, 1) := by decide +kernel
theorem dX6_plane_5 : decode cX6_plane 5 = .ok (.invokevirtual 143, 3) := by decide +kernel
theorem dX6_plane_8 : decode cX6_plane 8 = .ok (.ifCond .eq 13, 3) := by decide +kernel
theorem dX6_plane_11 : decode cX6_plane 11 = .ok (.iload_n 2, 1) := by decide +kernel
theorem dX6_plane_12 : decode cX6_plane 12 = .ok (.iconst 0, 1) := by decide +kernel
theorem dX6_plane_13 : decode cX6_plane 13 = .ok (.bipush 9, 2) := by decide +kernel
theorem dX6_plane_15 : decode cX6_plane 15 = .ok (.invokestatic 92, 3) := by decide +kernel
theorem dX6_plane_18 : decode cX6_plane 18 = .ok (.ifCond .ne 6, 3) := by decide +kernel
theorem dX6_plane_21 : decode cX6_plane 21 = .ok (.ldc 66, 2) := by decide +kernel
theorem dX6_plane_23 : decode cX6_plane 23 = .ok (.ireturn, 1) := by decide +kernel
theorem dX6_plane_24 : decode cX6_plane 24 = .ok (.aload_n 0, 1) := by decide +kernel
theorem dX6_plane_25 : decode cX6_plane 25 = .ok (.getfield 26, 3) := by decide +kernel
theorem dX6_plane_28 : decode cX6_plane 28 = .ok (.iload_n 1, 1) := by decide +kernel
theorem dX6_plane_29 : decode cX6_plane 29 = .ok (.invokevirtual 146, 3) := by decide +kernel
theorem dX6_plane_32 : decode cX6_plane 32 = .ok (.istore_n 3, 1) := by decide +kernel
theorem dX6_plane_33 : decode cX6_plane 33 = .ok (.aload_n 0, 1) := by decide +kernel
theorem dX6_plane_34 : decode cX6_plane 34 = .ok (.getfield 33, 3) := by decide +kernel
theorem dX6_plane_37 : decode cX6_plane 37 = .ok (.aload_n 0, 1) := by decide +kernel
theorem dX6_plane_38 : decode cX6_plane 38 = .ok (.getfield 26, 3) := by decide +kernel
theorem dX6_plane_41 : decode cX6_plane 41 = .ok (.invokevirtual 134, 3) := by decide +kernel
theorem dX6_plane_44 : decode cX6_plane 44 = .ok (.aload_n 0, 1) := by decide +kernel
theorem dX6_plane_45 : decode cX6_plane 45 = .ok (.getfield 26, 3) := by decide +kernel
theorem dX6_plane_48 : decode cX6_plane 48 = .ok (.iload_n 1, 1) := by decide +kernel
theorem dX6_plane_49 : decode cX6_plane 49 = .ok (.iload_n 2, 1) := by decide +kernel
theorem dX6_plane_50 : decode cX6_plane 50 = .ok (.invokevirtual 149, 3) := by decide +kernel
theorem dX6_plane_53 : decode cX6_plane 53 = .ok (.iload_n 3, 1) := by decide +kernel
theorem dX6_plane_54 : decode cX6_plane 54 = .ok (.ireturn, 1) := by decide +kernel
theorem dX6_reach_0 : decode cX6_reach 0 = .ok (.aload_n 0, 1) := by decide +kernel
theorem dX6_reach_1 : decode cX6_reach 1 = .ok (.getfield 26, 3) := by decide +kernel
theorem dX6_reach_4 : decode cX6_reach 4 = .ok (.invokevirtual 125, 3) := by decide +kernel
theorem dX6_reach_7 : decode cX6_reach 7 = .ok (.ifCond .ne 6, 3) := by decide +kernel
theorem dX6_reach_10 : decode cX6_reach 10 = .ok (.ldc 129, 2) := by decide +kernel
theorem dX6_reach_12 : decode cX6_reach 12 = .ok (.ireturn, 1) := by decide +kernel
theorem dX6_reach_13 : decode cX6_reach 13 = .ok (.iload_n 1, 1) := by decide +kernel
theorem dX6_reach_14 : decode cX6_reach 14 = .ok (.iconst 0, 1) := by decide +kernel
theorem dX6_reach_15 : decode cX6_reach 15 = .ok (.bipush 9, 2) := by decide +kernel
theorem dX6_reach_17 : decode cX6_reach 17 = .ok (.invokestatic 92, 3) := by decide +kernel
theorem dX6_reach_20 : decode cX6_reach 20 = .ok (.ifCond .ne 6, 3) := by decide +kernel
theorem dX6_reach_23 : decode cX6_reach 23 = .ok (.ldc 66, 2) := by decide +kernel
theorem dX6_reach_25 : decode cX6_reach 25 = .ok (.ireturn, 1) := by decide +kernel
theorem dX6_reach_26 : decode cX6_reach 26 = .ok (.aload_n 0, 1) := by decide +kernel
theorem dX6_reach_27 : decode cX6_reach 27 = .ok (.getfield 26, 3) := by decide +kernel
theorem dX6_reach_30 : decode cX6_reach 30 = .ok (.invokevirtual 153, 3) := by decide +kernel
theorem dX6_reach_33 : decode cX6_reach 33 = .ok (.istore_n 2, 1) := by decide +kernel
theorem dX6_reach_34 : decode cX6_reach 34 = .ok (.aload_n 0, 1) := by decide +kernel
theorem dX6_reach_35 : decode cX6_reach 35 = .ok (.getfield 33, 3) := by decide +kernel
theorem dX6_reach_38 : decode cX6_reach 38 = .ok (.aload_n 0, 1) := by decide +kernel
theorem dX6_reach_39 : decode cX6_reach 39 = .ok (.getfield 26, 3) := by decide +kernel
theorem dX6_reach_42 : decode cX6_reach 42 = .ok (.invokevirtual 134, 3) := by decide +kernel
theorem dX6_reach_45 : decode cX6_reach 45 = .ok (.aload_n 0, 1) := by decide +kernel
theorem dX6_reach_46 : decode cX6_reach 46 = .ok (.getfield 26, 3) := by decide +kernel
theorem dX6_reach_49 : decode cX6_reach 49 = .ok (.iload_n 1, 1) := by decide +kernel
theorem dX6_reach_50 : decode cX6_reach 50 = .ok (.invokevirtual 156, 3) := by decide +kernel
theorem dX6_reach_53 : decode cX6_reach 53 = .ok (.iload_n 2, 1) := by decide +kernel
theorem dX6_reach_54 : decode cX6_reach 54 = .ok (.ireturn, 1) := by decide +kernel
theorem dX6_way_0 : decode cX6_way 0 = .ok (.aload_n 0, 1) := by decide +kernel
theorem dX6_way_1 : decode cX6_way 1 = .ok (.iload_n 1, 1) := by decide +kernel
theorem dX6_way_2 : decode cX6_way 2 = .ok (.iconst 0, 1) := by decide +kernel
theorem dX6_way_3 : decode cX6_way 3 = .ok (.iload_n 2, 1) := by decide +kernel
theorem dX6_way_4 : decode cX6_way 4 = .ok (.iload_n 3, 1) := by decide +kernel
theorem dX6_way_5 : decode cX6_way 5 = .ok (.invokevirtual 160, 3) := by decide +kernel
theorem dX6_way_8 : decode cX6_way 8 = .ok (.ireturn, 1) := by decide +kernel
theorem dX6_gait_0 : decode cX6_gait 0 = .ok (.aload_n 0, 1) := by decide +kernel
theorem dX6_gait_1 : decode cX6_gait 1 = .ok (.iload_n 1, 1) := by decide +kernel
theorem dX6_gait_2 : decode cX6_gait 2 = .ok (.iconst 2, 1) := by decide +kernel
theorem dX6_gait_3 : decode cX6_gait 3 = .ok (.iload_n 2, 1) := by decide +kernel
theorem dX6_gait_4 : decode cX6_gait 4 = .ok (.iload_n 3, 1) := by decide +kernel
theorem dX6_gait_5 : decode cX6_gait 5 = .ok (.invokevirtual 160, 3) := by decide +kernel
theorem dX6_gait_8 : decode cX6_gait 8 = .ok (.ireturn, 1) := by decide +kernel
theorem dX6_tread_0 : decode cX6_tread 0 = .ok (.aload_n 0, 1) := by decide +kernel
theorem dX6_tread_1 : decode cX6_tread 1 = .ok (.getfield 26, 3) := by decide +kernel
theorem dX6_tread_4 : decode cX6_tread 4 = .ok (.iload_n 1, 1) := by decide +kernel
theorem dX6_tread_5 : decode cX6_tread 5 = .ok (.invokevirtual 143, 3) := by decide +kernel
theorem dX6_tread_8 : decode cX6_tread 8 = .ok (.ifCond .eq 12, 3) := by decide +kernel
theorem dX6_tread_11 : decode cX6_tread 11 = .ok (.iload_n 2, 1) := by decide +kernel
theorem dX6_tread_12 : decode cX6_tread 12 = .ok (.iconst 0, 1) := by decide +kernel
theorem dX6_tread_13 : decode cX6_tread 13 = .ok (.iconst 3, 1) := by decide +kernel
theorem dX6_tread_14 : decode cX6_tread 14 = .ok (.invokestatic 92, 3) := by decide +kernel
theorem dX6_tread_17 : decode cX6_tread 17 = .ok (.ifCond .ne 6, 3) := by decide +kernel
theorem dX6_tread_20 : decode cX6_tread 20 = .ok (.ldc 66, 2) := by decide +kernel
theorem dX6_tread_22 : decode cX6_tread 22 = .ok (.ireturn, 1) := by decide +kernel
theorem dX6_tread_23 : decode cX6_tread 23 = .ok (.iload_n 2, 1) := by decide +kernel
theorem dX6_tread_24 : decode cX6_tread 24 = .ok (.tableswitch 55 0 2 #[28, 37, 46], 28) := by decide +kernel
theorem dX6_tread_52 : decode cX6_tread 52 = .ok (.aload_n 0, 1) := by decide +kernel
theorem dX6_tread_53 : decode cX6_tread 53 = .ok (.getfield 26, 3) := by decide +kernel
theorem dX6_tread_56 : decode cX6_tread 56 = .ok (.iload_n 1, 1) := by decide +kernel
theorem dX6_tread_57 : decode cX6_tread 57 = .ok (.invokevirtual 164, 3) := by decide +kernel
theorem dX6_tread_60 : decode cX6_tread 60 = .ok (.ireturn, 1) := by decide +kernel
theorem dX6_tread_61 : decode cX6_tread 61 = .ok (.aload_n 0, 1) := by decide +kernel
theorem dX6_tread_62 : decode cX6_tread 62 = .ok (.getfield 26, 3) := by decide +kernel
theorem dX6_tread_65 : decode cX6_tread 65 = .ok (.iload_n 1, 1) := by decide +kernel
theorem dX6_tread_66 : decode cX6_tread 66 = .ok (.invokevirtual 167, 3) := by decide +kernel
theorem dX6_tread_69 : decode cX6_tread 69 = .ok (.ireturn, 1) := by decide +kernel
theorem dX6_tread_70 : decode cX6_tread 70 = .ok (.aload_n 0, 1) := by decide +kernel
theorem dX6_tread_71 : decode cX6_tread 71 = .ok (.getfield 26, 3) := by decide +kernel
theorem dX6_tread_74 : decode cX6_tread 74 = .ok (.iload_n 1, 1) := by decide +kernel
theorem dX6_tread_75 : decode cX6_tread 75 = .ok (.invokevirtual 146, 3) := by decide +kernel
theorem dX6_tread_78 : decode cX6_tread 78 = .ok (.ireturn, 1) := by decide +kernel
theorem dX6_tread_79 : decode cX6_tread 79 = .ok (.aload_n 0, 1) := by decide +kernel
theorem dX6_tread_80 : decode cX6_tread 80 = .ok (.getfield 26, 3) := by decide +kernel
theorem dX6_tread_83 : decode cX6_tread 83 = .ok (.iload_n 1, 1) := by decide +kernel
theorem dX6_tread_84 : decode cX6_tread 84 = .ok (.invokevirtual 170, 3) := by decide +kernel
theorem dX6_tread_87 : decode cX6_tread 87 = .ok (.ireturn, 1) := by decide +kernel
theorem dX6_walker_0 : decode cX6_walker 0 = .ok (.aload_n 0, 1) := by decide +kernel
theorem dX6_walker_1 : decode cX6_walker 1 = .ok (.getfield 26, 3) := by decide +kernel
theorem dX6_walker_4 : decode cX6_walker 4 = .ok (.iload_n 1, 1) := by decide +kernel
theorem dX6_walker_5 : decode cX6_walker 5 = .ok (.invokevirtual 173, 3) := by decide +kernel
theorem dX6_walker_8 : decode cX6_walker 8 = .ok (.ifCond .eq 12, 3) := by decide +kernel
theorem dX6_walker_11 : decode cX6_walker 11 = .ok (.iload_n 2, 1) := by decide +kernel
theorem dX6_walker_12 : decode cX6_walker 12 = .ok (.iconst 0, 1) := by decide +kernel
theorem dX6_walker_13 : decode cX6_walker 13 = .ok (.iconst 3, 1) := by decide +kernel
theorem dX6_walker_14 : decode cX6_walker 14 = .ok (.invokestatic 92, 3) := by decide +kernel
theorem dX6_walker_17 : decode cX6_walker 17 = .ok (.ifCond .ne 6, 3) := by decide +kernel
theorem dX6_walker_20 : decode cX6_walker 20 = .ok (.ldc 66, 2) := by decide +kernel
theorem dX6_walker_22 : decode cX6_walker 22 = .ok (.ireturn, 1) := by decide +kernel
theorem dX6_walker_23 : decode cX6_walker 23 = .ok (.aload_n 0, 1) := by decide +kernel
theorem dX6_walker_24 : decode cX6_walker 24 = .ok (.getfield 26, 3) := by decide +kernel
theorem dX6_walker_27 : decode cX6_walker 27 = .ok (.iload_n 1, 1) := by decide +kernel
theorem dX6_walker_28 : decode cX6_walker 28 = .ok (.iload_n 2, 1) := by decide +kernel
theorem dX6_walker_29 : decode cX6_walker 29 = .ok (.invokevirtual 176, 3) := by decide +kernel
theorem dX6_walker_32 : decode cX6_walker 32 = .ok (.ireturn, 1) := by decide +kernel
theorem dX6_tune_0 : decode cX6_tune 0 = .ok (.aload_n 0, 1) := by decide +kernel
theorem dX6_tune_1 : decode cX6_tune 1 = .ok (.getfield 26, 3) := by decide +kernel
theorem dX6_tune_4 : decode cX6_tune 4 = .ok (.iload_n 1, 1) := by decide +kernel
theorem dX6_tune_5 : decode cX6_tune 5 = .ok (.invokevirtual 173, 3) := by decide +kernel
theorem dX6_tune_8 : decode cX6_tune 8 = .ok (.ifCond .eq 7, 3) := by decide +kernel
theorem dX6_tune_11 : decode cX6_tune 11 = .ok (.iload_n 2, 1) := by decide +kernel
theorem dX6_tune_12 : decode cX6_tune 12 = .ok (.ifCond .ge 6, 3) := by decide +kernel
theorem dX6_tune_15 : decode cX6_tune 15 = .ok (.ldc 66, 2) := by decide +kernel
theorem dX6_tune_17 : decode cX6_tune 17 = .ok (.ireturn, 1) := by decide +kernel
theorem dX6_tune_18 : decode cX6_tune 18 = .ok (.aload_n 0, 1) := by decide +kernel
theorem dX6_tune_19 : decode cX6_tune 19 = .ok (.getfield 26, 3) := by decide +kernel
theorem dX6_tune_22 : decode cX6_tune 22 = .ok (.iload_n 1, 1) := by decide +kernel
theorem dX6_tune_23 : decode cX6_tune 23 = .ok (.iload_n 2, 1) := by decide +kernel
theorem dX6_tune_24 : decode cX6_tune 24 = .ok (.invokevirtual 180, 3) := by decide +kernel
theorem dX6_tune_27 : decode cX6_tune 27 = .ok (.ireturn, 1) := by decide +kernel
theorem dX6_where_0 : decode cX6_where 0 = .ok (.aload_n 0, 1) := by decide +kernel
theorem dX6_where_1 : decode cX6_where 1 = .ok (.getfield 26, 3) := by decide +kernel
theorem dX6_where_4 : decode cX6_where 4 = .ok (.iload_n 1, 1) := by decide +kernel
theorem dX6_where_5 : decode cX6_where 5 = .ok (.invokevirtual 173, 3) := by decide +kernel
theorem dX6_where_8 : decode cX6_where 8 = .ok (.ifCond .eq 10, 3) := by decide +kernel
theorem dX6_where_11 : decode cX6_where 11 = .ok (.iload_n 2, 1) := by decide +kernel
theorem dX6_where_12 : decode cX6_where 12 = .ok (.invokestatic 183, 3) := by decide +kernel
theorem dX6_where_15 : decode cX6_where 15 = .ok (.ifCond .ne 6, 3) := by decide +kernel
theorem dX6_where_18 : decode cX6_where 18 = .ok (.ldc 66, 2) := by decide +kernel
theorem dX6_where_20 : decode cX6_where 20 = .ok (.ireturn, 1) := by decide +kernel
theorem dX6_where_21 : decode cX6_where 21 = .ok (.aload_n 0, 1) := by decide +kernel
theorem dX6_where_22 : decode cX6_where 22 = .ok (.getfield 26, 3) := by decide +kernel
theorem dX6_where_25 : decode cX6_where 25 = .ok (.iload_n 1, 1) := by decide +kernel
theorem dX6_where_26 : decode cX6_where 26 = .ok (.iload_n 2, 1) := by decide +kernel
theorem dX6_where_27 : decode cX6_where 27 = .ok (.invokevirtual 186, 3) := by decide +kernel
theorem dX6_where_30 : decode cX6_where 30 = .ok (.ireturn, 1) := by decide +kernel
theorem dX6_heard_0 : decode cX6_heard 0 = .ok (.aload_n 0, 1) := by decide +kernel
theorem dX6_heard_1 : decode cX6_heard 1 = .ok (.getfield 26, 3) := by decide +kernel
theorem dX6_heard_4 : decode cX6_heard 4 = .ok (.iload_n 1, 1) := by decide +kernel
theorem dX6_heard_5 : decode cX6_heard 5 = .ok (.invokevirtual 143, 3) := by decide +kernel
theorem dX6_heard_8 : decode cX6_heard 8 = .ok (.ifCond .eq 10, 3) := by decide +kernel
theorem dX6_heard_11 : decode cX6_heard 11 = .ok (.iload_n 2, 1) := by decide +kernel
theorem dX6_heard_12 : decode cX6_heard 12 = .ok (.invokestatic 183, 3) := by decide +kernel
theorem dX6_heard_15 : decode cX6_heard 15 = .ok (.ifCond .ne 6, 3) := by decide +kernel
theorem dX6_heard_18 : decode cX6_heard 18 = .ok (.ldc 66, 2) := by decide +kernel
theorem dX6_heard_20 : decode cX6_heard 20 = .ok (.ireturn, 1) := by decide +kernel
theorem dX6_heard_21 : decode cX6_heard 21 = .ok (.aload_n 0, 1) := by decide +kernel
theorem dX6_heard_22 : decode cX6_heard 22 = .ok (.getfield 26, 3) := by decide +kernel
theorem dX6_heard_25 : decode cX6_heard 25 = .ok (.iload_n 1, 1) := by decide +kernel
theorem dX6_heard_26 : decode cX6_heard 26 = .ok (.iload_n 2, 1) := by decide +kernel
theorem dX6_heard_27 : decode cX6_heard 27 = .ok (.invokevirtual 189, 3) := by decide +kernel
theorem dX6_heard_30 : decode cX6_heard 30 = .ok (.ireturn, 1) := by decide +kernel
theorem dX6_ahead_0 : decode cX6_ahead 0 = .ok (.aload_n 0, 1) := by decide +kernel
theorem dX6_ahead_1 : decode cX6_ahead 1 = .ok (.getfield 26, 3) := by decide +kernel
theorem dX6_ahead_4 : decode cX6_ahead 4 = .ok (.iload_n 1, 1) := by decide +kernel
theorem dX6_ahead_5 : decode cX6_ahead 5 = .ok (.invokevirtual 143, 3) := by decide +kernel
theorem dX6_ahead_8 : decode cX6_ahead 8 = .ok (.ifCond .eq 20, 3) := by decide +kernel
theorem dX6_ahead_11 : decode cX6_ahead 11 = .ok (.iload_n 2, 1) := by decide +kernel
theorem dX6_ahead_12 : decode cX6_ahead 12 = .ok (.iconst 0, 1) := by decide +kernel
theorem dX6_ahead_13 : decode cX6_ahead 13 = .ok (.bipush 60, 2) := by decide +kernel
theorem dX6_ahead_15 : decode cX6_ahead 15 = .ok (.invokestatic 92, 3) := by decide +kernel
theorem dX6_ahead_18 : decode cX6_ahead 18 = .ok (.ifCond .eq 10, 3) := by decide +kernel
theorem dX6_ahead_21 : decode cX6_ahead 21 = .ok (.iload_n 3, 1) := by decide +kernel
theorem dX6_ahead_22 : decode cX6_ahead 22 = .ok (.invokestatic 192, 3) := by decide +kernel
theorem dX6_ahead_25 : decode cX6_ahead 25 = .ok (.ifCond .ne 6, 3) := by decide +kernel
theorem dX6_ahead_28 : decode cX6_ahead 28 = .ok (.ldc 66, 2) := by decide +kernel
theorem dX6_ahead_30 : decode cX6_ahead 30 = .ok (.ireturn, 1) := by decide +kernel
theorem dX6_ahead_31 : decode cX6_ahead 31 = .ok (.aload_n 0, 1) := by decide +kernel
theorem dX6_ahead_32 : decode cX6_ahead 32 = .ok (.invokevirtual 195, 3) := by decide +kernel
theorem dX6_ahead_35 : decode cX6_ahead 35 = .ok (.iload_n 1, 1) := by decide +kernel
theorem dX6_ahead_36 : decode cX6_ahead 36 = .ok (.iload_n 2, 1) := by decide +kernel
theorem dX6_ahead_37 : decode cX6_ahead 37 = .ok (.iload_n 3, 1) := by decide +kernel
theorem dX6_ahead_38 : decode cX6_ahead 38 = .ok (.invokevirtual 199, 3) := by decide +kernel
theorem dX6_ahead_41 : decode cX6_ahead 41 = .ok (.ireturn, 1) := by decide +kernel
theorem dX6_length_0 : decode cX6_length 0 = .ok (.aload_n 0, 1) := by decide +kernel
theorem dX6_length_1 : decode cX6_length 1 = .ok (.getfield 26, 3) := by decide +kernel
theorem dX6_length_4 : decode cX6_length 4 = .ok (.iload_n 1, 1) := by decide +kernel
theorem dX6_length_5 : decode cX6_length 5 = .ok (.invokevirtual 173, 3) := by decide +kernel
theorem dX6_length_8 : decode cX6_length 8 = .ok (.ifCond .ne 6, 3) := by decide +kernel
theorem dX6_length_11 : decode cX6_length 11 = .ok (.ldc 66, 2) := by decide +kernel
theorem dX6_length_13 : decode cX6_length 13 = .ok (.ireturn, 1) := by decide +kernel
theorem dX6_length_14 : decode cX6_length 14 = .ok (.aload_n 0, 1) := by decide +kernel
theorem dX6_length_15 : decode cX6_length 15 = .ok (.getfield 26, 3) := by decide +kernel
theorem dX6_length_18 : decode cX6_length 18 = .ok (.iload_n 1, 1) := by decide +kernel
theorem dX6_length_19 : decode cX6_length 19 = .ok (.invokevirtual 202, 3) := by decide +kernel
theorem dX6_length_22 : decode cX6_length 22 = .ok (.ireturn, 1) := by decide +kernel
theorem dX6_meet_0 : decode cX6_meet 0 = .ok (.aload_n 0, 1) := by decide +kernel
theorem dX6_meet_1 : decode cX6_meet 1 = .ok (.getfield 26, 3) := by decide +kernel
theorem dX6_meet_4 : decode cX6_meet 4 = .ok (.iload_n 1, 1) := by decide +kernel
theorem dX6_meet_5 : decode cX6_meet 5 = .ok (.invokevirtual 173, 3) := by decide +kernel
theorem dX6_meet_8 : decode cX6_meet 8 = .ok (.ifCond .eq 19, 3) := by decide +kernel
theorem dX6_meet_11 : decode cX6_meet 11 = .ok (.aload_n 0, 1) := by decide +kernel
theorem dX6_meet_12 : decode cX6_meet 12 = .ok (.getfield 26, 3) := by decide +kernel
theorem dX6_meet_15 : decode cX6_meet 15 = .ok (.iload_n 2, 1) := by decide +kernel
theorem dX6_meet_16 : decode cX6_meet 16 = .ok (.invokevirtual 173, 3) := by decide +kernel
theorem dX6_meet_19 : decode cX6_meet 19 = .ok (.ifCond .eq 8, 3) := by decide +kernel
theorem dX6_meet_22 : decode cX6_meet 22 = .ok (.iload_n 1, 1) := by decide +kernel
theorem dX6_meet_23 : decode cX6_meet 23 = .ok (.iload_n 2, 1) := by decide +kernel
theorem dX6_meet_24 : decode cX6_meet 24 = .ok (.if_icmp .ne 6, 3) := by decide +kernel
theorem dX6_meet_27 : decode cX6_meet 27 = .ok (.ldc 66, 2) := by decide +kernel
theorem dX6_meet_29 : decode cX6_meet 29 = .ok (.ireturn, 1) := by decide +kernel
theorem dX6_meet_30 : decode cX6_meet 30 = .ok (.aload_n 0, 1) := by decide +kernel
theorem dX6_meet_31 : decode cX6_meet 31 = .ok (.invokevirtual 195, 3) := by decide +kernel
theorem dX6_meet_34 : decode cX6_meet 34 = .ok (.iload_n 1, 1) := by decide +kernel
theorem dX6_meet_35 : decode cX6_meet 35 = .ok (.iload_n 2, 1) := by decide +kernel
theorem dX6_meet_36 : decode cX6_meet 36 = .ok (.invokevirtual 205, 3) := by decide +kernel
theorem dX6_meet_39 : decode cX6_meet 39 = .ok (.ireturn, 1) := by decide +kernel
theorem dX6_choir_0 : decode cX6_choir 0 = .ok (.aload_n 0, 1) := by decide +kernel
theorem dX6_choir_1 : decode cX6_choir 1 = .ok (.getfield 26, 3) := by decide +kernel
theorem dX6_choir_4 : decode cX6_choir 4 = .ok (.invokevirtual 125, 3) := by decide +kernel
theorem dX6_choir_7 : decode cX6_choir 7 = .ok (.ifCond .ne 6, 3) := by decide +kernel
theorem dX6_choir_10 : decode cX6_choir 10 = .ok (.ldc 129, 2) := by decide +kernel
theorem dX6_choir_12 : decode cX6_choir 12 = .ok (.ireturn, 1) := by decide +kernel
theorem dX6_choir_13 : decode cX6_choir 13 = .ok (.iload_n 1, 1) := by decide +kernel
theorem dX6_choir_14 : decode cX6_choir 14 = .ok (.invokestatic 192, 3) := by decide +kernel
theorem dX6_choir_17 : decode cX6_choir 17 = .ok (.ifCond .eq 14, 3) := by decide +kernel
theorem dX6_choir_20 : decode cX6_choir 20 = .ok (.aload_n 0, 1) := by decide +kernel
theorem dX6_choir_21 : decode cX6_choir 21 = .ok (.invokevirtual 195, 3) := by decide +kernel
theorem dX6_choir_24 : decode cX6_choir 24 = .ok (.iload_n 1, 1) := by decide +kernel
theorem dX6_choir_25 : decode cX6_choir 25 = .ok (.invokevirtual 208, 3) := by decide +kernel
theorem dX6_choir_28 : decode cX6_choir 28 = .ok (.goto 5, 3) := by decide +kernel
theorem dX6_choir_31 : decode cX6_choir 31 = .ok (.ldc 66, 2) := by decide +kernel
theorem dX6_choir_33 : decode cX6_choir 33 = .ok (.ireturn, 1) := by decide +kernel
theorem dX6_twins_0 : decode cX6_twins 0 = .ok (.aload_n 0, 1) := by decide +kernel
theorem dX6_twins_1 : decode cX6_twins 1 = .ok (.getfield 26, 3) := by decide +kernel
theorem dX6_twins_4 : decode cX6_twins 4 = .ok (.invokevirtual 125, 3) := by decide +kernel
theorem dX6_twins_7 : decode cX6_twins 7 = .ok (.ifCond .ne 6, 3) := by decide +kernel
theorem dX6_twins_10 : decode cX6_twins 10 = .ok (.ldc 129, 2) := by decide +kernel
theorem dX6_twins_12 : decode cX6_twins 12 = .ok (.ireturn, 1) := by decide +kernel
theorem dX6_twins_13 : decode cX6_twins 13 = .ok (.iload_n 1, 1) := by decide +kernel
theorem dX6_twins_14 : decode cX6_twins 14 = .ok (.invokestatic 192, 3) := by decide +kernel
theorem dX6_twins_17 : decode cX6_twins 17 = .ok (.ifCond .ne 6, 3) := by decide +kernel
theorem dX6_twins_20 : decode cX6_twins 20 = .ok (.ldc 66, 2) := by decide +kernel
theorem dX6_twins_22 : decode cX6_twins 22 = .ok (.ireturn, 1) := by decide +kernel
theorem dX6_twins_23 : decode cX6_twins 23 = .ok (.iload_n 1, 1) := by decide +kernel
theorem dX6_twins_24 : decode cX6_twins 24 = .ok (.ifCond .ne 13, 3) := by decide +kernel
theorem dX6_twins_27 : decode cX6_twins 27 = .ok (.aload_n 0, 1) := by decide +kernel
theorem dX6_twins_28 : decode cX6_twins 28 = .ok (.invokevirtual 195, 3) := by decide +kernel
theorem dX6_twins_31 : decode cX6_twins 31 = .ok (.invokevirtual 211, 3) := by decide +kernel
theorem dX6_twins_34 : decode cX6_twins 34 = .ok (.goto 10, 3) := by decide +kernel
theorem dX6_twins_37 : decode cX6_twins 37 = .ok (.aload_n 0, 1) := by decide +kernel
theorem dX6_twins_38 : decode cX6_twins 38 = .ok (.invokevirtual 195, 3) := by decide +kernel
theorem dX6_twins_41 : decode cX6_twins 41 = .ok (.invokevirtual 214, 3) := by decide +kernel
theorem dX6_twins_44 : decode cX6_twins 44 = .ok (.ireturn, 1) := by decide +kernel
theorem dX6_felt_0 : decode cX6_felt 0 = .ok (.aload_n 0, 1) := by decide +kernel
theorem dX6_felt_1 : decode cX6_felt 1 = .ok (.getfield 26, 3) := by decide +kernel
theorem dX6_felt_4 : decode cX6_felt 4 = .ok (.iload_n 1, 1) := by decide +kernel
theorem dX6_felt_5 : decode cX6_felt 5 = .ok (.invokevirtual 173, 3) := by decide +kernel
theorem dX6_felt_8 : decode cX6_felt 8 = .ok (.ifCond .eq 21, 3) := by decide +kernel
theorem dX6_felt_11 : decode cX6_felt 11 = .ok (.aload_n 0, 1) := by decide +kernel
theorem dX6_felt_12 : decode cX6_felt 12 = .ok (.getfield 26, 3) := by decide +kernel
theorem dX6_felt_15 : decode cX6_felt 15 = .ok (.iload_n 2, 1) := by decide +kernel
theorem dX6_felt_16 : decode cX6_felt 16 = .ok (.invokevirtual 143, 3) := by decide +kernel
theorem dX6_felt_19 : decode cX6_felt 19 = .ok (.ifCond .eq 10, 3) := by decide +kernel
theorem dX6_felt_22 : decode cX6_felt 22 = .ok (.iload_n 3, 1) := by decide +kernel
theorem dX6_felt_23 : decode cX6_felt 23 = .ok (.invokestatic 192, 3) := by decide +kernel
theorem dX6_felt_26 : decode cX6_felt 26 = .ok (.ifCond .ne 6, 3) := by decide +kernel
theorem dX6_felt_29 : decode cX6_felt 29 = .ok (.ldc 66, 2) := by decide +kernel
theorem dX6_felt_31 : decode cX6_felt 31 = .ok (.ireturn, 1) := by decide +kernel
theorem dX6_felt_32 : decode cX6_felt 32 = .ok (.aload_n 0, 1) := by decide +kernel
theorem dX6_felt_33 : decode cX6_felt 33 = .ok (.invokevirtual 195, 3) := by decide +kernel
theorem dX6_felt_36 : decode cX6_felt 36 = .ok (.iload_n 1, 1) := by decide +kernel
theorem dX6_felt_37 : decode cX6_felt 37 = .ok (.iload_n 2, 1) := by decide +kernel
theorem dX6_felt_38 : decode cX6_felt 38 = .ok (.iload_n 3, 1) := by decide +kernel
theorem dX6_felt_39 : decode cX6_felt 39 = .ok (.invokevirtual 217, 3) := by decide +kernel
theorem dX6_felt_42 : decode cX6_felt 42 = .ok (.ireturn, 1) := by decide +kernel
theorem dX6_doors_0 : decode cX6_doors 0 = .ok (.aload_n 0, 1) := by decide +kernel
theorem dX6_doors_1 : decode cX6_doors 1 = .ok (.getfield 26, 3) := by decide +kernel
theorem dX6_doors_4 : decode cX6_doors 4 = .ok (.invokevirtual 125, 3) := by decide +kernel
theorem dX6_doors_7 : decode cX6_doors 7 = .ok (.ifCond .ne 6, 3) := by decide +kernel
theorem dX6_doors_10 : decode cX6_doors 10 = .ok (.ldc 129, 2) := by decide +kernel
theorem dX6_doors_12 : decode cX6_doors 12 = .ok (.ireturn, 1) := by decide +kernel
theorem dX6_doors_13 : decode cX6_doors 13 = .ok (.iload_n 1, 1) := by decide +kernel
theorem dX6_doors_14 : decode cX6_doors 14 = .ok (.invokestatic 192, 3) := by decide +kernel
theorem dX6_doors_17 : decode cX6_doors 17 = .ok (.ifCond .eq 14, 3) := by decide +kernel
theorem dX6_doors_20 : decode cX6_doors 20 = .ok (.aload_n 0, 1) := by decide +kernel
theorem dX6_doors_21 : decode cX6_doors 21 = .ok (.invokevirtual 195, 3) := by decide +kernel
theorem dX6_doors_24 : decode cX6_doors 24 = .ok (.iload_n 1, 1) := by decide +kernel
theorem dX6_doors_25 : decode cX6_doors 25 = .ok (.invokevirtual 220, 3) := by decide +kernel
theorem dX6_doors_28 : decode cX6_doors 28 = .ok (.goto 5, 3) := by decide +kernel
theorem dX6_doors_31 : decode cX6_doors 31 = .ok (.ldc 66, 2) := by decide +kernel
theorem dX6_doors_33 : decode cX6_doors 33 = .ok (.ireturn, 1) := by decide +kernel
theorem dX6_planed_0 : decode cX6_planed 0 = .ok (.aload_n 0, 1) := by decide +kernel
theorem dX6_planed_1 : decode cX6_planed 1 = .ok (.getfield 26, 3) := by decide +kernel
theorem dX6_planed_4 : decode cX6_planed 4 = .ok (.invokevirtual 125, 3) := by decide +kernel
theorem dX6_planed_7 : decode cX6_planed 7 = .ok (.ifCond .ne 6, 3) := by decide +kernel
theorem dX6_planed_10 : decode cX6_planed 10 = .ok (.ldc 129, 2) := by decide +kernel
theorem dX6_planed_12 : decode cX6_planed 12 = .ok (.ireturn, 1) := by decide +kernel
theorem dX6_planed_13 : decode cX6_planed 13 = .ok (.iload_n 1, 1) := by decide +kernel
theorem dX6_planed_14 : decode cX6_planed 14 = .ok (.invokestatic 192, 3) := by decide +kernel
theorem dX6_planed_17 : decode cX6_planed 17 = .ok (.ifCond .eq 14, 3) := by decide +kernel
theorem dX6_planed_20 : decode cX6_planed 20 = .ok (.aload_n 0, 1) := by decide +kernel
theorem dX6_planed_21 : decode cX6_planed 21 = .ok (.invokevirtual 195, 3) := by decide +kernel
theorem dX6_planed_24 : decode cX6_planed 24 = .ok (.iload_n 1, 1) := by decide +kernel
theorem dX6_planed_25 : decode cX6_planed 25 = .ok (.invokevirtual 223, 3) := by decide +kernel
theorem dX6_planed_28 : decode cX6_planed 28 = .ok (.goto 5, 3) := by decide +kernel
theorem dX6_planed_31 : decode cX6_planed 31 = .ok (.ldc 66, 2) := by decide +kernel
theorem dX6_planed_33 : decode cX6_planed 33 = .ok (.ireturn, 1) := by decide +kernel
theorem dX6_rise_0 : decode cX6_rise 0 = .ok (.aload_n 0, 1) := by decide +kernel
theorem dX6_rise_1 : decode cX6_rise 1 = .ok (.getfield 26, 3) := by decide +kernel
theorem dX6_rise_4 : decode cX6_rise 4 = .ok (.iload_n 1, 1) := by decide +kernel
theorem dX6_rise_5 : decode cX6_rise 5 = .ok (.invokevirtual 173, 3) := by decide +kernel
theorem dX6_rise_8 : decode cX6_rise 8 = .ok (.ifCond .eq 32, 3) := by decide +kernel
theorem dX6_rise_11 : decode cX6_rise 11 = .ok (.aload_n 0, 1) := by decide +kernel
theorem dX6_rise_12 : decode cX6_rise 12 = .ok (.getfield 26, 3) := by decide +kernel
theorem dX6_rise_15 : decode cX6_rise 15 = .ok (.iload_n 2, 1) := by decide +kernel
theorem dX6_rise_16 : decode cX6_rise 16 = .ok (.invokevirtual 143, 3) := by decide +kernel
theorem dX6_rise_19 : decode cX6_rise 19 = .ok (.ifCond .eq 21, 3) := by decide +kernel
theorem dX6_rise_22 : decode cX6_rise 22 = .ok (.iload_n 3, 1) := by decide +kernel
theorem dX6_rise_23 : decode cX6_rise 23 = .ok (.iconst 1, 1) := by decide +kernel
theorem dX6_rise_24 : decode cX6_rise 24 = .ok (.bipush 9, 2) := by decide +kernel
theorem dX6_rise_26 : decode cX6_rise 26 = .ok (.invokestatic 92, 3) := by decide +kernel
theorem dX6_rise_29 : decode cX6_rise 29 = .ok (.ifCond .eq 11, 3) := by decide +kernel
theorem dX6_rise_32 : decode cX6_rise 32 = .ok (.iload 4, 2) := by decide +kernel
theorem dX6_rise_34 : decode cX6_rise 34 = .ok (.invokestatic 192, 3) := by decide +kernel
theorem dX6_rise_37 : decode cX6_rise 37 = .ok (.ifCond .ne 6, 3) := by decide +kernel
theorem dX6_rise_40 : decode cX6_rise 40 = .ok (.ldc 66, 2) := by decide +kernel
theorem dX6_rise_42 : decode cX6_rise 42 = .ok (.ireturn, 1) := by decide +kernel
theorem dX6_rise_43 : decode cX6_rise 43 = .ok (.aload_n 0, 1) := by decide +kernel
theorem dX6_rise_44 : decode cX6_rise 44 = .ok (.invokevirtual 195, 3) := by decide +kernel
theorem dX6_rise_47 : decode cX6_rise 47 = .ok (.iload_n 1, 1) := by decide +kernel
theorem dX6_rise_48 : decode cX6_rise 48 = .ok (.iload_n 2, 1) := by decide +kernel
theorem dX6_rise_49 : decode cX6_rise 49 = .ok (.iload_n 3, 1) := by decide +kernel
theorem dX6_rise_50 : decode cX6_rise 50 = .ok (.iload 4, 2) := by decide +kernel
theorem dX6_rise_52 : decode cX6_rise 52 = .ok (.invokevirtual 226, 3) := by decide +kernel
theorem dX6_rise_55 : decode cX6_rise 55 = .ok (.ireturn, 1) := by decide +kernel
theorem dX6_what_0 : decode cX6_what 0 = .ok (.aload_n 0, 1) := by decide +kernel
theorem dX6_what_1 : decode cX6_what 1 = .ok (.getfield 26, 3) := by decide +kernel
theorem dX6_what_4 : decode cX6_what 4 = .ok (.iload_n 1, 1) := by decide +kernel
theorem dX6_what_5 : decode cX6_what 5 = .ok (.invokevirtual 143, 3) := by decide +kernel
theorem dX6_what_8 : decode cX6_what 8 = .ok (.ifCond .eq 26, 3) := by decide +kernel
theorem dX6_what_11 : decode cX6_what 11 = .ok (.iload_n 2, 1) := by decide +kernel
theorem dX6_what_12 : decode cX6_what 12 = .ok (.iconst 0, 1) := by decide +kernel
theorem dX6_what_13 : decode cX6_what 13 = .ok (.iconst 1, 1) := by decide +kernel
theorem dX6_what_14 : decode cX6_what 14 = .ok (.invokestatic 92, 3) := by decide +kernel
theorem dX6_what_17 : decode cX6_what 17 = .ok (.ifCond .eq 17, 3) := by decide +kernel
theorem dX6_what_20 : decode cX6_what 20 = .ok (.aload_n 0, 1) := by decide +kernel
theorem dX6_what_21 : decode cX6_what 21 = .ok (.iload_n 3, 1) := by decide +kernel
theorem dX6_what_22 : decode cX6_what 22 = .ok (.iload 4, 2) := by decide +kernel
theorem dX6_what_24 : decode cX6_what 24 = .ok (.iload 5, 2) := by decide +kernel
theorem dX6_what_26 : decode cX6_what 26 = .ok (.iload 7, 2) := by decide +kernel
theorem dX6_what_28 : decode cX6_what 28 = .ok (.invokevirtual 229, 3) := by decide +kernel
theorem dX6_what_31 : decode cX6_what 31 = .ok (.ifCond .ne 6, 3) := by decide +kernel
theorem dX6_what_34 : decode cX6_what 34 = .ok (.ldc 66, 2) := by decide +kernel
theorem dX6_what_36 : decode cX6_what 36 = .ok (.ireturn, 1) := by decide +kernel
theorem dX6_what_37 : decode cX6_what 37 = .ok (.aload_n 0, 1) := by decide +kernel
theorem dX6_what_38 : decode cX6_what 38 = .ok (.aload_n 0, 1) := by decide +kernel
theorem dX6_what_39 : decode cX6_what 39 = .ok (.getfield 10, 3) := by decide +kernel
theorem dX6_what_42 : decode cX6_what 42 = .ok (.iload 5, 2) := by decide +kernel
theorem dX6_what_44 : decode cX6_what 44 = .ok (.iload 6, 2) := by decide +kernel
theorem dX6_what_46 : decode cX6_what 46 = .ok (.iload 7, 2) := by decide +kernel
theorem dX6_what_48 : decode cX6_what 48 = .ok (.invokevirtual 72, 3) := by decide +kernel
theorem dX6_what_51 : decode cX6_what 51 = .ok (.putfield 55, 3) := by decide +kernel
theorem dX6_what_54 : decode cX6_what 54 = .ok (.aload_n 0, 1) := by decide +kernel
theorem dX6_what_55 : decode cX6_what 55 = .ok (.getfield 55, 3) := by decide +kernel
theorem dX6_what_58 : decode cX6_what 58 = .ok (.ifCond .eq 11, 3) := by decide +kernel
theorem dX6_what_61 : decode cX6_what 61 = .ok (.ldc 67, 2) := by decide +kernel
theorem dX6_what_63 : decode cX6_what 63 = .ok (.aload_n 0, 1) := by decide +kernel
theorem dX6_what_64 : decode cX6_what 64 = .ok (.getfield 55, 3) := by decide +kernel
theorem dX6_what_67 : decode cX6_what 67 = .ok (.isub, 1) := by decide +kernel
theorem dX6_what_68 : decode cX6_what 68 = .ok (.ireturn, 1) := by decide +kernel
theorem dX6_what_69 : decode cX6_what 69 = .ok (.aload_n 0, 1) := by decide +kernel
theorem dX6_what_70 : decode cX6_what 70 = .ok (.iload 5, 2) := by decide +kernel
theorem dX6_what_72 : decode cX6_what 72 = .ok (.iload 6, 2) := by decide +kernel
theorem dX6_what_74 : decode cX6_what 74 = .ok (.iload 7, 2) := by decide +kernel
theorem dX6_what_76 : decode cX6_what 76 = .ok (.invokevirtual 233, 3) := by decide +kernel
theorem dX6_what_79 : decode cX6_what 79 = .ok (.astore 8, 2) := by decide +kernel
theorem dX6_what_81 : decode cX6_what 81 = .ok (.iload_n 2, 1) := by decide +kernel
theorem dX6_what_82 : decode cX6_what 82 = .ok (.ifCond .ne 15, 3) := by decide +kernel
theorem dX6_what_85 : decode cX6_what 85 = .ok (.aload 8, 2) := by decide +kernel
theorem dX6_what_87 : decode cX6_what 87 = .ok (.iload_n 1, 1) := by decide +kernel
theorem dX6_what_88 : decode cX6_what 88 = .ok (.iload_n 3, 1) := by decide +kernel
theorem dX6_what_89 : decode cX6_what 89 = .ok (.iload 4, 2) := by decide +kernel
theorem dX6_what_91 : decode cX6_what 91 = .ok (.invokevirtual 237, 3) := by decide +kernel
theorem dX6_what_94 : decode cX6_what 94 = .ok (.goto 12, 3) := by decide +kernel
theorem dX6_what_97 : decode cX6_what 97 = .ok (.aload 8, 2) := by decide +kernel
theorem dX6_what_99 : decode cX6_what 99 = .ok (.iload_n 1, 1) := by decide +kernel
theorem dX6_what_100 : decode cX6_what 100 = .ok (.iload_n 3, 1) := by decide +kernel
theorem dX6_what_101 : decode cX6_what 101 = .ok (.iload 4, 2) := by decide +kernel
theorem dX6_what_103 : decode cX6_what 103 = .ok (.invokevirtual 240, 3) := by decide +kernel
theorem dX6_what_106 : decode cX6_what 106 = .ok (.ireturn, 1) := by decide +kernel
theorem dX6_who_0 : decode cX6_who 0 = .ok (.aload_n 0, 1) := by decide +kernel
theorem dX6_who_1 : decode cX6_who 1 = .ok (.getfield 26, 3) := by decide +kernel
theorem dX6_who_4 : decode cX6_who 4 = .ok (.iload_n 1, 1) := by decide +kernel
theorem dX6_who_5 : decode cX6_who 5 = .ok (.invokevirtual 173, 3) := by decide +kernel
theorem dX6_who_8 : decode cX6_who 8 = .ok (.ifCond .eq 26, 3) := by decide +kernel
theorem dX6_who_11 : decode cX6_who 11 = .ok (.iload_n 2, 1) := by decide +kernel
theorem dX6_who_12 : decode cX6_who 12 = .ok (.iconst 0, 1) := by decide +kernel
theorem dX6_who_13 : decode cX6_who 13 = .ok (.iconst 3, 1) := by decide +kernel
theorem dX6_who_14 : decode cX6_who 14 = .ok (.invokestatic 92, 3) := by decide +kernel
theorem dX6_who_17 : decode cX6_who 17 = .ok (.ifCond .eq 17, 3) := by decide +kernel
theorem dX6_who_20 : decode cX6_who 20 = .ok (.aload_n 0, 1) := by decide +kernel
theorem dX6_who_21 : decode cX6_who 21 = .ok (.iload_n 3, 1) := by decide +kernel
theorem dX6_who_22 : decode cX6_who 22 = .ok (.iload 4, 2) := by decide +kernel
theorem dX6_who_24 : decode cX6_who 24 = .ok (.iload 5, 2) := by decide +kernel
theorem dX6_who_26 : decode cX6_who 26 = .ok (.iload 7, 2) := by decide +kernel
theorem dX6_who_28 : decode cX6_who 28 = .ok (.invokevirtual 229, 3) := by decide +kernel
theorem dX6_who_31 : decode cX6_who 31 = .ok (.ifCond .ne 6, 3) := by decide +kernel
theorem dX6_who_34 : decode cX6_who 34 = .ok (.ldc 66, 2) := by decide +kernel
theorem dX6_who_36 : decode cX6_who 36 = .ok (.ireturn, 1) := by decide +kernel
theorem dX6_who_37 : decode cX6_who 37 = .ok (.aload_n 0, 1) := by decide +kernel
theorem dX6_who_38 : decode cX6_who 38 = .ok (.aload_n 0, 1) := by decide +kernel
theorem dX6_who_39 : decode cX6_who 39 = .ok (.getfield 10, 3) := by decide +kernel
theorem dX6_who_42 : decode cX6_who 42 = .ok (.iload 5, 2) := by decide +kernel
theorem dX6_who_44 : decode cX6_who 44 = .ok (.iload 6, 2) := by decide +kernel
theorem dX6_who_46 : decode cX6_who 46 = .ok (.iload 7, 2) := by decide +kernel
theorem dX6_who_48 : decode cX6_who 48 = .ok (.invokevirtual 72, 3) := by decide +kernel
theorem dX6_who_51 : decode cX6_who 51 = .ok (.putfield 55, 3) := by decide +kernel
theorem dX6_who_54 : decode cX6_who 54 = .ok (.aload_n 0, 1) := by decide +kernel
theorem dX6_who_55 : decode cX6_who 55 = .ok (.getfield 55, 3) := by decide +kernel
theorem dX6_who_58 : decode cX6_who 58 = .ok (.ifCond .eq 11, 3) := by decide +kernel
theorem dX6_who_61 : decode cX6_who 61 = .ok (.ldc 67, 2) := by decide +kernel
theorem dX6_who_63 : decode cX6_who 63 = .ok (.aload_n 0, 1) := by decide +kernel
theorem dX6_who_64 : decode cX6_who 64 = .ok (.getfield 55, 3) := by decide +kernel
theorem dX6_who_67 : decode cX6_who 67 = .ok (.isub, 1) := by decide +kernel
theorem dX6_who_68 : decode cX6_who 68 = .ok (.ireturn, 1) := by decide +kernel
theorem dX6_who_69 : decode cX6_who 69 = .ok (.aload_n 0, 1) := by decide +kernel
theorem dX6_who_70 : decode cX6_who 70 = .ok (.iload 5, 2) := by decide +kernel
theorem dX6_who_72 : decode cX6_who 72 = .ok (.iload 6, 2) := by decide +kernel
theorem dX6_who_74 : decode cX6_who 74 = .ok (.iload 7, 2) := by decide +kernel
theorem dX6_who_76 : decode cX6_who 76 = .ok (.invokevirtual 233, 3) := by decide +kernel
theorem dX6_who_79 : decode cX6_who 79 = .ok (.iload_n 1, 1) := by decide +kernel
theorem dX6_who_80 : decode cX6_who 80 = .ok (.iload_n 2, 1) := by decide +kernel
theorem dX6_who_81 : decode cX6_who 81 = .ok (.iload_n 3, 1) := by decide +kernel
theorem dX6_who_82 : decode cX6_who 82 = .ok (.iload 4, 2) := by decide +kernel
theorem dX6_who_84 : decode cX6_who 84 = .ok (.invokevirtual 243, 3) := by decide +kernel
theorem dX6_who_87 : decode cX6_who 87 = .ok (.ireturn, 1) := by decide +kernel
theorem dX6_rots_0 : decode cX6_rots 0 = .ok (.aload_n 0, 1) := by decide +kernel
theorem dX6_rots_1 : decode cX6_rots 1 = .ok (.getfield 26, 3) := by decide +kernel
theorem dX6_rots_4 : decode cX6_rots 4 = .ok (.iload_n 1, 1) := by decide +kernel
theorem dX6_rots_5 : decode cX6_rots 5 = .ok (.invokevirtual 173, 3) := by decide +kernel
theorem dX6_rots_8 : decode cX6_rots 8 = .ok (.ifCond .eq 32, 3) := by decide +kernel
theorem dX6_rots_11 : decode cX6_rots 11 = .ok (.aload_n 0, 1) := by decide +kernel
theorem dX6_rots_12 : decode cX6_rots 12 = .ok (.getfield 26, 3) := by decide +kernel
theorem dX6_rots_15 : decode cX6_rots 15 = .ok (.iload_n 2, 1) := by decide +kernel
theorem dX6_rots_16 : decode cX6_rots 16 = .ok (.invokevirtual 143, 3) := by decide +kernel
theorem dX6_rots_19 : decode cX6_rots 19 = .ok (.ifCond .eq 21, 3) := by decide +kernel
theorem dX6_rots_22 : decode cX6_rots 22 = .ok (.iload_n 3, 1) := by decide +kernel
theorem dX6_rots_23 : decode cX6_rots 23 = .ok (.iconst 0, 1) := by decide +kernel
theorem dX6_rots_24 : decode cX6_rots 24 = .ok (.bipush 10, 2) := by decide +kernel
theorem dX6_rots_26 : decode cX6_rots 26 = .ok (.invokestatic 92, 3) := by decide +kernel
theorem dX6_rots_29 : decode cX6_rots 29 = .ok (.ifCond .eq 11, 3) := by decide +kernel
theorem dX6_rots_32 : decode cX6_rots 32 = .ok (.iload 4, 2) := by decide +kernel
theorem dX6_rots_34 : decode cX6_rots 34 = .ok (.invokestatic 192, 3) := by decide +kernel
theorem dX6_rots_37 : decode cX6_rots 37 = .ok (.ifCond .ne 7, 3) := by decide +kernel
theorem dX6_rots_40 : decode cX6_rots 40 = .ok (.ldc2_w 246, 3) := by decide +kernel
theorem dX6_rots_43 : decode cX6_rots 43 = .ok (.lreturn, 1) := by decide +kernel
theorem dX6_rots_44 : decode cX6_rots 44 = .ok (.aload_n 0, 1) := by decide +kernel
theorem dX6_rots_45 : decode cX6_rots 45 = .ok (.invokevirtual 195, 3) := by decide +kernel
theorem dX6_rots_48 : decode cX6_rots 48 = .ok (.iload_n 1, 1) := by decide +kernel
theorem dX6_rots_49 : decode cX6_rots 49 = .ok (.iload_n 2, 1) := by decide +kernel
theorem dX6_rots_50 : decode cX6_rots 50 = .ok (.iload_n 3, 1) := by decide +kernel
theorem dX6_rots_51 : decode cX6_rots 51 = .ok (.iload 4, 2) := by decide +kernel
theorem dX6_rots_53 : decode cX6_rots 53 = .ok (.invokevirtual 248, 3) := by decide +kernel
theorem dX6_rots_56 : decode cX6_rots 56 = .ok (.lreturn, 1) := by decide +kernel
theorem dX6_drawn_0 : decode cX6_drawn 0 = .ok (.aload_n 0, 1) := by decide +kernel
theorem dX6_drawn_1 : decode cX6_drawn 1 = .ok (.getfield 26, 3) := by decide +kernel
theorem dX6_drawn_4 : decode cX6_drawn 4 = .ok (.invokevirtual 125, 3) := by decide +kernel
theorem dX6_drawn_7 : decode cX6_drawn 7 = .ok (.ifCond .ne 6, 3) := by decide +kernel
theorem dX6_drawn_10 : decode cX6_drawn 10 = .ok (.ldc 129, 2) := by decide +kernel
theorem dX6_drawn_12 : decode cX6_drawn 12 = .ok (.ireturn, 1) := by decide +kernel
theorem dX6_drawn_13 : decode cX6_drawn 13 = .ok (.iload_n 1, 1) := by decide +kernel
theorem dX6_drawn_14 : decode cX6_drawn 14 = .ok (.iconst 0, 1) := by decide +kernel
theorem dX6_drawn_15 : decode cX6_drawn 15 = .ok (.bipush 60, 2) := by decide +kernel
theorem dX6_drawn_17 : decode cX6_drawn 17 = .ok (.invokestatic 92, 3) := by decide +kernel
theorem dX6_drawn_20 : decode cX6_drawn 20 = .ok (.ifCond .eq 20, 3) := by decide +kernel
theorem dX6_drawn_23 : decode cX6_drawn 23 = .ok (.iload_n 2, 1) := by decide +kernel
theorem dX6_drawn_24 : decode cX6_drawn 24 = .ok (.iconst 1, 1) := by decide +kernel
theorem dX6_drawn_25 : decode cX6_drawn 25 = .ok (.ldc 252, 2) := by decide +kernel
theorem dX6_drawn_27 : decode cX6_drawn 27 = .ok (.invokestatic 92, 3) := by decide +kernel
theorem dX6_drawn_30 : decode cX6_drawn 30 = .ok (.ifCond .eq 10, 3) := by decide +kernel
theorem dX6_drawn_33 : decode cX6_drawn 33 = .ok (.iload_n 3, 1) := by decide +kernel
theorem dX6_drawn_34 : decode cX6_drawn 34 = .ok (.invokestatic 192, 3) := by decide +kernel
theorem dX6_drawn_37 : decode cX6_drawn 37 = .ok (.ifCond .ne 6, 3) := by decide +kernel
theorem dX6_drawn_40 : decode cX6_drawn 40 = .ok (.ldc 66, 2) := by decide +kernel
theorem dX6_drawn_42 : decode cX6_drawn 42 = .ok (.ireturn, 1) := by decide +kernel
theorem dX6_drawn_43 : decode cX6_drawn 43 = .ok (.aload_n 0, 1) := by decide +kernel
theorem dX6_drawn_44 : decode cX6_drawn 44 = .ok (.invokevirtual 195, 3) := by decide +kernel
theorem dX6_drawn_47 : decode cX6_drawn 47 = .ok (.iload_n 1, 1) := by decide +kernel
theorem dX6_drawn_48 : decode cX6_drawn 48 = .ok (.iload_n 2, 1) := by decide +kernel
theorem dX6_drawn_49 : decode cX6_drawn 49 = .ok (.iload_n 3, 1) := by decide +kernel
theorem dX6_drawn_50 : decode cX6_drawn 50 = .ok (.invokevirtual 253, 3) := by decide +kernel
theorem dX6_drawn_53 : decode cX6_drawn 53 = .ok (.ireturn, 1) := by decide +kernel
theorem dX6_image_0 : decode cX6_image 0 = .ok (.iload_n 1, 1) := by decide +kernel
theorem dX6_image_1 : decode cX6_image 1 = .ok (.iconst 0, 1) := by decide +kernel
theorem dX6_image_2 : decode cX6_image 2 = .ok (.iconst 1, 1) := by decide +kernel
theorem dX6_image_3 : decode cX6_image 3 = .ok (.invokestatic 92, 3) := by decide +kernel
theorem dX6_image_6 : decode cX6_image 6 = .ok (.ifCond .ne 6, 3) := by decide +kernel
theorem dX6_image_9 : decode cX6_image 9 = .ok (.ldc 66, 2) := by decide +kernel
theorem dX6_image_11 : decode cX6_image 11 = .ok (.ireturn, 1) := by decide +kernel
theorem dX6_image_12 : decode cX6_image 12 = .ok (.aload_n 0, 1) := by decide +kernel
theorem dX6_image_13 : decode cX6_image 13 = .ok (.getfield 37, 3) := by decide +kernel
theorem dX6_image_16 : decode cX6_image 16 = .ok (.iload_n 1, 1) := by decide +kernel
theorem dX6_image_17 : decode cX6_image 17 = .ok (.aaload, 1) := by decide +kernel
theorem dX6_image_18 : decode cX6_image 18 = .ok (.astore_n 2, 1) := by decide +kernel
theorem dX6_image_19 : decode cX6_image 19 = .ok (.aload_n 2, 1) := by decide +kernel
theorem dX6_image_20 : decode cX6_image 20 = .ok (.ifnull 13, 3) := by decide +kernel
theorem dX6_image_23 : decode cX6_image 23 = .ok (.aload_n 0, 1) := by decide +kernel
theorem dX6_image_24 : decode cX6_image 24 = .ok (.getfield 26, 3) := by decide +kernel
theorem dX6_image_27 : decode cX6_image 27 = .ok (.invokevirtual 125, 3) := by decide +kernel
theorem dX6_image_30 : decode cX6_image 30 = .ok (.ifCond .ne 6, 3) := by decide +kernel
theorem dX6_image_33 : decode cX6_image 33 = .ok (.ldc 129, 2) := by decide +kernel
theorem dX6_image_35 : decode cX6_image 35 = .ok (.ireturn, 1) := by decide +kernel
theorem dX6_image_36 : decode cX6_image 36 = .ok (.aload_n 2, 1) := by decide +kernel
theorem dX6_image_37 : decode cX6_image 37 = .ok (.aload_n 0, 1) := by decide +kernel
theorem dX6_image_38 : decode cX6_image 38 = .ok (.getfield 26, 3) := by decide +kernel
theorem dX6_image_41 : decode cX6_image 41 = .ok (.invokevirtual 108, 3) := by decide +kernel
theorem dX6_image_44 : decode cX6_image 44 = .ok (.iconst 1, 1) := by decide +kernel
theorem dX6_image_45 : decode cX6_image 45 = .ok (.ireturn, 1) := by decide +kernel
theorem dX6_restore_0 : decode cX6_restore 0 = .ok (.iload_n 1, 1) := by decide +kernel
theorem dX6_restore_1 : decode cX6_restore 1 = .ok (.iconst 0, 1) := by decide +kernel
theorem dX6_restore_2 : decode cX6_restore 2 = .ok (.iconst 1, 1) := by decide +kernel
theorem dX6_restore_3 : decode cX6_restore 3 = .ok (.invokestatic 92, 3) := by decide +kernel
theorem dX6_restore_6 : decode cX6_restore 6 = .ok (.ifCond .ne 6, 3) := by decide +kernel
theorem dX6_restore_9 : decode cX6_restore 9 = .ok (.ldc 66, 2) := by decide +kernel
theorem dX6_restore_11 : decode cX6_restore 11 = .ok (.ireturn, 1) := by decide +kernel
theorem dX6_restore_12 : decode cX6_restore 12 = .ok (.aload_n 0, 1) := by decide +kernel
theorem dX6_restore_13 : decode cX6_restore 13 = .ok (.getfield 37, 3) := by decide +kernel
theorem dX6_restore_16 : decode cX6_restore 16 = .ok (.iload_n 1, 1) := by decide +kernel
theorem dX6_restore_17 : decode cX6_restore 17 = .ok (.aaload, 1) := by decide +kernel
theorem dX6_restore_18 : decode cX6_restore 18 = .ok (.astore_n 2, 1) := by decide +kernel
theorem dX6_restore_19 : decode cX6_restore 19 = .ok (.aload_n 2, 1) := by decide +kernel
theorem dX6_restore_20 : decode cX6_restore 20 = .ok (.ifnull 10, 3) := by decide +kernel
theorem dX6_restore_23 : decode cX6_restore 23 = .ok (.aload_n 2, 1) := by decide +kernel
theorem dX6_restore_24 : decode cX6_restore 24 = .ok (.invokevirtual 125, 3) := by decide +kernel
theorem dX6_restore_27 : decode cX6_restore 27 = .ok (.ifCond .ne 6, 3) := by decide +kernel
theorem dX6_restore_30 : decode cX6_restore 30 = .ok (.ldc 129, 2) := by decide +kernel
theorem dX6_restore_32 : decode cX6_restore 32 = .ok (.ireturn, 1) := by decide +kernel
theorem dX6_restore_33 : decode cX6_restore 33 = .ok (.aload_n 0, 1) := by decide +kernel
theorem dX6_restore_34 : decode cX6_restore 34 = .ok (.getfield 26, 3) := by decide +kernel
theorem dX6_restore_37 : decode cX6_restore 37 = .ok (.aload_n 2, 1) := by decide +kernel
theorem dX6_restore_38 : decode cX6_restore 38 = .ok (.invokevirtual 108, 3) := by decide +kernel
theorem dX6_restore_41 : decode cX6_restore 41 = .ok (.aload_n 0, 1) := by decide +kernel
theorem dX6_restore_42 : decode cX6_restore 42 = .ok (.getfield 33, 3) := by decide +kernel
theorem dX6_restore_45 : decode cX6_restore 45 = .ok (.invokevirtual 112, 3) := by decide +kernel
theorem dX6_restore_48 : decode cX6_restore 48 = .ok (.iconst 1, 1) := by decide +kernel
theorem dX6_restore_49 : decode cX6_restore 49 = .ok (.ireturn, 1) := by decide +kernel
theorem dX6_kind_0 : decode cX6_kind 0 = .ok (.aload_n 0, 1) := by decide +kernel
theorem dX6_kind_1 : decode cX6_kind 1 = .ok (.getfield 26, 3) := by decide +kernel
theorem dX6_kind_4 : decode cX6_kind 4 = .ok (.iload_n 1, 1) := by decide +kernel
theorem dX6_kind_5 : decode cX6_kind 5 = .ok (.invokevirtual 143, 3) := by decide +kernel
theorem dX6_kind_8 : decode cX6_kind 8 = .ok (.ifCond .eq 14, 3) := by decide +kernel
theorem dX6_kind_11 : decode cX6_kind 11 = .ok (.aload_n 0, 1) := by decide +kernel
theorem dX6_kind_12 : decode cX6_kind 12 = .ok (.getfield 26, 3) := by decide +kernel
theorem dX6_kind_15 : decode cX6_kind 15 = .ok (.iload_n 1, 1) := by decide +kernel
theorem dX6_kind_16 : decode cX6_kind 16 = .ok (.invokevirtual 256, 3) := by decide +kernel
theorem dX6_kind_19 : decode cX6_kind 19 = .ok (.goto 5, 3) := by decide +kernel
theorem dX6_kind_22 : decode cX6_kind 22 = .ok (.ldc 66, 2) := by decide +kernel
theorem dX6_kind_24 : decode cX6_kind 24 = .ok (.ireturn, 1) := by decide +kernel
theorem dX6_as_0 : decode cX6_as 0 = .ok (.aload_n 0, 1) := by decide +kernel
theorem dX6_as_1 : decode cX6_as 1 = .ok (.getfield 26, 3) := by decide +kernel
theorem dX6_as_4 : decode cX6_as 4 = .ok (.iload_n 1, 1) := by decide +kernel
theorem dX6_as_5 : decode cX6_as 5 = .ok (.invokevirtual 143, 3) := by decide +kernel
theorem dX6_as_8 : decode cX6_as 8 = .ok (.ifCond .eq 12, 3) := by decide +kernel
theorem dX6_as_11 : decode cX6_as 11 = .ok (.iload_n 2, 1) := by decide +kernel
theorem dX6_as_12 : decode cX6_as 12 = .ok (.iconst 0, 1) := by decide +kernel
theorem dX6_as_13 : decode cX6_as 13 = .ok (.iconst 5, 1) := by decide +kernel
theorem dX6_as_14 : decode cX6_as 14 = .ok (.invokestatic 92, 3) := by decide +kernel
theorem dX6_as_17 : decode cX6_as 17 = .ok (.ifCond .ne 6, 3) := by decide +kernel
theorem dX6_as_20 : decode cX6_as 20 = .ok (.ldc 66, 2) := by decide +kernel
theorem dX6_as_22 : decode cX6_as 22 = .ok (.ireturn, 1) := by decide +kernel
theorem dX6_as_23 : decode cX6_as 23 = .ok (.aload_n 0, 1) := by decide +kernel
theorem dX6_as_24 : decode cX6_as 24 = .ok (.aload_n 0, 1) := by decide +kernel
theorem dX6_as_25 : decode cX6_as 25 = .ok (.getfield 51, 3) := by decide +kernel
theorem dX6_as_28 : decode cX6_as 28 = .ok (.aload_n 0, 1) := by decide +kernel
theorem dX6_as_29 : decode cX6_as 29 = .ok (.getfield 26, 3) := by decide +kernel
theorem dX6_as_32 : decode cX6_as 32 = .ok (.iload_n 1, 1) := by decide +kernel
theorem dX6_as_33 : decode cX6_as 33 = .ok (.invokevirtual 256, 3) := by decide +kernel
theorem dX6_as_36 : decode cX6_as 36 = .ok (.iload_n 2, 1) := by decide +kernel
theorem dX6_as_37 : decode cX6_as 37 = .ok (.invokevirtual 259, 3) := by decide +kernel
theorem dX6_as_40 : decode cX6_as 40 = .ok (.ifCond .eq 7, 3) := by decide +kernel
theorem dX6_as_43 : decode cX6_as 43 = .ok (.iconst 0, 1) := by decide +kernel
theorem dX6_as_44 : decode cX6_as 44 = .ok (.goto 4, 3) := by decide +kernel
theorem dX6_as_47 : decode cX6_as 47 = .ok (.iconst 3, 1) := by decide +kernel
theorem dX6_as_48 : decode cX6_as 48 = .ok (.putfield 55, 3) := by decide +kernel
theorem dX6_as_51 : decode cX6_as 51 = .ok (.aload_n 0, 1) := by decide +kernel
theorem dX6_as_52 : decode cX6_as 52 = .ok (.getfield 55, 3) := by decide +kernel
theorem dX6_as_55 : decode cX6_as 55 = .ok (.ifCond .eq 13, 3) := by decide +kernel
theorem dX6_as_58 : decode cX6_as 58 = .ok (.ldc 67, 2) := by decide +kernel
theorem dX6_as_60 : decode cX6_as 60 = .ok (.aload_n 0, 1) := by decide +kernel
theorem dX6_as_61 : decode cX6_as 61 = .ok (.getfield 55, 3) := by decide +kernel
theorem dX6_as_64 : decode cX6_as 64 = .ok (.isub, 1) := by decide +kernel
theorem dX6_as_65 : decode cX6_as 65 = .ok (.goto 4, 3) := by decide +kernel
theorem dX6_as_68 : decode cX6_as 68 = .ok (.iload_n 1, 1) := by decide +kernel
theorem dX6_as_69 : decode cX6_as 69 = .ok (.ireturn, 1) := by decide +kernel
theorem dX6_ask_0 : decode cX6_ask 0 = .ok (.aload_n 0, 1) := by decide +kernel
theorem dX6_ask_1 : decode cX6_ask 1 = .ok (.getfield 26, 3) := by decide +kernel
theorem dX6_ask_4 : decode cX6_ask 4 = .ok (.iload_n 1, 1) := by decide +kernel
theorem dX6_ask_5 : decode cX6_ask 5 = .ok (.invokevirtual 143, 3) := by decide +kernel
theorem dX6_ask_8 : decode cX6_ask 8 = .ok (.ifCond .eq 10, 3) := by decide +kernel
theorem dX6_ask_11 : decode cX6_ask 11 = .ok (.iload_n 2, 1) := by decide +kernel
theorem dX6_ask_12 : decode cX6_ask 12 = .ok (.invokestatic 192, 3) := by decide +kernel
theorem dX6_ask_15 : decode cX6_ask 15 = .ok (.ifCond .ne 6, 3) := by decide +kernel
theorem dX6_ask_18 : decode cX6_ask 18 = .ok (.ldc 66, 2) := by decide +kernel
theorem dX6_ask_20 : decode cX6_ask 20 = .ok (.ireturn, 1) := by decide +kernel
theorem dX6_ask_21 : decode cX6_ask 21 = .ok (.aload_n 0, 1) := by decide +kernel
theorem dX6_ask_22 : decode cX6_ask 22 = .ok (.getfield 51, 3) := by decide +kernel
theorem dX6_ask_25 : decode cX6_ask 25 = .ok (.aload_n 0, 1) := by decide +kernel
theorem dX6_ask_26 : decode cX6_ask 26 = .ok (.getfield 26, 3) := by decide +kernel
theorem dX6_ask_29 : decode cX6_ask 29 = .ok (.iload_n 1, 1) := by decide +kernel
theorem dX6_ask_30 : decode cX6_ask 30 = .ok (.iload_n 2, 1) := by decide +kernel
theorem dX6_ask_31 : decode cX6_ask 31 = .ok (.invokevirtual 263, 3) := by decide +kernel
theorem dX6_ask_34 : decode cX6_ask 34 = .ok (.ireturn, 1) := by decide +kernel
theorem dX6_trace_0 : decode cX6_trace 0 = .ok (.aload_n 0, 1) := by decide +kernel
theorem dX6_trace_1 : decode cX6_trace 1 = .ok (.getfield 51, 3) := by decide +kernel
theorem dX6_trace_4 : decode cX6_trace 4 = .ok (.iload_n 1, 1) := by decide +kernel
theorem dX6_trace_5 : decode cX6_trace 5 = .ok (.invokevirtual 267, 3) := by decide +kernel
theorem dX6_trace_8 : decode cX6_trace 8 = .ok (.ireturn, 1) := by decide +kernel
theorem dX6_count_0 : decode cX6_count 0 = .ok (.iload_n 1, 1) := by decide +kernel
theorem dX6_count_1 : decode cX6_count 1 = .ok (.tableswitch 119 0 7 #[47, 55, 63, 71, 79, 95, 103, 111], 47) := by decide +kernel
theorem dX6_count_48 : decode cX6_count 48 = .ok (.aload_n 0, 1) := by decide +kernel
theorem dX6_count_49 : decode cX6_count 49 = .ok (.getfield 10, 3) := by decide +kernel
theorem dX6_count_52 : decode cX6_count 52 = .ok (.invokevirtual 270, 3) := by decide +kernel
theorem dX6_count_55 : decode cX6_count 55 = .ok (.ireturn, 1) := by decide +kernel
theorem dX6_count_56 : decode cX6_count 56 = .ok (.aload_n 0, 1) := by decide +kernel
theorem dX6_count_57 : decode cX6_count 57 = .ok (.getfield 26, 3) := by decide +kernel
theorem dX6_count_60 : decode cX6_count 60 = .ok (.invokevirtual 115, 3) := by decide +kernel
theorem dX6_count_63 : decode cX6_count 63 = .ok (.ireturn, 1) := by decide +kernel
theorem dX6_count_64 : decode cX6_count 64 = .ok (.aload_n 0, 1) := by decide +kernel
theorem dX6_count_65 : decode cX6_count 65 = .ok (.getfield 26, 3) := by decide +kernel
theorem dX6_count_68 : decode cX6_count 68 = .ok (.invokevirtual 273, 3) := by decide +kernel
theorem dX6_count_71 : decode cX6_count 71 = .ok (.ireturn, 1) := by decide +kernel
theorem dX6_count_72 : decode cX6_count 72 = .ok (.aload_n 0, 1) := by decide +kernel
theorem dX6_count_73 : decode cX6_count 73 = .ok (.getfield 26, 3) := by decide +kernel
theorem dX6_count_76 : decode cX6_count 76 = .ok (.invokevirtual 130, 3) := by decide +kernel
theorem dX6_count_79 : decode cX6_count 79 = .ok (.ireturn, 1) := by decide +kernel
theorem dX6_count_80 : decode cX6_count 80 = .ok (.aload_n 0, 1) := by decide +kernel
theorem dX6_count_81 : decode cX6_count 81 = .ok (.getfield 26, 3) := by decide +kernel
theorem dX6_count_84 : decode cX6_count 84 = .ok (.invokevirtual 276, 3) := by decide +kernel
theorem dX6_count_87 : decode cX6_count 87 = .ok (.ifCond .eq 7, 3) := by decide +kernel
theorem dX6_count_90 : decode cX6_count 90 = .ok (.iconst 1, 1) := by decide +kernel
theorem dX6_count_91 : decode cX6_count 91 = .ok (.goto 4, 3) := by decide +kernel
theorem dX6_count_94 : decode cX6_count 94 = .ok (.iconst 0, 1) := by decide +kernel
theorem dX6_count_95 : decode cX6_count 95 = .ok (.ireturn, 1) := by decide +kernel
theorem dX6_count_96 : decode cX6_count 96 = .ok (.aload_n 0, 1) := by decide +kernel
theorem dX6_count_97 : decode cX6_count 97 = .ok (.getfield 26, 3) := by decide +kernel
theorem dX6_count_100 : decode cX6_count 100 = .ok (.invokevirtual 153, 3) := by decide +kernel
theorem dX6_count_103 : decode cX6_count 103 = .ok (.ireturn, 1) := by decide +kernel
theorem dX6_count_104 : decode cX6_count 104 = .ok (.aload_n 0, 1) := by decide +kernel
theorem dX6_count_105 : decode cX6_count 105 = .ok (.getfield 33, 3) := by decide +kernel
theorem dX6_count_108 : decode cX6_count 108 = .ok (.invokevirtual 279, 3) := by decide +kernel
theorem dX6_count_111 : decode cX6_count 111 = .ok (.ireturn, 1) := by decide +kernel
theorem dX6_count_112 : decode cX6_count 112 = .ok (.aload_n 0, 1) := by decide +kernel
theorem dX6_count_113 : decode cX6_count 113 = .ok (.getfield 19, 3) := by decide +kernel
theorem dX6_count_116 : decode cX6_count 116 = .ok (.invokevirtual 282, 3) := by decide +kernel
theorem dX6_count_119 : decode cX6_count 119 = .ok (.ireturn, 1) := by decide +kernel
theorem dX6_count_120 : decode cX6_count 120 = .ok (.ldc 66, 2) := by decide +kernel
theorem dX6_count_122 : decode cX6_count 122 = .ok (.ireturn, 1) := by decide +kernel
theorem dX6_status_0 : decode cX6_status 0 = .ok (.aload_n 0, 1) := by decide +kernel
theorem dX6_status_1 : decode cX6_status 1 = .ok (.getfield 55, 3) := by decide +kernel
theorem dX6_status_4 : decode cX6_status 4 = .ok (.ireturn, 1) := by decide +kernel
theorem dX6_changed_0 : decode cX6_changed 0 = .ok (.aload_n 0, 1) := by decide +kernel
theorem dX6_changed_1 : decode cX6_changed 1 = .ok (.getfield 26, 3) := by decide +kernel
theorem dX6_changed_4 : decode cX6_changed 4 = .ok (.iload_n 1, 1) := by decide +kernel
theorem dX6_changed_5 : decode cX6_changed 5 = .ok (.invokevirtual 173, 3) := by decide +kernel
theorem dX6_changed_8 : decode cX6_changed 8 = .ok (.ifCond .eq 30, 3) := by decide +kernel
theorem dX6_changed_11 : decode cX6_changed 11 = .ok (.aload_n 0, 1) := by decide +kernel
theorem dX6_changed_12 : decode cX6_changed 12 = .ok (.getfield 26, 3) := by decide +kernel
theorem dX6_changed_15 : decode cX6_changed 15 = .ok (.iload_n 2, 1) := by decide +kernel
theorem dX6_changed_16 : decode cX6_changed 16 = .ok (.iload_n 3, 1) := by decide +kernel
theorem dX6_changed_17 : decode cX6_changed 17 = .ok (.invokevirtual 285, 3) := by decide +kernel
theorem dX6_changed_20 : decode cX6_changed 20 = .ok (.ifCond .eq 18, 3) := by decide +kernel
theorem dX6_changed_23 : decode cX6_changed 23 = .ok (.aload_n 0, 1) := by decide +kernel
theorem dX6_changed_24 : decode cX6_changed 24 = .ok (.getfield 26, 3) := by decide +kernel
theorem dX6_changed_27 : decode cX6_changed 27 = .ok (.iload_n 2, 1) := by decide +kernel
theorem dX6_changed_28 : decode cX6_changed 28 = .ok (.iconst 1, 1) := by decide +kernel
theorem dX6_changed_29 : decode cX6_changed 29 = .ok (.iadd, 1) := by decide +kernel
theorem dX6_changed_30 : decode cX6_changed 30 = .ok (.iload 4, 2) := by decide +kernel
theorem dX6_changed_32 : decode cX6_changed 32 = .ok (.invokevirtual 285, 3) := by decide +kernel
theorem dX6_changed_35 : decode cX6_changed 35 = .ok (.ifCond .ne 6, 3) := by decide +kernel
theorem dX6_changed_38 : decode cX6_changed 38 = .ok (.ldc 66, 2) := by decide +kernel
theorem dX6_changed_40 : decode cX6_changed 40 = .ok (.ireturn, 1) := by decide +kernel
theorem dX6_changed_41 : decode cX6_changed 41 = .ok (.aload_n 0, 1) := by decide +kernel
theorem dX6_changed_42 : decode cX6_changed 42 = .ok (.getfield 33, 3) := by decide +kernel
theorem dX6_changed_45 : decode cX6_changed 45 = .ok (.aload_n 0, 1) := by decide +kernel
theorem dX6_changed_46 : decode cX6_changed 46 = .ok (.getfield 26, 3) := by decide +kernel
theorem dX6_changed_49 : decode cX6_changed 49 = .ok (.invokevirtual 134, 3) := by decide +kernel
theorem dX6_changed_52 : decode cX6_changed 52 = .ok (.aload_n 0, 1) := by decide +kernel
theorem dX6_changed_53 : decode cX6_changed 53 = .ok (.getfield 26, 3) := by decide +kernel
theorem dX6_changed_56 : decode cX6_changed 56 = .ok (.iload_n 1, 1) := by decide +kernel
theorem dX6_changed_57 : decode cX6_changed 57 = .ok (.iload_n 2, 1) := by decide +kernel
theorem dX6_changed_58 : decode cX6_changed 58 = .ok (.iload_n 3, 1) := by decide +kernel
theorem dX6_changed_59 : decode cX6_changed 59 = .ok (.invokevirtual 288, 3) := by decide +kernel
theorem dX6_changed_62 : decode cX6_changed 62 = .ok (.aload_n 0, 1) := by decide +kernel
theorem dX6_changed_63 : decode cX6_changed 63 = .ok (.getfield 26, 3) := by decide +kernel
theorem dX6_changed_66 : decode cX6_changed 66 = .ok (.iload_n 1, 1) := by decide +kernel
theorem dX6_changed_67 : decode cX6_changed 67 = .ok (.iload_n 2, 1) := by decide +kernel
theorem dX6_changed_68 : decode cX6_changed 68 = .ok (.iconst 1, 1) := by decide +kernel
theorem dX6_changed_69 : decode cX6_changed 69 = .ok (.iadd, 1) := by decide +kernel
theorem dX6_changed_70 : decode cX6_changed 70 = .ok (.iload 4, 2) := by decide +kernel
theorem dX6_changed_72 : decode cX6_changed 72 = .ok (.invokevirtual 288, 3) := by decide +kernel
theorem dX6_changed_75 : decode cX6_changed 75 = .ok (.aload_n 0, 1) := by decide +kernel
theorem dX6_changed_76 : decode cX6_changed 76 = .ok (.getfield 26, 3) := by decide +kernel
theorem dX6_changed_79 : decode cX6_changed 79 = .ok (.iload_n 1, 1) := by decide +kernel
theorem dX6_changed_80 : decode cX6_changed 80 = .ok (.invokevirtual 202, 3) := by decide +kernel
theorem dX6_changed_83 : decode cX6_changed 83 = .ok (.ireturn, 1) := by decide +kernel
theorem dX6_isTelling_0 : decode cX6_isTelling 0 = .ok (.aload_n 0, 1) := by decide +kernel
theorem dX6_isTelling_1 : decode cX6_isTelling 1 = .ok (.getfield 26, 3) := by decide +kernel
theorem dX6_isTelling_4 : decode cX6_isTelling 4 = .ok (.iload_n 1, 1) := by decide +kernel
theorem dX6_isTelling_5 : decode cX6_isTelling 5 = .ok (.invokevirtual 143, 3) := by decide +kernel
theorem dX6_isTelling_8 : decode cX6_isTelling 8 = .ok (.ifCond .eq 36, 3) := by decide +kernel
theorem dX6_isTelling_11 : decode cX6_isTelling 11 = .ok (.iload_n 2, 1) := by decide +kernel
theorem dX6_isTelling_12 : decode cX6_isTelling 12 = .ok (.invokestatic 183, 3) := by decide +kernel
theorem dX6_isTelling_15 : decode cX6_isTelling 15 = .ok (.ifCond .eq 29, 3) := by decide +kernel
theorem dX6_isTelling_18 : decode cX6_isTelling 18 = .ok (.aload_n 0, 1) := by decide +kernel
theorem dX6_isTelling_19 : decode cX6_isTelling 19 = .ok (.getfield 10, 3) := by decide +kernel
theorem dX6_isTelling_22 : decode cX6_isTelling 22 = .ok (.iload_n 3, 1) := by decide +kernel
theorem dX6_isTelling_23 : decode cX6_isTelling 23 = .ok (.invokevirtual 59, 3) := by decide +kernel
theorem dX6_isTelling_26 : decode cX6_isTelling 26 = .ok (.ifCond .eq 18, 3) := by decide +kernel
theorem dX6_isTelling_29 : decode cX6_isTelling 29 = .ok (.iload 4, 2) := by decide +kernel
theorem dX6_isTelling_31 : decode cX6_isTelling 31 = .ok (.iconst 1, 1) := by decide +kernel
theorem dX6_isTelling_32 : decode cX6_isTelling 32 = .ok (.bipush 12, 2) := by decide +kernel
theorem dX6_isTelling_34 : decode cX6_isTelling 34 = .ok (.invokestatic 92, 3) := by decide +kernel
theorem dX6_isTelling_37 : decode cX6_isTelling 37 = .ok (.ifCond .eq 7, 3) := by decide +kernel
theorem dX6_isTelling_40 : decode cX6_isTelling 40 = .ok (.iconst 1, 1) := by decide +kernel
theorem dX6_isTelling_41 : decode cX6_isTelling 41 = .ok (.goto 4, 3) := by decide +kernel
theorem dX6_isTelling_44 : decode cX6_isTelling 44 = .ok (.iconst 0, 1) := by decide +kernel
theorem dX6_isTelling_45 : decode cX6_isTelling 45 = .ok (.ireturn, 1) := by decide +kernel
theorem dX6_seerOfNow_0 : decode cX6_seerOfNow 0 = .ok (.aload_n 0, 1) := by decide +kernel
theorem dX6_seerOfNow_1 : decode cX6_seerOfNow 1 = .ok (.getfield 44, 3) := by decide +kernel
theorem dX6_seerOfNow_4 : decode cX6_seerOfNow 4 = .ok (.aload_n 0, 1) := by decide +kernel
theorem dX6_seerOfNow_5 : decode cX6_seerOfNow 5 = .ok (.getfield 26, 3) := by decide +kernel
theorem dX6_seerOfNow_8 : decode cX6_seerOfNow 8 = .ok (.invokevirtual 292, 3) := by decide +kernel
theorem dX6_seerOfNow_11 : decode cX6_seerOfNow 11 = .ok (.aload_n 0, 1) := by decide +kernel
theorem dX6_seerOfNow_12 : decode cX6_seerOfNow 12 = .ok (.getfield 44, 3) := by decide +kernel
theorem dX6_seerOfNow_15 : decode cX6_seerOfNow 15 = .ok (.areturn, 1) := by decide +kernel
theorem dX6_seerOfRow_0 : decode cX6_seerOfRow 0 = .ok (.aload_n 0, 1) := by decide +kernel
theorem dX6_seerOfRow_1 : decode cX6_seerOfRow 1 = .ok (.getfield 44, 3) := by decide +kernel
theorem dX6_seerOfRow_4 : decode cX6_seerOfRow 4 = .ok (.aload_n 0, 1) := by decide +kernel
theorem dX6_seerOfRow_5 : decode cX6_seerOfRow 5 = .ok (.getfield 26, 3) := by decide +kernel
theorem dX6_seerOfRow_8 : decode cX6_seerOfRow 8 = .ok (.invokevirtual 292, 3) := by decide +kernel
theorem dX6_seerOfRow_11 : decode cX6_seerOfRow 11 = .ok (.iconst 0, 1) := by decide +kernel
theorem dX6_seerOfRow_12 : decode cX6_seerOfRow 12 = .ok (.istore 4, 2) := by decide +kernel
theorem dX6_seerOfRow_14 : decode cX6_seerOfRow 14 = .ok (.iload 4, 2) := by decide +kernel
theorem dX6_seerOfRow_16 : decode cX6_seerOfRow 16 = .ok (.iload_n 3, 1) := by decide +kernel
theorem dX6_seerOfRow_17 : decode cX6_seerOfRow 17 = .ok (.if_icmp .ge 28, 3) := by decide +kernel
theorem dX6_seerOfRow_20 : decode cX6_seerOfRow 20 = .ok (.aload_n 0, 1) := by decide +kernel
theorem dX6_seerOfRow_21 : decode cX6_seerOfRow 21 = .ok (.getfield 44, 3) := by decide +kernel
theorem dX6_seerOfRow_24 : decode cX6_seerOfRow 24 = .ok (.aload_n 0, 1) := by decide +kernel
theorem dX6_seerOfRow_25 : decode cX6_seerOfRow 25 = .ok (.getfield 10, 3) := by decide +kernel
theorem dX6_seerOfRow_28 : decode cX6_seerOfRow 28 = .ok (.iload_n 1, 1) := by decide +kernel
theorem dX6_seerOfRow_29 : decode cX6_seerOfRow 29 = .ok (.iload_n 2, 1) := by decide +kernel
theorem dX6_seerOfRow_30 : decode cX6_seerOfRow 30 = .ok (.iload 4, 2) := by decide +kernel
theorem dX6_seerOfRow_32 : decode cX6_seerOfRow 32 = .ok (.iadd, 1) := by decide +kernel
theorem dX6_seerOfRow_33 : decode cX6_seerOfRow 33 = .ok (.invokevirtual 295, 3) := by decide +kernel
theorem dX6_seerOfRow_36 : decode cX6_seerOfRow 36 = .ok (.invokevirtual 298, 3) := by decide +kernel
theorem dX6_seerOfRow_39 : decode cX6_seerOfRow 39 = .ok (.iinc 4 1, 3) := by decide +kernel
theorem dX6_seerOfRow_42 : decode cX6_seerOfRow 42 = .ok (.goto (-28), 3) := by decide +kernel
theorem dX6_seerOfRow_45 : decode cX6_seerOfRow 45 = .ok (.aload_n 0, 1) := by decide +kernel
theorem dX6_seerOfRow_46 : decode cX6_seerOfRow 46 = .ok (.getfield 44, 3) := by decide +kernel
theorem dX6_seerOfRow_49 : decode cX6_seerOfRow 49 = .ok (.areturn, 1) := by decide +kernel
theorem dX6_isMinute_0 : decode cX6_isMinute 0 = .ok (.iload_n 0, 1) := by decide +kernel
theorem dX6_isMinute_1 : decode cX6_isMinute 1 = .ok (.iconst 0, 1) := by decide +kernel
theorem dX6_isMinute_2 : decode cX6_isMinute 2 = .ok (.bipush 29, 2) := by decide +kernel
theorem dX6_isMinute_4 : decode cX6_isMinute 4 = .ok (.invokestatic 92, 3) := by decide +kernel
theorem dX6_isMinute_7 : decode cX6_isMinute 7 = .ok (.ireturn, 1) := by decide +kernel
theorem dX6_isFirstOrSecond_0 : decode cX6_isFirstOrSecond 0 = .ok (.iload_n 0, 1) := by decide +kernel
theorem dX6_isFirstOrSecond_1 : decode cX6_isFirstOrSecond 1 = .ok (.ifCond .eq 8, 3) := by decide +kernel
theorem dX6_isFirstOrSecond_4 : decode cX6_isFirstOrSecond 4 = .ok (.iload_n 0, 1) := by decide +kernel
theorem dX6_isFirstOrSecond_5 : decode cX6_isFirstOrSecond 5 = .ok (.iconst 1, 1) := by decide +kernel
theorem dX6_isFirstOrSecond_6 : decode cX6_isFirstOrSecond 6 = .ok (.if_icmp .ne 7, 3) := by decide +kernel
theorem dX6_isFirstOrSecond_9 : decode cX6_isFirstOrSecond 9 = .ok (.iconst 1, 1) := by decide +kernel
theorem dX6_isFirstOrSecond_10 : decode cX6_isFirstOrSecond 10 = .ok (.goto 4, 3) := by decide +kernel
theorem dX6_isFirstOrSecond_13 : decode cX6_isFirstOrSecond 13 = .ok (.iconst 0, 1) := by decide +kernel
theorem dX6_isFirstOrSecond_14 : decode cX6_isFirstOrSecond 14 = .ok (.ireturn, 1) := by decide +kernel
theorem dX6_isWithin_0 : decode cX6_isWithin 0 = .ok (.iload_n 0, 1) := by decide +kernel
theorem dX6_isWithin_1 : decode cX6_isWithin 1 = .ok (.iload_n 1, 1) := by decide +kernel
theorem dX6_isWithin_2 : decode cX6_isWithin 2 = .ok (.if_icmp .lt 12, 3) := by decide +kernel
theorem dX6_isWithin_5 : decode cX6_isWithin 5 = .ok (.iload_n 0, 1) := by decide +kernel
theorem dX6_isWithin_6 : decode cX6_isWithin 6 = .ok (.iload_n 2, 1) := by decide +kernel
theorem dX6_isWithin_7 : decode cX6_isWithin 7 = .ok (.if_icmp .gt 7, 3) := by decide +kernel
theorem dX6_isWithin_10 : decode cX6_isWithin 10 = .ok (.iconst 1, 1) := by decide +kernel
theorem dX6_isWithin_11 : decode cX6_isWithin 11 = .ok (.goto 4, 3) := by decide +kernel
theorem dX6_isWithin_14 : decode cX6_isWithin 14 = .ok (.iconst 0, 1) := by decide +kernel
theorem dX6_isWithin_15 : decode cX6_isWithin 15 = .ok (.ireturn, 1) := by decide +kernel
theorem dX7_init_0 : decode cX7_init 0 = .ok (.aload_n 0, 1) := by decide +kernel
theorem dX7_init_1 : decode cX7_init 1 = .ok (.invokespecial 1, 3) := by decide +kernel
theorem dX7_init_4 : decode cX7_init 4 = .ok (.aload_n 0, 1) := by decide +kernel
theorem dX7_init_5 : decode cX7_init 5 = .ok (.bipush 8, 2) := by decide +kernel
theorem dX7_init_7 : decode cX7_init 7 = .ok (.newarray .int, 2) := by decide +kernel
theorem dX7_init_9 : decode cX7_init 9 = .ok (.putfield 7, 3) := by decide +kernel
theorem dX7_init_12 : decode cX7_init 12 = .ok (.aload_n 0, 1) := by decide +kernel
theorem dX7_init_13 : decode cX7_init 13 = .ok (.bipush 8, 2) := by decide +kernel
theorem dX7_init_15 : decode cX7_init 15 = .ok (.newarray .int, 2) := by decide +kernel
theorem dX7_init_17 : decode cX7_init 17 = .ok (.putfield 13, 3) := by decide +kernel
theorem dX7_init_20 : decode cX7_init 20 = .ok (.aload_n 0, 1) := by decide +kernel
theorem dX7_init_21 : decode cX7_init 21 = .ok (.sipush 320, 3) := by decide +kernel
theorem dX7_init_24 : decode cX7_init 24 = .ok (.newarray .int, 2) := by decide +kernel
theorem dX7_init_26 : decode cX7_init 26 = .ok (.putfield 16, 3) := by decide +kernel
theorem dX7_init_29 : decode cX7_init 29 = .ok (.aload_n 0, 1) := by decide +kernel
theorem dX7_init_30 : decode cX7_init 30 = .ok (.bipush 49, 2) := by decide +kernel
theorem dX7_init_32 : decode cX7_init 32 = .ok (.newarray .int, 2) := by decide +kernel
theorem dX7_init_34 : decode cX7_init 34 = .ok (.putfield 19, 3) := by decide +kernel
theorem dX7_init_37 : decode cX7_init 37 = .ok (.aload_n 0, 1) := by decide +kernel
theorem dX7_init_38 : decode cX7_init 38 = .ok (.bipush 40, 2) := by decide +kernel
theorem dX7_init_40 : decode cX7_init 40 = .ok (.newarray .int, 2) := by decide +kernel
theorem dX7_init_42 : decode cX7_init 42 = .ok (.putfield 22, 3) := by decide +kernel
theorem dX7_init_45 : decode cX7_init 45 = .ok (.aload_n 0, 1) := by decide +kernel
theorem dX7_init_46 : decode cX7_init 46 = .ok (.bipush 100, 2) := by decide +kernel
theorem dX7_init_48 : decode cX7_init 48 = .ok (.newarray .int, 2) := by decide +kernel
theorem dX7_init_50 : decode cX7_init 50 = .ok (.putfield 25, 3) := by decide +kernel
theorem dX7_init_53 : decode cX7_init 53 = .ok (.aload_n 0, 1) := by decide +kernel
theorem dX7_init_54 : decode cX7_init 54 = .ok (.bipush 49, 2) := by decide +kernel
theorem dX7_init_56 : decode cX7_init 56 = .ok (.newarray .int, 2) := by decide +kernel
theorem dX7_init_58 : decode cX7_init 58 = .ok (.putfield 28, 3) := by decide +kernel
theorem dX7_init_61 : decode cX7_init 61 = .ok (.aload_n 0, 1) := by decide +kernel
theorem dX7_init_62 : decode cX7_init 62 = .ok (.sipush 1176, 3) := by decide +kernel
theorem dX7_init_65 : decode cX7_init 65 = .ok (.newarray .int, 2) := by decide +kernel
theorem dX7_init_67 : decode cX7_init 67 = .ok (.putfield 31, 3) := by decide +kernel
theorem dX7_init_70 : decode cX7_init 70 = .ok (.aload_n 0, 1) := by decide +kernel
theorem dX7_init_71 : decode cX7_init 71 = .ok (.bipush 49, 2) := by decide +kernel
theorem dX7_init_73 : decode cX7_init 73 = .ok (.newarray .int, 2) := by decide +kernel
theorem dX7_init_75 : decode cX7_init 75 = .ok (.putfield 34, 3) := by decide +kernel
theorem dX7_init_78 : decode cX7_init 78 = .ok (.aload_n 0, 1) := by decide +kernel
theorem dX7_init_79 : decode cX7_init 79 = .ok (.iconst 2, 1) := by decide +kernel
theorem dX7_init_80 : decode cX7_init 80 = .ok (.newarray .boolean, 2) := by decide +kernel
theorem dX7_init_82 : decode cX7_init 82 = .ok (.putfield 37, 3) := by decide +kernel
theorem dX7_init_85 : decode cX7_init 85 = .ok (.aload_n 0, 1) := by decide +kernel
theorem dX7_init_86 : decode cX7_init 86 = .ok (.bipush 98, 2) := by decide +kernel
theorem dX7_init_88 : decode cX7_init 88 = .ok (.newarray .int, 2) := by decide +kernel
theorem dX7_init_90 : decode cX7_init 90 = .ok (.putfield 41, 3) := by decide +kernel
theorem dX7_init_93 : decode cX7_init 93 = .ok (.aload_n 0, 1) := by decide +kernel
theorem dX7_init_94 : decode cX7_init 94 = .ok (.bipush 16, 2) := by decide +kernel
theorem dX7_init_96 : decode cX7_init 96 = .ok (.newarray .int, 2) := by decide +kernel
theorem dX7_init_98 : decode cX7_init 98 = .ok (.putfield 44, 3) := by decide +kernel
theorem dX7_init_101 : decode cX7_init 101 = .ok (.iconst 0, 1) := by decide +kernel
theorem dX7_init_102 : decode cX7_init 102 = .ok (.istore_n 1, 1) := by decide +kernel
theorem dX7_init_103 : decode cX7_init 103 = .ok (.iload_n 1, 1) := by decide +kernel
theorem dX7_init_104 : decode cX7_init 104 = .ok (.bipush 8, 2) := by decide +kernel
theorem dX7_init_106 : decode cX7_init 106 = .ok (.if_icmp .ge 16, 3) := by decide +kernel
theorem dX7_init_109 : decode cX7_init 109 = .ok (.aload_n 0, 1) := by decide +kernel
theorem dX7_init_110 : decode cX7_init 110 = .ok (.getfield 13, 3) := by decide +kernel
theorem dX7_init_113 : decode cX7_init 113 = .ok (.iload_n 1, 1) := by decide +kernel
theorem dX7_init_114 : decode cX7_init 114 = .ok (.iconst (-1), 1) := by decide +kernel
theorem dX7_init_115 : decode cX7_init 115 = .ok (.iastore, 1) := by decide +kernel
theorem dX7_init_116 : decode cX7_init 116 = .ok (.iinc 1 1, 3) := by decide +kernel
theorem dX7_init_119 : decode cX7_init 119 = .ok (.goto (-16), 3) := by decide +kernel
theorem dX7_init_122 : decode cX7_init 122 = .ok (.return_, 1) := by decide +kernel
theorem dX7_in_0 : decode cX7_in 0 = .ok (.lload_n 0, 1) := by decide +kernel
theorem dX7_in_1 : decode cX7_in 1 = .ok (.lload_n 2, 1) := by decide +kernel
theorem dX7_in_2 : decode cX7_in 2 = .ok (.lcmp, 1) := by decide +kernel
theorem dX7_in_3 : decode cX7_in 3 = .ok (.ifCond .lt 14, 3) := by decide +kernel
theorem dX7_in_6 : decode cX7_in 6 = .ok (.lload_n 0, 1) := by decide +kernel
theorem dX7_in_7 : decode cX7_in 7 = .ok (.lload 4, 2) := by decide +kernel
theorem dX7_in_9 : decode cX7_in 9 = .ok (.lcmp, 1) := by decide +kernel
theorem dX7_in_10 : decode cX7_in 10 = .ok (.ifCond .gt 7, 3) := by decide +kernel
theorem dX7_in_13 : decode cX7_in 13 = .ok (.iconst 1, 1) := by decide +kernel
theorem dX7_in_14 : decode cX7_in 14 = .ok (.goto 4, 3) := by decide +kernel
theorem dX7_in_17 : decode cX7_in 17 = .ok (.iconst 0, 1) := by decide +kernel
theorem dX7_in_18 : decode cX7_in 18 = .ok (.ireturn, 1) := by decide +kernel
theorem dX7_has_0 : decode cX7_has 0 = .ok (.iload_n 0, 1) := by decide +kernel
theorem dX7_has_1 : decode cX7_has 1 = .ok (.iload_n 1, 1) := by decide +kernel
theorem dX7_has_2 : decode cX7_has 2 = .ok (.ishr, 1) := by decide +kernel
theorem dX7_has_3 : decode cX7_has 3 = .ok (.iconst 1, 1) := by decide +kernel
theorem dX7_has_4 : decode cX7_has 4 = .ok (.iand, 1) := by decide +kernel
theorem dX7_has_5 : decode cX7_has 5 = .ok (.iconst 1, 1) := by decide +kernel
theorem dX7_has_6 : decode cX7_has 6 = .ok (.if_icmp .ne 7, 3) := by decide +kernel
theorem dX7_has_9 : decode cX7_has 9 = .ok (.iconst 1, 1) := by decide +kernel
theorem dX7_has_10 : decode cX7_has 10 = .ok (.goto 4, 3) := by decide +kernel
theorem dX7_has_13 : decode cX7_has 13 = .ok (.iconst 0, 1) := by decide +kernel
theorem dX7_has_14 : decode cX7_has 14 = .ok (.ireturn, 1) := by decide +kernel
theorem dX7_ones_0 : decode cX7_ones 0 = .ok (.iconst 0, 1) := by decide +kernel
theorem dX7_ones_1 : decode cX7_ones 1 = .ok (.istore_n 1, 1) := by decide +kernel
theorem dX7_ones_2 : decode cX7_ones 2 = .ok (.iload_n 0, 1) := by decide +kernel
theorem dX7_ones_3 : decode cX7_ones 3 = .ok (.istore_n 2, 1) := by decide +kernel
theorem dX7_ones_4 : decode cX7_ones 4 = .ok (.iload_n 2, 1) := by decide +kernel
theorem dX7_ones_5 : decode cX7_ones 5 = .ok (.ifCond .eq 15, 3) := by decide +kernel
theorem dX7_ones_8 : decode cX7_ones 8 = .ok (.iinc 1 1, 3) := by decide +kernel
theorem dX7_ones_11 : decode cX7_ones 11 = .ok (.iload_n 2, 1) := by decide +kernel
theorem dX7_ones_12 : decode cX7_ones 12 = .ok (.iload_n 2, 1) := by decide +kernel
theorem dX7_ones_13 : decode cX7_ones 13 = .ok (.iconst 1, 1) := by decide +kernel
theorem dX7_ones_14 : decode cX7_ones 14 = .ok (.isub, 1) := by decide +kernel
theorem dX7_ones_15 : decode cX7_ones 15 = .ok (.iand, 1) := by decide +kernel
theorem dX7_ones_16 : decode cX7_ones 16 = .ok (.istore_n 2, 1) := by decide +kernel
theorem dX7_ones_17 : decode cX7_ones 17 = .ok (.goto (-13), 3) := by decide +kernel
theorem dX7_ones_20 : decode cX7_ones 20 = .ok (.iload_n 1, 1) := by decide +kernel
theorem dX7_ones_21 : decode cX7_ones 21 = .ok (.ireturn, 1) := by decide +kernel
theorem dX7_find_0 : decode cX7_find 0 = .ok (.aload_n 0, 1) := by decide +kernel
theorem dX7_find_1 : decode cX7_find 1 = .ok (.iload_n 1, 1) := by decide +kernel
theorem dX7_find_2 : decode cX7_find 2 = .ok (.putfield 47, 3) := by decide +kernel
theorem dX7_find_5 : decode cX7_find 5 = .ok (.ldc 51, 2) := by decide +kernel
theorem dX7_find_7 : decode cX7_find 7 = .ok (.iload_n 1, 1) := by decide +kernel
theorem dX7_find_8 : decode cX7_find 8 = .ok (.isub, 1) := by decide +kernel
theorem dX7_find_9 : decode cX7_find 9 = .ok (.ireturn, 1) := by decide +kernel
theorem dX7_well_0 : decode cX7_well 0 = .ok (.aload_n 0, 1) := by decide +kernel
theorem dX7_well_1 : decode cX7_well 1 = .ok (.iconst 0, 1) := by decide +kernel
theorem dX7_well_2 : decode cX7_well 2 = .ok (.putfield 47, 3) := by decide +kernel
theorem dX7_well_5 : decode cX7_well 5 = .ok (.iload_n 1, 1) := by decide +kernel
theorem dX7_well_6 : decode cX7_well 6 = .ok (.ireturn, 1) := by decide +kernel
theorem dX7_isRow_0 : decode cX7_isRow 0 = .ok (.iload_n 0, 1) := by decide +kernel
theorem dX7_isRow_1 : decode cX7_isRow 1 = .ok (.i2l, 1) := by decide +kernel
theorem dX7_isRow_2 : decode cX7_isRow 2 = .ok (.lconst 0, 1) := by decide +kernel
theorem dX7_isRow_3 : decode cX7_isRow 3 = .ok (.ldc2_w 52, 3) := by decide +kernel
theorem dX7_isRow_6 : decode cX7_isRow 6 = .ok (.invokestatic 54, 3) := by decide +kernel
theorem dX7_isRow_9 : decode cX7_isRow 9 = .ok (.ireturn, 1) := by decide +kernel
theorem dX7_row_0 : decode cX7_row 0 = .ok (.iload_n 1, 1) := by decide +kernel
theorem dX7_row_1 : decode cX7_row 1 = .ok (.invokestatic 58, 3) := by decide +kernel
theorem dX7_row_4 : decode cX7_row 4 = .ok (.ifCond .eq 21, 3) := by decide +kernel
theorem dX7_row_7 : decode cX7_row 7 = .ok (.iload_n 2, 1) := by decide +kernel
theorem dX7_row_8 : decode cX7_row 8 = .ok (.i2l, 1) := by decide +kernel
theorem dX7_row_9 : decode cX7_row 9 = .ok (.lconst 0, 1) := by decide +kernel
theorem dX7_row_10 : decode cX7_row 10 = .ok (.ldc2_w 62, 3) := by decide +kernel
theorem dX7_row_13 : decode cX7_row 13 = .ok (.invokestatic 54, 3) := by decide +kernel
theorem dX7_row_16 : decode cX7_row 16 = .ok (.ifCond .eq 9, 3) := by decide +kernel
theorem dX7_row_19 : decode cX7_row 19 = .ok (.iload_n 3, 1) := by decide +kernel
theorem dX7_row_20 : decode cX7_row 20 = .ok (.bipush 40, 2) := by decide +kernel
theorem dX7_row_22 : decode cX7_row 22 = .ok (.if_icmp .le 6, 3) := by decide +kernel
theorem dX7_row_25 : decode cX7_row 25 = .ok (.ldc 64, 2) := by decide +kernel
theorem dX7_row_27 : decode cX7_row 27 = .ok (.ireturn, 1) := by decide +kernel
theorem dX7_row_28 : decode cX7_row 28 = .ok (.iload_n 3, 1) := by decide +kernel
theorem dX7_row_29 : decode cX7_row 29 = .ok (.ifCond .ge 9, 3) := by decide +kernel
theorem dX7_row_32 : decode cX7_row 32 = .ok (.aload_n 0, 1) := by decide +kernel
theorem dX7_row_33 : decode cX7_row 33 = .ok (.iconst 4, 1) := by decide +kernel
theorem dX7_row_34 : decode cX7_row 34 = .ok (.invokevirtual 65, 3) := by decide +kernel
theorem dX7_row_37 : decode cX7_row 37 = .ok (.ireturn, 1) := by decide +kernel
theorem dX7_row_38 : decode cX7_row 38 = .ok (.aload_n 0, 1) := by decide +kernel
theorem dX7_row_39 : decode cX7_row 39 = .ok (.getfield 7, 3) := by decide +kernel
theorem dX7_row_42 : decode cX7_row 42 = .ok (.iload_n 1, 1) := by decide +kernel
theorem dX7_row_43 : decode cX7_row 43 = .ok (.iload_n 2, 1) := by decide +kernel
theorem dX7_row_44 : decode cX7_row 44 = .ok (.iastore, 1) := by decide +kernel
theorem dX7_row_45 : decode cX7_row 45 = .ok (.aload_n 0, 1) := by decide +kernel
theorem dX7_row_46 : decode cX7_row 46 = .ok (.getfield 13, 3) := by decide +kernel
theorem dX7_row_49 : decode cX7_row 49 = .ok (.iload_n 1, 1) := by decide +kernel
theorem dX7_row_50 : decode cX7_row 50 = .ok (.iload_n 3, 1) := by decide +kernel
theorem dX7_row_51 : decode cX7_row 51 = .ok (.iastore, 1) := by decide +kernel
theorem dX7_row_52 : decode cX7_row 52 = .ok (.iconst 0, 1) := by decide +kernel
theorem dX7_row_53 : decode cX7_row 53 = .ok (.istore 4, 2) := by decide +kernel
theorem dX7_row_55 : decode cX7_row 55 = .ok (.iload 4, 2) := by decide +kernel
theorem dX7_row_57 : decode cX7_row 57 = .ok (.bipush 40, 2) := by decide +kernel
theorem dX7_row_59 : decode cX7_row 59 = .ok (.if_icmp .ge 22, 3) := by decide +kernel
theorem dX7_row_62 : decode cX7_row 62 = .ok (.aload_n 0, 1) := by decide +kernel
theorem dX7_row_63 : decode cX7_row 63 = .ok (.getfield 16, 3) := by decide +kernel
theorem dX7_row_66 : decode cX7_row 66 = .ok (.bipush 40, 2) := by decide +kernel
theorem dX7_row_68 : decode cX7_row 68 = .ok (.iload_n 1, 1) := by decide +kernel
theorem dX7_row_69 : decode cX7_row 69 = .ok (.imul, 1) := by decide +kernel
theorem dX7_row_70 : decode cX7_row 70 = .ok (.iload 4, 2) := by decide +kernel
theorem dX7_row_72 : decode cX7_row 72 = .ok (.iadd, 1) := by decide +kernel
theorem dX7_row_73 : decode cX7_row 73 = .ok (.iconst 0, 1) := by decide +kernel
theorem dX7_row_74 : decode cX7_row 74 = .ok (.iastore, 1) := by decide +kernel
theorem dX7_row_75 : decode cX7_row 75 = .ok (.iinc 4 1, 3) := by decide +kernel
theorem dX7_row_78 : decode cX7_row 78 = .ok (.goto (-23), 3) := by decide +kernel
theorem dX7_row_81 : decode cX7_row 81 = .ok (.aload_n 0, 1) := by decide +kernel
theorem dX7_row_82 : decode cX7_row 82 = .ok (.iload_n 3, 1) := by decide +kernel
theorem dX7_row_83 : decode cX7_row 83 = .ok (.invokevirtual 69, 3) := by decide +kernel
theorem dX7_row_86 : decode cX7_row 86 = .ok (.ireturn, 1) := by decide +kernel
theorem dX7_asLane_0 : decode cX7_asLane 0 = .ok (.iload_n 0, 1) := by decide +kernel
theorem dX7_asLane_1 : decode cX7_asLane 1 = .ok (.ifCond .ne 13, 3) := by decide +kernel
theorem dX7_asLane_4 : decode cX7_asLane 4 = .ok (.iload_n 1, 1) := by decide +kernel
theorem dX7_asLane_5 : decode cX7_asLane 5 = .ok (.bipush 24, 2) := by decide +kernel
theorem dX7_asLane_7 : decode cX7_asLane 7 = .ok (.ishl, 1) := by decide +kernel
theorem dX7_asLane_8 : decode cX7_asLane 8 = .ok (.bipush 24, 2) := by decide +kernel
theorem dX7_asLane_10 : decode cX7_asLane 10 = .ok (.ishr, 1) := by decide +kernel
theorem dX7_asLane_11 : decode cX7_asLane 11 = .ok (.goto 19, 3) := by decide +kernel
theorem dX7_asLane_14 : decode cX7_asLane 14 = .ok (.iload_n 0, 1) := by decide +kernel
theorem dX7_asLane_15 : decode cX7_asLane 15 = .ok (.iconst 1, 1) := by decide +kernel
theorem dX7_asLane_16 : decode cX7_asLane 16 = .ok (.if_icmp .ne 13, 3) := by decide +kernel
theorem dX7_asLane_19 : decode cX7_asLane 19 = .ok (.iload_n 1, 1) := by decide +kernel
theorem dX7_asLane_20 : decode cX7_asLane 20 = .ok (.bipush 16, 2) := by decide +kernel
theorem dX7_asLane_22 : decode cX7_asLane 22 = .ok (.ishl, 1) := by decide +kernel
theorem dX7_asLane_23 : decode cX7_asLane 23 = .ok (.bipush 16, 2) := by decide +kernel
theorem dX7_asLane_25 : decode cX7_asLane 25 = .ok (.ishr, 1) := by decide +kernel
theorem dX7_asLane_26 : decode cX7_asLane 26 = .ok (.goto 4, 3) := by decide +kernel
theorem dX7_asLane_29 : decode cX7_asLane 29 = .ok (.iload_n 1, 1) := by decide +kernel
theorem dX7_asLane_30 : decode cX7_asLane 30 = .ok (.ireturn, 1) := by decide +kernel
theorem dX7_set_0 : decode cX7_set 0 = .ok (.iload_n 1, 1) := by decide +kernel
theorem dX7_set_1 : decode cX7_set 1 = .ok (.invokestatic 58, 3) := by decide +kernel
theorem dX7_set_4 : decode cX7_set 4 = .ok (.ifCond .ne 6, 3) := by decide +kernel
theorem dX7_set_7 : decode cX7_set 7 = .ok (.ldc 64, 2) := by decide +kernel
theorem dX7_set_9 : decode cX7_set 9 = .ok (.ireturn, 1) := by decide +kernel
theorem dX7_set_10 : decode cX7_set 10 = .ok (.aload_n 0, 1) := by decide +kernel
theorem dX7_set_11 : decode cX7_set 11 = .ok (.getfield 13, 3) := by decide +kernel
theorem dX7_set_14 : decode cX7_set 14 = .ok (.iload_n 1, 1) := by decide +kernel
theorem dX7_set_15 : decode cX7_set 15 = .ok (.iaload, 1) := by decide +kernel
theorem dX7_set_16 : decode cX7_set 16 = .ok (.ifCond .ge 9, 3) := by decide +kernel
theorem dX7_set_19 : decode cX7_set 19 = .ok (.aload_n 0, 1) := by decide +kernel
theorem dX7_set_20 : decode cX7_set 20 = .ok (.iconst 1, 1) := by decide +kernel
theorem dX7_set_21 : decode cX7_set 21 = .ok (.invokevirtual 65, 3) := by decide +kernel
theorem dX7_set_24 : decode cX7_set 24 = .ok (.ireturn, 1) := by decide +kernel
theorem dX7_set_25 : decode cX7_set 25 = .ok (.iload_n 2, 1) := by decide +kernel
theorem dX7_set_26 : decode cX7_set 26 = .ok (.i2l, 1) := by decide +kernel
theorem dX7_set_27 : decode cX7_set 27 = .ok (.lconst 0, 1) := by decide +kernel
theorem dX7_set_28 : decode cX7_set 28 = .ok (.aload_n 0, 1) := by decide +kernel
theorem dX7_set_29 : decode cX7_set 29 = .ok (.getfield 13, 3) := by decide +kernel
theorem dX7_set_32 : decode cX7_set 32 = .ok (.iload_n 1, 1) := by decide +kernel
theorem dX7_set_33 : decode cX7_set 33 = .ok (.iaload, 1) := by decide +kernel
theorem dX7_set_34 : decode cX7_set 34 = .ok (.iconst 1, 1) := by decide +kernel
theorem dX7_set_35 : decode cX7_set 35 = .ok (.isub, 1) := by decide +kernel
theorem dX7_set_36 : decode cX7_set 36 = .ok (.i2l, 1) := by decide +kernel
theorem dX7_set_37 : decode cX7_set 37 = .ok (.invokestatic 54, 3) := by decide +kernel
theorem dX7_set_40 : decode cX7_set 40 = .ok (.ifCond .ne 9, 3) := by decide +kernel
theorem dX7_set_43 : decode cX7_set 43 = .ok (.aload_n 0, 1) := by decide +kernel
theorem dX7_set_44 : decode cX7_set 44 = .ok (.iconst 2, 1) := by decide +kernel
theorem dX7_set_45 : decode cX7_set 45 = .ok (.invokevirtual 65, 3) := by decide +kernel
theorem dX7_set_48 : decode cX7_set 48 = .ok (.ireturn, 1) := by decide +kernel
theorem dX7_set_49 : decode cX7_set 49 = .ok (.aload_n 0, 1) := by decide +kernel
theorem dX7_set_50 : decode cX7_set 50 = .ok (.getfield 16, 3) := by decide +kernel
theorem dX7_set_53 : decode cX7_set 53 = .ok (.bipush 40, 2) := by decide +kernel
theorem dX7_set_55 : decode cX7_set 55 = .ok (.iload_n 1, 1) := by decide +kernel
theorem dX7_set_56 : decode cX7_set 56 = .ok (.imul, 1) := by decide +kernel
theorem dX7_set_57 : decode cX7_set 57 = .ok (.iload_n 2, 1) := by decide +kernel
theorem dX7_set_58 : decode cX7_set 58 = .ok (.iadd, 1) := by decide +kernel
theorem dX7_set_59 : decode cX7_set 59 = .ok (.aload_n 0, 1) := by decide +kernel
theorem dX7_set_60 : decode cX7_set 60 = .ok (.getfield 7, 3) := by decide +kernel
theorem dX7_set_63 : decode cX7_set 63 = .ok (.iload_n 1, 1) := by decide +kernel
theorem dX7_set_64 : decode cX7_set 64 = .ok (.iaload, 1) := by decide +kernel
theorem dX7_set_65 : decode cX7_set 65 = .ok (.iload_n 3, 1) := by decide +kernel
theorem dX7_set_66 : decode cX7_set 66 = .ok (.invokestatic 72, 3) := by decide +kernel
theorem dX7_set_69 : decode cX7_set 69 = .ok (.iastore, 1) := by decide +kernel
theorem dX7_set_70 : decode cX7_set 70 = .ok (.aload_n 0, 1) := by decide +kernel
theorem dX7_set_71 : decode cX7_set 71 = .ok (.aload_n 0, 1) := by decide +kernel
theorem dX7_set_72 : decode cX7_set 72 = .ok (.getfield 16, 3) := by decide +kernel
theorem dX7_set_75 : decode cX7_set 75 = .ok (.bipush 40, 2) := by decide +kernel
theorem dX7_set_77 : decode cX7_set 77 = .ok (.iload_n 1, 1) := by decide +kernel
theorem dX7_set_78 : decode cX7_set 78 = .ok (.imul, 1) := by decide +kernel
theorem dX7_set_79 : decode cX7_set 79 = .ok (.iload_n 2, 1) := by decide +kernel
theorem dX7_set_80 : decode cX7_set 80 = .ok (.iadd, 1) := by decide +kernel
theorem dX7_set_81 : decode cX7_set 81 = .ok (.iaload, 1) := by decide +kernel
theorem dX7_set_82 : decode cX7_set 82 = .ok (.invokevirtual 69, 3) := by decide +kernel
theorem dX7_set_85 : decode cX7_set 85 = .ok (.ireturn, 1) := by decide +kernel
theorem dX7_copy_0 : decode cX7_copy 0 = .ok (.iload_n 1, 1) := by decide +kernel
theorem dX7_copy_1 : decode cX7_copy 1 = .ok (.invokestatic 58, 3) := by decide +kernel
theorem dX7_copy_4 : decode cX7_copy 4 = .ok (.ifCond .eq 10, 3) := by decide +kernel
theorem dX7_copy_7 : decode cX7_copy 7 = .ok (.iload_n 3, 1) := by decide +kernel
theorem dX7_copy_8 : decode cX7_copy 8 = .ok (.invokestatic 58, 3) := by decide +kernel
theorem dX7_copy_11 : decode cX7_copy 11 = .ok (.ifCond .ne 6, 3) := by decide +kernel
theorem dX7_copy_14 : decode cX7_copy 14 = .ok (.ldc 64, 2) := by decide +kernel
theorem dX7_copy_16 : decode cX7_copy 16 = .ok (.ireturn, 1) := by decide +kernel
theorem dX7_copy_17 : decode cX7_copy 17 = .ok (.aload_n 0, 1) := by decide +kernel
theorem dX7_copy_18 : decode cX7_copy 18 = .ok (.getfield 13, 3) := by decide +kernel
theorem dX7_copy_21 : decode cX7_copy 21 = .ok (.iload_n 1, 1) := by decide +kernel
theorem dX7_copy_22 : decode cX7_copy 22 = .ok (.iaload, 1) := by decide +kernel
theorem dX7_copy_23 : decode cX7_copy 23 = .ok (.ifCond .lt 12, 3) := by decide +kernel
theorem dX7_copy_26 : decode cX7_copy 26 = .ok (.aload_n 0, 1) := by decide +kernel
theorem dX7_copy_27 : decode cX7_copy 27 = .ok (.getfield 13, 3) := by decide +kernel
theorem dX7_copy_30 : decode cX7_copy 30 = .ok (.iload_n 3, 1) := by decide +kernel
theorem dX7_copy_31 : decode cX7_copy 31 = .ok (.iaload, 1) := by decide +kernel
theorem dX7_copy_32 : decode cX7_copy 32 = .ok (.ifCond .ge 9, 3) := by decide +kernel
theorem dX7_copy_35 : decode cX7_copy 35 = .ok (.aload_n 0, 1) := by decide +kernel
theorem dX7_copy_36 : decode cX7_copy 36 = .ok (.iconst 1, 1) := by decide +kernel
theorem dX7_copy_37 : decode cX7_copy 37 = .ok (.invokevirtual 65, 3) := by decide +kernel
theorem dX7_copy_40 : decode cX7_copy 40 = .ok (.ireturn, 1) := by decide +kernel
theorem dX7_copy_41 : decode cX7_copy 41 = .ok (.aload_n 0, 1) := by decide +kernel
theorem dX7_copy_42 : decode cX7_copy 42 = .ok (.getfield 7, 3) := by decide +kernel
theorem dX7_copy_45 : decode cX7_copy 45 = .ok (.iload_n 1, 1) := by decide +kernel
theorem dX7_copy_46 : decode cX7_copy 46 = .ok (.iaload, 1) := by decide +kernel
theorem dX7_copy_47 : decode cX7_copy 47 = .ok (.aload_n 0, 1) := by decide +kernel
theorem dX7_copy_48 : decode cX7_copy 48 = .ok (.getfield 7, 3) := by decide +kernel
theorem dX7_copy_51 : decode cX7_copy 51 = .ok (.iload_n 3, 1) := by decide +kernel
theorem dX7_copy_52 : decode cX7_copy 52 = .ok (.iaload, 1) := by decide +kernel
theorem dX7_copy_53 : decode cX7_copy 53 = .ok (.if_icmp .eq 9, 3) := by decide +kernel
theorem dX7_copy_56 : decode cX7_copy 56 = .ok (.aload_n 0, 1) := by decide +kernel
theorem dX7_copy_57 : decode cX7_copy 57 = .ok (.iconst 5, 1) := by decide +kernel
theorem dX7_copy_58 : decode cX7_copy 58 = .ok (.invokevirtual 65, 3) := by decide +kernel
theorem dX7_copy_61 : decode cX7_copy 61 = .ok (.ireturn, 1) := by decide +kernel
theorem dX7_copy_62 : decode cX7_copy 62 = .ok (.iload 5, 2) := by decide +kernel
theorem dX7_copy_64 : decode cX7_copy 64 = .ok (.ifCond .lt 44, 3) := by decide +kernel
theorem dX7_copy_67 : decode cX7_copy 67 = .ok (.iload_n 2, 1) := by decide +kernel
theorem dX7_copy_68 : decode cX7_copy 68 = .ok (.i2l, 1) := by decide +kernel
theorem dX7_copy_69 : decode cX7_copy 69 = .ok (.lconst 0, 1) := by decide +kernel
theorem dX7_copy_70 : decode cX7_copy 70 = .ok (.aload_n 0, 1) := by decide +kernel
theorem dX7_copy_71 : decode cX7_copy 71 = .ok (.getfield 13, 3) := by decide +kernel
theorem dX7_copy_74 : decode cX7_copy 74 = .ok (.iload_n 1, 1) := by decide +kernel
theorem dX7_copy_75 : decode cX7_copy 75 = .ok (.iaload, 1) := by decide +kernel
theorem dX7_copy_76 : decode cX7_copy 76 = .ok (.i2l, 1) := by decide +kernel
theorem dX7_copy_77 : decode cX7_copy 77 = .ok (.iload 5, 2) := by decide +kernel
theorem dX7_copy_79 : decode cX7_copy 79 = .ok (.i2l, 1) := by decide +kernel
theorem dX7_copy_80 : decode cX7_copy 80 = .ok (.lsub, 1) := by decide +kernel
theorem dX7_copy_81 : decode cX7_copy 81 = .ok (.invokestatic 54, 3) := by decide +kernel
theorem dX7_copy_84 : decode cX7_copy 84 = .ok (.ifCond .eq 24, 3) := by decide +kernel
theorem dX7_copy_87 : decode cX7_copy 87 = .ok (.iload 4, 2) := by decide +kernel
theorem dX7_copy_89 : decode cX7_copy 89 = .ok (.i2l, 1) := by decide +kernel
theorem dX7_copy_90 : decode cX7_copy 90 = .ok (.lconst 0, 1) := by decide +kernel
theorem dX7_copy_91 : decode cX7_copy 91 = .ok (.aload_n 0, 1) := by decide +kernel
theorem dX7_copy_92 : decode cX7_copy 92 = .ok (.getfield 13, 3) := by decide +kernel
theorem dX7_copy_95 : decode cX7_copy 95 = .ok (.iload_n 3, 1) := by decide +kernel
theorem dX7_copy_96 : decode cX7_copy 96 = .ok (.iaload, 1) := by decide +kernel
theorem dX7_copy_97 : decode cX7_copy 97 = .ok (.i2l, 1) := by decide +kernel
theorem dX7_copy_98 : decode cX7_copy 98 = .ok (.iload 5, 2) := by decide +kernel
theorem dX7_copy_100 : decode cX7_copy 100 = .ok (.i2l, 1) := by decide +kernel
theorem dX7_copy_101 : decode cX7_copy 101 = .ok (.lsub, 1) := by decide +kernel
theorem dX7_copy_102 : decode cX7_copy 102 = .ok (.invokestatic 54, 3) := by decide +kernel
theorem dX7_copy_105 : decode cX7_copy 105 = .ok (.ifCond .ne 9, 3) := by decide +kernel
theorem dX7_copy_108 : decode cX7_copy 108 = .ok (.aload_n 0, 1) := by decide +kernel
theorem dX7_copy_109 : decode cX7_copy 109 = .ok (.iconst 2, 1) := by decide +kernel
theorem dX7_copy_110 : decode cX7_copy 110 = .ok (.invokevirtual 65, 3) := by decide +kernel
theorem dX7_copy_113 : decode cX7_copy 113 = .ok (.ireturn, 1) := by decide +kernel
theorem dX7_copy_114 : decode cX7_copy 114 = .ok (.iconst 0, 1) := by decide +kernel
theorem dX7_copy_115 : decode cX7_copy 115 = .ok (.istore 6, 2) := by decide +kernel
theorem dX7_copy_117 : decode cX7_copy 117 = .ok (.iload 6, 2) := by decide +kernel
theorem dX7_copy_119 : decode cX7_copy 119 = .ok (.iload 5, 2) := by decide +kernel
theorem dX7_copy_121 : decode cX7_copy 121 = .ok (.if_icmp .ge 30, 3) := by decide +kernel
theorem dX7_copy_124 : decode cX7_copy 124 = .ok (.aload_n 0, 1) := by decide +kernel
theorem dX7_copy_125 : decode cX7_copy 125 = .ok (.getfield 22, 3) := by decide +kernel
theorem dX7_copy_128 : decode cX7_copy 128 = .ok (.iload 6, 2) := by decide +kernel
theorem dX7_copy_130 : decode cX7_copy 130 = .ok (.aload_n 0, 1) := by decide +kernel
theorem dX7_copy_131 : decode cX7_copy 131 = .ok (.getfield 16, 3) := by decide +kernel
theorem dX7_copy_134 : decode cX7_copy 134 = .ok (.bipush 40, 2) := by decide +kernel
theorem dX7_copy_136 : decode cX7_copy 136 = .ok (.iload_n 1, 1) := by decide +kernel
theorem dX7_copy_137 : decode cX7_copy 137 = .ok (.imul, 1) := by decide +kernel
theorem dX7_copy_138 : decode cX7_copy 138 = .ok (.iload_n 2, 1) := by decide +kernel
theorem dX7_copy_139 : decode cX7_copy 139 = .ok (.iadd, 1) := by decide +kernel
theorem dX7_copy_140 : decode cX7_copy 140 = .ok (.iload 6, 2) := by decide +kernel
theorem dX7_copy_142 : decode cX7_copy 142 = .ok (.iadd, 1) := by decide +kernel
theorem dX7_copy_143 : decode cX7_copy 143 = .ok (.iaload, 1) := by decide +kernel
theorem dX7_copy_144 : decode cX7_copy 144 = .ok (.iastore, 1) := by decide +kernel
theorem dX7_copy_145 : decode cX7_copy 145 = .ok (.iinc 6 1, 3) := by decide +kernel
theorem dX7_copy_148 : decode cX7_copy 148 = .ok (.goto (-31), 3) := by decide +kernel
theorem dX7_copy_151 : decode cX7_copy 151 = .ok (.iconst 0, 1) := by decide +kernel
theorem dX7_copy_152 : decode cX7_copy 152 = .ok (.istore 6, 2) := by decide +kernel
theorem dX7_copy_154 : decode cX7_copy 154 = .ok (.iload 6, 2) := by decide +kernel
theorem dX7_copy_156 : decode cX7_copy 156 = .ok (.iload 5, 2) := by decide +kernel
theorem dX7_copy_158 : decode cX7_copy 158 = .ok (.if_icmp .ge 31, 3) := by decide +kernel
theorem dX7_copy_161 : decode cX7_copy 161 = .ok (.aload_n 0, 1) := by decide +kernel
theorem dX7_copy_162 : decode cX7_copy 162 = .ok (.getfield 16, 3) := by decide +kernel
theorem dX7_copy_165 : decode cX7_copy 165 = .ok (.bipush 40, 2) := by decide +kernel
theorem dX7_copy_167 : decode cX7_copy 167 = .ok (.iload_n 3, 1) := by decide +kernel
theorem dX7_copy_168 : decode cX7_copy 168 = .ok (.imul, 1) := by decide +kernel
theorem dX7_copy_169 : decode cX7_copy 169 = .ok (.iload 4, 2) := by decide +kernel
theorem dX7_copy_171 : decode cX7_copy 171 = .ok (.iadd, 1) := by decide +kernel
theorem dX7_copy_172 : decode cX7_copy 172 = .ok (.iload 6, 2) := by decide +kernel
theorem dX7_copy_174 : decode cX7_copy 174 = .ok (.iadd, 1) := by decide +kernel
theorem dX7_copy_175 : decode cX7_copy 175 = .ok (.aload_n 0, 1) := by decide +kernel
theorem dX7_copy_176 : decode cX7_copy 176 = .ok (.getfield 22, 3) := by decide +kernel
theorem dX7_copy_179 : decode cX7_copy 179 = .ok (.iload 6, 2) := by decide +kernel
theorem dX7_copy_181 : decode cX7_copy 181 = .ok (.iaload, 1) := by decide +kernel
theorem dX7_copy_182 : decode cX7_copy 182 = .ok (.iastore, 1) := by decide +kernel
theorem dX7_copy_183 : decode cX7_copy 183 = .ok (.iinc 6 1, 3) := by decide +kernel
theorem dX7_copy_186 : decode cX7_copy 186 = .ok (.goto (-32), 3) := by decide +kernel
theorem dX7_copy_189 : decode cX7_copy 189 = .ok (.aload_n 0, 1) := by decide +kernel
theorem dX7_copy_190 : decode cX7_copy 190 = .ok (.iload 5, 2) := by decide +kernel
theorem dX7_copy_192 : decode cX7_copy 192 = .ok (.invokevirtual 69, 3) := by decide +kernel
theorem dX7_copy_195 : decode cX7_copy 195 = .ok (.ireturn, 1) := by decide +kernel
theorem dX7_drop_0 : decode cX7_drop 0 = .ok (.iload_n 1, 1) := by decide +kernel
theorem dX7_drop_1 : decode cX7_drop 1 = .ok (.invokestatic 58, 3) := by decide +kernel
theorem dX7_drop_4 : decode cX7_drop 4 = .ok (.ifCond .ne 6, 3) := by decide +kernel
theorem dX7_drop_7 : decode cX7_drop 7 = .ok (.ldc 64, 2) := by decide +kernel
theorem dX7_drop_9 : decode cX7_drop 9 = .ok (.ireturn, 1) := by decide +kernel
theorem dX7_drop_10 : decode cX7_drop 10 = .ok (.aload_n 0, 1) := by decide +kernel
theorem dX7_drop_11 : decode cX7_drop 11 = .ok (.getfield 13, 3) := by decide +kernel
theorem dX7_drop_14 : decode cX7_drop 14 = .ok (.iload_n 1, 1) := by decide +kernel
theorem dX7_drop_15 : decode cX7_drop 15 = .ok (.iaload, 1) := by decide +kernel
theorem dX7_drop_16 : decode cX7_drop 16 = .ok (.ifCond .ge 9, 3) := by decide +kernel
theorem dX7_drop_19 : decode cX7_drop 19 = .ok (.aload_n 0, 1) := by decide +kernel
theorem dX7_drop_20 : decode cX7_drop 20 = .ok (.iconst 1, 1) := by decide +kernel
theorem dX7_drop_21 : decode cX7_drop 21 = .ok (.invokevirtual 65, 3) := by decide +kernel
theorem dX7_drop_24 : decode cX7_drop 24 = .ok (.ireturn, 1) := by decide +kernel
theorem dX7_drop_25 : decode cX7_drop 25 = .ok (.aload_n 0, 1) := by decide +kernel
theorem dX7_drop_26 : decode cX7_drop 26 = .ok (.getfield 13, 3) := by decide +kernel
theorem dX7_drop_29 : decode cX7_drop 29 = .ok (.iload_n 1, 1) := by decide +kernel
theorem dX7_drop_30 : decode cX7_drop 30 = .ok (.iaload, 1) := by decide +kernel
theorem dX7_drop_31 : decode cX7_drop 31 = .ok (.istore_n 2, 1) := by decide +kernel
theorem dX7_drop_32 : decode cX7_drop 32 = .ok (.aload_n 0, 1) := by decide +kernel
theorem dX7_drop_33 : decode cX7_drop 33 = .ok (.getfield 13, 3) := by decide +kernel
theorem dX7_drop_36 : decode cX7_drop 36 = .ok (.iload_n 1, 1) := by decide +kernel
theorem dX7_drop_37 : decode cX7_drop 37 = .ok (.iconst (-1), 1) := by decide +kernel
theorem dX7_drop_38 : decode cX7_drop 38 = .ok (.iastore, 1) := by decide +kernel
theorem dX7_drop_39 : decode cX7_drop 39 = .ok (.aload_n 0, 1) := by decide +kernel
theorem dX7_drop_40 : decode cX7_drop 40 = .ok (.iload_n 2, 1) := by decide +kernel
theorem dX7_drop_41 : decode cX7_drop 41 = .ok (.invokevirtual 69, 3) := by decide +kernel
theorem dX7_drop_44 : decode cX7_drop 44 = .ok (.ireturn, 1) := by decide +kernel
theorem dX7_feed_0 : decode cX7_feed 0 = .ok (.iload_n 1, 1) := by decide +kernel
theorem dX7_feed_1 : decode cX7_feed 1 = .ok (.i2l, 1) := by decide +kernel
theorem dX7_feed_2 : decode cX7_feed 2 = .ok (.lconst 0, 1) := by decide +kernel
theorem dX7_feed_3 : decode cX7_feed 3 = .ok (.ldc2_w 76, 3) := by decide +kernel
theorem dX7_feed_6 : decode cX7_feed 6 = .ok (.invokestatic 54, 3) := by decide +kernel
theorem dX7_feed_9 : decode cX7_feed 9 = .ok (.ifCond .ne 6, 3) := by decide +kernel
theorem dX7_feed_12 : decode cX7_feed 12 = .ok (.ldc 64, 2) := by decide +kernel
theorem dX7_feed_14 : decode cX7_feed 14 = .ok (.ireturn, 1) := by decide +kernel
theorem dX7_feed_15 : decode cX7_feed 15 = .ok (.aload_n 0, 1) := by decide +kernel
theorem dX7_feed_16 : decode cX7_feed 16 = .ok (.getfield 78, 3) := by decide +kernel
theorem dX7_feed_19 : decode cX7_feed 19 = .ok (.bipush 100, 2) := by decide +kernel
theorem dX7_feed_21 : decode cX7_feed 21 = .ok (.if_icmp .ne 6, 3) := by decide +kernel
theorem dX7_feed_24 : decode cX7_feed 24 = .ok (.ldc 81, 2) := by decide +kernel
theorem dX7_feed_26 : decode cX7_feed 26 = .ok (.ireturn, 1) := by decide +kernel
theorem dX7_feed_27 : decode cX7_feed 27 = .ok (.aload_n 0, 1) := by decide +kernel
theorem dX7_feed_28 : decode cX7_feed 28 = .ok (.getfield 25, 3) := by decide +kernel
theorem dX7_feed_31 : decode cX7_feed 31 = .ok (.aload_n 0, 1) := by decide +kernel
theorem dX7_feed_32 : decode cX7_feed 32 = .ok (.getfield 78, 3) := by decide +kernel
theorem dX7_feed_35 : decode cX7_feed 35 = .ok (.iload_n 1, 1) := by decide +kernel
theorem dX7_feed_36 : decode cX7_feed 36 = .ok (.iastore, 1) := by decide +kernel
theorem dX7_feed_37 : decode cX7_feed 37 = .ok (.aload_n 0, 1) := by decide +kernel
theorem dX7_feed_38 : decode cX7_feed 38 = .ok (.dup, 1) := by decide +kernel
theorem dX7_feed_39 : decode cX7_feed 39 = .ok (.getfield 78, 3) := by decide +kernel
theorem dX7_feed_42 : decode cX7_feed 42 = .ok (.iconst 1, 1) := by decide +kernel
theorem dX7_feed_43 : decode cX7_feed 43 = .ok (.iadd, 1) := by decide +kernel
theorem dX7_feed_44 : decode cX7_feed 44 = .ok (.putfield 78, 3) := by decide +kernel
theorem dX7_feed_47 : decode cX7_feed 47 = .ok (.aload_n 0, 1) := by decide +kernel
theorem dX7_feed_48 : decode cX7_feed 48 = .ok (.getfield 78, 3) := by decide +kernel
theorem dX7_feed_51 : decode cX7_feed 51 = .ok (.ireturn, 1) := by decide +kernel
theorem dX7_nextToken_0 : decode cX7_nextToken 0 = .ok (.aload_n 0, 1) := by decide +kernel
theorem dX7_nextToken_1 : decode cX7_nextToken 1 = .ok (.aload_n 0, 1) := by decide +kernel
theorem dX7_nextToken_2 : decode cX7_nextToken 2 = .ok (.getfield 82, 3) := by decide +kernel
theorem dX7_nextToken_5 : decode cX7_nextToken 5 = .ok (.putfield 85, 3) := by decide +kernel
theorem dX7_nextToken_8 : decode cX7_nextToken 8 = .ok (.aload_n 0, 1) := by decide +kernel
theorem dX7_nextToken_9 : decode cX7_nextToken 9 = .ok (.aload_n 0, 1) := by decide +kernel
theorem dX7_nextToken_10 : decode cX7_nextToken 10 = .ok (.getfield 82, 3) := by decide +kernel
theorem dX7_nextToken_13 : decode cX7_nextToken 13 = .ok (.aload_n 0, 1) := by decide +kernel
theorem dX7_nextToken_14 : decode cX7_nextToken 14 = .ok (.getfield 78, 3) := by decide +kernel
theorem dX7_nextToken_17 : decode cX7_nextToken 17 = .ok (.if_icmp .ne 7, 3) := by decide +kernel
theorem dX7_nextToken_20 : decode cX7_nextToken 20 = .ok (.iconst 3, 1) := by decide +kernel
theorem dX7_nextToken_21 : decode cX7_nextToken 21 = .ok (.goto 4, 3) := by decide +kernel
theorem dX7_nextToken_24 : decode cX7_nextToken 24 = .ok (.iconst 0, 1) := by decide +kernel
theorem dX7_nextToken_25 : decode cX7_nextToken 25 = .ok (.putfield 88, 3) := by decide +kernel
theorem dX7_nextToken_28 : decode cX7_nextToken 28 = .ok (.aload_n 0, 1) := by decide +kernel
theorem dX7_nextToken_29 : decode cX7_nextToken 29 = .ok (.iconst 0, 1) := by decide +kernel
theorem dX7_nextToken_30 : decode cX7_nextToken 30 = .ok (.putfield 91, 3) := by decide +kernel
theorem dX7_nextToken_33 : decode cX7_nextToken 33 = .ok (.aload_n 0, 1) := by decide +kernel
theorem dX7_nextToken_34 : decode cX7_nextToken 34 = .ok (.getfield 82, 3) := by decide +kernel
theorem dX7_nextToken_37 : decode cX7_nextToken 37 = .ok (.aload_n 0, 1) := by decide +kernel
theorem dX7_nextToken_38 : decode cX7_nextToken 38 = .ok (.getfield 78, 3) := by decide +kernel
theorem dX7_nextToken_41 : decode cX7_nextToken 41 = .ok (.if_icmp .ge 78, 3) := by decide +kernel
theorem dX7_nextToken_44 : decode cX7_nextToken 44 = .ok (.aload_n 0, 1) := by decide +kernel
theorem dX7_nextToken_45 : decode cX7_nextToken 45 = .ok (.getfield 25, 3) := by decide +kernel
theorem dX7_nextToken_48 : decode cX7_nextToken 48 = .ok (.aload_n 0, 1) := by decide +kernel
theorem dX7_nextToken_49 : decode cX7_nextToken 49 = .ok (.getfield 82, 3) := by decide +kernel
theorem dX7_nextToken_52 : decode cX7_nextToken 52 = .ok (.iaload, 1) := by decide +kernel
theorem dX7_nextToken_53 : decode cX7_nextToken 53 = .ok (.i2l, 1) := by decide +kernel
theorem dX7_nextToken_54 : decode cX7_nextToken 54 = .ok (.ldc2_w 94, 3) := by decide +kernel
theorem dX7_nextToken_57 : decode cX7_nextToken 57 = .ok (.ldc2_w 96, 3) := by decide +kernel
theorem dX7_nextToken_60 : decode cX7_nextToken 60 = .ok (.invokestatic 54, 3) := by decide +kernel
theorem dX7_nextToken_63 : decode cX7_nextToken 63 = .ok (.ifCond .eq 56, 3) := by decide +kernel
theorem dX7_nextToken_66 : decode cX7_nextToken 66 = .ok (.aload_n 0, 1) := by decide +kernel
theorem dX7_nextToken_67 : decode cX7_nextToken 67 = .ok (.aload_n 0, 1) := by decide +kernel
theorem dX7_nextToken_68 : decode cX7_nextToken 68 = .ok (.getfield 91, 3) := by decide +kernel
theorem dX7_nextToken_71 : decode cX7_nextToken 71 = .ok (.bipush 99, 2) := by decide +kernel
theorem dX7_nextToken_73 : decode cX7_nextToken 73 = .ok (.if_icmp .le 10, 3) := by decide +kernel
theorem dX7_nextToken_76 : decode cX7_nextToken 76 = .ok (.aload_n 0, 1) := by decide +kernel
theorem dX7_nextToken_77 : decode cX7_nextToken 77 = .ok (.getfield 91, 3) := by decide +kernel
theorem dX7_nextToken_80 : decode cX7_nextToken 80 = .ok (.goto 23, 3) := by decide +kernel
theorem dX7_nextToken_83 : decode cX7_nextToken 83 = .ok (.bipush 10, 2) := by decide +kernel
theorem dX7_nextToken_85 : decode cX7_nextToken 85 = .ok (.aload_n 0, 1) := by decide +kernel
theorem dX7_nextToken_86 : decode cX7_nextToken 86 = .ok (.getfield 91, 3) := by decide +kernel
theorem dX7_nextToken_89 : decode cX7_nextToken 89 = .ok (.imul, 1) := by decide +kernel
theorem dX7_nextToken_90 : decode cX7_nextToken 90 = .ok (.aload_n 0, 1) := by decide +kernel
theorem dX7_nextToken_91 : decode cX7_nextToken 91 = .ok (.getfield 25, 3) := by decide +kernel
theorem dX7_nextToken_94 : decode cX7_nextToken 94 = .ok (.aload_n 0, 1) := by decide +kernel
theorem dX7_nextToken_95 : decode cX7_nextToken 95 = .ok (.getfield 82, 3) := by decide +kernel
theorem dX7_nextToken_98 : decode cX7_nextToken 98 = .ok (.iaload, 1) := by decide +kernel
theorem dX7_nextToken_99 : decode cX7_nextToken 99 = .ok (.iadd, 1) := by decide +kernel
theorem dX7_nextToken_100 : decode cX7_nextToken 100 = .ok (.bipush 48, 2) := by decide +kernel
theorem dX7_nextToken_102 : decode cX7_nextToken 102 = .ok (.isub, 1) := by decide +kernel
theorem dX7_nextToken_103 : decode cX7_nextToken 103 = .ok (.putfield 91, 3) := by decide +kernel
theorem dX7_nextToken_106 : decode cX7_nextToken 106 = .ok (.aload_n 0, 1) := by decide +kernel
theorem dX7_nextToken_107 : decode cX7_nextToken 107 = .ok (.dup, 1) := by decide +kernel
theorem dX7_nextToken_108 : decode cX7_nextToken 108 = .ok (.getfield 82, 3) := by decide +kernel
theorem dX7_nextToken_111 : decode cX7_nextToken 111 = .ok (.iconst 1, 1) := by decide +kernel
theorem dX7_nextToken_112 : decode cX7_nextToken 112 = .ok (.iadd, 1) := by decide +kernel
theorem dX7_nextToken_113 : decode cX7_nextToken 113 = .ok (.putfield 82, 3) := by decide +kernel
theorem dX7_nextToken_116 : decode cX7_nextToken 116 = .ok (.goto (-83), 3) := by decide +kernel
theorem dX7_nextToken_119 : decode cX7_nextToken 119 = .ok (.aload_n 0, 1) := by decide +kernel
theorem dX7_nextToken_120 : decode cX7_nextToken 120 = .ok (.getfield 82, 3) := by decide +kernel
theorem dX7_nextToken_123 : decode cX7_nextToken 123 = .ok (.aload_n 0, 1) := by decide +kernel
theorem dX7_nextToken_124 : decode cX7_nextToken 124 = .ok (.getfield 85, 3) := by decide +kernel
theorem dX7_nextToken_127 : decode cX7_nextToken 127 = .ok (.if_icmp .le 28, 3) := by decide +kernel
theorem dX7_nextToken_130 : decode cX7_nextToken 130 = .ok (.aload_n 0, 1) := by decide +kernel
theorem dX7_nextToken_131 : decode cX7_nextToken 131 = .ok (.aload_n 0, 1) := by decide +kernel
theorem dX7_nextToken_132 : decode cX7_nextToken 132 = .ok (.getfield 82, 3) := by decide +kernel
theorem dX7_nextToken_135 : decode cX7_nextToken 135 = .ok (.aload_n 0, 1) := by decide +kernel
theorem dX7_nextToken_136 : decode cX7_nextToken 136 = .ok (.getfield 85, 3) := by decide +kernel
theorem dX7_nextToken_139 : decode cX7_nextToken 139 = .ok (.isub, 1) := by decide +kernel
theorem dX7_nextToken_140 : decode cX7_nextToken 140 = .ok (.iconst 2, 1) := by decide +kernel
theorem dX7_nextToken_141 : decode cX7_nextToken 141 = .ok (.if_icmp .le 7, 3) := by decide +kernel
theorem dX7_nextToken_144 : decode cX7_nextToken 144 = .ok (.iconst 0, 1) := by decide +kernel
theorem dX7_nextToken_145 : decode cX7_nextToken 145 = .ok (.goto 4, 3) := by decide +kernel
theorem dX7_nextToken_148 : decode cX7_nextToken 148 = .ok (.iconst 2, 1) := by decide +kernel
theorem dX7_nextToken_149 : decode cX7_nextToken 149 = .ok (.putfield 88, 3) := by decide +kernel
theorem dX7_nextToken_152 : decode cX7_nextToken 152 = .ok (.goto 77, 3) := by decide +kernel
theorem dX7_nextToken_155 : decode cX7_nextToken 155 = .ok (.aload_n 0, 1) := by decide +kernel
theorem dX7_nextToken_156 : decode cX7_nextToken 156 = .ok (.getfield 88, 3) := by decide +kernel
theorem dX7_nextToken_159 : decode cX7_nextToken 159 = .ok (.ifCond .ne 70, 3) := by decide +kernel
theorem dX7_nextToken_162 : decode cX7_nextToken 162 = .ok (.aload_n 0, 1) := by decide +kernel
theorem dX7_nextToken_163 : decode cX7_nextToken 163 = .ok (.aload_n 0, 1) := by decide +kernel
theorem dX7_nextToken_164 : decode cX7_nextToken 164 = .ok (.getfield 25, 3) := by decide +kernel
theorem dX7_nextToken_167 : decode cX7_nextToken 167 = .ok (.aload_n 0, 1) := by decide +kernel
theorem dX7_nextToken_168 : decode cX7_nextToken 168 = .ok (.getfield 82, 3) := by decide +kernel
theorem dX7_nextToken_171 : decode cX7_nextToken 171 = .ok (.iaload, 1) := by decide +kernel
theorem dX7_nextToken_172 : decode cX7_nextToken 172 = .ok (.putfield 91, 3) := by decide +kernel
theorem dX7_nextToken_175 : decode cX7_nextToken 175 = .ok (.aload_n 0, 1) := by decide +kernel
theorem dX7_nextToken_176 : decode cX7_nextToken 176 = .ok (.aload_n 0, 1) := by decide +kernel
theorem dX7_nextToken_177 : decode cX7_nextToken 177 = .ok (.getfield 91, 3) := by decide +kernel
theorem dX7_nextToken_180 : decode cX7_nextToken 180 = .ok (.i2l, 1) := by decide +kernel
theorem dX7_nextToken_181 : decode cX7_nextToken 181 = .ok (.ldc2_w 98, 3) := by decide +kernel
theorem dX7_nextToken_184 : decode cX7_nextToken 184 = .ok (.ldc2_w 100, 3) := by decide +kernel
theorem dX7_nextToken_187 : decode cX7_nextToken 187 = .ok (.invokestatic 54, 3) := by decide +kernel
theorem dX7_nextToken_190 : decode cX7_nextToken 190 = .ok (.ifCond .ne 21, 3) := by decide +kernel
theorem dX7_nextToken_193 : decode cX7_nextToken 193 = .ok (.aload_n 0, 1) := by decide +kernel
theorem dX7_nextToken_194 : decode cX7_nextToken 194 = .ok (.getfield 91, 3) := by decide +kernel
theorem dX7_nextToken_197 : decode cX7_nextToken 197 = .ok (.bipush 44, 2) := by decide +kernel
theorem dX7_nextToken_199 : decode cX7_nextToken 199 = .ok (.if_icmp .eq 12, 3) := by decide +kernel
theorem dX7_nextToken_202 : decode cX7_nextToken 202 = .ok (.aload_n 0, 1) := by decide +kernel
theorem dX7_nextToken_203 : decode cX7_nextToken 203 = .ok (.getfield 91, 3) := by decide +kernel
theorem dX7_nextToken_206 : decode cX7_nextToken 206 = .ok (.bipush 59, 2) := by decide +kernel
theorem dX7_nextToken_208 : decode cX7_nextToken 208 = .ok (.if_icmp .ne 7, 3) := by decide +kernel
theorem dX7_nextToken_211 : decode cX7_nextToken 211 = .ok (.iconst 1, 1) := by decide +kernel
theorem dX7_nextToken_212 : decode cX7_nextToken 212 = .ok (.goto 4, 3) := by decide +kernel
theorem dX7_nextToken_215 : decode cX7_nextToken 215 = .ok (.iconst 0, 1) := by decide +kernel
theorem dX7_nextToken_216 : decode cX7_nextToken 216 = .ok (.putfield 88, 3) := by decide +kernel
theorem dX7_nextToken_219 : decode cX7_nextToken 219 = .ok (.aload_n 0, 1) := by decide +kernel
theorem dX7_nextToken_220 : decode cX7_nextToken 220 = .ok (.dup, 1) := by decide +kernel
theorem dX7_nextToken_221 : decode cX7_nextToken 221 = .ok (.getfield 82, 3) := by decide +kernel
theorem dX7_nextToken_224 : decode cX7_nextToken 224 = .ok (.iconst 1, 1) := by decide +kernel
theorem dX7_nextToken_225 : decode cX7_nextToken 225 = .ok (.iadd, 1) := by decide +kernel
theorem dX7_nextToken_226 : decode cX7_nextToken 226 = .ok (.putfield 82, 3) := by decide +kernel
theorem dX7_nextToken_229 : decode cX7_nextToken 229 = .ok (.return_, 1) := by decide +kernel
theorem dX7_faults_0 : decode cX7_faults 0 = .ok (.aload_n 0, 1) := by decide +kernel
theorem dX7_faults_1 : decode cX7_faults 1 = .ok (.iload_n 1, 1) := by decide +kernel
theorem dX7_faults_2 : decode cX7_faults 2 = .ok (.putfield 102, 3) := by decide +kernel
theorem dX7_faults_5 : decode cX7_faults 5 = .ok (.iconst 0, 1) := by decide +kernel
theorem dX7_faults_6 : decode cX7_faults 6 = .ok (.ireturn, 1) := by decide +kernel
theorem dX7_isLetter_0 : decode cX7_isLetter 0 = .ok (.aload_n 0, 1) := by decide +kernel
theorem dX7_isLetter_1 : decode cX7_isLetter 1 = .ok (.getfield 88, 3) := by decide +kernel
theorem dX7_isLetter_4 : decode cX7_isLetter 4 = .ok (.iconst 1, 1) := by decide +kernel
theorem dX7_isLetter_5 : decode cX7_isLetter 5 = .ok (.if_icmp .ne 15, 3) := by decide +kernel
theorem dX7_isLetter_8 : decode cX7_isLetter 8 = .ok (.aload_n 0, 1) := by decide +kernel
theorem dX7_isLetter_9 : decode cX7_isLetter 9 = .ok (.getfield 91, 3) := by decide +kernel
theorem dX7_isLetter_12 : decode cX7_isLetter 12 = .ok (.iload_n 1, 1) := by decide +kernel
theorem dX7_isLetter_13 : decode cX7_isLetter 13 = .ok (.if_icmp .ne 7, 3) := by decide +kernel
theorem dX7_isLetter_16 : decode cX7_isLetter 16 = .ok (.iconst 1, 1) := by decide +kernel
theorem dX7_isLetter_17 : decode cX7_isLetter 17 = .ok (.goto 4, 3) := by decide +kernel
theorem dX7_isLetter_20 : decode cX7_isLetter 20 = .ok (.iconst 0, 1) := by decide +kernel
theorem dX7_isLetter_21 : decode cX7_isLetter 21 = .ok (.ireturn, 1) := by decide +kernel
theorem dX7_takes_0 : decode cX7_takes 0 = .ok (.aload_n 0, 1) := by decide +kernel
theorem dX7_takes_1 : decode cX7_takes 1 = .ok (.iload_n 1, 1) := by decide +kernel
theorem dX7_takes_2 : decode cX7_takes 2 = .ok (.invokevirtual 105, 3) := by decide +kernel
theorem dX7_takes_5 : decode cX7_takes 5 = .ok (.ifCond .ne 9, 3) := by decide +kernel
theorem dX7_takes_8 : decode cX7_takes 8 = .ok (.aload_n 0, 1) := by decide +kernel
theorem dX7_takes_9 : decode cX7_takes 9 = .ok (.iconst 1, 1) := by decide +kernel
theorem dX7_takes_10 : decode cX7_takes 10 = .ok (.invokevirtual 108, 3) := by decide +kernel
theorem dX7_takes_13 : decode cX7_takes 13 = .ok (.ireturn, 1) := by decide +kernel
theorem dX7_takes_14 : decode cX7_takes 14 = .ok (.aload_n 0, 1) := by decide +kernel
theorem dX7_takes_15 : decode cX7_takes 15 = .ok (.invokevirtual 111, 3) := by decide +kernel
theorem dX7_takes_18 : decode cX7_takes 18 = .ok (.iconst 1, 1) := by decide +kernel
theorem dX7_takes_19 : decode cX7_takes 19 = .ok (.ireturn, 1) := by decide +kernel
theorem dX7_takesNumber_0 : decode cX7_takesNumber 0 = .ok (.aload_n 0, 1) := by decide +kernel
theorem dX7_takesNumber_1 : decode cX7_takesNumber 1 = .ok (.getfield 88, 3) := by decide +kernel
theorem dX7_takesNumber_4 : decode cX7_takesNumber 4 = .ok (.iconst 2, 1) := by decide +kernel
theorem dX7_takesNumber_5 : decode cX7_takesNumber 5 = .ok (.if_icmp .ne 18, 3) := by decide +kernel
theorem dX7_takesNumber_8 : decode cX7_takesNumber 8 = .ok (.aload_n 0, 1) := by decide +kernel
theorem dX7_takesNumber_9 : decode cX7_takesNumber 9 = .ok (.getfield 91, 3) := by decide +kernel
theorem dX7_takesNumber_12 : decode cX7_takesNumber 12 = .ok (.i2l, 1) := by decide +kernel
theorem dX7_takesNumber_13 : decode cX7_takesNumber 13 = .ok (.iload_n 1, 1) := by decide +kernel
theorem dX7_takesNumber_14 : decode cX7_takesNumber 14 = .ok (.i2l, 1) := by decide +kernel
theorem dX7_takesNumber_15 : decode cX7_takesNumber 15 = .ok (.iload_n 2, 1) := by decide +kernel
theorem dX7_takesNumber_16 : decode cX7_takesNumber 16 = .ok (.i2l, 1) := by decide +kernel
theorem dX7_takesNumber_17 : decode cX7_takesNumber 17 = .ok (.invokestatic 54, 3) := by decide +kernel
theorem dX7_takesNumber_20 : decode cX7_takesNumber 20 = .ok (.ifCond .ne 21, 3) := by decide +kernel
theorem dX7_takesNumber_23 : decode cX7_takesNumber 23 = .ok (.aload_n 0, 1) := by decide +kernel
theorem dX7_takesNumber_24 : decode cX7_takesNumber 24 = .ok (.aload_n 0, 1) := by decide +kernel
theorem dX7_takesNumber_25 : decode cX7_takesNumber 25 = .ok (.getfield 88, 3) := by decide +kernel
theorem dX7_takesNumber_28 : decode cX7_takesNumber 28 = .ok (.iconst 2, 1) := by decide +kernel
theorem dX7_takesNumber_29 : decode cX7_takesNumber 29 = .ok (.if_icmp .ne 7, 3) := by decide +kernel
theorem dX7_takesNumber_32 : decode cX7_takesNumber 32 = .ok (.iconst 2, 1) := by decide +kernel
theorem dX7_takesNumber_33 : decode cX7_takesNumber 33 = .ok (.goto 4, 3) := by decide +kernel
theorem dX7_takesNumber_36 : decode cX7_takesNumber 36 = .ok (.iconst 1, 1) := by decide +kernel
theorem dX7_takesNumber_37 : decode cX7_takesNumber 37 = .ok (.invokevirtual 108, 3) := by decide +kernel
theorem dX7_takesNumber_40 : decode cX7_takesNumber 40 = .ok (.ireturn, 1) := by decide +kernel
theorem dX7_takesNumber_41 : decode cX7_takesNumber 41 = .ok (.aload_n 0, 1) := by decide +kernel
theorem dX7_takesNumber_42 : decode cX7_takesNumber 42 = .ok (.getfield 28, 3) := by decide +kernel
theorem dX7_takesNumber_45 : decode cX7_takesNumber 45 = .ok (.iload_n 3, 1) := by decide +kernel
theorem dX7_takesNumber_46 : decode cX7_takesNumber 46 = .ok (.aload_n 0, 1) := by decide +kernel
theorem dX7_takesNumber_47 : decode cX7_takesNumber 47 = .ok (.getfield 91, 3) := by decide +kernel
theorem dX7_takesNumber_50 : decode cX7_takesNumber 50 = .ok (.iastore, 1) := by decide +kernel
theorem dX7_takesNumber_51 : decode cX7_takesNumber 51 = .ok (.aload_n 0, 1) := by decide +kernel
theorem dX7_takesNumber_52 : decode cX7_takesNumber 52 = .ok (.invokevirtual 111, 3) := by decide +kernel
theorem dX7_takesNumber_55 : decode cX7_takesNumber 55 = .ok (.aload_n 0, 1) := by decide +kernel
theorem dX7_takesNumber_56 : decode cX7_takesNumber 56 = .ok (.iload 4, 2) := by decide +kernel
theorem dX7_takesNumber_58 : decode cX7_takesNumber 58 = .ok (.invokevirtual 114, 3) := by decide +kernel
theorem dX7_takesNumber_61 : decode cX7_takesNumber 61 = .ok (.ireturn, 1) := by decide +kernel
theorem dX7_readTread_0 : decode cX7_readTread 0 = .ok (.aload_n 0, 1) := by decide +kernel
theorem dX7_readTread_1 : decode cX7_readTread 1 = .ok (.getfield 28, 3) := by decide +kernel
theorem dX7_readTread_4 : decode cX7_readTread 4 = .ok (.iconst 0, 1) := by decide +kernel
theorem dX7_readTread_5 : decode cX7_readTread 5 = .ok (.iaload, 1) := by decide +kernel
theorem dX7_readTread_6 : decode cX7_readTread 6 = .ok (.istore_n 2, 1) := by decide +kernel
theorem dX7_readTread_7 : decode cX7_readTread 7 = .ok (.aload_n 0, 1) := by decide +kernel
theorem dX7_readTread_8 : decode cX7_readTread 8 = .ok (.getfield 28, 3) := by decide +kernel
theorem dX7_readTread_11 : decode cX7_readTread 11 = .ok (.iconst 1, 1) := by decide +kernel
theorem dX7_readTread_12 : decode cX7_readTread 12 = .ok (.iaload, 1) := by decide +kernel
theorem dX7_readTread_13 : decode cX7_readTread 13 = .ok (.ifCond .gt 9, 3) := by decide +kernel
theorem dX7_readTread_16 : decode cX7_readTread 16 = .ok (.iload_n 2, 1) := by decide +kernel
theorem dX7_readTread_17 : decode cX7_readTread 17 = .ok (.bipush 8, 2) := by decide +kernel
theorem dX7_readTread_19 : decode cX7_readTread 19 = .ok (.if_icmp .ne 22, 3) := by decide +kernel
theorem dX7_readTread_22 : decode cX7_readTread 22 = .ok (.aload_n 0, 1) := by decide +kernel
theorem dX7_readTread_23 : decode cX7_readTread 23 = .ok (.aload_n 0, 1) := by decide +kernel
theorem dX7_readTread_24 : decode cX7_readTread 24 = .ok (.getfield 28, 3) := by decide +kernel
theorem dX7_readTread_27 : decode cX7_readTread 27 = .ok (.iconst 1, 1) := by decide +kernel
theorem dX7_readTread_28 : decode cX7_readTread 28 = .ok (.iaload, 1) := by decide +kernel
theorem dX7_readTread_29 : decode cX7_readTread 29 = .ok (.ifCond .le 7, 3) := by decide +kernel
theorem dX7_readTread_32 : decode cX7_readTread 32 = .ok (.iconst 1, 1) := by decide +kernel
theorem dX7_readTread_33 : decode cX7_readTread 33 = .ok (.goto 4, 3) := by decide +kernel
theorem dX7_readTread_36 : decode cX7_readTread 36 = .ok (.iconst 3, 1) := by decide +kernel
theorem dX7_readTread_37 : decode cX7_readTread 37 = .ok (.invokevirtual 108, 3) := by decide +kernel
theorem dX7_readTread_40 : decode cX7_readTread 40 = .ok (.ireturn, 1) := by decide +kernel
theorem dX7_readTread_41 : decode cX7_readTread 41 = .ok (.aload_n 0, 1) := by decide +kernel
theorem dX7_readTread_42 : decode cX7_readTread 42 = .ok (.invokevirtual 111, 3) := by decide +kernel
theorem dX7_readTread_45 : decode cX7_readTread 45 = .ok (.aload_n 0, 1) := by decide +kernel
theorem dX7_readTread_46 : decode cX7_readTread 46 = .ok (.getfield 28, 3) := by decide +kernel
theorem dX7_readTread_49 : decode cX7_readTread 49 = .ok (.iconst 5, 1) := by decide +kernel
theorem dX7_readTread_50 : decode cX7_readTread 50 = .ok (.iload_n 2, 1) := by decide +kernel
theorem dX7_readTread_51 : decode cX7_readTread 51 = .ok (.iadd, 1) := by decide +kernel
theorem dX7_readTread_52 : decode cX7_readTread 52 = .ok (.iload_n 1, 1) := by decide +kernel
theorem dX7_readTread_53 : decode cX7_readTread 53 = .ok (.iastore, 1) := by decide +kernel
theorem dX7_readTread_54 : decode cX7_readTread 54 = .ok (.aload_n 0, 1) := by decide +kernel
theorem dX7_readTread_55 : decode cX7_readTread 55 = .ok (.getfield 28, 3) := by decide +kernel
theorem dX7_readTread_58 : decode cX7_readTread 58 = .ok (.iconst 0, 1) := by decide +kernel
theorem dX7_readTread_59 : decode cX7_readTread 59 = .ok (.dup2, 1) := by decide +kernel
theorem dX7_readTread_60 : decode cX7_readTread 60 = .ok (.iaload, 1) := by decide +kernel
theorem dX7_readTread_61 : decode cX7_readTread 61 = .ok (.iconst 1, 1) := by decide +kernel
theorem dX7_readTread_62 : decode cX7_readTread 62 = .ok (.iadd, 1) := by decide +kernel
theorem dX7_readTread_63 : decode cX7_readTread 63 = .ok (.iastore, 1) := by decide +kernel
theorem dX7_readTread_64 : decode cX7_readTread 64 = .ok (.aload_n 0, 1) := by decide +kernel
theorem dX7_readTread_65 : decode cX7_readTread 65 = .ok (.iconst 0, 1) := by decide +kernel
theorem dX7_readTread_66 : decode cX7_readTread 66 = .ok (.bipush 9, 2) := by decide +kernel
theorem dX7_readTread_68 : decode cX7_readTread 68 = .ok (.bipush 13, 2) := by decide +kernel
theorem dX7_readTread_70 : decode cX7_readTread 70 = .ok (.iload_n 2, 1) := by decide +kernel
theorem dX7_readTread_71 : decode cX7_readTread 71 = .ok (.iadd, 1) := by decide +kernel
theorem dX7_readTread_72 : decode cX7_readTread 72 = .ok (.bipush 59, 2) := by decide +kernel
theorem dX7_readTread_74 : decode cX7_readTread 74 = .ok (.invokevirtual 117, 3) := by decide +kernel
theorem dX7_readTread_77 : decode cX7_readTread 77 = .ok (.ireturn, 1) := by decide +kernel
theorem dX7_readWalker_0 : decode cX7_readWalker 0 = .ok (.aload_n 0, 1) := by decide +kernel
theorem dX7_readWalker_1 : decode cX7_readWalker 1 = .ok (.getfield 28, 3) := by decide +kernel
theorem dX7_readWalker_4 : decode cX7_readWalker 4 = .ok (.iconst 1, 1) := by decide +kernel
theorem dX7_readWalker_5 : decode cX7_readWalker 5 = .ok (.iaload, 1) := by decide +kernel
theorem dX7_readWalker_6 : decode cX7_readWalker 6 = .ok (.istore_n 1, 1) := by decide +kernel
theorem dX7_readWalker_7 : decode cX7_readWalker 7 = .ok (.aload_n 0, 1) := by decide +kernel
theorem dX7_readWalker_8 : decode cX7_readWalker 8 = .ok (.getfield 28, 3) := by decide +kernel
theorem dX7_readWalker_11 : decode cX7_readWalker 11 = .ok (.iconst 0, 1) := by decide +kernel
theorem dX7_readWalker_12 : decode cX7_readWalker 12 = .ok (.iaload, 1) := by decide +kernel
theorem dX7_readWalker_13 : decode cX7_readWalker 13 = .ok (.iconst 1, 1) := by decide +kernel
theorem dX7_readWalker_14 : decode cX7_readWalker 14 = .ok (.isub, 1) := by decide +kernel
theorem dX7_readWalker_15 : decode cX7_readWalker 15 = .ok (.istore_n 2, 1) := by decide +kernel
theorem dX7_readWalker_16 : decode cX7_readWalker 16 = .ok (.iload_n 2, 1) := by decide +kernel
theorem dX7_readWalker_17 : decode cX7_readWalker 17 = .ok (.ifCond .lt 8, 3) := by decide +kernel
theorem dX7_readWalker_20 : decode cX7_readWalker 20 = .ok (.iload_n 1, 1) := by decide +kernel
theorem dX7_readWalker_21 : decode cX7_readWalker 21 = .ok (.iconst 5, 1) := by decide +kernel
theorem dX7_readWalker_22 : decode cX7_readWalker 22 = .ok (.if_icmp .ne 17, 3) := by decide +kernel
theorem dX7_readWalker_25 : decode cX7_readWalker 25 = .ok (.aload_n 0, 1) := by decide +kernel
theorem dX7_readWalker_26 : decode cX7_readWalker 26 = .ok (.iload_n 2, 1) := by decide +kernel
theorem dX7_readWalker_27 : decode cX7_readWalker 27 = .ok (.ifCond .ge 7, 3) := by decide +kernel
theorem dX7_readWalker_30 : decode cX7_readWalker 30 = .ok (.iconst 1, 1) := by decide +kernel
theorem dX7_readWalker_31 : decode cX7_readWalker 31 = .ok (.goto 4, 3) := by decide +kernel
theorem dX7_readWalker_34 : decode cX7_readWalker 34 = .ok (.iconst 3, 1) := by decide +kernel
theorem dX7_readWalker_35 : decode cX7_readWalker 35 = .ok (.invokevirtual 108, 3) := by decide +kernel
theorem dX7_readWalker_38 : decode cX7_readWalker 38 = .ok (.ireturn, 1) := by decide +kernel
theorem dX7_readWalker_39 : decode cX7_readWalker 39 = .ok (.aload_n 0, 1) := by decide +kernel
theorem dX7_readWalker_40 : decode cX7_readWalker 40 = .ok (.invokevirtual 111, 3) := by decide +kernel
theorem dX7_readWalker_43 : decode cX7_readWalker 43 = .ok (.aload_n 0, 1) := by decide +kernel
theorem dX7_readWalker_44 : decode cX7_readWalker 44 = .ok (.getfield 28, 3) := by decide +kernel
theorem dX7_readWalker_47 : decode cX7_readWalker 47 = .ok (.iconst 1, 1) := by decide +kernel
theorem dX7_readWalker_48 : decode cX7_readWalker 48 = .ok (.dup2, 1) := by decide +kernel
theorem dX7_readWalker_49 : decode cX7_readWalker 49 = .ok (.iaload, 1) := by decide +kernel
theorem dX7_readWalker_50 : decode cX7_readWalker 50 = .ok (.iconst 1, 1) := by decide +kernel
theorem dX7_readWalker_51 : decode cX7_readWalker 51 = .ok (.iadd, 1) := by decide +kernel
theorem dX7_readWalker_52 : decode cX7_readWalker 52 = .ok (.iastore, 1) := by decide +kernel
theorem dX7_readWalker_53 : decode cX7_readWalker 53 = .ok (.aload_n 0, 1) := by decide +kernel
theorem dX7_readWalker_54 : decode cX7_readWalker 54 = .ok (.iconst 0, 1) := by decide +kernel
theorem dX7_readWalker_55 : decode cX7_readWalker 55 = .ok (.iload_n 2, 1) := by decide +kernel
theorem dX7_readWalker_56 : decode cX7_readWalker 56 = .ok (.bipush 29, 2) := by decide +kernel
