theorem dX7_areHeard_11 : decode cX7_areHeard 11 = .ok (.if_icmp .ge 78, 3) := by decide +kernel
theorem dX7_areHeard_14 : decode cX7_areHeard 14 = .ok (.iconst 0, 1) := by decide +kernel
theorem dX7_areHeard_15 : decode cX7_areHeard 15 = .ok (.istore 4, 2) := by decide +kernel
theorem dX7_areHeard_17 : decode cX7_areHeard 17 = .ok (.iconst 0, 1) := by decide +kernel
theorem dX7_areHeard_18 : decode cX7_areHeard 18 = .ok (.istore 5, 2) := by decide +kernel
theorem dX7_areHeard_20 : decode cX7_areHeard 20 = .ok (.iload 5, 2) := by decide +kernel
theorem dX7_areHeard_22 : decode cX7_areHeard 22 = .ok (.aload_n 0, 1) := by decide +kernel
theorem dX7_areHeard_23 : decode cX7_areHeard 23 = .ok (.getfield 19, 3) := by decide +kernel
theorem dX7_areHeard_26 : decode cX7_areHeard 26 = .ok (.iconst 0, 1) := by decide +kernel
theorem dX7_areHeard_27 : decode cX7_areHeard 27 = .ok (.iaload, 1) := by decide +kernel
theorem dX7_areHeard_28 : decode cX7_areHeard 28 = .ok (.if_icmp .ge 40, 3) := by decide +kernel
theorem dX7_areHeard_31 : decode cX7_areHeard 31 = .ok (.iload 4, 2) := by decide +kernel
theorem dX7_areHeard_33 : decode cX7_areHeard 33 = .ok (.ifCond .ne 22, 3) := by decide +kernel
theorem dX7_areHeard_36 : decode cX7_areHeard 36 = .ok (.iload_n 1, 1) := by decide +kernel
theorem dX7_areHeard_37 : decode cX7_areHeard 37 = .ok (.iload 5, 2) := by decide +kernel
theorem dX7_areHeard_39 : decode cX7_areHeard 39 = .ok (.invokestatic 156, 3) := by decide +kernel
theorem dX7_areHeard_42 : decode cX7_areHeard 42 = .ok (.ifCond .eq 17, 3) := by decide +kernel
theorem dX7_areHeard_45 : decode cX7_areHeard 45 = .ok (.aload_n 0, 1) := by decide +kernel
theorem dX7_areHeard_46 : decode cX7_areHeard 46 = .ok (.iload_n 3, 1) := by decide +kernel
theorem dX7_areHeard_47 : decode cX7_areHeard 47 = .ok (.iload 5, 2) := by decide +kernel
theorem dX7_areHeard_49 : decode cX7_areHeard 49 = .ok (.invokevirtual 240, 3) := by decide +kernel
theorem dX7_areHeard_52 : decode cX7_areHeard 52 = .ok (.ifCond .eq 7, 3) := by decide +kernel
theorem dX7_areHeard_55 : decode cX7_areHeard 55 = .ok (.iconst 1, 1) := by decide +kernel
theorem dX7_areHeard_56 : decode cX7_areHeard 56 = .ok (.goto 4, 3) := by decide +kernel
theorem dX7_areHeard_59 : decode cX7_areHeard 59 = .ok (.iconst 0, 1) := by decide +kernel
theorem dX7_areHeard_60 : decode cX7_areHeard 60 = .ok (.istore 4, 2) := by decide +kernel
theorem dX7_areHeard_62 : decode cX7_areHeard 62 = .ok (.iinc 5 1, 3) := by decide +kernel
theorem dX7_areHeard_65 : decode cX7_areHeard 65 = .ok (.goto (-45), 3) := by decide +kernel
theorem dX7_areHeard_68 : decode cX7_areHeard 68 = .ok (.iload_n 2, 1) := by decide +kernel
theorem dX7_areHeard_69 : decode cX7_areHeard 69 = .ok (.ifCond .eq 12, 3) := by decide +kernel
theorem dX7_areHeard_72 : decode cX7_areHeard 72 = .ok (.iload 4, 2) := by decide +kernel
theorem dX7_areHeard_74 : decode cX7_areHeard 74 = .ok (.ifCond .eq 7, 3) := by decide +kernel
theorem dX7_areHeard_77 : decode cX7_areHeard 77 = .ok (.iconst 1, 1) := by decide +kernel
theorem dX7_areHeard_78 : decode cX7_areHeard 78 = .ok (.goto 4, 3) := by decide +kernel
theorem dX7_areHeard_81 : decode cX7_areHeard 81 = .ok (.iconst 0, 1) := by decide +kernel
theorem dX7_areHeard_82 : decode cX7_areHeard 82 = .ok (.istore_n 2, 1) := by decide +kernel
theorem dX7_areHeard_83 : decode cX7_areHeard 83 = .ok (.iinc 3 1, 3) := by decide +kernel
theorem dX7_areHeard_86 : decode cX7_areHeard 86 = .ok (.goto (-82), 3) := by decide +kernel
theorem dX7_areHeard_89 : decode cX7_areHeard 89 = .ok (.iload_n 2, 1) := by decide +kernel
theorem dX7_areHeard_90 : decode cX7_areHeard 90 = .ok (.ireturn, 1) := by decide +kernel
theorem dX7_doors_0 : decode cX7_doors 0 = .ok (.aload_n 0, 1) := by decide +kernel
theorem dX7_doors_1 : decode cX7_doors 1 = .ok (.getfield 138, 3) := by decide +kernel
theorem dX7_doors_4 : decode cX7_doors 4 = .ok (.ifCond .ne 6, 3) := by decide +kernel
theorem dX7_doors_7 : decode cX7_doors 7 = .ok (.ldc 172, 2) := by decide +kernel
theorem dX7_doors_9 : decode cX7_doors 9 = .ok (.ireturn, 1) := by decide +kernel
theorem dX7_doors_10 : decode cX7_doors 10 = .ok (.iload_n 1, 1) := by decide +kernel
theorem dX7_doors_11 : decode cX7_doors 11 = .ok (.invokestatic 216, 3) := by decide +kernel
theorem dX7_doors_14 : decode cX7_doors 14 = .ok (.ifCond .ne 6, 3) := by decide +kernel
theorem dX7_doors_17 : decode cX7_doors 17 = .ok (.ldc 64, 2) := by decide +kernel
theorem dX7_doors_19 : decode cX7_doors 19 = .ok (.ireturn, 1) := by decide +kernel
theorem dX7_doors_20 : decode cX7_doors 20 = .ok (.ldc 207, 2) := by decide +kernel
theorem dX7_doors_22 : decode cX7_doors 22 = .ok (.istore_n 2, 1) := by decide +kernel
theorem dX7_doors_23 : decode cX7_doors 23 = .ok (.iconst 0, 1) := by decide +kernel
theorem dX7_doors_24 : decode cX7_doors 24 = .ok (.istore_n 3, 1) := by decide +kernel
theorem dX7_doors_25 : decode cX7_doors 25 = .ok (.iload_n 3, 1) := by decide +kernel
theorem dX7_doors_26 : decode cX7_doors 26 = .ok (.iconst 1, 1) := by decide +kernel
theorem dX7_doors_27 : decode cX7_doors 27 = .ok (.aload_n 0, 1) := by decide +kernel
theorem dX7_doors_28 : decode cX7_doors 28 = .ok (.getfield 19, 3) := by decide +kernel
theorem dX7_doors_31 : decode cX7_doors 31 = .ok (.iconst 0, 1) := by decide +kernel
theorem dX7_doors_32 : decode cX7_doors 32 = .ok (.iaload, 1) := by decide +kernel
theorem dX7_doors_33 : decode cX7_doors 33 = .ok (.ishl, 1) := by decide +kernel
theorem dX7_doors_34 : decode cX7_doors 34 = .ok (.if_icmp .ge 38, 3) := by decide +kernel
theorem dX7_doors_37 : decode cX7_doors 37 = .ok (.iload_n 2, 1) := by decide +kernel
theorem dX7_doors_38 : decode cX7_doors 38 = .ok (.ifCond .lt 14, 3) := by decide +kernel
theorem dX7_doors_41 : decode cX7_doors 41 = .ok (.iload_n 3, 1) := by decide +kernel
theorem dX7_doors_42 : decode cX7_doors 42 = .ok (.invokestatic 228, 3) := by decide +kernel
theorem dX7_doors_45 : decode cX7_doors 45 = .ok (.iload_n 2, 1) := by decide +kernel
theorem dX7_doors_46 : decode cX7_doors 46 = .ok (.invokestatic 228, 3) := by decide +kernel
theorem dX7_doors_49 : decode cX7_doors 49 = .ok (.if_icmp .ge 15, 3) := by decide +kernel
theorem dX7_doors_52 : decode cX7_doors 52 = .ok (.aload_n 0, 1) := by decide +kernel
theorem dX7_doors_53 : decode cX7_doors 53 = .ok (.iload_n 3, 1) := by decide +kernel
theorem dX7_doors_54 : decode cX7_doors 54 = .ok (.invokevirtual 243, 3) := by decide +kernel
theorem dX7_doors_57 : decode cX7_doors 57 = .ok (.ifCond .eq 7, 3) := by decide +kernel
theorem dX7_doors_60 : decode cX7_doors 60 = .ok (.iload_n 3, 1) := by decide +kernel
theorem dX7_doors_61 : decode cX7_doors 61 = .ok (.goto 4, 3) := by decide +kernel
theorem dX7_doors_64 : decode cX7_doors 64 = .ok (.iload_n 2, 1) := by decide +kernel
theorem dX7_doors_65 : decode cX7_doors 65 = .ok (.istore_n 2, 1) := by decide +kernel
theorem dX7_doors_66 : decode cX7_doors 66 = .ok (.iinc 3 1, 3) := by decide +kernel
theorem dX7_doors_69 : decode cX7_doors 69 = .ok (.goto (-44), 3) := by decide +kernel
theorem dX7_doors_72 : decode cX7_doors 72 = .ok (.iload_n 2, 1) := by decide +kernel
theorem dX7_doors_73 : decode cX7_doors 73 = .ok (.ifCond .lt 8, 3) := by decide +kernel
theorem dX7_doors_76 : decode cX7_doors 76 = .ok (.iload_n 1, 1) := by decide +kernel
theorem dX7_doors_77 : decode cX7_doors 77 = .ok (.iconst 1, 1) := by decide +kernel
theorem dX7_doors_78 : decode cX7_doors 78 = .ok (.if_icmp .ne 7, 3) := by decide +kernel
theorem dX7_doors_81 : decode cX7_doors 81 = .ok (.iload_n 2, 1) := by decide +kernel
theorem dX7_doors_82 : decode cX7_doors 82 = .ok (.goto 7, 3) := by decide +kernel
theorem dX7_doors_85 : decode cX7_doors 85 = .ok (.iload_n 2, 1) := by decide +kernel
theorem dX7_doors_86 : decode cX7_doors 86 = .ok (.invokestatic 228, 3) := by decide +kernel
theorem dX7_doors_89 : decode cX7_doors 89 = .ok (.ireturn, 1) := by decide +kernel
theorem dX7_planed_0 : decode cX7_planed 0 = .ok (.aload_n 0, 1) := by decide +kernel
theorem dX7_planed_1 : decode cX7_planed 1 = .ok (.getfield 138, 3) := by decide +kernel
theorem dX7_planed_4 : decode cX7_planed 4 = .ok (.ifCond .ne 6, 3) := by decide +kernel
theorem dX7_planed_7 : decode cX7_planed 7 = .ok (.ldc 172, 2) := by decide +kernel
theorem dX7_planed_9 : decode cX7_planed 9 = .ok (.ireturn, 1) := by decide +kernel
theorem dX7_planed_10 : decode cX7_planed 10 = .ok (.iload_n 1, 1) := by decide +kernel
theorem dX7_planed_11 : decode cX7_planed 11 = .ok (.invokestatic 216, 3) := by decide +kernel
theorem dX7_planed_14 : decode cX7_planed 14 = .ok (.ifCond .ne 6, 3) := by decide +kernel
theorem dX7_planed_17 : decode cX7_planed 17 = .ok (.ldc 64, 2) := by decide +kernel
theorem dX7_planed_19 : decode cX7_planed 19 = .ok (.ireturn, 1) := by decide +kernel
theorem dX7_planed_20 : decode cX7_planed 20 = .ok (.aload_n 0, 1) := by decide +kernel
theorem dX7_planed_21 : decode cX7_planed 21 = .ok (.invokevirtual 219, 3) := by decide +kernel
theorem dX7_planed_24 : decode cX7_planed 24 = .ok (.ldc 207, 2) := by decide +kernel
theorem dX7_planed_26 : decode cX7_planed 26 = .ok (.istore_n 2, 1) := by decide +kernel
theorem dX7_planed_27 : decode cX7_planed 27 = .ok (.iconst 0, 1) := by decide +kernel
theorem dX7_planed_28 : decode cX7_planed 28 = .ok (.istore_n 3, 1) := by decide +kernel
theorem dX7_planed_29 : decode cX7_planed 29 = .ok (.iconst 0, 1) := by decide +kernel
theorem dX7_planed_30 : decode cX7_planed 30 = .ok (.istore 4, 2) := by decide +kernel
theorem dX7_planed_32 : decode cX7_planed 32 = .ok (.iload 4, 2) := by decide +kernel
theorem dX7_planed_34 : decode cX7_planed 34 = .ok (.aload_n 0, 1) := by decide +kernel
theorem dX7_planed_35 : decode cX7_planed 35 = .ok (.getfield 19, 3) := by decide +kernel
theorem dX7_planed_38 : decode cX7_planed 38 = .ok (.iconst 0, 1) := by decide +kernel
theorem dX7_planed_39 : decode cX7_planed 39 = .ok (.iaload, 1) := by decide +kernel
theorem dX7_planed_40 : decode cX7_planed 40 = .ok (.if_icmp .ge 65, 3) := by decide +kernel
theorem dX7_planed_43 : decode cX7_planed 43 = .ok (.iconst 0, 1) := by decide +kernel
theorem dX7_planed_44 : decode cX7_planed 44 = .ok (.istore 5, 2) := by decide +kernel
theorem dX7_planed_46 : decode cX7_planed 46 = .ok (.iload 5, 2) := by decide +kernel
theorem dX7_planed_48 : decode cX7_planed 48 = .ok (.bipush 10, 2) := by decide +kernel
theorem dX7_planed_50 : decode cX7_planed 50 = .ok (.if_icmp .ge 49, 3) := by decide +kernel
theorem dX7_planed_53 : decode cX7_planed 53 = .ok (.aload_n 0, 1) := by decide +kernel
theorem dX7_planed_54 : decode cX7_planed 54 = .ok (.iload 4, 2) := by decide +kernel
theorem dX7_planed_56 : decode cX7_planed 56 = .ok (.iload 5, 2) := by decide +kernel
theorem dX7_planed_58 : decode cX7_planed 58 = .ok (.invokevirtual 190, 3) := by decide +kernel
theorem dX7_planed_61 : decode cX7_planed 61 = .ok (.aload_n 0, 1) := by decide +kernel
theorem dX7_planed_62 : decode cX7_planed 62 = .ok (.invokevirtual 237, 3) := by decide +kernel
theorem dX7_planed_65 : decode cX7_planed 65 = .ok (.istore 6, 2) := by decide +kernel
theorem dX7_planed_67 : decode cX7_planed 67 = .ok (.aload_n 0, 1) := by decide +kernel
theorem dX7_planed_68 : decode cX7_planed 68 = .ok (.invokevirtual 222, 3) := by decide +kernel
theorem dX7_planed_71 : decode cX7_planed 71 = .ok (.iload_n 2, 1) := by decide +kernel
theorem dX7_planed_72 : decode cX7_planed 72 = .ok (.ifCond .lt 9, 3) := by decide +kernel
theorem dX7_planed_75 : decode cX7_planed 75 = .ok (.iload 6, 2) := by decide +kernel
theorem dX7_planed_77 : decode cX7_planed 77 = .ok (.iload_n 3, 1) := by decide +kernel
theorem dX7_planed_78 : decode cX7_planed 78 = .ok (.if_icmp .ge 15, 3) := by decide +kernel
theorem dX7_planed_81 : decode cX7_planed 81 = .ok (.bipush 10, 2) := by decide +kernel
theorem dX7_planed_83 : decode cX7_planed 83 = .ok (.iload 4, 2) := by decide +kernel
theorem dX7_planed_85 : decode cX7_planed 85 = .ok (.imul, 1) := by decide +kernel
theorem dX7_planed_86 : decode cX7_planed 86 = .ok (.iload 5, 2) := by decide +kernel
theorem dX7_planed_88 : decode cX7_planed 88 = .ok (.iadd, 1) := by decide +kernel
theorem dX7_planed_89 : decode cX7_planed 89 = .ok (.istore_n 2, 1) := by decide +kernel
theorem dX7_planed_90 : decode cX7_planed 90 = .ok (.iload 6, 2) := by decide +kernel
theorem dX7_planed_92 : decode cX7_planed 92 = .ok (.istore_n 3, 1) := by decide +kernel
theorem dX7_planed_93 : decode cX7_planed 93 = .ok (.iinc 5 1, 3) := by decide +kernel
theorem dX7_planed_96 : decode cX7_planed 96 = .ok (.goto (-50), 3) := by decide +kernel
theorem dX7_planed_99 : decode cX7_planed 99 = .ok (.iinc 4 1, 3) := by decide +kernel
theorem dX7_planed_102 : decode cX7_planed 102 = .ok (.goto (-70), 3) := by decide +kernel
theorem dX7_planed_105 : decode cX7_planed 105 = .ok (.iload_n 1, 1) := by decide +kernel
theorem dX7_planed_106 : decode cX7_planed 106 = .ok (.ifCond .ne 7, 3) := by decide +kernel
theorem dX7_planed_109 : decode cX7_planed 109 = .ok (.iload_n 2, 1) := by decide +kernel
theorem dX7_planed_110 : decode cX7_planed 110 = .ok (.goto 4, 3) := by decide +kernel
theorem dX7_planed_113 : decode cX7_planed 113 = .ok (.iload_n 3, 1) := by decide +kernel
theorem dX7_planed_114 : decode cX7_planed 114 = .ok (.ireturn, 1) := by decide +kernel
theorem dX7_isRise_0 : decode cX7_isRise 0 = .ok (.iconst 0, 1) := by decide +kernel
theorem dX7_isRise_1 : decode cX7_isRise 1 = .ok (.istore 4, 2) := by decide +kernel
theorem dX7_isRise_3 : decode cX7_isRise 3 = .ok (.iconst 0, 1) := by decide +kernel
theorem dX7_isRise_4 : decode cX7_isRise 4 = .ok (.istore 5, 2) := by decide +kernel
theorem dX7_isRise_6 : decode cX7_isRise 6 = .ok (.iload 5, 2) := by decide +kernel
theorem dX7_isRise_8 : decode cX7_isRise 8 = .ok (.aload_n 0, 1) := by decide +kernel
theorem dX7_isRise_9 : decode cX7_isRise 9 = .ok (.iload_n 1, 1) := by decide +kernel
theorem dX7_isRise_10 : decode cX7_isRise 10 = .ok (.invokevirtual 150, 3) := by decide +kernel
theorem dX7_isRise_13 : decode cX7_isRise 13 = .ok (.if_icmp .ge 45, 3) := by decide +kernel
theorem dX7_isRise_16 : decode cX7_isRise 16 = .ok (.iload 4, 2) := by decide +kernel
theorem dX7_isRise_18 : decode cX7_isRise 18 = .ok (.ifCond .ne 27, 3) := by decide +kernel
theorem dX7_isRise_21 : decode cX7_isRise 21 = .ok (.aload_n 0, 1) := by decide +kernel
theorem dX7_isRise_22 : decode cX7_isRise 22 = .ok (.iload_n 2, 1) := by decide +kernel
theorem dX7_isRise_23 : decode cX7_isRise 23 = .ok (.aload_n 0, 1) := by decide +kernel
theorem dX7_isRise_24 : decode cX7_isRise 24 = .ok (.getfield 19, 3) := by decide +kernel
theorem dX7_isRise_27 : decode cX7_isRise 27 = .ok (.bipush 44, 2) := by decide +kernel
theorem dX7_isRise_29 : decode cX7_isRise 29 = .ok (.iload_n 1, 1) := by decide +kernel
theorem dX7_isRise_30 : decode cX7_isRise 30 = .ok (.iadd, 1) := by decide +kernel
theorem dX7_isRise_31 : decode cX7_isRise 31 = .ok (.iaload, 1) := by decide +kernel
theorem dX7_isRise_32 : decode cX7_isRise 32 = .ok (.iload 5, 2) := by decide +kernel
theorem dX7_isRise_34 : decode cX7_isRise 34 = .ok (.iadd, 1) := by decide +kernel
theorem dX7_isRise_35 : decode cX7_isRise 35 = .ok (.invokevirtual 211, 3) := by decide +kernel
theorem dX7_isRise_38 : decode cX7_isRise 38 = .ok (.invokestatic 228, 3) := by decide +kernel
theorem dX7_isRise_41 : decode cX7_isRise 41 = .ok (.iload_n 3, 1) := by decide +kernel
theorem dX7_isRise_42 : decode cX7_isRise 42 = .ok (.if_icmp .lt 7, 3) := by decide +kernel
theorem dX7_isRise_45 : decode cX7_isRise 45 = .ok (.iconst 1, 1) := by decide +kernel
theorem dX7_isRise_46 : decode cX7_isRise 46 = .ok (.goto 4, 3) := by decide +kernel
theorem dX7_isRise_49 : decode cX7_isRise 49 = .ok (.iconst 0, 1) := by decide +kernel
theorem dX7_isRise_50 : decode cX7_isRise 50 = .ok (.istore 4, 2) := by decide +kernel
theorem dX7_isRise_52 : decode cX7_isRise 52 = .ok (.iinc 5 1, 3) := by decide +kernel
theorem dX7_isRise_55 : decode cX7_isRise 55 = .ok (.goto (-49), 3) := by decide +kernel
theorem dX7_isRise_58 : decode cX7_isRise 58 = .ok (.iload 4, 2) := by decide +kernel
theorem dX7_isRise_60 : decode cX7_isRise 60 = .ok (.ireturn, 1) := by decide +kernel
theorem dX7_rise_0 : decode cX7_rise 0 = .ok (.aload_n 0, 1) := by decide +kernel
theorem dX7_rise_1 : decode cX7_rise 1 = .ok (.iload_n 1, 1) := by decide +kernel
theorem dX7_rise_2 : decode cX7_rise 2 = .ok (.invokevirtual 194, 3) := by decide +kernel
theorem dX7_rise_5 : decode cX7_rise 5 = .ok (.ifCond .eq 31, 3) := by decide +kernel
theorem dX7_rise_8 : decode cX7_rise 8 = .ok (.aload_n 0, 1) := by decide +kernel
theorem dX7_rise_9 : decode cX7_rise 9 = .ok (.iload_n 2, 1) := by decide +kernel
theorem dX7_rise_10 : decode cX7_rise 10 = .ok (.invokevirtual 185, 3) := by decide +kernel
theorem dX7_rise_13 : decode cX7_rise 13 = .ok (.ifCond .eq 23, 3) := by decide +kernel
theorem dX7_rise_16 : decode cX7_rise 16 = .ok (.iload_n 3, 1) := by decide +kernel
theorem dX7_rise_17 : decode cX7_rise 17 = .ok (.i2l, 1) := by decide +kernel
theorem dX7_rise_18 : decode cX7_rise 18 = .ok (.lconst 1, 1) := by decide +kernel
theorem dX7_rise_19 : decode cX7_rise 19 = .ok (.ldc2_w 188, 3) := by decide +kernel
theorem dX7_rise_22 : decode cX7_rise 22 = .ok (.invokestatic 54, 3) := by decide +kernel
theorem dX7_rise_25 : decode cX7_rise 25 = .ok (.ifCond .eq 11, 3) := by decide +kernel
theorem dX7_rise_28 : decode cX7_rise 28 = .ok (.iload 4, 2) := by decide +kernel
theorem dX7_rise_30 : decode cX7_rise 30 = .ok (.invokestatic 216, 3) := by decide +kernel
theorem dX7_rise_33 : decode cX7_rise 33 = .ok (.ifCond .ne 6, 3) := by decide +kernel
theorem dX7_rise_36 : decode cX7_rise 36 = .ok (.ldc 64, 2) := by decide +kernel
theorem dX7_rise_38 : decode cX7_rise 38 = .ok (.ireturn, 1) := by decide +kernel
theorem dX7_rise_39 : decode cX7_rise 39 = .ok (.aload_n 0, 1) := by decide +kernel
theorem dX7_rise_40 : decode cX7_rise 40 = .ok (.invokevirtual 219, 3) := by decide +kernel
theorem dX7_rise_43 : decode cX7_rise 43 = .ok (.iconst 0, 1) := by decide +kernel
theorem dX7_rise_44 : decode cX7_rise 44 = .ok (.istore 5, 2) := by decide +kernel
theorem dX7_rise_46 : decode cX7_rise 46 = .ok (.ldc 207, 2) := by decide +kernel
theorem dX7_rise_48 : decode cX7_rise 48 = .ok (.istore 6, 2) := by decide +kernel
theorem dX7_rise_50 : decode cX7_rise 50 = .ok (.iconst 1, 1) := by decide +kernel
theorem dX7_rise_51 : decode cX7_rise 51 = .ok (.istore 7, 2) := by decide +kernel
theorem dX7_rise_53 : decode cX7_rise 53 = .ok (.iload 7, 2) := by decide +kernel
theorem dX7_rise_55 : decode cX7_rise 55 = .ok (.iconst 4, 1) := by decide +kernel
theorem dX7_rise_56 : decode cX7_rise 56 = .ok (.if_icmp .ge 80, 3) := by decide +kernel
theorem dX7_rise_59 : decode cX7_rise 59 = .ok (.iconst 0, 1) := by decide +kernel
theorem dX7_rise_60 : decode cX7_rise 60 = .ok (.istore 8, 2) := by decide +kernel
theorem dX7_rise_62 : decode cX7_rise 62 = .ok (.iload 8, 2) := by decide +kernel
theorem dX7_rise_64 : decode cX7_rise 64 = .ok (.bipush 20, 2) := by decide +kernel
theorem dX7_rise_66 : decode cX7_rise 66 = .ok (.if_icmp .gt 64, 3) := by decide +kernel
theorem dX7_rise_69 : decode cX7_rise 69 = .ok (.aload_n 0, 1) := by decide +kernel
theorem dX7_rise_70 : decode cX7_rise 70 = .ok (.getfield 19, 3) := by decide +kernel
theorem dX7_rise_73 : decode cX7_rise 73 = .ok (.bipush 39, 2) := by decide +kernel
theorem dX7_rise_75 : decode cX7_rise 75 = .ok (.iload_n 1, 1) := by decide +kernel
theorem dX7_rise_76 : decode cX7_rise 76 = .ok (.iadd, 1) := by decide +kernel
theorem dX7_rise_77 : decode cX7_rise 77 = .ok (.iload 7, 2) := by decide +kernel
theorem dX7_rise_79 : decode cX7_rise 79 = .ok (.iastore, 1) := by decide +kernel
theorem dX7_rise_80 : decode cX7_rise 80 = .ok (.aload_n 0, 1) := by decide +kernel
theorem dX7_rise_81 : decode cX7_rise 81 = .ok (.getfield 19, 3) := by decide +kernel
theorem dX7_rise_84 : decode cX7_rise 84 = .ok (.bipush 44, 2) := by decide +kernel
theorem dX7_rise_86 : decode cX7_rise 86 = .ok (.iload_n 1, 1) := by decide +kernel
theorem dX7_rise_87 : decode cX7_rise 87 = .ok (.iadd, 1) := by decide +kernel
theorem dX7_rise_88 : decode cX7_rise 88 = .ok (.iload 8, 2) := by decide +kernel
theorem dX7_rise_90 : decode cX7_rise 90 = .ok (.iastore, 1) := by decide +kernel
theorem dX7_rise_91 : decode cX7_rise 91 = .ok (.aload_n 0, 1) := by decide +kernel
theorem dX7_rise_92 : decode cX7_rise 92 = .ok (.iload_n 1, 1) := by decide +kernel
theorem dX7_rise_93 : decode cX7_rise 93 = .ok (.iload_n 2, 1) := by decide +kernel
theorem dX7_rise_94 : decode cX7_rise 94 = .ok (.iload_n 3, 1) := by decide +kernel
theorem dX7_rise_95 : decode cX7_rise 95 = .ok (.invokevirtual 246, 3) := by decide +kernel
theorem dX7_rise_98 : decode cX7_rise 98 = .ok (.ifCond .eq 26, 3) := by decide +kernel
theorem dX7_rise_101 : decode cX7_rise 101 = .ok (.iinc 5 1, 3) := by decide +kernel
theorem dX7_rise_104 : decode cX7_rise 104 = .ok (.iload 6, 2) := by decide +kernel
theorem dX7_rise_106 : decode cX7_rise 106 = .ok (.ifCond .ge 14, 3) := by decide +kernel
theorem dX7_rise_109 : decode cX7_rise 109 = .ok (.bipush 100, 2) := by decide +kernel
theorem dX7_rise_111 : decode cX7_rise 111 = .ok (.iload 7, 2) := by decide +kernel
theorem dX7_rise_113 : decode cX7_rise 113 = .ok (.imul, 1) := by decide +kernel
theorem dX7_rise_114 : decode cX7_rise 114 = .ok (.iload 8, 2) := by decide +kernel
theorem dX7_rise_116 : decode cX7_rise 116 = .ok (.iadd, 1) := by decide +kernel
theorem dX7_rise_117 : decode cX7_rise 117 = .ok (.goto 5, 3) := by decide +kernel
theorem dX7_rise_120 : decode cX7_rise 120 = .ok (.iload 6, 2) := by decide +kernel
theorem dX7_rise_122 : decode cX7_rise 122 = .ok (.istore 6, 2) := by decide +kernel
theorem dX7_rise_124 : decode cX7_rise 124 = .ok (.iinc 8 1, 3) := by decide +kernel
theorem dX7_rise_127 : decode cX7_rise 127 = .ok (.goto (-65), 3) := by decide +kernel
theorem dX7_rise_130 : decode cX7_rise 130 = .ok (.iinc 7 1, 3) := by decide +kernel
theorem dX7_rise_133 : decode cX7_rise 133 = .ok (.goto (-80), 3) := by decide +kernel
theorem dX7_rise_136 : decode cX7_rise 136 = .ok (.aload_n 0, 1) := by decide +kernel
theorem dX7_rise_137 : decode cX7_rise 137 = .ok (.invokevirtual 222, 3) := by decide +kernel
theorem dX7_rise_140 : decode cX7_rise 140 = .ok (.iload 4, 2) := by decide +kernel
theorem dX7_rise_142 : decode cX7_rise 142 = .ok (.ifCond .ne 8, 3) := by decide +kernel
theorem dX7_rise_145 : decode cX7_rise 145 = .ok (.iload 5, 2) := by decide +kernel
theorem dX7_rise_147 : decode cX7_rise 147 = .ok (.goto 5, 3) := by decide +kernel
theorem dX7_rise_150 : decode cX7_rise 150 = .ok (.iload 6, 2) := by decide +kernel
theorem dX7_rise_152 : decode cX7_rise 152 = .ok (.ireturn, 1) := by decide +kernel
theorem dX7_lacks_0 : decode cX7_lacks 0 = .ok (.aload_n 0, 1) := by decide +kernel
theorem dX7_lacks_1 : decode cX7_lacks 1 = .ok (.getfield 13, 3) := by decide +kernel
theorem dX7_lacks_4 : decode cX7_lacks 4 = .ok (.iload_n 1, 1) := by decide +kernel
theorem dX7_lacks_5 : decode cX7_lacks 5 = .ok (.iaload, 1) := by decide +kernel
theorem dX7_lacks_6 : decode cX7_lacks 6 = .ok (.ifCond .ge 9, 3) := by decide +kernel
theorem dX7_lacks_9 : decode cX7_lacks 9 = .ok (.aload_n 0, 1) := by decide +kernel
theorem dX7_lacks_10 : decode cX7_lacks 10 = .ok (.iconst 1, 1) := by decide +kernel
theorem dX7_lacks_11 : decode cX7_lacks 11 = .ok (.invokevirtual 65, 3) := by decide +kernel
theorem dX7_lacks_14 : decode cX7_lacks 14 = .ok (.ireturn, 1) := by decide +kernel
theorem dX7_lacks_15 : decode cX7_lacks 15 = .ok (.iload_n 2, 1) := by decide +kernel
theorem dX7_lacks_16 : decode cX7_lacks 16 = .ok (.i2l, 1) := by decide +kernel
theorem dX7_lacks_17 : decode cX7_lacks 17 = .ok (.lconst 0, 1) := by decide +kernel
theorem dX7_lacks_18 : decode cX7_lacks 18 = .ok (.aload_n 0, 1) := by decide +kernel
theorem dX7_lacks_19 : decode cX7_lacks 19 = .ok (.getfield 13, 3) := by decide +kernel
theorem dX7_lacks_22 : decode cX7_lacks 22 = .ok (.iload_n 1, 1) := by decide +kernel
theorem dX7_lacks_23 : decode cX7_lacks 23 = .ok (.iaload, 1) := by decide +kernel
theorem dX7_lacks_24 : decode cX7_lacks 24 = .ok (.iload_n 3, 1) := by decide +kernel
theorem dX7_lacks_25 : decode cX7_lacks 25 = .ok (.isub, 1) := by decide +kernel
theorem dX7_lacks_26 : decode cX7_lacks 26 = .ok (.i2l, 1) := by decide +kernel
theorem dX7_lacks_27 : decode cX7_lacks 27 = .ok (.invokestatic 54, 3) := by decide +kernel
theorem dX7_lacks_30 : decode cX7_lacks 30 = .ok (.ifCond .eq 7, 3) := by decide +kernel
theorem dX7_lacks_33 : decode cX7_lacks 33 = .ok (.iconst 0, 1) := by decide +kernel
theorem dX7_lacks_34 : decode cX7_lacks 34 = .ok (.goto 8, 3) := by decide +kernel
theorem dX7_lacks_37 : decode cX7_lacks 37 = .ok (.aload_n 0, 1) := by decide +kernel
theorem dX7_lacks_38 : decode cX7_lacks 38 = .ok (.iconst 2, 1) := by decide +kernel
theorem dX7_lacks_39 : decode cX7_lacks 39 = .ok (.invokevirtual 65, 3) := by decide +kernel
theorem dX7_lacks_42 : decode cX7_lacks 42 = .ok (.ireturn, 1) := by decide +kernel
theorem dX7_isSo_0 : decode cX7_isSo 0 = .ok (.iconst 1, 1) := by decide +kernel
theorem dX7_isSo_1 : decode cX7_isSo 1 = .ok (.istore 5, 2) := by decide +kernel
theorem dX7_isSo_3 : decode cX7_isSo 3 = .ok (.iconst 0, 1) := by decide +kernel
theorem dX7_isSo_4 : decode cX7_isSo 4 = .ok (.istore 6, 2) := by decide +kernel
theorem dX7_isSo_6 : decode cX7_isSo 6 = .ok (.iload 6, 2) := by decide +kernel
theorem dX7_isSo_8 : decode cX7_isSo 8 = .ok (.iload 4, 2) := by decide +kernel
theorem dX7_isSo_10 : decode cX7_isSo 10 = .ok (.if_icmp .ge 42, 3) := by decide +kernel
theorem dX7_isSo_13 : decode cX7_isSo 13 = .ok (.iload 5, 2) := by decide +kernel
theorem dX7_isSo_15 : decode cX7_isSo 15 = .ok (.ifCond .eq 37, 3) := by decide +kernel
theorem dX7_isSo_18 : decode cX7_isSo 18 = .ok (.aload_n 0, 1) := by decide +kernel
theorem dX7_isSo_19 : decode cX7_isSo 19 = .ok (.getfield 16, 3) := by decide +kernel
theorem dX7_isSo_22 : decode cX7_isSo 22 = .ok (.iload_n 3, 1) := by decide +kernel
theorem dX7_isSo_23 : decode cX7_isSo 23 = .ok (.iload 6, 2) := by decide +kernel
theorem dX7_isSo_25 : decode cX7_isSo 25 = .ok (.iadd, 1) := by decide +kernel
theorem dX7_isSo_26 : decode cX7_isSo 26 = .ok (.iaload, 1) := by decide +kernel
theorem dX7_isSo_27 : decode cX7_isSo 27 = .ok (.aload_n 0, 1) := by decide +kernel
theorem dX7_isSo_28 : decode cX7_isSo 28 = .ok (.iload_n 1, 1) := by decide +kernel
theorem dX7_isSo_29 : decode cX7_isSo 29 = .ok (.iload_n 2, 1) := by decide +kernel
theorem dX7_isSo_30 : decode cX7_isSo 30 = .ok (.iload 6, 2) := by decide +kernel
theorem dX7_isSo_32 : decode cX7_isSo 32 = .ok (.iadd, 1) := by decide +kernel
theorem dX7_isSo_33 : decode cX7_isSo 33 = .ok (.invokevirtual 211, 3) := by decide +kernel
theorem dX7_isSo_36 : decode cX7_isSo 36 = .ok (.if_icmp .ne 7, 3) := by decide +kernel
theorem dX7_isSo_39 : decode cX7_isSo 39 = .ok (.iconst 1, 1) := by decide +kernel
theorem dX7_isSo_40 : decode cX7_isSo 40 = .ok (.goto 4, 3) := by decide +kernel
theorem dX7_isSo_43 : decode cX7_isSo 43 = .ok (.iconst 0, 1) := by decide +kernel
theorem dX7_isSo_44 : decode cX7_isSo 44 = .ok (.istore 5, 2) := by decide +kernel
theorem dX7_isSo_46 : decode cX7_isSo 46 = .ok (.iinc 6 1, 3) := by decide +kernel
theorem dX7_isSo_49 : decode cX7_isSo 49 = .ok (.goto (-43), 3) := by decide +kernel
theorem dX7_isSo_52 : decode cX7_isSo 52 = .ok (.iload 5, 2) := by decide +kernel
theorem dX7_isSo_54 : decode cX7_isSo 54 = .ok (.ireturn, 1) := by decide +kernel
theorem dX7_fits_0 : decode cX7_fits 0 = .ok (.aload_n 0, 1) := by decide +kernel
theorem dX7_fits_1 : decode cX7_fits 1 = .ok (.getfield 19, 3) := by decide +kernel
theorem dX7_fits_4 : decode cX7_fits 4 = .ok (.iload_n 1, 1) := by decide +kernel
theorem dX7_fits_5 : decode cX7_fits 5 = .ok (.iaload, 1) := by decide +kernel
theorem dX7_fits_6 : decode cX7_fits 6 = .ok (.istore 8, 2) := by decide +kernel
theorem dX7_fits_8 : decode cX7_fits 8 = .ok (.iconst 0, 1) := by decide +kernel
theorem dX7_fits_9 : decode cX7_fits 9 = .ok (.istore 9, 2) := by decide +kernel
theorem dX7_fits_11 : decode cX7_fits 11 = .ok (.iload_n 2, 1) := by decide +kernel
theorem dX7_fits_12 : decode cX7_fits 12 = .ok (.istore 10, 2) := by decide +kernel
theorem dX7_fits_14 : decode cX7_fits 14 = .ok (.iload 10, 2) := by decide +kernel
theorem dX7_fits_16 : decode cX7_fits 16 = .ok (.iload_n 3, 1) := by decide +kernel
theorem dX7_fits_17 : decode cX7_fits 17 = .ok (.if_icmp .gt 45, 3) := by decide +kernel
theorem dX7_fits_20 : decode cX7_fits 20 = .ok (.aload_n 0, 1) := by decide +kernel
theorem dX7_fits_21 : decode cX7_fits 21 = .ok (.getfield 19, 3) := by decide +kernel
theorem dX7_fits_24 : decode cX7_fits 24 = .ok (.iload_n 1, 1) := by decide +kernel
theorem dX7_fits_25 : decode cX7_fits 25 = .ok (.iload 10, 2) := by decide +kernel
theorem dX7_fits_27 : decode cX7_fits 27 = .ok (.iastore, 1) := by decide +kernel
theorem dX7_fits_28 : decode cX7_fits 28 = .ok (.iload 9, 2) := by decide +kernel
theorem dX7_fits_30 : decode cX7_fits 30 = .ok (.aload_n 0, 1) := by decide +kernel
theorem dX7_fits_31 : decode cX7_fits 31 = .ok (.iload 4, 2) := by decide +kernel
theorem dX7_fits_33 : decode cX7_fits 33 = .ok (.iload 5, 2) := by decide +kernel
theorem dX7_fits_35 : decode cX7_fits 35 = .ok (.iload 6, 2) := by decide +kernel
theorem dX7_fits_37 : decode cX7_fits 37 = .ok (.iload 7, 2) := by decide +kernel
theorem dX7_fits_39 : decode cX7_fits 39 = .ok (.invokevirtual 250, 3) := by decide +kernel
theorem dX7_fits_42 : decode cX7_fits 42 = .ok (.ifCond .eq 10, 3) := by decide +kernel
theorem dX7_fits_45 : decode cX7_fits 45 = .ok (.iconst 1, 1) := by decide +kernel
theorem dX7_fits_46 : decode cX7_fits 46 = .ok (.iload 10, 2) := by decide +kernel
theorem dX7_fits_48 : decode cX7_fits 48 = .ok (.ishl, 1) := by decide +kernel
theorem dX7_fits_49 : decode cX7_fits 49 = .ok (.goto 4, 3) := by decide +kernel
theorem dX7_fits_52 : decode cX7_fits 52 = .ok (.iconst 0, 1) := by decide +kernel
theorem dX7_fits_53 : decode cX7_fits 53 = .ok (.ior, 1) := by decide +kernel
theorem dX7_fits_54 : decode cX7_fits 54 = .ok (.istore 9, 2) := by decide +kernel
theorem dX7_fits_56 : decode cX7_fits 56 = .ok (.iinc 10 1, 3) := by decide +kernel
theorem dX7_fits_59 : decode cX7_fits 59 = .ok (.goto (-45), 3) := by decide +kernel
theorem dX7_fits_62 : decode cX7_fits 62 = .ok (.aload_n 0, 1) := by decide +kernel
theorem dX7_fits_63 : decode cX7_fits 63 = .ok (.getfield 19, 3) := by decide +kernel
theorem dX7_fits_66 : decode cX7_fits 66 = .ok (.iload_n 1, 1) := by decide +kernel
theorem dX7_fits_67 : decode cX7_fits 67 = .ok (.iload 8, 2) := by decide +kernel
theorem dX7_fits_69 : decode cX7_fits 69 = .ok (.iastore, 1) := by decide +kernel
theorem dX7_fits_70 : decode cX7_fits 70 = .ok (.aload_n 0, 1) := by decide +kernel
theorem dX7_fits_71 : decode cX7_fits 71 = .ok (.iload 9, 2) := by decide +kernel
theorem dX7_fits_73 : decode cX7_fits 73 = .ok (.invokevirtual 69, 3) := by decide +kernel
theorem dX7_fits_76 : decode cX7_fits 76 = .ok (.ireturn, 1) := by decide +kernel
theorem dX7_what_0 : decode cX7_what 0 = .ok (.aload_n 0, 1) := by decide +kernel
theorem dX7_what_1 : decode cX7_what 1 = .ok (.iload_n 1, 1) := by decide +kernel
theorem dX7_what_2 : decode cX7_what 2 = .ok (.invokevirtual 185, 3) := by decide +kernel
theorem dX7_what_5 : decode cX7_what 5 = .ok (.ifCond .eq 50, 3) := by decide +kernel
theorem dX7_what_8 : decode cX7_what 8 = .ok (.iload_n 2, 1) := by decide +kernel
theorem dX7_what_9 : decode cX7_what 9 = .ok (.i2l, 1) := by decide +kernel
theorem dX7_what_10 : decode cX7_what 10 = .ok (.lconst 0, 1) := by decide +kernel
theorem dX7_what_11 : decode cX7_what 11 = .ok (.lconst 1, 1) := by decide +kernel
theorem dX7_what_12 : decode cX7_what 12 = .ok (.invokestatic 54, 3) := by decide +kernel
theorem dX7_what_15 : decode cX7_what 15 = .ok (.ifCond .eq 40, 3) := by decide +kernel
theorem dX7_what_18 : decode cX7_what 18 = .ok (.aload_n 0, 1) := by decide +kernel
theorem dX7_what_19 : decode cX7_what 19 = .ok (.iload_n 3, 1) := by decide +kernel
theorem dX7_what_20 : decode cX7_what 20 = .ok (.invokevirtual 185, 3) := by decide +kernel
theorem dX7_what_23 : decode cX7_what 23 = .ok (.ifCond .eq 32, 3) := by decide +kernel
theorem dX7_what_26 : decode cX7_what 26 = .ok (.iload 4, 2) := by decide +kernel
theorem dX7_what_28 : decode cX7_what 28 = .ok (.invokestatic 208, 3) := by decide +kernel
theorem dX7_what_31 : decode cX7_what 31 = .ok (.ifCond .eq 24, 3) := by decide +kernel
theorem dX7_what_34 : decode cX7_what 34 = .ok (.iload 5, 2) := by decide +kernel
theorem dX7_what_36 : decode cX7_what 36 = .ok (.invokestatic 58, 3) := by decide +kernel
theorem dX7_what_39 : decode cX7_what 39 = .ok (.ifCond .eq 16, 3) := by decide +kernel
theorem dX7_what_42 : decode cX7_what 42 = .ok (.iload 7, 2) := by decide +kernel
theorem dX7_what_44 : decode cX7_what 44 = .ok (.i2l, 1) := by decide +kernel
theorem dX7_what_45 : decode cX7_what 45 = .ok (.lconst 1, 1) := by decide +kernel
theorem dX7_what_46 : decode cX7_what 46 = .ok (.ldc2_w 253, 3) := by decide +kernel
theorem dX7_what_49 : decode cX7_what 49 = .ok (.invokestatic 54, 3) := by decide +kernel
theorem dX7_what_52 : decode cX7_what 52 = .ok (.ifCond .ne 6, 3) := by decide +kernel
theorem dX7_what_55 : decode cX7_what 55 = .ok (.ldc 64, 2) := by decide +kernel
theorem dX7_what_57 : decode cX7_what 57 = .ok (.ireturn, 1) := by decide +kernel
theorem dX7_what_58 : decode cX7_what 58 = .ok (.aload_n 0, 1) := by decide +kernel
theorem dX7_what_59 : decode cX7_what 59 = .ok (.iload 5, 2) := by decide +kernel
theorem dX7_what_61 : decode cX7_what 61 = .ok (.iload 6, 2) := by decide +kernel
theorem dX7_what_63 : decode cX7_what 63 = .ok (.iload 7, 2) := by decide +kernel
theorem dX7_what_65 : decode cX7_what 65 = .ok (.invokevirtual 255, 3) := by decide +kernel
theorem dX7_what_68 : decode cX7_what 68 = .ok (.istore 8, 2) := by decide +kernel
theorem dX7_what_70 : decode cX7_what 70 = .ok (.iload 8, 2) := by decide +kernel
theorem dX7_what_72 : decode cX7_what 72 = .ok (.ifCond .ge 6, 3) := by decide +kernel
theorem dX7_what_75 : decode cX7_what 75 = .ok (.iload 8, 2) := by decide +kernel
theorem dX7_what_77 : decode cX7_what 77 = .ok (.ireturn, 1) := by decide +kernel
theorem dX7_what_78 : decode cX7_what 78 = .ok (.bipush 40, 2) := by decide +kernel
theorem dX7_what_80 : decode cX7_what 80 = .ok (.iload 5, 2) := by decide +kernel
theorem dX7_what_82 : decode cX7_what 82 = .ok (.imul, 1) := by decide +kernel
theorem dX7_what_83 : decode cX7_what 83 = .ok (.iload 6, 2) := by decide +kernel
theorem dX7_what_85 : decode cX7_what 85 = .ok (.iadd, 1) := by decide +kernel
theorem dX7_what_86 : decode cX7_what 86 = .ok (.istore 9, 2) := by decide +kernel
theorem dX7_what_88 : decode cX7_what 88 = .ok (.iload_n 2, 1) := by decide +kernel
theorem dX7_what_89 : decode cX7_what 89 = .ok (.ifCond .ne 22, 3) := by decide +kernel
theorem dX7_what_92 : decode cX7_what 92 = .ok (.aload_n 0, 1) := by decide +kernel
theorem dX7_what_93 : decode cX7_what 93 = .ok (.iconst 5, 1) := by decide +kernel
theorem dX7_what_94 : decode cX7_what 94 = .ok (.iload_n 1, 1) := by decide +kernel
theorem dX7_what_95 : decode cX7_what 95 = .ok (.iadd, 1) := by decide +kernel
theorem dX7_what_96 : decode cX7_what 96 = .ok (.iconst 1, 1) := by decide +kernel
theorem dX7_what_97 : decode cX7_what 97 = .ok (.iconst 5, 1) := by decide +kernel
theorem dX7_what_98 : decode cX7_what 98 = .ok (.iload_n 3, 1) := by decide +kernel
theorem dX7_what_99 : decode cX7_what 99 = .ok (.iload 4, 2) := by decide +kernel
theorem dX7_what_101 : decode cX7_what 101 = .ok (.iload 9, 2) := by decide +kernel
theorem dX7_what_103 : decode cX7_what 103 = .ok (.iload 7, 2) := by decide +kernel
theorem dX7_what_105 : decode cX7_what 105 = .ok (.invokevirtual 259, 3) := by decide +kernel
theorem dX7_what_108 : decode cX7_what 108 = .ok (.goto 21, 3) := by decide +kernel
theorem dX7_what_111 : decode cX7_what 111 = .ok (.aload_n 0, 1) := by decide +kernel
theorem dX7_what_112 : decode cX7_what 112 = .ok (.bipush 13, 2) := by decide +kernel
theorem dX7_what_114 : decode cX7_what 114 = .ok (.iload_n 1, 1) := by decide +kernel
theorem dX7_what_115 : decode cX7_what 115 = .ok (.iadd, 1) := by decide +kernel
theorem dX7_what_116 : decode cX7_what 116 = .ok (.iconst 0, 1) := by decide +kernel
theorem dX7_what_117 : decode cX7_what 117 = .ok (.bipush 9, 2) := by decide +kernel
theorem dX7_what_119 : decode cX7_what 119 = .ok (.iload_n 3, 1) := by decide +kernel
theorem dX7_what_120 : decode cX7_what 120 = .ok (.iload 4, 2) := by decide +kernel
theorem dX7_what_122 : decode cX7_what 122 = .ok (.iload 9, 2) := by decide +kernel
theorem dX7_what_124 : decode cX7_what 124 = .ok (.iload 7, 2) := by decide +kernel
theorem dX7_what_126 : decode cX7_what 126 = .ok (.invokevirtual 259, 3) := by decide +kernel
theorem dX7_what_129 : decode cX7_what 129 = .ok (.ireturn, 1) := by decide +kernel
theorem dX7_who_0 : decode cX7_who 0 = .ok (.aload_n 0, 1) := by decide +kernel
theorem dX7_who_1 : decode cX7_who 1 = .ok (.iload_n 1, 1) := by decide +kernel
theorem dX7_who_2 : decode cX7_who 2 = .ok (.invokevirtual 194, 3) := by decide +kernel
theorem dX7_who_5 : decode cX7_who 5 = .ok (.ifCond .eq 52, 3) := by decide +kernel
theorem dX7_who_8 : decode cX7_who 8 = .ok (.iload_n 2, 1) := by decide +kernel
theorem dX7_who_9 : decode cX7_who 9 = .ok (.i2l, 1) := by decide +kernel
theorem dX7_who_10 : decode cX7_who 10 = .ok (.lconst 0, 1) := by decide +kernel
theorem dX7_who_11 : decode cX7_who 11 = .ok (.ldc2_w 197, 3) := by decide +kernel
theorem dX7_who_14 : decode cX7_who 14 = .ok (.invokestatic 54, 3) := by decide +kernel
theorem dX7_who_17 : decode cX7_who 17 = .ok (.ifCond .eq 40, 3) := by decide +kernel
theorem dX7_who_20 : decode cX7_who 20 = .ok (.aload_n 0, 1) := by decide +kernel
theorem dX7_who_21 : decode cX7_who 21 = .ok (.iload_n 3, 1) := by decide +kernel
theorem dX7_who_22 : decode cX7_who 22 = .ok (.invokevirtual 185, 3) := by decide +kernel
theorem dX7_who_25 : decode cX7_who 25 = .ok (.ifCond .eq 32, 3) := by decide +kernel
theorem dX7_who_28 : decode cX7_who 28 = .ok (.iload 4, 2) := by decide +kernel
theorem dX7_who_30 : decode cX7_who 30 = .ok (.invokestatic 208, 3) := by decide +kernel
theorem dX7_who_33 : decode cX7_who 33 = .ok (.ifCond .eq 24, 3) := by decide +kernel
theorem dX7_who_36 : decode cX7_who 36 = .ok (.iload 5, 2) := by decide +kernel
theorem dX7_who_38 : decode cX7_who 38 = .ok (.invokestatic 58, 3) := by decide +kernel
theorem dX7_who_41 : decode cX7_who 41 = .ok (.ifCond .eq 16, 3) := by decide +kernel
theorem dX7_who_44 : decode cX7_who 44 = .ok (.iload 7, 2) := by decide +kernel
theorem dX7_who_46 : decode cX7_who 46 = .ok (.i2l, 1) := by decide +kernel
theorem dX7_who_47 : decode cX7_who 47 = .ok (.lconst 1, 1) := by decide +kernel
theorem dX7_who_48 : decode cX7_who 48 = .ok (.ldc2_w 253, 3) := by decide +kernel
theorem dX7_who_51 : decode cX7_who 51 = .ok (.invokestatic 54, 3) := by decide +kernel
theorem dX7_who_54 : decode cX7_who 54 = .ok (.ifCond .ne 6, 3) := by decide +kernel
theorem dX7_who_57 : decode cX7_who 57 = .ok (.ldc 64, 2) := by decide +kernel
theorem dX7_who_59 : decode cX7_who 59 = .ok (.ireturn, 1) := by decide +kernel
theorem dX7_who_60 : decode cX7_who 60 = .ok (.aload_n 0, 1) := by decide +kernel
theorem dX7_who_61 : decode cX7_who 61 = .ok (.iload 5, 2) := by decide +kernel
theorem dX7_who_63 : decode cX7_who 63 = .ok (.iload 6, 2) := by decide +kernel
theorem dX7_who_65 : decode cX7_who 65 = .ok (.iload 7, 2) := by decide +kernel
theorem dX7_who_67 : decode cX7_who 67 = .ok (.invokevirtual 255, 3) := by decide +kernel
theorem dX7_who_70 : decode cX7_who 70 = .ok (.istore 8, 2) := by decide +kernel
theorem dX7_who_72 : decode cX7_who 72 = .ok (.iload 8, 2) := by decide +kernel
theorem dX7_who_74 : decode cX7_who 74 = .ok (.ifCond .ge 6, 3) := by decide +kernel
theorem dX7_who_77 : decode cX7_who 77 = .ok (.iload 8, 2) := by decide +kernel
theorem dX7_who_79 : decode cX7_who 79 = .ok (.ireturn, 1) := by decide +kernel
theorem dX7_who_80 : decode cX7_who 80 = .ok (.iload_n 2, 1) := by decide +kernel
theorem dX7_who_81 : decode cX7_who 81 = .ok (.iconst 2, 1) := by decide +kernel
theorem dX7_who_82 : decode cX7_who 82 = .ok (.if_icmp .ge 14, 3) := by decide +kernel
theorem dX7_who_85 : decode cX7_who 85 = .ok (.aload_n 0, 1) := by decide +kernel
theorem dX7_who_86 : decode cX7_who 86 = .ok (.getfield 19, 3) := by decide +kernel
theorem dX7_who_89 : decode cX7_who 89 = .ok (.iconst 0, 1) := by decide +kernel
theorem dX7_who_90 : decode cX7_who 90 = .ok (.iaload, 1) := by decide +kernel
theorem dX7_who_91 : decode cX7_who 91 = .ok (.iconst 1, 1) := by decide +kernel
theorem dX7_who_92 : decode cX7_who 92 = .ok (.isub, 1) := by decide +kernel
theorem dX7_who_93 : decode cX7_who 93 = .ok (.goto 14, 3) := by decide +kernel
theorem dX7_who_96 : decode cX7_who 96 = .ok (.iload_n 2, 1) := by decide +kernel
theorem dX7_who_97 : decode cX7_who 97 = .ok (.iconst 2, 1) := by decide +kernel
theorem dX7_who_98 : decode cX7_who 98 = .ok (.if_icmp .ne 7, 3) := by decide +kernel
theorem dX7_who_101 : decode cX7_who 101 = .ok (.iconst 3, 1) := by decide +kernel
theorem dX7_who_102 : decode cX7_who 102 = .ok (.goto 5, 3) := by decide +kernel
theorem dX7_who_105 : decode cX7_who 105 = .ok (.bipush 20, 2) := by decide +kernel
theorem dX7_who_107 : decode cX7_who 107 = .ok (.istore 9, 2) := by decide +kernel
theorem dX7_who_109 : decode cX7_who 109 = .ok (.aload_n 0, 1) := by decide +kernel
theorem dX7_who_110 : decode cX7_who 110 = .ok (.bipush 29, 2) := by decide +kernel
theorem dX7_who_112 : decode cX7_who 112 = .ok (.iconst 5, 1) := by decide +kernel
theorem dX7_who_113 : decode cX7_who 113 = .ok (.iload_n 2, 1) := by decide +kernel
theorem dX7_who_114 : decode cX7_who 114 = .ok (.imul, 1) := by decide +kernel
theorem dX7_who_115 : decode cX7_who 115 = .ok (.iadd, 1) := by decide +kernel
theorem dX7_who_116 : decode cX7_who 116 = .ok (.iload_n 1, 1) := by decide +kernel
theorem dX7_who_117 : decode cX7_who 117 = .ok (.iadd, 1) := by decide +kernel
theorem dX7_who_118 : decode cX7_who 118 = .ok (.iload_n 2, 1) := by decide +kernel
theorem dX7_who_119 : decode cX7_who 119 = .ok (.iconst 2, 1) := by decide +kernel
theorem dX7_who_120 : decode cX7_who 120 = .ok (.if_icmp .ne 7, 3) := by decide +kernel
theorem dX7_who_123 : decode cX7_who 123 = .ok (.iconst 1, 1) := by decide +kernel
theorem dX7_who_124 : decode cX7_who 124 = .ok (.goto 4, 3) := by decide +kernel
theorem dX7_who_127 : decode cX7_who 127 = .ok (.iconst 0, 1) := by decide +kernel
theorem dX7_who_128 : decode cX7_who 128 = .ok (.iload 9, 2) := by decide +kernel
theorem dX7_who_130 : decode cX7_who 130 = .ok (.iload_n 3, 1) := by decide +kernel
theorem dX7_who_131 : decode cX7_who 131 = .ok (.iload 4, 2) := by decide +kernel
theorem dX7_who_133 : decode cX7_who 133 = .ok (.bipush 40, 2) := by decide +kernel
theorem dX7_who_135 : decode cX7_who 135 = .ok (.iload 5, 2) := by decide +kernel
theorem dX7_who_137 : decode cX7_who 137 = .ok (.imul, 1) := by decide +kernel
theorem dX7_who_138 : decode cX7_who 138 = .ok (.iload 6, 2) := by decide +kernel
theorem dX7_who_140 : decode cX7_who 140 = .ok (.iadd, 1) := by decide +kernel
theorem dX7_who_141 : decode cX7_who 141 = .ok (.iload 7, 2) := by decide +kernel
theorem dX7_who_143 : decode cX7_who 143 = .ok (.invokevirtual 259, 3) := by decide +kernel
theorem dX7_who_146 : decode cX7_who 146 = .ok (.ireturn, 1) := by decide +kernel
theorem dX7_rots_0 : decode cX7_rots 0 = .ok (.aload_n 0, 1) := by decide +kernel
theorem dX7_rots_1 : decode cX7_rots 1 = .ok (.iload_n 1, 1) := by decide +kernel
theorem dX7_rots_2 : decode cX7_rots 2 = .ok (.invokevirtual 194, 3) := by decide +kernel
theorem dX7_rots_5 : decode cX7_rots 5 = .ok (.ifCond .eq 31, 3) := by decide +kernel
theorem dX7_rots_8 : decode cX7_rots 8 = .ok (.aload_n 0, 1) := by decide +kernel
theorem dX7_rots_9 : decode cX7_rots 9 = .ok (.iload_n 2, 1) := by decide +kernel
theorem dX7_rots_10 : decode cX7_rots 10 = .ok (.invokevirtual 185, 3) := by decide +kernel
theorem dX7_rots_13 : decode cX7_rots 13 = .ok (.ifCond .eq 23, 3) := by decide +kernel
theorem dX7_rots_16 : decode cX7_rots 16 = .ok (.iload_n 3, 1) := by decide +kernel
theorem dX7_rots_17 : decode cX7_rots 17 = .ok (.i2l, 1) := by decide +kernel
theorem dX7_rots_18 : decode cX7_rots 18 = .ok (.lconst 0, 1) := by decide +kernel
theorem dX7_rots_19 : decode cX7_rots 19 = .ok (.ldc2_w 263, 3) := by decide +kernel
theorem dX7_rots_22 : decode cX7_rots 22 = .ok (.invokestatic 54, 3) := by decide +kernel
theorem dX7_rots_25 : decode cX7_rots 25 = .ok (.ifCond .eq 11, 3) := by decide +kernel
theorem dX7_rots_28 : decode cX7_rots 28 = .ok (.iload 4, 2) := by decide +kernel
theorem dX7_rots_30 : decode cX7_rots 30 = .ok (.invokestatic 216, 3) := by decide +kernel
theorem dX7_rots_33 : decode cX7_rots 33 = .ok (.ifCond .ne 7, 3) := by decide +kernel
theorem dX7_rots_36 : decode cX7_rots 36 = .ok (.ldc2_w 265, 3) := by decide +kernel
theorem dX7_rots_39 : decode cX7_rots 39 = .ok (.lreturn, 1) := by decide +kernel
theorem dX7_rots_40 : decode cX7_rots 40 = .ok (.aload_n 0, 1) := by decide +kernel
theorem dX7_rots_41 : decode cX7_rots 41 = .ok (.invokevirtual 219, 3) := by decide +kernel
theorem dX7_rots_44 : decode cX7_rots 44 = .ok (.iconst 0, 1) := by decide +kernel
theorem dX7_rots_45 : decode cX7_rots 45 = .ok (.istore 5, 2) := by decide +kernel
theorem dX7_rots_47 : decode cX7_rots 47 = .ok (.lconst 1, 1) := by decide +kernel
theorem dX7_rots_48 : decode cX7_rots 48 = .ok (.lstore 6, 2) := by decide +kernel
theorem dX7_rots_50 : decode cX7_rots 50 = .ok (.iconst 0, 1) := by decide +kernel
theorem dX7_rots_51 : decode cX7_rots 51 = .ok (.istore 8, 2) := by decide +kernel
theorem dX7_rots_53 : decode cX7_rots 53 = .ok (.iload 8, 2) := by decide +kernel
theorem dX7_rots_55 : decode cX7_rots 55 = .ok (.aload_n 0, 1) := by decide +kernel
theorem dX7_rots_56 : decode cX7_rots 56 = .ok (.getfield 19, 3) := by decide +kernel
theorem dX7_rots_59 : decode cX7_rots 59 = .ok (.iconst 0, 1) := by decide +kernel
theorem dX7_rots_60 : decode cX7_rots 60 = .ok (.iaload, 1) := by decide +kernel
theorem dX7_rots_61 : decode cX7_rots 61 = .ok (.if_icmp .ge 64, 3) := by decide +kernel
theorem dX7_rots_64 : decode cX7_rots 64 = .ok (.aload_n 0, 1) := by decide +kernel
theorem dX7_rots_65 : decode cX7_rots 65 = .ok (.getfield 19, 3) := by decide +kernel
theorem dX7_rots_68 : decode cX7_rots 68 = .ok (.iconst 5, 1) := by decide +kernel
theorem dX7_rots_69 : decode cX7_rots 69 = .ok (.iload 8, 2) := by decide +kernel
theorem dX7_rots_71 : decode cX7_rots 71 = .ok (.iadd, 1) := by decide +kernel
theorem dX7_rots_72 : decode cX7_rots 72 = .ok (.iaload, 1) := by decide +kernel
theorem dX7_rots_73 : decode cX7_rots 73 = .ok (.iconst 4, 1) := by decide +kernel
theorem dX7_rots_74 : decode cX7_rots 74 = .ok (.if_icmp .ge 7, 3) := by decide +kernel
theorem dX7_rots_77 : decode cX7_rots 77 = .ok (.iconst 1, 1) := by decide +kernel
theorem dX7_rots_78 : decode cX7_rots 78 = .ok (.goto 4, 3) := by decide +kernel
theorem dX7_rots_81 : decode cX7_rots 81 = .ok (.iconst 0, 1) := by decide +kernel
theorem dX7_rots_82 : decode cX7_rots 82 = .ok (.istore 9, 2) := by decide +kernel
theorem dX7_rots_84 : decode cX7_rots 84 = .ok (.iload 5, 2) := by decide +kernel
theorem dX7_rots_86 : decode cX7_rots 86 = .ok (.iload 9, 2) := by decide +kernel
theorem dX7_rots_88 : decode cX7_rots 88 = .ok (.ifCond .eq 10, 3) := by decide +kernel
theorem dX7_rots_91 : decode cX7_rots 91 = .ok (.iconst 1, 1) := by decide +kernel
theorem dX7_rots_92 : decode cX7_rots 92 = .ok (.iload 8, 2) := by decide +kernel
theorem dX7_rots_94 : decode cX7_rots 94 = .ok (.ishl, 1) := by decide +kernel
theorem dX7_rots_95 : decode cX7_rots 95 = .ok (.goto 4, 3) := by decide +kernel
theorem dX7_rots_98 : decode cX7_rots 98 = .ok (.iconst 0, 1) := by decide +kernel
theorem dX7_rots_99 : decode cX7_rots 99 = .ok (.ior, 1) := by decide +kernel
theorem dX7_rots_100 : decode cX7_rots 100 = .ok (.istore 5, 2) := by decide +kernel
theorem dX7_rots_102 : decode cX7_rots 102 = .ok (.lload 6, 2) := by decide +kernel
theorem dX7_rots_104 : decode cX7_rots 104 = .ok (.iload 9, 2) := by decide +kernel
theorem dX7_rots_106 : decode cX7_rots 106 = .ok (.ifCond .eq 9, 3) := by decide +kernel
theorem dX7_rots_109 : decode cX7_rots 109 = .ok (.ldc2_w 263, 3) := by decide +kernel
theorem dX7_rots_112 : decode cX7_rots 112 = .ok (.goto 4, 3) := by decide +kernel
theorem dX7_rots_115 : decode cX7_rots 115 = .ok (.lconst 1, 1) := by decide +kernel
theorem dX7_rots_116 : decode cX7_rots 116 = .ok (.lmul, 1) := by decide +kernel
theorem dX7_rots_117 : decode cX7_rots 117 = .ok (.lstore 6, 2) := by decide +kernel
theorem dX7_rots_119 : decode cX7_rots 119 = .ok (.iinc 8 1, 3) := by decide +kernel
theorem dX7_rots_122 : decode cX7_rots 122 = .ok (.goto (-69), 3) := by decide +kernel
theorem dX7_rots_125 : decode cX7_rots 125 = .ok (.lconst 0, 1) := by decide +kernel
theorem dX7_rots_126 : decode cX7_rots 126 = .ok (.lstore 8, 2) := by decide +kernel
theorem dX7_rots_128 : decode cX7_rots 128 = .ok (.iconst 0, 1) := by decide +kernel
theorem dX7_rots_129 : decode cX7_rots 129 = .ok (.istore 10, 2) := by decide +kernel
theorem dX7_rots_131 : decode cX7_rots 131 = .ok (.iload 10, 2) := by decide +kernel
theorem dX7_rots_133 : decode cX7_rots 133 = .ok (.iload 5, 2) := by decide +kernel
theorem dX7_rots_135 : decode cX7_rots 135 = .ok (.if_icmp .gt 137, 3) := by decide +kernel
theorem dX7_rots_138 : decode cX7_rots 138 = .ok (.iload 10, 2) := by decide +kernel
theorem dX7_rots_140 : decode cX7_rots 140 = .ok (.iload 5, 2) := by decide +kernel
theorem dX7_rots_142 : decode cX7_rots 142 = .ok (.iconst (-1), 1) := by decide +kernel
theorem dX7_rots_143 : decode cX7_rots 143 = .ok (.ixor, 1) := by decide +kernel
theorem dX7_rots_144 : decode cX7_rots 144 = .ok (.iand, 1) := by decide +kernel
theorem dX7_rots_145 : decode cX7_rots 145 = .ok (.ifCond .ne 121, 3) := by decide +kernel
theorem dX7_rots_148 : decode cX7_rots 148 = .ok (.lconst 1, 1) := by decide +kernel
theorem dX7_rots_149 : decode cX7_rots 149 = .ok (.lstore 11, 2) := by decide +kernel
theorem dX7_rots_151 : decode cX7_rots 151 = .ok (.iconst 0, 1) := by decide +kernel
theorem dX7_rots_152 : decode cX7_rots 152 = .ok (.istore 13, 2) := by decide +kernel
theorem dX7_rots_154 : decode cX7_rots 154 = .ok (.iload 13, 2) := by decide +kernel
theorem dX7_rots_156 : decode cX7_rots 156 = .ok (.aload_n 0, 1) := by decide +kernel
theorem dX7_rots_157 : decode cX7_rots 157 = .ok (.getfield 19, 3) := by decide +kernel
theorem dX7_rots_160 : decode cX7_rots 160 = .ok (.iconst 0, 1) := by decide +kernel
theorem dX7_rots_161 : decode cX7_rots 161 = .ok (.iaload, 1) := by decide +kernel
theorem dX7_rots_162 : decode cX7_rots 162 = .ok (.if_icmp .ge 80, 3) := by decide +kernel
theorem dX7_rots_165 : decode cX7_rots 165 = .ok (.lload 11, 2) := by decide +kernel
theorem dX7_rots_167 : decode cX7_rots 167 = .ok (.iload 5, 2) := by decide +kernel
theorem dX7_rots_169 : decode cX7_rots 169 = .ok (.iload 13, 2) := by decide +kernel
theorem dX7_rots_171 : decode cX7_rots 171 = .ok (.invokestatic 156, 3) := by decide +kernel
theorem dX7_rots_174 : decode cX7_rots 174 = .ok (.ifCond .ne 7, 3) := by decide +kernel
theorem dX7_rots_177 : decode cX7_rots 177 = .ok (.lconst 1, 1) := by decide +kernel
theorem dX7_rots_178 : decode cX7_rots 178 = .ok (.goto 23, 3) := by decide +kernel
theorem dX7_rots_181 : decode cX7_rots 181 = .ok (.iload 10, 2) := by decide +kernel
theorem dX7_rots_183 : decode cX7_rots 183 = .ok (.iload 13, 2) := by decide +kernel
theorem dX7_rots_185 : decode cX7_rots 185 = .ok (.invokestatic 156, 3) := by decide +kernel
theorem dX7_rots_188 : decode cX7_rots 188 = .ok (.ifCond .eq 8, 3) := by decide +kernel
theorem dX7_rots_191 : decode cX7_rots 191 = .ok (.iload_n 3, 1) := by decide +kernel
theorem dX7_rots_192 : decode cX7_rots 192 = .ok (.i2l, 1) := by decide +kernel
theorem dX7_rots_193 : decode cX7_rots 193 = .ok (.goto 8, 3) := by decide +kernel
theorem dX7_rots_196 : decode cX7_rots 196 = .ok (.bipush 10, 2) := by decide +kernel
theorem dX7_rots_198 : decode cX7_rots 198 = .ok (.iload_n 3, 1) := by decide +kernel
theorem dX7_rots_199 : decode cX7_rots 199 = .ok (.isub, 1) := by decide +kernel
theorem dX7_rots_200 : decode cX7_rots 200 = .ok (.i2l, 1) := by decide +kernel
theorem dX7_rots_201 : decode cX7_rots 201 = .ok (.lmul, 1) := by decide +kernel
theorem dX7_rots_202 : decode cX7_rots 202 = .ok (.lstore 11, 2) := by decide +kernel
theorem dX7_rots_204 : decode cX7_rots 204 = .ok (.aload_n 0, 1) := by decide +kernel
theorem dX7_rots_205 : decode cX7_rots 205 = .ok (.getfield 19, 3) := by decide +kernel
theorem dX7_rots_208 : decode cX7_rots 208 = .ok (.iconst 5, 1) := by decide +kernel
theorem dX7_rots_209 : decode cX7_rots 209 = .ok (.iload 13, 2) := by decide +kernel
theorem dX7_rots_211 : decode cX7_rots 211 = .ok (.iadd, 1) := by decide +kernel
theorem dX7_rots_212 : decode cX7_rots 212 = .ok (.iload 10, 2) := by decide +kernel
theorem dX7_rots_214 : decode cX7_rots 214 = .ok (.iload 13, 2) := by decide +kernel
theorem dX7_rots_216 : decode cX7_rots 216 = .ok (.invokestatic 156, 3) := by decide +kernel
theorem dX7_rots_219 : decode cX7_rots 219 = .ok (.ifCond .eq 7, 3) := by decide +kernel
theorem dX7_rots_222 : decode cX7_rots 222 = .ok (.iconst 4, 1) := by decide +kernel
theorem dX7_rots_223 : decode cX7_rots 223 = .ok (.goto 12, 3) := by decide +kernel
theorem dX7_rots_226 : decode cX7_rots 226 = .ok (.aload_n 0, 1) := by decide +kernel
theorem dX7_rots_227 : decode cX7_rots 227 = .ok (.getfield 19, 3) := by decide +kernel
theorem dX7_rots_230 : decode cX7_rots 230 = .ok (.iconst 5, 1) := by decide +kernel
theorem dX7_rots_231 : decode cX7_rots 231 = .ok (.iload 13, 2) := by decide +kernel
theorem dX7_rots_233 : decode cX7_rots 233 = .ok (.iadd, 1) := by decide +kernel
theorem dX7_rots_234 : decode cX7_rots 234 = .ok (.iaload, 1) := by decide +kernel
theorem dX7_rots_235 : decode cX7_rots 235 = .ok (.iastore, 1) := by decide +kernel
theorem dX7_rots_236 : decode cX7_rots 236 = .ok (.iinc 13 1, 3) := by decide +kernel
theorem dX7_rots_239 : decode cX7_rots 239 = .ok (.goto (-85), 3) := by decide +kernel
theorem dX7_rots_242 : decode cX7_rots 242 = .ok (.lload 8, 2) := by decide +kernel
theorem dX7_rots_244 : decode cX7_rots 244 = .ok (.aload_n 0, 1) := by decide +kernel
theorem dX7_rots_245 : decode cX7_rots 245 = .ok (.iload_n 1, 1) := by decide +kernel
theorem dX7_rots_246 : decode cX7_rots 246 = .ok (.iload_n 2, 1) := by decide +kernel
theorem dX7_rots_247 : decode cX7_rots 247 = .ok (.invokevirtual 240, 3) := by decide +kernel
theorem dX7_rots_250 : decode cX7_rots 250 = .ok (.ifCond .eq 8, 3) := by decide +kernel
theorem dX7_rots_253 : decode cX7_rots 253 = .ok (.lload 11, 2) := by decide +kernel
theorem dX7_rots_255 : decode cX7_rots 255 = .ok (.goto 4, 3) := by decide +kernel
theorem dX7_rots_258 : decode cX7_rots 258 = .ok (.lconst 0, 1) := by decide +kernel
theorem dX7_rots_259 : decode cX7_rots 259 = .ok (.ladd, 1) := by decide +kernel
theorem dX7_rots_260 : decode cX7_rots 260 = .ok (.lstore 8, 2) := by decide +kernel
theorem dX7_rots_262 : decode cX7_rots 262 = .ok (.aload_n 0, 1) := by decide +kernel
theorem dX7_rots_263 : decode cX7_rots 263 = .ok (.invokevirtual 222, 3) := by decide +kernel
theorem dX7_rots_266 : decode cX7_rots 266 = .ok (.iinc 10 1, 3) := by decide +kernel
theorem dX7_rots_269 : decode cX7_rots 269 = .ok (.goto (-138), 3) := by decide +kernel
theorem dX7_rots_272 : decode cX7_rots 272 = .ok (.lload 8, 2) := by decide +kernel
theorem dX7_rots_274 : decode cX7_rots 274 = .ok (.lstore 10, 2) := by decide +kernel
theorem dX7_rots_276 : decode cX7_rots 276 = .ok (.lload 6, 2) := by decide +kernel
theorem dX7_rots_278 : decode cX7_rots 278 = .ok (.lstore 12, 2) := by decide +kernel
theorem dX7_rots_280 : decode cX7_rots 280 = .ok (.lload 12, 2) := by decide +kernel
theorem dX7_rots_282 : decode cX7_rots 282 = .ok (.lconst 0, 1) := by decide +kernel
theorem dX7_rots_283 : decode cX7_rots 283 = .ok (.lcmp, 1) := by decide +kernel
theorem dX7_rots_284 : decode cX7_rots 284 = .ok (.ifCond .eq 21, 3) := by decide +kernel
theorem dX7_rots_287 : decode cX7_rots 287 = .ok (.lload 10, 2) := by decide +kernel
theorem dX7_rots_289 : decode cX7_rots 289 = .ok (.lload 12, 2) := by decide +kernel
theorem dX7_rots_291 : decode cX7_rots 291 = .ok (.lrem, 1) := by decide +kernel
theorem dX7_rots_292 : decode cX7_rots 292 = .ok (.lstore 14, 2) := by decide +kernel
theorem dX7_rots_294 : decode cX7_rots 294 = .ok (.lload 12, 2) := by decide +kernel
theorem dX7_rots_296 : decode cX7_rots 296 = .ok (.lstore 10, 2) := by decide +kernel
theorem dX7_rots_298 : decode cX7_rots 298 = .ok (.lload 14, 2) := by decide +kernel
theorem dX7_rots_300 : decode cX7_rots 300 = .ok (.lstore 12, 2) := by decide +kernel
theorem dX7_rots_302 : decode cX7_rots 302 = .ok (.goto (-22), 3) := by decide +kernel
theorem dX7_rots_305 : decode cX7_rots 305 = .ok (.iload 4, 2) := by decide +kernel
theorem dX7_rots_307 : decode cX7_rots 307 = .ok (.ifCond .ne 11, 3) := by decide +kernel
theorem dX7_rots_310 : decode cX7_rots 310 = .ok (.lload 8, 2) := by decide +kernel
theorem dX7_rots_312 : decode cX7_rots 312 = .ok (.lload 10, 2) := by decide +kernel
theorem dX7_rots_314 : decode cX7_rots 314 = .ok (.ldiv, 1) := by decide +kernel
theorem dX7_rots_315 : decode cX7_rots 315 = .ok (.goto 8, 3) := by decide +kernel
theorem dX7_rots_318 : decode cX7_rots 318 = .ok (.lload 6, 2) := by decide +kernel
theorem dX7_rots_320 : decode cX7_rots 320 = .ok (.lload 10, 2) := by decide +kernel
theorem dX7_rots_322 : decode cX7_rots 322 = .ok (.ldiv, 1) := by decide +kernel
theorem dX7_rots_323 : decode cX7_rots 323 = .ok (.lreturn, 1) := by decide +kernel
theorem dX7_soundsMany_0 : decode cX7_soundsMany 0 = .ok (.iconst 0, 1) := by decide +kernel
theorem dX7_soundsMany_1 : decode cX7_soundsMany 1 = .ok (.istore_n 1, 1) := by decide +kernel
theorem dX7_soundsMany_2 : decode cX7_soundsMany 2 = .ok (.iconst 0, 1) := by decide +kernel
theorem dX7_soundsMany_3 : decode cX7_soundsMany 3 = .ok (.istore_n 2, 1) := by decide +kernel
theorem dX7_soundsMany_4 : decode cX7_soundsMany 4 = .ok (.iload_n 2, 1) := by decide +kernel
theorem dX7_soundsMany_5 : decode cX7_soundsMany 5 = .ok (.aload_n 0, 1) := by decide +kernel
theorem dX7_soundsMany_6 : decode cX7_soundsMany 6 = .ok (.getfield 19, 3) := by decide +kernel
theorem dX7_soundsMany_9 : decode cX7_soundsMany 9 = .ok (.iconst 1, 1) := by decide +kernel
theorem dX7_soundsMany_10 : decode cX7_soundsMany 10 = .ok (.iaload, 1) := by decide +kernel
theorem dX7_soundsMany_11 : decode cX7_soundsMany 11 = .ok (.if_icmp .ge 45, 3) := by decide +kernel
theorem dX7_soundsMany_14 : decode cX7_soundsMany 14 = .ok (.iconst 0, 1) := by decide +kernel
theorem dX7_soundsMany_15 : decode cX7_soundsMany 15 = .ok (.istore_n 3, 1) := by decide +kernel
theorem dX7_soundsMany_16 : decode cX7_soundsMany 16 = .ok (.iload_n 3, 1) := by decide +kernel
theorem dX7_soundsMany_17 : decode cX7_soundsMany 17 = .ok (.aload_n 0, 1) := by decide +kernel
theorem dX7_soundsMany_18 : decode cX7_soundsMany 18 = .ok (.iload_n 2, 1) := by decide +kernel
theorem dX7_soundsMany_19 : decode cX7_soundsMany 19 = .ok (.invokevirtual 150, 3) := by decide +kernel
theorem dX7_soundsMany_22 : decode cX7_soundsMany 22 = .ok (.if_icmp .ge 28, 3) := by decide +kernel
theorem dX7_soundsMany_25 : decode cX7_soundsMany 25 = .ok (.iload_n 1, 1) := by decide +kernel
theorem dX7_soundsMany_26 : decode cX7_soundsMany 26 = .ok (.aload_n 0, 1) := by decide +kernel
theorem dX7_soundsMany_27 : decode cX7_soundsMany 27 = .ok (.iload_n 2, 1) := by decide +kernel
theorem dX7_soundsMany_28 : decode cX7_soundsMany 28 = .ok (.iload_n 3, 1) := by decide +kernel
theorem dX7_soundsMany_29 : decode cX7_soundsMany 29 = .ok (.invokevirtual 204, 3) := by decide +kernel
theorem dX7_soundsMany_32 : decode cX7_soundsMany 32 = .ok (.bipush 10, 2) := by decide +kernel
theorem dX7_soundsMany_34 : decode cX7_soundsMany 34 = .ok (.if_icmp .ge 7, 3) := by decide +kernel
theorem dX7_soundsMany_37 : decode cX7_soundsMany 37 = .ok (.iconst 1, 1) := by decide +kernel
theorem dX7_soundsMany_38 : decode cX7_soundsMany 38 = .ok (.goto 4, 3) := by decide +kernel
theorem dX7_soundsMany_41 : decode cX7_soundsMany 41 = .ok (.iconst 0, 1) := by decide +kernel
theorem dX7_soundsMany_42 : decode cX7_soundsMany 42 = .ok (.iadd, 1) := by decide +kernel
theorem dX7_soundsMany_43 : decode cX7_soundsMany 43 = .ok (.istore_n 1, 1) := by decide +kernel
theorem dX7_soundsMany_44 : decode cX7_soundsMany 44 = .ok (.iinc 3 1, 3) := by decide +kernel
theorem dX7_soundsMany_47 : decode cX7_soundsMany 47 = .ok (.goto (-31), 3) := by decide +kernel
theorem dX7_soundsMany_50 : decode cX7_soundsMany 50 = .ok (.iinc 2 1, 3) := by decide +kernel
theorem dX7_soundsMany_53 : decode cX7_soundsMany 53 = .ok (.goto (-49), 3) := by decide +kernel
theorem dX7_soundsMany_56 : decode cX7_soundsMany 56 = .ok (.iload_n 1, 1) := by decide +kernel
theorem dX7_soundsMany_57 : decode cX7_soundsMany 57 = .ok (.ireturn, 1) := by decide +kernel
theorem dX7_allTones_0 : decode cX7_allTones 0 = .ok (.iconst 0, 1) := by decide +kernel
theorem dX7_allTones_1 : decode cX7_allTones 1 = .ok (.istore_n 1, 1) := by decide +kernel
theorem dX7_allTones_2 : decode cX7_allTones 2 = .ok (.iconst 0, 1) := by decide +kernel
theorem dX7_allTones_3 : decode cX7_allTones 3 = .ok (.istore_n 2, 1) := by decide +kernel
theorem dX7_allTones_4 : decode cX7_allTones 4 = .ok (.iload_n 2, 1) := by decide +kernel
theorem dX7_allTones_5 : decode cX7_allTones 5 = .ok (.aload_n 0, 1) := by decide +kernel
theorem dX7_allTones_6 : decode cX7_allTones 6 = .ok (.getfield 19, 3) := by decide +kernel
theorem dX7_allTones_9 : decode cX7_allTones 9 = .ok (.iconst 0, 1) := by decide +kernel
theorem dX7_allTones_10 : decode cX7_allTones 10 = .ok (.iaload, 1) := by decide +kernel
theorem dX7_allTones_11 : decode cX7_allTones 11 = .ok (.if_icmp .ge 17, 3) := by decide +kernel
theorem dX7_allTones_14 : decode cX7_allTones 14 = .ok (.iload_n 1, 1) := by decide +kernel
theorem dX7_allTones_15 : decode cX7_allTones 15 = .ok (.aload_n 0, 1) := by decide +kernel
theorem dX7_allTones_16 : decode cX7_allTones 16 = .ok (.iload_n 2, 1) := by decide +kernel
theorem dX7_allTones_17 : decode cX7_allTones 17 = .ok (.invokevirtual 160, 3) := by decide +kernel
theorem dX7_allTones_20 : decode cX7_allTones 20 = .ok (.iadd, 1) := by decide +kernel
theorem dX7_allTones_21 : decode cX7_allTones 21 = .ok (.istore_n 1, 1) := by decide +kernel
theorem dX7_allTones_22 : decode cX7_allTones 22 = .ok (.iinc 2 1, 3) := by decide +kernel
theorem dX7_allTones_25 : decode cX7_allTones 25 = .ok (.goto (-21), 3) := by decide +kernel
theorem dX7_allTones_28 : decode cX7_allTones 28 = .ok (.iload_n 1, 1) := by decide +kernel
theorem dX7_allTones_29 : decode cX7_allTones 29 = .ok (.ireturn, 1) := by decide +kernel
theorem dX7_drawn_0 : decode cX7_drawn 0 = .ok (.aload_n 0, 1) := by decide +kernel
theorem dX7_drawn_1 : decode cX7_drawn 1 = .ok (.getfield 138, 3) := by decide +kernel
theorem dX7_drawn_4 : decode cX7_drawn 4 = .ok (.ifCond .ne 6, 3) := by decide +kernel
theorem dX7_drawn_7 : decode cX7_drawn 7 = .ok (.ldc 172, 2) := by decide +kernel
theorem dX7_drawn_9 : decode cX7_drawn 9 = .ok (.ireturn, 1) := by decide +kernel
theorem dX7_drawn_10 : decode cX7_drawn 10 = .ok (.iload_n 1, 1) := by decide +kernel
theorem dX7_drawn_11 : decode cX7_drawn 11 = .ok (.i2l, 1) := by decide +kernel
theorem dX7_drawn_12 : decode cX7_drawn 12 = .ok (.lconst 0, 1) := by decide +kernel
theorem dX7_drawn_13 : decode cX7_drawn 13 = .ok (.ldc2_w 214, 3) := by decide +kernel
theorem dX7_drawn_16 : decode cX7_drawn 16 = .ok (.invokestatic 54, 3) := by decide +kernel
theorem dX7_drawn_19 : decode cX7_drawn 19 = .ok (.ifCond .eq 22, 3) := by decide +kernel
theorem dX7_drawn_22 : decode cX7_drawn 22 = .ok (.iload_n 2, 1) := by decide +kernel
theorem dX7_drawn_23 : decode cX7_drawn 23 = .ok (.i2l, 1) := by decide +kernel
theorem dX7_drawn_24 : decode cX7_drawn 24 = .ok (.lconst 1, 1) := by decide +kernel
theorem dX7_drawn_25 : decode cX7_drawn 25 = .ok (.ldc2_w 267, 3) := by decide +kernel
theorem dX7_drawn_28 : decode cX7_drawn 28 = .ok (.invokestatic 54, 3) := by decide +kernel
theorem dX7_drawn_31 : decode cX7_drawn 31 = .ok (.ifCond .eq 10, 3) := by decide +kernel
theorem dX7_drawn_34 : decode cX7_drawn 34 = .ok (.iload_n 3, 1) := by decide +kernel
theorem dX7_drawn_35 : decode cX7_drawn 35 = .ok (.invokestatic 216, 3) := by decide +kernel
theorem dX7_drawn_38 : decode cX7_drawn 38 = .ok (.ifCond .ne 6, 3) := by decide +kernel
theorem dX7_drawn_41 : decode cX7_drawn 41 = .ok (.ldc 64, 2) := by decide +kernel
theorem dX7_drawn_43 : decode cX7_drawn 43 = .ok (.ireturn, 1) := by decide +kernel
theorem dX7_drawn_44 : decode cX7_drawn 44 = .ok (.aload_n 0, 1) := by decide +kernel
theorem dX7_drawn_45 : decode cX7_drawn 45 = .ok (.invokevirtual 219, 3) := by decide +kernel
theorem dX7_drawn_48 : decode cX7_drawn 48 = .ok (.iload_n 2, 1) := by decide +kernel
theorem dX7_drawn_49 : decode cX7_drawn 49 = .ok (.i2l, 1) := by decide +kernel
theorem dX7_drawn_50 : decode cX7_drawn 50 = .ok (.lstore 4, 2) := by decide +kernel
theorem dX7_drawn_52 : decode cX7_drawn 52 = .ok (.iconst 0, 1) := by decide +kernel
theorem dX7_drawn_53 : decode cX7_drawn 53 = .ok (.istore 6, 2) := by decide +kernel
theorem dX7_drawn_55 : decode cX7_drawn 55 = .ok (.iconst 0, 1) := by decide +kernel
theorem dX7_drawn_56 : decode cX7_drawn 56 = .ok (.istore 7, 2) := by decide +kernel
theorem dX7_drawn_58 : decode cX7_drawn 58 = .ok (.iload 7, 2) := by decide +kernel
theorem dX7_drawn_60 : decode cX7_drawn 60 = .ok (.iload_n 1, 1) := by decide +kernel
theorem dX7_drawn_61 : decode cX7_drawn 61 = .ok (.if_icmp .ge 104, 3) := by decide +kernel
theorem dX7_drawn_64 : decode cX7_drawn 64 = .ok (.lload 4, 2) := by decide +kernel
theorem dX7_drawn_66 : decode cX7_drawn 66 = .ok (.ldc2_w 269, 3) := by decide +kernel
theorem dX7_drawn_69 : decode cX7_drawn 69 = .ok (.lmul, 1) := by decide +kernel
theorem dX7_drawn_70 : decode cX7_drawn 70 = .ok (.ldc2_w 271, 3) := by decide +kernel
theorem dX7_drawn_73 : decode cX7_drawn 73 = .ok (.lrem, 1) := by decide +kernel
theorem dX7_drawn_74 : decode cX7_drawn 74 = .ok (.lstore 4, 2) := by decide +kernel
theorem dX7_drawn_76 : decode cX7_drawn 76 = .ok (.lload 4, 2) := by decide +kernel
theorem dX7_drawn_78 : decode cX7_drawn 78 = .ok (.ldc2_w 197, 3) := by decide +kernel
theorem dX7_drawn_81 : decode cX7_drawn 81 = .ok (.lrem, 1) := by decide +kernel
theorem dX7_drawn_82 : decode cX7_drawn 82 = .ok (.lconst 0, 1) := by decide +kernel
theorem dX7_drawn_83 : decode cX7_drawn 83 = .ok (.lcmp, 1) := by decide +kernel
theorem dX7_drawn_84 : decode cX7_drawn 84 = .ok (.ifCond .ne 25, 3) := by decide +kernel
theorem dX7_drawn_87 : decode cX7_drawn 87 = .ok (.aload_n 0, 1) := by decide +kernel
theorem dX7_drawn_88 : decode cX7_drawn 88 = .ok (.lload 4, 2) := by decide +kernel
theorem dX7_drawn_90 : decode cX7_drawn 90 = .ok (.aload_n 0, 1) := by decide +kernel
theorem dX7_drawn_91 : decode cX7_drawn 91 = .ok (.getfield 19, 3) := by decide +kernel
theorem dX7_drawn_94 : decode cX7_drawn 94 = .ok (.iconst 0, 1) := by decide +kernel
theorem dX7_drawn_95 : decode cX7_drawn 95 = .ok (.iaload, 1) := by decide +kernel
theorem dX7_drawn_96 : decode cX7_drawn 96 = .ok (.i2l, 1) := by decide +kernel
theorem dX7_drawn_97 : decode cX7_drawn 97 = .ok (.lrem, 1) := by decide +kernel
theorem dX7_drawn_98 : decode cX7_drawn 98 = .ok (.l2i, 1) := by decide +kernel
theorem dX7_drawn_99 : decode cX7_drawn 99 = .ok (.lload 4, 2) := by decide +kernel
theorem dX7_drawn_101 : decode cX7_drawn 101 = .ok (.ldc2_w 263, 3) := by decide +kernel
theorem dX7_drawn_104 : decode cX7_drawn 104 = .ok (.lrem, 1) := by decide +kernel
theorem dX7_drawn_105 : decode cX7_drawn 105 = .ok (.l2i, 1) := by decide +kernel
theorem dX7_drawn_106 : decode cX7_drawn 106 = .ok (.invokevirtual 190, 3) := by decide +kernel
theorem dX7_drawn_109 : decode cX7_drawn 109 = .ok (.lload 4, 2) := by decide +kernel
theorem dX7_drawn_111 : decode cX7_drawn 111 = .ok (.ldc2_w 273, 3) := by decide +kernel
theorem dX7_drawn_114 : decode cX7_drawn 114 = .ok (.lrem, 1) := by decide +kernel
theorem dX7_drawn_115 : decode cX7_drawn 115 = .ok (.lconst 0, 1) := by decide +kernel
theorem dX7_drawn_116 : decode cX7_drawn 116 = .ok (.lcmp, 1) := by decide +kernel
theorem dX7_drawn_117 : decode cX7_drawn 117 = .ok (.ifCond .ne 29, 3) := by decide +kernel
theorem dX7_drawn_120 : decode cX7_drawn 120 = .ok (.aload_n 0, 1) := by decide +kernel
theorem dX7_drawn_121 : decode cX7_drawn 121 = .ok (.getfield 19, 3) := by decide +kernel
theorem dX7_drawn_124 : decode cX7_drawn 124 = .ok (.bipush 44, 2) := by decide +kernel
theorem dX7_drawn_126 : decode cX7_drawn 126 = .ok (.lload 4, 2) := by decide +kernel
theorem dX7_drawn_128 : decode cX7_drawn 128 = .ok (.aload_n 0, 1) := by decide +kernel
theorem dX7_drawn_129 : decode cX7_drawn 129 = .ok (.getfield 19, 3) := by decide +kernel
theorem dX7_drawn_132 : decode cX7_drawn 132 = .ok (.iconst 1, 1) := by decide +kernel
theorem dX7_drawn_133 : decode cX7_drawn 133 = .ok (.iaload, 1) := by decide +kernel
theorem dX7_drawn_134 : decode cX7_drawn 134 = .ok (.i2l, 1) := by decide +kernel
theorem dX7_drawn_135 : decode cX7_drawn 135 = .ok (.lrem, 1) := by decide +kernel
theorem dX7_drawn_136 : decode cX7_drawn 136 = .ok (.l2i, 1) := by decide +kernel
theorem dX7_drawn_137 : decode cX7_drawn 137 = .ok (.iadd, 1) := by decide +kernel
theorem dX7_drawn_138 : decode cX7_drawn 138 = .ok (.lload 4, 2) := by decide +kernel
theorem dX7_drawn_140 : decode cX7_drawn 140 = .ok (.ldc2_w 275, 3) := by decide +kernel
theorem dX7_drawn_143 : decode cX7_drawn 143 = .ok (.lrem, 1) := by decide +kernel
theorem dX7_drawn_144 : decode cX7_drawn 144 = .ok (.l2i, 1) := by decide +kernel
theorem dX7_drawn_145 : decode cX7_drawn 145 = .ok (.iastore, 1) := by decide +kernel
theorem dX7_drawn_146 : decode cX7_drawn 146 = .ok (.iload 6, 2) := by decide +kernel
theorem dX7_drawn_148 : decode cX7_drawn 148 = .ok (.aload_n 0, 1) := by decide +kernel
theorem dX7_drawn_149 : decode cX7_drawn 149 = .ok (.invokevirtual 277, 3) := by decide +kernel
theorem dX7_drawn_152 : decode cX7_drawn 152 = .ok (.iadd, 1) := by decide +kernel
theorem dX7_drawn_153 : decode cX7_drawn 153 = .ok (.istore 6, 2) := by decide +kernel
theorem dX7_drawn_155 : decode cX7_drawn 155 = .ok (.aload_n 0, 1) := by decide +kernel
theorem dX7_drawn_156 : decode cX7_drawn 156 = .ok (.invokevirtual 178, 3) := by decide +kernel
theorem dX7_drawn_159 : decode cX7_drawn 159 = .ok (.iinc 7 1, 3) := by decide +kernel
theorem dX7_drawn_162 : decode cX7_drawn 162 = .ok (.goto (-104), 3) := by decide +kernel
theorem dX7_drawn_165 : decode cX7_drawn 165 = .ok (.iload_n 3, 1) := by decide +kernel
theorem dX7_drawn_166 : decode cX7_drawn 166 = .ok (.ifCond .ne 8, 3) := by decide +kernel
theorem dX7_drawn_169 : decode cX7_drawn 169 = .ok (.iload 6, 2) := by decide +kernel
theorem dX7_drawn_171 : decode cX7_drawn 171 = .ok (.goto 7, 3) := by decide +kernel
theorem dX7_drawn_174 : decode cX7_drawn 174 = .ok (.aload_n 0, 1) := by decide +kernel
theorem dX7_drawn_175 : decode cX7_drawn 175 = .ok (.invokevirtual 280, 3) := by decide +kernel
theorem dX7_drawn_178 : decode cX7_drawn 178 = .ok (.istore 7, 2) := by decide +kernel
theorem dX7_drawn_180 : decode cX7_drawn 180 = .ok (.aload_n 0, 1) := by decide +kernel
theorem dX7_drawn_181 : decode cX7_drawn 181 = .ok (.invokevirtual 222, 3) := by decide +kernel
theorem dX7_drawn_184 : decode cX7_drawn 184 = .ok (.iload 7, 2) := by decide +kernel
theorem dX7_drawn_186 : decode cX7_drawn 186 = .ok (.ireturn, 1) := by decide +kernel
theorem dX7_image_0 : decode cX7_image 0 = .ok (.iload_n 1, 1) := by decide +kernel
theorem dX7_image_1 : decode cX7_image 1 = .ok (.i2l, 1) := by decide +kernel
theorem dX7_image_2 : decode cX7_image 2 = .ok (.lconst 0, 1) := by decide +kernel
theorem dX7_image_3 : decode cX7_image 3 = .ok (.lconst 1, 1) := by decide +kernel
theorem dX7_image_4 : decode cX7_image 4 = .ok (.invokestatic 54, 3) := by decide +kernel
theorem dX7_image_7 : decode cX7_image 7 = .ok (.ifCond .ne 6, 3) := by decide +kernel
theorem dX7_image_10 : decode cX7_image 10 = .ok (.ldc 64, 2) := by decide +kernel
theorem dX7_image_12 : decode cX7_image 12 = .ok (.ireturn, 1) := by decide +kernel
theorem dX7_image_13 : decode cX7_image 13 = .ok (.aload_n 0, 1) := by decide +kernel
theorem dX7_image_14 : decode cX7_image 14 = .ok (.getfield 138, 3) := by decide +kernel
theorem dX7_image_17 : decode cX7_image 17 = .ok (.ifCond .ne 6, 3) := by decide +kernel
theorem dX7_image_20 : decode cX7_image 20 = .ok (.ldc 172, 2) := by decide +kernel
theorem dX7_image_22 : decode cX7_image 22 = .ok (.ireturn, 1) := by decide +kernel
theorem dX7_image_23 : decode cX7_image 23 = .ok (.iconst 0, 1) := by decide +kernel
theorem dX7_image_24 : decode cX7_image 24 = .ok (.istore_n 2, 1) := by decide +kernel
theorem dX7_image_25 : decode cX7_image 25 = .ok (.iload_n 2, 1) := by decide +kernel
theorem dX7_image_26 : decode cX7_image 26 = .ok (.bipush 49, 2) := by decide +kernel
theorem dX7_image_28 : decode cX7_image 28 = .ok (.if_icmp .ge 26, 3) := by decide +kernel
theorem dX7_image_31 : decode cX7_image 31 = .ok (.aload_n 0, 1) := by decide +kernel
theorem dX7_image_32 : decode cX7_image 32 = .ok (.getfield 41, 3) := by decide +kernel
theorem dX7_image_35 : decode cX7_image 35 = .ok (.bipush 49, 2) := by decide +kernel
theorem dX7_image_37 : decode cX7_image 37 = .ok (.iload_n 1, 1) := by decide +kernel
theorem dX7_image_38 : decode cX7_image 38 = .ok (.imul, 1) := by decide +kernel
theorem dX7_image_39 : decode cX7_image 39 = .ok (.iload_n 2, 1) := by decide +kernel
theorem dX7_image_40 : decode cX7_image 40 = .ok (.iadd, 1) := by decide +kernel
theorem dX7_image_41 : decode cX7_image 41 = .ok (.aload_n 0, 1) := by decide +kernel
theorem dX7_image_42 : decode cX7_image 42 = .ok (.getfield 19, 3) := by decide +kernel
theorem dX7_image_45 : decode cX7_image 45 = .ok (.iload_n 2, 1) := by decide +kernel
theorem dX7_image_46 : decode cX7_image 46 = .ok (.iaload, 1) := by decide +kernel
theorem dX7_image_47 : decode cX7_image 47 = .ok (.iastore, 1) := by decide +kernel
theorem dX7_image_48 : decode cX7_image 48 = .ok (.iinc 2 1, 3) := by decide +kernel
theorem dX7_image_51 : decode cX7_image 51 = .ok (.goto (-26), 3) := by decide +kernel
theorem dX7_image_54 : decode cX7_image 54 = .ok (.aload_n 0, 1) := by decide +kernel
theorem dX7_image_55 : decode cX7_image 55 = .ok (.getfield 37, 3) := by decide +kernel
theorem dX7_image_58 : decode cX7_image 58 = .ok (.iload_n 1, 1) := by decide +kernel
theorem dX7_image_59 : decode cX7_image 59 = .ok (.iconst 1, 1) := by decide +kernel
theorem dX7_image_60 : decode cX7_image 60 = .ok (.bastore, 1) := by decide +kernel
theorem dX7_image_61 : decode cX7_image 61 = .ok (.iconst 1, 1) := by decide +kernel
theorem dX7_image_62 : decode cX7_image 62 = .ok (.ireturn, 1) := by decide +kernel
theorem dX7_restore_0 : decode cX7_restore 0 = .ok (.iload_n 1, 1) := by decide +kernel
theorem dX7_restore_1 : decode cX7_restore 1 = .ok (.i2l, 1) := by decide +kernel
theorem dX7_restore_2 : decode cX7_restore 2 = .ok (.lconst 0, 1) := by decide +kernel
theorem dX7_restore_3 : decode cX7_restore 3 = .ok (.lconst 1, 1) := by decide +kernel
theorem dX7_restore_4 : decode cX7_restore 4 = .ok (.invokestatic 54, 3) := by decide +kernel
theorem dX7_restore_7 : decode cX7_restore 7 = .ok (.ifCond .ne 6, 3) := by decide +kernel
theorem dX7_restore_10 : decode cX7_restore 10 = .ok (.ldc 64, 2) := by decide +kernel
theorem dX7_restore_12 : decode cX7_restore 12 = .ok (.ireturn, 1) := by decide +kernel
theorem dX7_restore_13 : decode cX7_restore 13 = .ok (.aload_n 0, 1) := by decide +kernel
theorem dX7_restore_14 : decode cX7_restore 14 = .ok (.getfield 37, 3) := by decide +kernel
theorem dX7_restore_17 : decode cX7_restore 17 = .ok (.iload_n 1, 1) := by decide +kernel
theorem dX7_restore_18 : decode cX7_restore 18 = .ok (.baload, 1) := by decide +kernel
theorem dX7_restore_19 : decode cX7_restore 19 = .ok (.ifCond .ne 6, 3) := by decide +kernel
theorem dX7_restore_22 : decode cX7_restore 22 = .ok (.ldc 172, 2) := by decide +kernel
theorem dX7_restore_24 : decode cX7_restore 24 = .ok (.ireturn, 1) := by decide +kernel
theorem dX7_restore_25 : decode cX7_restore 25 = .ok (.iconst 0, 1) := by decide +kernel
theorem dX7_restore_26 : decode cX7_restore 26 = .ok (.istore_n 2, 1) := by decide +kernel
theorem dX7_restore_27 : decode cX7_restore 27 = .ok (.iload_n 2, 1) := by decide +kernel
theorem dX7_restore_28 : decode cX7_restore 28 = .ok (.bipush 49, 2) := by decide +kernel
theorem dX7_restore_30 : decode cX7_restore 30 = .ok (.if_icmp .ge 26, 3) := by decide +kernel
theorem dX7_restore_33 : decode cX7_restore 33 = .ok (.aload_n 0, 1) := by decide +kernel
theorem dX7_restore_34 : decode cX7_restore 34 = .ok (.getfield 19, 3) := by decide +kernel
theorem dX7_restore_37 : decode cX7_restore 37 = .ok (.iload_n 2, 1) := by decide +kernel
theorem dX7_restore_38 : decode cX7_restore 38 = .ok (.aload_n 0, 1) := by decide +kernel
theorem dX7_restore_39 : decode cX7_restore 39 = .ok (.getfield 41, 3) := by decide +kernel
theorem dX7_restore_42 : decode cX7_restore 42 = .ok (.bipush 49, 2) := by decide +kernel
theorem dX7_restore_44 : decode cX7_restore 44 = .ok (.iload_n 1, 1) := by decide +kernel
theorem dX7_restore_45 : decode cX7_restore 45 = .ok (.imul, 1) := by decide +kernel
theorem dX7_restore_46 : decode cX7_restore 46 = .ok (.iload_n 2, 1) := by decide +kernel
theorem dX7_restore_47 : decode cX7_restore 47 = .ok (.iadd, 1) := by decide +kernel
theorem dX7_restore_48 : decode cX7_restore 48 = .ok (.iaload, 1) := by decide +kernel
theorem dX7_restore_49 : decode cX7_restore 49 = .ok (.iastore, 1) := by decide +kernel
theorem dX7_restore_50 : decode cX7_restore 50 = .ok (.iinc 2 1, 3) := by decide +kernel
theorem dX7_restore_53 : decode cX7_restore 53 = .ok (.goto (-26), 3) := by decide +kernel
theorem dX7_restore_56 : decode cX7_restore 56 = .ok (.aload_n 0, 1) := by decide +kernel
theorem dX7_restore_57 : decode cX7_restore 57 = .ok (.iconst 0, 1) := by decide +kernel
theorem dX7_restore_58 : decode cX7_restore 58 = .ok (.putfield 142, 3) := by decide +kernel
theorem dX7_restore_61 : decode cX7_restore 61 = .ok (.iconst 1, 1) := by decide +kernel
theorem dX7_restore_62 : decode cX7_restore 62 = .ok (.ireturn, 1) := by decide +kernel
theorem dX7_kind_0 : decode cX7_kind 0 = .ok (.aload_n 0, 1) := by decide +kernel
theorem dX7_kind_1 : decode cX7_kind 1 = .ok (.iload_n 1, 1) := by decide +kernel
theorem dX7_kind_2 : decode cX7_kind 2 = .ok (.invokevirtual 185, 3) := by decide +kernel
theorem dX7_kind_5 : decode cX7_kind 5 = .ok (.ifCond .eq 14, 3) := by decide +kernel
theorem dX7_kind_8 : decode cX7_kind 8 = .ok (.aload_n 0, 1) := by decide +kernel
theorem dX7_kind_9 : decode cX7_kind 9 = .ok (.getfield 19, 3) := by decide +kernel
theorem dX7_kind_12 : decode cX7_kind 12 = .ok (.iconst 5, 1) := by decide +kernel
theorem dX7_kind_13 : decode cX7_kind 13 = .ok (.iload_n 1, 1) := by decide +kernel
theorem dX7_kind_14 : decode cX7_kind 14 = .ok (.iadd, 1) := by decide +kernel
theorem dX7_kind_15 : decode cX7_kind 15 = .ok (.iaload, 1) := by decide +kernel
theorem dX7_kind_16 : decode cX7_kind 16 = .ok (.goto 5, 3) := by decide +kernel
theorem dX7_kind_19 : decode cX7_kind 19 = .ok (.ldc 64, 2) := by decide +kernel
theorem dX7_kind_21 : decode cX7_kind 21 = .ok (.ireturn, 1) := by decide +kernel
theorem dX7_isKind_0 : decode cX7_isKind 0 = .ok (.iload_n 1, 1) := by decide +kernel
theorem dX7_isKind_1 : decode cX7_isKind 1 = .ok (.ifCond .eq 28, 3) := by decide +kernel
theorem dX7_isKind_4 : decode cX7_isKind 4 = .ok (.iload_n 0, 1) := by decide +kernel
theorem dX7_isKind_5 : decode cX7_isKind 5 = .ok (.iload_n 1, 1) := by decide +kernel
theorem dX7_isKind_6 : decode cX7_isKind 6 = .ok (.if_icmp .eq 23, 3) := by decide +kernel
theorem dX7_isKind_9 : decode cX7_isKind 9 = .ok (.iload_n 1, 1) := by decide +kernel
theorem dX7_isKind_10 : decode cX7_isKind 10 = .ok (.iconst 1, 1) := by decide +kernel
theorem dX7_isKind_11 : decode cX7_isKind 11 = .ok (.if_icmp .ne 8, 3) := by decide +kernel
theorem dX7_isKind_14 : decode cX7_isKind 14 = .ok (.iload_n 0, 1) := by decide +kernel
theorem dX7_isKind_15 : decode cX7_isKind 15 = .ok (.iconst 4, 1) := by decide +kernel
theorem dX7_isKind_16 : decode cX7_isKind 16 = .ok (.if_icmp .lt 13, 3) := by decide +kernel
theorem dX7_isKind_19 : decode cX7_isKind 19 = .ok (.iload_n 1, 1) := by decide +kernel
theorem dX7_isKind_20 : decode cX7_isKind 20 = .ok (.iconst 4, 1) := by decide +kernel
theorem dX7_isKind_21 : decode cX7_isKind 21 = .ok (.if_icmp .ne 12, 3) := by decide +kernel
theorem dX7_isKind_24 : decode cX7_isKind 24 = .ok (.iload_n 0, 1) := by decide +kernel
theorem dX7_isKind_25 : decode cX7_isKind 25 = .ok (.iconst 5, 1) := by decide +kernel
theorem dX7_isKind_26 : decode cX7_isKind 26 = .ok (.if_icmp .ne 7, 3) := by decide +kernel
theorem dX7_isKind_29 : decode cX7_isKind 29 = .ok (.iconst 1, 1) := by decide +kernel
theorem dX7_isKind_30 : decode cX7_isKind 30 = .ok (.goto 4, 3) := by decide +kernel
theorem dX7_isKind_33 : decode cX7_isKind 33 = .ok (.iconst 0, 1) := by decide +kernel
theorem dX7_isKind_34 : decode cX7_isKind 34 = .ok (.ireturn, 1) := by decide +kernel
theorem dX7_as_0 : decode cX7_as 0 = .ok (.aload_n 0, 1) := by decide +kernel
theorem dX7_as_1 : decode cX7_as 1 = .ok (.iload_n 1, 1) := by decide +kernel
theorem dX7_as_2 : decode cX7_as 2 = .ok (.invokevirtual 185, 3) := by decide +kernel
theorem dX7_as_5 : decode cX7_as 5 = .ok (.ifCond .eq 15, 3) := by decide +kernel
theorem dX7_as_8 : decode cX7_as 8 = .ok (.iload_n 2, 1) := by decide +kernel
theorem dX7_as_9 : decode cX7_as 9 = .ok (.i2l, 1) := by decide +kernel
theorem dX7_as_10 : decode cX7_as 10 = .ok (.lconst 0, 1) := by decide +kernel
theorem dX7_as_11 : decode cX7_as 11 = .ok (.ldc2_w 283, 3) := by decide +kernel
theorem dX7_as_14 : decode cX7_as 14 = .ok (.invokestatic 54, 3) := by decide +kernel
theorem dX7_as_17 : decode cX7_as 17 = .ok (.ifCond .ne 6, 3) := by decide +kernel
theorem dX7_as_20 : decode cX7_as 20 = .ok (.ldc 64, 2) := by decide +kernel
theorem dX7_as_22 : decode cX7_as 22 = .ok (.ireturn, 1) := by decide +kernel
theorem dX7_as_23 : decode cX7_as 23 = .ok (.aload_n 0, 1) := by decide +kernel
theorem dX7_as_24 : decode cX7_as 24 = .ok (.getfield 19, 3) := by decide +kernel
theorem dX7_as_27 : decode cX7_as 27 = .ok (.iconst 5, 1) := by decide +kernel
theorem dX7_as_28 : decode cX7_as 28 = .ok (.iload_n 1, 1) := by decide +kernel
theorem dX7_as_29 : decode cX7_as 29 = .ok (.iadd, 1) := by decide +kernel
theorem dX7_as_30 : decode cX7_as 30 = .ok (.iaload, 1) := by decide +kernel
theorem dX7_as_31 : decode cX7_as 31 = .ok (.iload_n 2, 1) := by decide +kernel
theorem dX7_as_32 : decode cX7_as 32 = .ok (.invokestatic 285, 3) := by decide +kernel
theorem dX7_as_35 : decode cX7_as 35 = .ok (.ifCond .eq 11, 3) := by decide +kernel
theorem dX7_as_38 : decode cX7_as 38 = .ok (.aload_n 0, 1) := by decide +kernel
theorem dX7_as_39 : decode cX7_as 39 = .ok (.iload_n 1, 1) := by decide +kernel
theorem dX7_as_40 : decode cX7_as 40 = .ok (.invokevirtual 69, 3) := by decide +kernel
theorem dX7_as_43 : decode cX7_as 43 = .ok (.goto 8, 3) := by decide +kernel
theorem dX7_as_46 : decode cX7_as 46 = .ok (.aload_n 0, 1) := by decide +kernel
theorem dX7_as_47 : decode cX7_as 47 = .ok (.iconst 3, 1) := by decide +kernel
theorem dX7_as_48 : decode cX7_as 48 = .ok (.invokevirtual 65, 3) := by decide +kernel
theorem dX7_as_51 : decode cX7_as 51 = .ok (.ireturn, 1) := by decide +kernel
theorem dX7_begin_0 : decode cX7_begin 0 = .ok (.aload_n 0, 1) := by decide +kernel
theorem dX7_begin_1 : decode cX7_begin 1 = .ok (.getfield 288, 3) := by decide +kernel
theorem dX7_begin_4 : decode cX7_begin 4 = .ok (.bipush 16, 2) := by decide +kernel
theorem dX7_begin_6 : decode cX7_begin 6 = .ok (.if_icmp .ge 23, 3) := by decide +kernel
theorem dX7_begin_9 : decode cX7_begin 9 = .ok (.aload_n 0, 1) := by decide +kernel
theorem dX7_begin_10 : decode cX7_begin 10 = .ok (.getfield 44, 3) := by decide +kernel
theorem dX7_begin_13 : decode cX7_begin 13 = .ok (.aload_n 0, 1) := by decide +kernel
theorem dX7_begin_14 : decode cX7_begin 14 = .ok (.getfield 288, 3) := by decide +kernel
theorem dX7_begin_17 : decode cX7_begin 17 = .ok (.iload_n 1, 1) := by decide +kernel
theorem dX7_begin_18 : decode cX7_begin 18 = .ok (.iastore, 1) := by decide +kernel
theorem dX7_begin_19 : decode cX7_begin 19 = .ok (.aload_n 0, 1) := by decide +kernel
theorem dX7_begin_20 : decode cX7_begin 20 = .ok (.dup, 1) := by decide +kernel
theorem dX7_begin_21 : decode cX7_begin 21 = .ok (.getfield 288, 3) := by decide +kernel
theorem dX7_begin_24 : decode cX7_begin 24 = .ok (.iconst 1, 1) := by decide +kernel
theorem dX7_begin_25 : decode cX7_begin 25 = .ok (.iadd, 1) := by decide +kernel
theorem dX7_begin_26 : decode cX7_begin 26 = .ok (.putfield 288, 3) := by decide +kernel
theorem dX7_begin_29 : decode cX7_begin 29 = .ok (.return_, 1) := by decide +kernel
theorem dX7_lent_0 : decode cX7_lent 0 = .ok (.aload_n 0, 1) := by decide +kernel
theorem dX7_lent_1 : decode cX7_lent 1 = .ok (.iload_n 2, 1) := by decide +kernel
theorem dX7_lent_2 : decode cX7_lent 2 = .ok (.invokevirtual 291, 3) := by decide +kernel
theorem dX7_lent_5 : decode cX7_lent 5 = .ok (.iload_n 2, 1) := by decide +kernel
theorem dX7_lent_6 : decode cX7_lent 6 = .ok (.bipush 10, 2) := by decide +kernel
theorem dX7_lent_8 : decode cX7_lent 8 = .ok (.if_icmp .ne 15, 3) := by decide +kernel
theorem dX7_lent_11 : decode cX7_lent 11 = .ok (.aload_n 0, 1) := by decide +kernel
theorem dX7_lent_12 : decode cX7_lent 12 = .ok (.getfield 19, 3) := by decide +kernel
theorem dX7_lent_15 : decode cX7_lent 15 = .ok (.bipush 13, 2) := by decide +kernel
theorem dX7_lent_17 : decode cX7_lent 17 = .ok (.iload_n 1, 1) := by decide +kernel
theorem dX7_lent_18 : decode cX7_lent 18 = .ok (.iadd, 1) := by decide +kernel
theorem dX7_lent_19 : decode cX7_lent 19 = .ok (.iaload, 1) := by decide +kernel
theorem dX7_lent_20 : decode cX7_lent 20 = .ok (.goto 4, 3) := by decide +kernel
theorem dX7_lent_23 : decode cX7_lent 23 = .ok (.iload_n 1, 1) := by decide +kernel
theorem dX7_lent_24 : decode cX7_lent 24 = .ok (.ireturn, 1) := by decide +kernel
theorem dX7_plainMark_0 : decode cX7_plainMark 0 = .ok (.aload_n 0, 1) := by decide +kernel
theorem dX7_plainMark_1 : decode cX7_plainMark 1 = .ok (.bipush 21, 2) := by decide +kernel
theorem dX7_plainMark_3 : decode cX7_plainMark 3 = .ok (.invokevirtual 291, 3) := by decide +kernel
theorem dX7_plainMark_6 : decode cX7_plainMark 6 = .ok (.aload_n 0, 1) := by decide +kernel
theorem dX7_plainMark_7 : decode cX7_plainMark 7 = .ok (.iload_n 1, 1) := by decide +kernel
theorem dX7_plainMark_8 : decode cX7_plainMark 8 = .ok (.bipush 20, 2) := by decide +kernel
theorem dX7_plainMark_10 : decode cX7_plainMark 10 = .ok (.invokevirtual 295, 3) := by decide +kernel
theorem dX7_plainMark_13 : decode cX7_plainMark 13 = .ok (.aload_n 0, 1) := by decide +kernel
theorem dX7_plainMark_14 : decode cX7_plainMark 14 = .ok (.getfield 19, 3) := by decide +kernel
theorem dX7_plainMark_17 : decode cX7_plainMark 17 = .ok (.bipush 21, 2) := by decide +kernel
theorem dX7_plainMark_19 : decode cX7_plainMark 19 = .ok (.iload_n 1, 1) := by decide +kernel
theorem dX7_plainMark_20 : decode cX7_plainMark 20 = .ok (.iadd, 1) := by decide +kernel
theorem dX7_plainMark_21 : decode cX7_plainMark 21 = .ok (.iaload, 1) := by decide +kernel
theorem dX7_plainMark_22 : decode cX7_plainMark 22 = .ok (.iadd, 1) := by decide +kernel
theorem dX7_plainMark_23 : decode cX7_plainMark 23 = .ok (.ireturn, 1) := by decide +kernel
theorem dX7_rottenSize_0 : decode cX7_rottenSize 0 = .ok (.aload_n 0, 1) := by decide +kernel
theorem dX7_rottenSize_1 : decode cX7_rottenSize 1 = .ok (.bipush 13, 2) := by decide +kernel
theorem dX7_rottenSize_3 : decode cX7_rottenSize 3 = .ok (.invokevirtual 291, 3) := by decide +kernel
theorem dX7_rottenSize_6 : decode cX7_rottenSize 6 = .ok (.aload_n 0, 1) := by decide +kernel
theorem dX7_rottenSize_7 : decode cX7_rottenSize 7 = .ok (.iload_n 1, 1) := by decide +kernel
theorem dX7_rottenSize_8 : decode cX7_rottenSize 8 = .ok (.bipush 10, 2) := by decide +kernel
theorem dX7_rottenSize_10 : decode cX7_rottenSize 10 = .ok (.invokevirtual 295, 3) := by decide +kernel
theorem dX7_rottenSize_13 : decode cX7_rottenSize 13 = .ok (.bipush 100, 2) := by decide +kernel
theorem dX7_rottenSize_15 : decode cX7_rottenSize 15 = .ok (.isub, 1) := by decide +kernel
theorem dX7_rottenSize_16 : decode cX7_rottenSize 16 = .ok (.ireturn, 1) := by decide +kernel
theorem dX7_sizeOfRotten_0 : decode cX7_sizeOfRotten 0 = .ok (.aload_n 0, 1) := by decide +kernel
theorem dX7_sizeOfRotten_1 : decode cX7_sizeOfRotten 1 = .ok (.getfield 19, 3) := by decide +kernel
theorem dX7_sizeOfRotten_4 : decode cX7_sizeOfRotten 4 = .ok (.iconst 5, 1) := by decide +kernel
theorem dX7_sizeOfRotten_5 : decode cX7_sizeOfRotten 5 = .ok (.iload_n 1, 1) := by decide +kernel
theorem dX7_sizeOfRotten_6 : decode cX7_sizeOfRotten 6 = .ok (.iadd, 1) := by decide +kernel
theorem dX7_sizeOfRotten_7 : decode cX7_sizeOfRotten 7 = .ok (.iaload, 1) := by decide +kernel
theorem dX7_sizeOfRotten_8 : decode cX7_sizeOfRotten 8 = .ok (.iconst 5, 1) := by decide +kernel
theorem dX7_sizeOfRotten_9 : decode cX7_sizeOfRotten 9 = .ok (.if_icmp .ne 17, 3) := by decide +kernel
theorem dX7_sizeOfRotten_12 : decode cX7_sizeOfRotten 12 = .ok (.aload_n 0, 1) := by decide +kernel
theorem dX7_sizeOfRotten_13 : decode cX7_sizeOfRotten 13 = .ok (.bipush 14, 2) := by decide +kernel
theorem dX7_sizeOfRotten_15 : decode cX7_sizeOfRotten 15 = .ok (.invokevirtual 291, 3) := by decide +kernel
theorem dX7_sizeOfRotten_18 : decode cX7_sizeOfRotten 18 = .ok (.iconst 2, 1) := by decide +kernel
theorem dX7_sizeOfRotten_19 : decode cX7_sizeOfRotten 19 = .ok (.aload_n 0, 1) := by decide +kernel
theorem dX7_sizeOfRotten_20 : decode cX7_sizeOfRotten 20 = .ok (.iload_n 1, 1) := by decide +kernel
theorem dX7_sizeOfRotten_21 : decode cX7_sizeOfRotten 21 = .ok (.invokevirtual 298, 3) := by decide +kernel
theorem dX7_sizeOfRotten_24 : decode cX7_sizeOfRotten 24 = .ok (.imul, 1) := by decide +kernel
theorem dX7_sizeOfRotten_25 : decode cX7_sizeOfRotten 25 = .ok (.ireturn, 1) := by decide +kernel
theorem dX7_sizeOfRotten_26 : decode cX7_sizeOfRotten 26 = .ok (.aload_n 0, 1) := by decide +kernel
theorem dX7_sizeOfRotten_27 : decode cX7_sizeOfRotten 27 = .ok (.iload_n 1, 1) := by decide +kernel
theorem dX7_sizeOfRotten_28 : decode cX7_sizeOfRotten 28 = .ok (.invokevirtual 298, 3) := by decide +kernel
theorem dX7_sizeOfRotten_31 : decode cX7_sizeOfRotten 31 = .ok (.ireturn, 1) := by decide +kernel
theorem dX7_markOf_0 : decode cX7_markOf 0 = .ok (.aload_n 0, 1) := by decide +kernel
theorem dX7_markOf_1 : decode cX7_markOf 1 = .ok (.getfield 19, 3) := by decide +kernel
theorem dX7_markOf_4 : decode cX7_markOf 4 = .ok (.iconst 5, 1) := by decide +kernel
theorem dX7_markOf_5 : decode cX7_markOf 5 = .ok (.iload_n 1, 1) := by decide +kernel
theorem dX7_markOf_6 : decode cX7_markOf 6 = .ok (.iadd, 1) := by decide +kernel
theorem dX7_markOf_7 : decode cX7_markOf 7 = .ok (.iaload, 1) := by decide +kernel
theorem dX7_markOf_8 : decode cX7_markOf 8 = .ok (.istore_n 2, 1) := by decide +kernel
theorem dX7_markOf_9 : decode cX7_markOf 9 = .ok (.iload_n 2, 1) := by decide +kernel
theorem dX7_markOf_10 : decode cX7_markOf 10 = .ok (.iconst 2, 1) := by decide +kernel
theorem dX7_markOf_11 : decode cX7_markOf 11 = .ok (.if_icmp .ne 17, 3) := by decide +kernel
theorem dX7_markOf_14 : decode cX7_markOf 14 = .ok (.aload_n 0, 1) := by decide +kernel
theorem dX7_markOf_15 : decode cX7_markOf 15 = .ok (.bipush 24, 2) := by decide +kernel
theorem dX7_markOf_17 : decode cX7_markOf 17 = .ok (.invokevirtual 291, 3) := by decide +kernel
theorem dX7_markOf_20 : decode cX7_markOf 20 = .ok (.iconst 2, 1) := by decide +kernel
theorem dX7_markOf_21 : decode cX7_markOf 21 = .ok (.aload_n 0, 1) := by decide +kernel
theorem dX7_markOf_22 : decode cX7_markOf 22 = .ok (.iload_n 1, 1) := by decide +kernel
theorem dX7_markOf_23 : decode cX7_markOf 23 = .ok (.invokevirtual 301, 3) := by decide +kernel
theorem dX7_markOf_26 : decode cX7_markOf 26 = .ok (.imul, 1) := by decide +kernel
theorem dX7_markOf_27 : decode cX7_markOf 27 = .ok (.ireturn, 1) := by decide +kernel
theorem dX7_markOf_28 : decode cX7_markOf 28 = .ok (.iload_n 2, 1) := by decide +kernel
theorem dX7_markOf_29 : decode cX7_markOf 29 = .ok (.iconst 3, 1) := by decide +kernel
theorem dX7_markOf_30 : decode cX7_markOf 30 = .ok (.if_icmp .ne 19, 3) := by decide +kernel
theorem dX7_markOf_33 : decode cX7_markOf 33 = .ok (.aload_n 0, 1) := by decide +kernel
theorem dX7_markOf_34 : decode cX7_markOf 34 = .ok (.bipush 22, 2) := by decide +kernel
theorem dX7_markOf_36 : decode cX7_markOf 36 = .ok (.invokevirtual 291, 3) := by decide +kernel
theorem dX7_markOf_39 : decode cX7_markOf 39 = .ok (.aload_n 0, 1) := by decide +kernel
theorem dX7_markOf_40 : decode cX7_markOf 40 = .ok (.iload_n 1, 1) := by decide +kernel
theorem dX7_markOf_41 : decode cX7_markOf 41 = .ok (.invokevirtual 301, 3) := by decide +kernel
theorem dX7_markOf_44 : decode cX7_markOf 44 = .ok (.sipush 1000, 3) := by decide +kernel
theorem dX7_markOf_47 : decode cX7_markOf 47 = .ok (.isub, 1) := by decide +kernel
theorem dX7_markOf_48 : decode cX7_markOf 48 = .ok (.ireturn, 1) := by decide +kernel
theorem dX7_markOf_49 : decode cX7_markOf 49 = .ok (.iload_n 2, 1) := by decide +kernel
theorem dX7_markOf_50 : decode cX7_markOf 50 = .ok (.iconst 1, 1) := by decide +kernel
theorem dX7_markOf_51 : decode cX7_markOf 51 = .ok (.if_icmp .ne 9, 3) := by decide +kernel
theorem dX7_markOf_54 : decode cX7_markOf 54 = .ok (.aload_n 0, 1) := by decide +kernel
theorem dX7_markOf_55 : decode cX7_markOf 55 = .ok (.iload_n 1, 1) := by decide +kernel
theorem dX7_markOf_56 : decode cX7_markOf 56 = .ok (.invokevirtual 301, 3) := by decide +kernel
theorem dX7_markOf_59 : decode cX7_markOf 59 = .ok (.ireturn, 1) := by decide +kernel
theorem dX7_markOf_60 : decode cX7_markOf 60 = .ok (.aload_n 0, 1) := by decide +kernel
theorem dX7_markOf_61 : decode cX7_markOf 61 = .ok (.bipush 23, 2) := by decide +kernel
theorem dX7_markOf_63 : decode cX7_markOf 63 = .ok (.invokevirtual 291, 3) := by decide +kernel
theorem dX7_markOf_66 : decode cX7_markOf 66 = .ok (.aload_n 0, 1) := by decide +kernel
theorem dX7_markOf_67 : decode cX7_markOf 67 = .ok (.iload_n 1, 1) := by decide +kernel
theorem dX7_markOf_68 : decode cX7_markOf 68 = .ok (.bipush 20, 2) := by decide +kernel
theorem dX7_markOf_70 : decode cX7_markOf 70 = .ok (.invokevirtual 295, 3) := by decide +kernel
theorem dX7_markOf_73 : decode cX7_markOf 73 = .ok (.istore_n 3, 1) := by decide +kernel
theorem dX7_markOf_74 : decode cX7_markOf 74 = .ok (.iload_n 3, 1) := by decide +kernel
theorem dX7_markOf_75 : decode cX7_markOf 75 = .ok (.aload_n 0, 1) := by decide +kernel
theorem dX7_markOf_76 : decode cX7_markOf 76 = .ok (.iload_n 1, 1) := by decide +kernel
theorem dX7_markOf_77 : decode cX7_markOf 77 = .ok (.invokevirtual 304, 3) := by decide +kernel
theorem dX7_markOf_80 : decode cX7_markOf 80 = .ok (.isub, 1) := by decide +kernel
theorem dX7_markOf_81 : decode cX7_markOf 81 = .ok (.ireturn, 1) := by decide +kernel
theorem dX7_plainSize_0 : decode cX7_plainSize 0 = .ok (.aload_n 0, 1) := by decide +kernel
theorem dX7_plainSize_1 : decode cX7_plainSize 1 = .ok (.bipush 11, 2) := by decide +kernel
theorem dX7_plainSize_3 : decode cX7_plainSize 3 = .ok (.invokevirtual 291, 3) := by decide +kernel
theorem dX7_plainSize_6 : decode cX7_plainSize 6 = .ok (.aload_n 0, 1) := by decide +kernel
theorem dX7_plainSize_7 : decode cX7_plainSize 7 = .ok (.iload_n 1, 1) := by decide +kernel
theorem dX7_plainSize_8 : decode cX7_plainSize 8 = .ok (.bipush 10, 2) := by decide +kernel
theorem dX7_plainSize_10 : decode cX7_plainSize 10 = .ok (.invokevirtual 295, 3) := by decide +kernel
theorem dX7_plainSize_13 : decode cX7_plainSize 13 = .ok (.istore_n 2, 1) := by decide +kernel
theorem dX7_plainSize_14 : decode cX7_plainSize 14 = .ok (.iload_n 2, 1) := by decide +kernel
theorem dX7_plainSize_15 : decode cX7_plainSize 15 = .ok (.aload_n 0, 1) := by decide +kernel
theorem dX7_plainSize_16 : decode cX7_plainSize 16 = .ok (.iload_n 1, 1) := by decide +kernel
theorem dX7_plainSize_17 : decode cX7_plainSize 17 = .ok (.invokevirtual 307, 3) := by decide +kernel
theorem dX7_plainSize_20 : decode cX7_plainSize 20 = .ok (.iadd, 1) := by decide +kernel
theorem dX7_plainSize_21 : decode cX7_plainSize 21 = .ok (.ireturn, 1) := by decide +kernel
theorem dX7_sizeOf_0 : decode cX7_sizeOf 0 = .ok (.aload_n 0, 1) := by decide +kernel
theorem dX7_sizeOf_1 : decode cX7_sizeOf 1 = .ok (.getfield 19, 3) := by decide +kernel
theorem dX7_sizeOf_4 : decode cX7_sizeOf 4 = .ok (.iconst 5, 1) := by decide +kernel
theorem dX7_sizeOf_5 : decode cX7_sizeOf 5 = .ok (.iload_n 1, 1) := by decide +kernel
theorem dX7_sizeOf_6 : decode cX7_sizeOf 6 = .ok (.iadd, 1) := by decide +kernel
theorem dX7_sizeOf_7 : decode cX7_sizeOf 7 = .ok (.iaload, 1) := by decide +kernel
theorem dX7_sizeOf_8 : decode cX7_sizeOf 8 = .ok (.istore_n 2, 1) := by decide +kernel
theorem dX7_sizeOf_9 : decode cX7_sizeOf 9 = .ok (.iload_n 2, 1) := by decide +kernel
theorem dX7_sizeOf_10 : decode cX7_sizeOf 10 = .ok (.iconst 2, 1) := by decide +kernel
theorem dX7_sizeOf_11 : decode cX7_sizeOf 11 = .ok (.if_icmp .ne 16, 3) := by decide +kernel
theorem dX7_sizeOf_14 : decode cX7_sizeOf 14 = .ok (.aload_n 0, 1) := by decide +kernel
theorem dX7_sizeOf_15 : decode cX7_sizeOf 15 = .ok (.bipush 12, 2) := by decide +kernel
theorem dX7_sizeOf_17 : decode cX7_sizeOf 17 = .ok (.invokevirtual 291, 3) := by decide +kernel
theorem dX7_sizeOf_20 : decode cX7_sizeOf 20 = .ok (.aload_n 0, 1) := by decide +kernel
theorem dX7_sizeOf_21 : decode cX7_sizeOf 21 = .ok (.iload_n 1, 1) := by decide +kernel
theorem dX7_sizeOf_22 : decode cX7_sizeOf 22 = .ok (.invokevirtual 310, 3) := by decide +kernel
theorem dX7_sizeOf_25 : decode cX7_sizeOf 25 = .ok (.ineg, 1) := by decide +kernel
theorem dX7_sizeOf_26 : decode cX7_sizeOf 26 = .ok (.ireturn, 1) := by decide +kernel
theorem dX7_sizeOf_27 : decode cX7_sizeOf 27 = .ok (.iload_n 2, 1) := by decide +kernel
theorem dX7_sizeOf_28 : decode cX7_sizeOf 28 = .ok (.iconst 4, 1) := by decide +kernel
theorem dX7_sizeOf_29 : decode cX7_sizeOf 29 = .ok (.if_icmp .lt 11, 3) := by decide +kernel
theorem dX7_sizeOf_32 : decode cX7_sizeOf 32 = .ok (.aload_n 0, 1) := by decide +kernel
theorem dX7_sizeOf_33 : decode cX7_sizeOf 33 = .ok (.iload_n 1, 1) := by decide +kernel
theorem dX7_sizeOf_34 : decode cX7_sizeOf 34 = .ok (.invokevirtual 304, 3) := by decide +kernel
theorem dX7_sizeOf_37 : decode cX7_sizeOf 37 = .ok (.goto 8, 3) := by decide +kernel
theorem dX7_sizeOf_40 : decode cX7_sizeOf 40 = .ok (.aload_n 0, 1) := by decide +kernel
theorem dX7_sizeOf_41 : decode cX7_sizeOf 41 = .ok (.iload_n 1, 1) := by decide +kernel
theorem dX7_sizeOf_42 : decode cX7_sizeOf 42 = .ok (.invokevirtual 310, 3) := by decide +kernel
theorem dX7_sizeOf_45 : decode cX7_sizeOf 45 = .ok (.ireturn, 1) := by decide +kernel
theorem dX7_ask_0 : decode cX7_ask 0 = .ok (.aload_n 0, 1) := by decide +kernel
theorem dX7_ask_1 : decode cX7_ask 1 = .ok (.iload_n 1, 1) := by decide +kernel
theorem dX7_ask_2 : decode cX7_ask 2 = .ok (.invokevirtual 185, 3) := by decide +kernel
theorem dX7_ask_5 : decode cX7_ask 5 = .ok (.ifCond .eq 13, 3) := by decide +kernel
theorem dX7_ask_8 : decode cX7_ask 8 = .ok (.iload_n 2, 1) := by decide +kernel
theorem dX7_ask_9 : decode cX7_ask 9 = .ok (.i2l, 1) := by decide +kernel
theorem dX7_ask_10 : decode cX7_ask 10 = .ok (.lconst 0, 1) := by decide +kernel
theorem dX7_ask_11 : decode cX7_ask 11 = .ok (.lconst 1, 1) := by decide +kernel
theorem dX7_ask_12 : decode cX7_ask 12 = .ok (.invokestatic 54, 3) := by decide +kernel
theorem dX7_ask_15 : decode cX7_ask 15 = .ok (.ifCond .ne 6, 3) := by decide +kernel
theorem dX7_ask_18 : decode cX7_ask 18 = .ok (.ldc 64, 2) := by decide +kernel
theorem dX7_ask_20 : decode cX7_ask 20 = .ok (.ireturn, 1) := by decide +kernel
theorem dX7_ask_21 : decode cX7_ask 21 = .ok (.aload_n 0, 1) := by decide +kernel
theorem dX7_ask_22 : decode cX7_ask 22 = .ok (.iconst 0, 1) := by decide +kernel
theorem dX7_ask_23 : decode cX7_ask 23 = .ok (.putfield 288, 3) := by decide +kernel
theorem dX7_ask_26 : decode cX7_ask 26 = .ok (.iload_n 2, 1) := by decide +kernel
theorem dX7_ask_27 : decode cX7_ask 27 = .ok (.ifCond .ne 11, 3) := by decide +kernel
theorem dX7_ask_30 : decode cX7_ask 30 = .ok (.aload_n 0, 1) := by decide +kernel
theorem dX7_ask_31 : decode cX7_ask 31 = .ok (.iload_n 1, 1) := by decide +kernel
theorem dX7_ask_32 : decode cX7_ask 32 = .ok (.invokevirtual 313, 3) := by decide +kernel
theorem dX7_ask_35 : decode cX7_ask 35 = .ok (.goto 8, 3) := by decide +kernel
theorem dX7_ask_38 : decode cX7_ask 38 = .ok (.aload_n 0, 1) := by decide +kernel
theorem dX7_ask_39 : decode cX7_ask 39 = .ok (.iload_n 1, 1) := by decide +kernel
theorem dX7_ask_40 : decode cX7_ask 40 = .ok (.invokevirtual 307, 3) := by decide +kernel
theorem dX7_ask_43 : decode cX7_ask 43 = .ok (.ireturn, 1) := by decide +kernel
theorem dX7_trace_0 : decode cX7_trace 0 = .ok (.iload_n 1, 1) := by decide +kernel
theorem dX7_trace_1 : decode cX7_trace 1 = .ok (.i2l, 1) := by decide +kernel
theorem dX7_trace_2 : decode cX7_trace 2 = .ok (.lconst 0, 1) := by decide +kernel
theorem dX7_trace_3 : decode cX7_trace 3 = .ok (.aload_n 0, 1) := by decide +kernel
theorem dX7_trace_4 : decode cX7_trace 4 = .ok (.getfield 288, 3) := by decide +kernel
theorem dX7_trace_7 : decode cX7_trace 7 = .ok (.iconst 1, 1) := by decide +kernel
theorem dX7_trace_8 : decode cX7_trace 8 = .ok (.isub, 1) := by decide +kernel
theorem dX7_trace_9 : decode cX7_trace 9 = .ok (.i2l, 1) := by decide +kernel
theorem dX7_trace_10 : decode cX7_trace 10 = .ok (.invokestatic 54, 3) := by decide +kernel
theorem dX7_trace_13 : decode cX7_trace 13 = .ok (.ifCond .eq 12, 3) := by decide +kernel
theorem dX7_trace_16 : decode cX7_trace 16 = .ok (.aload_n 0, 1) := by decide +kernel
theorem dX7_trace_17 : decode cX7_trace 17 = .ok (.getfield 44, 3) := by decide +kernel
theorem dX7_trace_20 : decode cX7_trace 20 = .ok (.iload_n 1, 1) := by decide +kernel
theorem dX7_trace_21 : decode cX7_trace 21 = .ok (.iaload, 1) := by decide +kernel
theorem dX7_trace_22 : decode cX7_trace 22 = .ok (.goto 5, 3) := by decide +kernel
theorem dX7_trace_25 : decode cX7_trace 25 = .ok (.ldc 207, 2) := by decide +kernel
theorem dX7_trace_27 : decode cX7_trace 27 = .ok (.ireturn, 1) := by decide +kernel
theorem dX7_count_0 : decode cX7_count 0 = .ok (.iconst 0, 1) := by decide +kernel
theorem dX7_count_1 : decode cX7_count 1 = .ok (.istore_n 2, 1) := by decide +kernel
theorem dX7_count_2 : decode cX7_count 2 = .ok (.iconst 0, 1) := by decide +kernel
theorem dX7_count_3 : decode cX7_count 3 = .ok (.istore_n 3, 1) := by decide +kernel
theorem dX7_count_4 : decode cX7_count 4 = .ok (.iload_n 3, 1) := by decide +kernel
theorem dX7_count_5 : decode cX7_count 5 = .ok (.bipush 8, 2) := by decide +kernel
theorem dX7_count_7 : decode cX7_count 7 = .ok (.if_icmp .ge 26, 3) := by decide +kernel
theorem dX7_count_10 : decode cX7_count 10 = .ok (.iload_n 2, 1) := by decide +kernel
theorem dX7_count_11 : decode cX7_count 11 = .ok (.aload_n 0, 1) := by decide +kernel
theorem dX7_count_12 : decode cX7_count 12 = .ok (.getfield 13, 3) := by decide +kernel
theorem dX7_count_15 : decode cX7_count 15 = .ok (.iload_n 3, 1) := by decide +kernel
theorem dX7_count_16 : decode cX7_count 16 = .ok (.iaload, 1) := by decide +kernel
theorem dX7_count_17 : decode cX7_count 17 = .ok (.ifCond .lt 7, 3) := by decide +kernel
theorem dX7_count_20 : decode cX7_count 20 = .ok (.iconst 1, 1) := by decide +kernel
theorem dX7_count_21 : decode cX7_count 21 = .ok (.goto 4, 3) := by decide +kernel
theorem dX7_count_24 : decode cX7_count 24 = .ok (.iconst 0, 1) := by decide +kernel
theorem dX7_count_25 : decode cX7_count 25 = .ok (.iadd, 1) := by decide +kernel
theorem dX7_count_26 : decode cX7_count 26 = .ok (.istore_n 2, 1) := by decide +kernel
theorem dX7_count_27 : decode cX7_count 27 = .ok (.iinc 3 1, 3) := by decide +kernel
theorem dX7_count_30 : decode cX7_count 30 = .ok (.goto (-26), 3) := by decide +kernel
theorem dX7_count_33 : decode cX7_count 33 = .ok (.iload_n 1, 1) := by decide +kernel
theorem dX7_count_34 : decode cX7_count 34 = .ok (.tableswitch 99 0 7 #[46, 48, 55, 62, 69, 82, 89, 94], 46) := by decide +kernel
theorem dX7_count_80 : decode cX7_count 80 = .ok (.iload_n 2, 1) := by decide +kernel
theorem dX7_count_81 : decode cX7_count 81 = .ok (.ireturn, 1) := by decide +kernel
theorem dX7_count_82 : decode cX7_count 82 = .ok (.aload_n 0, 1) := by decide +kernel
theorem dX7_count_83 : decode cX7_count 83 = .ok (.getfield 19, 3) := by decide +kernel
theorem dX7_count_86 : decode cX7_count 86 = .ok (.iconst 0, 1) := by decide +kernel
theorem dX7_count_87 : decode cX7_count 87 = .ok (.iaload, 1) := by decide +kernel
theorem dX7_count_88 : decode cX7_count 88 = .ok (.ireturn, 1) := by decide +kernel
theorem dX7_count_89 : decode cX7_count 89 = .ok (.aload_n 0, 1) := by decide +kernel
theorem dX7_count_90 : decode cX7_count 90 = .ok (.getfield 19, 3) := by decide +kernel
theorem dX7_count_93 : decode cX7_count 93 = .ok (.iconst 1, 1) := by decide +kernel
theorem dX7_count_94 : decode cX7_count 94 = .ok (.iaload, 1) := by decide +kernel
theorem dX7_count_95 : decode cX7_count 95 = .ok (.ireturn, 1) := by decide +kernel
theorem dX7_count_96 : decode cX7_count 96 = .ok (.aload_n 0, 1) := by decide +kernel
theorem dX7_count_97 : decode cX7_count 97 = .ok (.getfield 19, 3) := by decide +kernel
theorem dX7_count_100 : decode cX7_count 100 = .ok (.iconst 4, 1) := by decide +kernel
theorem dX7_count_101 : decode cX7_count 101 = .ok (.iaload, 1) := by decide +kernel
theorem dX7_count_102 : decode cX7_count 102 = .ok (.ireturn, 1) := by decide +kernel
theorem dX7_count_103 : decode cX7_count 103 = .ok (.aload_n 0, 1) := by decide +kernel
theorem dX7_count_104 : decode cX7_count 104 = .ok (.invokevirtual 163, 3) := by decide +kernel
theorem dX7_count_107 : decode cX7_count 107 = .ok (.ifCond .eq 7, 3) := by decide +kernel
theorem dX7_count_110 : decode cX7_count 110 = .ok (.iconst 1, 1) := by decide +kernel
theorem dX7_count_111 : decode cX7_count 111 = .ok (.goto 4, 3) := by decide +kernel
theorem dX7_count_114 : decode cX7_count 114 = .ok (.iconst 0, 1) := by decide +kernel
theorem dX7_count_115 : decode cX7_count 115 = .ok (.ireturn, 1) := by decide +kernel
theorem dX7_count_116 : decode cX7_count 116 = .ok (.aload_n 0, 1) := by decide +kernel
theorem dX7_count_117 : decode cX7_count 117 = .ok (.getfield 19, 3) := by decide +kernel
theorem dX7_count_120 : decode cX7_count 120 = .ok (.iconst 3, 1) := by decide +kernel
theorem dX7_count_121 : decode cX7_count 121 = .ok (.iaload, 1) := by decide +kernel
theorem dX7_count_122 : decode cX7_count 122 = .ok (.ireturn, 1) := by decide +kernel
theorem dX7_count_123 : decode cX7_count 123 = .ok (.aload_n 0, 1) := by decide +kernel
theorem dX7_count_124 : decode cX7_count 124 = .ok (.getfield 142, 3) := by decide +kernel
theorem dX7_count_127 : decode cX7_count 127 = .ok (.ireturn, 1) := by decide +kernel
theorem dX7_count_128 : decode cX7_count 128 = .ok (.aload_n 0, 1) := by decide +kernel
theorem dX7_count_129 : decode cX7_count 129 = .ok (.getfield 78, 3) := by decide +kernel
theorem dX7_count_132 : decode cX7_count 132 = .ok (.ireturn, 1) := by decide +kernel
theorem dX7_count_133 : decode cX7_count 133 = .ok (.ldc 64, 2) := by decide +kernel
theorem dX7_count_135 : decode cX7_count 135 = .ok (.ireturn, 1) := by decide +kernel
theorem dX7_status_0 : decode cX7_status 0 = .ok (.aload_n 0, 1) := by decide +kernel
theorem dX7_status_1 : decode cX7_status 1 = .ok (.getfield 47, 3) := by decide +kernel
theorem dX7_status_4 : decode cX7_status 4 = .ok (.ireturn, 1) := by decide +kernel
theorem dJ6_bitCount_0f7a4_0 : decode cJ6_bitCount_0f7a4 0 = .ok (.iload_n 0, 1) := by decide +kernel
theorem dJ6_bitCount_0f7a4_1 : decode cJ6_bitCount_0f7a4 1 = .ok (.iload_n 0, 1) := by decide +kernel
theorem dJ6_bitCount_0f7a4_2 : decode cJ6_bitCount_0f7a4 2 = .ok (.iconst 1, 1) := by decide +kernel
theorem dJ6_bitCount_0f7a4_3 : decode cJ6_bitCount_0f7a4 3 = .ok (.iushr, 1) := by decide +kernel
theorem dJ6_bitCount_0f7a4_4 : decode cJ6_bitCount_0f7a4 4 = .ok (.ldc_w 265, 3) := by decide +kernel
theorem dJ6_bitCount_0f7a4_7 : decode cJ6_bitCount_0f7a4 7 = .ok (.iand, 1) := by decide +kernel
theorem dJ6_bitCount_0f7a4_8 : decode cJ6_bitCount_0f7a4 8 = .ok (.isub, 1) := by decide +kernel
theorem dJ6_bitCount_0f7a4_9 : decode cJ6_bitCount_0f7a4 9 = .ok (.istore_n 0, 1) := by decide +kernel
theorem dJ6_bitCount_0f7a4_10 : decode cJ6_bitCount_0f7a4 10 = .ok (.iload_n 0, 1) := by decide +kernel
theorem dJ6_bitCount_0f7a4_11 : decode cJ6_bitCount_0f7a4 11 = .ok (.ldc_w 266, 3) := by decide +kernel
theorem dJ6_bitCount_0f7a4_14 : decode cJ6_bitCount_0f7a4 14 = .ok (.iand, 1) := by decide +kernel
theorem dJ6_bitCount_0f7a4_15 : decode cJ6_bitCount_0f7a4 15 = .ok (.iload_n 0, 1) := by decide +kernel
theorem dJ6_bitCount_0f7a4_16 : decode cJ6_bitCount_0f7a4 16 = .ok (.iconst 2, 1) := by decide +kernel
theorem dJ6_bitCount_0f7a4_17 : decode cJ6_bitCount_0f7a4 17 = .ok (.iushr, 1) := by decide +kernel
theorem dJ6_bitCount_0f7a4_18 : decode cJ6_bitCount_0f7a4 18 = .ok (.ldc_w 266, 3) := by decide +kernel
theorem dJ6_bitCount_0f7a4_21 : decode cJ6_bitCount_0f7a4 21 = .ok (.iand, 1) := by decide +kernel
theorem dJ6_bitCount_0f7a4_22 : decode cJ6_bitCount_0f7a4 22 = .ok (.iadd, 1) := by decide +kernel
theorem dJ6_bitCount_0f7a4_23 : decode cJ6_bitCount_0f7a4 23 = .ok (.istore_n 0, 1) := by decide +kernel
theorem dJ6_bitCount_0f7a4_24 : decode cJ6_bitCount_0f7a4 24 = .ok (.iload_n 0, 1) := by decide +kernel
theorem dJ6_bitCount_0f7a4_25 : decode cJ6_bitCount_0f7a4 25 = .ok (.iload_n 0, 1) := by decide +kernel
theorem dJ6_bitCount_0f7a4_26 : decode cJ6_bitCount_0f7a4 26 = .ok (.iconst 4, 1) := by decide +kernel
theorem dJ6_bitCount_0f7a4_27 : decode cJ6_bitCount_0f7a4 27 = .ok (.iushr, 1) := by decide +kernel
theorem dJ6_bitCount_0f7a4_28 : decode cJ6_bitCount_0f7a4 28 = .ok (.iadd, 1) := by decide +kernel
theorem dJ6_bitCount_0f7a4_29 : decode cJ6_bitCount_0f7a4 29 = .ok (.ldc_w 267, 3) := by decide +kernel
theorem dJ6_bitCount_0f7a4_32 : decode cJ6_bitCount_0f7a4 32 = .ok (.iand, 1) := by decide +kernel
theorem dJ6_bitCount_0f7a4_33 : decode cJ6_bitCount_0f7a4 33 = .ok (.istore_n 0, 1) := by decide +kernel
theorem dJ6_bitCount_0f7a4_34 : decode cJ6_bitCount_0f7a4 34 = .ok (.iload_n 0, 1) := by decide +kernel
theorem dJ6_bitCount_0f7a4_35 : decode cJ6_bitCount_0f7a4 35 = .ok (.iload_n 0, 1) := by decide +kernel
theorem dJ6_bitCount_0f7a4_36 : decode cJ6_bitCount_0f7a4 36 = .ok (.bipush 8, 2) := by decide +kernel
theorem dJ6_bitCount_0f7a4_38 : decode cJ6_bitCount_0f7a4 38 = .ok (.iushr, 1) := by decide +kernel
theorem dJ6_bitCount_0f7a4_39 : decode cJ6_bitCount_0f7a4 39 = .ok (.iadd, 1) := by decide +kernel
theorem dJ6_bitCount_0f7a4_40 : decode cJ6_bitCount_0f7a4 40 = .ok (.istore_n 0, 1) := by decide +kernel
theorem dJ6_bitCount_0f7a4_41 : decode cJ6_bitCount_0f7a4 41 = .ok (.iload_n 0, 1) := by decide +kernel
theorem dJ6_bitCount_0f7a4_42 : decode cJ6_bitCount_0f7a4 42 = .ok (.iload_n 0, 1) := by decide +kernel
theorem dJ6_bitCount_0f7a4_43 : decode cJ6_bitCount_0f7a4 43 = .ok (.bipush 16, 2) := by decide +kernel
theorem dJ6_bitCount_0f7a4_45 : decode cJ6_bitCount_0f7a4 45 = .ok (.iushr, 1) := by decide +kernel
theorem dJ6_bitCount_0f7a4_46 : decode cJ6_bitCount_0f7a4 46 = .ok (.iadd, 1) := by decide +kernel
theorem dJ6_bitCount_0f7a4_47 : decode cJ6_bitCount_0f7a4 47 = .ok (.istore_n 0, 1) := by decide +kernel
theorem dJ6_bitCount_0f7a4_48 : decode cJ6_bitCount_0f7a4 48 = .ok (.iload_n 0, 1) := by decide +kernel
theorem dJ6_bitCount_0f7a4_49 : decode cJ6_bitCount_0f7a4 49 = .ok (.bipush 63, 2) := by decide +kernel
theorem dJ6_bitCount_0f7a4_51 : decode cJ6_bitCount_0f7a4 51 = .ok (.iand, 1) := by decide +kernel
theorem dJ6_bitCount_0f7a4_52 : decode cJ6_bitCount_0f7a4 52 = .ok (.ireturn, 1) := by decide +kernel
theorem dJ9_abs_0f7a4_0 : decode cJ9_abs_0f7a4 0 = .ok (.iload_n 0, 1) := by decide +kernel
theorem dJ9_abs_0f7a4_1 : decode cJ9_abs_0f7a4 1 = .ok (.ifCond .ge 8, 3) := by decide +kernel
theorem dJ9_abs_0f7a4_4 : decode cJ9_abs_0f7a4 4 = .ok (.iload_n 0, 1) := by decide +kernel
theorem dJ9_abs_0f7a4_5 : decode cJ9_abs_0f7a4 5 = .ok (.ineg, 1) := by decide +kernel
theorem dJ9_abs_0f7a4_6 : decode cJ9_abs_0f7a4 6 = .ok (.goto 4, 3) := by decide +kernel
theorem dJ9_abs_0f7a4_9 : decode cJ9_abs_0f7a4 9 = .ok (.iload_n 0, 1) := by decide +kernel
theorem dJ9_abs_0f7a4_10 : decode cJ9_abs_0f7a4 10 = .ok (.ireturn, 1) := by decide +kernel
theorem dJ9_max_7cf53_0 : decode cJ9_max_7cf53 0 = .ok (.iload_n 0, 1) := by decide +kernel
theorem dJ9_max_7cf53_1 : decode cJ9_max_7cf53 1 = .ok (.iload_n 1, 1) := by decide +kernel
theorem dJ9_max_7cf53_2 : decode cJ9_max_7cf53 2 = .ok (.if_icmp .lt 7, 3) := by decide +kernel
theorem dJ9_max_7cf53_5 : decode cJ9_max_7cf53 5 = .ok (.iload_n 0, 1) := by decide +kernel
theorem dJ9_max_7cf53_6 : decode cJ9_max_7cf53 6 = .ok (.goto 4, 3) := by decide +kernel
theorem dJ9_max_7cf53_9 : decode cJ9_max_7cf53 9 = .ok (.iload_n 1, 1) := by decide +kernel
theorem dJ9_max_7cf53_10 : decode cJ9_max_7cf53 10 = .ok (.ireturn, 1) := by decide +kernel
theorem dJ9_min_7cf53_0 : decode cJ9_min_7cf53 0 = .ok (.iload_n 0, 1) := by decide +kernel
theorem dJ9_min_7cf53_1 : decode cJ9_min_7cf53 1 = .ok (.iload_n 1, 1) := by decide +kernel
theorem dJ9_min_7cf53_2 : decode cJ9_min_7cf53 2 = .ok (.if_icmp .gt 7, 3) := by decide +kernel
theorem dJ9_min_7cf53_5 : decode cJ9_min_7cf53 5 = .ok (.iload_n 0, 1) := by decide +kernel
theorem dJ9_min_7cf53_6 : decode cJ9_min_7cf53 6 = .ok (.goto 4, 3) := by decide +kernel
theorem dJ9_min_7cf53_9 : decode cJ9_min_7cf53 9 = .ok (.iload_n 1, 1) := by decide +kernel
theorem dJ9_min_7cf53_10 : decode cJ9_min_7cf53 10 = .ok (.ireturn, 1) := by decide +kernel
theorem dL_law_0 : decode cL_law 0 = .ok (.new 7, 3) := by decide +kernel
theorem dL_law_3 : decode cL_law 3 = .ok (.dup, 1) := by decide +kernel
theorem dL_law_4 : decode cL_law 4 = .ok (.invokespecial 9, 3) := by decide +kernel
theorem dL_law_7 : decode cL_law 7 = .ok (.astore_n 1, 1) := by decide +kernel
theorem dL_law_8 : decode cL_law 8 = .ok (.new 10, 3) := by decide +kernel
theorem dL_law_11 : decode cL_law 11 = .ok (.dup, 1) := by decide +kernel
theorem dL_law_12 : decode cL_law 12 = .ok (.invokespecial 12, 3) := by decide +kernel
theorem dL_law_15 : decode cL_law 15 = .ok (.astore_n 2, 1) := by decide +kernel
theorem dL_law_16 : decode cL_law 16 = .ok (.iconst 0, 1) := by decide +kernel
theorem dL_law_17 : decode cL_law 17 = .ok (.istore_n 3, 1) := by decide +kernel
theorem dL_law_18 : decode cL_law 18 = .ok (.iload_n 3, 1) := by decide +kernel
theorem dL_law_19 : decode cL_law 19 = .ok (.aload_n 0, 1) := by decide +kernel
theorem dL_law_20 : decode cL_law 20 = .ok (.arraylength, 1) := by decide +kernel
theorem dL_law_21 : decode cL_law 21 = .ok (.bipush 8, 2) := by decide +kernel
theorem dL_law_23 : decode cL_law 23 = .ok (.isub, 1) := by decide +kernel
theorem dL_law_24 : decode cL_law 24 = .ok (.if_icmp .gt 1502, 3) := by decide +kernel
theorem dL_law_27 : decode cL_law 27 = .ok (.aload_n 0, 1) := by decide +kernel
theorem dL_law_28 : decode cL_law 28 = .ok (.iload_n 3, 1) := by decide +kernel
theorem dL_law_29 : decode cL_law 29 = .ok (.iaload, 1) := by decide +kernel
theorem dL_law_30 : decode cL_law 30 = .ok (.bipush 63, 2) := by decide +kernel
theorem dL_law_32 : decode cL_law 32 = .ok (.iand, 1) := by decide +kernel
theorem dL_law_33 : decode cL_law 33 = .ok (.tableswitch 1487 0 38 #[171, 214, 257, 320, 343, 366, 379, 392, 405, 428, 461, 484, 527, 570, 603, 636, 669, 702, 735, 778, 801, 834, 857, 880, 923, 946, 969, 1022, 1109, 1196, 1250, 1293, 1316, 1339, 1362, 1395, 1428, 1451, 1474], 171) := by decide +kernel
theorem dL_law_204 : decode cL_law 204 = .ok (.aload_n 1, 1) := by decide +kernel
theorem dL_law_205 : decode cL_law 205 = .ok (.aload_n 0, 1) := by decide +kernel
theorem dL_law_206 : decode cL_law 206 = .ok (.iload_n 3, 1) := by decide +kernel
theorem dL_law_207 : decode cL_law 207 = .ok (.iconst 1, 1) := by decide +kernel
theorem dL_law_208 : decode cL_law 208 = .ok (.iadd, 1) := by decide +kernel
theorem dL_law_209 : decode cL_law 209 = .ok (.iaload, 1) := by decide +kernel
theorem dL_law_210 : decode cL_law 210 = .ok (.aload_n 0, 1) := by decide +kernel
theorem dL_law_211 : decode cL_law 211 = .ok (.iload_n 3, 1) := by decide +kernel
theorem dL_law_212 : decode cL_law 212 = .ok (.iconst 2, 1) := by decide +kernel
theorem dL_law_213 : decode cL_law 213 = .ok (.iadd, 1) := by decide +kernel
theorem dL_law_214 : decode cL_law 214 = .ok (.iaload, 1) := by decide +kernel
theorem dL_law_215 : decode cL_law 215 = .ok (.aload_n 0, 1) := by decide +kernel
theorem dL_law_216 : decode cL_law 216 = .ok (.iload_n 3, 1) := by decide +kernel
theorem dL_law_217 : decode cL_law 217 = .ok (.iconst 3, 1) := by decide +kernel
theorem dL_law_218 : decode cL_law 218 = .ok (.iadd, 1) := by decide +kernel
theorem dL_law_219 : decode cL_law 219 = .ok (.iaload, 1) := by decide +kernel
theorem dL_law_220 : decode cL_law 220 = .ok (.invokevirtual 13, 3) := by decide +kernel
theorem dL_law_223 : decode cL_law 223 = .ok (.aload_n 2, 1) := by decide +kernel
theorem dL_law_224 : decode cL_law 224 = .ok (.aload_n 0, 1) := by decide +kernel
theorem dL_law_225 : decode cL_law 225 = .ok (.iload_n 3, 1) := by decide +kernel
theorem dL_law_226 : decode cL_law 226 = .ok (.iconst 1, 1) := by decide +kernel
theorem dL_law_227 : decode cL_law 227 = .ok (.iadd, 1) := by decide +kernel
theorem dL_law_228 : decode cL_law 228 = .ok (.iaload, 1) := by decide +kernel
theorem dL_law_229 : decode cL_law 229 = .ok (.aload_n 0, 1) := by decide +kernel
theorem dL_law_230 : decode cL_law 230 = .ok (.iload_n 3, 1) := by decide +kernel
theorem dL_law_231 : decode cL_law 231 = .ok (.iconst 2, 1) := by decide +kernel
theorem dL_law_232 : decode cL_law 232 = .ok (.iadd, 1) := by decide +kernel
theorem dL_law_233 : decode cL_law 233 = .ok (.iaload, 1) := by decide +kernel
theorem dL_law_234 : decode cL_law 234 = .ok (.aload_n 0, 1) := by decide +kernel
theorem dL_law_235 : decode cL_law 235 = .ok (.iload_n 3, 1) := by decide +kernel
theorem dL_law_236 : decode cL_law 236 = .ok (.iconst 3, 1) := by decide +kernel
theorem dL_law_237 : decode cL_law 237 = .ok (.iadd, 1) := by decide +kernel
theorem dL_law_238 : decode cL_law 238 = .ok (.iaload, 1) := by decide +kernel
theorem dL_law_239 : decode cL_law 239 = .ok (.invokevirtual 17, 3) := by decide +kernel
theorem dL_law_242 : decode cL_law 242 = .ok (.if_icmp .eq 1278, 3) := by decide +kernel
theorem dL_law_245 : decode cL_law 245 = .ok (.iconst 0, 1) := by decide +kernel
theorem dL_law_246 : decode cL_law 246 = .ok (.ireturn, 1) := by decide +kernel
theorem dL_law_247 : decode cL_law 247 = .ok (.aload_n 1, 1) := by decide +kernel
theorem dL_law_248 : decode cL_law 248 = .ok (.aload_n 0, 1) := by decide +kernel
theorem dL_law_249 : decode cL_law 249 = .ok (.iload_n 3, 1) := by decide +kernel
theorem dL_law_250 : decode cL_law 250 = .ok (.iconst 1, 1) := by decide +kernel
theorem dL_law_251 : decode cL_law 251 = .ok (.iadd, 1) := by decide +kernel
theorem dL_law_252 : decode cL_law 252 = .ok (.iaload, 1) := by decide +kernel
theorem dL_law_253 : decode cL_law 253 = .ok (.aload_n 0, 1) := by decide +kernel
theorem dL_law_254 : decode cL_law 254 = .ok (.iload_n 3, 1) := by decide +kernel
theorem dL_law_255 : decode cL_law 255 = .ok (.iconst 2, 1) := by decide +kernel
theorem dL_law_256 : decode cL_law 256 = .ok (.iadd, 1) := by decide +kernel
theorem dL_law_257 : decode cL_law 257 = .ok (.iaload, 1) := by decide +kernel
theorem dL_law_258 : decode cL_law 258 = .ok (.aload_n 0, 1) := by decide +kernel
theorem dL_law_259 : decode cL_law 259 = .ok (.iload_n 3, 1) := by decide +kernel
theorem dL_law_260 : decode cL_law 260 = .ok (.iconst 3, 1) := by decide +kernel
theorem dL_law_261 : decode cL_law 261 = .ok (.iadd, 1) := by decide +kernel
theorem dL_law_262 : decode cL_law 262 = .ok (.iaload, 1) := by decide +kernel
theorem dL_law_263 : decode cL_law 263 = .ok (.invokevirtual 18, 3) := by decide +kernel
theorem dL_law_266 : decode cL_law 266 = .ok (.aload_n 2, 1) := by decide +kernel
theorem dL_law_267 : decode cL_law 267 = .ok (.aload_n 0, 1) := by decide +kernel
theorem dL_law_268 : decode cL_law 268 = .ok (.iload_n 3, 1) := by decide +kernel
theorem dL_law_269 : decode cL_law 269 = .ok (.iconst 1, 1) := by decide +kernel
theorem dL_law_270 : decode cL_law 270 = .ok (.iadd, 1) := by decide +kernel
theorem dL_law_271 : decode cL_law 271 = .ok (.iaload, 1) := by decide +kernel
theorem dL_law_272 : decode cL_law 272 = .ok (.aload_n 0, 1) := by decide +kernel
theorem dL_law_273 : decode cL_law 273 = .ok (.iload_n 3, 1) := by decide +kernel
theorem dL_law_274 : decode cL_law 274 = .ok (.iconst 2, 1) := by decide +kernel
theorem dL_law_275 : decode cL_law 275 = .ok (.iadd, 1) := by decide +kernel
theorem dL_law_276 : decode cL_law 276 = .ok (.iaload, 1) := by decide +kernel
theorem dL_law_277 : decode cL_law 277 = .ok (.aload_n 0, 1) := by decide +kernel
theorem dL_law_278 : decode cL_law 278 = .ok (.iload_n 3, 1) := by decide +kernel
theorem dL_law_279 : decode cL_law 279 = .ok (.iconst 3, 1) := by decide +kernel
theorem dL_law_280 : decode cL_law 280 = .ok (.iadd, 1) := by decide +kernel
theorem dL_law_281 : decode cL_law 281 = .ok (.iaload, 1) := by decide +kernel
theorem dL_law_282 : decode cL_law 282 = .ok (.invokevirtual 21, 3) := by decide +kernel
theorem dL_law_285 : decode cL_law 285 = .ok (.if_icmp .eq 1235, 3) := by decide +kernel
theorem dL_law_288 : decode cL_law 288 = .ok (.iconst 0, 1) := by decide +kernel
theorem dL_law_289 : decode cL_law 289 = .ok (.ireturn, 1) := by decide +kernel
theorem dL_law_290 : decode cL_law 290 = .ok (.aload_n 1, 1) := by decide +kernel
theorem dL_law_291 : decode cL_law 291 = .ok (.aload_n 0, 1) := by decide +kernel
theorem dL_law_292 : decode cL_law 292 = .ok (.iload_n 3, 1) := by decide +kernel
theorem dL_law_293 : decode cL_law 293 = .ok (.iconst 1, 1) := by decide +kernel
theorem dL_law_294 : decode cL_law 294 = .ok (.iadd, 1) := by decide +kernel
theorem dL_law_295 : decode cL_law 295 = .ok (.iaload, 1) := by decide +kernel
theorem dL_law_296 : decode cL_law 296 = .ok (.aload_n 0, 1) := by decide +kernel
theorem dL_law_297 : decode cL_law 297 = .ok (.iload_n 3, 1) := by decide +kernel
theorem dL_law_298 : decode cL_law 298 = .ok (.iconst 2, 1) := by decide +kernel
theorem dL_law_299 : decode cL_law 299 = .ok (.iadd, 1) := by decide +kernel
theorem dL_law_300 : decode cL_law 300 = .ok (.iaload, 1) := by decide +kernel
theorem dL_law_301 : decode cL_law 301 = .ok (.aload_n 0, 1) := by decide +kernel
theorem dL_law_302 : decode cL_law 302 = .ok (.iload_n 3, 1) := by decide +kernel
theorem dL_law_303 : decode cL_law 303 = .ok (.iconst 3, 1) := by decide +kernel
theorem dL_law_304 : decode cL_law 304 = .ok (.iadd, 1) := by decide +kernel
theorem dL_law_305 : decode cL_law 305 = .ok (.iaload, 1) := by decide +kernel
theorem dL_law_306 : decode cL_law 306 = .ok (.aload_n 0, 1) := by decide +kernel
theorem dL_law_307 : decode cL_law 307 = .ok (.iload_n 3, 1) := by decide +kernel
theorem dL_law_308 : decode cL_law 308 = .ok (.iconst 4, 1) := by decide +kernel
theorem dL_law_309 : decode cL_law 309 = .ok (.iadd, 1) := by decide +kernel
theorem dL_law_310 : decode cL_law 310 = .ok (.iaload, 1) := by decide +kernel
theorem dL_law_311 : decode cL_law 311 = .ok (.aload_n 0, 1) := by decide +kernel
theorem dL_law_312 : decode cL_law 312 = .ok (.iload_n 3, 1) := by decide +kernel
theorem dL_law_313 : decode cL_law 313 = .ok (.iconst 5, 1) := by decide +kernel
theorem dL_law_314 : decode cL_law 314 = .ok (.iadd, 1) := by decide +kernel
theorem dL_law_315 : decode cL_law 315 = .ok (.iaload, 1) := by decide +kernel
theorem dL_law_316 : decode cL_law 316 = .ok (.invokevirtual 22, 3) := by decide +kernel
theorem dL_law_319 : decode cL_law 319 = .ok (.aload_n 2, 1) := by decide +kernel
theorem dL_law_320 : decode cL_law 320 = .ok (.aload_n 0, 1) := by decide +kernel
theorem dL_law_321 : decode cL_law 321 = .ok (.iload_n 3, 1) := by decide +kernel
theorem dL_law_322 : decode cL_law 322 = .ok (.iconst 1, 1) := by decide +kernel
theorem dL_law_323 : decode cL_law 323 = .ok (.iadd, 1) := by decide +kernel
theorem dL_law_324 : decode cL_law 324 = .ok (.iaload, 1) := by decide +kernel
theorem dL_law_325 : decode cL_law 325 = .ok (.aload_n 0, 1) := by decide +kernel
theorem dL_law_326 : decode cL_law 326 = .ok (.iload_n 3, 1) := by decide +kernel
theorem dL_law_327 : decode cL_law 327 = .ok (.iconst 2, 1) := by decide +kernel
theorem dL_law_328 : decode cL_law 328 = .ok (.iadd, 1) := by decide +kernel
theorem dL_law_329 : decode cL_law 329 = .ok (.iaload, 1) := by decide +kernel
theorem dL_law_330 : decode cL_law 330 = .ok (.aload_n 0, 1) := by decide +kernel
theorem dL_law_331 : decode cL_law 331 = .ok (.iload_n 3, 1) := by decide +kernel
theorem dL_law_332 : decode cL_law 332 = .ok (.iconst 3, 1) := by decide +kernel
theorem dL_law_333 : decode cL_law 333 = .ok (.iadd, 1) := by decide +kernel
theorem dL_law_334 : decode cL_law 334 = .ok (.iaload, 1) := by decide +kernel
theorem dL_law_335 : decode cL_law 335 = .ok (.aload_n 0, 1) := by decide +kernel
theorem dL_law_336 : decode cL_law 336 = .ok (.iload_n 3, 1) := by decide +kernel
theorem dL_law_337 : decode cL_law 337 = .ok (.iconst 4, 1) := by decide +kernel
theorem dL_law_338 : decode cL_law 338 = .ok (.iadd, 1) := by decide +kernel
theorem dL_law_339 : decode cL_law 339 = .ok (.iaload, 1) := by decide +kernel
theorem dL_law_340 : decode cL_law 340 = .ok (.aload_n 0, 1) := by decide +kernel
theorem dL_law_341 : decode cL_law 341 = .ok (.iload_n 3, 1) := by decide +kernel
theorem dL_law_342 : decode cL_law 342 = .ok (.iconst 5, 1) := by decide +kernel
theorem dL_law_343 : decode cL_law 343 = .ok (.iadd, 1) := by decide +kernel
theorem dL_law_344 : decode cL_law 344 = .ok (.iaload, 1) := by decide +kernel
theorem dL_law_345 : decode cL_law 345 = .ok (.invokevirtual 26, 3) := by decide +kernel
theorem dL_law_348 : decode cL_law 348 = .ok (.if_icmp .eq 1172, 3) := by decide +kernel
theorem dL_law_351 : decode cL_law 351 = .ok (.iconst 0, 1) := by decide +kernel
theorem dL_law_352 : decode cL_law 352 = .ok (.ireturn, 1) := by decide +kernel
theorem dL_law_353 : decode cL_law 353 = .ok (.aload_n 1, 1) := by decide +kernel
theorem dL_law_354 : decode cL_law 354 = .ok (.aload_n 0, 1) := by decide +kernel
theorem dL_law_355 : decode cL_law 355 = .ok (.iload_n 3, 1) := by decide +kernel
theorem dL_law_356 : decode cL_law 356 = .ok (.iconst 1, 1) := by decide +kernel
theorem dL_law_357 : decode cL_law 357 = .ok (.iadd, 1) := by decide +kernel
theorem dL_law_358 : decode cL_law 358 = .ok (.iaload, 1) := by decide +kernel
theorem dL_law_359 : decode cL_law 359 = .ok (.invokevirtual 27, 3) := by decide +kernel
theorem dL_law_362 : decode cL_law 362 = .ok (.aload_n 2, 1) := by decide +kernel
theorem dL_law_363 : decode cL_law 363 = .ok (.aload_n 0, 1) := by decide +kernel
theorem dL_law_364 : decode cL_law 364 = .ok (.iload_n 3, 1) := by decide +kernel
theorem dL_law_365 : decode cL_law 365 = .ok (.iconst 1, 1) := by decide +kernel
theorem dL_law_366 : decode cL_law 366 = .ok (.iadd, 1) := by decide +kernel
theorem dL_law_367 : decode cL_law 367 = .ok (.iaload, 1) := by decide +kernel
theorem dL_law_368 : decode cL_law 368 = .ok (.invokevirtual 31, 3) := by decide +kernel
theorem dL_law_371 : decode cL_law 371 = .ok (.if_icmp .eq 1149, 3) := by decide +kernel
theorem dL_law_374 : decode cL_law 374 = .ok (.iconst 0, 1) := by decide +kernel
theorem dL_law_375 : decode cL_law 375 = .ok (.ireturn, 1) := by decide +kernel
theorem dL_law_376 : decode cL_law 376 = .ok (.aload_n 1, 1) := by decide +kernel
theorem dL_law_377 : decode cL_law 377 = .ok (.aload_n 0, 1) := by decide +kernel
theorem dL_law_378 : decode cL_law 378 = .ok (.iload_n 3, 1) := by decide +kernel
theorem dL_law_379 : decode cL_law 379 = .ok (.iconst 1, 1) := by decide +kernel
theorem dL_law_380 : decode cL_law 380 = .ok (.iadd, 1) := by decide +kernel
theorem dL_law_381 : decode cL_law 381 = .ok (.iaload, 1) := by decide +kernel
theorem dL_law_382 : decode cL_law 382 = .ok (.invokevirtual 32, 3) := by decide +kernel
theorem dL_law_385 : decode cL_law 385 = .ok (.aload_n 2, 1) := by decide +kernel
theorem dL_law_386 : decode cL_law 386 = .ok (.aload_n 0, 1) := by decide +kernel
theorem dL_law_387 : decode cL_law 387 = .ok (.iload_n 3, 1) := by decide +kernel
