theorem dX7_readWalker_58 : decode cX7_readWalker 58 = .ok (.iload_n 1, 1) := by decide +kernel
theorem dX7_readWalker_59 : decode cX7_readWalker 59 = .ok (.iadd, 1) := by decide +kernel
theorem dX7_readWalker_60 : decode cX7_readWalker 60 = .ok (.bipush 44, 2) := by decide +kernel
theorem dX7_readWalker_62 : decode cX7_readWalker 62 = .ok (.invokevirtual 117, 3) := by decide +kernel
theorem dX7_readWalker_65 : decode cX7_readWalker 65 = .ok (.ifCond .eq 53, 3) := by decide +kernel
theorem dX7_readWalker_68 : decode cX7_readWalker 68 = .ok (.aload_n 0, 1) := by decide +kernel
theorem dX7_readWalker_69 : decode cX7_readWalker 69 = .ok (.iconst 0, 1) := by decide +kernel
theorem dX7_readWalker_70 : decode cX7_readWalker 70 = .ok (.iload_n 2, 1) := by decide +kernel
theorem dX7_readWalker_71 : decode cX7_readWalker 71 = .ok (.bipush 34, 2) := by decide +kernel
theorem dX7_readWalker_73 : decode cX7_readWalker 73 = .ok (.iload_n 1, 1) := by decide +kernel
theorem dX7_readWalker_74 : decode cX7_readWalker 74 = .ok (.iadd, 1) := by decide +kernel
theorem dX7_readWalker_75 : decode cX7_readWalker 75 = .ok (.bipush 44, 2) := by decide +kernel
theorem dX7_readWalker_77 : decode cX7_readWalker 77 = .ok (.invokevirtual 117, 3) := by decide +kernel
theorem dX7_readWalker_80 : decode cX7_readWalker 80 = .ok (.ifCond .eq 38, 3) := by decide +kernel
theorem dX7_readWalker_83 : decode cX7_readWalker 83 = .ok (.aload_n 0, 1) := by decide +kernel
theorem dX7_readWalker_84 : decode cX7_readWalker 84 = .ok (.iconst 1, 1) := by decide +kernel
theorem dX7_readWalker_85 : decode cX7_readWalker 85 = .ok (.iconst 3, 1) := by decide +kernel
theorem dX7_readWalker_86 : decode cX7_readWalker 86 = .ok (.bipush 39, 2) := by decide +kernel
theorem dX7_readWalker_88 : decode cX7_readWalker 88 = .ok (.iload_n 1, 1) := by decide +kernel
theorem dX7_readWalker_89 : decode cX7_readWalker 89 = .ok (.iadd, 1) := by decide +kernel
theorem dX7_readWalker_90 : decode cX7_readWalker 90 = .ok (.bipush 44, 2) := by decide +kernel
theorem dX7_readWalker_92 : decode cX7_readWalker 92 = .ok (.invokevirtual 117, 3) := by decide +kernel
theorem dX7_readWalker_95 : decode cX7_readWalker 95 = .ok (.ifCond .eq 23, 3) := by decide +kernel
theorem dX7_readWalker_98 : decode cX7_readWalker 98 = .ok (.aload_n 0, 1) := by decide +kernel
theorem dX7_readWalker_99 : decode cX7_readWalker 99 = .ok (.iconst 0, 1) := by decide +kernel
theorem dX7_readWalker_100 : decode cX7_readWalker 100 = .ok (.bipush 20, 2) := by decide +kernel
theorem dX7_readWalker_102 : decode cX7_readWalker 102 = .ok (.bipush 44, 2) := by decide +kernel
theorem dX7_readWalker_104 : decode cX7_readWalker 104 = .ok (.iload_n 1, 1) := by decide +kernel
theorem dX7_readWalker_105 : decode cX7_readWalker 105 = .ok (.iadd, 1) := by decide +kernel
theorem dX7_readWalker_106 : decode cX7_readWalker 106 = .ok (.bipush 59, 2) := by decide +kernel
theorem dX7_readWalker_108 : decode cX7_readWalker 108 = .ok (.invokevirtual 117, 3) := by decide +kernel
theorem dX7_readWalker_111 : decode cX7_readWalker 111 = .ok (.ifCond .eq 7, 3) := by decide +kernel
theorem dX7_readWalker_114 : decode cX7_readWalker 114 = .ok (.iconst 1, 1) := by decide +kernel
theorem dX7_readWalker_115 : decode cX7_readWalker 115 = .ok (.goto 4, 3) := by decide +kernel
theorem dX7_readWalker_118 : decode cX7_readWalker 118 = .ok (.iconst 0, 1) := by decide +kernel
theorem dX7_readWalker_119 : decode cX7_readWalker 119 = .ok (.ireturn, 1) := by decide +kernel
theorem dX7_kindBy_0 : decode cX7_kindBy 0 = .ok (.iload_n 0, 1) := by decide +kernel
theorem dX7_kindBy_1 : decode cX7_kindBy 1 = .ok (.bipush 112, 2) := by decide +kernel
theorem dX7_kindBy_3 : decode cX7_kindBy 3 = .ok (.if_icmp .ne 7, 3) := by decide +kernel
theorem dX7_kindBy_6 : decode cX7_kindBy 6 = .ok (.iconst 1, 1) := by decide +kernel
theorem dX7_kindBy_7 : decode cX7_kindBy 7 = .ok (.goto 44, 3) := by decide +kernel
theorem dX7_kindBy_10 : decode cX7_kindBy 10 = .ok (.iload_n 0, 1) := by decide +kernel
theorem dX7_kindBy_11 : decode cX7_kindBy 11 = .ok (.bipush 115, 2) := by decide +kernel
theorem dX7_kindBy_13 : decode cX7_kindBy 13 = .ok (.if_icmp .ne 7, 3) := by decide +kernel
theorem dX7_kindBy_16 : decode cX7_kindBy 16 = .ok (.iconst 2, 1) := by decide +kernel
theorem dX7_kindBy_17 : decode cX7_kindBy 17 = .ok (.goto 34, 3) := by decide +kernel
theorem dX7_kindBy_20 : decode cX7_kindBy 20 = .ok (.iload_n 0, 1) := by decide +kernel
theorem dX7_kindBy_21 : decode cX7_kindBy 21 = .ok (.bipush 108, 2) := by decide +kernel
theorem dX7_kindBy_23 : decode cX7_kindBy 23 = .ok (.if_icmp .ne 7, 3) := by decide +kernel
theorem dX7_kindBy_26 : decode cX7_kindBy 26 = .ok (.iconst 3, 1) := by decide +kernel
theorem dX7_kindBy_27 : decode cX7_kindBy 27 = .ok (.goto 24, 3) := by decide +kernel
theorem dX7_kindBy_30 : decode cX7_kindBy 30 = .ok (.iload_n 0, 1) := by decide +kernel
theorem dX7_kindBy_31 : decode cX7_kindBy 31 = .ok (.bipush 114, 2) := by decide +kernel
theorem dX7_kindBy_33 : decode cX7_kindBy 33 = .ok (.if_icmp .ne 7, 3) := by decide +kernel
theorem dX7_kindBy_36 : decode cX7_kindBy 36 = .ok (.iconst 4, 1) := by decide +kernel
theorem dX7_kindBy_37 : decode cX7_kindBy 37 = .ok (.goto 14, 3) := by decide +kernel
theorem dX7_kindBy_40 : decode cX7_kindBy 40 = .ok (.iload_n 0, 1) := by decide +kernel
theorem dX7_kindBy_41 : decode cX7_kindBy 41 = .ok (.bipush 102, 2) := by decide +kernel
theorem dX7_kindBy_43 : decode cX7_kindBy 43 = .ok (.if_icmp .ne 7, 3) := by decide +kernel
theorem dX7_kindBy_46 : decode cX7_kindBy 46 = .ok (.iconst 5, 1) := by decide +kernel
theorem dX7_kindBy_47 : decode cX7_kindBy 47 = .ok (.goto 4, 3) := by decide +kernel
theorem dX7_kindBy_50 : decode cX7_kindBy 50 = .ok (.iconst 0, 1) := by decide +kernel
theorem dX7_kindBy_51 : decode cX7_kindBy 51 = .ok (.ireturn, 1) := by decide +kernel
theorem dX7_readTown_0 : decode cX7_readTown 0 = .ok (.aload_n 0, 1) := by decide +kernel
theorem dX7_readTown_1 : decode cX7_readTown 1 = .ok (.iconst 0, 1) := by decide +kernel
theorem dX7_readTown_2 : decode cX7_readTown 2 = .ok (.putfield 82, 3) := by decide +kernel
theorem dX7_readTown_5 : decode cX7_readTown 5 = .ok (.iconst 0, 1) := by decide +kernel
theorem dX7_readTown_6 : decode cX7_readTown 6 = .ok (.istore_n 1, 1) := by decide +kernel
theorem dX7_readTown_7 : decode cX7_readTown 7 = .ok (.iload_n 1, 1) := by decide +kernel
theorem dX7_readTown_8 : decode cX7_readTown 8 = .ok (.bipush 49, 2) := by decide +kernel
theorem dX7_readTown_10 : decode cX7_readTown 10 = .ok (.if_icmp .ge 16, 3) := by decide +kernel
theorem dX7_readTown_13 : decode cX7_readTown 13 = .ok (.aload_n 0, 1) := by decide +kernel
theorem dX7_readTown_14 : decode cX7_readTown 14 = .ok (.getfield 28, 3) := by decide +kernel
theorem dX7_readTown_17 : decode cX7_readTown 17 = .ok (.iload_n 1, 1) := by decide +kernel
theorem dX7_readTown_18 : decode cX7_readTown 18 = .ok (.iconst 0, 1) := by decide +kernel
theorem dX7_readTown_19 : decode cX7_readTown 19 = .ok (.iastore, 1) := by decide +kernel
theorem dX7_readTown_20 : decode cX7_readTown 20 = .ok (.iinc 1 1, 3) := by decide +kernel
theorem dX7_readTown_23 : decode cX7_readTown 23 = .ok (.goto (-16), 3) := by decide +kernel
theorem dX7_readTown_26 : decode cX7_readTown 26 = .ok (.aload_n 0, 1) := by decide +kernel
theorem dX7_readTown_27 : decode cX7_readTown 27 = .ok (.invokevirtual 111, 3) := by decide +kernel
theorem dX7_readTown_30 : decode cX7_readTown 30 = .ok (.aload_n 0, 1) := by decide +kernel
theorem dX7_readTown_31 : decode cX7_readTown 31 = .ok (.bipush 116, 2) := by decide +kernel
theorem dX7_readTown_33 : decode cX7_readTown 33 = .ok (.invokevirtual 114, 3) := by decide +kernel
theorem dX7_readTown_36 : decode cX7_readTown 36 = .ok (.ifCond .eq 29, 3) := by decide +kernel
theorem dX7_readTown_39 : decode cX7_readTown 39 = .ok (.aload_n 0, 1) := by decide +kernel
theorem dX7_readTown_40 : decode cX7_readTown 40 = .ok (.iconst 0, 1) := by decide +kernel
theorem dX7_readTown_41 : decode cX7_readTown 41 = .ok (.bipush 15, 2) := by decide +kernel
theorem dX7_readTown_43 : decode cX7_readTown 43 = .ok (.iconst 2, 1) := by decide +kernel
theorem dX7_readTown_44 : decode cX7_readTown 44 = .ok (.bipush 44, 2) := by decide +kernel
theorem dX7_readTown_46 : decode cX7_readTown 46 = .ok (.invokevirtual 117, 3) := by decide +kernel
theorem dX7_readTown_49 : decode cX7_readTown 49 = .ok (.ifCond .eq 16, 3) := by decide +kernel
theorem dX7_readTown_52 : decode cX7_readTown 52 = .ok (.aload_n 0, 1) := by decide +kernel
theorem dX7_readTown_53 : decode cX7_readTown 53 = .ok (.iconst 0, 1) := by decide +kernel
theorem dX7_readTown_54 : decode cX7_readTown 54 = .ok (.bipush 9, 2) := by decide +kernel
theorem dX7_readTown_56 : decode cX7_readTown 56 = .ok (.iconst 3, 1) := by decide +kernel
theorem dX7_readTown_57 : decode cX7_readTown 57 = .ok (.bipush 59, 2) := by decide +kernel
theorem dX7_readTown_59 : decode cX7_readTown 59 = .ok (.invokevirtual 117, 3) := by decide +kernel
theorem dX7_readTown_62 : decode cX7_readTown 62 = .ok (.ifCond .ne 5, 3) := by decide +kernel
theorem dX7_readTown_65 : decode cX7_readTown 65 = .ok (.iconst 0, 1) := by decide +kernel
theorem dX7_readTown_66 : decode cX7_readTown 66 = .ok (.ireturn, 1) := by decide +kernel
theorem dX7_readTown_67 : decode cX7_readTown 67 = .ok (.iconst 1, 1) := by decide +kernel
theorem dX7_readTown_68 : decode cX7_readTown 68 = .ok (.istore_n 1, 1) := by decide +kernel
theorem dX7_readTown_69 : decode cX7_readTown 69 = .ok (.iload_n 1, 1) := by decide +kernel
theorem dX7_readTown_70 : decode cX7_readTown 70 = .ok (.ifCond .eq 77, 3) := by decide +kernel
theorem dX7_readTown_73 : decode cX7_readTown 73 = .ok (.aload_n 0, 1) := by decide +kernel
theorem dX7_readTown_74 : decode cX7_readTown 74 = .ok (.getfield 88, 3) := by decide +kernel
theorem dX7_readTown_77 : decode cX7_readTown 77 = .ok (.iconst 3, 1) := by decide +kernel
theorem dX7_readTown_78 : decode cX7_readTown 78 = .ok (.if_icmp .ne 12, 3) := by decide +kernel
theorem dX7_readTown_81 : decode cX7_readTown 81 = .ok (.aload_n 0, 1) := by decide +kernel
theorem dX7_readTown_82 : decode cX7_readTown 82 = .ok (.getfield 28, 3) := by decide +kernel
theorem dX7_readTown_85 : decode cX7_readTown 85 = .ok (.iconst 1, 1) := by decide +kernel
theorem dX7_readTown_86 : decode cX7_readTown 86 = .ok (.iaload, 1) := by decide +kernel
theorem dX7_readTown_87 : decode cX7_readTown 87 = .ok (.ifCond .ne 60, 3) := by decide +kernel
theorem dX7_readTown_90 : decode cX7_readTown 90 = .ok (.aload_n 0, 1) := by decide +kernel
theorem dX7_readTown_91 : decode cX7_readTown 91 = .ok (.getfield 88, 3) := by decide +kernel
theorem dX7_readTown_94 : decode cX7_readTown 94 = .ok (.iconst 1, 1) := by decide +kernel
theorem dX7_readTown_95 : decode cX7_readTown 95 = .ok (.if_icmp .ne 13, 3) := by decide +kernel
theorem dX7_readTown_98 : decode cX7_readTown 98 = .ok (.aload_n 0, 1) := by decide +kernel
theorem dX7_readTown_99 : decode cX7_readTown 99 = .ok (.getfield 91, 3) := by decide +kernel
theorem dX7_readTown_102 : decode cX7_readTown 102 = .ok (.invokestatic 121, 3) := by decide +kernel
theorem dX7_readTown_105 : decode cX7_readTown 105 = .ok (.goto 4, 3) := by decide +kernel
theorem dX7_readTown_108 : decode cX7_readTown 108 = .ok (.iconst 0, 1) := by decide +kernel
theorem dX7_readTown_109 : decode cX7_readTown 109 = .ok (.istore_n 2, 1) := by decide +kernel
theorem dX7_readTown_110 : decode cX7_readTown 110 = .ok (.iload_n 2, 1) := by decide +kernel
theorem dX7_readTown_111 : decode cX7_readTown 111 = .ok (.ifCond .le 11, 3) := by decide +kernel
theorem dX7_readTown_114 : decode cX7_readTown 114 = .ok (.aload_n 0, 1) := by decide +kernel
theorem dX7_readTown_115 : decode cX7_readTown 115 = .ok (.iload_n 2, 1) := by decide +kernel
theorem dX7_readTown_116 : decode cX7_readTown 116 = .ok (.invokevirtual 124, 3) := by decide +kernel
theorem dX7_readTown_119 : decode cX7_readTown 119 = .ok (.goto 24, 3) := by decide +kernel
theorem dX7_readTown_122 : decode cX7_readTown 122 = .ok (.aload_n 0, 1) := by decide +kernel
theorem dX7_readTown_123 : decode cX7_readTown 123 = .ok (.bipush 122, 2) := by decide +kernel
theorem dX7_readTown_125 : decode cX7_readTown 125 = .ok (.invokevirtual 105, 3) := by decide +kernel
theorem dX7_readTown_128 : decode cX7_readTown 128 = .ok (.ifCond .eq 10, 3) := by decide +kernel
theorem dX7_readTown_131 : decode cX7_readTown 131 = .ok (.aload_n 0, 1) := by decide +kernel
theorem dX7_readTown_132 : decode cX7_readTown 132 = .ok (.invokevirtual 127, 3) := by decide +kernel
theorem dX7_readTown_135 : decode cX7_readTown 135 = .ok (.goto 8, 3) := by decide +kernel
theorem dX7_readTown_138 : decode cX7_readTown 138 = .ok (.aload_n 0, 1) := by decide +kernel
theorem dX7_readTown_139 : decode cX7_readTown 139 = .ok (.iconst 1, 1) := by decide +kernel
theorem dX7_readTown_140 : decode cX7_readTown 140 = .ok (.invokevirtual 108, 3) := by decide +kernel
theorem dX7_readTown_143 : decode cX7_readTown 143 = .ok (.istore_n 1, 1) := by decide +kernel
theorem dX7_readTown_144 : decode cX7_readTown 144 = .ok (.goto (-75), 3) := by decide +kernel
theorem dX7_readTown_147 : decode cX7_readTown 147 = .ok (.iload_n 1, 1) := by decide +kernel
theorem dX7_readTown_148 : decode cX7_readTown 148 = .ok (.ireturn, 1) := by decide +kernel
theorem dX7_town_0 : decode cX7_town 0 = .ok (.aload_n 0, 1) := by decide +kernel
theorem dX7_town_1 : decode cX7_town 1 = .ok (.invokevirtual 131, 3) := by decide +kernel
theorem dX7_town_4 : decode cX7_town 4 = .ok (.istore_n 1, 1) := by decide +kernel
theorem dX7_town_5 : decode cX7_town 5 = .ok (.aload_n 0, 1) := by decide +kernel
theorem dX7_town_6 : decode cX7_town 6 = .ok (.iconst 0, 1) := by decide +kernel
theorem dX7_town_7 : decode cX7_town 7 = .ok (.putfield 78, 3) := by decide +kernel
theorem dX7_town_10 : decode cX7_town 10 = .ok (.iload_n 1, 1) := by decide +kernel
theorem dX7_town_11 : decode cX7_town 11 = .ok (.ifCond .ne 19, 3) := by decide +kernel
theorem dX7_town_14 : decode cX7_town 14 = .ok (.aload_n 0, 1) := by decide +kernel
theorem dX7_town_15 : decode cX7_town 15 = .ok (.aload_n 0, 1) := by decide +kernel
theorem dX7_town_16 : decode cX7_town 16 = .ok (.getfield 102, 3) := by decide +kernel
theorem dX7_town_19 : decode cX7_town 19 = .ok (.putfield 134, 3) := by decide +kernel
theorem dX7_town_22 : decode cX7_town 22 = .ok (.ldc 137, 2) := by decide +kernel
theorem dX7_town_24 : decode cX7_town 24 = .ok (.aload_n 0, 1) := by decide +kernel
theorem dX7_town_25 : decode cX7_town 25 = .ok (.getfield 85, 3) := by decide +kernel
theorem dX7_town_28 : decode cX7_town 28 = .ok (.isub, 1) := by decide +kernel
theorem dX7_town_29 : decode cX7_town 29 = .ok (.ireturn, 1) := by decide +kernel
theorem dX7_town_30 : decode cX7_town 30 = .ok (.iconst 0, 1) := by decide +kernel
theorem dX7_town_31 : decode cX7_town 31 = .ok (.istore_n 2, 1) := by decide +kernel
theorem dX7_town_32 : decode cX7_town 32 = .ok (.iload_n 2, 1) := by decide +kernel
theorem dX7_town_33 : decode cX7_town 33 = .ok (.bipush 49, 2) := by decide +kernel
theorem dX7_town_35 : decode cX7_town 35 = .ok (.if_icmp .ge 21, 3) := by decide +kernel
theorem dX7_town_38 : decode cX7_town 38 = .ok (.aload_n 0, 1) := by decide +kernel
theorem dX7_town_39 : decode cX7_town 39 = .ok (.getfield 19, 3) := by decide +kernel
theorem dX7_town_42 : decode cX7_town 42 = .ok (.iload_n 2, 1) := by decide +kernel
theorem dX7_town_43 : decode cX7_town 43 = .ok (.aload_n 0, 1) := by decide +kernel
theorem dX7_town_44 : decode cX7_town 44 = .ok (.getfield 28, 3) := by decide +kernel
theorem dX7_town_47 : decode cX7_town 47 = .ok (.iload_n 2, 1) := by decide +kernel
theorem dX7_town_48 : decode cX7_town 48 = .ok (.iaload, 1) := by decide +kernel
theorem dX7_town_49 : decode cX7_town 49 = .ok (.iastore, 1) := by decide +kernel
theorem dX7_town_50 : decode cX7_town 50 = .ok (.iinc 2 1, 3) := by decide +kernel
theorem dX7_town_53 : decode cX7_town 53 = .ok (.goto (-21), 3) := by decide +kernel
theorem dX7_town_56 : decode cX7_town 56 = .ok (.aload_n 0, 1) := by decide +kernel
theorem dX7_town_57 : decode cX7_town 57 = .ok (.iconst 1, 1) := by decide +kernel
theorem dX7_town_58 : decode cX7_town 58 = .ok (.putfield 138, 3) := by decide +kernel
theorem dX7_town_61 : decode cX7_town 61 = .ok (.aload_n 0, 1) := by decide +kernel
theorem dX7_town_62 : decode cX7_town 62 = .ok (.iconst 0, 1) := by decide +kernel
theorem dX7_town_63 : decode cX7_town 63 = .ok (.putfield 142, 3) := by decide +kernel
theorem dX7_town_66 : decode cX7_town 66 = .ok (.aload_n 0, 1) := by decide +kernel
theorem dX7_town_67 : decode cX7_town 67 = .ok (.getfield 19, 3) := by decide +kernel
theorem dX7_town_70 : decode cX7_town 70 = .ok (.iconst 0, 1) := by decide +kernel
theorem dX7_town_71 : decode cX7_town 71 = .ok (.iaload, 1) := by decide +kernel
theorem dX7_town_72 : decode cX7_town 72 = .ok (.ireturn, 1) := by decide +kernel
theorem dX7_fault_0 : decode cX7_fault 0 = .ok (.aload_n 0, 1) := by decide +kernel
theorem dX7_fault_1 : decode cX7_fault 1 = .ok (.getfield 134, 3) := by decide +kernel
theorem dX7_fault_4 : decode cX7_fault 4 = .ok (.ireturn, 1) := by decide +kernel
theorem dX7_isTread_0 : decode cX7_isTread 0 = .ok (.iload_n 1, 1) := by decide +kernel
theorem dX7_isTread_1 : decode cX7_isTread 1 = .ok (.i2l, 1) := by decide +kernel
theorem dX7_isTread_2 : decode cX7_isTread 2 = .ok (.lconst 0, 1) := by decide +kernel
theorem dX7_isTread_3 : decode cX7_isTread 3 = .ok (.aload_n 0, 1) := by decide +kernel
theorem dX7_isTread_4 : decode cX7_isTread 4 = .ok (.getfield 19, 3) := by decide +kernel
theorem dX7_isTread_7 : decode cX7_isTread 7 = .ok (.iconst 0, 1) := by decide +kernel
theorem dX7_isTread_8 : decode cX7_isTread 8 = .ok (.iaload, 1) := by decide +kernel
theorem dX7_isTread_9 : decode cX7_isTread 9 = .ok (.iconst 1, 1) := by decide +kernel
theorem dX7_isTread_10 : decode cX7_isTread 10 = .ok (.isub, 1) := by decide +kernel
theorem dX7_isTread_11 : decode cX7_isTread 11 = .ok (.i2l, 1) := by decide +kernel
theorem dX7_isTread_12 : decode cX7_isTread 12 = .ok (.invokestatic 54, 3) := by decide +kernel
theorem dX7_isTread_15 : decode cX7_isTread 15 = .ok (.ireturn, 1) := by decide +kernel
theorem dX7_isWalker_0 : decode cX7_isWalker 0 = .ok (.iload_n 1, 1) := by decide +kernel
theorem dX7_isWalker_1 : decode cX7_isWalker 1 = .ok (.i2l, 1) := by decide +kernel
theorem dX7_isWalker_2 : decode cX7_isWalker 2 = .ok (.lconst 0, 1) := by decide +kernel
theorem dX7_isWalker_3 : decode cX7_isWalker 3 = .ok (.aload_n 0, 1) := by decide +kernel
theorem dX7_isWalker_4 : decode cX7_isWalker 4 = .ok (.getfield 19, 3) := by decide +kernel
theorem dX7_isWalker_7 : decode cX7_isWalker 7 = .ok (.iconst 1, 1) := by decide +kernel
theorem dX7_isWalker_8 : decode cX7_isWalker 8 = .ok (.iaload, 1) := by decide +kernel
theorem dX7_isWalker_9 : decode cX7_isWalker 9 = .ok (.iconst 1, 1) := by decide +kernel
theorem dX7_isWalker_10 : decode cX7_isWalker 10 = .ok (.isub, 1) := by decide +kernel
theorem dX7_isWalker_11 : decode cX7_isWalker 11 = .ok (.i2l, 1) := by decide +kernel
theorem dX7_isWalker_12 : decode cX7_isWalker 12 = .ok (.invokestatic 54, 3) := by decide +kernel
theorem dX7_isWalker_15 : decode cX7_isWalker 15 = .ok (.ireturn, 1) := by decide +kernel
theorem dX7_isMinute_0 : decode cX7_isMinute 0 = .ok (.iload_n 0, 1) := by decide +kernel
theorem dX7_isMinute_1 : decode cX7_isMinute 1 = .ok (.i2l, 1) := by decide +kernel
theorem dX7_isMinute_2 : decode cX7_isMinute 2 = .ok (.lconst 0, 1) := by decide +kernel
theorem dX7_isMinute_3 : decode cX7_isMinute 3 = .ok (.ldc2_w 145, 3) := by decide +kernel
theorem dX7_isMinute_6 : decode cX7_isMinute 6 = .ok (.invokestatic 54, 3) := by decide +kernel
theorem dX7_isMinute_9 : decode cX7_isMinute 9 = .ok (.ireturn, 1) := by decide +kernel
theorem dX7_size_0 : decode cX7_size 0 = .ok (.iload_n 0, 1) := by decide +kernel
theorem dX7_size_1 : decode cX7_size 1 = .ok (.ifCond .ge 8, 3) := by decide +kernel
theorem dX7_size_4 : decode cX7_size 4 = .ok (.iload_n 0, 1) := by decide +kernel
theorem dX7_size_5 : decode cX7_size 5 = .ok (.ineg, 1) := by decide +kernel
theorem dX7_size_6 : decode cX7_size 6 = .ok (.goto 4, 3) := by decide +kernel
theorem dX7_size_9 : decode cX7_size 9 = .ok (.iload_n 0, 1) := by decide +kernel
theorem dX7_size_10 : decode cX7_size 10 = .ok (.ireturn, 1) := by decide +kernel
theorem dX7_longOf_0 : decode cX7_longOf 0 = .ok (.aload_n 0, 1) := by decide +kernel
theorem dX7_longOf_1 : decode cX7_longOf 1 = .ok (.getfield 19, 3) := by decide +kernel
theorem dX7_longOf_4 : decode cX7_longOf 4 = .ok (.bipush 34, 2) := by decide +kernel
theorem dX7_longOf_6 : decode cX7_longOf 6 = .ok (.iload_n 1, 1) := by decide +kernel
theorem dX7_longOf_7 : decode cX7_longOf 7 = .ok (.iadd, 1) := by decide +kernel
theorem dX7_longOf_8 : decode cX7_longOf 8 = .ok (.iaload, 1) := by decide +kernel
theorem dX7_longOf_9 : decode cX7_longOf 9 = .ok (.aload_n 0, 1) := by decide +kernel
theorem dX7_longOf_10 : decode cX7_longOf 10 = .ok (.getfield 19, 3) := by decide +kernel
theorem dX7_longOf_13 : decode cX7_longOf 13 = .ok (.bipush 29, 2) := by decide +kernel
theorem dX7_longOf_15 : decode cX7_longOf 15 = .ok (.iload_n 1, 1) := by decide +kernel
theorem dX7_longOf_16 : decode cX7_longOf 16 = .ok (.iadd, 1) := by decide +kernel
theorem dX7_longOf_17 : decode cX7_longOf 17 = .ok (.iaload, 1) := by decide +kernel
theorem dX7_longOf_18 : decode cX7_longOf 18 = .ok (.isub, 1) := by decide +kernel
theorem dX7_longOf_19 : decode cX7_longOf 19 = .ok (.invokestatic 147, 3) := by decide +kernel
theorem dX7_longOf_22 : decode cX7_longOf 22 = .ok (.istore_n 2, 1) := by decide +kernel
theorem dX7_longOf_23 : decode cX7_longOf 23 = .ok (.iconst 1, 1) := by decide +kernel
theorem dX7_longOf_24 : decode cX7_longOf 24 = .ok (.iload_n 2, 1) := by decide +kernel
theorem dX7_longOf_25 : decode cX7_longOf 25 = .ok (.aload_n 0, 1) := by decide +kernel
theorem dX7_longOf_26 : decode cX7_longOf 26 = .ok (.getfield 19, 3) := by decide +kernel
theorem dX7_longOf_29 : decode cX7_longOf 29 = .ok (.bipush 39, 2) := by decide +kernel
theorem dX7_longOf_31 : decode cX7_longOf 31 = .ok (.iload_n 1, 1) := by decide +kernel
theorem dX7_longOf_32 : decode cX7_longOf 32 = .ok (.iadd, 1) := by decide +kernel
theorem dX7_longOf_33 : decode cX7_longOf 33 = .ok (.iaload, 1) := by decide +kernel
theorem dX7_longOf_34 : decode cX7_longOf 34 = .ok (.iadd, 1) := by decide +kernel
theorem dX7_longOf_35 : decode cX7_longOf 35 = .ok (.iconst 1, 1) := by decide +kernel
theorem dX7_longOf_36 : decode cX7_longOf 36 = .ok (.isub, 1) := by decide +kernel
theorem dX7_longOf_37 : decode cX7_longOf 37 = .ok (.aload_n 0, 1) := by decide +kernel
theorem dX7_longOf_38 : decode cX7_longOf 38 = .ok (.getfield 19, 3) := by decide +kernel
theorem dX7_longOf_41 : decode cX7_longOf 41 = .ok (.bipush 39, 2) := by decide +kernel
theorem dX7_longOf_43 : decode cX7_longOf 43 = .ok (.iload_n 1, 1) := by decide +kernel
theorem dX7_longOf_44 : decode cX7_longOf 44 = .ok (.iadd, 1) := by decide +kernel
theorem dX7_longOf_45 : decode cX7_longOf 45 = .ok (.iaload, 1) := by decide +kernel
theorem dX7_longOf_46 : decode cX7_longOf 46 = .ok (.idiv, 1) := by decide +kernel
theorem dX7_longOf_47 : decode cX7_longOf 47 = .ok (.iadd, 1) := by decide +kernel
theorem dX7_longOf_48 : decode cX7_longOf 48 = .ok (.ireturn, 1) := by decide +kernel
theorem dX7_treadOf_0 : decode cX7_treadOf 0 = .ok (.aload_n 0, 1) := by decide +kernel
theorem dX7_treadOf_1 : decode cX7_treadOf 1 = .ok (.getfield 19, 3) := by decide +kernel
theorem dX7_treadOf_4 : decode cX7_treadOf 4 = .ok (.bipush 34, 2) := by decide +kernel
theorem dX7_treadOf_6 : decode cX7_treadOf 6 = .ok (.iload_n 1, 1) := by decide +kernel
theorem dX7_treadOf_7 : decode cX7_treadOf 7 = .ok (.iadd, 1) := by decide +kernel
theorem dX7_treadOf_8 : decode cX7_treadOf 8 = .ok (.iaload, 1) := by decide +kernel
theorem dX7_treadOf_9 : decode cX7_treadOf 9 = .ok (.aload_n 0, 1) := by decide +kernel
theorem dX7_treadOf_10 : decode cX7_treadOf 10 = .ok (.getfield 19, 3) := by decide +kernel
theorem dX7_treadOf_13 : decode cX7_treadOf 13 = .ok (.bipush 29, 2) := by decide +kernel
theorem dX7_treadOf_15 : decode cX7_treadOf 15 = .ok (.iload_n 1, 1) := by decide +kernel
theorem dX7_treadOf_16 : decode cX7_treadOf 16 = .ok (.iadd, 1) := by decide +kernel
theorem dX7_treadOf_17 : decode cX7_treadOf 17 = .ok (.iaload, 1) := by decide +kernel
theorem dX7_treadOf_18 : decode cX7_treadOf 18 = .ok (.isub, 1) := by decide +kernel
theorem dX7_treadOf_19 : decode cX7_treadOf 19 = .ok (.istore_n 3, 1) := by decide +kernel
theorem dX7_treadOf_20 : decode cX7_treadOf 20 = .ok (.iload_n 2, 1) := by decide +kernel
theorem dX7_treadOf_21 : decode cX7_treadOf 21 = .ok (.aload_n 0, 1) := by decide +kernel
theorem dX7_treadOf_22 : decode cX7_treadOf 22 = .ok (.getfield 19, 3) := by decide +kernel
theorem dX7_treadOf_25 : decode cX7_treadOf 25 = .ok (.bipush 39, 2) := by decide +kernel
theorem dX7_treadOf_27 : decode cX7_treadOf 27 = .ok (.iload_n 1, 1) := by decide +kernel
theorem dX7_treadOf_28 : decode cX7_treadOf 28 = .ok (.iadd, 1) := by decide +kernel
theorem dX7_treadOf_29 : decode cX7_treadOf 29 = .ok (.iaload, 1) := by decide +kernel
theorem dX7_treadOf_30 : decode cX7_treadOf 30 = .ok (.imul, 1) := by decide +kernel
theorem dX7_treadOf_31 : decode cX7_treadOf 31 = .ok (.istore 4, 2) := by decide +kernel
theorem dX7_treadOf_33 : decode cX7_treadOf 33 = .ok (.iload 4, 2) := by decide +kernel
theorem dX7_treadOf_35 : decode cX7_treadOf 35 = .ok (.iload_n 3, 1) := by decide +kernel
theorem dX7_treadOf_36 : decode cX7_treadOf 36 = .ok (.invokestatic 147, 3) := by decide +kernel
theorem dX7_treadOf_39 : decode cX7_treadOf 39 = .ok (.if_icmp .le 10, 3) := by decide +kernel
theorem dX7_treadOf_42 : decode cX7_treadOf 42 = .ok (.iload_n 3, 1) := by decide +kernel
theorem dX7_treadOf_43 : decode cX7_treadOf 43 = .ok (.invokestatic 147, 3) := by decide +kernel
theorem dX7_treadOf_46 : decode cX7_treadOf 46 = .ok (.goto 5, 3) := by decide +kernel
theorem dX7_treadOf_49 : decode cX7_treadOf 49 = .ok (.iload 4, 2) := by decide +kernel
theorem dX7_treadOf_51 : decode cX7_treadOf 51 = .ok (.istore 4, 2) := by decide +kernel
theorem dX7_treadOf_53 : decode cX7_treadOf 53 = .ok (.iload_n 3, 1) := by decide +kernel
theorem dX7_treadOf_54 : decode cX7_treadOf 54 = .ok (.ifCond .ge 18, 3) := by decide +kernel
theorem dX7_treadOf_57 : decode cX7_treadOf 57 = .ok (.aload_n 0, 1) := by decide +kernel
theorem dX7_treadOf_58 : decode cX7_treadOf 58 = .ok (.getfield 19, 3) := by decide +kernel
theorem dX7_treadOf_61 : decode cX7_treadOf 61 = .ok (.bipush 29, 2) := by decide +kernel
theorem dX7_treadOf_63 : decode cX7_treadOf 63 = .ok (.iload_n 1, 1) := by decide +kernel
theorem dX7_treadOf_64 : decode cX7_treadOf 64 = .ok (.iadd, 1) := by decide +kernel
theorem dX7_treadOf_65 : decode cX7_treadOf 65 = .ok (.iaload, 1) := by decide +kernel
theorem dX7_treadOf_66 : decode cX7_treadOf 66 = .ok (.iload 4, 2) := by decide +kernel
theorem dX7_treadOf_68 : decode cX7_treadOf 68 = .ok (.isub, 1) := by decide +kernel
theorem dX7_treadOf_69 : decode cX7_treadOf 69 = .ok (.goto 15, 3) := by decide +kernel
theorem dX7_treadOf_72 : decode cX7_treadOf 72 = .ok (.aload_n 0, 1) := by decide +kernel
theorem dX7_treadOf_73 : decode cX7_treadOf 73 = .ok (.getfield 19, 3) := by decide +kernel
theorem dX7_treadOf_76 : decode cX7_treadOf 76 = .ok (.bipush 29, 2) := by decide +kernel
theorem dX7_treadOf_78 : decode cX7_treadOf 78 = .ok (.iload_n 1, 1) := by decide +kernel
theorem dX7_treadOf_79 : decode cX7_treadOf 79 = .ok (.iadd, 1) := by decide +kernel
theorem dX7_treadOf_80 : decode cX7_treadOf 80 = .ok (.iaload, 1) := by decide +kernel
theorem dX7_treadOf_81 : decode cX7_treadOf 81 = .ok (.iload 4, 2) := by decide +kernel
theorem dX7_treadOf_83 : decode cX7_treadOf 83 = .ok (.iadd, 1) := by decide +kernel
theorem dX7_treadOf_84 : decode cX7_treadOf 84 = .ok (.ireturn, 1) := by decide +kernel
theorem dX7_at_0 : decode cX7_at 0 = .ok (.iload_n 2, 1) := by decide +kernel
theorem dX7_at_1 : decode cX7_at 1 = .ok (.aload_n 0, 1) := by decide +kernel
theorem dX7_at_2 : decode cX7_at 2 = .ok (.getfield 19, 3) := by decide +kernel
theorem dX7_at_5 : decode cX7_at 5 = .ok (.bipush 44, 2) := by decide +kernel
theorem dX7_at_7 : decode cX7_at 7 = .ok (.iload_n 1, 1) := by decide +kernel
theorem dX7_at_8 : decode cX7_at 8 = .ok (.iadd, 1) := by decide +kernel
theorem dX7_at_9 : decode cX7_at 9 = .ok (.iaload, 1) := by decide +kernel
theorem dX7_at_10 : decode cX7_at 10 = .ok (.isub, 1) := by decide +kernel
theorem dX7_at_11 : decode cX7_at 11 = .ok (.istore_n 3, 1) := by decide +kernel
theorem dX7_at_12 : decode cX7_at 12 = .ok (.iload_n 3, 1) := by decide +kernel
theorem dX7_at_13 : decode cX7_at 13 = .ok (.i2l, 1) := by decide +kernel
theorem dX7_at_14 : decode cX7_at 14 = .ok (.lconst 0, 1) := by decide +kernel
theorem dX7_at_15 : decode cX7_at 15 = .ok (.aload_n 0, 1) := by decide +kernel
theorem dX7_at_16 : decode cX7_at 16 = .ok (.iload_n 1, 1) := by decide +kernel
theorem dX7_at_17 : decode cX7_at 17 = .ok (.invokevirtual 150, 3) := by decide +kernel
theorem dX7_at_20 : decode cX7_at 20 = .ok (.iconst 1, 1) := by decide +kernel
theorem dX7_at_21 : decode cX7_at 21 = .ok (.isub, 1) := by decide +kernel
theorem dX7_at_22 : decode cX7_at 22 = .ok (.i2l, 1) := by decide +kernel
theorem dX7_at_23 : decode cX7_at 23 = .ok (.invokestatic 54, 3) := by decide +kernel
theorem dX7_at_26 : decode cX7_at 26 = .ok (.ifCond .eq 12, 3) := by decide +kernel
theorem dX7_at_29 : decode cX7_at 29 = .ok (.aload_n 0, 1) := by decide +kernel
theorem dX7_at_30 : decode cX7_at 30 = .ok (.iload_n 1, 1) := by decide +kernel
theorem dX7_at_31 : decode cX7_at 31 = .ok (.iload_n 3, 1) := by decide +kernel
theorem dX7_at_32 : decode cX7_at 32 = .ok (.invokevirtual 153, 3) := by decide +kernel
theorem dX7_at_35 : decode cX7_at 35 = .ok (.goto 4, 3) := by decide +kernel
theorem dX7_at_38 : decode cX7_at 38 = .ok (.iconst (-1), 1) := by decide +kernel
theorem dX7_at_39 : decode cX7_at 39 = .ok (.ireturn, 1) := by decide +kernel
theorem dX7_toneOf_0 : decode cX7_toneOf 0 = .ok (.aload_n 0, 1) := by decide +kernel
theorem dX7_toneOf_1 : decode cX7_toneOf 1 = .ok (.getfield 19, 3) := by decide +kernel
theorem dX7_toneOf_4 : decode cX7_toneOf 4 = .ok (.bipush 13, 2) := by decide +kernel
theorem dX7_toneOf_6 : decode cX7_toneOf 6 = .ok (.iload_n 1, 1) := by decide +kernel
theorem dX7_toneOf_7 : decode cX7_toneOf 7 = .ok (.iadd, 1) := by decide +kernel
theorem dX7_toneOf_8 : decode cX7_toneOf 8 = .ok (.iaload, 1) := by decide +kernel
theorem dX7_toneOf_9 : decode cX7_toneOf 9 = .ok (.aload_n 0, 1) := by decide +kernel
theorem dX7_toneOf_10 : decode cX7_toneOf 10 = .ok (.getfield 19, 3) := by decide +kernel
theorem dX7_toneOf_13 : decode cX7_toneOf 13 = .ok (.bipush 21, 2) := by decide +kernel
theorem dX7_toneOf_15 : decode cX7_toneOf 15 = .ok (.iload_n 1, 1) := by decide +kernel
theorem dX7_toneOf_16 : decode cX7_toneOf 16 = .ok (.iadd, 1) := by decide +kernel
theorem dX7_toneOf_17 : decode cX7_toneOf 17 = .ok (.iaload, 1) := by decide +kernel
theorem dX7_toneOf_18 : decode cX7_toneOf 18 = .ok (.bipush 10, 2) := by decide +kernel
theorem dX7_toneOf_20 : decode cX7_toneOf 20 = .ok (.idiv, 1) := by decide +kernel
theorem dX7_toneOf_21 : decode cX7_toneOf 21 = .ok (.isub, 1) := by decide +kernel
theorem dX7_toneOf_22 : decode cX7_toneOf 22 = .ok (.istore_n 2, 1) := by decide +kernel
theorem dX7_toneOf_23 : decode cX7_toneOf 23 = .ok (.iload_n 2, 1) := by decide +kernel
theorem dX7_toneOf_24 : decode cX7_toneOf 24 = .ok (.ifCond .ge 7, 3) := by decide +kernel
theorem dX7_toneOf_27 : decode cX7_toneOf 27 = .ok (.iconst 0, 1) := by decide +kernel
theorem dX7_toneOf_28 : decode cX7_toneOf 28 = .ok (.goto 4, 3) := by decide +kernel
theorem dX7_toneOf_31 : decode cX7_toneOf 31 = .ok (.iload_n 2, 1) := by decide +kernel
theorem dX7_toneOf_32 : decode cX7_toneOf 32 = .ok (.ireturn, 1) := by decide +kernel
theorem dX7_isWet_0 : decode cX7_isWet 0 = .ok (.aload_n 0, 1) := by decide +kernel
theorem dX7_isWet_1 : decode cX7_isWet 1 = .ok (.getfield 19, 3) := by decide +kernel
theorem dX7_isWet_4 : decode cX7_isWet 4 = .ok (.iconst 2, 1) := by decide +kernel
theorem dX7_isWet_5 : decode cX7_isWet 5 = .ok (.iaload, 1) := by decide +kernel
theorem dX7_isWet_6 : decode cX7_isWet 6 = .ok (.aload_n 0, 1) := by decide +kernel
theorem dX7_isWet_7 : decode cX7_isWet 7 = .ok (.getfield 19, 3) := by decide +kernel
theorem dX7_isWet_10 : decode cX7_isWet 10 = .ok (.iconst 4, 1) := by decide +kernel
theorem dX7_isWet_11 : decode cX7_isWet 11 = .ok (.iaload, 1) := by decide +kernel
theorem dX7_isWet_12 : decode cX7_isWet 12 = .ok (.iconst 4, 1) := by decide +kernel
theorem dX7_isWet_13 : decode cX7_isWet 13 = .ok (.irem, 1) := by decide +kernel
theorem dX7_isWet_14 : decode cX7_isWet 14 = .ok (.invokestatic 156, 3) := by decide +kernel
theorem dX7_isWet_17 : decode cX7_isWet 17 = .ok (.ireturn, 1) := by decide +kernel
theorem dX7_sound_0 : decode cX7_sound 0 = .ok (.aload_n 0, 1) := by decide +kernel
theorem dX7_sound_1 : decode cX7_sound 1 = .ok (.iload_n 1, 1) := by decide +kernel
theorem dX7_sound_2 : decode cX7_sound 2 = .ok (.invokevirtual 160, 3) := by decide +kernel
theorem dX7_sound_5 : decode cX7_sound 5 = .ok (.istore_n 3, 1) := by decide +kernel
theorem dX7_sound_6 : decode cX7_sound 6 = .ok (.aload_n 0, 1) := by decide +kernel
theorem dX7_sound_7 : decode cX7_sound 7 = .ok (.getfield 19, 3) := by decide +kernel
theorem dX7_sound_10 : decode cX7_sound 10 = .ok (.iconst 5, 1) := by decide +kernel
theorem dX7_sound_11 : decode cX7_sound 11 = .ok (.iload_n 1, 1) := by decide +kernel
theorem dX7_sound_12 : decode cX7_sound 12 = .ok (.iadd, 1) := by decide +kernel
theorem dX7_sound_13 : decode cX7_sound 13 = .ok (.iaload, 1) := by decide +kernel
theorem dX7_sound_14 : decode cX7_sound 14 = .ok (.tableswitch 74 1 4 #[30, 32, 51, 72], 30) := by decide +kernel
theorem dX7_sound_44 : decode cX7_sound 44 = .ok (.iload_n 3, 1) := by decide +kernel
theorem dX7_sound_45 : decode cX7_sound 45 = .ok (.ireturn, 1) := by decide +kernel
theorem dX7_sound_46 : decode cX7_sound 46 = .ok (.aload_n 0, 1) := by decide +kernel
theorem dX7_sound_47 : decode cX7_sound 47 = .ok (.invokevirtual 163, 3) := by decide +kernel
theorem dX7_sound_50 : decode cX7_sound 50 = .ok (.ifCond .eq 13, 3) := by decide +kernel
theorem dX7_sound_53 : decode cX7_sound 53 = .ok (.iload_n 3, 1) := by decide +kernel
theorem dX7_sound_54 : decode cX7_sound 54 = .ok (.ifCond .le 9, 3) := by decide +kernel
theorem dX7_sound_57 : decode cX7_sound 57 = .ok (.iload_n 3, 1) := by decide +kernel
theorem dX7_sound_58 : decode cX7_sound 58 = .ok (.iconst 1, 1) := by decide +kernel
theorem dX7_sound_59 : decode cX7_sound 59 = .ok (.isub, 1) := by decide +kernel
theorem dX7_sound_60 : decode cX7_sound 60 = .ok (.goto 4, 3) := by decide +kernel
theorem dX7_sound_63 : decode cX7_sound 63 = .ok (.iload_n 3, 1) := by decide +kernel
theorem dX7_sound_64 : decode cX7_sound 64 = .ok (.ireturn, 1) := by decide +kernel
theorem dX7_sound_65 : decode cX7_sound 65 = .ok (.iload_n 3, 1) := by decide +kernel
theorem dX7_sound_66 : decode cX7_sound 66 = .ok (.iload_n 2, 1) := by decide +kernel
theorem dX7_sound_67 : decode cX7_sound 67 = .ok (.iadd, 1) := by decide +kernel
theorem dX7_sound_68 : decode cX7_sound 68 = .ok (.iconst 1, 1) := by decide +kernel
theorem dX7_sound_69 : decode cX7_sound 69 = .ok (.isub, 1) := by decide +kernel
theorem dX7_sound_70 : decode cX7_sound 70 = .ok (.bipush 9, 2) := by decide +kernel
theorem dX7_sound_72 : decode cX7_sound 72 = .ok (.if_icmp .le 8, 3) := by decide +kernel
theorem dX7_sound_75 : decode cX7_sound 75 = .ok (.bipush 9, 2) := by decide +kernel
theorem dX7_sound_77 : decode cX7_sound 77 = .ok (.goto 8, 3) := by decide +kernel
theorem dX7_sound_80 : decode cX7_sound 80 = .ok (.iload_n 3, 1) := by decide +kernel
theorem dX7_sound_81 : decode cX7_sound 81 = .ok (.iload_n 2, 1) := by decide +kernel
theorem dX7_sound_82 : decode cX7_sound 82 = .ok (.iadd, 1) := by decide +kernel
theorem dX7_sound_83 : decode cX7_sound 83 = .ok (.iconst 1, 1) := by decide +kernel
theorem dX7_sound_84 : decode cX7_sound 84 = .ok (.isub, 1) := by decide +kernel
theorem dX7_sound_85 : decode cX7_sound 85 = .ok (.ireturn, 1) := by decide +kernel
theorem dX7_sound_86 : decode cX7_sound 86 = .ok (.iconst (-1), 1) := by decide +kernel
theorem dX7_sound_87 : decode cX7_sound 87 = .ok (.ireturn, 1) := by decide +kernel
theorem dX7_sound_88 : decode cX7_sound 88 = .ok (.iload_n 2, 1) := by decide +kernel
theorem dX7_sound_89 : decode cX7_sound 89 = .ok (.iconst 3, 1) := by decide +kernel
theorem dX7_sound_90 : decode cX7_sound 90 = .ok (.if_icmp .ne 9, 3) := by decide +kernel
theorem dX7_sound_93 : decode cX7_sound 93 = .ok (.iload_n 3, 1) := by decide +kernel
theorem dX7_sound_94 : decode cX7_sound 94 = .ok (.iconst 2, 1) := by decide +kernel
theorem dX7_sound_95 : decode cX7_sound 95 = .ok (.idiv, 1) := by decide +kernel
theorem dX7_sound_96 : decode cX7_sound 96 = .ok (.goto 4, 3) := by decide +kernel
theorem dX7_sound_99 : decode cX7_sound 99 = .ok (.iconst (-1), 1) := by decide +kernel
theorem dX7_sound_100 : decode cX7_sound 100 = .ok (.ireturn, 1) := by decide +kernel
theorem dX7_heardAt_0 : decode cX7_heardAt 0 = .ok (.iconst 0, 1) := by decide +kernel
theorem dX7_heardAt_1 : decode cX7_heardAt 1 = .ok (.istore_n 3, 1) := by decide +kernel
theorem dX7_heardAt_2 : decode cX7_heardAt 2 = .ok (.iconst 0, 1) := by decide +kernel
theorem dX7_heardAt_3 : decode cX7_heardAt 3 = .ok (.istore 4, 2) := by decide +kernel
theorem dX7_heardAt_5 : decode cX7_heardAt 5 = .ok (.iload 4, 2) := by decide +kernel
theorem dX7_heardAt_7 : decode cX7_heardAt 7 = .ok (.aload_n 0, 1) := by decide +kernel
theorem dX7_heardAt_8 : decode cX7_heardAt 8 = .ok (.getfield 19, 3) := by decide +kernel
theorem dX7_heardAt_11 : decode cX7_heardAt 11 = .ok (.iconst 1, 1) := by decide +kernel
theorem dX7_heardAt_12 : decode cX7_heardAt 12 = .ok (.iaload, 1) := by decide +kernel
theorem dX7_heardAt_13 : decode cX7_heardAt 13 = .ok (.if_icmp .ge 77, 3) := by decide +kernel
theorem dX7_heardAt_16 : decode cX7_heardAt 16 = .ok (.aload_n 0, 1) := by decide +kernel
theorem dX7_heardAt_17 : decode cX7_heardAt 17 = .ok (.iload 4, 2) := by decide +kernel
theorem dX7_heardAt_19 : decode cX7_heardAt 19 = .ok (.iload_n 2, 1) := by decide +kernel
theorem dX7_heardAt_20 : decode cX7_heardAt 20 = .ok (.invokevirtual 166, 3) := by decide +kernel
theorem dX7_heardAt_23 : decode cX7_heardAt 23 = .ok (.istore 5, 2) := by decide +kernel
theorem dX7_heardAt_25 : decode cX7_heardAt 25 = .ok (.iload 5, 2) := by decide +kernel
theorem dX7_heardAt_27 : decode cX7_heardAt 27 = .ok (.ifCond .ge 7, 3) := by decide +kernel
theorem dX7_heardAt_30 : decode cX7_heardAt 30 = .ok (.iconst (-1), 1) := by decide +kernel
theorem dX7_heardAt_31 : decode cX7_heardAt 31 = .ok (.goto 19, 3) := by decide +kernel
theorem dX7_heardAt_34 : decode cX7_heardAt 34 = .ok (.aload_n 0, 1) := by decide +kernel
theorem dX7_heardAt_35 : decode cX7_heardAt 35 = .ok (.iload 5, 2) := by decide +kernel
theorem dX7_heardAt_37 : decode cX7_heardAt 37 = .ok (.aload_n 0, 1) := by decide +kernel
theorem dX7_heardAt_38 : decode cX7_heardAt 38 = .ok (.getfield 19, 3) := by decide +kernel
theorem dX7_heardAt_41 : decode cX7_heardAt 41 = .ok (.bipush 39, 2) := by decide +kernel
theorem dX7_heardAt_43 : decode cX7_heardAt 43 = .ok (.iload 4, 2) := by decide +kernel
theorem dX7_heardAt_45 : decode cX7_heardAt 45 = .ok (.iadd, 1) := by decide +kernel
theorem dX7_heardAt_46 : decode cX7_heardAt 46 = .ok (.iaload, 1) := by decide +kernel
theorem dX7_heardAt_47 : decode cX7_heardAt 47 = .ok (.invokevirtual 169, 3) := by decide +kernel
theorem dX7_heardAt_50 : decode cX7_heardAt 50 = .ok (.istore 6, 2) := by decide +kernel
theorem dX7_heardAt_52 : decode cX7_heardAt 52 = .ok (.iload_n 3, 1) := by decide +kernel
theorem dX7_heardAt_53 : decode cX7_heardAt 53 = .ok (.iload 6, 2) := by decide +kernel
theorem dX7_heardAt_55 : decode cX7_heardAt 55 = .ok (.ifCond .lt 26, 3) := by decide +kernel
theorem dX7_heardAt_58 : decode cX7_heardAt 58 = .ok (.iload 5, 2) := by decide +kernel
theorem dX7_heardAt_60 : decode cX7_heardAt 60 = .ok (.iload_n 1, 1) := by decide +kernel
theorem dX7_heardAt_61 : decode cX7_heardAt 61 = .ok (.isub, 1) := by decide +kernel
theorem dX7_heardAt_62 : decode cX7_heardAt 62 = .ok (.invokestatic 147, 3) := by decide +kernel
theorem dX7_heardAt_65 : decode cX7_heardAt 65 = .ok (.aload_n 0, 1) := by decide +kernel
theorem dX7_heardAt_66 : decode cX7_heardAt 66 = .ok (.getfield 19, 3) := by decide +kernel
theorem dX7_heardAt_69 : decode cX7_heardAt 69 = .ok (.iconst 3, 1) := by decide +kernel
theorem dX7_heardAt_70 : decode cX7_heardAt 70 = .ok (.iaload, 1) := by decide +kernel
theorem dX7_heardAt_71 : decode cX7_heardAt 71 = .ok (.if_icmp .gt 10, 3) := by decide +kernel
theorem dX7_heardAt_74 : decode cX7_heardAt 74 = .ok (.iconst 1, 1) := by decide +kernel
theorem dX7_heardAt_75 : decode cX7_heardAt 75 = .ok (.iload 6, 2) := by decide +kernel
theorem dX7_heardAt_77 : decode cX7_heardAt 77 = .ok (.ishl, 1) := by decide +kernel
theorem dX7_heardAt_78 : decode cX7_heardAt 78 = .ok (.goto 4, 3) := by decide +kernel
theorem dX7_heardAt_81 : decode cX7_heardAt 81 = .ok (.iconst 0, 1) := by decide +kernel
theorem dX7_heardAt_82 : decode cX7_heardAt 82 = .ok (.ior, 1) := by decide +kernel
theorem dX7_heardAt_83 : decode cX7_heardAt 83 = .ok (.istore_n 3, 1) := by decide +kernel
theorem dX7_heardAt_84 : decode cX7_heardAt 84 = .ok (.iinc 4 1, 3) := by decide +kernel
theorem dX7_heardAt_87 : decode cX7_heardAt 87 = .ok (.goto (-82), 3) := by decide +kernel
theorem dX7_heardAt_90 : decode cX7_heardAt 90 = .ok (.iload_n 3, 1) := by decide +kernel
theorem dX7_heardAt_91 : decode cX7_heardAt 91 = .ok (.ireturn, 1) := by decide +kernel
theorem dX7_oneDay_0 : decode cX7_oneDay 0 = .ok (.iconst 0, 1) := by decide +kernel
theorem dX7_oneDay_1 : decode cX7_oneDay 1 = .ok (.istore_n 1, 1) := by decide +kernel
theorem dX7_oneDay_2 : decode cX7_oneDay 2 = .ok (.iload_n 1, 1) := by decide +kernel
theorem dX7_oneDay_3 : decode cX7_oneDay 3 = .ok (.aload_n 0, 1) := by decide +kernel
theorem dX7_oneDay_4 : decode cX7_oneDay 4 = .ok (.getfield 19, 3) := by decide +kernel
theorem dX7_oneDay_7 : decode cX7_oneDay 7 = .ok (.iconst 1, 1) := by decide +kernel
theorem dX7_oneDay_8 : decode cX7_oneDay 8 = .ok (.iaload, 1) := by decide +kernel
theorem dX7_oneDay_9 : decode cX7_oneDay 9 = .ok (.if_icmp .ge 110, 3) := by decide +kernel
theorem dX7_oneDay_12 : decode cX7_oneDay 12 = .ok (.iconst 0, 1) := by decide +kernel
theorem dX7_oneDay_13 : decode cX7_oneDay 13 = .ok (.istore_n 2, 1) := by decide +kernel
theorem dX7_oneDay_14 : decode cX7_oneDay 14 = .ok (.iload_n 2, 1) := by decide +kernel
theorem dX7_oneDay_15 : decode cX7_oneDay 15 = .ok (.aload_n 0, 1) := by decide +kernel
theorem dX7_oneDay_16 : decode cX7_oneDay 16 = .ok (.iload_n 1, 1) := by decide +kernel
theorem dX7_oneDay_17 : decode cX7_oneDay 17 = .ok (.invokevirtual 150, 3) := by decide +kernel
theorem dX7_oneDay_20 : decode cX7_oneDay 20 = .ok (.if_icmp .ge 55, 3) := by decide +kernel
theorem dX7_oneDay_23 : decode cX7_oneDay 23 = .ok (.aload_n 0, 1) := by decide +kernel
theorem dX7_oneDay_24 : decode cX7_oneDay 24 = .ok (.iload_n 1, 1) := by decide +kernel
theorem dX7_oneDay_25 : decode cX7_oneDay 25 = .ok (.iload_n 2, 1) := by decide +kernel
theorem dX7_oneDay_26 : decode cX7_oneDay 26 = .ok (.invokevirtual 153, 3) := by decide +kernel
theorem dX7_oneDay_29 : decode cX7_oneDay 29 = .ok (.istore_n 3, 1) := by decide +kernel
theorem dX7_oneDay_30 : decode cX7_oneDay 30 = .ok (.aload_n 0, 1) := by decide +kernel
theorem dX7_oneDay_31 : decode cX7_oneDay 31 = .ok (.getfield 19, 3) := by decide +kernel
theorem dX7_oneDay_34 : decode cX7_oneDay 34 = .ok (.bipush 21, 2) := by decide +kernel
theorem dX7_oneDay_36 : decode cX7_oneDay 36 = .ok (.iload_n 3, 1) := by decide +kernel
theorem dX7_oneDay_37 : decode cX7_oneDay 37 = .ok (.iadd, 1) := by decide +kernel
theorem dX7_oneDay_38 : decode cX7_oneDay 38 = .ok (.aload_n 0, 1) := by decide +kernel
theorem dX7_oneDay_39 : decode cX7_oneDay 39 = .ok (.getfield 19, 3) := by decide +kernel
theorem dX7_oneDay_42 : decode cX7_oneDay 42 = .ok (.bipush 21, 2) := by decide +kernel
theorem dX7_oneDay_44 : decode cX7_oneDay 44 = .ok (.iload_n 3, 1) := by decide +kernel
theorem dX7_oneDay_45 : decode cX7_oneDay 45 = .ok (.iadd, 1) := by decide +kernel
theorem dX7_oneDay_46 : decode cX7_oneDay 46 = .ok (.iaload, 1) := by decide +kernel
theorem dX7_oneDay_47 : decode cX7_oneDay 47 = .ok (.bipush 99, 2) := by decide +kernel
theorem dX7_oneDay_49 : decode cX7_oneDay 49 = .ok (.if_icmp .ne 8, 3) := by decide +kernel
theorem dX7_oneDay_52 : decode cX7_oneDay 52 = .ok (.bipush 99, 2) := by decide +kernel
theorem dX7_oneDay_54 : decode cX7_oneDay 54 = .ok (.goto 14, 3) := by decide +kernel
theorem dX7_oneDay_57 : decode cX7_oneDay 57 = .ok (.aload_n 0, 1) := by decide +kernel
theorem dX7_oneDay_58 : decode cX7_oneDay 58 = .ok (.getfield 19, 3) := by decide +kernel
theorem dX7_oneDay_61 : decode cX7_oneDay 61 = .ok (.bipush 21, 2) := by decide +kernel
theorem dX7_oneDay_63 : decode cX7_oneDay 63 = .ok (.iload_n 3, 1) := by decide +kernel
theorem dX7_oneDay_64 : decode cX7_oneDay 64 = .ok (.iadd, 1) := by decide +kernel
theorem dX7_oneDay_65 : decode cX7_oneDay 65 = .ok (.iaload, 1) := by decide +kernel
theorem dX7_oneDay_66 : decode cX7_oneDay 66 = .ok (.iconst 1, 1) := by decide +kernel
theorem dX7_oneDay_67 : decode cX7_oneDay 67 = .ok (.iadd, 1) := by decide +kernel
theorem dX7_oneDay_68 : decode cX7_oneDay 68 = .ok (.iastore, 1) := by decide +kernel
theorem dX7_oneDay_69 : decode cX7_oneDay 69 = .ok (.iinc 2 1, 3) := by decide +kernel
theorem dX7_oneDay_72 : decode cX7_oneDay 72 = .ok (.goto (-58), 3) := by decide +kernel
theorem dX7_oneDay_75 : decode cX7_oneDay 75 = .ok (.aload_n 0, 1) := by decide +kernel
theorem dX7_oneDay_76 : decode cX7_oneDay 76 = .ok (.getfield 19, 3) := by decide +kernel
theorem dX7_oneDay_79 : decode cX7_oneDay 79 = .ok (.bipush 29, 2) := by decide +kernel
theorem dX7_oneDay_81 : decode cX7_oneDay 81 = .ok (.iload_n 1, 1) := by decide +kernel
theorem dX7_oneDay_82 : decode cX7_oneDay 82 = .ok (.iadd, 1) := by decide +kernel
theorem dX7_oneDay_83 : decode cX7_oneDay 83 = .ok (.iaload, 1) := by decide +kernel
theorem dX7_oneDay_84 : decode cX7_oneDay 84 = .ok (.istore_n 2, 1) := by decide +kernel
theorem dX7_oneDay_85 : decode cX7_oneDay 85 = .ok (.aload_n 0, 1) := by decide +kernel
theorem dX7_oneDay_86 : decode cX7_oneDay 86 = .ok (.getfield 19, 3) := by decide +kernel
theorem dX7_oneDay_89 : decode cX7_oneDay 89 = .ok (.bipush 29, 2) := by decide +kernel
theorem dX7_oneDay_91 : decode cX7_oneDay 91 = .ok (.iload_n 1, 1) := by decide +kernel
theorem dX7_oneDay_92 : decode cX7_oneDay 92 = .ok (.iadd, 1) := by decide +kernel
theorem dX7_oneDay_93 : decode cX7_oneDay 93 = .ok (.aload_n 0, 1) := by decide +kernel
theorem dX7_oneDay_94 : decode cX7_oneDay 94 = .ok (.getfield 19, 3) := by decide +kernel
theorem dX7_oneDay_97 : decode cX7_oneDay 97 = .ok (.bipush 34, 2) := by decide +kernel
theorem dX7_oneDay_99 : decode cX7_oneDay 99 = .ok (.iload_n 1, 1) := by decide +kernel
theorem dX7_oneDay_100 : decode cX7_oneDay 100 = .ok (.iadd, 1) := by decide +kernel
theorem dX7_oneDay_101 : decode cX7_oneDay 101 = .ok (.iaload, 1) := by decide +kernel
theorem dX7_oneDay_102 : decode cX7_oneDay 102 = .ok (.iastore, 1) := by decide +kernel
theorem dX7_oneDay_103 : decode cX7_oneDay 103 = .ok (.aload_n 0, 1) := by decide +kernel
theorem dX7_oneDay_104 : decode cX7_oneDay 104 = .ok (.getfield 19, 3) := by decide +kernel
theorem dX7_oneDay_107 : decode cX7_oneDay 107 = .ok (.bipush 34, 2) := by decide +kernel
theorem dX7_oneDay_109 : decode cX7_oneDay 109 = .ok (.iload_n 1, 1) := by decide +kernel
theorem dX7_oneDay_110 : decode cX7_oneDay 110 = .ok (.iadd, 1) := by decide +kernel
theorem dX7_oneDay_111 : decode cX7_oneDay 111 = .ok (.iload_n 2, 1) := by decide +kernel
theorem dX7_oneDay_112 : decode cX7_oneDay 112 = .ok (.iastore, 1) := by decide +kernel
theorem dX7_oneDay_113 : decode cX7_oneDay 113 = .ok (.iinc 1 1, 3) := by decide +kernel
theorem dX7_oneDay_116 : decode cX7_oneDay 116 = .ok (.goto (-114), 3) := by decide +kernel
theorem dX7_oneDay_119 : decode cX7_oneDay 119 = .ok (.aload_n 0, 1) := by decide +kernel
theorem dX7_oneDay_120 : decode cX7_oneDay 120 = .ok (.getfield 19, 3) := by decide +kernel
theorem dX7_oneDay_123 : decode cX7_oneDay 123 = .ok (.iconst 4, 1) := by decide +kernel
theorem dX7_oneDay_124 : decode cX7_oneDay 124 = .ok (.dup2, 1) := by decide +kernel
theorem dX7_oneDay_125 : decode cX7_oneDay 125 = .ok (.iaload, 1) := by decide +kernel
theorem dX7_oneDay_126 : decode cX7_oneDay 126 = .ok (.iconst 1, 1) := by decide +kernel
theorem dX7_oneDay_127 : decode cX7_oneDay 127 = .ok (.iadd, 1) := by decide +kernel
theorem dX7_oneDay_128 : decode cX7_oneDay 128 = .ok (.iastore, 1) := by decide +kernel
theorem dX7_oneDay_129 : decode cX7_oneDay 129 = .ok (.return_, 1) := by decide +kernel
theorem dX7_note_0 : decode cX7_note 0 = .ok (.aload_n 0, 1) := by decide +kernel
theorem dX7_note_1 : decode cX7_note 1 = .ok (.getfield 142, 3) := by decide +kernel
theorem dX7_note_4 : decode cX7_note 4 = .ok (.bipush 24, 2) := by decide +kernel
theorem dX7_note_6 : decode cX7_note 6 = .ok (.if_icmp .ne 43, 3) := by decide +kernel
theorem dX7_note_9 : decode cX7_note 9 = .ok (.iconst 0, 1) := by decide +kernel
theorem dX7_note_10 : decode cX7_note 10 = .ok (.istore_n 1, 1) := by decide +kernel
theorem dX7_note_11 : decode cX7_note 11 = .ok (.iload_n 1, 1) := by decide +kernel
theorem dX7_note_12 : decode cX7_note 12 = .ok (.sipush 1127, 3) := by decide +kernel
theorem dX7_note_15 : decode cX7_note 15 = .ok (.if_icmp .ge 24, 3) := by decide +kernel
theorem dX7_note_18 : decode cX7_note 18 = .ok (.aload_n 0, 1) := by decide +kernel
theorem dX7_note_19 : decode cX7_note 19 = .ok (.getfield 31, 3) := by decide +kernel
theorem dX7_note_22 : decode cX7_note 22 = .ok (.iload_n 1, 1) := by decide +kernel
theorem dX7_note_23 : decode cX7_note 23 = .ok (.aload_n 0, 1) := by decide +kernel
theorem dX7_note_24 : decode cX7_note 24 = .ok (.getfield 31, 3) := by decide +kernel
theorem dX7_note_27 : decode cX7_note 27 = .ok (.iload_n 1, 1) := by decide +kernel
theorem dX7_note_28 : decode cX7_note 28 = .ok (.bipush 49, 2) := by decide +kernel
theorem dX7_note_30 : decode cX7_note 30 = .ok (.iadd, 1) := by decide +kernel
theorem dX7_note_31 : decode cX7_note 31 = .ok (.iaload, 1) := by decide +kernel
theorem dX7_note_32 : decode cX7_note 32 = .ok (.iastore, 1) := by decide +kernel
theorem dX7_note_33 : decode cX7_note 33 = .ok (.iinc 1 1, 3) := by decide +kernel
theorem dX7_note_36 : decode cX7_note 36 = .ok (.goto (-25), 3) := by decide +kernel
theorem dX7_note_39 : decode cX7_note 39 = .ok (.aload_n 0, 1) := by decide +kernel
theorem dX7_note_40 : decode cX7_note 40 = .ok (.dup, 1) := by decide +kernel
theorem dX7_note_41 : decode cX7_note 41 = .ok (.getfield 142, 3) := by decide +kernel
theorem dX7_note_44 : decode cX7_note 44 = .ok (.iconst 1, 1) := by decide +kernel
theorem dX7_note_45 : decode cX7_note 45 = .ok (.isub, 1) := by decide +kernel
theorem dX7_note_46 : decode cX7_note 46 = .ok (.putfield 142, 3) := by decide +kernel
theorem dX7_note_49 : decode cX7_note 49 = .ok (.iconst 0, 1) := by decide +kernel
theorem dX7_note_50 : decode cX7_note 50 = .ok (.istore_n 1, 1) := by decide +kernel
theorem dX7_note_51 : decode cX7_note 51 = .ok (.iload_n 1, 1) := by decide +kernel
theorem dX7_note_52 : decode cX7_note 52 = .ok (.bipush 49, 2) := by decide +kernel
theorem dX7_note_54 : decode cX7_note 54 = .ok (.if_icmp .ge 29, 3) := by decide +kernel
theorem dX7_note_57 : decode cX7_note 57 = .ok (.aload_n 0, 1) := by decide +kernel
theorem dX7_note_58 : decode cX7_note 58 = .ok (.getfield 31, 3) := by decide +kernel
theorem dX7_note_61 : decode cX7_note 61 = .ok (.bipush 49, 2) := by decide +kernel
theorem dX7_note_63 : decode cX7_note 63 = .ok (.aload_n 0, 1) := by decide +kernel
theorem dX7_note_64 : decode cX7_note 64 = .ok (.getfield 142, 3) := by decide +kernel
theorem dX7_note_67 : decode cX7_note 67 = .ok (.imul, 1) := by decide +kernel
theorem dX7_note_68 : decode cX7_note 68 = .ok (.iload_n 1, 1) := by decide +kernel
theorem dX7_note_69 : decode cX7_note 69 = .ok (.iadd, 1) := by decide +kernel
theorem dX7_note_70 : decode cX7_note 70 = .ok (.aload_n 0, 1) := by decide +kernel
theorem dX7_note_71 : decode cX7_note 71 = .ok (.getfield 19, 3) := by decide +kernel
theorem dX7_note_74 : decode cX7_note 74 = .ok (.iload_n 1, 1) := by decide +kernel
theorem dX7_note_75 : decode cX7_note 75 = .ok (.iaload, 1) := by decide +kernel
theorem dX7_note_76 : decode cX7_note 76 = .ok (.iastore, 1) := by decide +kernel
theorem dX7_note_77 : decode cX7_note 77 = .ok (.iinc 1 1, 3) := by decide +kernel
theorem dX7_note_80 : decode cX7_note 80 = .ok (.goto (-29), 3) := by decide +kernel
theorem dX7_note_83 : decode cX7_note 83 = .ok (.aload_n 0, 1) := by decide +kernel
theorem dX7_note_84 : decode cX7_note 84 = .ok (.dup, 1) := by decide +kernel
theorem dX7_note_85 : decode cX7_note 85 = .ok (.getfield 142, 3) := by decide +kernel
theorem dX7_note_88 : decode cX7_note 88 = .ok (.iconst 1, 1) := by decide +kernel
theorem dX7_note_89 : decode cX7_note 89 = .ok (.iadd, 1) := by decide +kernel
theorem dX7_note_90 : decode cX7_note 90 = .ok (.putfield 142, 3) := by decide +kernel
theorem dX7_note_93 : decode cX7_note 93 = .ok (.return_, 1) := by decide +kernel
theorem dX7_undo_0 : decode cX7_undo 0 = .ok (.aload_n 0, 1) := by decide +kernel
theorem dX7_undo_1 : decode cX7_undo 1 = .ok (.getfield 142, 3) := by decide +kernel
theorem dX7_undo_4 : decode cX7_undo 4 = .ok (.ifCond .ne 6, 3) := by decide +kernel
theorem dX7_undo_7 : decode cX7_undo 7 = .ok (.ldc 172, 2) := by decide +kernel
theorem dX7_undo_9 : decode cX7_undo 9 = .ok (.ireturn, 1) := by decide +kernel
theorem dX7_undo_10 : decode cX7_undo 10 = .ok (.aload_n 0, 1) := by decide +kernel
theorem dX7_undo_11 : decode cX7_undo 11 = .ok (.dup, 1) := by decide +kernel
theorem dX7_undo_12 : decode cX7_undo 12 = .ok (.getfield 142, 3) := by decide +kernel
theorem dX7_undo_15 : decode cX7_undo 15 = .ok (.iconst 1, 1) := by decide +kernel
theorem dX7_undo_16 : decode cX7_undo 16 = .ok (.isub, 1) := by decide +kernel
theorem dX7_undo_17 : decode cX7_undo 17 = .ok (.putfield 142, 3) := by decide +kernel
theorem dX7_undo_20 : decode cX7_undo 20 = .ok (.iconst 0, 1) := by decide +kernel
theorem dX7_undo_21 : decode cX7_undo 21 = .ok (.istore_n 1, 1) := by decide +kernel
theorem dX7_undo_22 : decode cX7_undo 22 = .ok (.iload_n 1, 1) := by decide +kernel
theorem dX7_undo_23 : decode cX7_undo 23 = .ok (.bipush 49, 2) := by decide +kernel
theorem dX7_undo_25 : decode cX7_undo 25 = .ok (.if_icmp .ge 29, 3) := by decide +kernel
theorem dX7_undo_28 : decode cX7_undo 28 = .ok (.aload_n 0, 1) := by decide +kernel
theorem dX7_undo_29 : decode cX7_undo 29 = .ok (.getfield 19, 3) := by decide +kernel
theorem dX7_undo_32 : decode cX7_undo 32 = .ok (.iload_n 1, 1) := by decide +kernel
theorem dX7_undo_33 : decode cX7_undo 33 = .ok (.aload_n 0, 1) := by decide +kernel
theorem dX7_undo_34 : decode cX7_undo 34 = .ok (.getfield 31, 3) := by decide +kernel
theorem dX7_undo_37 : decode cX7_undo 37 = .ok (.bipush 49, 2) := by decide +kernel
theorem dX7_undo_39 : decode cX7_undo 39 = .ok (.aload_n 0, 1) := by decide +kernel
theorem dX7_undo_40 : decode cX7_undo 40 = .ok (.getfield 142, 3) := by decide +kernel
theorem dX7_undo_43 : decode cX7_undo 43 = .ok (.imul, 1) := by decide +kernel
theorem dX7_undo_44 : decode cX7_undo 44 = .ok (.iload_n 1, 1) := by decide +kernel
theorem dX7_undo_45 : decode cX7_undo 45 = .ok (.iadd, 1) := by decide +kernel
theorem dX7_undo_46 : decode cX7_undo 46 = .ok (.iaload, 1) := by decide +kernel
theorem dX7_undo_47 : decode cX7_undo 47 = .ok (.iastore, 1) := by decide +kernel
theorem dX7_undo_48 : decode cX7_undo 48 = .ok (.iinc 1 1, 3) := by decide +kernel
theorem dX7_undo_51 : decode cX7_undo 51 = .ok (.goto (-29), 3) := by decide +kernel
theorem dX7_undo_54 : decode cX7_undo 54 = .ok (.aload_n 0, 1) := by decide +kernel
theorem dX7_undo_55 : decode cX7_undo 55 = .ok (.getfield 142, 3) := by decide +kernel
theorem dX7_undo_58 : decode cX7_undo 58 = .ok (.ireturn, 1) := by decide +kernel
theorem dX7_allWorn_0 : decode cX7_allWorn 0 = .ok (.iconst 0, 1) := by decide +kernel
theorem dX7_allWorn_1 : decode cX7_allWorn 1 = .ok (.istore_n 1, 1) := by decide +kernel
theorem dX7_allWorn_2 : decode cX7_allWorn 2 = .ok (.iconst 0, 1) := by decide +kernel
theorem dX7_allWorn_3 : decode cX7_allWorn 3 = .ok (.istore_n 2, 1) := by decide +kernel
theorem dX7_allWorn_4 : decode cX7_allWorn 4 = .ok (.iload_n 2, 1) := by decide +kernel
theorem dX7_allWorn_5 : decode cX7_allWorn 5 = .ok (.aload_n 0, 1) := by decide +kernel
theorem dX7_allWorn_6 : decode cX7_allWorn 6 = .ok (.getfield 19, 3) := by decide +kernel
theorem dX7_allWorn_9 : decode cX7_allWorn 9 = .ok (.iconst 0, 1) := by decide +kernel
theorem dX7_allWorn_10 : decode cX7_allWorn 10 = .ok (.iaload, 1) := by decide +kernel
theorem dX7_allWorn_11 : decode cX7_allWorn 11 = .ok (.if_icmp .ge 21, 3) := by decide +kernel
theorem dX7_allWorn_14 : decode cX7_allWorn 14 = .ok (.iload_n 1, 1) := by decide +kernel
theorem dX7_allWorn_15 : decode cX7_allWorn 15 = .ok (.aload_n 0, 1) := by decide +kernel
theorem dX7_allWorn_16 : decode cX7_allWorn 16 = .ok (.getfield 19, 3) := by decide +kernel
theorem dX7_allWorn_19 : decode cX7_allWorn 19 = .ok (.bipush 21, 2) := by decide +kernel
theorem dX7_allWorn_21 : decode cX7_allWorn 21 = .ok (.iload_n 2, 1) := by decide +kernel
theorem dX7_allWorn_22 : decode cX7_allWorn 22 = .ok (.iadd, 1) := by decide +kernel
theorem dX7_allWorn_23 : decode cX7_allWorn 23 = .ok (.iaload, 1) := by decide +kernel
theorem dX7_allWorn_24 : decode cX7_allWorn 24 = .ok (.iadd, 1) := by decide +kernel
theorem dX7_allWorn_25 : decode cX7_allWorn 25 = .ok (.istore_n 1, 1) := by decide +kernel
theorem dX7_allWorn_26 : decode cX7_allWorn 26 = .ok (.iinc 2 1, 3) := by decide +kernel
theorem dX7_allWorn_29 : decode cX7_allWorn 29 = .ok (.goto (-25), 3) := by decide +kernel
theorem dX7_allWorn_32 : decode cX7_allWorn 32 = .ok (.iload_n 1, 1) := by decide +kernel
theorem dX7_allWorn_33 : decode cX7_allWorn 33 = .ok (.ireturn, 1) := by decide +kernel
theorem dX7_days_0 : decode cX7_days 0 = .ok (.aload_n 0, 1) := by decide +kernel
theorem dX7_days_1 : decode cX7_days 1 = .ok (.getfield 138, 3) := by decide +kernel
theorem dX7_days_4 : decode cX7_days 4 = .ok (.ifCond .ne 6, 3) := by decide +kernel
theorem dX7_days_7 : decode cX7_days 7 = .ok (.ldc 172, 2) := by decide +kernel
theorem dX7_days_9 : decode cX7_days 9 = .ok (.ireturn, 1) := by decide +kernel
theorem dX7_days_10 : decode cX7_days 10 = .ok (.iload_n 1, 1) := by decide +kernel
theorem dX7_days_11 : decode cX7_days 11 = .ok (.i2l, 1) := by decide +kernel
theorem dX7_days_12 : decode cX7_days 12 = .ok (.lconst 1, 1) := by decide +kernel
theorem dX7_days_13 : decode cX7_days 13 = .ok (.ldc2_w 173, 3) := by decide +kernel
theorem dX7_days_16 : decode cX7_days 16 = .ok (.invokestatic 54, 3) := by decide +kernel
theorem dX7_days_19 : decode cX7_days 19 = .ok (.ifCond .ne 6, 3) := by decide +kernel
theorem dX7_days_22 : decode cX7_days 22 = .ok (.ldc 64, 2) := by decide +kernel
theorem dX7_days_24 : decode cX7_days 24 = .ok (.ireturn, 1) := by decide +kernel
theorem dX7_days_25 : decode cX7_days 25 = .ok (.aload_n 0, 1) := by decide +kernel
theorem dX7_days_26 : decode cX7_days 26 = .ok (.getfield 19, 3) := by decide +kernel
theorem dX7_days_29 : decode cX7_days 29 = .ok (.iconst 4, 1) := by decide +kernel
theorem dX7_days_30 : decode cX7_days 30 = .ok (.iaload, 1) := by decide +kernel
theorem dX7_days_31 : decode cX7_days 31 = .ok (.iload_n 1, 1) := by decide +kernel
theorem dX7_days_32 : decode cX7_days 32 = .ok (.iadd, 1) := by decide +kernel
theorem dX7_days_33 : decode cX7_days 33 = .ok (.sipush 999, 3) := by decide +kernel
theorem dX7_days_36 : decode cX7_days 36 = .ok (.if_icmp .le 6, 3) := by decide +kernel
theorem dX7_days_39 : decode cX7_days 39 = .ok (.ldc 81, 2) := by decide +kernel
theorem dX7_days_41 : decode cX7_days 41 = .ok (.ireturn, 1) := by decide +kernel
theorem dX7_days_42 : decode cX7_days 42 = .ok (.iconst 0, 1) := by decide +kernel
theorem dX7_days_43 : decode cX7_days 43 = .ok (.istore_n 2, 1) := by decide +kernel
theorem dX7_days_44 : decode cX7_days 44 = .ok (.iload_n 2, 1) := by decide +kernel
theorem dX7_days_45 : decode cX7_days 45 = .ok (.iload_n 1, 1) := by decide +kernel
theorem dX7_days_46 : decode cX7_days 46 = .ok (.if_icmp .ge 17, 3) := by decide +kernel
theorem dX7_days_49 : decode cX7_days 49 = .ok (.aload_n 0, 1) := by decide +kernel
theorem dX7_days_50 : decode cX7_days 50 = .ok (.invokevirtual 175, 3) := by decide +kernel
theorem dX7_days_53 : decode cX7_days 53 = .ok (.aload_n 0, 1) := by decide +kernel
theorem dX7_days_54 : decode cX7_days 54 = .ok (.invokevirtual 178, 3) := by decide +kernel
theorem dX7_days_57 : decode cX7_days 57 = .ok (.iinc 2 1, 3) := by decide +kernel
theorem dX7_days_60 : decode cX7_days 60 = .ok (.goto (-16), 3) := by decide +kernel
theorem dX7_days_63 : decode cX7_days 63 = .ok (.aload_n 0, 1) := by decide +kernel
theorem dX7_days_64 : decode cX7_days 64 = .ok (.invokevirtual 181, 3) := by decide +kernel
theorem dX7_days_67 : decode cX7_days 67 = .ok (.ireturn, 1) := by decide +kernel
theorem dX7_planeTo_0 : decode cX7_planeTo 0 = .ok (.aload_n 0, 1) := by decide +kernel
theorem dX7_planeTo_1 : decode cX7_planeTo 1 = .ok (.getfield 19, 3) := by decide +kernel
theorem dX7_planeTo_4 : decode cX7_planeTo 4 = .ok (.bipush 13, 2) := by decide +kernel
theorem dX7_planeTo_6 : decode cX7_planeTo 6 = .ok (.iload_n 1, 1) := by decide +kernel
theorem dX7_planeTo_7 : decode cX7_planeTo 7 = .ok (.iadd, 1) := by decide +kernel
theorem dX7_planeTo_8 : decode cX7_planeTo 8 = .ok (.iload_n 2, 1) := by decide +kernel
theorem dX7_planeTo_9 : decode cX7_planeTo 9 = .ok (.iastore, 1) := by decide +kernel
theorem dX7_planeTo_10 : decode cX7_planeTo 10 = .ok (.aload_n 0, 1) := by decide +kernel
theorem dX7_planeTo_11 : decode cX7_planeTo 11 = .ok (.getfield 19, 3) := by decide +kernel
theorem dX7_planeTo_14 : decode cX7_planeTo 14 = .ok (.bipush 21, 2) := by decide +kernel
theorem dX7_planeTo_16 : decode cX7_planeTo 16 = .ok (.iload_n 1, 1) := by decide +kernel
theorem dX7_planeTo_17 : decode cX7_planeTo 17 = .ok (.iadd, 1) := by decide +kernel
theorem dX7_planeTo_18 : decode cX7_planeTo 18 = .ok (.iconst 0, 1) := by decide +kernel
theorem dX7_planeTo_19 : decode cX7_planeTo 19 = .ok (.iastore, 1) := by decide +kernel
theorem dX7_planeTo_20 : decode cX7_planeTo 20 = .ok (.return_, 1) := by decide +kernel
theorem dX7_plane_0 : decode cX7_plane 0 = .ok (.aload_n 0, 1) := by decide +kernel
theorem dX7_plane_1 : decode cX7_plane 1 = .ok (.iload_n 1, 1) := by decide +kernel
theorem dX7_plane_2 : decode cX7_plane 2 = .ok (.invokevirtual 185, 3) := by decide +kernel
theorem dX7_plane_5 : decode cX7_plane 5 = .ok (.ifCond .eq 15, 3) := by decide +kernel
theorem dX7_plane_8 : decode cX7_plane 8 = .ok (.iload_n 2, 1) := by decide +kernel
theorem dX7_plane_9 : decode cX7_plane 9 = .ok (.i2l, 1) := by decide +kernel
theorem dX7_plane_10 : decode cX7_plane 10 = .ok (.lconst 0, 1) := by decide +kernel
theorem dX7_plane_11 : decode cX7_plane 11 = .ok (.ldc2_w 188, 3) := by decide +kernel
theorem dX7_plane_14 : decode cX7_plane 14 = .ok (.invokestatic 54, 3) := by decide +kernel
theorem dX7_plane_17 : decode cX7_plane 17 = .ok (.ifCond .ne 6, 3) := by decide +kernel
theorem dX7_plane_20 : decode cX7_plane 20 = .ok (.ldc 64, 2) := by decide +kernel
theorem dX7_plane_22 : decode cX7_plane 22 = .ok (.ireturn, 1) := by decide +kernel
theorem dX7_plane_23 : decode cX7_plane 23 = .ok (.aload_n 0, 1) := by decide +kernel
theorem dX7_plane_24 : decode cX7_plane 24 = .ok (.invokevirtual 175, 3) := by decide +kernel
theorem dX7_plane_27 : decode cX7_plane 27 = .ok (.aload_n 0, 1) := by decide +kernel
theorem dX7_plane_28 : decode cX7_plane 28 = .ok (.iload_n 1, 1) := by decide +kernel
theorem dX7_plane_29 : decode cX7_plane 29 = .ok (.invokevirtual 160, 3) := by decide +kernel
theorem dX7_plane_32 : decode cX7_plane 32 = .ok (.istore_n 3, 1) := by decide +kernel
theorem dX7_plane_33 : decode cX7_plane 33 = .ok (.aload_n 0, 1) := by decide +kernel
theorem dX7_plane_34 : decode cX7_plane 34 = .ok (.iload_n 1, 1) := by decide +kernel
theorem dX7_plane_35 : decode cX7_plane 35 = .ok (.iload_n 2, 1) := by decide +kernel
theorem dX7_plane_36 : decode cX7_plane 36 = .ok (.invokevirtual 190, 3) := by decide +kernel
theorem dX7_plane_39 : decode cX7_plane 39 = .ok (.iload_n 3, 1) := by decide +kernel
theorem dX7_plane_40 : decode cX7_plane 40 = .ok (.ireturn, 1) := by decide +kernel
theorem dX7_reach_0 : decode cX7_reach 0 = .ok (.aload_n 0, 1) := by decide +kernel
theorem dX7_reach_1 : decode cX7_reach 1 = .ok (.getfield 138, 3) := by decide +kernel
theorem dX7_reach_4 : decode cX7_reach 4 = .ok (.ifCond .ne 6, 3) := by decide +kernel
theorem dX7_reach_7 : decode cX7_reach 7 = .ok (.ldc 172, 2) := by decide +kernel
theorem dX7_reach_9 : decode cX7_reach 9 = .ok (.ireturn, 1) := by decide +kernel
theorem dX7_reach_10 : decode cX7_reach 10 = .ok (.iload_n 1, 1) := by decide +kernel
theorem dX7_reach_11 : decode cX7_reach 11 = .ok (.i2l, 1) := by decide +kernel
theorem dX7_reach_12 : decode cX7_reach 12 = .ok (.lconst 0, 1) := by decide +kernel
theorem dX7_reach_13 : decode cX7_reach 13 = .ok (.ldc2_w 188, 3) := by decide +kernel
theorem dX7_reach_16 : decode cX7_reach 16 = .ok (.invokestatic 54, 3) := by decide +kernel
theorem dX7_reach_19 : decode cX7_reach 19 = .ok (.ifCond .ne 6, 3) := by decide +kernel
theorem dX7_reach_22 : decode cX7_reach 22 = .ok (.ldc 64, 2) := by decide +kernel
theorem dX7_reach_24 : decode cX7_reach 24 = .ok (.ireturn, 1) := by decide +kernel
theorem dX7_reach_25 : decode cX7_reach 25 = .ok (.aload_n 0, 1) := by decide +kernel
theorem dX7_reach_26 : decode cX7_reach 26 = .ok (.invokevirtual 175, 3) := by decide +kernel
theorem dX7_reach_29 : decode cX7_reach 29 = .ok (.aload_n 0, 1) := by decide +kernel
theorem dX7_reach_30 : decode cX7_reach 30 = .ok (.getfield 19, 3) := by decide +kernel
theorem dX7_reach_33 : decode cX7_reach 33 = .ok (.iconst 3, 1) := by decide +kernel
theorem dX7_reach_34 : decode cX7_reach 34 = .ok (.iaload, 1) := by decide +kernel
theorem dX7_reach_35 : decode cX7_reach 35 = .ok (.istore_n 2, 1) := by decide +kernel
theorem dX7_reach_36 : decode cX7_reach 36 = .ok (.aload_n 0, 1) := by decide +kernel
theorem dX7_reach_37 : decode cX7_reach 37 = .ok (.getfield 19, 3) := by decide +kernel
theorem dX7_reach_40 : decode cX7_reach 40 = .ok (.iconst 3, 1) := by decide +kernel
theorem dX7_reach_41 : decode cX7_reach 41 = .ok (.iload_n 1, 1) := by decide +kernel
theorem dX7_reach_42 : decode cX7_reach 42 = .ok (.iastore, 1) := by decide +kernel
theorem dX7_reach_43 : decode cX7_reach 43 = .ok (.iload_n 2, 1) := by decide +kernel
theorem dX7_reach_44 : decode cX7_reach 44 = .ok (.ireturn, 1) := by decide +kernel
theorem dX7_way_0 : decode cX7_way 0 = .ok (.aload_n 0, 1) := by decide +kernel
theorem dX7_way_1 : decode cX7_way 1 = .ok (.iload_n 1, 1) := by decide +kernel
theorem dX7_way_2 : decode cX7_way 2 = .ok (.invokevirtual 194, 3) := by decide +kernel
theorem dX7_way_5 : decode cX7_way 5 = .ok (.ifCond .eq 19, 3) := by decide +kernel
theorem dX7_way_8 : decode cX7_way 8 = .ok (.aload_n 0, 1) := by decide +kernel
theorem dX7_way_9 : decode cX7_way 9 = .ok (.iload_n 2, 1) := by decide +kernel
theorem dX7_way_10 : decode cX7_way 10 = .ok (.invokevirtual 185, 3) := by decide +kernel
theorem dX7_way_13 : decode cX7_way 13 = .ok (.ifCond .eq 11, 3) := by decide +kernel
theorem dX7_way_16 : decode cX7_way 16 = .ok (.aload_n 0, 1) := by decide +kernel
theorem dX7_way_17 : decode cX7_way 17 = .ok (.iload_n 3, 1) := by decide +kernel
theorem dX7_way_18 : decode cX7_way 18 = .ok (.invokevirtual 185, 3) := by decide +kernel
theorem dX7_way_21 : decode cX7_way 21 = .ok (.ifCond .ne 6, 3) := by decide +kernel
theorem dX7_way_24 : decode cX7_way 24 = .ok (.ldc 64, 2) := by decide +kernel
theorem dX7_way_26 : decode cX7_way 26 = .ok (.ireturn, 1) := by decide +kernel
theorem dX7_way_27 : decode cX7_way 27 = .ok (.aload_n 0, 1) := by decide +kernel
theorem dX7_way_28 : decode cX7_way 28 = .ok (.invokevirtual 175, 3) := by decide +kernel
theorem dX7_way_31 : decode cX7_way 31 = .ok (.aload_n 0, 1) := by decide +kernel
theorem dX7_way_32 : decode cX7_way 32 = .ok (.getfield 19, 3) := by decide +kernel
theorem dX7_way_35 : decode cX7_way 35 = .ok (.bipush 29, 2) := by decide +kernel
theorem dX7_way_37 : decode cX7_way 37 = .ok (.iload_n 1, 1) := by decide +kernel
theorem dX7_way_38 : decode cX7_way 38 = .ok (.iadd, 1) := by decide +kernel
theorem dX7_way_39 : decode cX7_way 39 = .ok (.iload_n 2, 1) := by decide +kernel
theorem dX7_way_40 : decode cX7_way 40 = .ok (.iastore, 1) := by decide +kernel
theorem dX7_way_41 : decode cX7_way 41 = .ok (.aload_n 0, 1) := by decide +kernel
theorem dX7_way_42 : decode cX7_way 42 = .ok (.getfield 19, 3) := by decide +kernel
theorem dX7_way_45 : decode cX7_way 45 = .ok (.bipush 34, 2) := by decide +kernel
theorem dX7_way_47 : decode cX7_way 47 = .ok (.iload_n 1, 1) := by decide +kernel
theorem dX7_way_48 : decode cX7_way 48 = .ok (.iadd, 1) := by decide +kernel
theorem dX7_way_49 : decode cX7_way 49 = .ok (.iload_n 3, 1) := by decide +kernel
theorem dX7_way_50 : decode cX7_way 50 = .ok (.iastore, 1) := by decide +kernel
theorem dX7_way_51 : decode cX7_way 51 = .ok (.aload_n 0, 1) := by decide +kernel
theorem dX7_way_52 : decode cX7_way 52 = .ok (.iload_n 1, 1) := by decide +kernel
theorem dX7_way_53 : decode cX7_way 53 = .ok (.invokevirtual 150, 3) := by decide +kernel
theorem dX7_way_56 : decode cX7_way 56 = .ok (.ireturn, 1) := by decide +kernel
theorem dX7_gait_0 : decode cX7_gait 0 = .ok (.aload_n 0, 1) := by decide +kernel
theorem dX7_gait_1 : decode cX7_gait 1 = .ok (.iload_n 1, 1) := by decide +kernel
theorem dX7_gait_2 : decode cX7_gait 2 = .ok (.invokevirtual 194, 3) := by decide +kernel
theorem dX7_gait_5 : decode cX7_gait 5 = .ok (.ifCond .eq 27, 3) := by decide +kernel
theorem dX7_gait_8 : decode cX7_gait 8 = .ok (.iload_n 2, 1) := by decide +kernel
theorem dX7_gait_9 : decode cX7_gait 9 = .ok (.i2l, 1) := by decide +kernel
theorem dX7_gait_10 : decode cX7_gait 10 = .ok (.lconst 1, 1) := by decide +kernel
theorem dX7_gait_11 : decode cX7_gait 11 = .ok (.ldc2_w 197, 3) := by decide +kernel
theorem dX7_gait_14 : decode cX7_gait 14 = .ok (.invokestatic 54, 3) := by decide +kernel
theorem dX7_gait_17 : decode cX7_gait 17 = .ok (.ifCond .eq 15, 3) := by decide +kernel
theorem dX7_gait_20 : decode cX7_gait 20 = .ok (.iload_n 3, 1) := by decide +kernel
theorem dX7_gait_21 : decode cX7_gait 21 = .ok (.i2l, 1) := by decide +kernel
theorem dX7_gait_22 : decode cX7_gait 22 = .ok (.lconst 0, 1) := by decide +kernel
theorem dX7_gait_23 : decode cX7_gait 23 = .ok (.ldc2_w 199, 3) := by decide +kernel
theorem dX7_gait_26 : decode cX7_gait 26 = .ok (.invokestatic 54, 3) := by decide +kernel
theorem dX7_gait_29 : decode cX7_gait 29 = .ok (.ifCond .ne 6, 3) := by decide +kernel
theorem dX7_gait_32 : decode cX7_gait 32 = .ok (.ldc 64, 2) := by decide +kernel
theorem dX7_gait_34 : decode cX7_gait 34 = .ok (.ireturn, 1) := by decide +kernel
theorem dX7_gait_35 : decode cX7_gait 35 = .ok (.aload_n 0, 1) := by decide +kernel
theorem dX7_gait_36 : decode cX7_gait 36 = .ok (.invokevirtual 175, 3) := by decide +kernel
theorem dX7_gait_39 : decode cX7_gait 39 = .ok (.aload_n 0, 1) := by decide +kernel
theorem dX7_gait_40 : decode cX7_gait 40 = .ok (.getfield 19, 3) := by decide +kernel
theorem dX7_gait_43 : decode cX7_gait 43 = .ok (.bipush 39, 2) := by decide +kernel
theorem dX7_gait_45 : decode cX7_gait 45 = .ok (.iload_n 1, 1) := by decide +kernel
theorem dX7_gait_46 : decode cX7_gait 46 = .ok (.iadd, 1) := by decide +kernel
theorem dX7_gait_47 : decode cX7_gait 47 = .ok (.iload_n 2, 1) := by decide +kernel
theorem dX7_gait_48 : decode cX7_gait 48 = .ok (.iastore, 1) := by decide +kernel
theorem dX7_gait_49 : decode cX7_gait 49 = .ok (.aload_n 0, 1) := by decide +kernel
theorem dX7_gait_50 : decode cX7_gait 50 = .ok (.getfield 19, 3) := by decide +kernel
theorem dX7_gait_53 : decode cX7_gait 53 = .ok (.bipush 44, 2) := by decide +kernel
theorem dX7_gait_55 : decode cX7_gait 55 = .ok (.iload_n 1, 1) := by decide +kernel
theorem dX7_gait_56 : decode cX7_gait 56 = .ok (.iadd, 1) := by decide +kernel
theorem dX7_gait_57 : decode cX7_gait 57 = .ok (.iload_n 3, 1) := by decide +kernel
theorem dX7_gait_58 : decode cX7_gait 58 = .ok (.iastore, 1) := by decide +kernel
theorem dX7_gait_59 : decode cX7_gait 59 = .ok (.aload_n 0, 1) := by decide +kernel
theorem dX7_gait_60 : decode cX7_gait 60 = .ok (.iload_n 1, 1) := by decide +kernel
theorem dX7_gait_61 : decode cX7_gait 61 = .ok (.invokevirtual 150, 3) := by decide +kernel
theorem dX7_gait_64 : decode cX7_gait 64 = .ok (.ireturn, 1) := by decide +kernel
theorem dX7_whoSteps_0 : decode cX7_whoSteps 0 = .ok (.iconst 0, 1) := by decide +kernel
theorem dX7_whoSteps_1 : decode cX7_whoSteps 1 = .ok (.istore_n 2, 1) := by decide +kernel
theorem dX7_whoSteps_2 : decode cX7_whoSteps 2 = .ok (.iconst 0, 1) := by decide +kernel
theorem dX7_whoSteps_3 : decode cX7_whoSteps 3 = .ok (.istore_n 3, 1) := by decide +kernel
theorem dX7_whoSteps_4 : decode cX7_whoSteps 4 = .ok (.iload_n 3, 1) := by decide +kernel
theorem dX7_whoSteps_5 : decode cX7_whoSteps 5 = .ok (.aload_n 0, 1) := by decide +kernel
theorem dX7_whoSteps_6 : decode cX7_whoSteps 6 = .ok (.getfield 19, 3) := by decide +kernel
theorem dX7_whoSteps_9 : decode cX7_whoSteps 9 = .ok (.iconst 1, 1) := by decide +kernel
theorem dX7_whoSteps_10 : decode cX7_whoSteps 10 = .ok (.iaload, 1) := by decide +kernel
theorem dX7_whoSteps_11 : decode cX7_whoSteps 11 = .ok (.if_icmp .ge 49, 3) := by decide +kernel
theorem dX7_whoSteps_14 : decode cX7_whoSteps 14 = .ok (.iconst 0, 1) := by decide +kernel
theorem dX7_whoSteps_15 : decode cX7_whoSteps 15 = .ok (.istore 4, 2) := by decide +kernel
theorem dX7_whoSteps_17 : decode cX7_whoSteps 17 = .ok (.iload 4, 2) := by decide +kernel
theorem dX7_whoSteps_19 : decode cX7_whoSteps 19 = .ok (.aload_n 0, 1) := by decide +kernel
theorem dX7_whoSteps_20 : decode cX7_whoSteps 20 = .ok (.iload_n 3, 1) := by decide +kernel
theorem dX7_whoSteps_21 : decode cX7_whoSteps 21 = .ok (.invokevirtual 150, 3) := by decide +kernel
theorem dX7_whoSteps_24 : decode cX7_whoSteps 24 = .ok (.if_icmp .ge 30, 3) := by decide +kernel
theorem dX7_whoSteps_27 : decode cX7_whoSteps 27 = .ok (.iload_n 2, 1) := by decide +kernel
theorem dX7_whoSteps_28 : decode cX7_whoSteps 28 = .ok (.aload_n 0, 1) := by decide +kernel
theorem dX7_whoSteps_29 : decode cX7_whoSteps 29 = .ok (.iload_n 3, 1) := by decide +kernel
theorem dX7_whoSteps_30 : decode cX7_whoSteps 30 = .ok (.iload 4, 2) := by decide +kernel
theorem dX7_whoSteps_32 : decode cX7_whoSteps 32 = .ok (.invokevirtual 153, 3) := by decide +kernel
theorem dX7_whoSteps_35 : decode cX7_whoSteps 35 = .ok (.iload_n 1, 1) := by decide +kernel
theorem dX7_whoSteps_36 : decode cX7_whoSteps 36 = .ok (.if_icmp .ne 9, 3) := by decide +kernel
theorem dX7_whoSteps_39 : decode cX7_whoSteps 39 = .ok (.iconst 1, 1) := by decide +kernel
theorem dX7_whoSteps_40 : decode cX7_whoSteps 40 = .ok (.iload_n 3, 1) := by decide +kernel
theorem dX7_whoSteps_41 : decode cX7_whoSteps 41 = .ok (.ishl, 1) := by decide +kernel
theorem dX7_whoSteps_42 : decode cX7_whoSteps 42 = .ok (.goto 4, 3) := by decide +kernel
theorem dX7_whoSteps_45 : decode cX7_whoSteps 45 = .ok (.iconst 0, 1) := by decide +kernel
theorem dX7_whoSteps_46 : decode cX7_whoSteps 46 = .ok (.ior, 1) := by decide +kernel
theorem dX7_whoSteps_47 : decode cX7_whoSteps 47 = .ok (.istore_n 2, 1) := by decide +kernel
theorem dX7_whoSteps_48 : decode cX7_whoSteps 48 = .ok (.iinc 4 1, 3) := by decide +kernel
theorem dX7_whoSteps_51 : decode cX7_whoSteps 51 = .ok (.goto (-34), 3) := by decide +kernel
theorem dX7_whoSteps_54 : decode cX7_whoSteps 54 = .ok (.iinc 3 1, 3) := by decide +kernel
theorem dX7_whoSteps_57 : decode cX7_whoSteps 57 = .ok (.goto (-53), 3) := by decide +kernel
theorem dX7_whoSteps_60 : decode cX7_whoSteps 60 = .ok (.iload_n 2, 1) := by decide +kernel
theorem dX7_whoSteps_61 : decode cX7_whoSteps 61 = .ok (.ireturn, 1) := by decide +kernel
theorem dX7_tread_0 : decode cX7_tread 0 = .ok (.aload_n 0, 1) := by decide +kernel
theorem dX7_tread_1 : decode cX7_tread 1 = .ok (.iload_n 1, 1) := by decide +kernel
theorem dX7_tread_2 : decode cX7_tread 2 = .ok (.invokevirtual 185, 3) := by decide +kernel
theorem dX7_tread_5 : decode cX7_tread 5 = .ok (.ifCond .eq 15, 3) := by decide +kernel
theorem dX7_tread_8 : decode cX7_tread 8 = .ok (.iload_n 2, 1) := by decide +kernel
theorem dX7_tread_9 : decode cX7_tread 9 = .ok (.i2l, 1) := by decide +kernel
theorem dX7_tread_10 : decode cX7_tread 10 = .ok (.lconst 0, 1) := by decide +kernel
theorem dX7_tread_11 : decode cX7_tread 11 = .ok (.ldc2_w 197, 3) := by decide +kernel
theorem dX7_tread_14 : decode cX7_tread 14 = .ok (.invokestatic 54, 3) := by decide +kernel
theorem dX7_tread_17 : decode cX7_tread 17 = .ok (.ifCond .ne 8, 3) := by decide +kernel
theorem dX7_tread_20 : decode cX7_tread 20 = .ok (.ldc 64, 2) := by decide +kernel
theorem dX7_tread_22 : decode cX7_tread 22 = .ok (.goto 54, 3) := by decide +kernel
theorem dX7_tread_25 : decode cX7_tread 25 = .ok (.iload_n 2, 1) := by decide +kernel
theorem dX7_tread_26 : decode cX7_tread 26 = .ok (.ifCond .ne 15, 3) := by decide +kernel
theorem dX7_tread_29 : decode cX7_tread 29 = .ok (.aload_n 0, 1) := by decide +kernel
theorem dX7_tread_30 : decode cX7_tread 30 = .ok (.getfield 19, 3) := by decide +kernel
theorem dX7_tread_33 : decode cX7_tread 33 = .ok (.bipush 13, 2) := by decide +kernel
theorem dX7_tread_35 : decode cX7_tread 35 = .ok (.iload_n 1, 1) := by decide +kernel
theorem dX7_tread_36 : decode cX7_tread 36 = .ok (.iadd, 1) := by decide +kernel
theorem dX7_tread_37 : decode cX7_tread 37 = .ok (.iaload, 1) := by decide +kernel
theorem dX7_tread_38 : decode cX7_tread 38 = .ok (.goto 38, 3) := by decide +kernel
theorem dX7_tread_41 : decode cX7_tread 41 = .ok (.iload_n 2, 1) := by decide +kernel
theorem dX7_tread_42 : decode cX7_tread 42 = .ok (.iconst 1, 1) := by decide +kernel
theorem dX7_tread_43 : decode cX7_tread 43 = .ok (.if_icmp .ne 15, 3) := by decide +kernel
theorem dX7_tread_46 : decode cX7_tread 46 = .ok (.aload_n 0, 1) := by decide +kernel
theorem dX7_tread_47 : decode cX7_tread 47 = .ok (.getfield 19, 3) := by decide +kernel
theorem dX7_tread_50 : decode cX7_tread 50 = .ok (.bipush 21, 2) := by decide +kernel
theorem dX7_tread_52 : decode cX7_tread 52 = .ok (.iload_n 1, 1) := by decide +kernel
theorem dX7_tread_53 : decode cX7_tread 53 = .ok (.iadd, 1) := by decide +kernel
theorem dX7_tread_54 : decode cX7_tread 54 = .ok (.iaload, 1) := by decide +kernel
theorem dX7_tread_55 : decode cX7_tread 55 = .ok (.goto 21, 3) := by decide +kernel
theorem dX7_tread_58 : decode cX7_tread 58 = .ok (.iload_n 2, 1) := by decide +kernel
theorem dX7_tread_59 : decode cX7_tread 59 = .ok (.iconst 2, 1) := by decide +kernel
theorem dX7_tread_60 : decode cX7_tread 60 = .ok (.if_icmp .ne 11, 3) := by decide +kernel
theorem dX7_tread_63 : decode cX7_tread 63 = .ok (.aload_n 0, 1) := by decide +kernel
theorem dX7_tread_64 : decode cX7_tread 64 = .ok (.iload_n 1, 1) := by decide +kernel
theorem dX7_tread_65 : decode cX7_tread 65 = .ok (.invokevirtual 160, 3) := by decide +kernel
theorem dX7_tread_68 : decode cX7_tread 68 = .ok (.goto 8, 3) := by decide +kernel
theorem dX7_tread_71 : decode cX7_tread 71 = .ok (.aload_n 0, 1) := by decide +kernel
theorem dX7_tread_72 : decode cX7_tread 72 = .ok (.iload_n 1, 1) := by decide +kernel
theorem dX7_tread_73 : decode cX7_tread 73 = .ok (.invokevirtual 201, 3) := by decide +kernel
theorem dX7_tread_76 : decode cX7_tread 76 = .ok (.ireturn, 1) := by decide +kernel
theorem dX7_walker_0 : decode cX7_walker 0 = .ok (.aload_n 0, 1) := by decide +kernel
theorem dX7_walker_1 : decode cX7_walker 1 = .ok (.iload_n 1, 1) := by decide +kernel
theorem dX7_walker_2 : decode cX7_walker 2 = .ok (.invokevirtual 194, 3) := by decide +kernel
theorem dX7_walker_5 : decode cX7_walker 5 = .ok (.ifCond .eq 15, 3) := by decide +kernel
theorem dX7_walker_8 : decode cX7_walker 8 = .ok (.iload_n 2, 1) := by decide +kernel
theorem dX7_walker_9 : decode cX7_walker 9 = .ok (.i2l, 1) := by decide +kernel
theorem dX7_walker_10 : decode cX7_walker 10 = .ok (.lconst 0, 1) := by decide +kernel
theorem dX7_walker_11 : decode cX7_walker 11 = .ok (.ldc2_w 197, 3) := by decide +kernel
theorem dX7_walker_14 : decode cX7_walker 14 = .ok (.invokestatic 54, 3) := by decide +kernel
theorem dX7_walker_17 : decode cX7_walker 17 = .ok (.ifCond .ne 8, 3) := by decide +kernel
theorem dX7_walker_20 : decode cX7_walker 20 = .ok (.ldc 64, 2) := by decide +kernel
theorem dX7_walker_22 : decode cX7_walker 22 = .ok (.goto 16, 3) := by decide +kernel
theorem dX7_walker_25 : decode cX7_walker 25 = .ok (.aload_n 0, 1) := by decide +kernel
theorem dX7_walker_26 : decode cX7_walker 26 = .ok (.getfield 19, 3) := by decide +kernel
theorem dX7_walker_29 : decode cX7_walker 29 = .ok (.bipush 29, 2) := by decide +kernel
theorem dX7_walker_31 : decode cX7_walker 31 = .ok (.iconst 5, 1) := by decide +kernel
theorem dX7_walker_32 : decode cX7_walker 32 = .ok (.iload_n 2, 1) := by decide +kernel
theorem dX7_walker_33 : decode cX7_walker 33 = .ok (.imul, 1) := by decide +kernel
theorem dX7_walker_34 : decode cX7_walker 34 = .ok (.iadd, 1) := by decide +kernel
theorem dX7_walker_35 : decode cX7_walker 35 = .ok (.iload_n 1, 1) := by decide +kernel
theorem dX7_walker_36 : decode cX7_walker 36 = .ok (.iadd, 1) := by decide +kernel
theorem dX7_walker_37 : decode cX7_walker 37 = .ok (.iaload, 1) := by decide +kernel
theorem dX7_walker_38 : decode cX7_walker 38 = .ok (.ireturn, 1) := by decide +kernel
theorem dX7_tuneOf_0 : decode cX7_tuneOf 0 = .ok (.aload_n 0, 1) := by decide +kernel
theorem dX7_tuneOf_1 : decode cX7_tuneOf 1 = .ok (.aload_n 0, 1) := by decide +kernel
theorem dX7_tuneOf_2 : decode cX7_tuneOf 2 = .ok (.iload_n 1, 1) := by decide +kernel
theorem dX7_tuneOf_3 : decode cX7_tuneOf 3 = .ok (.iload_n 2, 1) := by decide +kernel
theorem dX7_tuneOf_4 : decode cX7_tuneOf 4 = .ok (.invokevirtual 153, 3) := by decide +kernel
theorem dX7_tuneOf_7 : decode cX7_tuneOf 7 = .ok (.aload_n 0, 1) := by decide +kernel
theorem dX7_tuneOf_8 : decode cX7_tuneOf 8 = .ok (.getfield 19, 3) := by decide +kernel
theorem dX7_tuneOf_11 : decode cX7_tuneOf 11 = .ok (.bipush 39, 2) := by decide +kernel
theorem dX7_tuneOf_13 : decode cX7_tuneOf 13 = .ok (.iload_n 1, 1) := by decide +kernel
theorem dX7_tuneOf_14 : decode cX7_tuneOf 14 = .ok (.iadd, 1) := by decide +kernel
theorem dX7_tuneOf_15 : decode cX7_tuneOf 15 = .ok (.iaload, 1) := by decide +kernel
theorem dX7_tuneOf_16 : decode cX7_tuneOf 16 = .ok (.invokevirtual 169, 3) := by decide +kernel
theorem dX7_tuneOf_19 : decode cX7_tuneOf 19 = .ok (.istore_n 3, 1) := by decide +kernel
theorem dX7_tuneOf_20 : decode cX7_tuneOf 20 = .ok (.iload_n 3, 1) := by decide +kernel
theorem dX7_tuneOf_21 : decode cX7_tuneOf 21 = .ok (.ifCond .ge 8, 3) := by decide +kernel
theorem dX7_tuneOf_24 : decode cX7_tuneOf 24 = .ok (.bipush 10, 2) := by decide +kernel
theorem dX7_tuneOf_26 : decode cX7_tuneOf 26 = .ok (.goto 4, 3) := by decide +kernel
theorem dX7_tuneOf_29 : decode cX7_tuneOf 29 = .ok (.iload_n 3, 1) := by decide +kernel
theorem dX7_tuneOf_30 : decode cX7_tuneOf 30 = .ok (.ireturn, 1) := by decide +kernel
theorem dX7_tune_0 : decode cX7_tune 0 = .ok (.aload_n 0, 1) := by decide +kernel
theorem dX7_tune_1 : decode cX7_tune 1 = .ok (.iload_n 1, 1) := by decide +kernel
theorem dX7_tune_2 : decode cX7_tune 2 = .ok (.invokevirtual 194, 3) := by decide +kernel
theorem dX7_tune_5 : decode cX7_tune 5 = .ok (.ifCond .eq 7, 3) := by decide +kernel
theorem dX7_tune_8 : decode cX7_tune 8 = .ok (.iload_n 2, 1) := by decide +kernel
theorem dX7_tune_9 : decode cX7_tune 9 = .ok (.ifCond .ge 6, 3) := by decide +kernel
theorem dX7_tune_12 : decode cX7_tune 12 = .ok (.ldc 64, 2) := by decide +kernel
theorem dX7_tune_14 : decode cX7_tune 14 = .ok (.ireturn, 1) := by decide +kernel
theorem dX7_tune_15 : decode cX7_tune 15 = .ok (.iload_n 2, 1) := by decide +kernel
theorem dX7_tune_16 : decode cX7_tune 16 = .ok (.aload_n 0, 1) := by decide +kernel
theorem dX7_tune_17 : decode cX7_tune 17 = .ok (.iload_n 1, 1) := by decide +kernel
theorem dX7_tune_18 : decode cX7_tune 18 = .ok (.invokevirtual 150, 3) := by decide +kernel
theorem dX7_tune_21 : decode cX7_tune 21 = .ok (.if_icmp .ge 12, 3) := by decide +kernel
theorem dX7_tune_24 : decode cX7_tune 24 = .ok (.aload_n 0, 1) := by decide +kernel
theorem dX7_tune_25 : decode cX7_tune 25 = .ok (.iload_n 1, 1) := by decide +kernel
theorem dX7_tune_26 : decode cX7_tune 26 = .ok (.iload_n 2, 1) := by decide +kernel
theorem dX7_tune_27 : decode cX7_tune 27 = .ok (.invokevirtual 204, 3) := by decide +kernel
theorem dX7_tune_30 : decode cX7_tune 30 = .ok (.goto 5, 3) := by decide +kernel
theorem dX7_tune_33 : decode cX7_tune 33 = .ok (.ldc 207, 2) := by decide +kernel
theorem dX7_tune_35 : decode cX7_tune 35 = .ok (.ireturn, 1) := by decide +kernel
theorem dX7_where_0 : decode cX7_where 0 = .ok (.aload_n 0, 1) := by decide +kernel
theorem dX7_where_1 : decode cX7_where 1 = .ok (.iload_n 1, 1) := by decide +kernel
theorem dX7_where_2 : decode cX7_where 2 = .ok (.invokevirtual 194, 3) := by decide +kernel
theorem dX7_where_5 : decode cX7_where 5 = .ok (.ifCond .eq 10, 3) := by decide +kernel
theorem dX7_where_8 : decode cX7_where 8 = .ok (.iload_n 2, 1) := by decide +kernel
theorem dX7_where_9 : decode cX7_where 9 = .ok (.invokestatic 208, 3) := by decide +kernel
theorem dX7_where_12 : decode cX7_where 12 = .ok (.ifCond .ne 6, 3) := by decide +kernel
theorem dX7_where_15 : decode cX7_where 15 = .ok (.ldc 64, 2) := by decide +kernel
theorem dX7_where_17 : decode cX7_where 17 = .ok (.ireturn, 1) := by decide +kernel
theorem dX7_where_18 : decode cX7_where 18 = .ok (.aload_n 0, 1) := by decide +kernel
theorem dX7_where_19 : decode cX7_where 19 = .ok (.iload_n 1, 1) := by decide +kernel
theorem dX7_where_20 : decode cX7_where 20 = .ok (.iload_n 2, 1) := by decide +kernel
theorem dX7_where_21 : decode cX7_where 21 = .ok (.invokevirtual 166, 3) := by decide +kernel
theorem dX7_where_24 : decode cX7_where 24 = .ok (.istore_n 3, 1) := by decide +kernel
theorem dX7_where_25 : decode cX7_where 25 = .ok (.iload_n 3, 1) := by decide +kernel
theorem dX7_where_26 : decode cX7_where 26 = .ok (.ifCond .ge 8, 3) := by decide +kernel
theorem dX7_where_29 : decode cX7_where 29 = .ok (.ldc 207, 2) := by decide +kernel
theorem dX7_where_31 : decode cX7_where 31 = .ok (.goto 4, 3) := by decide +kernel
theorem dX7_where_34 : decode cX7_where 34 = .ok (.iload_n 3, 1) := by decide +kernel
theorem dX7_where_35 : decode cX7_where 35 = .ok (.ireturn, 1) := by decide +kernel
theorem dX7_heard_0 : decode cX7_heard 0 = .ok (.aload_n 0, 1) := by decide +kernel
theorem dX7_heard_1 : decode cX7_heard 1 = .ok (.iload_n 1, 1) := by decide +kernel
theorem dX7_heard_2 : decode cX7_heard 2 = .ok (.invokevirtual 185, 3) := by decide +kernel
theorem dX7_heard_5 : decode cX7_heard 5 = .ok (.ifCond .eq 19, 3) := by decide +kernel
theorem dX7_heard_8 : decode cX7_heard 8 = .ok (.iload_n 2, 1) := by decide +kernel
theorem dX7_heard_9 : decode cX7_heard 9 = .ok (.invokestatic 208, 3) := by decide +kernel
theorem dX7_heard_12 : decode cX7_heard 12 = .ok (.ifCond .eq 12, 3) := by decide +kernel
theorem dX7_heard_15 : decode cX7_heard 15 = .ok (.aload_n 0, 1) := by decide +kernel
theorem dX7_heard_16 : decode cX7_heard 16 = .ok (.iload_n 1, 1) := by decide +kernel
theorem dX7_heard_17 : decode cX7_heard 17 = .ok (.iload_n 2, 1) := by decide +kernel
theorem dX7_heard_18 : decode cX7_heard 18 = .ok (.invokevirtual 211, 3) := by decide +kernel
theorem dX7_heard_21 : decode cX7_heard 21 = .ok (.goto 5, 3) := by decide +kernel
theorem dX7_heard_24 : decode cX7_heard 24 = .ok (.ldc 64, 2) := by decide +kernel
theorem dX7_heard_26 : decode cX7_heard 26 = .ok (.ireturn, 1) := by decide +kernel
theorem dX7_putAside_0 : decode cX7_putAside 0 = .ok (.iconst 0, 1) := by decide +kernel
theorem dX7_putAside_1 : decode cX7_putAside 1 = .ok (.istore_n 1, 1) := by decide +kernel
theorem dX7_putAside_2 : decode cX7_putAside 2 = .ok (.iload_n 1, 1) := by decide +kernel
theorem dX7_putAside_3 : decode cX7_putAside 3 = .ok (.bipush 49, 2) := by decide +kernel
theorem dX7_putAside_5 : decode cX7_putAside 5 = .ok (.if_icmp .ge 21, 3) := by decide +kernel
theorem dX7_putAside_8 : decode cX7_putAside 8 = .ok (.aload_n 0, 1) := by decide +kernel
theorem dX7_putAside_9 : decode cX7_putAside 9 = .ok (.getfield 34, 3) := by decide +kernel
theorem dX7_putAside_12 : decode cX7_putAside 12 = .ok (.iload_n 1, 1) := by decide +kernel
theorem dX7_putAside_13 : decode cX7_putAside 13 = .ok (.aload_n 0, 1) := by decide +kernel
theorem dX7_putAside_14 : decode cX7_putAside 14 = .ok (.getfield 19, 3) := by decide +kernel
theorem dX7_putAside_17 : decode cX7_putAside 17 = .ok (.iload_n 1, 1) := by decide +kernel
theorem dX7_putAside_18 : decode cX7_putAside 18 = .ok (.iaload, 1) := by decide +kernel
theorem dX7_putAside_19 : decode cX7_putAside 19 = .ok (.iastore, 1) := by decide +kernel
theorem dX7_putAside_20 : decode cX7_putAside 20 = .ok (.iinc 1 1, 3) := by decide +kernel
theorem dX7_putAside_23 : decode cX7_putAside 23 = .ok (.goto (-21), 3) := by decide +kernel
theorem dX7_putAside_26 : decode cX7_putAside 26 = .ok (.return_, 1) := by decide +kernel
theorem dX7_takeBack_0 : decode cX7_takeBack 0 = .ok (.iconst 0, 1) := by decide +kernel
theorem dX7_takeBack_1 : decode cX7_takeBack 1 = .ok (.istore_n 1, 1) := by decide +kernel
theorem dX7_takeBack_2 : decode cX7_takeBack 2 = .ok (.iload_n 1, 1) := by decide +kernel
theorem dX7_takeBack_3 : decode cX7_takeBack 3 = .ok (.bipush 49, 2) := by decide +kernel
theorem dX7_takeBack_5 : decode cX7_takeBack 5 = .ok (.if_icmp .ge 21, 3) := by decide +kernel
theorem dX7_takeBack_8 : decode cX7_takeBack 8 = .ok (.aload_n 0, 1) := by decide +kernel
theorem dX7_takeBack_9 : decode cX7_takeBack 9 = .ok (.getfield 19, 3) := by decide +kernel
theorem dX7_takeBack_12 : decode cX7_takeBack 12 = .ok (.iload_n 1, 1) := by decide +kernel
theorem dX7_takeBack_13 : decode cX7_takeBack 13 = .ok (.aload_n 0, 1) := by decide +kernel
theorem dX7_takeBack_14 : decode cX7_takeBack 14 = .ok (.getfield 34, 3) := by decide +kernel
theorem dX7_takeBack_17 : decode cX7_takeBack 17 = .ok (.iload_n 1, 1) := by decide +kernel
theorem dX7_takeBack_18 : decode cX7_takeBack 18 = .ok (.iaload, 1) := by decide +kernel
theorem dX7_takeBack_19 : decode cX7_takeBack 19 = .ok (.iastore, 1) := by decide +kernel
theorem dX7_takeBack_20 : decode cX7_takeBack 20 = .ok (.iinc 1 1, 3) := by decide +kernel
theorem dX7_takeBack_23 : decode cX7_takeBack 23 = .ok (.goto (-21), 3) := by decide +kernel
theorem dX7_takeBack_26 : decode cX7_takeBack 26 = .ok (.return_, 1) := by decide +kernel
theorem dX7_isWhat_0 : decode cX7_isWhat 0 = .ok (.iload_n 0, 1) := by decide +kernel
theorem dX7_isWhat_1 : decode cX7_isWhat 1 = .ok (.i2l, 1) := by decide +kernel
theorem dX7_isWhat_2 : decode cX7_isWhat 2 = .ok (.lconst 0, 1) := by decide +kernel
theorem dX7_isWhat_3 : decode cX7_isWhat 3 = .ok (.lconst 1, 1) := by decide +kernel
theorem dX7_isWhat_4 : decode cX7_isWhat 4 = .ok (.invokestatic 54, 3) := by decide +kernel
theorem dX7_isWhat_7 : decode cX7_isWhat 7 = .ok (.ireturn, 1) := by decide +kernel
theorem dX7_ahead_0 : decode cX7_ahead 0 = .ok (.aload_n 0, 1) := by decide +kernel
theorem dX7_ahead_1 : decode cX7_ahead 1 = .ok (.iload_n 1, 1) := by decide +kernel
theorem dX7_ahead_2 : decode cX7_ahead 2 = .ok (.invokevirtual 185, 3) := by decide +kernel
theorem dX7_ahead_5 : decode cX7_ahead 5 = .ok (.ifCond .eq 22, 3) := by decide +kernel
theorem dX7_ahead_8 : decode cX7_ahead 8 = .ok (.iload_n 2, 1) := by decide +kernel
theorem dX7_ahead_9 : decode cX7_ahead 9 = .ok (.i2l, 1) := by decide +kernel
theorem dX7_ahead_10 : decode cX7_ahead 10 = .ok (.lconst 0, 1) := by decide +kernel
theorem dX7_ahead_11 : decode cX7_ahead 11 = .ok (.ldc2_w 214, 3) := by decide +kernel
theorem dX7_ahead_14 : decode cX7_ahead 14 = .ok (.invokestatic 54, 3) := by decide +kernel
theorem dX7_ahead_17 : decode cX7_ahead 17 = .ok (.ifCond .eq 10, 3) := by decide +kernel
theorem dX7_ahead_20 : decode cX7_ahead 20 = .ok (.iload_n 3, 1) := by decide +kernel
theorem dX7_ahead_21 : decode cX7_ahead 21 = .ok (.invokestatic 216, 3) := by decide +kernel
theorem dX7_ahead_24 : decode cX7_ahead 24 = .ok (.ifCond .ne 6, 3) := by decide +kernel
theorem dX7_ahead_27 : decode cX7_ahead 27 = .ok (.ldc 64, 2) := by decide +kernel
theorem dX7_ahead_29 : decode cX7_ahead 29 = .ok (.ireturn, 1) := by decide +kernel
theorem dX7_ahead_30 : decode cX7_ahead 30 = .ok (.aload_n 0, 1) := by decide +kernel
theorem dX7_ahead_31 : decode cX7_ahead 31 = .ok (.invokevirtual 219, 3) := by decide +kernel
theorem dX7_ahead_34 : decode cX7_ahead 34 = .ok (.iconst 0, 1) := by decide +kernel
theorem dX7_ahead_35 : decode cX7_ahead 35 = .ok (.istore 4, 2) := by decide +kernel
theorem dX7_ahead_37 : decode cX7_ahead 37 = .ok (.iload 4, 2) := by decide +kernel
theorem dX7_ahead_39 : decode cX7_ahead 39 = .ok (.iload_n 2, 1) := by decide +kernel
theorem dX7_ahead_40 : decode cX7_ahead 40 = .ok (.if_icmp .ge 13, 3) := by decide +kernel
theorem dX7_ahead_43 : decode cX7_ahead 43 = .ok (.aload_n 0, 1) := by decide +kernel
theorem dX7_ahead_44 : decode cX7_ahead 44 = .ok (.invokevirtual 178, 3) := by decide +kernel
theorem dX7_ahead_47 : decode cX7_ahead 47 = .ok (.iinc 4 1, 3) := by decide +kernel
theorem dX7_ahead_50 : decode cX7_ahead 50 = .ok (.goto (-13), 3) := by decide +kernel
theorem dX7_ahead_53 : decode cX7_ahead 53 = .ok (.iload_n 3, 1) := by decide +kernel
theorem dX7_ahead_54 : decode cX7_ahead 54 = .ok (.ifCond .ne 11, 3) := by decide +kernel
theorem dX7_ahead_57 : decode cX7_ahead 57 = .ok (.aload_n 0, 1) := by decide +kernel
theorem dX7_ahead_58 : decode cX7_ahead 58 = .ok (.iload_n 1, 1) := by decide +kernel
theorem dX7_ahead_59 : decode cX7_ahead 59 = .ok (.invokevirtual 160, 3) := by decide +kernel
theorem dX7_ahead_62 : decode cX7_ahead 62 = .ok (.goto 12, 3) := by decide +kernel
theorem dX7_ahead_65 : decode cX7_ahead 65 = .ok (.aload_n 0, 1) := by decide +kernel
theorem dX7_ahead_66 : decode cX7_ahead 66 = .ok (.getfield 19, 3) := by decide +kernel
theorem dX7_ahead_69 : decode cX7_ahead 69 = .ok (.bipush 21, 2) := by decide +kernel
theorem dX7_ahead_71 : decode cX7_ahead 71 = .ok (.iload_n 1, 1) := by decide +kernel
theorem dX7_ahead_72 : decode cX7_ahead 72 = .ok (.iadd, 1) := by decide +kernel
theorem dX7_ahead_73 : decode cX7_ahead 73 = .ok (.iaload, 1) := by decide +kernel
theorem dX7_ahead_74 : decode cX7_ahead 74 = .ok (.istore 4, 2) := by decide +kernel
theorem dX7_ahead_76 : decode cX7_ahead 76 = .ok (.aload_n 0, 1) := by decide +kernel
theorem dX7_ahead_77 : decode cX7_ahead 77 = .ok (.invokevirtual 222, 3) := by decide +kernel
theorem dX7_ahead_80 : decode cX7_ahead 80 = .ok (.iload 4, 2) := by decide +kernel
theorem dX7_ahead_82 : decode cX7_ahead 82 = .ok (.ireturn, 1) := by decide +kernel
theorem dX7_length_0 : decode cX7_length 0 = .ok (.aload_n 0, 1) := by decide +kernel
theorem dX7_length_1 : decode cX7_length 1 = .ok (.iload_n 1, 1) := by decide +kernel
theorem dX7_length_2 : decode cX7_length 2 = .ok (.invokevirtual 194, 3) := by decide +kernel
theorem dX7_length_5 : decode cX7_length 5 = .ok (.ifCond .eq 11, 3) := by decide +kernel
theorem dX7_length_8 : decode cX7_length 8 = .ok (.aload_n 0, 1) := by decide +kernel
theorem dX7_length_9 : decode cX7_length 9 = .ok (.iload_n 1, 1) := by decide +kernel
theorem dX7_length_10 : decode cX7_length 10 = .ok (.invokevirtual 150, 3) := by decide +kernel
theorem dX7_length_13 : decode cX7_length 13 = .ok (.goto 5, 3) := by decide +kernel
theorem dX7_length_16 : decode cX7_length 16 = .ok (.ldc 64, 2) := by decide +kernel
theorem dX7_length_18 : decode cX7_length 18 = .ok (.ireturn, 1) := by decide +kernel
theorem dX7_meet_0 : decode cX7_meet 0 = .ok (.aload_n 0, 1) := by decide +kernel
theorem dX7_meet_1 : decode cX7_meet 1 = .ok (.iload_n 1, 1) := by decide +kernel
theorem dX7_meet_2 : decode cX7_meet 2 = .ok (.invokevirtual 194, 3) := by decide +kernel
theorem dX7_meet_5 : decode cX7_meet 5 = .ok (.ifCond .eq 16, 3) := by decide +kernel
theorem dX7_meet_8 : decode cX7_meet 8 = .ok (.aload_n 0, 1) := by decide +kernel
theorem dX7_meet_9 : decode cX7_meet 9 = .ok (.iload_n 2, 1) := by decide +kernel
theorem dX7_meet_10 : decode cX7_meet 10 = .ok (.invokevirtual 194, 3) := by decide +kernel
theorem dX7_meet_13 : decode cX7_meet 13 = .ok (.ifCond .eq 8, 3) := by decide +kernel
theorem dX7_meet_16 : decode cX7_meet 16 = .ok (.iload_n 1, 1) := by decide +kernel
theorem dX7_meet_17 : decode cX7_meet 17 = .ok (.iload_n 2, 1) := by decide +kernel
theorem dX7_meet_18 : decode cX7_meet 18 = .ok (.if_icmp .ne 6, 3) := by decide +kernel
theorem dX7_meet_21 : decode cX7_meet 21 = .ok (.ldc 64, 2) := by decide +kernel
theorem dX7_meet_23 : decode cX7_meet 23 = .ok (.ireturn, 1) := by decide +kernel
theorem dX7_meet_24 : decode cX7_meet 24 = .ok (.iconst 0, 1) := by decide +kernel
theorem dX7_meet_25 : decode cX7_meet 25 = .ok (.istore_n 3, 1) := by decide +kernel
theorem dX7_meet_26 : decode cX7_meet 26 = .ok (.iload_n 3, 1) := by decide +kernel
theorem dX7_meet_27 : decode cX7_meet 27 = .ok (.bipush 30, 2) := by decide +kernel
theorem dX7_meet_29 : decode cX7_meet 29 = .ok (.if_icmp .ge 86, 3) := by decide +kernel
theorem dX7_meet_32 : decode cX7_meet 32 = .ok (.aload_n 0, 1) := by decide +kernel
theorem dX7_meet_33 : decode cX7_meet 33 = .ok (.iload_n 1, 1) := by decide +kernel
theorem dX7_meet_34 : decode cX7_meet 34 = .ok (.iload_n 3, 1) := by decide +kernel
theorem dX7_meet_35 : decode cX7_meet 35 = .ok (.invokevirtual 166, 3) := by decide +kernel
theorem dX7_meet_38 : decode cX7_meet 38 = .ok (.istore 4, 2) := by decide +kernel
theorem dX7_meet_40 : decode cX7_meet 40 = .ok (.aload_n 0, 1) := by decide +kernel
theorem dX7_meet_41 : decode cX7_meet 41 = .ok (.iload_n 2, 1) := by decide +kernel
theorem dX7_meet_42 : decode cX7_meet 42 = .ok (.iload_n 3, 1) := by decide +kernel
theorem dX7_meet_43 : decode cX7_meet 43 = .ok (.invokevirtual 166, 3) := by decide +kernel
theorem dX7_meet_46 : decode cX7_meet 46 = .ok (.istore 5, 2) := by decide +kernel
theorem dX7_meet_48 : decode cX7_meet 48 = .ok (.iload_n 3, 1) := by decide +kernel
theorem dX7_meet_49 : decode cX7_meet 49 = .ok (.ifCond .le 33, 3) := by decide +kernel
theorem dX7_meet_52 : decode cX7_meet 52 = .ok (.iload 4, 2) := by decide +kernel
theorem dX7_meet_54 : decode cX7_meet 54 = .ok (.aload_n 0, 1) := by decide +kernel
theorem dX7_meet_55 : decode cX7_meet 55 = .ok (.iload_n 2, 1) := by decide +kernel
theorem dX7_meet_56 : decode cX7_meet 56 = .ok (.iload_n 3, 1) := by decide +kernel
theorem dX7_meet_57 : decode cX7_meet 57 = .ok (.iconst 1, 1) := by decide +kernel
theorem dX7_meet_58 : decode cX7_meet 58 = .ok (.isub, 1) := by decide +kernel
theorem dX7_meet_59 : decode cX7_meet 59 = .ok (.invokevirtual 166, 3) := by decide +kernel
theorem dX7_meet_62 : decode cX7_meet 62 = .ok (.if_icmp .ne 20, 3) := by decide +kernel
theorem dX7_meet_65 : decode cX7_meet 65 = .ok (.iload 5, 2) := by decide +kernel
theorem dX7_meet_67 : decode cX7_meet 67 = .ok (.aload_n 0, 1) := by decide +kernel
theorem dX7_meet_68 : decode cX7_meet 68 = .ok (.iload_n 1, 1) := by decide +kernel
theorem dX7_meet_69 : decode cX7_meet 69 = .ok (.iload_n 3, 1) := by decide +kernel
theorem dX7_meet_70 : decode cX7_meet 70 = .ok (.iconst 1, 1) := by decide +kernel
theorem dX7_meet_71 : decode cX7_meet 71 = .ok (.isub, 1) := by decide +kernel
theorem dX7_meet_72 : decode cX7_meet 72 = .ok (.invokevirtual 166, 3) := by decide +kernel
theorem dX7_meet_75 : decode cX7_meet 75 = .ok (.if_icmp .ne 7, 3) := by decide +kernel
theorem dX7_meet_78 : decode cX7_meet 78 = .ok (.iconst 1, 1) := by decide +kernel
theorem dX7_meet_79 : decode cX7_meet 79 = .ok (.goto 4, 3) := by decide +kernel
theorem dX7_meet_82 : decode cX7_meet 82 = .ok (.iconst 0, 1) := by decide +kernel
theorem dX7_meet_83 : decode cX7_meet 83 = .ok (.istore 6, 2) := by decide +kernel
theorem dX7_meet_85 : decode cX7_meet 85 = .ok (.iload 4, 2) := by decide +kernel
theorem dX7_meet_87 : decode cX7_meet 87 = .ok (.ifCond .lt 22, 3) := by decide +kernel
theorem dX7_meet_90 : decode cX7_meet 90 = .ok (.iload 5, 2) := by decide +kernel
theorem dX7_meet_92 : decode cX7_meet 92 = .ok (.ifCond .lt 17, 3) := by decide +kernel
theorem dX7_meet_95 : decode cX7_meet 95 = .ok (.iload 4, 2) := by decide +kernel
theorem dX7_meet_97 : decode cX7_meet 97 = .ok (.iload 5, 2) := by decide +kernel
theorem dX7_meet_99 : decode cX7_meet 99 = .ok (.if_icmp .eq 8, 3) := by decide +kernel
theorem dX7_meet_102 : decode cX7_meet 102 = .ok (.iload 6, 2) := by decide +kernel
theorem dX7_meet_104 : decode cX7_meet 104 = .ok (.ifCond .eq 5, 3) := by decide +kernel
theorem dX7_meet_107 : decode cX7_meet 107 = .ok (.iload_n 3, 1) := by decide +kernel
theorem dX7_meet_108 : decode cX7_meet 108 = .ok (.ireturn, 1) := by decide +kernel
theorem dX7_meet_109 : decode cX7_meet 109 = .ok (.iinc 3 1, 3) := by decide +kernel
theorem dX7_meet_112 : decode cX7_meet 112 = .ok (.goto (-86), 3) := by decide +kernel
theorem dX7_meet_115 : decode cX7_meet 115 = .ok (.ldc 207, 2) := by decide +kernel
theorem dX7_meet_117 : decode cX7_meet 117 = .ok (.ireturn, 1) := by decide +kernel
theorem dX7_allIn_0 : decode cX7_allIn 0 = .ok (.iconst 0, 1) := by decide +kernel
theorem dX7_allIn_1 : decode cX7_allIn 1 = .ok (.istore_n 2, 1) := by decide +kernel
theorem dX7_allIn_2 : decode cX7_allIn 2 = .ok (.iconst 0, 1) := by decide +kernel
theorem dX7_allIn_3 : decode cX7_allIn 3 = .ok (.istore_n 3, 1) := by decide +kernel
theorem dX7_allIn_4 : decode cX7_allIn 4 = .ok (.iload_n 3, 1) := by decide +kernel
theorem dX7_allIn_5 : decode cX7_allIn 5 = .ok (.aload_n 0, 1) := by decide +kernel
theorem dX7_allIn_6 : decode cX7_allIn 6 = .ok (.getfield 19, 3) := by decide +kernel
theorem dX7_allIn_9 : decode cX7_allIn 9 = .ok (.iconst 1, 1) := by decide +kernel
theorem dX7_allIn_10 : decode cX7_allIn 10 = .ok (.iaload, 1) := by decide +kernel
theorem dX7_allIn_11 : decode cX7_allIn 11 = .ok (.if_icmp .ge 59, 3) := by decide +kernel
theorem dX7_allIn_14 : decode cX7_allIn 14 = .ok (.aload_n 0, 1) := by decide +kernel
theorem dX7_allIn_15 : decode cX7_allIn 15 = .ok (.iload_n 3, 1) := by decide +kernel
theorem dX7_allIn_16 : decode cX7_allIn 16 = .ok (.iload_n 1, 1) := by decide +kernel
theorem dX7_allIn_17 : decode cX7_allIn 17 = .ok (.invokevirtual 166, 3) := by decide +kernel
theorem dX7_allIn_20 : decode cX7_allIn 20 = .ok (.istore 4, 2) := by decide +kernel
theorem dX7_allIn_22 : decode cX7_allIn 22 = .ok (.iload 4, 2) := by decide +kernel
theorem dX7_allIn_24 : decode cX7_allIn 24 = .ok (.ifCond .ge 7, 3) := by decide +kernel
theorem dX7_allIn_27 : decode cX7_allIn 27 = .ok (.iconst (-1), 1) := by decide +kernel
theorem dX7_allIn_28 : decode cX7_allIn 28 = .ok (.goto 18, 3) := by decide +kernel
theorem dX7_allIn_31 : decode cX7_allIn 31 = .ok (.aload_n 0, 1) := by decide +kernel
theorem dX7_allIn_32 : decode cX7_allIn 32 = .ok (.iload 4, 2) := by decide +kernel
theorem dX7_allIn_34 : decode cX7_allIn 34 = .ok (.aload_n 0, 1) := by decide +kernel
theorem dX7_allIn_35 : decode cX7_allIn 35 = .ok (.getfield 19, 3) := by decide +kernel
theorem dX7_allIn_38 : decode cX7_allIn 38 = .ok (.bipush 39, 2) := by decide +kernel
theorem dX7_allIn_40 : decode cX7_allIn 40 = .ok (.iload_n 3, 1) := by decide +kernel
theorem dX7_allIn_41 : decode cX7_allIn 41 = .ok (.iadd, 1) := by decide +kernel
theorem dX7_allIn_42 : decode cX7_allIn 42 = .ok (.iaload, 1) := by decide +kernel
theorem dX7_allIn_43 : decode cX7_allIn 43 = .ok (.invokevirtual 169, 3) := by decide +kernel
theorem dX7_allIn_46 : decode cX7_allIn 46 = .ok (.istore 5, 2) := by decide +kernel
theorem dX7_allIn_48 : decode cX7_allIn 48 = .ok (.iload_n 2, 1) := by decide +kernel
theorem dX7_allIn_49 : decode cX7_allIn 49 = .ok (.iload 5, 2) := by decide +kernel
theorem dX7_allIn_51 : decode cX7_allIn 51 = .ok (.ifCond .lt 10, 3) := by decide +kernel
theorem dX7_allIn_54 : decode cX7_allIn 54 = .ok (.iconst 1, 1) := by decide +kernel
theorem dX7_allIn_55 : decode cX7_allIn 55 = .ok (.iload 5, 2) := by decide +kernel
theorem dX7_allIn_57 : decode cX7_allIn 57 = .ok (.ishl, 1) := by decide +kernel
theorem dX7_allIn_58 : decode cX7_allIn 58 = .ok (.goto 4, 3) := by decide +kernel
theorem dX7_allIn_61 : decode cX7_allIn 61 = .ok (.iconst 0, 1) := by decide +kernel
theorem dX7_allIn_62 : decode cX7_allIn 62 = .ok (.ior, 1) := by decide +kernel
theorem dX7_allIn_63 : decode cX7_allIn 63 = .ok (.istore_n 2, 1) := by decide +kernel
theorem dX7_allIn_64 : decode cX7_allIn 64 = .ok (.iinc 3 1, 3) := by decide +kernel
theorem dX7_allIn_67 : decode cX7_allIn 67 = .ok (.goto (-63), 3) := by decide +kernel
theorem dX7_allIn_70 : decode cX7_allIn 70 = .ok (.iload_n 2, 1) := by decide +kernel
theorem dX7_allIn_71 : decode cX7_allIn 71 = .ok (.ireturn, 1) := by decide +kernel
theorem dX7_choir_0 : decode cX7_choir 0 = .ok (.aload_n 0, 1) := by decide +kernel
theorem dX7_choir_1 : decode cX7_choir 1 = .ok (.getfield 138, 3) := by decide +kernel
theorem dX7_choir_4 : decode cX7_choir 4 = .ok (.ifCond .ne 6, 3) := by decide +kernel
theorem dX7_choir_7 : decode cX7_choir 7 = .ok (.ldc 172, 2) := by decide +kernel
theorem dX7_choir_9 : decode cX7_choir 9 = .ok (.ireturn, 1) := by decide +kernel
theorem dX7_choir_10 : decode cX7_choir 10 = .ok (.iload_n 1, 1) := by decide +kernel
theorem dX7_choir_11 : decode cX7_choir 11 = .ok (.invokestatic 216, 3) := by decide +kernel
theorem dX7_choir_14 : decode cX7_choir 14 = .ok (.ifCond .ne 6, 3) := by decide +kernel
theorem dX7_choir_17 : decode cX7_choir 17 = .ok (.ldc 64, 2) := by decide +kernel
theorem dX7_choir_19 : decode cX7_choir 19 = .ok (.ireturn, 1) := by decide +kernel
theorem dX7_choir_20 : decode cX7_choir 20 = .ok (.iconst 0, 1) := by decide +kernel
theorem dX7_choir_21 : decode cX7_choir 21 = .ok (.istore_n 2, 1) := by decide +kernel
theorem dX7_choir_22 : decode cX7_choir 22 = .ok (.iconst 0, 1) := by decide +kernel
theorem dX7_choir_23 : decode cX7_choir 23 = .ok (.istore_n 3, 1) := by decide +kernel
theorem dX7_choir_24 : decode cX7_choir 24 = .ok (.iconst 0, 1) := by decide +kernel
theorem dX7_choir_25 : decode cX7_choir 25 = .ok (.istore 4, 2) := by decide +kernel
theorem dX7_choir_27 : decode cX7_choir 27 = .ok (.iload 4, 2) := by decide +kernel
theorem dX7_choir_29 : decode cX7_choir 29 = .ok (.bipush 30, 2) := by decide +kernel
theorem dX7_choir_31 : decode cX7_choir 31 = .ok (.if_icmp .ge 32, 3) := by decide +kernel
theorem dX7_choir_34 : decode cX7_choir 34 = .ok (.aload_n 0, 1) := by decide +kernel
theorem dX7_choir_35 : decode cX7_choir 35 = .ok (.iload 4, 2) := by decide +kernel
theorem dX7_choir_37 : decode cX7_choir 37 = .ok (.invokevirtual 225, 3) := by decide +kernel
theorem dX7_choir_40 : decode cX7_choir 40 = .ok (.invokestatic 228, 3) := by decide +kernel
theorem dX7_choir_43 : decode cX7_choir 43 = .ok (.istore 5, 2) := by decide +kernel
theorem dX7_choir_45 : decode cX7_choir 45 = .ok (.iload 5, 2) := by decide +kernel
theorem dX7_choir_47 : decode cX7_choir 47 = .ok (.iload_n 3, 1) := by decide +kernel
theorem dX7_choir_48 : decode cX7_choir 48 = .ok (.if_icmp .le 9, 3) := by decide +kernel
theorem dX7_choir_51 : decode cX7_choir 51 = .ok (.iload 5, 2) := by decide +kernel
theorem dX7_choir_53 : decode cX7_choir 53 = .ok (.istore_n 3, 1) := by decide +kernel
theorem dX7_choir_54 : decode cX7_choir 54 = .ok (.iload 4, 2) := by decide +kernel
theorem dX7_choir_56 : decode cX7_choir 56 = .ok (.istore_n 2, 1) := by decide +kernel
theorem dX7_choir_57 : decode cX7_choir 57 = .ok (.iinc 4 1, 3) := by decide +kernel
theorem dX7_choir_60 : decode cX7_choir 60 = .ok (.goto (-33), 3) := by decide +kernel
theorem dX7_choir_63 : decode cX7_choir 63 = .ok (.iload_n 1, 1) := by decide +kernel
theorem dX7_choir_64 : decode cX7_choir 64 = .ok (.ifCond .ne 7, 3) := by decide +kernel
theorem dX7_choir_67 : decode cX7_choir 67 = .ok (.iload_n 2, 1) := by decide +kernel
theorem dX7_choir_68 : decode cX7_choir 68 = .ok (.goto 4, 3) := by decide +kernel
theorem dX7_choir_71 : decode cX7_choir 71 = .ok (.iload_n 3, 1) := by decide +kernel
theorem dX7_choir_72 : decode cX7_choir 72 = .ok (.ireturn, 1) := by decide +kernel
theorem dX7_areTwins_0 : decode cX7_areTwins 0 = .ok (.aload_n 0, 1) := by decide +kernel
theorem dX7_areTwins_1 : decode cX7_areTwins 1 = .ok (.iload_n 1, 1) := by decide +kernel
theorem dX7_areTwins_2 : decode cX7_areTwins 2 = .ok (.invokevirtual 150, 3) := by decide +kernel
theorem dX7_areTwins_5 : decode cX7_areTwins 5 = .ok (.aload_n 0, 1) := by decide +kernel
theorem dX7_areTwins_6 : decode cX7_areTwins 6 = .ok (.iload_n 2, 1) := by decide +kernel
theorem dX7_areTwins_7 : decode cX7_areTwins 7 = .ok (.invokevirtual 150, 3) := by decide +kernel
theorem dX7_areTwins_10 : decode cX7_areTwins 10 = .ok (.if_icmp .ne 7, 3) := by decide +kernel
theorem dX7_areTwins_13 : decode cX7_areTwins 13 = .ok (.iconst 1, 1) := by decide +kernel
theorem dX7_areTwins_14 : decode cX7_areTwins 14 = .ok (.goto 4, 3) := by decide +kernel
theorem dX7_areTwins_17 : decode cX7_areTwins 17 = .ok (.iconst 0, 1) := by decide +kernel
theorem dX7_areTwins_18 : decode cX7_areTwins 18 = .ok (.istore_n 3, 1) := by decide +kernel
theorem dX7_areTwins_19 : decode cX7_areTwins 19 = .ok (.iconst 0, 1) := by decide +kernel
theorem dX7_areTwins_20 : decode cX7_areTwins 20 = .ok (.istore 4, 2) := by decide +kernel
theorem dX7_areTwins_22 : decode cX7_areTwins 22 = .ok (.iload 4, 2) := by decide +kernel
theorem dX7_areTwins_24 : decode cX7_areTwins 24 = .ok (.aload_n 0, 1) := by decide +kernel
theorem dX7_areTwins_25 : decode cX7_areTwins 25 = .ok (.iload_n 1, 1) := by decide +kernel
theorem dX7_areTwins_26 : decode cX7_areTwins 26 = .ok (.invokevirtual 150, 3) := by decide +kernel
theorem dX7_areTwins_29 : decode cX7_areTwins 29 = .ok (.if_icmp .ge 36, 3) := by decide +kernel
theorem dX7_areTwins_32 : decode cX7_areTwins 32 = .ok (.iload_n 3, 1) := by decide +kernel
theorem dX7_areTwins_33 : decode cX7_areTwins 33 = .ok (.ifCond .eq 32, 3) := by decide +kernel
theorem dX7_areTwins_36 : decode cX7_areTwins 36 = .ok (.aload_n 0, 1) := by decide +kernel
theorem dX7_areTwins_37 : decode cX7_areTwins 37 = .ok (.iload_n 1, 1) := by decide +kernel
theorem dX7_areTwins_38 : decode cX7_areTwins 38 = .ok (.iload 4, 2) := by decide +kernel
theorem dX7_areTwins_40 : decode cX7_areTwins 40 = .ok (.invokevirtual 204, 3) := by decide +kernel
theorem dX7_areTwins_43 : decode cX7_areTwins 43 = .ok (.aload_n 0, 1) := by decide +kernel
theorem dX7_areTwins_44 : decode cX7_areTwins 44 = .ok (.iload_n 2, 1) := by decide +kernel
theorem dX7_areTwins_45 : decode cX7_areTwins 45 = .ok (.iload 4, 2) := by decide +kernel
theorem dX7_areTwins_47 : decode cX7_areTwins 47 = .ok (.invokevirtual 204, 3) := by decide +kernel
theorem dX7_areTwins_50 : decode cX7_areTwins 50 = .ok (.if_icmp .ne 7, 3) := by decide +kernel
theorem dX7_areTwins_53 : decode cX7_areTwins 53 = .ok (.iconst 1, 1) := by decide +kernel
theorem dX7_areTwins_54 : decode cX7_areTwins 54 = .ok (.goto 4, 3) := by decide +kernel
theorem dX7_areTwins_57 : decode cX7_areTwins 57 = .ok (.iconst 0, 1) := by decide +kernel
theorem dX7_areTwins_58 : decode cX7_areTwins 58 = .ok (.istore_n 3, 1) := by decide +kernel
theorem dX7_areTwins_59 : decode cX7_areTwins 59 = .ok (.iinc 4 1, 3) := by decide +kernel
theorem dX7_areTwins_62 : decode cX7_areTwins 62 = .ok (.goto (-40), 3) := by decide +kernel
theorem dX7_areTwins_65 : decode cX7_areTwins 65 = .ok (.iload_n 3, 1) := by decide +kernel
theorem dX7_areTwins_66 : decode cX7_areTwins 66 = .ok (.ireturn, 1) := by decide +kernel
theorem dX7_twinsMany_0 : decode cX7_twinsMany 0 = .ok (.iconst 0, 1) := by decide +kernel
theorem dX7_twinsMany_1 : decode cX7_twinsMany 1 = .ok (.istore_n 1, 1) := by decide +kernel
theorem dX7_twinsMany_2 : decode cX7_twinsMany 2 = .ok (.aload_n 0, 1) := by decide +kernel
theorem dX7_twinsMany_3 : decode cX7_twinsMany 3 = .ok (.ldc 207, 2) := by decide +kernel
theorem dX7_twinsMany_5 : decode cX7_twinsMany 5 = .ok (.putfield 231, 3) := by decide +kernel
theorem dX7_twinsMany_8 : decode cX7_twinsMany 8 = .ok (.iconst 0, 1) := by decide +kernel
theorem dX7_twinsMany_9 : decode cX7_twinsMany 9 = .ok (.istore_n 2, 1) := by decide +kernel
theorem dX7_twinsMany_10 : decode cX7_twinsMany 10 = .ok (.iload_n 2, 1) := by decide +kernel
theorem dX7_twinsMany_11 : decode cX7_twinsMany 11 = .ok (.aload_n 0, 1) := by decide +kernel
theorem dX7_twinsMany_12 : decode cX7_twinsMany 12 = .ok (.getfield 19, 3) := by decide +kernel
theorem dX7_twinsMany_15 : decode cX7_twinsMany 15 = .ok (.iconst 1, 1) := by decide +kernel
theorem dX7_twinsMany_16 : decode cX7_twinsMany 16 = .ok (.iaload, 1) := by decide +kernel
theorem dX7_twinsMany_17 : decode cX7_twinsMany 17 = .ok (.if_icmp .ge 65, 3) := by decide +kernel
theorem dX7_twinsMany_20 : decode cX7_twinsMany 20 = .ok (.iload_n 2, 1) := by decide +kernel
theorem dX7_twinsMany_21 : decode cX7_twinsMany 21 = .ok (.iconst 1, 1) := by decide +kernel
theorem dX7_twinsMany_22 : decode cX7_twinsMany 22 = .ok (.iadd, 1) := by decide +kernel
theorem dX7_twinsMany_23 : decode cX7_twinsMany 23 = .ok (.istore_n 3, 1) := by decide +kernel
theorem dX7_twinsMany_24 : decode cX7_twinsMany 24 = .ok (.iload_n 3, 1) := by decide +kernel
theorem dX7_twinsMany_25 : decode cX7_twinsMany 25 = .ok (.aload_n 0, 1) := by decide +kernel
theorem dX7_twinsMany_26 : decode cX7_twinsMany 26 = .ok (.getfield 19, 3) := by decide +kernel
theorem dX7_twinsMany_29 : decode cX7_twinsMany 29 = .ok (.iconst 1, 1) := by decide +kernel
theorem dX7_twinsMany_30 : decode cX7_twinsMany 30 = .ok (.iaload, 1) := by decide +kernel
theorem dX7_twinsMany_31 : decode cX7_twinsMany 31 = .ok (.if_icmp .ge 45, 3) := by decide +kernel
theorem dX7_twinsMany_34 : decode cX7_twinsMany 34 = .ok (.aload_n 0, 1) := by decide +kernel
theorem dX7_twinsMany_35 : decode cX7_twinsMany 35 = .ok (.iload_n 2, 1) := by decide +kernel
theorem dX7_twinsMany_36 : decode cX7_twinsMany 36 = .ok (.iload_n 3, 1) := by decide +kernel
theorem dX7_twinsMany_37 : decode cX7_twinsMany 37 = .ok (.invokevirtual 234, 3) := by decide +kernel
theorem dX7_twinsMany_40 : decode cX7_twinsMany 40 = .ok (.ifCond .eq 30, 3) := by decide +kernel
theorem dX7_twinsMany_43 : decode cX7_twinsMany 43 = .ok (.iinc 1 1, 3) := by decide +kernel
theorem dX7_twinsMany_46 : decode cX7_twinsMany 46 = .ok (.aload_n 0, 1) := by decide +kernel
theorem dX7_twinsMany_47 : decode cX7_twinsMany 47 = .ok (.aload_n 0, 1) := by decide +kernel
theorem dX7_twinsMany_48 : decode cX7_twinsMany 48 = .ok (.getfield 231, 3) := by decide +kernel
theorem dX7_twinsMany_51 : decode cX7_twinsMany 51 = .ok (.ifCond .ge 12, 3) := by decide +kernel
theorem dX7_twinsMany_54 : decode cX7_twinsMany 54 = .ok (.bipush 10, 2) := by decide +kernel
theorem dX7_twinsMany_56 : decode cX7_twinsMany 56 = .ok (.iload_n 2, 1) := by decide +kernel
theorem dX7_twinsMany_57 : decode cX7_twinsMany 57 = .ok (.imul, 1) := by decide +kernel
theorem dX7_twinsMany_58 : decode cX7_twinsMany 58 = .ok (.iload_n 3, 1) := by decide +kernel
theorem dX7_twinsMany_59 : decode cX7_twinsMany 59 = .ok (.iadd, 1) := by decide +kernel
theorem dX7_twinsMany_60 : decode cX7_twinsMany 60 = .ok (.goto 7, 3) := by decide +kernel
theorem dX7_twinsMany_63 : decode cX7_twinsMany 63 = .ok (.aload_n 0, 1) := by decide +kernel
theorem dX7_twinsMany_64 : decode cX7_twinsMany 64 = .ok (.getfield 231, 3) := by decide +kernel
theorem dX7_twinsMany_67 : decode cX7_twinsMany 67 = .ok (.putfield 231, 3) := by decide +kernel
theorem dX7_twinsMany_70 : decode cX7_twinsMany 70 = .ok (.iinc 3 1, 3) := by decide +kernel
theorem dX7_twinsMany_73 : decode cX7_twinsMany 73 = .ok (.goto (-49), 3) := by decide +kernel
theorem dX7_twinsMany_76 : decode cX7_twinsMany 76 = .ok (.iinc 2 1, 3) := by decide +kernel
theorem dX7_twinsMany_79 : decode cX7_twinsMany 79 = .ok (.goto (-69), 3) := by decide +kernel
theorem dX7_twinsMany_82 : decode cX7_twinsMany 82 = .ok (.iload_n 1, 1) := by decide +kernel
theorem dX7_twinsMany_83 : decode cX7_twinsMany 83 = .ok (.ireturn, 1) := by decide +kernel
theorem dX7_twins_0 : decode cX7_twins 0 = .ok (.aload_n 0, 1) := by decide +kernel
theorem dX7_twins_1 : decode cX7_twins 1 = .ok (.getfield 138, 3) := by decide +kernel
theorem dX7_twins_4 : decode cX7_twins 4 = .ok (.ifCond .ne 6, 3) := by decide +kernel
theorem dX7_twins_7 : decode cX7_twins 7 = .ok (.ldc 172, 2) := by decide +kernel
theorem dX7_twins_9 : decode cX7_twins 9 = .ok (.ireturn, 1) := by decide +kernel
theorem dX7_twins_10 : decode cX7_twins 10 = .ok (.iload_n 1, 1) := by decide +kernel
theorem dX7_twins_11 : decode cX7_twins 11 = .ok (.invokestatic 216, 3) := by decide +kernel
theorem dX7_twins_14 : decode cX7_twins 14 = .ok (.ifCond .ne 6, 3) := by decide +kernel
theorem dX7_twins_17 : decode cX7_twins 17 = .ok (.ldc 64, 2) := by decide +kernel
theorem dX7_twins_19 : decode cX7_twins 19 = .ok (.ireturn, 1) := by decide +kernel
theorem dX7_twins_20 : decode cX7_twins 20 = .ok (.aload_n 0, 1) := by decide +kernel
theorem dX7_twins_21 : decode cX7_twins 21 = .ok (.invokevirtual 237, 3) := by decide +kernel
theorem dX7_twins_24 : decode cX7_twins 24 = .ok (.istore_n 2, 1) := by decide +kernel
theorem dX7_twins_25 : decode cX7_twins 25 = .ok (.iload_n 1, 1) := by decide +kernel
theorem dX7_twins_26 : decode cX7_twins 26 = .ok (.ifCond .ne 7, 3) := by decide +kernel
theorem dX7_twins_29 : decode cX7_twins 29 = .ok (.iload_n 2, 1) := by decide +kernel
theorem dX7_twins_30 : decode cX7_twins 30 = .ok (.goto 7, 3) := by decide +kernel
theorem dX7_twins_33 : decode cX7_twins 33 = .ok (.aload_n 0, 1) := by decide +kernel
theorem dX7_twins_34 : decode cX7_twins 34 = .ok (.getfield 231, 3) := by decide +kernel
theorem dX7_twins_37 : decode cX7_twins 37 = .ok (.ireturn, 1) := by decide +kernel
theorem dX7_isHeard_0 : decode cX7_isHeard 0 = .ok (.iconst 0, 1) := by decide +kernel
theorem dX7_isHeard_1 : decode cX7_isHeard 1 = .ok (.istore_n 3, 1) := by decide +kernel
theorem dX7_isHeard_2 : decode cX7_isHeard 2 = .ok (.iconst 0, 1) := by decide +kernel
theorem dX7_isHeard_3 : decode cX7_isHeard 3 = .ok (.istore 4, 2) := by decide +kernel
theorem dX7_isHeard_5 : decode cX7_isHeard 5 = .ok (.iload 4, 2) := by decide +kernel
theorem dX7_isHeard_7 : decode cX7_isHeard 7 = .ok (.aload_n 0, 1) := by decide +kernel
theorem dX7_isHeard_8 : decode cX7_isHeard 8 = .ok (.iload_n 1, 1) := by decide +kernel
theorem dX7_isHeard_9 : decode cX7_isHeard 9 = .ok (.invokevirtual 150, 3) := by decide +kernel
theorem dX7_isHeard_12 : decode cX7_isHeard 12 = .ok (.if_icmp .ge 62, 3) := by decide +kernel
theorem dX7_isHeard_15 : decode cX7_isHeard 15 = .ok (.aload_n 0, 1) := by decide +kernel
theorem dX7_isHeard_16 : decode cX7_isHeard 16 = .ok (.iload_n 1, 1) := by decide +kernel
theorem dX7_isHeard_17 : decode cX7_isHeard 17 = .ok (.iload 4, 2) := by decide +kernel
theorem dX7_isHeard_19 : decode cX7_isHeard 19 = .ok (.invokevirtual 153, 3) := by decide +kernel
theorem dX7_isHeard_22 : decode cX7_isHeard 22 = .ok (.istore 5, 2) := by decide +kernel
theorem dX7_isHeard_24 : decode cX7_isHeard 24 = .ok (.iload_n 3, 1) := by decide +kernel
theorem dX7_isHeard_25 : decode cX7_isHeard 25 = .ok (.ifCond .ne 37, 3) := by decide +kernel
theorem dX7_isHeard_28 : decode cX7_isHeard 28 = .ok (.iload 5, 2) := by decide +kernel
theorem dX7_isHeard_30 : decode cX7_isHeard 30 = .ok (.iload_n 2, 1) := by decide +kernel
theorem dX7_isHeard_31 : decode cX7_isHeard 31 = .ok (.isub, 1) := by decide +kernel
theorem dX7_isHeard_32 : decode cX7_isHeard 32 = .ok (.invokestatic 147, 3) := by decide +kernel
theorem dX7_isHeard_35 : decode cX7_isHeard 35 = .ok (.aload_n 0, 1) := by decide +kernel
theorem dX7_isHeard_36 : decode cX7_isHeard 36 = .ok (.getfield 19, 3) := by decide +kernel
theorem dX7_isHeard_39 : decode cX7_isHeard 39 = .ok (.iconst 3, 1) := by decide +kernel
theorem dX7_isHeard_40 : decode cX7_isHeard 40 = .ok (.iaload, 1) := by decide +kernel
theorem dX7_isHeard_41 : decode cX7_isHeard 41 = .ok (.if_icmp .gt 25, 3) := by decide +kernel
theorem dX7_isHeard_44 : decode cX7_isHeard 44 = .ok (.aload_n 0, 1) := by decide +kernel
theorem dX7_isHeard_45 : decode cX7_isHeard 45 = .ok (.iload 5, 2) := by decide +kernel
theorem dX7_isHeard_47 : decode cX7_isHeard 47 = .ok (.aload_n 0, 1) := by decide +kernel
theorem dX7_isHeard_48 : decode cX7_isHeard 48 = .ok (.getfield 19, 3) := by decide +kernel
theorem dX7_isHeard_51 : decode cX7_isHeard 51 = .ok (.bipush 39, 2) := by decide +kernel
theorem dX7_isHeard_53 : decode cX7_isHeard 53 = .ok (.iload_n 1, 1) := by decide +kernel
theorem dX7_isHeard_54 : decode cX7_isHeard 54 = .ok (.iadd, 1) := by decide +kernel
theorem dX7_isHeard_55 : decode cX7_isHeard 55 = .ok (.iaload, 1) := by decide +kernel
theorem dX7_isHeard_56 : decode cX7_isHeard 56 = .ok (.invokevirtual 169, 3) := by decide +kernel
theorem dX7_isHeard_59 : decode cX7_isHeard 59 = .ok (.ifCond .lt 7, 3) := by decide +kernel
theorem dX7_isHeard_62 : decode cX7_isHeard 62 = .ok (.iconst 1, 1) := by decide +kernel
theorem dX7_isHeard_63 : decode cX7_isHeard 63 = .ok (.goto 4, 3) := by decide +kernel
theorem dX7_isHeard_66 : decode cX7_isHeard 66 = .ok (.iconst 0, 1) := by decide +kernel
theorem dX7_isHeard_67 : decode cX7_isHeard 67 = .ok (.istore_n 3, 1) := by decide +kernel
theorem dX7_isHeard_68 : decode cX7_isHeard 68 = .ok (.iinc 4 1, 3) := by decide +kernel
theorem dX7_isHeard_71 : decode cX7_isHeard 71 = .ok (.goto (-66), 3) := by decide +kernel
theorem dX7_isHeard_74 : decode cX7_isHeard 74 = .ok (.iload_n 3, 1) := by decide +kernel
theorem dX7_isHeard_75 : decode cX7_isHeard 75 = .ok (.ireturn, 1) := by decide +kernel
theorem dX7_felt_0 : decode cX7_felt 0 = .ok (.aload_n 0, 1) := by decide +kernel
theorem dX7_felt_1 : decode cX7_felt 1 = .ok (.iload_n 1, 1) := by decide +kernel
theorem dX7_felt_2 : decode cX7_felt 2 = .ok (.invokevirtual 194, 3) := by decide +kernel
theorem dX7_felt_5 : decode cX7_felt 5 = .ok (.ifCond .eq 18, 3) := by decide +kernel
theorem dX7_felt_8 : decode cX7_felt 8 = .ok (.aload_n 0, 1) := by decide +kernel
theorem dX7_felt_9 : decode cX7_felt 9 = .ok (.iload_n 2, 1) := by decide +kernel
theorem dX7_felt_10 : decode cX7_felt 10 = .ok (.invokevirtual 185, 3) := by decide +kernel
theorem dX7_felt_13 : decode cX7_felt 13 = .ok (.ifCond .eq 10, 3) := by decide +kernel
theorem dX7_felt_16 : decode cX7_felt 16 = .ok (.iload_n 3, 1) := by decide +kernel
theorem dX7_felt_17 : decode cX7_felt 17 = .ok (.invokestatic 216, 3) := by decide +kernel
theorem dX7_felt_20 : decode cX7_felt 20 = .ok (.ifCond .ne 6, 3) := by decide +kernel
theorem dX7_felt_23 : decode cX7_felt 23 = .ok (.ldc 64, 2) := by decide +kernel
theorem dX7_felt_25 : decode cX7_felt 25 = .ok (.ireturn, 1) := by decide +kernel
theorem dX7_felt_26 : decode cX7_felt 26 = .ok (.aload_n 0, 1) := by decide +kernel
theorem dX7_felt_27 : decode cX7_felt 27 = .ok (.invokevirtual 219, 3) := by decide +kernel
theorem dX7_felt_30 : decode cX7_felt 30 = .ok (.ldc 207, 2) := by decide +kernel
theorem dX7_felt_32 : decode cX7_felt 32 = .ok (.istore 4, 2) := by decide +kernel
theorem dX7_felt_34 : decode cX7_felt 34 = .ok (.iconst 0, 1) := by decide +kernel
theorem dX7_felt_35 : decode cX7_felt 35 = .ok (.istore 5, 2) := by decide +kernel
theorem dX7_felt_37 : decode cX7_felt 37 = .ok (.iload 5, 2) := by decide +kernel
theorem dX7_felt_39 : decode cX7_felt 39 = .ok (.iconst 1, 1) := by decide +kernel
theorem dX7_felt_40 : decode cX7_felt 40 = .ok (.aload_n 0, 1) := by decide +kernel
theorem dX7_felt_41 : decode cX7_felt 41 = .ok (.getfield 19, 3) := by decide +kernel
theorem dX7_felt_44 : decode cX7_felt 44 = .ok (.iconst 0, 1) := by decide +kernel
theorem dX7_felt_45 : decode cX7_felt 45 = .ok (.iaload, 1) := by decide +kernel
theorem dX7_felt_46 : decode cX7_felt 46 = .ok (.ishl, 1) := by decide +kernel
theorem dX7_felt_47 : decode cX7_felt 47 = .ok (.if_icmp .ge 101, 3) := by decide +kernel
theorem dX7_felt_50 : decode cX7_felt 50 = .ok (.iload 4, 2) := by decide +kernel
theorem dX7_felt_52 : decode cX7_felt 52 = .ok (.ifCond .lt 16, 3) := by decide +kernel
theorem dX7_felt_55 : decode cX7_felt 55 = .ok (.iload 5, 2) := by decide +kernel
theorem dX7_felt_57 : decode cX7_felt 57 = .ok (.invokestatic 228, 3) := by decide +kernel
theorem dX7_felt_60 : decode cX7_felt 60 = .ok (.iload 4, 2) := by decide +kernel
theorem dX7_felt_62 : decode cX7_felt 62 = .ok (.invokestatic 228, 3) := by decide +kernel
theorem dX7_felt_65 : decode cX7_felt 65 = .ok (.if_icmp .ge 77, 3) := by decide +kernel
theorem dX7_felt_68 : decode cX7_felt 68 = .ok (.iconst 0, 1) := by decide +kernel
theorem dX7_felt_69 : decode cX7_felt 69 = .ok (.istore 6, 2) := by decide +kernel
theorem dX7_felt_71 : decode cX7_felt 71 = .ok (.iload 6, 2) := by decide +kernel
theorem dX7_felt_73 : decode cX7_felt 73 = .ok (.aload_n 0, 1) := by decide +kernel
theorem dX7_felt_74 : decode cX7_felt 74 = .ok (.getfield 19, 3) := by decide +kernel
theorem dX7_felt_77 : decode cX7_felt 77 = .ok (.iconst 0, 1) := by decide +kernel
theorem dX7_felt_78 : decode cX7_felt 78 = .ok (.iaload, 1) := by decide +kernel
theorem dX7_felt_79 : decode cX7_felt 79 = .ok (.if_icmp .ge 41, 3) := by decide +kernel
theorem dX7_felt_82 : decode cX7_felt 82 = .ok (.aload_n 0, 1) := by decide +kernel
theorem dX7_felt_83 : decode cX7_felt 83 = .ok (.getfield 19, 3) := by decide +kernel
theorem dX7_felt_86 : decode cX7_felt 86 = .ok (.iconst 5, 1) := by decide +kernel
theorem dX7_felt_87 : decode cX7_felt 87 = .ok (.iload 6, 2) := by decide +kernel
theorem dX7_felt_89 : decode cX7_felt 89 = .ok (.iadd, 1) := by decide +kernel
theorem dX7_felt_90 : decode cX7_felt 90 = .ok (.iload 5, 2) := by decide +kernel
theorem dX7_felt_92 : decode cX7_felt 92 = .ok (.iload 6, 2) := by decide +kernel
theorem dX7_felt_94 : decode cX7_felt 94 = .ok (.invokestatic 156, 3) := by decide +kernel
theorem dX7_felt_97 : decode cX7_felt 97 = .ok (.ifCond .eq 7, 3) := by decide +kernel
theorem dX7_felt_100 : decode cX7_felt 100 = .ok (.iconst 5, 1) := by decide +kernel
theorem dX7_felt_101 : decode cX7_felt 101 = .ok (.goto 12, 3) := by decide +kernel
theorem dX7_felt_104 : decode cX7_felt 104 = .ok (.aload_n 0, 1) := by decide +kernel
theorem dX7_felt_105 : decode cX7_felt 105 = .ok (.getfield 19, 3) := by decide +kernel
theorem dX7_felt_108 : decode cX7_felt 108 = .ok (.iconst 5, 1) := by decide +kernel
theorem dX7_felt_109 : decode cX7_felt 109 = .ok (.iload 6, 2) := by decide +kernel
theorem dX7_felt_111 : decode cX7_felt 111 = .ok (.iadd, 1) := by decide +kernel
theorem dX7_felt_112 : decode cX7_felt 112 = .ok (.iaload, 1) := by decide +kernel
theorem dX7_felt_113 : decode cX7_felt 113 = .ok (.iastore, 1) := by decide +kernel
theorem dX7_felt_114 : decode cX7_felt 114 = .ok (.iinc 6 1, 3) := by decide +kernel
theorem dX7_felt_117 : decode cX7_felt 117 = .ok (.goto (-46), 3) := by decide +kernel
theorem dX7_felt_120 : decode cX7_felt 120 = .ok (.aload_n 0, 1) := by decide +kernel
theorem dX7_felt_121 : decode cX7_felt 121 = .ok (.iload_n 1, 1) := by decide +kernel
theorem dX7_felt_122 : decode cX7_felt 122 = .ok (.iload_n 2, 1) := by decide +kernel
theorem dX7_felt_123 : decode cX7_felt 123 = .ok (.invokevirtual 240, 3) := by decide +kernel
theorem dX7_felt_126 : decode cX7_felt 126 = .ok (.ifCond .eq 8, 3) := by decide +kernel
theorem dX7_felt_129 : decode cX7_felt 129 = .ok (.iload 4, 2) := by decide +kernel
theorem dX7_felt_131 : decode cX7_felt 131 = .ok (.goto 5, 3) := by decide +kernel
theorem dX7_felt_134 : decode cX7_felt 134 = .ok (.iload 5, 2) := by decide +kernel
theorem dX7_felt_136 : decode cX7_felt 136 = .ok (.istore 4, 2) := by decide +kernel
theorem dX7_felt_138 : decode cX7_felt 138 = .ok (.aload_n 0, 1) := by decide +kernel
theorem dX7_felt_139 : decode cX7_felt 139 = .ok (.invokevirtual 222, 3) := by decide +kernel
theorem dX7_felt_142 : decode cX7_felt 142 = .ok (.iinc 5 1, 3) := by decide +kernel
theorem dX7_felt_145 : decode cX7_felt 145 = .ok (.goto (-108), 3) := by decide +kernel
theorem dX7_felt_148 : decode cX7_felt 148 = .ok (.iload 4, 2) := by decide +kernel
theorem dX7_felt_150 : decode cX7_felt 150 = .ok (.ifCond .lt 8, 3) := by decide +kernel
theorem dX7_felt_153 : decode cX7_felt 153 = .ok (.iload_n 3, 1) := by decide +kernel
theorem dX7_felt_154 : decode cX7_felt 154 = .ok (.iconst 1, 1) := by decide +kernel
theorem dX7_felt_155 : decode cX7_felt 155 = .ok (.if_icmp .ne 8, 3) := by decide +kernel
theorem dX7_felt_158 : decode cX7_felt 158 = .ok (.iload 4, 2) := by decide +kernel
theorem dX7_felt_160 : decode cX7_felt 160 = .ok (.goto 8, 3) := by decide +kernel
theorem dX7_felt_163 : decode cX7_felt 163 = .ok (.iload 4, 2) := by decide +kernel
theorem dX7_felt_165 : decode cX7_felt 165 = .ok (.invokestatic 228, 3) := by decide +kernel
theorem dX7_felt_168 : decode cX7_felt 168 = .ok (.ireturn, 1) := by decide +kernel
theorem dX7_areHeard_0 : decode cX7_areHeard 0 = .ok (.iconst 1, 1) := by decide +kernel
theorem dX7_areHeard_1 : decode cX7_areHeard 1 = .ok (.istore_n 2, 1) := by decide +kernel
theorem dX7_areHeard_2 : decode cX7_areHeard 2 = .ok (.iconst 0, 1) := by decide +kernel
theorem dX7_areHeard_3 : decode cX7_areHeard 3 = .ok (.istore_n 3, 1) := by decide +kernel
theorem dX7_areHeard_4 : decode cX7_areHeard 4 = .ok (.iload_n 3, 1) := by decide +kernel
theorem dX7_areHeard_5 : decode cX7_areHeard 5 = .ok (.aload_n 0, 1) := by decide +kernel
theorem dX7_areHeard_6 : decode cX7_areHeard 6 = .ok (.getfield 19, 3) := by decide +kernel
theorem dX7_areHeard_9 : decode cX7_areHeard 9 = .ok (.iconst 1, 1) := by decide +kernel
theorem dX7_areHeard_10 : decode cX7_areHeard 10 = .ok (.iaload, 1) := by decide +kernel
