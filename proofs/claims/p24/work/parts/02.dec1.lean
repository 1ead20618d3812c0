theorem dX4_init_19 : decode cX4_init 19 = .ok (.putfield 15, 3) := by decide +kernel
theorem dX4_init_22 : decode cX4_init 22 = .ok (.aload_n 0, 1) := by decide +kernel
theorem dX4_init_23 : decode cX4_init 23 = .ok (.bipush 24, 2) := by decide +kernel
theorem dX4_init_25 : decode cX4_init 25 = .ok (.newarray .int, 2) := by decide +kernel
theorem dX4_init_27 : decode cX4_init 27 = .ok (.putfield 18, 3) := by decide +kernel
theorem dX4_init_30 : decode cX4_init 30 = .ok (.return_, 1) := by decide +kernel
theorem dX5_init_0 : decode cX5_init 0 = .ok (.aload_n 0, 1) := by decide +kernel
theorem dX5_init_1 : decode cX5_init 1 = .ok (.invokespecial 3, 3) := by decide +kernel
theorem dX5_init_4 : decode cX5_init 4 = .ok (.aload_n 0, 1) := by decide +kernel
theorem dX5_init_5 : decode cX5_init 5 = .ok (.sipush 2000, 3) := by decide +kernel
theorem dX5_init_8 : decode cX5_init 8 = .ok (.newarray .long, 2) := by decide +kernel
theorem dX5_init_10 : decode cX5_init 10 = .ok (.putfield 9, 3) := by decide +kernel
theorem dX5_init_13 : decode cX5_init 13 = .ok (.aload_n 0, 1) := by decide +kernel
theorem dX5_init_14 : decode cX5_init 14 = .ok (.sipush 2000, 3) := by decide +kernel
theorem dX5_init_17 : decode cX5_init 17 = .ok (.newarray .int, 2) := by decide +kernel
theorem dX5_init_19 : decode cX5_init 19 = .ok (.putfield 15, 3) := by decide +kernel
theorem dX5_init_22 : decode cX5_init 22 = .ok (.aload_n 0, 1) := by decide +kernel
theorem dX5_init_23 : decode cX5_init 23 = .ok (.sipush 4096, 3) := by decide +kernel
theorem dX5_init_26 : decode cX5_init 26 = .ok (.newarray .int, 2) := by decide +kernel
theorem dX5_init_28 : decode cX5_init 28 = .ok (.putfield 19, 3) := by decide +kernel
theorem dX5_init_31 : decode cX5_init 31 = .ok (.aload_n 0, 1) := by decide +kernel
theorem dX5_init_32 : decode cX5_init 32 = .ok (.iconst 0, 1) := by decide +kernel
theorem dX5_init_33 : decode cX5_init 33 = .ok (.putfield 22, 3) := by decide +kernel
theorem dX5_init_36 : decode cX5_init 36 = .ok (.aload_n 0, 1) := by decide +kernel
theorem dX5_init_37 : decode cX5_init 37 = .ok (.iconst 0, 1) := by decide +kernel
theorem dX5_init_38 : decode cX5_init 38 = .ok (.putfield 26, 3) := by decide +kernel
theorem dX5_init_41 : decode cX5_init 41 = .ok (.aload_n 0, 1) := by decide +kernel
theorem dX5_init_42 : decode cX5_init 42 = .ok (.bipush (-9), 2) := by decide +kernel
theorem dX5_init_44 : decode cX5_init 44 = .ok (.putfield 30, 3) := by decide +kernel
theorem dX5_init_47 : decode cX5_init 47 = .ok (.aload_n 0, 1) := by decide +kernel
theorem dX5_init_48 : decode cX5_init 48 = .ok (.bipush (-9), 2) := by decide +kernel
theorem dX5_init_50 : decode cX5_init 50 = .ok (.putfield 33, 3) := by decide +kernel
theorem dX5_init_53 : decode cX5_init 53 = .ok (.aload_n 0, 1) := by decide +kernel
theorem dX5_init_54 : decode cX5_init 54 = .ok (.new 36, 3) := by decide +kernel
theorem dX5_init_57 : decode cX5_init 57 = .ok (.dup, 1) := by decide +kernel
theorem dX5_init_58 : decode cX5_init 58 = .ok (.iconst 0, 1) := by decide +kernel
theorem dX5_init_59 : decode cX5_init 59 = .ok (.aload_n 1, 1) := by decide +kernel
theorem dX5_init_60 : decode cX5_init 60 = .ok (.invokespecial 38, 3) := by decide +kernel
theorem dX5_init_63 : decode cX5_init 63 = .ok (.putfield 41, 3) := by decide +kernel
theorem dX5_init_66 : decode cX5_init 66 = .ok (.aload_n 0, 1) := by decide +kernel
theorem dX5_init_67 : decode cX5_init 67 = .ok (.new 36, 3) := by decide +kernel
theorem dX5_init_70 : decode cX5_init 70 = .ok (.dup, 1) := by decide +kernel
theorem dX5_init_71 : decode cX5_init 71 = .ok (.iconst 1, 1) := by decide +kernel
theorem dX5_init_72 : decode cX5_init 72 = .ok (.aload_n 1, 1) := by decide +kernel
theorem dX5_init_73 : decode cX5_init 73 = .ok (.invokespecial 38, 3) := by decide +kernel
theorem dX5_init_76 : decode cX5_init 76 = .ok (.putfield 45, 3) := by decide +kernel
theorem dX5_init_79 : decode cX5_init 79 = .ok (.return_, 1) := by decide +kernel
theorem dX5_distances_0 : decode cX5_distances 0 = .ok (.iload_n 1, 1) := by decide +kernel
theorem dX5_distances_1 : decode cX5_distances 1 = .ok (.ifCond .eq 10, 3) := by decide +kernel
theorem dX5_distances_4 : decode cX5_distances 4 = .ok (.aload_n 0, 1) := by decide +kernel
theorem dX5_distances_5 : decode cX5_distances 5 = .ok (.getfield 45, 3) := by decide +kernel
theorem dX5_distances_8 : decode cX5_distances 8 = .ok (.goto 7, 3) := by decide +kernel
theorem dX5_distances_11 : decode cX5_distances 11 = .ok (.aload_n 0, 1) := by decide +kernel
theorem dX5_distances_12 : decode cX5_distances 12 = .ok (.getfield 41, 3) := by decide +kernel
theorem dX5_distances_15 : decode cX5_distances 15 = .ok (.areturn, 1) := by decide +kernel
theorem dX5_explore_0 : decode cX5_explore 0 = .ok (.aload_n 0, 1) := by decide +kernel
theorem dX5_explore_1 : decode cX5_explore 1 = .ok (.getfield 30, 3) := by decide +kernel
theorem dX5_explore_4 : decode cX5_explore 4 = .ok (.aload_n 1, 1) := by decide +kernel
theorem dX5_explore_5 : decode cX5_explore 5 = .ok (.getfield 48, 3) := by decide +kernel
theorem dX5_explore_8 : decode cX5_explore 8 = .ok (.if_icmp .ne 12, 3) := by decide +kernel
theorem dX5_explore_11 : decode cX5_explore 11 = .ok (.aload_n 0, 1) := by decide +kernel
theorem dX5_explore_12 : decode cX5_explore 12 = .ok (.getfield 33, 3) := by decide +kernel
theorem dX5_explore_15 : decode cX5_explore 15 = .ok (.iload_n 2, 1) := by decide +kernel
theorem dX5_explore_16 : decode cX5_explore 16 = .ok (.if_icmp .ne 4, 3) := by decide +kernel
theorem dX5_explore_19 : decode cX5_explore 19 = .ok (.return_, 1) := by decide +kernel
theorem dX5_explore_20 : decode cX5_explore 20 = .ok (.aload_n 0, 1) := by decide +kernel
theorem dX5_explore_21 : decode cX5_explore 21 = .ok (.aload_n 1, 1) := by decide +kernel
theorem dX5_explore_22 : decode cX5_explore 22 = .ok (.getfield 48, 3) := by decide +kernel
theorem dX5_explore_25 : decode cX5_explore 25 = .ok (.putfield 30, 3) := by decide +kernel
theorem dX5_explore_28 : decode cX5_explore 28 = .ok (.aload_n 0, 1) := by decide +kernel
theorem dX5_explore_29 : decode cX5_explore 29 = .ok (.iload_n 2, 1) := by decide +kernel
theorem dX5_explore_30 : decode cX5_explore 30 = .ok (.putfield 33, 3) := by decide +kernel
theorem dX5_explore_33 : decode cX5_explore 33 = .ok (.aload_n 0, 1) := by decide +kernel
theorem dX5_explore_34 : decode cX5_explore 34 = .ok (.iconst 0, 1) := by decide +kernel
theorem dX5_explore_35 : decode cX5_explore 35 = .ok (.putfield 22, 3) := by decide +kernel
theorem dX5_explore_38 : decode cX5_explore 38 = .ok (.aload_n 0, 1) := by decide +kernel
theorem dX5_explore_39 : decode cX5_explore 39 = .ok (.iconst 0, 1) := by decide +kernel
theorem dX5_explore_40 : decode cX5_explore 40 = .ok (.putfield 26, 3) := by decide +kernel
theorem dX5_explore_43 : decode cX5_explore 43 = .ok (.aload_n 0, 1) := by decide +kernel
theorem dX5_explore_44 : decode cX5_explore 44 = .ok (.getfield 19, 3) := by decide +kernel
theorem dX5_explore_47 : decode cX5_explore 47 = .ok (.iconst 0, 1) := by decide +kernel
theorem dX5_explore_48 : decode cX5_explore 48 = .ok (.invokestatic 51, 3) := by decide +kernel
theorem dX5_explore_51 : decode cX5_explore 51 = .ok (.aload_n 0, 1) := by decide +kernel
theorem dX5_explore_52 : decode cX5_explore 52 = .ok (.getfield 41, 3) := by decide +kernel
theorem dX5_explore_55 : decode cX5_explore 55 = .ok (.invokevirtual 57, 3) := by decide +kernel
theorem dX5_explore_58 : decode cX5_explore 58 = .ok (.aload_n 0, 1) := by decide +kernel
theorem dX5_explore_59 : decode cX5_explore 59 = .ok (.getfield 45, 3) := by decide +kernel
theorem dX5_explore_62 : decode cX5_explore 62 = .ok (.invokevirtual 57, 3) := by decide +kernel
theorem dX5_explore_65 : decode cX5_explore 65 = .ok (.aload_n 0, 1) := by decide +kernel
theorem dX5_explore_66 : decode cX5_explore 66 = .ok (.aload_n 1, 1) := by decide +kernel
theorem dX5_explore_67 : decode cX5_explore 67 = .ok (.aload_n 0, 1) := by decide +kernel
theorem dX5_explore_68 : decode cX5_explore 68 = .ok (.getfield 33, 3) := by decide +kernel
theorem dX5_explore_71 : decode cX5_explore 71 = .ok (.invokevirtual 60, 3) := by decide +kernel
theorem dX5_explore_74 : decode cX5_explore 74 = .ok (.invokevirtual 64, 3) := by decide +kernel
theorem dX5_explore_77 : decode cX5_explore 77 = .ok (.iconst 0, 1) := by decide +kernel
theorem dX5_explore_78 : decode cX5_explore 78 = .ok (.istore_n 3, 1) := by decide +kernel
theorem dX5_explore_79 : decode cX5_explore 79 = .ok (.iload_n 3, 1) := by decide +kernel
theorem dX5_explore_80 : decode cX5_explore 80 = .ok (.aload_n 0, 1) := by decide +kernel
theorem dX5_explore_81 : decode cX5_explore 81 = .ok (.getfield 22, 3) := by decide +kernel
theorem dX5_explore_84 : decode cX5_explore 84 = .ok (.if_icmp .ge 29, 3) := by decide +kernel
theorem dX5_explore_87 : decode cX5_explore 87 = .ok (.iload_n 3, 1) := by decide +kernel
theorem dX5_explore_88 : decode cX5_explore 88 = .ok (.sipush 2000, 3) := by decide +kernel
theorem dX5_explore_91 : decode cX5_explore 91 = .ok (.if_icmp .ge 22, 3) := by decide +kernel
theorem dX5_explore_94 : decode cX5_explore 94 = .ok (.aload_n 0, 1) := by decide +kernel
theorem dX5_explore_95 : decode cX5_explore 95 = .ok (.getfield 26, 3) := by decide +kernel
theorem dX5_explore_98 : decode cX5_explore 98 = .ok (.ifCond .ne 15, 3) := by decide +kernel
theorem dX5_explore_101 : decode cX5_explore 101 = .ok (.aload_n 0, 1) := by decide +kernel
theorem dX5_explore_102 : decode cX5_explore 102 = .ok (.aload_n 1, 1) := by decide +kernel
theorem dX5_explore_103 : decode cX5_explore 103 = .ok (.iload_n 3, 1) := by decide +kernel
theorem dX5_explore_104 : decode cX5_explore 104 = .ok (.invokevirtual 68, 3) := by decide +kernel
theorem dX5_explore_107 : decode cX5_explore 107 = .ok (.iinc 3 1, 3) := by decide +kernel
theorem dX5_explore_110 : decode cX5_explore 110 = .ok (.goto (-31), 3) := by decide +kernel
theorem dX5_explore_113 : decode cX5_explore 113 = .ok (.return_, 1) := by decide +kernel
theorem dX5_expand_0 : decode cX5_expand 0 = .ok (.aload_n 0, 1) := by decide +kernel
theorem dX5_expand_1 : decode cX5_expand 1 = .ok (.getfield 9, 3) := by decide +kernel
theorem dX5_expand_4 : decode cX5_expand 4 = .ok (.iload_n 2, 1) := by decide +kernel
theorem dX5_expand_5 : decode cX5_expand 5 = .ok (.invokestatic 72, 3) := by decide +kernel
theorem dX5_expand_8 : decode cX5_expand 8 = .ok (.lstore_n 3, 1) := by decide +kernel
theorem dX5_expand_9 : decode cX5_expand 9 = .ok (.aload_n 0, 1) := by decide +kernel
theorem dX5_expand_10 : decode cX5_expand 10 = .ok (.aload_n 1, 1) := by decide +kernel
theorem dX5_expand_11 : decode cX5_expand 11 = .ok (.lload_n 3, 1) := by decide +kernel
theorem dX5_expand_12 : decode cX5_expand 12 = .ok (.invokevirtual 76, 3) := by decide +kernel
theorem dX5_expand_15 : decode cX5_expand 15 = .ok (.istore 5, 2) := by decide +kernel
theorem dX5_expand_17 : decode cX5_expand 17 = .ok (.iconst 0, 1) := by decide +kernel
theorem dX5_expand_18 : decode cX5_expand 18 = .ok (.istore 6, 2) := by decide +kernel
theorem dX5_expand_20 : decode cX5_expand 20 = .ok (.iconst 0, 1) := by decide +kernel
theorem dX5_expand_21 : decode cX5_expand 21 = .ok (.istore 7, 2) := by decide +kernel
theorem dX5_expand_23 : decode cX5_expand 23 = .ok (.iload 7, 2) := by decide +kernel
theorem dX5_expand_25 : decode cX5_expand 25 = .ok (.aload_n 1, 1) := by decide +kernel
theorem dX5_expand_26 : decode cX5_expand 26 = .ok (.getfield 80, 3) := by decide +kernel
theorem dX5_expand_29 : decode cX5_expand 29 = .ok (.if_icmp .ge 110, 3) := by decide +kernel
theorem dX5_expand_32 : decode cX5_expand 32 = .ok (.iload 7, 2) := by decide +kernel
theorem dX5_expand_34 : decode cX5_expand 34 = .ok (.aload_n 0, 1) := by decide +kernel
theorem dX5_expand_35 : decode cX5_expand 35 = .ok (.getfield 33, 3) := by decide +kernel
theorem dX5_expand_38 : decode cX5_expand 38 = .ok (.if_icmp .ne 6, 3) := by decide +kernel
theorem dX5_expand_41 : decode cX5_expand 41 = .ok (.goto 92, 3) := by decide +kernel
theorem dX5_expand_44 : decode cX5_expand 44 = .ok (.aload_n 1, 1) := by decide +kernel
theorem dX5_expand_45 : decode cX5_expand 45 = .ok (.getfield 83, 3) := by decide +kernel
theorem dX5_expand_48 : decode cX5_expand 48 = .ok (.iload 7, 2) := by decide +kernel
theorem dX5_expand_50 : decode cX5_expand 50 = .ok (.invokestatic 86, 3) := by decide +kernel
theorem dX5_expand_53 : decode cX5_expand 53 = .ok (.lload_n 3, 1) := by decide +kernel
theorem dX5_expand_54 : decode cX5_expand 54 = .ok (.iload 7, 2) := by decide +kernel
theorem dX5_expand_56 : decode cX5_expand 56 = .ok (.invokestatic 89, 3) := by decide +kernel
theorem dX5_expand_59 : decode cX5_expand 59 = .ok (.ishl, 1) := by decide +kernel
theorem dX5_expand_60 : decode cX5_expand 60 = .ok (.istore 8, 2) := by decide +kernel
theorem dX5_expand_62 : decode cX5_expand 62 = .ok (.aload_n 1, 1) := by decide +kernel
theorem dX5_expand_63 : decode cX5_expand 63 = .ok (.iload 8, 2) := by decide +kernel
theorem dX5_expand_65 : decode cX5_expand 65 = .ok (.iload 5, 2) := by decide +kernel
theorem dX5_expand_67 : decode cX5_expand 67 = .ok (.iload 8, 2) := by decide +kernel
theorem dX5_expand_69 : decode cX5_expand 69 = .ok (.iconst (-1), 1) := by decide +kernel
theorem dX5_expand_70 : decode cX5_expand 70 = .ok (.ixor, 1) := by decide +kernel
theorem dX5_expand_71 : decode cX5_expand 71 = .ok (.iand, 1) := by decide +kernel
theorem dX5_expand_72 : decode cX5_expand 72 = .ok (.invokevirtual 93, 3) := by decide +kernel
theorem dX5_expand_75 : decode cX5_expand 75 = .ok (.istore 9, 2) := by decide +kernel
theorem dX5_expand_77 : decode cX5_expand 77 = .ok (.iload 6, 2) := by decide +kernel
theorem dX5_expand_79 : decode cX5_expand 79 = .ok (.iload 9, 2) := by decide +kernel
theorem dX5_expand_81 : decode cX5_expand 81 = .ok (.iconst 4, 1) := by decide +kernel
theorem dX5_expand_82 : decode cX5_expand 82 = .ok (.iload 7, 2) := by decide +kernel
theorem dX5_expand_84 : decode cX5_expand 84 = .ok (.imul, 1) := by decide +kernel
theorem dX5_expand_85 : decode cX5_expand 85 = .ok (.ishl, 1) := by decide +kernel
theorem dX5_expand_86 : decode cX5_expand 86 = .ok (.ior, 1) := by decide +kernel
theorem dX5_expand_87 : decode cX5_expand 87 = .ok (.istore 6, 2) := by decide +kernel
theorem dX5_expand_89 : decode cX5_expand 89 = .ok (.iconst 0, 1) := by decide +kernel
theorem dX5_expand_90 : decode cX5_expand 90 = .ok (.istore 10, 2) := by decide +kernel
theorem dX5_expand_92 : decode cX5_expand 92 = .ok (.iload 10, 2) := by decide +kernel
theorem dX5_expand_94 : decode cX5_expand 94 = .ok (.iconst 4, 1) := by decide +kernel
theorem dX5_expand_95 : decode cX5_expand 95 = .ok (.if_icmp .ge 38, 3) := by decide +kernel
theorem dX5_expand_98 : decode cX5_expand 98 = .ok (.iload 9, 2) := by decide +kernel
theorem dX5_expand_100 : decode cX5_expand 100 = .ok (.iload 10, 2) := by decide +kernel
theorem dX5_expand_102 : decode cX5_expand 102 = .ok (.ishr, 1) := by decide +kernel
theorem dX5_expand_103 : decode cX5_expand 103 = .ok (.iconst 1, 1) := by decide +kernel
theorem dX5_expand_104 : decode cX5_expand 104 = .ok (.iand, 1) := by decide +kernel
theorem dX5_expand_105 : decode cX5_expand 105 = .ok (.ifCond .eq 22, 3) := by decide +kernel
theorem dX5_expand_108 : decode cX5_expand 108 = .ok (.aload_n 0, 1) := by decide +kernel
theorem dX5_expand_109 : decode cX5_expand 109 = .ok (.lload_n 3, 1) := by decide +kernel
theorem dX5_expand_110 : decode cX5_expand 110 = .ok (.aload_n 1, 1) := by decide +kernel
theorem dX5_expand_111 : decode cX5_expand 111 = .ok (.iload 10, 2) := by decide +kernel
theorem dX5_expand_113 : decode cX5_expand 113 = .ok (.invokevirtual 97, 3) := by decide +kernel
theorem dX5_expand_116 : decode cX5_expand 116 = .ok (.i2l, 1) := by decide +kernel
theorem dX5_expand_117 : decode cX5_expand 117 = .ok (.iload 7, 2) := by decide +kernel
theorem dX5_expand_119 : decode cX5_expand 119 = .ok (.invokestatic 101, 3) := by decide +kernel
theorem dX5_expand_122 : decode cX5_expand 122 = .ok (.lshl, 1) := by decide +kernel
theorem dX5_expand_123 : decode cX5_expand 123 = .ok (.ladd, 1) := by decide +kernel
theorem dX5_expand_124 : decode cX5_expand 124 = .ok (.invokevirtual 64, 3) := by decide +kernel
theorem dX5_expand_127 : decode cX5_expand 127 = .ok (.iinc 10 1, 3) := by decide +kernel
theorem dX5_expand_130 : decode cX5_expand 130 = .ok (.goto (-38), 3) := by decide +kernel
theorem dX5_expand_133 : decode cX5_expand 133 = .ok (.iinc 7 1, 3) := by decide +kernel
theorem dX5_expand_136 : decode cX5_expand 136 = .ok (.goto (-113), 3) := by decide +kernel
theorem dX5_expand_139 : decode cX5_expand 139 = .ok (.aload_n 0, 1) := by decide +kernel
theorem dX5_expand_140 : decode cX5_expand 140 = .ok (.getfield 15, 3) := by decide +kernel
theorem dX5_expand_143 : decode cX5_expand 143 = .ok (.iload_n 2, 1) := by decide +kernel
theorem dX5_expand_144 : decode cX5_expand 144 = .ok (.iload 6, 2) := by decide +kernel
theorem dX5_expand_146 : decode cX5_expand 146 = .ok (.invokestatic 104, 3) := by decide +kernel
theorem dX5_expand_149 : decode cX5_expand 149 = .ok (.return_, 1) := by decide +kernel
theorem dX5_takenIn_0 : decode cX5_takenIn 0 = .ok (.aload_n 1, 1) := by decide +kernel
theorem dX5_takenIn_1 : decode cX5_takenIn 1 = .ok (.getfield 108, 3) := by decide +kernel
theorem dX5_takenIn_4 : decode cX5_takenIn 4 = .ok (.istore 4, 2) := by decide +kernel
theorem dX5_takenIn_6 : decode cX5_takenIn 6 = .ok (.iconst 0, 1) := by decide +kernel
theorem dX5_takenIn_7 : decode cX5_takenIn 7 = .ok (.istore 5, 2) := by decide +kernel
theorem dX5_takenIn_9 : decode cX5_takenIn 9 = .ok (.iload 5, 2) := by decide +kernel
theorem dX5_takenIn_11 : decode cX5_takenIn 11 = .ok (.aload_n 1, 1) := by decide +kernel
theorem dX5_takenIn_12 : decode cX5_takenIn 12 = .ok (.getfield 80, 3) := by decide +kernel
theorem dX5_takenIn_15 : decode cX5_takenIn 15 = .ok (.if_icmp .ge 39, 3) := by decide +kernel
theorem dX5_takenIn_18 : decode cX5_takenIn 18 = .ok (.iload 5, 2) := by decide +kernel
theorem dX5_takenIn_20 : decode cX5_takenIn 20 = .ok (.aload_n 0, 1) := by decide +kernel
theorem dX5_takenIn_21 : decode cX5_takenIn 21 = .ok (.getfield 33, 3) := by decide +kernel
theorem dX5_takenIn_24 : decode cX5_takenIn 24 = .ok (.if_icmp .eq 24, 3) := by decide +kernel
theorem dX5_takenIn_27 : decode cX5_takenIn 27 = .ok (.iload 4, 2) := by decide +kernel
theorem dX5_takenIn_29 : decode cX5_takenIn 29 = .ok (.aload_n 1, 1) := by decide +kernel
theorem dX5_takenIn_30 : decode cX5_takenIn 30 = .ok (.getfield 83, 3) := by decide +kernel
theorem dX5_takenIn_33 : decode cX5_takenIn 33 = .ok (.iload 5, 2) := by decide +kernel
theorem dX5_takenIn_35 : decode cX5_takenIn 35 = .ok (.invokestatic 86, 3) := by decide +kernel
theorem dX5_takenIn_38 : decode cX5_takenIn 38 = .ok (.lload_n 2, 1) := by decide +kernel
theorem dX5_takenIn_39 : decode cX5_takenIn 39 = .ok (.iload 5, 2) := by decide +kernel
theorem dX5_takenIn_41 : decode cX5_takenIn 41 = .ok (.invokestatic 89, 3) := by decide +kernel
theorem dX5_takenIn_44 : decode cX5_takenIn 44 = .ok (.ishl, 1) := by decide +kernel
theorem dX5_takenIn_45 : decode cX5_takenIn 45 = .ok (.ior, 1) := by decide +kernel
theorem dX5_takenIn_46 : decode cX5_takenIn 46 = .ok (.istore 4, 2) := by decide +kernel
theorem dX5_takenIn_48 : decode cX5_takenIn 48 = .ok (.iinc 5 1, 3) := by decide +kernel
theorem dX5_takenIn_51 : decode cX5_takenIn 51 = .ok (.goto (-42), 3) := by decide +kernel
theorem dX5_takenIn_54 : decode cX5_takenIn 54 = .ok (.iload 4, 2) := by decide +kernel
theorem dX5_takenIn_56 : decode cX5_takenIn 56 = .ok (.ireturn, 1) := by decide +kernel
theorem dX5_add_0 : decode cX5_add 0 = .ok (.aload_n 0, 1) := by decide +kernel
theorem dX5_add_1 : decode cX5_add 1 = .ok (.lload_n 1, 1) := by decide +kernel
theorem dX5_add_2 : decode cX5_add 2 = .ok (.invokevirtual 111, 3) := by decide +kernel
theorem dX5_add_5 : decode cX5_add 5 = .ok (.istore_n 3, 1) := by decide +kernel
theorem dX5_add_6 : decode cX5_add 6 = .ok (.aload_n 0, 1) := by decide +kernel
theorem dX5_add_7 : decode cX5_add 7 = .ok (.getfield 19, 3) := by decide +kernel
theorem dX5_add_10 : decode cX5_add 10 = .ok (.iload_n 3, 1) := by decide +kernel
theorem dX5_add_11 : decode cX5_add 11 = .ok (.invokestatic 86, 3) := by decide +kernel
theorem dX5_add_14 : decode cX5_add 14 = .ok (.ifCond .eq 4, 3) := by decide +kernel
theorem dX5_add_17 : decode cX5_add 17 = .ok (.return_, 1) := by decide +kernel
theorem dX5_add_18 : decode cX5_add 18 = .ok (.aload_n 0, 1) := by decide +kernel
theorem dX5_add_19 : decode cX5_add 19 = .ok (.getfield 22, 3) := by decide +kernel
theorem dX5_add_22 : decode cX5_add 22 = .ok (.sipush 2000, 3) := by decide +kernel
theorem dX5_add_25 : decode cX5_add 25 = .ok (.if_icmp .lt 9, 3) := by decide +kernel
theorem dX5_add_28 : decode cX5_add 28 = .ok (.aload_n 0, 1) := by decide +kernel
theorem dX5_add_29 : decode cX5_add 29 = .ok (.iconst 1, 1) := by decide +kernel
theorem dX5_add_30 : decode cX5_add 30 = .ok (.putfield 26, 3) := by decide +kernel
theorem dX5_add_33 : decode cX5_add 33 = .ok (.return_, 1) := by decide +kernel
theorem dX5_add_34 : decode cX5_add 34 = .ok (.aload_n 0, 1) := by decide +kernel
theorem dX5_add_35 : decode cX5_add 35 = .ok (.getfield 9, 3) := by decide +kernel
theorem dX5_add_38 : decode cX5_add 38 = .ok (.aload_n 0, 1) := by decide +kernel
theorem dX5_add_39 : decode cX5_add 39 = .ok (.getfield 22, 3) := by decide +kernel
theorem dX5_add_42 : decode cX5_add 42 = .ok (.lload_n 1, 1) := by decide +kernel
theorem dX5_add_43 : decode cX5_add 43 = .ok (.invokestatic 115, 3) := by decide +kernel
theorem dX5_add_46 : decode cX5_add 46 = .ok (.aload_n 0, 1) := by decide +kernel
theorem dX5_add_47 : decode cX5_add 47 = .ok (.dup, 1) := by decide +kernel
theorem dX5_add_48 : decode cX5_add 48 = .ok (.getfield 22, 3) := by decide +kernel
theorem dX5_add_51 : decode cX5_add 51 = .ok (.iconst 1, 1) := by decide +kernel
theorem dX5_add_52 : decode cX5_add 52 = .ok (.iadd, 1) := by decide +kernel
theorem dX5_add_53 : decode cX5_add 53 = .ok (.putfield 22, 3) := by decide +kernel
theorem dX5_add_56 : decode cX5_add 56 = .ok (.aload_n 0, 1) := by decide +kernel
theorem dX5_add_57 : decode cX5_add 57 = .ok (.getfield 19, 3) := by decide +kernel
theorem dX5_add_60 : decode cX5_add 60 = .ok (.iload_n 3, 1) := by decide +kernel
theorem dX5_add_61 : decode cX5_add 61 = .ok (.aload_n 0, 1) := by decide +kernel
theorem dX5_add_62 : decode cX5_add 62 = .ok (.getfield 22, 3) := by decide +kernel
theorem dX5_add_65 : decode cX5_add 65 = .ok (.invokestatic 104, 3) := by decide +kernel
theorem dX5_add_68 : decode cX5_add 68 = .ok (.return_, 1) := by decide +kernel
theorem dX5_slotOf_0 : decode cX5_slotOf 0 = .ok (.lload_n 1, 1) := by decide +kernel
theorem dX5_slotOf_1 : decode cX5_slotOf 1 = .ok (.ldc2_w 118, 3) := by decide +kernel
theorem dX5_slotOf_4 : decode cX5_slotOf 4 = .ok (.lmul, 1) := by decide +kernel
theorem dX5_slotOf_5 : decode cX5_slotOf 5 = .ok (.bipush 52, 2) := by decide +kernel
theorem dX5_slotOf_7 : decode cX5_slotOf 7 = .ok (.lushr, 1) := by decide +kernel
theorem dX5_slotOf_8 : decode cX5_slotOf 8 = .ok (.l2i, 1) := by decide +kernel
theorem dX5_slotOf_9 : decode cX5_slotOf 9 = .ok (.istore_n 3, 1) := by decide +kernel
theorem dX5_slotOf_10 : decode cX5_slotOf 10 = .ok (.iconst 0, 1) := by decide +kernel
theorem dX5_slotOf_11 : decode cX5_slotOf 11 = .ok (.istore 4, 2) := by decide +kernel
theorem dX5_slotOf_13 : decode cX5_slotOf 13 = .ok (.iload 4, 2) := by decide +kernel
theorem dX5_slotOf_15 : decode cX5_slotOf 15 = .ok (.sipush 4096, 3) := by decide +kernel
theorem dX5_slotOf_18 : decode cX5_slotOf 18 = .ok (.if_icmp .ge 73, 3) := by decide +kernel
theorem dX5_slotOf_21 : decode cX5_slotOf 21 = .ok (.iload_n 3, 1) := by decide +kernel
theorem dX5_slotOf_22 : decode cX5_slotOf 22 = .ok (.ifCond .lt 23, 3) := by decide +kernel
theorem dX5_slotOf_25 : decode cX5_slotOf 25 = .ok (.iload_n 3, 1) := by decide +kernel
theorem dX5_slotOf_26 : decode cX5_slotOf 26 = .ok (.aload_n 0, 1) := by decide +kernel
theorem dX5_slotOf_27 : decode cX5_slotOf 27 = .ok (.getfield 19, 3) := by decide +kernel
theorem dX5_slotOf_30 : decode cX5_slotOf 30 = .ok (.arraylength, 1) := by decide +kernel
theorem dX5_slotOf_31 : decode cX5_slotOf 31 = .ok (.if_icmp .ge 14, 3) := by decide +kernel
theorem dX5_slotOf_34 : decode cX5_slotOf 34 = .ok (.aload_n 0, 1) := by decide +kernel
theorem dX5_slotOf_35 : decode cX5_slotOf 35 = .ok (.getfield 19, 3) := by decide +kernel
theorem dX5_slotOf_38 : decode cX5_slotOf 38 = .ok (.iload_n 3, 1) := by decide +kernel
theorem dX5_slotOf_39 : decode cX5_slotOf 39 = .ok (.iaload, 1) := by decide +kernel
theorem dX5_slotOf_40 : decode cX5_slotOf 40 = .ok (.iconst 1, 1) := by decide +kernel
theorem dX5_slotOf_41 : decode cX5_slotOf 41 = .ok (.isub, 1) := by decide +kernel
theorem dX5_slotOf_42 : decode cX5_slotOf 42 = .ok (.goto 4, 3) := by decide +kernel
theorem dX5_slotOf_45 : decode cX5_slotOf 45 = .ok (.iconst (-1), 1) := by decide +kernel
theorem dX5_slotOf_46 : decode cX5_slotOf 46 = .ok (.istore 5, 2) := by decide +kernel
theorem dX5_slotOf_48 : decode cX5_slotOf 48 = .ok (.iload 5, 2) := by decide +kernel
theorem dX5_slotOf_50 : decode cX5_slotOf 50 = .ok (.ifCond .lt 25, 3) := by decide +kernel
theorem dX5_slotOf_53 : decode cX5_slotOf 53 = .ok (.iload 5, 2) := by decide +kernel
theorem dX5_slotOf_55 : decode cX5_slotOf 55 = .ok (.aload_n 0, 1) := by decide +kernel
theorem dX5_slotOf_56 : decode cX5_slotOf 56 = .ok (.getfield 9, 3) := by decide +kernel
theorem dX5_slotOf_59 : decode cX5_slotOf 59 = .ok (.arraylength, 1) := by decide +kernel
theorem dX5_slotOf_60 : decode cX5_slotOf 60 = .ok (.if_icmp .ge 15, 3) := by decide +kernel
theorem dX5_slotOf_63 : decode cX5_slotOf 63 = .ok (.aload_n 0, 1) := by decide +kernel
theorem dX5_slotOf_64 : decode cX5_slotOf 64 = .ok (.getfield 9, 3) := by decide +kernel
theorem dX5_slotOf_67 : decode cX5_slotOf 67 = .ok (.iload 5, 2) := by decide +kernel
theorem dX5_slotOf_69 : decode cX5_slotOf 69 = .ok (.laload, 1) := by decide +kernel
theorem dX5_slotOf_70 : decode cX5_slotOf 70 = .ok (.lload_n 1, 1) := by decide +kernel
theorem dX5_slotOf_71 : decode cX5_slotOf 71 = .ok (.lcmp, 1) := by decide +kernel
theorem dX5_slotOf_72 : decode cX5_slotOf 72 = .ok (.ifCond .ne 5, 3) := by decide +kernel
theorem dX5_slotOf_75 : decode cX5_slotOf 75 = .ok (.iload_n 3, 1) := by decide +kernel
theorem dX5_slotOf_76 : decode cX5_slotOf 76 = .ok (.ireturn, 1) := by decide +kernel
theorem dX5_slotOf_77 : decode cX5_slotOf 77 = .ok (.iload_n 3, 1) := by decide +kernel
theorem dX5_slotOf_78 : decode cX5_slotOf 78 = .ok (.iconst 1, 1) := by decide +kernel
theorem dX5_slotOf_79 : decode cX5_slotOf 79 = .ok (.iadd, 1) := by decide +kernel
theorem dX5_slotOf_80 : decode cX5_slotOf 80 = .ok (.sipush 4095, 3) := by decide +kernel
theorem dX5_slotOf_83 : decode cX5_slotOf 83 = .ok (.iand, 1) := by decide +kernel
theorem dX5_slotOf_84 : decode cX5_slotOf 84 = .ok (.istore_n 3, 1) := by decide +kernel
theorem dX5_slotOf_85 : decode cX5_slotOf 85 = .ok (.iinc 4 1, 3) := by decide +kernel
theorem dX5_slotOf_88 : decode cX5_slotOf 88 = .ok (.goto (-75), 3) := by decide +kernel
theorem dX5_slotOf_91 : decode cX5_slotOf 91 = .ok (.iload_n 3, 1) := by decide +kernel
theorem dX5_slotOf_92 : decode cX5_slotOf 92 = .ok (.ireturn, 1) := by decide +kernel
theorem dX5_canMove_0 : decode cX5_canMove 0 = .ok (.aload_n 0, 1) := by decide +kernel
theorem dX5_canMove_1 : decode cX5_canMove 1 = .ok (.getfield 15, 3) := by decide +kernel
theorem dX5_canMove_4 : decode cX5_canMove 4 = .ok (.iload_n 1, 1) := by decide +kernel
theorem dX5_canMove_5 : decode cX5_canMove 5 = .ok (.invokestatic 86, 3) := by decide +kernel
theorem dX5_canMove_8 : decode cX5_canMove 8 = .ok (.iconst 4, 1) := by decide +kernel
theorem dX5_canMove_9 : decode cX5_canMove 9 = .ok (.iload_n 2, 1) := by decide +kernel
theorem dX5_canMove_10 : decode cX5_canMove 10 = .ok (.imul, 1) := by decide +kernel
theorem dX5_canMove_11 : decode cX5_canMove 11 = .ok (.ishr, 1) := by decide +kernel
theorem dX5_canMove_12 : decode cX5_canMove 12 = .ok (.bipush 15, 2) := by decide +kernel
theorem dX5_canMove_14 : decode cX5_canMove 14 = .ok (.iand, 1) := by decide +kernel
theorem dX5_canMove_15 : decode cX5_canMove 15 = .ok (.ifCond .eq 7, 3) := by decide +kernel
theorem dX5_canMove_18 : decode cX5_canMove 18 = .ok (.iconst 1, 1) := by decide +kernel
theorem dX5_canMove_19 : decode cX5_canMove 19 = .ok (.goto 4, 3) := by decide +kernel
theorem dX5_canMove_22 : decode cX5_canMove 22 = .ok (.iconst 0, 1) := by decide +kernel
theorem dX5_canMove_23 : decode cX5_canMove 23 = .ok (.ireturn, 1) := by decide +kernel
theorem dX5_after_0 : decode cX5_after 0 = .ok (.aload_n 0, 1) := by decide +kernel
theorem dX5_after_1 : decode cX5_after 1 = .ok (.getfield 15, 3) := by decide +kernel
theorem dX5_after_4 : decode cX5_after 4 = .ok (.iload_n 2, 1) := by decide +kernel
theorem dX5_after_5 : decode cX5_after 5 = .ok (.invokestatic 86, 3) := by decide +kernel
theorem dX5_after_8 : decode cX5_after 8 = .ok (.iconst 4, 1) := by decide +kernel
theorem dX5_after_9 : decode cX5_after 9 = .ok (.iload_n 3, 1) := by decide +kernel
theorem dX5_after_10 : decode cX5_after 10 = .ok (.imul, 1) := by decide +kernel
theorem dX5_after_11 : decode cX5_after 11 = .ok (.iload 4, 2) := by decide +kernel
theorem dX5_after_13 : decode cX5_after 13 = .ok (.iadd, 1) := by decide +kernel
theorem dX5_after_14 : decode cX5_after 14 = .ok (.ishr, 1) := by decide +kernel
theorem dX5_after_15 : decode cX5_after 15 = .ok (.iconst 1, 1) := by decide +kernel
theorem dX5_after_16 : decode cX5_after 16 = .ok (.iand, 1) := by decide +kernel
theorem dX5_after_17 : decode cX5_after 17 = .ok (.ifCond .ne 5, 3) := by decide +kernel
theorem dX5_after_20 : decode cX5_after 20 = .ok (.iconst (-1), 1) := by decide +kernel
theorem dX5_after_21 : decode cX5_after 21 = .ok (.ireturn, 1) := by decide +kernel
theorem dX5_after_22 : decode cX5_after 22 = .ok (.aload_n 0, 1) := by decide +kernel
theorem dX5_after_23 : decode cX5_after 23 = .ok (.getfield 9, 3) := by decide +kernel
theorem dX5_after_26 : decode cX5_after 26 = .ok (.iload_n 2, 1) := by decide +kernel
theorem dX5_after_27 : decode cX5_after 27 = .ok (.invokestatic 72, 3) := by decide +kernel
theorem dX5_after_30 : decode cX5_after 30 = .ok (.aload_n 1, 1) := by decide +kernel
theorem dX5_after_31 : decode cX5_after 31 = .ok (.iload 4, 2) := by decide +kernel
theorem dX5_after_33 : decode cX5_after 33 = .ok (.invokevirtual 97, 3) := by decide +kernel
theorem dX5_after_36 : decode cX5_after 36 = .ok (.i2l, 1) := by decide +kernel
theorem dX5_after_37 : decode cX5_after 37 = .ok (.iload_n 3, 1) := by decide +kernel
theorem dX5_after_38 : decode cX5_after 38 = .ok (.invokestatic 101, 3) := by decide +kernel
theorem dX5_after_41 : decode cX5_after 41 = .ok (.lshl, 1) := by decide +kernel
theorem dX5_after_42 : decode cX5_after 42 = .ok (.ladd, 1) := by decide +kernel
theorem dX5_after_43 : decode cX5_after 43 = .ok (.lstore 5, 2) := by decide +kernel
theorem dX5_after_45 : decode cX5_after 45 = .ok (.aload_n 0, 1) := by decide +kernel
theorem dX5_after_46 : decode cX5_after 46 = .ok (.getfield 19, 3) := by decide +kernel
theorem dX5_after_49 : decode cX5_after 49 = .ok (.aload_n 0, 1) := by decide +kernel
theorem dX5_after_50 : decode cX5_after 50 = .ok (.lload 5, 2) := by decide +kernel
theorem dX5_after_52 : decode cX5_after 52 = .ok (.invokevirtual 111, 3) := by decide +kernel
theorem dX5_after_55 : decode cX5_after 55 = .ok (.invokestatic 86, 3) := by decide +kernel
theorem dX5_after_58 : decode cX5_after 58 = .ok (.iconst 1, 1) := by decide +kernel
theorem dX5_after_59 : decode cX5_after 59 = .ok (.isub, 1) := by decide +kernel
theorem dX5_after_60 : decode cX5_after 60 = .ok (.ireturn, 1) := by decide +kernel
theorem dX5_farOf_0 : decode cX5_farOf 0 = .ok (.aload_n 0, 1) := by decide +kernel
theorem dX5_farOf_1 : decode cX5_farOf 1 = .ok (.getfield 19, 3) := by decide +kernel
theorem dX5_farOf_4 : decode cX5_farOf 4 = .ok (.aload_n 0, 1) := by decide +kernel
theorem dX5_farOf_5 : decode cX5_farOf 5 = .ok (.lload_n 1, 1) := by decide +kernel
theorem dX5_farOf_6 : decode cX5_farOf 6 = .ok (.invokevirtual 111, 3) := by decide +kernel
theorem dX5_farOf_9 : decode cX5_farOf 9 = .ok (.invokestatic 86, 3) := by decide +kernel
theorem dX5_farOf_12 : decode cX5_farOf 12 = .ok (.iconst 1, 1) := by decide +kernel
theorem dX5_farOf_13 : decode cX5_farOf 13 = .ok (.isub, 1) := by decide +kernel
theorem dX5_farOf_14 : decode cX5_farOf 14 = .ok (.istore 4, 2) := by decide +kernel
theorem dX5_farOf_16 : decode cX5_farOf 16 = .ok (.iload 4, 2) := by decide +kernel
theorem dX5_farOf_18 : decode cX5_farOf 18 = .ok (.ifCond .ge 8, 3) := by decide +kernel
theorem dX5_farOf_21 : decode cX5_farOf 21 = .ok (.bipush (-9), 2) := by decide +kernel
theorem dX5_farOf_23 : decode cX5_farOf 23 = .ok (.goto 16, 3) := by decide +kernel
theorem dX5_farOf_26 : decode cX5_farOf 26 = .ok (.aload_n 0, 1) := by decide +kernel
theorem dX5_farOf_27 : decode cX5_farOf 27 = .ok (.iload_n 3, 1) := by decide +kernel
theorem dX5_farOf_28 : decode cX5_farOf 28 = .ok (.invokevirtual 120, 3) := by decide +kernel
theorem dX5_farOf_31 : decode cX5_farOf 31 = .ok (.getfield 124, 3) := by decide +kernel
theorem dX5_farOf_34 : decode cX5_farOf 34 = .ok (.iload 4, 2) := by decide +kernel
theorem dX5_farOf_36 : decode cX5_farOf 36 = .ok (.invokestatic 86, 3) := by decide +kernel
theorem dX5_farOf_39 : decode cX5_farOf 39 = .ok (.ireturn, 1) := by decide +kernel
theorem dX5_countAt_0 : decode cX5_countAt 0 = .ok (.iconst 0, 1) := by decide +kernel
theorem dX5_countAt_1 : decode cX5_countAt 1 = .ok (.istore_n 3, 1) := by decide +kernel
theorem dX5_countAt_2 : decode cX5_countAt 2 = .ok (.iconst 0, 1) := by decide +kernel
theorem dX5_countAt_3 : decode cX5_countAt 3 = .ok (.istore 4, 2) := by decide +kernel
theorem dX5_countAt_5 : decode cX5_countAt 5 = .ok (.iload 4, 2) := by decide +kernel
theorem dX5_countAt_7 : decode cX5_countAt 7 = .ok (.aload_n 0, 1) := by decide +kernel
theorem dX5_countAt_8 : decode cX5_countAt 8 = .ok (.getfield 22, 3) := by decide +kernel
theorem dX5_countAt_11 : decode cX5_countAt 11 = .ok (.if_icmp .ge 29, 3) := by decide +kernel
theorem dX5_countAt_14 : decode cX5_countAt 14 = .ok (.aload_n 0, 1) := by decide +kernel
theorem dX5_countAt_15 : decode cX5_countAt 15 = .ok (.getfield 9, 3) := by decide +kernel
theorem dX5_countAt_18 : decode cX5_countAt 18 = .ok (.iload 4, 2) := by decide +kernel
theorem dX5_countAt_20 : decode cX5_countAt 20 = .ok (.invokestatic 72, 3) := by decide +kernel
theorem dX5_countAt_23 : decode cX5_countAt 23 = .ok (.iload_n 1, 1) := by decide +kernel
theorem dX5_countAt_24 : decode cX5_countAt 24 = .ok (.invokestatic 89, 3) := by decide +kernel
theorem dX5_countAt_27 : decode cX5_countAt 27 = .ok (.iload_n 2, 1) := by decide +kernel
theorem dX5_countAt_28 : decode cX5_countAt 28 = .ok (.if_icmp .ne 6, 3) := by decide +kernel
theorem dX5_countAt_31 : decode cX5_countAt 31 = .ok (.iinc 3 1, 3) := by decide +kernel
theorem dX5_countAt_34 : decode cX5_countAt 34 = .ok (.iinc 4 1, 3) := by decide +kernel
theorem dX5_countAt_37 : decode cX5_countAt 37 = .ok (.goto (-32), 3) := by decide +kernel
theorem dX5_countAt_40 : decode cX5_countAt 40 = .ok (.iload_n 3, 1) := by decide +kernel
theorem dX5_countAt_41 : decode cX5_countAt 41 = .ok (.ireturn, 1) := by decide +kernel
theorem dX5_placesOf_0 : decode cX5_placesOf 0 = .ok (.iconst 0, 1) := by decide +kernel
theorem dX5_placesOf_1 : decode cX5_placesOf 1 = .ok (.istore_n 2, 1) := by decide +kernel
theorem dX5_placesOf_2 : decode cX5_placesOf 2 = .ok (.iconst 0, 1) := by decide +kernel
theorem dX5_placesOf_3 : decode cX5_placesOf 3 = .ok (.istore_n 3, 1) := by decide +kernel
theorem dX5_placesOf_4 : decode cX5_placesOf 4 = .ok (.iload_n 3, 1) := by decide +kernel
theorem dX5_placesOf_5 : decode cX5_placesOf 5 = .ok (.aload_n 0, 1) := by decide +kernel
theorem dX5_placesOf_6 : decode cX5_placesOf 6 = .ok (.getfield 22, 3) := by decide +kernel
theorem dX5_placesOf_9 : decode cX5_placesOf 9 = .ok (.if_icmp .ge 26, 3) := by decide +kernel
theorem dX5_placesOf_12 : decode cX5_placesOf 12 = .ok (.iload_n 2, 1) := by decide +kernel
theorem dX5_placesOf_13 : decode cX5_placesOf 13 = .ok (.iconst 1, 1) := by decide +kernel
theorem dX5_placesOf_14 : decode cX5_placesOf 14 = .ok (.aload_n 0, 1) := by decide +kernel
theorem dX5_placesOf_15 : decode cX5_placesOf 15 = .ok (.getfield 9, 3) := by decide +kernel
theorem dX5_placesOf_18 : decode cX5_placesOf 18 = .ok (.iload_n 3, 1) := by decide +kernel
theorem dX5_placesOf_19 : decode cX5_placesOf 19 = .ok (.invokestatic 72, 3) := by decide +kernel
theorem dX5_placesOf_22 : decode cX5_placesOf 22 = .ok (.iload_n 1, 1) := by decide +kernel
theorem dX5_placesOf_23 : decode cX5_placesOf 23 = .ok (.invokestatic 89, 3) := by decide +kernel
theorem dX5_placesOf_26 : decode cX5_placesOf 26 = .ok (.ishl, 1) := by decide +kernel
theorem dX5_placesOf_27 : decode cX5_placesOf 27 = .ok (.ior, 1) := by decide +kernel
theorem dX5_placesOf_28 : decode cX5_placesOf 28 = .ok (.istore_n 2, 1) := by decide +kernel
theorem dX5_placesOf_29 : decode cX5_placesOf 29 = .ok (.iinc 3 1, 3) := by decide +kernel
theorem dX5_placesOf_32 : decode cX5_placesOf 32 = .ok (.goto (-28), 3) := by decide +kernel
theorem dX5_placesOf_35 : decode cX5_placesOf 35 = .ok (.iload_n 2, 1) := by decide +kernel
theorem dX5_placesOf_36 : decode cX5_placesOf 36 = .ok (.ireturn, 1) := by decide +kernel
theorem dX5_firstFar_0 : decode cX5_firstFar 0 = .ok (.aload_n 0, 1) := by decide +kernel
theorem dX5_firstFar_1 : decode cX5_firstFar 1 = .ok (.iload_n 1, 1) := by decide +kernel
theorem dX5_firstFar_2 : decode cX5_firstFar 2 = .ok (.invokevirtual 120, 3) := by decide +kernel
theorem dX5_firstFar_5 : decode cX5_firstFar 5 = .ok (.getfield 124, 3) := by decide +kernel
theorem dX5_firstFar_8 : decode cX5_firstFar 8 = .ok (.astore_n 3, 1) := by decide +kernel
theorem dX5_firstFar_9 : decode cX5_firstFar 9 = .ok (.ldc2_w 127, 3) := by decide +kernel
theorem dX5_firstFar_12 : decode cX5_firstFar 12 = .ok (.lstore 4, 2) := by decide +kernel
theorem dX5_firstFar_14 : decode cX5_firstFar 14 = .ok (.iconst 0, 1) := by decide +kernel
theorem dX5_firstFar_15 : decode cX5_firstFar 15 = .ok (.istore 6, 2) := by decide +kernel
theorem dX5_firstFar_17 : decode cX5_firstFar 17 = .ok (.iload 6, 2) := by decide +kernel
theorem dX5_firstFar_19 : decode cX5_firstFar 19 = .ok (.aload_n 0, 1) := by decide +kernel
theorem dX5_firstFar_20 : decode cX5_firstFar 20 = .ok (.getfield 22, 3) := by decide +kernel
theorem dX5_firstFar_23 : decode cX5_firstFar 23 = .ok (.if_icmp .ge 49, 3) := by decide +kernel
theorem dX5_firstFar_26 : decode cX5_firstFar 26 = .ok (.aload_n 0, 1) := by decide +kernel
theorem dX5_firstFar_27 : decode cX5_firstFar 27 = .ok (.getfield 9, 3) := by decide +kernel
theorem dX5_firstFar_30 : decode cX5_firstFar 30 = .ok (.iload 6, 2) := by decide +kernel
theorem dX5_firstFar_32 : decode cX5_firstFar 32 = .ok (.invokestatic 72, 3) := by decide +kernel
theorem dX5_firstFar_35 : decode cX5_firstFar 35 = .ok (.lstore 7, 2) := by decide +kernel
theorem dX5_firstFar_37 : decode cX5_firstFar 37 = .ok (.aload_n 3, 1) := by decide +kernel
theorem dX5_firstFar_38 : decode cX5_firstFar 38 = .ok (.iload 6, 2) := by decide +kernel
theorem dX5_firstFar_40 : decode cX5_firstFar 40 = .ok (.invokestatic 86, 3) := by decide +kernel
theorem dX5_firstFar_43 : decode cX5_firstFar 43 = .ok (.iload_n 2, 1) := by decide +kernel
theorem dX5_firstFar_44 : decode cX5_firstFar 44 = .ok (.if_icmp .ne 22, 3) := by decide +kernel
theorem dX5_firstFar_47 : decode cX5_firstFar 47 = .ok (.lload 4, 2) := by decide +kernel
theorem dX5_firstFar_49 : decode cX5_firstFar 49 = .ok (.lconst 0, 1) := by decide +kernel
theorem dX5_firstFar_50 : decode cX5_firstFar 50 = .ok (.lcmp, 1) := by decide +kernel
theorem dX5_firstFar_51 : decode cX5_firstFar 51 = .ok (.ifCond .lt 11, 3) := by decide +kernel
theorem dX5_firstFar_54 : decode cX5_firstFar 54 = .ok (.lload 7, 2) := by decide +kernel
theorem dX5_firstFar_56 : decode cX5_firstFar 56 = .ok (.lload 4, 2) := by decide +kernel
theorem dX5_firstFar_58 : decode cX5_firstFar 58 = .ok (.lcmp, 1) := by decide +kernel
theorem dX5_firstFar_59 : decode cX5_firstFar 59 = .ok (.ifCond .ge 7, 3) := by decide +kernel
theorem dX5_firstFar_62 : decode cX5_firstFar 62 = .ok (.lload 7, 2) := by decide +kernel
theorem dX5_firstFar_64 : decode cX5_firstFar 64 = .ok (.lstore 4, 2) := by decide +kernel
theorem dX5_firstFar_66 : decode cX5_firstFar 66 = .ok (.iinc 6 1, 3) := by decide +kernel
theorem dX5_firstFar_69 : decode cX5_firstFar 69 = .ok (.goto (-52), 3) := by decide +kernel
theorem dX5_firstFar_72 : decode cX5_firstFar 72 = .ok (.lload 4, 2) := by decide +kernel
theorem dX5_firstFar_74 : decode cX5_firstFar 74 = .ok (.lreturn, 1) := by decide +kernel
theorem dX6_init_0 : decode cX6_init 0 = .ok (.aload_n 0, 1) := by decide +kernel
theorem dX6_init_1 : decode cX6_init 1 = .ok (.invokespecial 3, 3) := by decide +kernel
theorem dX6_init_4 : decode cX6_init 4 = .ok (.aload_n 0, 1) := by decide +kernel
theorem dX6_init_5 : decode cX6_init 5 = .ok (.bipush 40, 2) := by decide +kernel
theorem dX6_init_7 : decode cX6_init 7 = .ok (.newarray .int, 2) := by decide +kernel
theorem dX6_init_9 : decode cX6_init 9 = .ok (.putfield 9, 3) := by decide +kernel
theorem dX6_init_12 : decode cX6_init 12 = .ok (.aload_n 0, 1) := by decide +kernel
theorem dX6_init_13 : decode cX6_init 13 = .ok (.iconst 0, 1) := by decide +kernel
theorem dX6_init_14 : decode cX6_init 14 = .ok (.putfield 15, 3) := by decide +kernel
theorem dX6_init_17 : decode cX6_init 17 = .ok (.aload_n 0, 1) := by decide +kernel
theorem dX6_init_18 : decode cX6_init 18 = .ok (.bipush 24, 2) := by decide +kernel
theorem dX6_init_20 : decode cX6_init 20 = .ok (.newarray .int, 2) := by decide +kernel
theorem dX6_init_22 : decode cX6_init 22 = .ok (.putfield 19, 3) := by decide +kernel
theorem dX6_init_25 : decode cX6_init 25 = .ok (.aload_n 0, 1) := by decide +kernel
theorem dX6_init_26 : decode cX6_init 26 = .ok (.iconst 0, 1) := by decide +kernel
theorem dX6_init_27 : decode cX6_init 27 = .ok (.putfield 22, 3) := by decide +kernel
theorem dX6_init_30 : decode cX6_init 30 = .ok (.aload_n 0, 1) := by decide +kernel
theorem dX6_init_31 : decode cX6_init 31 = .ok (.bipush 7, 2) := by decide +kernel
theorem dX6_init_33 : decode cX6_init 33 = .ok (.newarray .int, 2) := by decide +kernel
theorem dX6_init_35 : decode cX6_init 35 = .ok (.putfield 25, 3) := by decide +kernel
theorem dX6_init_38 : decode cX6_init 38 = .ok (.aload_n 0, 1) := by decide +kernel
theorem dX6_init_39 : decode cX6_init 39 = .ok (.iconst 0, 1) := by decide +kernel
theorem dX6_init_40 : decode cX6_init 40 = .ok (.putfield 28, 3) := by decide +kernel
theorem dX6_init_43 : decode cX6_init 43 = .ok (.aload_n 0, 1) := by decide +kernel
theorem dX6_init_44 : decode cX6_init 44 = .ok (.iconst 0, 1) := by decide +kernel
theorem dX6_init_45 : decode cX6_init 45 = .ok (.putfield 31, 3) := by decide +kernel
theorem dX6_init_48 : decode cX6_init 48 = .ok (.aload_n 0, 1) := by decide +kernel
theorem dX6_init_49 : decode cX6_init 49 = .ok (.iconst 1, 1) := by decide +kernel
theorem dX6_init_50 : decode cX6_init 50 = .ok (.putfield 34, 3) := by decide +kernel
theorem dX6_init_53 : decode cX6_init 53 = .ok (.aload_n 0, 1) := by decide +kernel
theorem dX6_init_54 : decode cX6_init 54 = .ok (.iconst 0, 1) := by decide +kernel
theorem dX6_init_55 : decode cX6_init 55 = .ok (.putfield 37, 3) := by decide +kernel
theorem dX6_init_58 : decode cX6_init 58 = .ok (.return_, 1) := by decide +kernel
theorem dX6_append_0 : decode cX6_append 0 = .ok (.aload_n 0, 1) := by decide +kernel
theorem dX6_append_1 : decode cX6_append 1 = .ok (.getfield 15, 3) := by decide +kernel
theorem dX6_append_4 : decode cX6_append 4 = .ok (.ifCond .lt 15, 3) := by decide +kernel
theorem dX6_append_7 : decode cX6_append 7 = .ok (.aload_n 0, 1) := by decide +kernel
theorem dX6_append_8 : decode cX6_append 8 = .ok (.getfield 15, 3) := by decide +kernel
theorem dX6_append_11 : decode cX6_append 11 = .ok (.aload_n 0, 1) := by decide +kernel
theorem dX6_append_12 : decode cX6_append 12 = .ok (.getfield 9, 3) := by decide +kernel
theorem dX6_append_15 : decode cX6_append 15 = .ok (.arraylength, 1) := by decide +kernel
theorem dX6_append_16 : decode cX6_append 16 = .ok (.if_icmp .lt 5, 3) := by decide +kernel
theorem dX6_append_19 : decode cX6_append 19 = .ok (.iconst 0, 1) := by decide +kernel
theorem dX6_append_20 : decode cX6_append 20 = .ok (.ireturn, 1) := by decide +kernel
theorem dX6_append_21 : decode cX6_append 21 = .ok (.aload_n 0, 1) := by decide +kernel
theorem dX6_append_22 : decode cX6_append 22 = .ok (.getfield 9, 3) := by decide +kernel
theorem dX6_append_25 : decode cX6_append 25 = .ok (.aload_n 0, 1) := by decide +kernel
theorem dX6_append_26 : decode cX6_append 26 = .ok (.getfield 15, 3) := by decide +kernel
theorem dX6_append_29 : decode cX6_append 29 = .ok (.iload_n 1, 1) := by decide +kernel
theorem dX6_append_30 : decode cX6_append 30 = .ok (.iastore, 1) := by decide +kernel
theorem dX6_append_31 : decode cX6_append 31 = .ok (.aload_n 0, 1) := by decide +kernel
theorem dX6_append_32 : decode cX6_append 32 = .ok (.dup, 1) := by decide +kernel
theorem dX6_append_33 : decode cX6_append 33 = .ok (.getfield 15, 3) := by decide +kernel
theorem dX6_append_36 : decode cX6_append 36 = .ok (.iconst 1, 1) := by decide +kernel
theorem dX6_append_37 : decode cX6_append 37 = .ok (.iadd, 1) := by decide +kernel
theorem dX6_append_38 : decode cX6_append 38 = .ok (.putfield 15, 3) := by decide +kernel
theorem dX6_append_41 : decode cX6_append 41 = .ok (.iconst 1, 1) := by decide +kernel
theorem dX6_append_42 : decode cX6_append 42 = .ok (.ireturn, 1) := by decide +kernel
theorem dX6_parse_0 : decode cX6_parse 0 = .ok (.aload_n 0, 1) := by decide +kernel
theorem dX6_parse_1 : decode cX6_parse 1 = .ok (.invokevirtual 40, 3) := by decide +kernel
theorem dX6_parse_4 : decode cX6_parse 4 = .ok (.iconst 0, 1) := by decide +kernel
theorem dX6_parse_5 : decode cX6_parse 5 = .ok (.istore_n 2, 1) := by decide +kernel
theorem dX6_parse_6 : decode cX6_parse 6 = .ok (.iload_n 2, 1) := by decide +kernel
theorem dX6_parse_7 : decode cX6_parse 7 = .ok (.aload_n 0, 1) := by decide +kernel
theorem dX6_parse_8 : decode cX6_parse 8 = .ok (.getfield 15, 3) := by decide +kernel
theorem dX6_parse_11 : decode cX6_parse 11 = .ok (.if_icmp .ge 53, 3) := by decide +kernel
theorem dX6_parse_14 : decode cX6_parse 14 = .ok (.iload_n 2, 1) := by decide +kernel
theorem dX6_parse_15 : decode cX6_parse 15 = .ok (.aload_n 0, 1) := by decide +kernel
theorem dX6_parse_16 : decode cX6_parse 16 = .ok (.getfield 9, 3) := by decide +kernel
theorem dX6_parse_19 : decode cX6_parse 19 = .ok (.arraylength, 1) := by decide +kernel
theorem dX6_parse_20 : decode cX6_parse 20 = .ok (.if_icmp .ge 44, 3) := by decide +kernel
theorem dX6_parse_23 : decode cX6_parse 23 = .ok (.aload_n 0, 1) := by decide +kernel
theorem dX6_parse_24 : decode cX6_parse 24 = .ok (.getfield 9, 3) := by decide +kernel
theorem dX6_parse_27 : decode cX6_parse 27 = .ok (.iload_n 2, 1) := by decide +kernel
theorem dX6_parse_28 : decode cX6_parse 28 = .ok (.iaload, 1) := by decide +kernel
theorem dX6_parse_29 : decode cX6_parse 29 = .ok (.bipush 47, 2) := by decide +kernel
theorem dX6_parse_31 : decode cX6_parse 31 = .ok (.if_icmp .ne 10, 3) := by decide +kernel
theorem dX6_parse_34 : decode cX6_parse 34 = .ok (.aload_n 0, 1) := by decide +kernel
theorem dX6_parse_35 : decode cX6_parse 35 = .ok (.invokevirtual 43, 3) := by decide +kernel
theorem dX6_parse_38 : decode cX6_parse 38 = .ok (.goto 13, 3) := by decide +kernel
theorem dX6_parse_41 : decode cX6_parse 41 = .ok (.aload_n 0, 1) := by decide +kernel
theorem dX6_parse_42 : decode cX6_parse 42 = .ok (.aload_n 0, 1) := by decide +kernel
theorem dX6_parse_43 : decode cX6_parse 43 = .ok (.getfield 9, 3) := by decide +kernel
theorem dX6_parse_46 : decode cX6_parse 46 = .ok (.iload_n 2, 1) := by decide +kernel
theorem dX6_parse_47 : decode cX6_parse 47 = .ok (.iaload, 1) := by decide +kernel
theorem dX6_parse_48 : decode cX6_parse 48 = .ok (.invokevirtual 47, 3) := by decide +kernel
theorem dX6_parse_51 : decode cX6_parse 51 = .ok (.istore_n 3, 1) := by decide +kernel
theorem dX6_parse_52 : decode cX6_parse 52 = .ok (.iload_n 3, 1) := by decide +kernel
theorem dX6_parse_53 : decode cX6_parse 53 = .ok (.ifCond .ne 5, 3) := by decide +kernel
theorem dX6_parse_56 : decode cX6_parse 56 = .ok (.iload_n 2, 1) := by decide +kernel
theorem dX6_parse_57 : decode cX6_parse 57 = .ok (.ireturn, 1) := by decide +kernel
theorem dX6_parse_58 : decode cX6_parse 58 = .ok (.iinc 2 1, 3) := by decide +kernel
theorem dX6_parse_61 : decode cX6_parse 61 = .ok (.goto (-55), 3) := by decide +kernel
theorem dX6_parse_64 : decode cX6_parse 64 = .ok (.aload_n 0, 1) := by decide +kernel
theorem dX6_parse_65 : decode cX6_parse 65 = .ok (.invokevirtual 51, 3) := by decide +kernel
theorem dX6_parse_68 : decode cX6_parse 68 = .ok (.ifCond .ne 8, 3) := by decide +kernel
theorem dX6_parse_71 : decode cX6_parse 71 = .ok (.aload_n 0, 1) := by decide +kernel
theorem dX6_parse_72 : decode cX6_parse 72 = .ok (.getfield 15, 3) := by decide +kernel
theorem dX6_parse_75 : decode cX6_parse 75 = .ok (.ireturn, 1) := by decide +kernel
theorem dX6_parse_76 : decode cX6_parse 76 = .ok (.aload_n 0, 1) := by decide +kernel
theorem dX6_parse_77 : decode cX6_parse 77 = .ok (.aload_n 1, 1) := by decide +kernel
theorem dX6_parse_78 : decode cX6_parse 78 = .ok (.invokevirtual 54, 3) := by decide +kernel
theorem dX6_parse_81 : decode cX6_parse 81 = .ok (.ireturn, 1) := by decide +kernel
theorem dX6_startParse_0 : decode cX6_startParse 0 = .ok (.aload_n 0, 1) := by decide +kernel
theorem dX6_startParse_1 : decode cX6_startParse 1 = .ok (.iconst 0, 1) := by decide +kernel
theorem dX6_startParse_2 : decode cX6_startParse 2 = .ok (.putfield 22, 3) := by decide +kernel
theorem dX6_startParse_5 : decode cX6_startParse 5 = .ok (.aload_n 0, 1) := by decide +kernel
theorem dX6_startParse_6 : decode cX6_startParse 6 = .ok (.iconst 0, 1) := by decide +kernel
theorem dX6_startParse_7 : decode cX6_startParse 7 = .ok (.putfield 28, 3) := by decide +kernel
theorem dX6_startParse_10 : decode cX6_startParse 10 = .ok (.aload_n 0, 1) := by decide +kernel
theorem dX6_startParse_11 : decode cX6_startParse 11 = .ok (.iconst 0, 1) := by decide +kernel
theorem dX6_startParse_12 : decode cX6_startParse 12 = .ok (.putfield 31, 3) := by decide +kernel
theorem dX6_startParse_15 : decode cX6_startParse 15 = .ok (.aload_n 0, 1) := by decide +kernel
theorem dX6_startParse_16 : decode cX6_startParse 16 = .ok (.iconst 1, 1) := by decide +kernel
theorem dX6_startParse_17 : decode cX6_startParse 17 = .ok (.putfield 34, 3) := by decide +kernel
theorem dX6_startParse_20 : decode cX6_startParse 20 = .ok (.aload_n 0, 1) := by decide +kernel
theorem dX6_startParse_21 : decode cX6_startParse 21 = .ok (.iconst 0, 1) := by decide +kernel
theorem dX6_startParse_22 : decode cX6_startParse 22 = .ok (.putfield 37, 3) := by decide +kernel
theorem dX6_startParse_25 : decode cX6_startParse 25 = .ok (.return_, 1) := by decide +kernel
theorem dX6_isRowWhole_0 : decode cX6_isRowWhole 0 = .ok (.aload_n 0, 1) := by decide +kernel
theorem dX6_isRowWhole_1 : decode cX6_isRowWhole 1 = .ok (.getfield 37, 3) := by decide +kernel
theorem dX6_isRowWhole_4 : decode cX6_isRowWhole 4 = .ok (.ifCond .le 18, 3) := by decide +kernel
theorem dX6_isRowWhole_7 : decode cX6_isRowWhole 7 = .ok (.aload_n 0, 1) := by decide +kernel
theorem dX6_isRowWhole_8 : decode cX6_isRowWhole 8 = .ok (.getfield 37, 3) := by decide +kernel
theorem dX6_isRowWhole_11 : decode cX6_isRowWhole 11 = .ok (.aload_n 0, 1) := by decide +kernel
theorem dX6_isRowWhole_12 : decode cX6_isRowWhole 12 = .ok (.getfield 31, 3) := by decide +kernel
theorem dX6_isRowWhole_15 : decode cX6_isRowWhole 15 = .ok (.if_icmp .ne 7, 3) := by decide +kernel
theorem dX6_isRowWhole_18 : decode cX6_isRowWhole 18 = .ok (.iconst 1, 1) := by decide +kernel
theorem dX6_isRowWhole_19 : decode cX6_isRowWhole 19 = .ok (.goto 4, 3) := by decide +kernel
theorem dX6_isRowWhole_22 : decode cX6_isRowWhole 22 = .ok (.iconst 0, 1) := by decide +kernel
theorem dX6_isRowWhole_23 : decode cX6_isRowWhole 23 = .ok (.ireturn, 1) := by decide +kernel
theorem dX6_endRow_0 : decode cX6_endRow 0 = .ok (.aload_n 0, 1) := by decide +kernel
theorem dX6_endRow_1 : decode cX6_endRow 1 = .ok (.invokevirtual 51, 3) := by decide +kernel
theorem dX6_endRow_4 : decode cX6_endRow 4 = .ok (.ifCond .eq 12, 3) := by decide +kernel
theorem dX6_endRow_7 : decode cX6_endRow 7 = .ok (.aload_n 0, 1) := by decide +kernel
theorem dX6_endRow_8 : decode cX6_endRow 8 = .ok (.getfield 34, 3) := by decide +kernel
theorem dX6_endRow_11 : decode cX6_endRow 11 = .ok (.bipush 6, 2) := by decide +kernel
theorem dX6_endRow_13 : decode cX6_endRow 13 = .ok (.if_icmp .lt 5, 3) := by decide +kernel
theorem dX6_endRow_16 : decode cX6_endRow 16 = .ok (.iconst 0, 1) := by decide +kernel
theorem dX6_endRow_17 : decode cX6_endRow 17 = .ok (.ireturn, 1) := by decide +kernel
theorem dX6_endRow_18 : decode cX6_endRow 18 = .ok (.aload_n 0, 1) := by decide +kernel
theorem dX6_endRow_19 : decode cX6_endRow 19 = .ok (.dup, 1) := by decide +kernel
theorem dX6_endRow_20 : decode cX6_endRow 20 = .ok (.getfield 34, 3) := by decide +kernel
theorem dX6_endRow_23 : decode cX6_endRow 23 = .ok (.iconst 1, 1) := by decide +kernel
theorem dX6_endRow_24 : decode cX6_endRow 24 = .ok (.iadd, 1) := by decide +kernel
theorem dX6_endRow_25 : decode cX6_endRow 25 = .ok (.putfield 34, 3) := by decide +kernel
theorem dX6_endRow_28 : decode cX6_endRow 28 = .ok (.aload_n 0, 1) := by decide +kernel
theorem dX6_endRow_29 : decode cX6_endRow 29 = .ok (.iconst 0, 1) := by decide +kernel
theorem dX6_endRow_30 : decode cX6_endRow 30 = .ok (.putfield 37, 3) := by decide +kernel
theorem dX6_endRow_33 : decode cX6_endRow 33 = .ok (.iconst 1, 1) := by decide +kernel
theorem dX6_endRow_34 : decode cX6_endRow 34 = .ok (.ireturn, 1) := by decide +kernel
theorem dX6_addCell_0 : decode cX6_addCell 0 = .ok (.aload_n 0, 1) := by decide +kernel
theorem dX6_addCell_1 : decode cX6_addCell 1 = .ok (.iload_n 1, 1) := by decide +kernel
theorem dX6_addCell_2 : decode cX6_addCell 2 = .ok (.invokevirtual 58, 3) := by decide +kernel
theorem dX6_addCell_5 : decode cX6_addCell 5 = .ok (.istore_n 2, 1) := by decide +kernel
theorem dX6_addCell_6 : decode cX6_addCell 6 = .ok (.aload_n 0, 1) := by decide +kernel
theorem dX6_addCell_7 : decode cX6_addCell 7 = .ok (.getfield 34, 3) := by decide +kernel
theorem dX6_addCell_10 : decode cX6_addCell 10 = .ok (.iconst 1, 1) := by decide +kernel
theorem dX6_addCell_11 : decode cX6_addCell 11 = .ok (.if_icmp .ne 8, 3) := by decide +kernel
theorem dX6_addCell_14 : decode cX6_addCell 14 = .ok (.bipush 6, 2) := by decide +kernel
theorem dX6_addCell_16 : decode cX6_addCell 16 = .ok (.goto 7, 3) := by decide +kernel
theorem dX6_addCell_19 : decode cX6_addCell 19 = .ok (.aload_n 0, 1) := by decide +kernel
theorem dX6_addCell_20 : decode cX6_addCell 20 = .ok (.getfield 31, 3) := by decide +kernel
theorem dX6_addCell_23 : decode cX6_addCell 23 = .ok (.istore_n 3, 1) := by decide +kernel
theorem dX6_addCell_24 : decode cX6_addCell 24 = .ok (.iload_n 2, 1) := by decide +kernel
theorem dX6_addCell_25 : decode cX6_addCell 25 = .ok (.iconst (-1), 1) := by decide +kernel
theorem dX6_addCell_26 : decode cX6_addCell 26 = .ok (.if_icmp .eq 20, 3) := by decide +kernel
theorem dX6_addCell_29 : decode cX6_addCell 29 = .ok (.aload_n 0, 1) := by decide +kernel
theorem dX6_addCell_30 : decode cX6_addCell 30 = .ok (.getfield 37, 3) := by decide +kernel
theorem dX6_addCell_33 : decode cX6_addCell 33 = .ok (.iload_n 3, 1) := by decide +kernel
theorem dX6_addCell_34 : decode cX6_addCell 34 = .ok (.if_icmp .ge 12, 3) := by decide +kernel
theorem dX6_addCell_37 : decode cX6_addCell 37 = .ok (.aload_n 0, 1) := by decide +kernel
theorem dX6_addCell_38 : decode cX6_addCell 38 = .ok (.getfield 22, 3) := by decide +kernel
theorem dX6_addCell_41 : decode cX6_addCell 41 = .ok (.bipush 24, 2) := by decide +kernel
theorem dX6_addCell_43 : decode cX6_addCell 43 = .ok (.if_icmp .lt 5, 3) := by decide +kernel
theorem dX6_addCell_46 : decode cX6_addCell 46 = .ok (.iconst 0, 1) := by decide +kernel
theorem dX6_addCell_47 : decode cX6_addCell 47 = .ok (.ireturn, 1) := by decide +kernel
theorem dX6_addCell_48 : decode cX6_addCell 48 = .ok (.iload_n 2, 1) := by decide +kernel
theorem dX6_addCell_49 : decode cX6_addCell 49 = .ok (.aload_n 0, 1) := by decide +kernel
theorem dX6_addCell_50 : decode cX6_addCell 50 = .ok (.getfield 28, 3) := by decide +kernel
theorem dX6_addCell_53 : decode cX6_addCell 53 = .ok (.if_icmp .ne 25, 3) := by decide +kernel
theorem dX6_addCell_56 : decode cX6_addCell 56 = .ok (.aload_n 0, 1) := by decide +kernel
theorem dX6_addCell_57 : decode cX6_addCell 57 = .ok (.getfield 25, 3) := by decide +kernel
theorem dX6_addCell_60 : decode cX6_addCell 60 = .ok (.aload_n 0, 1) := by decide +kernel
theorem dX6_addCell_61 : decode cX6_addCell 61 = .ok (.getfield 28, 3) := by decide +kernel
theorem dX6_addCell_64 : decode cX6_addCell 64 = .ok (.iload_n 1, 1) := by decide +kernel
theorem dX6_addCell_65 : decode cX6_addCell 65 = .ok (.invokestatic 62, 3) := by decide +kernel
theorem dX6_addCell_68 : decode cX6_addCell 68 = .ok (.aload_n 0, 1) := by decide +kernel
theorem dX6_addCell_69 : decode cX6_addCell 69 = .ok (.dup, 1) := by decide +kernel
theorem dX6_addCell_70 : decode cX6_addCell 70 = .ok (.getfield 28, 3) := by decide +kernel
theorem dX6_addCell_73 : decode cX6_addCell 73 = .ok (.iconst 1, 1) := by decide +kernel
theorem dX6_addCell_74 : decode cX6_addCell 74 = .ok (.iadd, 1) := by decide +kernel
theorem dX6_addCell_75 : decode cX6_addCell 75 = .ok (.putfield 28, 3) := by decide +kernel
theorem dX6_addCell_78 : decode cX6_addCell 78 = .ok (.aload_n 0, 1) := by decide +kernel
theorem dX6_addCell_79 : decode cX6_addCell 79 = .ok (.getfield 19, 3) := by decide +kernel
theorem dX6_addCell_82 : decode cX6_addCell 82 = .ok (.aload_n 0, 1) := by decide +kernel
theorem dX6_addCell_83 : decode cX6_addCell 83 = .ok (.getfield 22, 3) := by decide +kernel
theorem dX6_addCell_86 : decode cX6_addCell 86 = .ok (.iload_n 2, 1) := by decide +kernel
theorem dX6_addCell_87 : decode cX6_addCell 87 = .ok (.invokestatic 62, 3) := by decide +kernel
theorem dX6_addCell_90 : decode cX6_addCell 90 = .ok (.aload_n 0, 1) := by decide +kernel
theorem dX6_addCell_91 : decode cX6_addCell 91 = .ok (.dup, 1) := by decide +kernel
theorem dX6_addCell_92 : decode cX6_addCell 92 = .ok (.getfield 22, 3) := by decide +kernel
theorem dX6_addCell_95 : decode cX6_addCell 95 = .ok (.iconst 1, 1) := by decide +kernel
theorem dX6_addCell_96 : decode cX6_addCell 96 = .ok (.iadd, 1) := by decide +kernel
theorem dX6_addCell_97 : decode cX6_addCell 97 = .ok (.putfield 22, 3) := by decide +kernel
theorem dX6_addCell_100 : decode cX6_addCell 100 = .ok (.aload_n 0, 1) := by decide +kernel
theorem dX6_addCell_101 : decode cX6_addCell 101 = .ok (.dup, 1) := by decide +kernel
theorem dX6_addCell_102 : decode cX6_addCell 102 = .ok (.getfield 37, 3) := by decide +kernel
theorem dX6_addCell_105 : decode cX6_addCell 105 = .ok (.iconst 1, 1) := by decide +kernel
theorem dX6_addCell_106 : decode cX6_addCell 106 = .ok (.iadd, 1) := by decide +kernel
theorem dX6_addCell_107 : decode cX6_addCell 107 = .ok (.putfield 37, 3) := by decide +kernel
theorem dX6_addCell_110 : decode cX6_addCell 110 = .ok (.aload_n 0, 1) := by decide +kernel
theorem dX6_addCell_111 : decode cX6_addCell 111 = .ok (.getfield 34, 3) := by decide +kernel
theorem dX6_addCell_114 : decode cX6_addCell 114 = .ok (.iconst 1, 1) := by decide +kernel
theorem dX6_addCell_115 : decode cX6_addCell 115 = .ok (.if_icmp .ne 11, 3) := by decide +kernel
theorem dX6_addCell_118 : decode cX6_addCell 118 = .ok (.aload_n 0, 1) := by decide +kernel
theorem dX6_addCell_119 : decode cX6_addCell 119 = .ok (.aload_n 0, 1) := by decide +kernel
theorem dX6_addCell_120 : decode cX6_addCell 120 = .ok (.getfield 37, 3) := by decide +kernel
theorem dX6_addCell_123 : decode cX6_addCell 123 = .ok (.putfield 31, 3) := by decide +kernel
theorem dX6_addCell_126 : decode cX6_addCell 126 = .ok (.iconst 1, 1) := by decide +kernel
theorem dX6_addCell_127 : decode cX6_addCell 127 = .ok (.ireturn, 1) := by decide +kernel
theorem dX6_contentOf_0 : decode cX6_contentOf 0 = .ok (.iload_n 1, 1) := by decide +kernel
theorem dX6_contentOf_1 : decode cX6_contentOf 1 = .ok (.bipush 46, 2) := by decide +kernel
theorem dX6_contentOf_3 : decode cX6_contentOf 3 = .ok (.if_icmp .ne 6, 3) := by decide +kernel
theorem dX6_contentOf_6 : decode cX6_contentOf 6 = .ok (.bipush (-9), 2) := by decide +kernel
theorem dX6_contentOf_8 : decode cX6_contentOf 8 = .ok (.ireturn, 1) := by decide +kernel
theorem dX6_contentOf_9 : decode cX6_contentOf 9 = .ok (.iload_n 1, 1) := by decide +kernel
theorem dX6_contentOf_10 : decode cX6_contentOf 10 = .ok (.bipush 35, 2) := by decide +kernel
theorem dX6_contentOf_12 : decode cX6_contentOf 12 = .ok (.if_icmp .ne 6, 3) := by decide +kernel
theorem dX6_contentOf_15 : decode cX6_contentOf 15 = .ok (.bipush (-10), 2) := by decide +kernel
theorem dX6_contentOf_17 : decode cX6_contentOf 17 = .ok (.ireturn, 1) := by decide +kernel
theorem dX6_contentOf_18 : decode cX6_contentOf 18 = .ok (.iload_n 1, 1) := by decide +kernel
theorem dX6_contentOf_19 : decode cX6_contentOf 19 = .ok (.bipush 97, 2) := by decide +kernel
theorem dX6_contentOf_21 : decode cX6_contentOf 21 = .ok (.if_icmp .lt 9, 3) := by decide +kernel
theorem dX6_contentOf_24 : decode cX6_contentOf 24 = .ok (.iload_n 1, 1) := by decide +kernel
theorem dX6_contentOf_25 : decode cX6_contentOf 25 = .ok (.bipush 122, 2) := by decide +kernel
theorem dX6_contentOf_27 : decode cX6_contentOf 27 = .ok (.if_icmp .le 5, 3) := by decide +kernel
theorem dX6_contentOf_30 : decode cX6_contentOf 30 = .ok (.iconst (-1), 1) := by decide +kernel
theorem dX6_contentOf_31 : decode cX6_contentOf 31 = .ok (.ireturn, 1) := by decide +kernel
theorem dX6_contentOf_32 : decode cX6_contentOf 32 = .ok (.iconst 0, 1) := by decide +kernel
theorem dX6_contentOf_33 : decode cX6_contentOf 33 = .ok (.istore_n 2, 1) := by decide +kernel
theorem dX6_contentOf_34 : decode cX6_contentOf 34 = .ok (.iload_n 2, 1) := by decide +kernel
theorem dX6_contentOf_35 : decode cX6_contentOf 35 = .ok (.aload_n 0, 1) := by decide +kernel
theorem dX6_contentOf_36 : decode cX6_contentOf 36 = .ok (.getfield 28, 3) := by decide +kernel
theorem dX6_contentOf_39 : decode cX6_contentOf 39 = .ok (.if_icmp .ge 23, 3) := by decide +kernel
theorem dX6_contentOf_42 : decode cX6_contentOf 42 = .ok (.aload_n 0, 1) := by decide +kernel
theorem dX6_contentOf_43 : decode cX6_contentOf 43 = .ok (.getfield 25, 3) := by decide +kernel
theorem dX6_contentOf_46 : decode cX6_contentOf 46 = .ok (.iload_n 2, 1) := by decide +kernel
theorem dX6_contentOf_47 : decode cX6_contentOf 47 = .ok (.invokestatic 66, 3) := by decide +kernel
theorem dX6_contentOf_50 : decode cX6_contentOf 50 = .ok (.iload_n 1, 1) := by decide +kernel
theorem dX6_contentOf_51 : decode cX6_contentOf 51 = .ok (.if_icmp .ne 5, 3) := by decide +kernel
theorem dX6_contentOf_54 : decode cX6_contentOf 54 = .ok (.iload_n 2, 1) := by decide +kernel
theorem dX6_contentOf_55 : decode cX6_contentOf 55 = .ok (.ireturn, 1) := by decide +kernel
theorem dX6_contentOf_56 : decode cX6_contentOf 56 = .ok (.iinc 2 1, 3) := by decide +kernel
theorem dX6_contentOf_59 : decode cX6_contentOf 59 = .ok (.goto (-25), 3) := by decide +kernel
theorem dX6_contentOf_62 : decode cX6_contentOf 62 = .ok (.aload_n 0, 1) := by decide +kernel
theorem dX6_contentOf_63 : decode cX6_contentOf 63 = .ok (.getfield 28, 3) := by decide +kernel
theorem dX6_contentOf_66 : decode cX6_contentOf 66 = .ok (.bipush 7, 2) := by decide +kernel
theorem dX6_contentOf_68 : decode cX6_contentOf 68 = .ok (.if_icmp .ge 10, 3) := by decide +kernel
theorem dX6_contentOf_71 : decode cX6_contentOf 71 = .ok (.aload_n 0, 1) := by decide +kernel
theorem dX6_contentOf_72 : decode cX6_contentOf 72 = .ok (.getfield 28, 3) := by decide +kernel
theorem dX6_contentOf_75 : decode cX6_contentOf 75 = .ok (.goto 4, 3) := by decide +kernel
theorem dX6_contentOf_78 : decode cX6_contentOf 78 = .ok (.iconst (-1), 1) := by decide +kernel
theorem dX6_contentOf_79 : decode cX6_contentOf 79 = .ok (.ireturn, 1) := by decide +kernel
theorem dX6_fill_0 : decode cX6_fill 0 = .ok (.aload_n 1, 1) := by decide +kernel
theorem dX6_fill_1 : decode cX6_fill 1 = .ok (.aload_n 0, 1) := by decide +kernel
theorem dX6_fill_2 : decode cX6_fill 2 = .ok (.getfield 31, 3) := by decide +kernel
theorem dX6_fill_5 : decode cX6_fill 5 = .ok (.aload_n 0, 1) := by decide +kernel
theorem dX6_fill_6 : decode cX6_fill 6 = .ok (.getfield 34, 3) := by decide +kernel
theorem dX6_fill_9 : decode cX6_fill 9 = .ok (.invokevirtual 70, 3) := by decide +kernel
theorem dX6_fill_12 : decode cX6_fill 12 = .ok (.aload_n 1, 1) := by decide +kernel
theorem dX6_fill_13 : decode cX6_fill 13 = .ok (.aload_n 0, 1) := by decide +kernel
theorem dX6_fill_14 : decode cX6_fill 14 = .ok (.bipush (-10), 2) := by decide +kernel
theorem dX6_fill_16 : decode cX6_fill 16 = .ok (.invokevirtual 76, 3) := by decide +kernel
theorem dX6_fill_19 : decode cX6_fill 19 = .ok (.putfield 79, 3) := by decide +kernel
theorem dX6_fill_22 : decode cX6_fill 22 = .ok (.iconst 0, 1) := by decide +kernel
theorem dX6_fill_23 : decode cX6_fill 23 = .ok (.istore_n 2, 1) := by decide +kernel
theorem dX6_fill_24 : decode cX6_fill 24 = .ok (.iload_n 2, 1) := by decide +kernel
theorem dX6_fill_25 : decode cX6_fill 25 = .ok (.aload_n 0, 1) := by decide +kernel
theorem dX6_fill_26 : decode cX6_fill 26 = .ok (.getfield 28, 3) := by decide +kernel
theorem dX6_fill_29 : decode cX6_fill 29 = .ok (.if_icmp .ge 38, 3) := by decide +kernel
theorem dX6_fill_32 : decode cX6_fill 32 = .ok (.aload_n 0, 1) := by decide +kernel
theorem dX6_fill_33 : decode cX6_fill 33 = .ok (.iload_n 2, 1) := by decide +kernel
theorem dX6_fill_34 : decode cX6_fill 34 = .ok (.invokevirtual 76, 3) := by decide +kernel
theorem dX6_fill_37 : decode cX6_fill 37 = .ok (.istore_n 3, 1) := by decide +kernel
theorem dX6_fill_38 : decode cX6_fill 38 = .ok (.aload_n 1, 1) := by decide +kernel
theorem dX6_fill_39 : decode cX6_fill 39 = .ok (.iload_n 3, 1) := by decide +kernel
theorem dX6_fill_40 : decode cX6_fill 40 = .ok (.invokevirtual 82, 3) := by decide +kernel
theorem dX6_fill_43 : decode cX6_fill 43 = .ok (.ifCond .ne 13, 3) := by decide +kernel
theorem dX6_fill_46 : decode cX6_fill 46 = .ok (.aload_n 0, 1) := by decide +kernel
theorem dX6_fill_47 : decode cX6_fill 47 = .ok (.aload_n 0, 1) := by decide +kernel
theorem dX6_fill_48 : decode cX6_fill 48 = .ok (.iload_n 2, 1) := by decide +kernel
theorem dX6_fill_49 : decode cX6_fill 49 = .ok (.invokevirtual 85, 3) := by decide +kernel
theorem dX6_fill_52 : decode cX6_fill 52 = .ok (.invokevirtual 88, 3) := by decide +kernel
theorem dX6_fill_55 : decode cX6_fill 55 = .ok (.ireturn, 1) := by decide +kernel
theorem dX6_fill_56 : decode cX6_fill 56 = .ok (.aload_n 1, 1) := by decide +kernel
theorem dX6_fill_57 : decode cX6_fill 57 = .ok (.iload_n 3, 1) := by decide +kernel
theorem dX6_fill_58 : decode cX6_fill 58 = .ok (.invokevirtual 91, 3) := by decide +kernel
theorem dX6_fill_61 : decode cX6_fill 61 = .ok (.iinc 2 1, 3) := by decide +kernel
theorem dX6_fill_64 : decode cX6_fill 64 = .ok (.goto (-40), 3) := by decide +kernel
theorem dX6_fill_67 : decode cX6_fill 67 = .ok (.bipush (-9), 2) := by decide +kernel
theorem dX6_fill_69 : decode cX6_fill 69 = .ok (.ireturn, 1) := by decide +kernel
theorem dX6_cellsWith_0 : decode cX6_cellsWith 0 = .ok (.iconst 0, 1) := by decide +kernel
theorem dX6_cellsWith_1 : decode cX6_cellsWith 1 = .ok (.istore_n 2, 1) := by decide +kernel
theorem dX6_cellsWith_2 : decode cX6_cellsWith 2 = .ok (.iconst 0, 1) := by decide +kernel
theorem dX6_cellsWith_3 : decode cX6_cellsWith 3 = .ok (.istore_n 3, 1) := by decide +kernel
theorem dX6_cellsWith_4 : decode cX6_cellsWith 4 = .ok (.iload_n 3, 1) := by decide +kernel
theorem dX6_cellsWith_5 : decode cX6_cellsWith 5 = .ok (.aload_n 0, 1) := by decide +kernel
theorem dX6_cellsWith_6 : decode cX6_cellsWith 6 = .ok (.getfield 22, 3) := by decide +kernel
theorem dX6_cellsWith_9 : decode cX6_cellsWith 9 = .ok (.if_icmp .ge 27, 3) := by decide +kernel
theorem dX6_cellsWith_12 : decode cX6_cellsWith 12 = .ok (.aload_n 0, 1) := by decide +kernel
theorem dX6_cellsWith_13 : decode cX6_cellsWith 13 = .ok (.getfield 19, 3) := by decide +kernel
theorem dX6_cellsWith_16 : decode cX6_cellsWith 16 = .ok (.iload_n 3, 1) := by decide +kernel
theorem dX6_cellsWith_17 : decode cX6_cellsWith 17 = .ok (.invokestatic 66, 3) := by decide +kernel
theorem dX6_cellsWith_20 : decode cX6_cellsWith 20 = .ok (.iload_n 1, 1) := by decide +kernel
theorem dX6_cellsWith_21 : decode cX6_cellsWith 21 = .ok (.if_icmp .ne 9, 3) := by decide +kernel
theorem dX6_cellsWith_24 : decode cX6_cellsWith 24 = .ok (.iload_n 2, 1) := by decide +kernel
theorem dX6_cellsWith_25 : decode cX6_cellsWith 25 = .ok (.iconst 1, 1) := by decide +kernel
theorem dX6_cellsWith_26 : decode cX6_cellsWith 26 = .ok (.iload_n 3, 1) := by decide +kernel
theorem dX6_cellsWith_27 : decode cX6_cellsWith 27 = .ok (.ishl, 1) := by decide +kernel
theorem dX6_cellsWith_28 : decode cX6_cellsWith 28 = .ok (.ior, 1) := by decide +kernel
theorem dX6_cellsWith_29 : decode cX6_cellsWith 29 = .ok (.istore_n 2, 1) := by decide +kernel
theorem dX6_cellsWith_30 : decode cX6_cellsWith 30 = .ok (.iinc 3 1, 3) := by decide +kernel
theorem dX6_cellsWith_33 : decode cX6_cellsWith 33 = .ok (.goto (-29), 3) := by decide +kernel
theorem dX6_cellsWith_36 : decode cX6_cellsWith 36 = .ok (.iload_n 2, 1) := by decide +kernel
theorem dX6_cellsWith_37 : decode cX6_cellsWith 37 = .ok (.ireturn, 1) := by decide +kernel
theorem dX6_firstCell_0 : decode cX6_firstCell 0 = .ok (.iconst 0, 1) := by decide +kernel
theorem dX6_firstCell_1 : decode cX6_firstCell 1 = .ok (.istore_n 2, 1) := by decide +kernel
theorem dX6_firstCell_2 : decode cX6_firstCell 2 = .ok (.iload_n 2, 1) := by decide +kernel
theorem dX6_firstCell_3 : decode cX6_firstCell 3 = .ok (.aload_n 0, 1) := by decide +kernel
theorem dX6_firstCell_4 : decode cX6_firstCell 4 = .ok (.getfield 22, 3) := by decide +kernel
theorem dX6_firstCell_7 : decode cX6_firstCell 7 = .ok (.if_icmp .ge 23, 3) := by decide +kernel
theorem dX6_firstCell_10 : decode cX6_firstCell 10 = .ok (.aload_n 0, 1) := by decide +kernel
theorem dX6_firstCell_11 : decode cX6_firstCell 11 = .ok (.getfield 19, 3) := by decide +kernel
theorem dX6_firstCell_14 : decode cX6_firstCell 14 = .ok (.iload_n 2, 1) := by decide +kernel
theorem dX6_firstCell_15 : decode cX6_firstCell 15 = .ok (.invokestatic 66, 3) := by decide +kernel
theorem dX6_firstCell_18 : decode cX6_firstCell 18 = .ok (.iload_n 1, 1) := by decide +kernel
theorem dX6_firstCell_19 : decode cX6_firstCell 19 = .ok (.if_icmp .ne 5, 3) := by decide +kernel
theorem dX6_firstCell_22 : decode cX6_firstCell 22 = .ok (.iload_n 2, 1) := by decide +kernel
theorem dX6_firstCell_23 : decode cX6_firstCell 23 = .ok (.ireturn, 1) := by decide +kernel
theorem dX6_firstCell_24 : decode cX6_firstCell 24 = .ok (.iinc 2 1, 3) := by decide +kernel
theorem dX6_firstCell_27 : decode cX6_firstCell 27 = .ok (.goto (-25), 3) := by decide +kernel
theorem dX6_firstCell_30 : decode cX6_firstCell 30 = .ok (.iconst 0, 1) := by decide +kernel
theorem dX6_firstCell_31 : decode cX6_firstCell 31 = .ok (.ireturn, 1) := by decide +kernel
theorem dX6_textIndex_0 : decode cX6_textIndex 0 = .ok (.aload_n 0, 1) := by decide +kernel
theorem dX6_textIndex_1 : decode cX6_textIndex 1 = .ok (.getfield 31, 3) := by decide +kernel
theorem dX6_textIndex_4 : decode cX6_textIndex 4 = .ok (.iconst 1, 1) := by decide +kernel
theorem dX6_textIndex_5 : decode cX6_textIndex 5 = .ok (.if_icmp .ge 7, 3) := by decide +kernel
theorem dX6_textIndex_8 : decode cX6_textIndex 8 = .ok (.iload_n 1, 1) := by decide +kernel
theorem dX6_textIndex_9 : decode cX6_textIndex 9 = .ok (.goto 11, 3) := by decide +kernel
theorem dX6_textIndex_12 : decode cX6_textIndex 12 = .ok (.iload_n 1, 1) := by decide +kernel
theorem dX6_textIndex_13 : decode cX6_textIndex 13 = .ok (.iload_n 1, 1) := by decide +kernel
theorem dX6_textIndex_14 : decode cX6_textIndex 14 = .ok (.aload_n 0, 1) := by decide +kernel
theorem dX6_textIndex_15 : decode cX6_textIndex 15 = .ok (.getfield 31, 3) := by decide +kernel
theorem dX6_textIndex_18 : decode cX6_textIndex 18 = .ok (.idiv, 1) := by decide +kernel
theorem dX6_textIndex_19 : decode cX6_textIndex 19 = .ok (.iadd, 1) := by decide +kernel
theorem dX6_textIndex_20 : decode cX6_textIndex 20 = .ok (.ireturn, 1) := by decide +kernel
theorem dX7_init_0 : decode cX7_init 0 = .ok (.aload_n 0, 1) := by decide +kernel
theorem dX7_init_1 : decode cX7_init 1 = .ok (.invokespecial 1, 3) := by decide +kernel
theorem dX7_init_4 : decode cX7_init 4 = .ok (.aload_n 0, 1) := by decide +kernel
theorem dX7_init_5 : decode cX7_init 5 = .ok (.new 7, 3) := by decide +kernel
theorem dX7_init_8 : decode cX7_init 8 = .ok (.dup, 1) := by decide +kernel
theorem dX7_init_9 : decode cX7_init 9 = .ok (.invokespecial 9, 3) := by decide +kernel
theorem dX7_init_12 : decode cX7_init 12 = .ok (.putfield 10, 3) := by decide +kernel
theorem dX7_init_15 : decode cX7_init 15 = .ok (.aload_n 0, 1) := by decide +kernel
theorem dX7_init_16 : decode cX7_init 16 = .ok (.new 16, 3) := by decide +kernel
theorem dX7_init_19 : decode cX7_init 19 = .ok (.dup, 1) := by decide +kernel
theorem dX7_init_20 : decode cX7_init 20 = .ok (.invokespecial 18, 3) := by decide +kernel
theorem dX7_init_23 : decode cX7_init 23 = .ok (.putfield 19, 3) := by decide +kernel
theorem dX7_init_26 : decode cX7_init 26 = .ok (.aload_n 0, 1) := by decide +kernel
theorem dX7_init_27 : decode cX7_init 27 = .ok (.new 16, 3) := by decide +kernel
theorem dX7_init_30 : decode cX7_init 30 = .ok (.dup, 1) := by decide +kernel
theorem dX7_init_31 : decode cX7_init 31 = .ok (.invokespecial 18, 3) := by decide +kernel
theorem dX7_init_34 : decode cX7_init 34 = .ok (.putfield 23, 3) := by decide +kernel
theorem dX7_init_37 : decode cX7_init 37 = .ok (.aload_n 0, 1) := by decide +kernel
theorem dX7_init_38 : decode cX7_init 38 = .ok (.new 26, 3) := by decide +kernel
theorem dX7_init_41 : decode cX7_init 41 = .ok (.dup, 1) := by decide +kernel
theorem dX7_init_42 : decode cX7_init 42 = .ok (.invokespecial 28, 3) := by decide +kernel
theorem dX7_init_45 : decode cX7_init 45 = .ok (.putfield 29, 3) := by decide +kernel
theorem dX7_init_48 : decode cX7_init 48 = .ok (.aload_n 0, 1) := by decide +kernel
theorem dX7_init_49 : decode cX7_init 49 = .ok (.new 33, 3) := by decide +kernel
theorem dX7_init_52 : decode cX7_init 52 = .ok (.dup, 1) := by decide +kernel
theorem dX7_init_53 : decode cX7_init 53 = .ok (.invokespecial 35, 3) := by decide +kernel
theorem dX7_init_56 : decode cX7_init 56 = .ok (.putfield 36, 3) := by decide +kernel
theorem dX7_init_59 : decode cX7_init 59 = .ok (.new 40, 3) := by decide +kernel
theorem dX7_init_62 : decode cX7_init 62 = .ok (.dup, 1) := by decide +kernel
theorem dX7_init_63 : decode cX7_init 63 = .ok (.invokespecial 42, 3) := by decide +kernel
theorem dX7_init_66 : decode cX7_init 66 = .ok (.astore_n 1, 1) := by decide +kernel
theorem dX7_init_67 : decode cX7_init 67 = .ok (.aload_n 0, 1) := by decide +kernel
theorem dX7_init_68 : decode cX7_init 68 = .ok (.new 43, 3) := by decide +kernel
theorem dX7_init_71 : decode cX7_init 71 = .ok (.dup, 1) := by decide +kernel
theorem dX7_init_72 : decode cX7_init 72 = .ok (.aload_n 1, 1) := by decide +kernel
theorem dX7_init_73 : decode cX7_init 73 = .ok (.invokespecial 45, 3) := by decide +kernel
theorem dX7_init_76 : decode cX7_init 76 = .ok (.putfield 48, 3) := by decide +kernel
theorem dX7_init_79 : decode cX7_init 79 = .ok (.aload_n 0, 1) := by decide +kernel
theorem dX7_init_80 : decode cX7_init 80 = .ok (.new 43, 3) := by decide +kernel
theorem dX7_init_83 : decode cX7_init 83 = .ok (.dup, 1) := by decide +kernel
theorem dX7_init_84 : decode cX7_init 84 = .ok (.aload_n 1, 1) := by decide +kernel
theorem dX7_init_85 : decode cX7_init 85 = .ok (.invokespecial 45, 3) := by decide +kernel
theorem dX7_init_88 : decode cX7_init 88 = .ok (.putfield 52, 3) := by decide +kernel
theorem dX7_init_91 : decode cX7_init 91 = .ok (.aload_n 0, 1) := by decide +kernel
theorem dX7_init_92 : decode cX7_init 92 = .ok (.iconst 0, 1) := by decide +kernel
theorem dX7_init_93 : decode cX7_init 93 = .ok (.putfield 55, 3) := by decide +kernel
theorem dX7_init_96 : decode cX7_init 96 = .ok (.return_, 1) := by decide +kernel
theorem dX7_type_0 : decode cX7_type 0 = .ok (.iload_n 1, 1) := by decide +kernel
theorem dX7_type_1 : decode cX7_type 1 = .ok (.bipush 32, 2) := by decide +kernel
theorem dX7_type_3 : decode cX7_type 3 = .ok (.if_icmp .lt 9, 3) := by decide +kernel
theorem dX7_type_6 : decode cX7_type 6 = .ok (.iload_n 1, 1) := by decide +kernel
theorem dX7_type_7 : decode cX7_type 7 = .ok (.bipush 126, 2) := by decide +kernel
theorem dX7_type_9 : decode cX7_type 9 = .ok (.if_icmp .le 5, 3) := by decide +kernel
theorem dX7_type_12 : decode cX7_type 12 = .ok (.iconst (-1), 1) := by decide +kernel
theorem dX7_type_13 : decode cX7_type 13 = .ok (.ireturn, 1) := by decide +kernel
theorem dX7_type_14 : decode cX7_type 14 = .ok (.aload_n 0, 1) := by decide +kernel
theorem dX7_type_15 : decode cX7_type 15 = .ok (.getfield 10, 3) := by decide +kernel
theorem dX7_type_18 : decode cX7_type 18 = .ok (.iload_n 1, 1) := by decide +kernel
theorem dX7_type_19 : decode cX7_type 19 = .ok (.invokevirtual 59, 3) := by decide +kernel
theorem dX7_type_22 : decode cX7_type 22 = .ok (.ifCond .eq 13, 3) := by decide +kernel
theorem dX7_type_25 : decode cX7_type 25 = .ok (.aload_n 0, 1) := by decide +kernel
theorem dX7_type_26 : decode cX7_type 26 = .ok (.getfield 10, 3) := by decide +kernel
theorem dX7_type_29 : decode cX7_type 29 = .ok (.getfield 63, 3) := by decide +kernel
theorem dX7_type_32 : decode cX7_type 32 = .ok (.goto 5, 3) := by decide +kernel
theorem dX7_type_35 : decode cX7_type 35 = .ok (.bipush (-3), 2) := by decide +kernel
theorem dX7_type_37 : decode cX7_type 37 = .ok (.ireturn, 1) := by decide +kernel
theorem dX7_clear_0 : decode cX7_clear 0 = .ok (.aload_n 0, 1) := by decide +kernel
theorem dX7_clear_1 : decode cX7_clear 1 = .ok (.getfield 10, 3) := by decide +kernel
theorem dX7_clear_4 : decode cX7_clear 4 = .ok (.getfield 63, 3) := by decide +kernel
theorem dX7_clear_7 : decode cX7_clear 7 = .ok (.istore_n 1, 1) := by decide +kernel
theorem dX7_clear_8 : decode cX7_clear 8 = .ok (.aload_n 0, 1) := by decide +kernel
theorem dX7_clear_9 : decode cX7_clear 9 = .ok (.getfield 10, 3) := by decide +kernel
theorem dX7_clear_12 : decode cX7_clear 12 = .ok (.iconst 0, 1) := by decide +kernel
theorem dX7_clear_13 : decode cX7_clear 13 = .ok (.putfield 63, 3) := by decide +kernel
theorem dX7_clear_16 : decode cX7_clear 16 = .ok (.iload_n 1, 1) := by decide +kernel
theorem dX7_clear_17 : decode cX7_clear 17 = .ok (.ireturn, 1) := by decide +kernel
theorem dX7_read_0 : decode cX7_read 0 = .ok (.aload_n 0, 1) := by decide +kernel
theorem dX7_read_1 : decode cX7_read 1 = .ok (.getfield 10, 3) := by decide +kernel
theorem dX7_read_4 : decode cX7_read 4 = .ok (.aload_n 0, 1) := by decide +kernel
theorem dX7_read_5 : decode cX7_read 5 = .ok (.getfield 23, 3) := by decide +kernel
theorem dX7_read_8 : decode cX7_read 8 = .ok (.invokevirtual 66, 3) := by decide +kernel
theorem dX7_read_11 : decode cX7_read 11 = .ok (.istore_n 1, 1) := by decide +kernel
theorem dX7_read_12 : decode cX7_read 12 = .ok (.iload_n 1, 1) := by decide +kernel
theorem dX7_read_13 : decode cX7_read 13 = .ok (.ifCond .lt 8, 3) := by decide +kernel
theorem dX7_read_16 : decode cX7_read 16 = .ok (.bipush (-100), 2) := by decide +kernel
theorem dX7_read_18 : decode cX7_read 18 = .ok (.iload_n 1, 1) := by decide +kernel
theorem dX7_read_19 : decode cX7_read 19 = .ok (.isub, 1) := by decide +kernel
theorem dX7_read_20 : decode cX7_read 20 = .ok (.ireturn, 1) := by decide +kernel
theorem dX7_read_21 : decode cX7_read 21 = .ok (.aload_n 0, 1) := by decide +kernel
theorem dX7_read_22 : decode cX7_read 22 = .ok (.getfield 29, 3) := by decide +kernel
theorem dX7_read_25 : decode cX7_read 25 = .ok (.aload_n 0, 1) := by decide +kernel
theorem dX7_read_26 : decode cX7_read 26 = .ok (.getfield 19, 3) := by decide +kernel
theorem dX7_read_29 : decode cX7_read 29 = .ok (.invokevirtual 70, 3) := by decide +kernel
theorem dX7_read_32 : decode cX7_read 32 = .ok (.aload_n 0, 1) := by decide +kernel
theorem dX7_read_33 : decode cX7_read 33 = .ok (.dup, 1) := by decide +kernel
theorem dX7_read_34 : decode cX7_read 34 = .ok (.getfield 55, 3) := by decide +kernel
theorem dX7_read_37 : decode cX7_read 37 = .ok (.iconst 1, 1) := by decide +kernel
theorem dX7_read_38 : decode cX7_read 38 = .ok (.iadd, 1) := by decide +kernel
theorem dX7_read_39 : decode cX7_read 39 = .ok (.putfield 55, 3) := by decide +kernel
theorem dX7_read_42 : decode cX7_read 42 = .ok (.aload_n 0, 1) := by decide +kernel
theorem dX7_read_43 : decode cX7_read 43 = .ok (.getfield 23, 3) := by decide +kernel
theorem dX7_read_46 : decode cX7_read 46 = .ok (.aload_n 0, 1) := by decide +kernel
theorem dX7_read_47 : decode cX7_read 47 = .ok (.getfield 55, 3) := by decide +kernel
theorem dX7_read_50 : decode cX7_read 50 = .ok (.putfield 74, 3) := by decide +kernel
theorem dX7_read_53 : decode cX7_read 53 = .ok (.aload_n 0, 1) := by decide +kernel
theorem dX7_read_54 : decode cX7_read 54 = .ok (.getfield 19, 3) := by decide +kernel
theorem dX7_read_57 : decode cX7_read 57 = .ok (.aload_n 0, 1) := by decide +kernel
theorem dX7_read_58 : decode cX7_read 58 = .ok (.getfield 23, 3) := by decide +kernel
theorem dX7_read_61 : decode cX7_read 61 = .ok (.invokevirtual 77, 3) := by decide +kernel
theorem dX7_read_64 : decode cX7_read 64 = .ok (.aload_n 0, 1) := by decide +kernel
theorem dX7_read_65 : decode cX7_read 65 = .ok (.getfield 10, 3) := by decide +kernel
theorem dX7_read_68 : decode cX7_read 68 = .ok (.iconst 0, 1) := by decide +kernel
theorem dX7_read_69 : decode cX7_read 69 = .ok (.putfield 63, 3) := by decide +kernel
theorem dX7_read_72 : decode cX7_read 72 = .ok (.aload_n 0, 1) := by decide +kernel
theorem dX7_read_73 : decode cX7_read 73 = .ok (.getfield 19, 3) := by decide +kernel
theorem dX7_read_76 : decode cX7_read 76 = .ok (.getfield 80, 3) := by decide +kernel
theorem dX7_read_79 : decode cX7_read 79 = .ok (.ireturn, 1) := by decide +kernel
theorem dX7_frame_0 : decode cX7_frame 0 = .ok (.iload_n 1, 1) := by decide +kernel
theorem dX7_frame_1 : decode cX7_frame 1 = .ok (.tableswitch 150 0 8 #[51, 59, 67, 75, 102, 110, 118, 126, 134], 51) := by decide +kernel
theorem dX7_frame_52 : decode cX7_frame 52 = .ok (.aload_n 0, 1) := by decide +kernel
theorem dX7_frame_53 : decode cX7_frame 53 = .ok (.getfield 19, 3) := by decide +kernel
theorem dX7_frame_56 : decode cX7_frame 56 = .ok (.getfield 83, 3) := by decide +kernel
theorem dX7_frame_59 : decode cX7_frame 59 = .ok (.ireturn, 1) := by decide +kernel
theorem dX7_frame_60 : decode cX7_frame 60 = .ok (.aload_n 0, 1) := by decide +kernel
theorem dX7_frame_61 : decode cX7_frame 61 = .ok (.getfield 19, 3) := by decide +kernel
theorem dX7_frame_64 : decode cX7_frame 64 = .ok (.getfield 86, 3) := by decide +kernel
theorem dX7_frame_67 : decode cX7_frame 67 = .ok (.ireturn, 1) := by decide +kernel
theorem dX7_frame_68 : decode cX7_frame 68 = .ok (.aload_n 0, 1) := by decide +kernel
theorem dX7_frame_69 : decode cX7_frame 69 = .ok (.getfield 19, 3) := by decide +kernel
theorem dX7_frame_72 : decode cX7_frame 72 = .ok (.getfield 80, 3) := by decide +kernel
theorem dX7_frame_75 : decode cX7_frame 75 = .ok (.ireturn, 1) := by decide +kernel
theorem dX7_frame_76 : decode cX7_frame 76 = .ok (.aload_n 0, 1) := by decide +kernel
theorem dX7_frame_77 : decode cX7_frame 77 = .ok (.getfield 19, 3) := by decide +kernel
theorem dX7_frame_80 : decode cX7_frame 80 = .ok (.getfield 83, 3) := by decide +kernel
theorem dX7_frame_83 : decode cX7_frame 83 = .ok (.aload_n 0, 1) := by decide +kernel
theorem dX7_frame_84 : decode cX7_frame 84 = .ok (.getfield 19, 3) := by decide +kernel
theorem dX7_frame_87 : decode cX7_frame 87 = .ok (.getfield 86, 3) := by decide +kernel
theorem dX7_frame_90 : decode cX7_frame 90 = .ok (.imul, 1) := by decide +kernel
theorem dX7_frame_91 : decode cX7_frame 91 = .ok (.aload_n 0, 1) := by decide +kernel
theorem dX7_frame_92 : decode cX7_frame 92 = .ok (.getfield 19, 3) := by decide +kernel
theorem dX7_frame_95 : decode cX7_frame 95 = .ok (.invokevirtual 89, 3) := by decide +kernel
theorem dX7_frame_98 : decode cX7_frame 98 = .ok (.invokestatic 93, 3) := by decide +kernel
theorem dX7_frame_101 : decode cX7_frame 101 = .ok (.isub, 1) := by decide +kernel
theorem dX7_frame_102 : decode cX7_frame 102 = .ok (.ireturn, 1) := by decide +kernel
theorem dX7_frame_103 : decode cX7_frame 103 = .ok (.aload_n 0, 1) := by decide +kernel
theorem dX7_frame_104 : decode cX7_frame 104 = .ok (.getfield 19, 3) := by decide +kernel
theorem dX7_frame_107 : decode cX7_frame 107 = .ok (.getfield 99, 3) := by decide +kernel
theorem dX7_frame_110 : decode cX7_frame 110 = .ok (.ireturn, 1) := by decide +kernel
theorem dX7_frame_111 : decode cX7_frame 111 = .ok (.aload_n 0, 1) := by decide +kernel
theorem dX7_frame_112 : decode cX7_frame 112 = .ok (.getfield 19, 3) := by decide +kernel
theorem dX7_frame_115 : decode cX7_frame 115 = .ok (.getfield 102, 3) := by decide +kernel
theorem dX7_frame_118 : decode cX7_frame 118 = .ok (.ireturn, 1) := by decide +kernel
theorem dX7_frame_119 : decode cX7_frame 119 = .ok (.aload_n 0, 1) := by decide +kernel
theorem dX7_frame_120 : decode cX7_frame 120 = .ok (.getfield 19, 3) := by decide +kernel
theorem dX7_frame_123 : decode cX7_frame 123 = .ok (.getfield 105, 3) := by decide +kernel
theorem dX7_frame_126 : decode cX7_frame 126 = .ok (.ireturn, 1) := by decide +kernel
theorem dX7_frame_127 : decode cX7_frame 127 = .ok (.aload_n 0, 1) := by decide +kernel
theorem dX7_frame_128 : decode cX7_frame 128 = .ok (.getfield 19, 3) := by decide +kernel
theorem dX7_frame_131 : decode cX7_frame 131 = .ok (.getfield 108, 3) := by decide +kernel
theorem dX7_frame_134 : decode cX7_frame 134 = .ok (.ireturn, 1) := by decide +kernel
theorem dX7_frame_135 : decode cX7_frame 135 = .ok (.aload_n 0, 1) := by decide +kernel
theorem dX7_frame_136 : decode cX7_frame 136 = .ok (.getfield 19, 3) := by decide +kernel
theorem dX7_frame_139 : decode cX7_frame 139 = .ok (.invokevirtual 111, 3) := by decide +kernel
theorem dX7_frame_142 : decode cX7_frame 142 = .ok (.ifCond .eq 7, 3) := by decide +kernel
theorem dX7_frame_145 : decode cX7_frame 145 = .ok (.iconst 1, 1) := by decide +kernel
theorem dX7_frame_146 : decode cX7_frame 146 = .ok (.goto 4, 3) := by decide +kernel
theorem dX7_frame_149 : decode cX7_frame 149 = .ok (.iconst 0, 1) := by decide +kernel
theorem dX7_frame_150 : decode cX7_frame 150 = .ok (.ireturn, 1) := by decide +kernel
theorem dX7_frame_151 : decode cX7_frame 151 = .ok (.iconst (-1), 1) := by decide +kernel
theorem dX7_frame_152 : decode cX7_frame 152 = .ok (.ireturn, 1) := by decide +kernel
theorem dX7_cell_0 : decode cX7_cell 0 = .ok (.aload_n 0, 1) := by decide +kernel
theorem dX7_cell_1 : decode cX7_cell 1 = .ok (.getfield 19, 3) := by decide +kernel
theorem dX7_cell_4 : decode cX7_cell 4 = .ok (.iload_n 1, 1) := by decide +kernel
theorem dX7_cell_5 : decode cX7_cell 5 = .ok (.invokevirtual 115, 3) := by decide +kernel
theorem dX7_cell_8 : decode cX7_cell 8 = .ok (.ifCond .ne 5, 3) := by decide +kernel
theorem dX7_cell_11 : decode cX7_cell 11 = .ok (.iconst (-1), 1) := by decide +kernel
theorem dX7_cell_12 : decode cX7_cell 12 = .ok (.ireturn, 1) := by decide +kernel
theorem dX7_cell_13 : decode cX7_cell 13 = .ok (.iconst 1, 1) := by decide +kernel
theorem dX7_cell_14 : decode cX7_cell 14 = .ok (.iload_n 1, 1) := by decide +kernel
theorem dX7_cell_15 : decode cX7_cell 15 = .ok (.ishl, 1) := by decide +kernel
theorem dX7_cell_16 : decode cX7_cell 16 = .ok (.istore_n 2, 1) := by decide +kernel
theorem dX7_cell_17 : decode cX7_cell 17 = .ok (.aload_n 0, 1) := by decide +kernel
theorem dX7_cell_18 : decode cX7_cell 18 = .ok (.getfield 19, 3) := by decide +kernel
theorem dX7_cell_21 : decode cX7_cell 21 = .ok (.getfield 118, 3) := by decide +kernel
theorem dX7_cell_24 : decode cX7_cell 24 = .ok (.iload_n 2, 1) := by decide +kernel
theorem dX7_cell_25 : decode cX7_cell 25 = .ok (.iand, 1) := by decide +kernel
theorem dX7_cell_26 : decode cX7_cell 26 = .ok (.ifCond .eq 6, 3) := by decide +kernel
theorem dX7_cell_29 : decode cX7_cell 29 = .ok (.bipush (-10), 2) := by decide +kernel
theorem dX7_cell_31 : decode cX7_cell 31 = .ok (.ireturn, 1) := by decide +kernel
theorem dX7_cell_32 : decode cX7_cell 32 = .ok (.iconst 0, 1) := by decide +kernel
theorem dX7_cell_33 : decode cX7_cell 33 = .ok (.istore_n 3, 1) := by decide +kernel
theorem dX7_cell_34 : decode cX7_cell 34 = .ok (.iload_n 3, 1) := by decide +kernel
theorem dX7_cell_35 : decode cX7_cell 35 = .ok (.aload_n 0, 1) := by decide +kernel
theorem dX7_cell_36 : decode cX7_cell 36 = .ok (.getfield 19, 3) := by decide +kernel
theorem dX7_cell_39 : decode cX7_cell 39 = .ok (.getfield 80, 3) := by decide +kernel
theorem dX7_cell_42 : decode cX7_cell 42 = .ok (.if_icmp .ge 24, 3) := by decide +kernel
theorem dX7_cell_45 : decode cX7_cell 45 = .ok (.aload_n 0, 1) := by decide +kernel
theorem dX7_cell_46 : decode cX7_cell 46 = .ok (.getfield 19, 3) := by decide +kernel
theorem dX7_cell_49 : decode cX7_cell 49 = .ok (.iload_n 3, 1) := by decide +kernel
theorem dX7_cell_50 : decode cX7_cell 50 = .ok (.invokevirtual 121, 3) := by decide +kernel
theorem dX7_cell_53 : decode cX7_cell 53 = .ok (.iload_n 2, 1) := by decide +kernel
theorem dX7_cell_54 : decode cX7_cell 54 = .ok (.iand, 1) := by decide +kernel
theorem dX7_cell_55 : decode cX7_cell 55 = .ok (.ifCond .eq 5, 3) := by decide +kernel
theorem dX7_cell_58 : decode cX7_cell 58 = .ok (.iload_n 3, 1) := by decide +kernel
theorem dX7_cell_59 : decode cX7_cell 59 = .ok (.ireturn, 1) := by decide +kernel
theorem dX7_cell_60 : decode cX7_cell 60 = .ok (.iinc 3 1, 3) := by decide +kernel
theorem dX7_cell_63 : decode cX7_cell 63 = .ok (.goto (-29), 3) := by decide +kernel
theorem dX7_cell_66 : decode cX7_cell 66 = .ok (.bipush (-9), 2) := by decide +kernel
theorem dX7_cell_68 : decode cX7_cell 68 = .ok (.ireturn, 1) := by decide +kernel
theorem dX7_block_0 : decode cX7_block 0 = .ok (.aload_n 0, 1) := by decide +kernel
theorem dX7_block_1 : decode cX7_block 1 = .ok (.getfield 19, 3) := by decide +kernel
theorem dX7_block_4 : decode cX7_block 4 = .ok (.iload_n 1, 1) := by decide +kernel
theorem dX7_block_5 : decode cX7_block 5 = .ok (.invokevirtual 124, 3) := by decide +kernel
theorem dX7_block_8 : decode cX7_block 8 = .ok (.ifCond .ne 5, 3) := by decide +kernel
theorem dX7_block_11 : decode cX7_block 11 = .ok (.iconst (-1), 1) := by decide +kernel
theorem dX7_block_12 : decode cX7_block 12 = .ok (.ireturn, 1) := by decide +kernel
theorem dX7_block_13 : decode cX7_block 13 = .ok (.iload_n 2, 1) := by decide +kernel
theorem dX7_block_14 : decode cX7_block 14 = .ok (.tableswitch 124 0 6 #[42, 54, 69, 81, 93, 102, 115], 42) := by decide +kernel
theorem dX7_block_56 : decode cX7_block 56 = .ok (.aload_n 0, 1) := by decide +kernel
theorem dX7_block_57 : decode cX7_block 57 = .ok (.getfield 19, 3) := by decide +kernel
theorem dX7_block_60 : decode cX7_block 60 = .ok (.getfield 127, 3) := by decide +kernel
theorem dX7_block_63 : decode cX7_block 63 = .ok (.iload_n 1, 1) := by decide +kernel
theorem dX7_block_64 : decode cX7_block 64 = .ok (.invokestatic 131, 3) := by decide +kernel
theorem dX7_block_67 : decode cX7_block 67 = .ok (.ireturn, 1) := by decide +kernel
theorem dX7_block_68 : decode cX7_block 68 = .ok (.aload_n 0, 1) := by decide +kernel
theorem dX7_block_69 : decode cX7_block 69 = .ok (.getfield 19, 3) := by decide +kernel
theorem dX7_block_72 : decode cX7_block 72 = .ok (.getfield 135, 3) := by decide +kernel
theorem dX7_block_75 : decode cX7_block 75 = .ok (.iload_n 1, 1) := by decide +kernel
theorem dX7_block_76 : decode cX7_block 76 = .ok (.invokestatic 131, 3) := by decide +kernel
theorem dX7_block_79 : decode cX7_block 79 = .ok (.invokestatic 93, 3) := by decide +kernel
theorem dX7_block_82 : decode cX7_block 82 = .ok (.ireturn, 1) := by decide +kernel
theorem dX7_block_83 : decode cX7_block 83 = .ok (.aload_n 0, 1) := by decide +kernel
theorem dX7_block_84 : decode cX7_block 84 = .ok (.getfield 19, 3) := by decide +kernel
theorem dX7_block_87 : decode cX7_block 87 = .ok (.getfield 138, 3) := by decide +kernel
theorem dX7_block_90 : decode cX7_block 90 = .ok (.iload_n 1, 1) := by decide +kernel
theorem dX7_block_91 : decode cX7_block 91 = .ok (.invokestatic 131, 3) := by decide +kernel
theorem dX7_block_94 : decode cX7_block 94 = .ok (.ireturn, 1) := by decide +kernel
theorem dX7_block_95 : decode cX7_block 95 = .ok (.aload_n 0, 1) := by decide +kernel
theorem dX7_block_96 : decode cX7_block 96 = .ok (.getfield 19, 3) := by decide +kernel
theorem dX7_block_99 : decode cX7_block 99 = .ok (.getfield 141, 3) := by decide +kernel
theorem dX7_block_102 : decode cX7_block 102 = .ok (.iload_n 1, 1) := by decide +kernel
theorem dX7_block_103 : decode cX7_block 103 = .ok (.invokestatic 131, 3) := by decide +kernel
theorem dX7_block_106 : decode cX7_block 106 = .ok (.ireturn, 1) := by decide +kernel
theorem dX7_block_107 : decode cX7_block 107 = .ok (.aload_n 0, 1) := by decide +kernel
theorem dX7_block_108 : decode cX7_block 108 = .ok (.getfield 19, 3) := by decide +kernel
theorem dX7_block_111 : decode cX7_block 111 = .ok (.iload_n 1, 1) := by decide +kernel
theorem dX7_block_112 : decode cX7_block 112 = .ok (.invokevirtual 144, 3) := by decide +kernel
theorem dX7_block_115 : decode cX7_block 115 = .ok (.ireturn, 1) := by decide +kernel
theorem dX7_block_116 : decode cX7_block 116 = .ok (.aload_n 0, 1) := by decide +kernel
theorem dX7_block_117 : decode cX7_block 117 = .ok (.getfield 36, 3) := by decide +kernel
theorem dX7_block_120 : decode cX7_block 120 = .ok (.aload_n 0, 1) := by decide +kernel
theorem dX7_block_121 : decode cX7_block 121 = .ok (.getfield 19, 3) := by decide +kernel
theorem dX7_block_124 : decode cX7_block 124 = .ok (.iload_n 1, 1) := by decide +kernel
theorem dX7_block_125 : decode cX7_block 125 = .ok (.invokevirtual 147, 3) := by decide +kernel
theorem dX7_block_128 : decode cX7_block 128 = .ok (.ireturn, 1) := by decide +kernel
theorem dX7_block_129 : decode cX7_block 129 = .ok (.aload_n 0, 1) := by decide +kernel
theorem dX7_block_130 : decode cX7_block 130 = .ok (.getfield 19, 3) := by decide +kernel
theorem dX7_block_133 : decode cX7_block 133 = .ok (.iload_n 1, 1) := by decide +kernel
theorem dX7_block_134 : decode cX7_block 134 = .ok (.invokevirtual 151, 3) := by decide +kernel
theorem dX7_block_137 : decode cX7_block 137 = .ok (.ireturn, 1) := by decide +kernel
theorem dX7_block_138 : decode cX7_block 138 = .ok (.iconst (-1), 1) := by decide +kernel
theorem dX7_block_139 : decode cX7_block 139 = .ok (.ireturn, 1) := by decide +kernel
theorem dX7_step_0 : decode cX7_step 0 = .ok (.aload_n 0, 1) := by decide +kernel
theorem dX7_step_1 : decode cX7_step 1 = .ok (.getfield 19, 3) := by decide +kernel
theorem dX7_step_4 : decode cX7_step 4 = .ok (.iload_n 1, 1) := by decide +kernel
theorem dX7_step_5 : decode cX7_step 5 = .ok (.invokevirtual 124, 3) := by decide +kernel
theorem dX7_step_8 : decode cX7_step 8 = .ok (.ifCond .eq 12, 3) := by decide +kernel
theorem dX7_step_11 : decode cX7_step 11 = .ok (.iload_n 2, 1) := by decide +kernel
theorem dX7_step_12 : decode cX7_step 12 = .ok (.ifCond .lt 8, 3) := by decide +kernel
theorem dX7_step_15 : decode cX7_step 15 = .ok (.iload_n 2, 1) := by decide +kernel
theorem dX7_step_16 : decode cX7_step 16 = .ok (.iconst 4, 1) := by decide +kernel
theorem dX7_step_17 : decode cX7_step 17 = .ok (.if_icmp .lt 5, 3) := by decide +kernel
theorem dX7_step_20 : decode cX7_step 20 = .ok (.iconst (-1), 1) := by decide +kernel
theorem dX7_step_21 : decode cX7_step 21 = .ok (.ireturn, 1) := by decide +kernel
theorem dX7_step_22 : decode cX7_step 22 = .ok (.aload_n 0, 1) := by decide +kernel
theorem dX7_step_23 : decode cX7_step 23 = .ok (.getfield 19, 3) := by decide +kernel
theorem dX7_step_26 : decode cX7_step 26 = .ok (.iload_n 1, 1) := by decide +kernel
theorem dX7_step_27 : decode cX7_step 27 = .ok (.invokevirtual 144, 3) := by decide +kernel
theorem dX7_step_30 : decode cX7_step 30 = .ok (.iload_n 2, 1) := by decide +kernel
theorem dX7_step_31 : decode cX7_step 31 = .ok (.ishr, 1) := by decide +kernel
theorem dX7_step_32 : decode cX7_step 32 = .ok (.iconst 1, 1) := by decide +kernel
theorem dX7_step_33 : decode cX7_step 33 = .ok (.iand, 1) := by decide +kernel
theorem dX7_step_34 : decode cX7_step 34 = .ok (.ifCond .ne 6, 3) := by decide +kernel
theorem dX7_step_37 : decode cX7_step 37 = .ok (.bipush (-2), 2) := by decide +kernel
theorem dX7_step_39 : decode cX7_step 39 = .ok (.ireturn, 1) := by decide +kernel
theorem dX7_step_40 : decode cX7_step 40 = .ok (.aload_n 0, 1) := by decide +kernel
theorem dX7_step_41 : decode cX7_step 41 = .ok (.getfield 29, 3) := by decide +kernel
theorem dX7_step_44 : decode cX7_step 44 = .ok (.aload_n 0, 1) := by decide +kernel
theorem dX7_step_45 : decode cX7_step 45 = .ok (.getfield 19, 3) := by decide +kernel
theorem dX7_step_48 : decode cX7_step 48 = .ok (.invokevirtual 70, 3) := by decide +kernel
theorem dX7_step_51 : decode cX7_step 51 = .ok (.aload_n 0, 1) := by decide +kernel
theorem dX7_step_52 : decode cX7_step 52 = .ok (.getfield 19, 3) := by decide +kernel
theorem dX7_step_55 : decode cX7_step 55 = .ok (.getfield 127, 3) := by decide +kernel
theorem dX7_step_58 : decode cX7_step 58 = .ok (.iload_n 1, 1) := by decide +kernel
theorem dX7_step_59 : decode cX7_step 59 = .ok (.invokestatic 131, 3) := by decide +kernel
theorem dX7_step_62 : decode cX7_step 62 = .ok (.aload_n 0, 1) := by decide +kernel
theorem dX7_step_63 : decode cX7_step 63 = .ok (.getfield 19, 3) := by decide +kernel
theorem dX7_step_66 : decode cX7_step 66 = .ok (.iload_n 2, 1) := by decide +kernel
theorem dX7_step_67 : decode cX7_step 67 = .ok (.invokevirtual 154, 3) := by decide +kernel
theorem dX7_step_70 : decode cX7_step 70 = .ok (.iadd, 1) := by decide +kernel
theorem dX7_step_71 : decode cX7_step 71 = .ok (.istore_n 3, 1) := by decide +kernel
theorem dX7_step_72 : decode cX7_step 72 = .ok (.aload_n 0, 1) := by decide +kernel
theorem dX7_step_73 : decode cX7_step 73 = .ok (.getfield 19, 3) := by decide +kernel
theorem dX7_step_76 : decode cX7_step 76 = .ok (.iload_n 1, 1) := by decide +kernel
theorem dX7_step_77 : decode cX7_step 77 = .ok (.iload_n 3, 1) := by decide +kernel
theorem dX7_step_78 : decode cX7_step 78 = .ok (.iconst 1, 1) := by decide +kernel
theorem dX7_step_79 : decode cX7_step 79 = .ok (.iconst 0, 1) := by decide +kernel
theorem dX7_step_80 : decode cX7_step 80 = .ok (.invokevirtual 157, 3) := by decide +kernel
theorem dX7_step_83 : decode cX7_step 83 = .ok (.iload_n 3, 1) := by decide +kernel
theorem dX7_step_84 : decode cX7_step 84 = .ok (.ireturn, 1) := by decide +kernel
theorem dX7_slide_0 : decode cX7_slide 0 = .ok (.aload_n 0, 1) := by decide +kernel
theorem dX7_slide_1 : decode cX7_slide 1 = .ok (.getfield 19, 3) := by decide +kernel
theorem dX7_slide_4 : decode cX7_slide 4 = .ok (.iload_n 1, 1) := by decide +kernel
theorem dX7_slide_5 : decode cX7_slide 5 = .ok (.invokevirtual 124, 3) := by decide +kernel
theorem dX7_slide_8 : decode cX7_slide 8 = .ok (.ifCond .eq 14, 3) := by decide +kernel
theorem dX7_slide_11 : decode cX7_slide 11 = .ok (.aload_n 0, 1) := by decide +kernel
theorem dX7_slide_12 : decode cX7_slide 12 = .ok (.getfield 19, 3) := by decide +kernel
theorem dX7_slide_15 : decode cX7_slide 15 = .ok (.iload_n 2, 1) := by decide +kernel
theorem dX7_slide_16 : decode cX7_slide 16 = .ok (.invokevirtual 115, 3) := by decide +kernel
theorem dX7_slide_19 : decode cX7_slide 19 = .ok (.ifCond .ne 5, 3) := by decide +kernel
theorem dX7_slide_22 : decode cX7_slide 22 = .ok (.iconst (-1), 1) := by decide +kernel
theorem dX7_slide_23 : decode cX7_slide 23 = .ok (.ireturn, 1) := by decide +kernel
theorem dX7_slide_24 : decode cX7_slide 24 = .ok (.aload_n 0, 1) := by decide +kernel
theorem dX7_slide_25 : decode cX7_slide 25 = .ok (.getfield 36, 3) := by decide +kernel
theorem dX7_slide_28 : decode cX7_slide 28 = .ok (.aload_n 0, 1) := by decide +kernel
theorem dX7_slide_29 : decode cX7_slide 29 = .ok (.getfield 19, 3) := by decide +kernel
theorem dX7_slide_32 : decode cX7_slide 32 = .ok (.iload_n 1, 1) := by decide +kernel
theorem dX7_slide_33 : decode cX7_slide 33 = .ok (.invokevirtual 147, 3) := by decide +kernel
theorem dX7_slide_36 : decode cX7_slide 36 = .ok (.pop, 1) := by decide +kernel
theorem dX7_slide_37 : decode cX7_slide 37 = .ok (.aload_n 0, 1) := by decide +kernel
theorem dX7_slide_38 : decode cX7_slide 38 = .ok (.getfield 36, 3) := by decide +kernel
theorem dX7_slide_41 : decode cX7_slide 41 = .ok (.getfield 161, 3) := by decide +kernel
theorem dX7_slide_44 : decode cX7_slide 44 = .ok (.iload_n 2, 1) := by decide +kernel
theorem dX7_slide_45 : decode cX7_slide 45 = .ok (.invokestatic 131, 3) := by decide +kernel
theorem dX7_slide_48 : decode cX7_slide 48 = .ok (.istore_n 3, 1) := by decide +kernel
theorem dX7_slide_49 : decode cX7_slide 49 = .ok (.iload_n 3, 1) := by decide +kernel
theorem dX7_slide_50 : decode cX7_slide 50 = .ok (.ifCond .gt 6, 3) := by decide +kernel
theorem dX7_slide_53 : decode cX7_slide 53 = .ok (.bipush (-2), 2) := by decide +kernel
theorem dX7_slide_55 : decode cX7_slide 55 = .ok (.ireturn, 1) := by decide +kernel
theorem dX7_slide_56 : decode cX7_slide 56 = .ok (.aload_n 0, 1) := by decide +kernel
theorem dX7_slide_57 : decode cX7_slide 57 = .ok (.getfield 29, 3) := by decide +kernel
theorem dX7_slide_60 : decode cX7_slide 60 = .ok (.aload_n 0, 1) := by decide +kernel
theorem dX7_slide_61 : decode cX7_slide 61 = .ok (.getfield 19, 3) := by decide +kernel
theorem dX7_slide_64 : decode cX7_slide 64 = .ok (.invokevirtual 70, 3) := by decide +kernel
theorem dX7_slide_67 : decode cX7_slide 67 = .ok (.aload_n 0, 1) := by decide +kernel
theorem dX7_slide_68 : decode cX7_slide 68 = .ok (.getfield 19, 3) := by decide +kernel
theorem dX7_slide_71 : decode cX7_slide 71 = .ok (.iload_n 1, 1) := by decide +kernel
theorem dX7_slide_72 : decode cX7_slide 72 = .ok (.iload_n 2, 1) := by decide +kernel
theorem dX7_slide_73 : decode cX7_slide 73 = .ok (.iload_n 3, 1) := by decide +kernel
theorem dX7_slide_74 : decode cX7_slide 74 = .ok (.iconst 1, 1) := by decide +kernel
theorem dX7_slide_75 : decode cX7_slide 75 = .ok (.invokevirtual 157, 3) := by decide +kernel
theorem dX7_slide_78 : decode cX7_slide 78 = .ok (.iload_n 3, 1) := by decide +kernel
theorem dX7_slide_79 : decode cX7_slide 79 = .ok (.ireturn, 1) := by decide +kernel
theorem dX7_goal_0 : decode cX7_goal 0 = .ok (.aload_n 0, 1) := by decide +kernel
theorem dX7_goal_1 : decode cX7_goal 1 = .ok (.getfield 19, 3) := by decide +kernel
theorem dX7_goal_4 : decode cX7_goal 4 = .ok (.iload_n 1, 1) := by decide +kernel
theorem dX7_goal_5 : decode cX7_goal 5 = .ok (.invokevirtual 124, 3) := by decide +kernel
theorem dX7_goal_8 : decode cX7_goal 8 = .ok (.ifCond .eq 15, 3) := by decide +kernel
theorem dX7_goal_11 : decode cX7_goal 11 = .ok (.aload_n 0, 1) := by decide +kernel
theorem dX7_goal_12 : decode cX7_goal 12 = .ok (.getfield 19, 3) := by decide +kernel
theorem dX7_goal_15 : decode cX7_goal 15 = .ok (.iload_n 1, 1) := by decide +kernel
theorem dX7_goal_16 : decode cX7_goal 16 = .ok (.iload_n 2, 1) := by decide +kernel
theorem dX7_goal_17 : decode cX7_goal 17 = .ok (.invokevirtual 164, 3) := by decide +kernel
theorem dX7_goal_20 : decode cX7_goal 20 = .ok (.ifCond .ne 5, 3) := by decide +kernel
theorem dX7_goal_23 : decode cX7_goal 23 = .ok (.iconst (-1), 1) := by decide +kernel
theorem dX7_goal_24 : decode cX7_goal 24 = .ok (.ireturn, 1) := by decide +kernel
theorem dX7_goal_25 : decode cX7_goal 25 = .ok (.aload_n 0, 1) := by decide +kernel
theorem dX7_goal_26 : decode cX7_goal 26 = .ok (.getfield 29, 3) := by decide +kernel
theorem dX7_goal_29 : decode cX7_goal 29 = .ok (.aload_n 0, 1) := by decide +kernel
theorem dX7_goal_30 : decode cX7_goal 30 = .ok (.getfield 19, 3) := by decide +kernel
theorem dX7_goal_33 : decode cX7_goal 33 = .ok (.invokevirtual 70, 3) := by decide +kernel
theorem dX7_goal_36 : decode cX7_goal 36 = .ok (.aload_n 0, 1) := by decide +kernel
theorem dX7_goal_37 : decode cX7_goal 37 = .ok (.getfield 19, 3) := by decide +kernel
theorem dX7_goal_40 : decode cX7_goal 40 = .ok (.iload_n 1, 1) := by decide +kernel
theorem dX7_goal_41 : decode cX7_goal 41 = .ok (.putfield 105, 3) := by decide +kernel
theorem dX7_goal_44 : decode cX7_goal 44 = .ok (.aload_n 0, 1) := by decide +kernel
theorem dX7_goal_45 : decode cX7_goal 45 = .ok (.getfield 19, 3) := by decide +kernel
