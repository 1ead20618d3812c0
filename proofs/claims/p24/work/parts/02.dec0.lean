theorem dX0_init_0 : decode cX0_init 0 = .ok (.aload_n 0, 1) := by decide +kernel
theorem dX0_init_1 : decode cX0_init 1 = .ok (.invokespecial 3, 3) := by decide +kernel
theorem dX0_init_4 : decode cX0_init 4 = .ok (.aload_n 0, 1) := by decide +kernel
theorem dX0_init_5 : decode cX0_init 5 = .ok (.iconst 0, 1) := by decide +kernel
theorem dX0_init_6 : decode cX0_init 6 = .ok (.putfield 9, 3) := by decide +kernel
theorem dX0_init_9 : decode cX0_init 9 = .ok (.aload_n 0, 1) := by decide +kernel
theorem dX0_init_10 : decode cX0_init 10 = .ok (.bipush 7, 2) := by decide +kernel
theorem dX0_init_12 : decode cX0_init 12 = .ok (.newarray .int, 2) := by decide +kernel
theorem dX0_init_14 : decode cX0_init 14 = .ok (.putfield 15, 3) := by decide +kernel
theorem dX0_init_17 : decode cX0_init 17 = .ok (.aload_n 0, 1) := by decide +kernel
theorem dX0_init_18 : decode cX0_init 18 = .ok (.bipush 7, 2) := by decide +kernel
theorem dX0_init_20 : decode cX0_init 20 = .ok (.newarray .int, 2) := by decide +kernel
theorem dX0_init_22 : decode cX0_init 22 = .ok (.putfield 19, 3) := by decide +kernel
theorem dX0_init_25 : decode cX0_init 25 = .ok (.aload_n 0, 1) := by decide +kernel
theorem dX0_init_26 : decode cX0_init 26 = .ok (.bipush 7, 2) := by decide +kernel
theorem dX0_init_28 : decode cX0_init 28 = .ok (.newarray .int, 2) := by decide +kernel
theorem dX0_init_30 : decode cX0_init 30 = .ok (.putfield 22, 3) := by decide +kernel
theorem dX0_init_33 : decode cX0_init 33 = .ok (.aload_n 0, 1) := by decide +kernel
theorem dX0_init_34 : decode cX0_init 34 = .ok (.bipush 7, 2) := by decide +kernel
theorem dX0_init_36 : decode cX0_init 36 = .ok (.newarray .int, 2) := by decide +kernel
theorem dX0_init_38 : decode cX0_init 38 = .ok (.putfield 25, 3) := by decide +kernel
theorem dX0_init_41 : decode cX0_init 41 = .ok (.aload_n 0, 1) := by decide +kernel
theorem dX0_init_42 : decode cX0_init 42 = .ok (.iconst 1, 1) := by decide +kernel
theorem dX0_init_43 : decode cX0_init 43 = .ok (.iconst 1, 1) := by decide +kernel
theorem dX0_init_44 : decode cX0_init 44 = .ok (.invokevirtual 28, 3) := by decide +kernel
theorem dX0_init_47 : decode cX0_init 47 = .ok (.return_, 1) := by decide +kernel
theorem dX0_copy_0 : decode cX0_copy 0 = .ok (.aload_n 0, 1) := by decide +kernel
theorem dX0_copy_1 : decode cX0_copy 1 = .ok (.aload_n 1, 1) := by decide +kernel
theorem dX0_copy_2 : decode cX0_copy 2 = .ok (.getfield 9, 3) := by decide +kernel
theorem dX0_copy_5 : decode cX0_copy 5 = .ok (.putfield 9, 3) := by decide +kernel
theorem dX0_copy_8 : decode cX0_copy 8 = .ok (.aload_n 0, 1) := by decide +kernel
theorem dX0_copy_9 : decode cX0_copy 9 = .ok (.aload_n 1, 1) := by decide +kernel
theorem dX0_copy_10 : decode cX0_copy 10 = .ok (.getfield 32, 3) := by decide +kernel
theorem dX0_copy_13 : decode cX0_copy 13 = .ok (.putfield 32, 3) := by decide +kernel
theorem dX0_copy_16 : decode cX0_copy 16 = .ok (.aload_n 0, 1) := by decide +kernel
theorem dX0_copy_17 : decode cX0_copy 17 = .ok (.aload_n 1, 1) := by decide +kernel
theorem dX0_copy_18 : decode cX0_copy 18 = .ok (.getfield 35, 3) := by decide +kernel
theorem dX0_copy_21 : decode cX0_copy 21 = .ok (.putfield 35, 3) := by decide +kernel
theorem dX0_copy_24 : decode cX0_copy 24 = .ok (.aload_n 0, 1) := by decide +kernel
theorem dX0_copy_25 : decode cX0_copy 25 = .ok (.aload_n 1, 1) := by decide +kernel
theorem dX0_copy_26 : decode cX0_copy 26 = .ok (.getfield 38, 3) := by decide +kernel
theorem dX0_copy_29 : decode cX0_copy 29 = .ok (.putfield 38, 3) := by decide +kernel
theorem dX0_copy_32 : decode cX0_copy 32 = .ok (.aload_n 0, 1) := by decide +kernel
theorem dX0_copy_33 : decode cX0_copy 33 = .ok (.aload_n 1, 1) := by decide +kernel
theorem dX0_copy_34 : decode cX0_copy 34 = .ok (.getfield 41, 3) := by decide +kernel
theorem dX0_copy_37 : decode cX0_copy 37 = .ok (.putfield 41, 3) := by decide +kernel
theorem dX0_copy_40 : decode cX0_copy 40 = .ok (.aload_n 0, 1) := by decide +kernel
theorem dX0_copy_41 : decode cX0_copy 41 = .ok (.aload_n 1, 1) := by decide +kernel
theorem dX0_copy_42 : decode cX0_copy 42 = .ok (.getfield 44, 3) := by decide +kernel
theorem dX0_copy_45 : decode cX0_copy 45 = .ok (.putfield 44, 3) := by decide +kernel
theorem dX0_copy_48 : decode cX0_copy 48 = .ok (.aload_n 0, 1) := by decide +kernel
theorem dX0_copy_49 : decode cX0_copy 49 = .ok (.aload_n 1, 1) := by decide +kernel
theorem dX0_copy_50 : decode cX0_copy 50 = .ok (.getfield 47, 3) := by decide +kernel
theorem dX0_copy_53 : decode cX0_copy 53 = .ok (.putfield 47, 3) := by decide +kernel
theorem dX0_copy_56 : decode cX0_copy 56 = .ok (.aload_n 0, 1) := by decide +kernel
theorem dX0_copy_57 : decode cX0_copy 57 = .ok (.aload_n 1, 1) := by decide +kernel
theorem dX0_copy_58 : decode cX0_copy 58 = .ok (.getfield 50, 3) := by decide +kernel
theorem dX0_copy_61 : decode cX0_copy 61 = .ok (.putfield 50, 3) := by decide +kernel
theorem dX0_copy_64 : decode cX0_copy 64 = .ok (.aload_n 0, 1) := by decide +kernel
theorem dX0_copy_65 : decode cX0_copy 65 = .ok (.aload_n 1, 1) := by decide +kernel
theorem dX0_copy_66 : decode cX0_copy 66 = .ok (.getfield 53, 3) := by decide +kernel
theorem dX0_copy_69 : decode cX0_copy 69 = .ok (.putfield 53, 3) := by decide +kernel
theorem dX0_copy_72 : decode cX0_copy 72 = .ok (.aload_n 1, 1) := by decide +kernel
theorem dX0_copy_73 : decode cX0_copy 73 = .ok (.getfield 15, 3) := by decide +kernel
theorem dX0_copy_76 : decode cX0_copy 76 = .ok (.aload_n 0, 1) := by decide +kernel
theorem dX0_copy_77 : decode cX0_copy 77 = .ok (.getfield 15, 3) := by decide +kernel
theorem dX0_copy_80 : decode cX0_copy 80 = .ok (.invokestatic 56, 3) := by decide +kernel
theorem dX0_copy_83 : decode cX0_copy 83 = .ok (.aload_n 1, 1) := by decide +kernel
theorem dX0_copy_84 : decode cX0_copy 84 = .ok (.getfield 19, 3) := by decide +kernel
theorem dX0_copy_87 : decode cX0_copy 87 = .ok (.aload_n 0, 1) := by decide +kernel
theorem dX0_copy_88 : decode cX0_copy 88 = .ok (.getfield 19, 3) := by decide +kernel
theorem dX0_copy_91 : decode cX0_copy 91 = .ok (.invokestatic 56, 3) := by decide +kernel
theorem dX0_copy_94 : decode cX0_copy 94 = .ok (.aload_n 1, 1) := by decide +kernel
theorem dX0_copy_95 : decode cX0_copy 95 = .ok (.getfield 22, 3) := by decide +kernel
theorem dX0_copy_98 : decode cX0_copy 98 = .ok (.aload_n 0, 1) := by decide +kernel
theorem dX0_copy_99 : decode cX0_copy 99 = .ok (.getfield 22, 3) := by decide +kernel
theorem dX0_copy_102 : decode cX0_copy 102 = .ok (.invokestatic 56, 3) := by decide +kernel
theorem dX0_copy_105 : decode cX0_copy 105 = .ok (.aload_n 1, 1) := by decide +kernel
theorem dX0_copy_106 : decode cX0_copy 106 = .ok (.getfield 25, 3) := by decide +kernel
theorem dX0_copy_109 : decode cX0_copy 109 = .ok (.aload_n 0, 1) := by decide +kernel
theorem dX0_copy_110 : decode cX0_copy 110 = .ok (.getfield 25, 3) := by decide +kernel
theorem dX0_copy_113 : decode cX0_copy 113 = .ok (.invokestatic 56, 3) := by decide +kernel
theorem dX0_copy_116 : decode cX0_copy 116 = .ok (.aload_n 0, 1) := by decide +kernel
theorem dX0_copy_117 : decode cX0_copy 117 = .ok (.aload_n 1, 1) := by decide +kernel
theorem dX0_copy_118 : decode cX0_copy 118 = .ok (.getfield 60, 3) := by decide +kernel
theorem dX0_copy_121 : decode cX0_copy 121 = .ok (.putfield 60, 3) := by decide +kernel
theorem dX0_copy_124 : decode cX0_copy 124 = .ok (.aload_n 0, 1) := by decide +kernel
theorem dX0_copy_125 : decode cX0_copy 125 = .ok (.aload_n 1, 1) := by decide +kernel
theorem dX0_copy_126 : decode cX0_copy 126 = .ok (.getfield 63, 3) := by decide +kernel
theorem dX0_copy_129 : decode cX0_copy 129 = .ok (.putfield 63, 3) := by decide +kernel
theorem dX0_copy_132 : decode cX0_copy 132 = .ok (.aload_n 0, 1) := by decide +kernel
theorem dX0_copy_133 : decode cX0_copy 133 = .ok (.aload_n 1, 1) := by decide +kernel
theorem dX0_copy_134 : decode cX0_copy 134 = .ok (.getfield 66, 3) := by decide +kernel
theorem dX0_copy_137 : decode cX0_copy 137 = .ok (.putfield 66, 3) := by decide +kernel
theorem dX0_copy_140 : decode cX0_copy 140 = .ok (.aload_n 0, 1) := by decide +kernel
theorem dX0_copy_141 : decode cX0_copy 141 = .ok (.aload_n 1, 1) := by decide +kernel
theorem dX0_copy_142 : decode cX0_copy 142 = .ok (.getfield 69, 3) := by decide +kernel
theorem dX0_copy_145 : decode cX0_copy 145 = .ok (.putfield 69, 3) := by decide +kernel
theorem dX0_copy_148 : decode cX0_copy 148 = .ok (.aload_n 0, 1) := by decide +kernel
theorem dX0_copy_149 : decode cX0_copy 149 = .ok (.aload_n 1, 1) := by decide +kernel
theorem dX0_copy_150 : decode cX0_copy 150 = .ok (.getfield 72, 3) := by decide +kernel
theorem dX0_copy_153 : decode cX0_copy 153 = .ok (.putfield 72, 3) := by decide +kernel
theorem dX0_copy_156 : decode cX0_copy 156 = .ok (.return_, 1) := by decide +kernel
theorem dX0_empty_0 : decode cX0_empty 0 = .ok (.aload_n 0, 1) := by decide +kernel
theorem dX0_empty_1 : decode cX0_empty 1 = .ok (.iload_n 1, 1) := by decide +kernel
theorem dX0_empty_2 : decode cX0_empty 2 = .ok (.putfield 32, 3) := by decide +kernel
theorem dX0_empty_5 : decode cX0_empty 5 = .ok (.aload_n 0, 1) := by decide +kernel
theorem dX0_empty_6 : decode cX0_empty 6 = .ok (.iload_n 2, 1) := by decide +kernel
theorem dX0_empty_7 : decode cX0_empty 7 = .ok (.putfield 35, 3) := by decide +kernel
theorem dX0_empty_10 : decode cX0_empty 10 = .ok (.aload_n 0, 1) := by decide +kernel
theorem dX0_empty_11 : decode cX0_empty 11 = .ok (.iconst 0, 1) := by decide +kernel
theorem dX0_empty_12 : decode cX0_empty 12 = .ok (.putfield 38, 3) := by decide +kernel
theorem dX0_empty_15 : decode cX0_empty 15 = .ok (.aload_n 0, 1) := by decide +kernel
theorem dX0_empty_16 : decode cX0_empty 16 = .ok (.iconst 0, 1) := by decide +kernel
theorem dX0_empty_17 : decode cX0_empty 17 = .ok (.putfield 41, 3) := by decide +kernel
theorem dX0_empty_20 : decode cX0_empty 20 = .ok (.aload_n 0, 1) := by decide +kernel
theorem dX0_empty_21 : decode cX0_empty 21 = .ok (.bipush (-9), 2) := by decide +kernel
theorem dX0_empty_23 : decode cX0_empty 23 = .ok (.putfield 60, 3) := by decide +kernel
theorem dX0_empty_26 : decode cX0_empty 26 = .ok (.aload_n 0, 1) := by decide +kernel
theorem dX0_empty_27 : decode cX0_empty 27 = .ok (.bipush (-9), 2) := by decide +kernel
theorem dX0_empty_29 : decode cX0_empty 29 = .ok (.putfield 63, 3) := by decide +kernel
theorem dX0_empty_32 : decode cX0_empty 32 = .ok (.aload_n 0, 1) := by decide +kernel
theorem dX0_empty_33 : decode cX0_empty 33 = .ok (.invokevirtual 75, 3) := by decide +kernel
theorem dX0_empty_36 : decode cX0_empty 36 = .ok (.aload_n 0, 1) := by decide +kernel
theorem dX0_empty_37 : decode cX0_empty 37 = .ok (.iconst 1, 1) := by decide +kernel
theorem dX0_empty_38 : decode cX0_empty 38 = .ok (.aload_n 0, 1) := by decide +kernel
theorem dX0_empty_39 : decode cX0_empty 39 = .ok (.getfield 32, 3) := by decide +kernel
theorem dX0_empty_42 : decode cX0_empty 42 = .ok (.ishl, 1) := by decide +kernel
theorem dX0_empty_43 : decode cX0_empty 43 = .ok (.iconst 1, 1) := by decide +kernel
theorem dX0_empty_44 : decode cX0_empty 44 = .ok (.isub, 1) := by decide +kernel
theorem dX0_empty_45 : decode cX0_empty 45 = .ok (.putfield 44, 3) := by decide +kernel
theorem dX0_empty_48 : decode cX0_empty 48 = .ok (.aload_n 0, 1) := by decide +kernel
theorem dX0_empty_49 : decode cX0_empty 49 = .ok (.aload_n 0, 1) := by decide +kernel
theorem dX0_empty_50 : decode cX0_empty 50 = .ok (.getfield 44, 3) := by decide +kernel
theorem dX0_empty_53 : decode cX0_empty 53 = .ok (.aload_n 0, 1) := by decide +kernel
theorem dX0_empty_54 : decode cX0_empty 54 = .ok (.getfield 35, 3) := by decide +kernel
theorem dX0_empty_57 : decode cX0_empty 57 = .ok (.iconst 1, 1) := by decide +kernel
theorem dX0_empty_58 : decode cX0_empty 58 = .ok (.isub, 1) := by decide +kernel
theorem dX0_empty_59 : decode cX0_empty 59 = .ok (.aload_n 0, 1) := by decide +kernel
theorem dX0_empty_60 : decode cX0_empty 60 = .ok (.getfield 32, 3) := by decide +kernel
theorem dX0_empty_63 : decode cX0_empty 63 = .ok (.imul, 1) := by decide +kernel
theorem dX0_empty_64 : decode cX0_empty 64 = .ok (.ishl, 1) := by decide +kernel
theorem dX0_empty_65 : decode cX0_empty 65 = .ok (.putfield 50, 3) := by decide +kernel
theorem dX0_empty_68 : decode cX0_empty 68 = .ok (.aload_n 0, 1) := by decide +kernel
theorem dX0_empty_69 : decode cX0_empty 69 = .ok (.iconst 0, 1) := by decide +kernel
theorem dX0_empty_70 : decode cX0_empty 70 = .ok (.putfield 53, 3) := by decide +kernel
theorem dX0_empty_73 : decode cX0_empty 73 = .ok (.iconst 0, 1) := by decide +kernel
theorem dX0_empty_74 : decode cX0_empty 74 = .ok (.istore_n 3, 1) := by decide +kernel
theorem dX0_empty_75 : decode cX0_empty 75 = .ok (.iload_n 3, 1) := by decide +kernel
theorem dX0_empty_76 : decode cX0_empty 76 = .ok (.aload_n 0, 1) := by decide +kernel
theorem dX0_empty_77 : decode cX0_empty 77 = .ok (.getfield 35, 3) := by decide +kernel
theorem dX0_empty_80 : decode cX0_empty 80 = .ok (.if_icmp .ge 26, 3) := by decide +kernel
theorem dX0_empty_83 : decode cX0_empty 83 = .ok (.aload_n 0, 1) := by decide +kernel
theorem dX0_empty_84 : decode cX0_empty 84 = .ok (.dup, 1) := by decide +kernel
theorem dX0_empty_85 : decode cX0_empty 85 = .ok (.getfield 53, 3) := by decide +kernel
theorem dX0_empty_88 : decode cX0_empty 88 = .ok (.iconst 1, 1) := by decide +kernel
theorem dX0_empty_89 : decode cX0_empty 89 = .ok (.iload_n 3, 1) := by decide +kernel
theorem dX0_empty_90 : decode cX0_empty 90 = .ok (.aload_n 0, 1) := by decide +kernel
theorem dX0_empty_91 : decode cX0_empty 91 = .ok (.getfield 32, 3) := by decide +kernel
theorem dX0_empty_94 : decode cX0_empty 94 = .ok (.imul, 1) := by decide +kernel
theorem dX0_empty_95 : decode cX0_empty 95 = .ok (.ishl, 1) := by decide +kernel
theorem dX0_empty_96 : decode cX0_empty 96 = .ok (.ior, 1) := by decide +kernel
theorem dX0_empty_97 : decode cX0_empty 97 = .ok (.putfield 53, 3) := by decide +kernel
theorem dX0_empty_100 : decode cX0_empty 100 = .ok (.iinc 3 1, 3) := by decide +kernel
theorem dX0_empty_103 : decode cX0_empty 103 = .ok (.goto (-28), 3) := by decide +kernel
theorem dX0_empty_106 : decode cX0_empty 106 = .ok (.aload_n 0, 1) := by decide +kernel
theorem dX0_empty_107 : decode cX0_empty 107 = .ok (.aload_n 0, 1) := by decide +kernel
theorem dX0_empty_108 : decode cX0_empty 108 = .ok (.getfield 53, 3) := by decide +kernel
theorem dX0_empty_111 : decode cX0_empty 111 = .ok (.aload_n 0, 1) := by decide +kernel
theorem dX0_empty_112 : decode cX0_empty 112 = .ok (.getfield 32, 3) := by decide +kernel
theorem dX0_empty_115 : decode cX0_empty 115 = .ok (.iconst 1, 1) := by decide +kernel
theorem dX0_empty_116 : decode cX0_empty 116 = .ok (.isub, 1) := by decide +kernel
theorem dX0_empty_117 : decode cX0_empty 117 = .ok (.ishl, 1) := by decide +kernel
theorem dX0_empty_118 : decode cX0_empty 118 = .ok (.putfield 47, 3) := by decide +kernel
theorem dX0_empty_121 : decode cX0_empty 121 = .ok (.return_, 1) := by decide +kernel
theorem dX0_forgetMoves_0 : decode cX0_forgetMoves 0 = .ok (.aload_n 0, 1) := by decide +kernel
theorem dX0_forgetMoves_1 : decode cX0_forgetMoves 1 = .ok (.iconst 0, 1) := by decide +kernel
theorem dX0_forgetMoves_2 : decode cX0_forgetMoves 2 = .ok (.putfield 66, 3) := by decide +kernel
theorem dX0_forgetMoves_5 : decode cX0_forgetMoves 5 = .ok (.aload_n 0, 1) := by decide +kernel
theorem dX0_forgetMoves_6 : decode cX0_forgetMoves 6 = .ok (.iconst 0, 1) := by decide +kernel
theorem dX0_forgetMoves_7 : decode cX0_forgetMoves 7 = .ok (.putfield 69, 3) := by decide +kernel
theorem dX0_forgetMoves_10 : decode cX0_forgetMoves 10 = .ok (.aload_n 0, 1) := by decide +kernel
theorem dX0_forgetMoves_11 : decode cX0_forgetMoves 11 = .ok (.bipush (-9), 2) := by decide +kernel
theorem dX0_forgetMoves_13 : decode cX0_forgetMoves 13 = .ok (.putfield 72, 3) := by decide +kernel
theorem dX0_forgetMoves_16 : decode cX0_forgetMoves 16 = .ok (.return_, 1) := by decide +kernel
theorem dX0_add_0 : decode cX0_add 0 = .ok (.aload_n 0, 1) := by decide +kernel
theorem dX0_add_1 : decode cX0_add 1 = .ok (.getfield 32, 3) := by decide +kernel
theorem dX0_add_4 : decode cX0_add 4 = .ok (.istore_n 2, 1) := by decide +kernel
theorem dX0_add_5 : decode cX0_add 5 = .ok (.iconst 0, 1) := by decide +kernel
theorem dX0_add_6 : decode cX0_add 6 = .ok (.istore_n 3, 1) := by decide +kernel
theorem dX0_add_7 : decode cX0_add 7 = .ok (.aload_n 0, 1) := by decide +kernel
theorem dX0_add_8 : decode cX0_add 8 = .ok (.getfield 35, 3) := by decide +kernel
theorem dX0_add_11 : decode cX0_add 11 = .ok (.istore 4, 2) := by decide +kernel
theorem dX0_add_13 : decode cX0_add 13 = .ok (.iconst 0, 1) := by decide +kernel
theorem dX0_add_14 : decode cX0_add 14 = .ok (.istore 5, 2) := by decide +kernel
theorem dX0_add_16 : decode cX0_add 16 = .ok (.iconst 0, 1) := by decide +kernel
theorem dX0_add_17 : decode cX0_add 17 = .ok (.istore 6, 2) := by decide +kernel
theorem dX0_add_19 : decode cX0_add 19 = .ok (.iload 6, 2) := by decide +kernel
theorem dX0_add_21 : decode cX0_add 21 = .ok (.aload_n 0, 1) := by decide +kernel
theorem dX0_add_22 : decode cX0_add 22 = .ok (.getfield 35, 3) := by decide +kernel
theorem dX0_add_25 : decode cX0_add 25 = .ok (.if_icmp .ge 76, 3) := by decide +kernel
theorem dX0_add_28 : decode cX0_add 28 = .ok (.iconst 0, 1) := by decide +kernel
theorem dX0_add_29 : decode cX0_add 29 = .ok (.istore 7, 2) := by decide +kernel
theorem dX0_add_31 : decode cX0_add 31 = .ok (.iload 7, 2) := by decide +kernel
theorem dX0_add_33 : decode cX0_add 33 = .ok (.aload_n 0, 1) := by decide +kernel
theorem dX0_add_34 : decode cX0_add 34 = .ok (.getfield 32, 3) := by decide +kernel
theorem dX0_add_37 : decode cX0_add 37 = .ok (.if_icmp .ge 58, 3) := by decide +kernel
theorem dX0_add_40 : decode cX0_add 40 = .ok (.iload_n 1, 1) := by decide +kernel
theorem dX0_add_41 : decode cX0_add 41 = .ok (.iload 6, 2) := by decide +kernel
theorem dX0_add_43 : decode cX0_add 43 = .ok (.aload_n 0, 1) := by decide +kernel
theorem dX0_add_44 : decode cX0_add 44 = .ok (.getfield 32, 3) := by decide +kernel
theorem dX0_add_47 : decode cX0_add 47 = .ok (.imul, 1) := by decide +kernel
theorem dX0_add_48 : decode cX0_add 48 = .ok (.iload 7, 2) := by decide +kernel
theorem dX0_add_50 : decode cX0_add 50 = .ok (.iadd, 1) := by decide +kernel
theorem dX0_add_51 : decode cX0_add 51 = .ok (.ishr, 1) := by decide +kernel
theorem dX0_add_52 : decode cX0_add 52 = .ok (.iconst 1, 1) := by decide +kernel
theorem dX0_add_53 : decode cX0_add 53 = .ok (.iand, 1) := by decide +kernel
theorem dX0_add_54 : decode cX0_add 54 = .ok (.ifCond .eq 35, 3) := by decide +kernel
theorem dX0_add_57 : decode cX0_add 57 = .ok (.iload_n 2, 1) := by decide +kernel
theorem dX0_add_58 : decode cX0_add 58 = .ok (.iload 7, 2) := by decide +kernel
theorem dX0_add_60 : decode cX0_add 60 = .ok (.invokestatic 78, 3) := by decide +kernel
theorem dX0_add_63 : decode cX0_add 63 = .ok (.istore_n 2, 1) := by decide +kernel
theorem dX0_add_64 : decode cX0_add 64 = .ok (.iload_n 3, 1) := by decide +kernel
theorem dX0_add_65 : decode cX0_add 65 = .ok (.iload 7, 2) := by decide +kernel
theorem dX0_add_67 : decode cX0_add 67 = .ok (.invokestatic 84, 3) := by decide +kernel
theorem dX0_add_70 : decode cX0_add 70 = .ok (.istore_n 3, 1) := by decide +kernel
theorem dX0_add_71 : decode cX0_add 71 = .ok (.iload 4, 2) := by decide +kernel
theorem dX0_add_73 : decode cX0_add 73 = .ok (.iload 6, 2) := by decide +kernel
theorem dX0_add_75 : decode cX0_add 75 = .ok (.invokestatic 78, 3) := by decide +kernel
theorem dX0_add_78 : decode cX0_add 78 = .ok (.istore 4, 2) := by decide +kernel
theorem dX0_add_80 : decode cX0_add 80 = .ok (.iload 5, 2) := by decide +kernel
theorem dX0_add_82 : decode cX0_add 82 = .ok (.iload 6, 2) := by decide +kernel
theorem dX0_add_84 : decode cX0_add 84 = .ok (.invokestatic 84, 3) := by decide +kernel
theorem dX0_add_87 : decode cX0_add 87 = .ok (.istore 5, 2) := by decide +kernel
theorem dX0_add_89 : decode cX0_add 89 = .ok (.iinc 7 1, 3) := by decide +kernel
theorem dX0_add_92 : decode cX0_add 92 = .ok (.goto (-61), 3) := by decide +kernel
theorem dX0_add_95 : decode cX0_add 95 = .ok (.iinc 6 1, 3) := by decide +kernel
theorem dX0_add_98 : decode cX0_add 98 = .ok (.goto (-79), 3) := by decide +kernel
theorem dX0_add_101 : decode cX0_add 101 = .ok (.iload 4, 2) := by decide +kernel
theorem dX0_add_103 : decode cX0_add 103 = .ok (.aload_n 0, 1) := by decide +kernel
theorem dX0_add_104 : decode cX0_add 104 = .ok (.getfield 32, 3) := by decide +kernel
theorem dX0_add_107 : decode cX0_add 107 = .ok (.imul, 1) := by decide +kernel
theorem dX0_add_108 : decode cX0_add 108 = .ok (.iload_n 2, 1) := by decide +kernel
theorem dX0_add_109 : decode cX0_add 109 = .ok (.iadd, 1) := by decide +kernel
theorem dX0_add_110 : decode cX0_add 110 = .ok (.istore 6, 2) := by decide +kernel
theorem dX0_add_112 : decode cX0_add 112 = .ok (.aload_n 0, 1) := by decide +kernel
theorem dX0_add_113 : decode cX0_add 113 = .ok (.getfield 25, 3) := by decide +kernel
theorem dX0_add_116 : decode cX0_add 116 = .ok (.aload_n 0, 1) := by decide +kernel
theorem dX0_add_117 : decode cX0_add 117 = .ok (.getfield 41, 3) := by decide +kernel
theorem dX0_add_120 : decode cX0_add 120 = .ok (.iload 6, 2) := by decide +kernel
theorem dX0_add_122 : decode cX0_add 122 = .ok (.invokestatic 87, 3) := by decide +kernel
theorem dX0_add_125 : decode cX0_add 125 = .ok (.aload_n 0, 1) := by decide +kernel
theorem dX0_add_126 : decode cX0_add 126 = .ok (.getfield 15, 3) := by decide +kernel
theorem dX0_add_129 : decode cX0_add 129 = .ok (.aload_n 0, 1) := by decide +kernel
theorem dX0_add_130 : decode cX0_add 130 = .ok (.getfield 41, 3) := by decide +kernel
theorem dX0_add_133 : decode cX0_add 133 = .ok (.iload_n 1, 1) := by decide +kernel
theorem dX0_add_134 : decode cX0_add 134 = .ok (.iload 6, 2) := by decide +kernel
theorem dX0_add_136 : decode cX0_add 136 = .ok (.iushr, 1) := by decide +kernel
theorem dX0_add_137 : decode cX0_add 137 = .ok (.invokestatic 87, 3) := by decide +kernel
theorem dX0_add_140 : decode cX0_add 140 = .ok (.aload_n 0, 1) := by decide +kernel
theorem dX0_add_141 : decode cX0_add 141 = .ok (.getfield 19, 3) := by decide +kernel
theorem dX0_add_144 : decode cX0_add 144 = .ok (.aload_n 0, 1) := by decide +kernel
theorem dX0_add_145 : decode cX0_add 145 = .ok (.getfield 41, 3) := by decide +kernel
theorem dX0_add_148 : decode cX0_add 148 = .ok (.iload_n 3, 1) := by decide +kernel
theorem dX0_add_149 : decode cX0_add 149 = .ok (.iload_n 2, 1) := by decide +kernel
theorem dX0_add_150 : decode cX0_add 150 = .ok (.isub, 1) := by decide +kernel
theorem dX0_add_151 : decode cX0_add 151 = .ok (.iconst 1, 1) := by decide +kernel
theorem dX0_add_152 : decode cX0_add 152 = .ok (.iadd, 1) := by decide +kernel
theorem dX0_add_153 : decode cX0_add 153 = .ok (.invokestatic 87, 3) := by decide +kernel
theorem dX0_add_156 : decode cX0_add 156 = .ok (.aload_n 0, 1) := by decide +kernel
theorem dX0_add_157 : decode cX0_add 157 = .ok (.getfield 22, 3) := by decide +kernel
theorem dX0_add_160 : decode cX0_add 160 = .ok (.aload_n 0, 1) := by decide +kernel
theorem dX0_add_161 : decode cX0_add 161 = .ok (.getfield 41, 3) := by decide +kernel
theorem dX0_add_164 : decode cX0_add 164 = .ok (.iload 5, 2) := by decide +kernel
theorem dX0_add_166 : decode cX0_add 166 = .ok (.iload 4, 2) := by decide +kernel
theorem dX0_add_168 : decode cX0_add 168 = .ok (.isub, 1) := by decide +kernel
theorem dX0_add_169 : decode cX0_add 169 = .ok (.iconst 1, 1) := by decide +kernel
theorem dX0_add_170 : decode cX0_add 170 = .ok (.iadd, 1) := by decide +kernel
theorem dX0_add_171 : decode cX0_add 171 = .ok (.invokestatic 87, 3) := by decide +kernel
theorem dX0_add_174 : decode cX0_add 174 = .ok (.aload_n 0, 1) := by decide +kernel
theorem dX0_add_175 : decode cX0_add 175 = .ok (.dup, 1) := by decide +kernel
theorem dX0_add_176 : decode cX0_add 176 = .ok (.getfield 41, 3) := by decide +kernel
theorem dX0_add_179 : decode cX0_add 179 = .ok (.iconst 1, 1) := by decide +kernel
theorem dX0_add_180 : decode cX0_add 180 = .ok (.iadd, 1) := by decide +kernel
theorem dX0_add_181 : decode cX0_add 181 = .ok (.putfield 41, 3) := by decide +kernel
theorem dX0_add_184 : decode cX0_add 184 = .ok (.return_, 1) := by decide +kernel
theorem dX0_isJoined_0 : decode cX0_isJoined 0 = .ok (.iload_n 1, 1) := by decide +kernel
theorem dX0_isJoined_1 : decode cX0_isJoined 1 = .ok (.iload_n 1, 1) := by decide +kernel
theorem dX0_isJoined_2 : decode cX0_isJoined 2 = .ok (.ineg, 1) := by decide +kernel
theorem dX0_isJoined_3 : decode cX0_isJoined 3 = .ok (.iand, 1) := by decide +kernel
theorem dX0_isJoined_4 : decode cX0_isJoined 4 = .ok (.istore_n 2, 1) := by decide +kernel
theorem dX0_isJoined_5 : decode cX0_isJoined 5 = .ok (.iconst 0, 1) := by decide +kernel
theorem dX0_isJoined_6 : decode cX0_isJoined 6 = .ok (.istore_n 3, 1) := by decide +kernel
theorem dX0_isJoined_7 : decode cX0_isJoined 7 = .ok (.iload_n 3, 1) := by decide +kernel
theorem dX0_isJoined_8 : decode cX0_isJoined 8 = .ok (.bipush 24, 2) := by decide +kernel
theorem dX0_isJoined_10 : decode cX0_isJoined 10 = .ok (.if_icmp .ge 57, 3) := by decide +kernel
theorem dX0_isJoined_13 : decode cX0_isJoined 13 = .ok (.iload_n 2, 1) := by decide +kernel
theorem dX0_isJoined_14 : decode cX0_isJoined 14 = .ok (.aload_n 0, 1) := by decide +kernel
theorem dX0_isJoined_15 : decode cX0_isJoined 15 = .ok (.getfield 47, 3) := by decide +kernel
theorem dX0_isJoined_18 : decode cX0_isJoined 18 = .ok (.iconst (-1), 1) := by decide +kernel
theorem dX0_isJoined_19 : decode cX0_isJoined 19 = .ok (.ixor, 1) := by decide +kernel
theorem dX0_isJoined_20 : decode cX0_isJoined 20 = .ok (.iand, 1) := by decide +kernel
theorem dX0_isJoined_21 : decode cX0_isJoined 21 = .ok (.iconst 1, 1) := by decide +kernel
theorem dX0_isJoined_22 : decode cX0_isJoined 22 = .ok (.ishl, 1) := by decide +kernel
theorem dX0_isJoined_23 : decode cX0_isJoined 23 = .ok (.istore 4, 2) := by decide +kernel
theorem dX0_isJoined_25 : decode cX0_isJoined 25 = .ok (.iload_n 2, 1) := by decide +kernel
theorem dX0_isJoined_26 : decode cX0_isJoined 26 = .ok (.aload_n 0, 1) := by decide +kernel
theorem dX0_isJoined_27 : decode cX0_isJoined 27 = .ok (.getfield 53, 3) := by decide +kernel
theorem dX0_isJoined_30 : decode cX0_isJoined 30 = .ok (.iconst (-1), 1) := by decide +kernel
theorem dX0_isJoined_31 : decode cX0_isJoined 31 = .ok (.ixor, 1) := by decide +kernel
theorem dX0_isJoined_32 : decode cX0_isJoined 32 = .ok (.iand, 1) := by decide +kernel
theorem dX0_isJoined_33 : decode cX0_isJoined 33 = .ok (.iconst 1, 1) := by decide +kernel
theorem dX0_isJoined_34 : decode cX0_isJoined 34 = .ok (.iushr, 1) := by decide +kernel
theorem dX0_isJoined_35 : decode cX0_isJoined 35 = .ok (.istore 5, 2) := by decide +kernel
theorem dX0_isJoined_37 : decode cX0_isJoined 37 = .ok (.iload_n 2, 1) := by decide +kernel
theorem dX0_isJoined_38 : decode cX0_isJoined 38 = .ok (.iload 4, 2) := by decide +kernel
theorem dX0_isJoined_40 : decode cX0_isJoined 40 = .ok (.ior, 1) := by decide +kernel
theorem dX0_isJoined_41 : decode cX0_isJoined 41 = .ok (.iload 5, 2) := by decide +kernel
theorem dX0_isJoined_43 : decode cX0_isJoined 43 = .ok (.ior, 1) := by decide +kernel
theorem dX0_isJoined_44 : decode cX0_isJoined 44 = .ok (.iload_n 2, 1) := by decide +kernel
theorem dX0_isJoined_45 : decode cX0_isJoined 45 = .ok (.aload_n 0, 1) := by decide +kernel
theorem dX0_isJoined_46 : decode cX0_isJoined 46 = .ok (.getfield 32, 3) := by decide +kernel
theorem dX0_isJoined_49 : decode cX0_isJoined 49 = .ok (.ishl, 1) := by decide +kernel
theorem dX0_isJoined_50 : decode cX0_isJoined 50 = .ok (.ior, 1) := by decide +kernel
theorem dX0_isJoined_51 : decode cX0_isJoined 51 = .ok (.iload_n 2, 1) := by decide +kernel
theorem dX0_isJoined_52 : decode cX0_isJoined 52 = .ok (.aload_n 0, 1) := by decide +kernel
theorem dX0_isJoined_53 : decode cX0_isJoined 53 = .ok (.getfield 32, 3) := by decide +kernel
theorem dX0_isJoined_56 : decode cX0_isJoined 56 = .ok (.iushr, 1) := by decide +kernel
theorem dX0_isJoined_57 : decode cX0_isJoined 57 = .ok (.ior, 1) := by decide +kernel
theorem dX0_isJoined_58 : decode cX0_isJoined 58 = .ok (.iload_n 1, 1) := by decide +kernel
theorem dX0_isJoined_59 : decode cX0_isJoined 59 = .ok (.iand, 1) := by decide +kernel
theorem dX0_isJoined_60 : decode cX0_isJoined 60 = .ok (.istore_n 2, 1) := by decide +kernel
theorem dX0_isJoined_61 : decode cX0_isJoined 61 = .ok (.iinc 3 1, 3) := by decide +kernel
theorem dX0_isJoined_64 : decode cX0_isJoined 64 = .ok (.goto (-57), 3) := by decide +kernel
theorem dX0_isJoined_67 : decode cX0_isJoined 67 = .ok (.iload_n 2, 1) := by decide +kernel
theorem dX0_isJoined_68 : decode cX0_isJoined 68 = .ok (.iload_n 1, 1) := by decide +kernel
theorem dX0_isJoined_69 : decode cX0_isJoined 69 = .ok (.if_icmp .ne 7, 3) := by decide +kernel
theorem dX0_isJoined_72 : decode cX0_isJoined 72 = .ok (.iconst 1, 1) := by decide +kernel
theorem dX0_isJoined_73 : decode cX0_isJoined 73 = .ok (.goto 4, 3) := by decide +kernel
theorem dX0_isJoined_76 : decode cX0_isJoined 76 = .ok (.iconst 0, 1) := by decide +kernel
theorem dX0_isJoined_77 : decode cX0_isJoined 77 = .ok (.ireturn, 1) := by decide +kernel
theorem dX0_has_0 : decode cX0_has 0 = .ok (.iload_n 1, 1) := by decide +kernel
theorem dX0_has_1 : decode cX0_has 1 = .ok (.ifCond .lt 15, 3) := by decide +kernel
theorem dX0_has_4 : decode cX0_has 4 = .ok (.iload_n 1, 1) := by decide +kernel
theorem dX0_has_5 : decode cX0_has 5 = .ok (.aload_n 0, 1) := by decide +kernel
theorem dX0_has_6 : decode cX0_has 6 = .ok (.getfield 41, 3) := by decide +kernel
theorem dX0_has_9 : decode cX0_has 9 = .ok (.if_icmp .ge 7, 3) := by decide +kernel
theorem dX0_has_12 : decode cX0_has 12 = .ok (.iconst 1, 1) := by decide +kernel
theorem dX0_has_13 : decode cX0_has 13 = .ok (.goto 4, 3) := by decide +kernel
theorem dX0_has_16 : decode cX0_has 16 = .ok (.iconst 0, 1) := by decide +kernel
theorem dX0_has_17 : decode cX0_has 17 = .ok (.ireturn, 1) := by decide +kernel
theorem dX0_hasCell_0 : decode cX0_hasCell 0 = .ok (.iload_n 1, 1) := by decide +kernel
theorem dX0_hasCell_1 : decode cX0_hasCell 1 = .ok (.ifCond .lt 20, 3) := by decide +kernel
theorem dX0_hasCell_4 : decode cX0_hasCell 4 = .ok (.iload_n 1, 1) := by decide +kernel
theorem dX0_hasCell_5 : decode cX0_hasCell 5 = .ok (.aload_n 0, 1) := by decide +kernel
theorem dX0_hasCell_6 : decode cX0_hasCell 6 = .ok (.getfield 32, 3) := by decide +kernel
theorem dX0_hasCell_9 : decode cX0_hasCell 9 = .ok (.aload_n 0, 1) := by decide +kernel
theorem dX0_hasCell_10 : decode cX0_hasCell 10 = .ok (.getfield 35, 3) := by decide +kernel
theorem dX0_hasCell_13 : decode cX0_hasCell 13 = .ok (.imul, 1) := by decide +kernel
theorem dX0_hasCell_14 : decode cX0_hasCell 14 = .ok (.if_icmp .ge 7, 3) := by decide +kernel
theorem dX0_hasCell_17 : decode cX0_hasCell 17 = .ok (.iconst 1, 1) := by decide +kernel
theorem dX0_hasCell_18 : decode cX0_hasCell 18 = .ok (.goto 4, 3) := by decide +kernel
theorem dX0_hasCell_21 : decode cX0_hasCell 21 = .ok (.iconst 0, 1) := by decide +kernel
theorem dX0_hasCell_22 : decode cX0_hasCell 22 = .ok (.ireturn, 1) := by decide +kernel
theorem dX0_fits_0 : decode cX0_fits 0 = .ok (.aload_n 0, 1) := by decide +kernel
theorem dX0_fits_1 : decode cX0_fits 1 = .ok (.iload_n 2, 1) := by decide +kernel
theorem dX0_fits_2 : decode cX0_fits 2 = .ok (.invokevirtual 91, 3) := by decide +kernel
theorem dX0_fits_5 : decode cX0_fits 5 = .ok (.ifCond .eq 11, 3) := by decide +kernel
theorem dX0_fits_8 : decode cX0_fits 8 = .ok (.aload_n 0, 1) := by decide +kernel
theorem dX0_fits_9 : decode cX0_fits 9 = .ok (.getfield 32, 3) := by decide +kernel
theorem dX0_fits_12 : decode cX0_fits 12 = .ok (.iconst 1, 1) := by decide +kernel
theorem dX0_fits_13 : decode cX0_fits 13 = .ok (.if_icmp .ge 5, 3) := by decide +kernel
theorem dX0_fits_16 : decode cX0_fits 16 = .ok (.iconst 0, 1) := by decide +kernel
theorem dX0_fits_17 : decode cX0_fits 17 = .ok (.ireturn, 1) := by decide +kernel
theorem dX0_fits_18 : decode cX0_fits 18 = .ok (.iload_n 2, 1) := by decide +kernel
theorem dX0_fits_19 : decode cX0_fits 19 = .ok (.aload_n 0, 1) := by decide +kernel
theorem dX0_fits_20 : decode cX0_fits 20 = .ok (.getfield 32, 3) := by decide +kernel
theorem dX0_fits_23 : decode cX0_fits 23 = .ok (.irem, 1) := by decide +kernel
theorem dX0_fits_24 : decode cX0_fits 24 = .ok (.aload_n 0, 1) := by decide +kernel
theorem dX0_fits_25 : decode cX0_fits 25 = .ok (.getfield 19, 3) := by decide +kernel
theorem dX0_fits_28 : decode cX0_fits 28 = .ok (.iload_n 1, 1) := by decide +kernel
theorem dX0_fits_29 : decode cX0_fits 29 = .ok (.invokestatic 95, 3) := by decide +kernel
theorem dX0_fits_32 : decode cX0_fits 32 = .ok (.iadd, 1) := by decide +kernel
theorem dX0_fits_33 : decode cX0_fits 33 = .ok (.aload_n 0, 1) := by decide +kernel
theorem dX0_fits_34 : decode cX0_fits 34 = .ok (.getfield 32, 3) := by decide +kernel
theorem dX0_fits_37 : decode cX0_fits 37 = .ok (.if_icmp .gt 29, 3) := by decide +kernel
theorem dX0_fits_40 : decode cX0_fits 40 = .ok (.iload_n 2, 1) := by decide +kernel
theorem dX0_fits_41 : decode cX0_fits 41 = .ok (.aload_n 0, 1) := by decide +kernel
theorem dX0_fits_42 : decode cX0_fits 42 = .ok (.getfield 32, 3) := by decide +kernel
theorem dX0_fits_45 : decode cX0_fits 45 = .ok (.idiv, 1) := by decide +kernel
theorem dX0_fits_46 : decode cX0_fits 46 = .ok (.aload_n 0, 1) := by decide +kernel
theorem dX0_fits_47 : decode cX0_fits 47 = .ok (.getfield 22, 3) := by decide +kernel
theorem dX0_fits_50 : decode cX0_fits 50 = .ok (.iload_n 1, 1) := by decide +kernel
theorem dX0_fits_51 : decode cX0_fits 51 = .ok (.invokestatic 95, 3) := by decide +kernel
theorem dX0_fits_54 : decode cX0_fits 54 = .ok (.iadd, 1) := by decide +kernel
theorem dX0_fits_55 : decode cX0_fits 55 = .ok (.aload_n 0, 1) := by decide +kernel
theorem dX0_fits_56 : decode cX0_fits 56 = .ok (.getfield 35, 3) := by decide +kernel
theorem dX0_fits_59 : decode cX0_fits 59 = .ok (.if_icmp .gt 7, 3) := by decide +kernel
theorem dX0_fits_62 : decode cX0_fits 62 = .ok (.iconst 1, 1) := by decide +kernel
theorem dX0_fits_63 : decode cX0_fits 63 = .ok (.goto 4, 3) := by decide +kernel
theorem dX0_fits_66 : decode cX0_fits 66 = .ok (.iconst 0, 1) := by decide +kernel
theorem dX0_fits_67 : decode cX0_fits 67 = .ok (.ireturn, 1) := by decide +kernel
theorem dX0_atGoal_0 : decode cX0_atGoal 0 = .ok (.aload_n 0, 1) := by decide +kernel
theorem dX0_atGoal_1 : decode cX0_atGoal 1 = .ok (.getfield 60, 3) := by decide +kernel
theorem dX0_atGoal_4 : decode cX0_atGoal 4 = .ok (.bipush (-9), 2) := by decide +kernel
theorem dX0_atGoal_6 : decode cX0_atGoal 6 = .ok (.if_icmp .eq 25, 3) := by decide +kernel
theorem dX0_atGoal_9 : decode cX0_atGoal 9 = .ok (.aload_n 0, 1) := by decide +kernel
theorem dX0_atGoal_10 : decode cX0_atGoal 10 = .ok (.getfield 25, 3) := by decide +kernel
theorem dX0_atGoal_13 : decode cX0_atGoal 13 = .ok (.aload_n 0, 1) := by decide +kernel
theorem dX0_atGoal_14 : decode cX0_atGoal 14 = .ok (.getfield 60, 3) := by decide +kernel
theorem dX0_atGoal_17 : decode cX0_atGoal 17 = .ok (.invokestatic 95, 3) := by decide +kernel
theorem dX0_atGoal_20 : decode cX0_atGoal 20 = .ok (.aload_n 0, 1) := by decide +kernel
theorem dX0_atGoal_21 : decode cX0_atGoal 21 = .ok (.getfield 63, 3) := by decide +kernel
theorem dX0_atGoal_24 : decode cX0_atGoal 24 = .ok (.if_icmp .ne 7, 3) := by decide +kernel
theorem dX0_atGoal_27 : decode cX0_atGoal 27 = .ok (.iconst 1, 1) := by decide +kernel
theorem dX0_atGoal_28 : decode cX0_atGoal 28 = .ok (.goto 4, 3) := by decide +kernel
theorem dX0_atGoal_31 : decode cX0_atGoal 31 = .ok (.iconst 0, 1) := by decide +kernel
theorem dX0_atGoal_32 : decode cX0_atGoal 32 = .ok (.ireturn, 1) := by decide +kernel
theorem dX0_cellsOf_0 : decode cX0_cellsOf 0 = .ok (.aload_n 0, 1) := by decide +kernel
theorem dX0_cellsOf_1 : decode cX0_cellsOf 1 = .ok (.getfield 15, 3) := by decide +kernel
theorem dX0_cellsOf_4 : decode cX0_cellsOf 4 = .ok (.iload_n 1, 1) := by decide +kernel
theorem dX0_cellsOf_5 : decode cX0_cellsOf 5 = .ok (.invokestatic 95, 3) := by decide +kernel
theorem dX0_cellsOf_8 : decode cX0_cellsOf 8 = .ok (.aload_n 0, 1) := by decide +kernel
theorem dX0_cellsOf_9 : decode cX0_cellsOf 9 = .ok (.getfield 25, 3) := by decide +kernel
theorem dX0_cellsOf_12 : decode cX0_cellsOf 12 = .ok (.iload_n 1, 1) := by decide +kernel
theorem dX0_cellsOf_13 : decode cX0_cellsOf 13 = .ok (.invokestatic 95, 3) := by decide +kernel
theorem dX0_cellsOf_16 : decode cX0_cellsOf 16 = .ok (.ishl, 1) := by decide +kernel
theorem dX0_cellsOf_17 : decode cX0_cellsOf 17 = .ok (.ireturn, 1) := by decide +kernel
theorem dX0_taken_0 : decode cX0_taken 0 = .ok (.aload_n 0, 1) := by decide +kernel
theorem dX0_taken_1 : decode cX0_taken 1 = .ok (.getfield 38, 3) := by decide +kernel
theorem dX0_taken_4 : decode cX0_taken 4 = .ok (.istore_n 1, 1) := by decide +kernel
theorem dX0_taken_5 : decode cX0_taken 5 = .ok (.iconst 0, 1) := by decide +kernel
theorem dX0_taken_6 : decode cX0_taken 6 = .ok (.istore_n 2, 1) := by decide +kernel
theorem dX0_taken_7 : decode cX0_taken 7 = .ok (.iload_n 2, 1) := by decide +kernel
theorem dX0_taken_8 : decode cX0_taken 8 = .ok (.aload_n 0, 1) := by decide +kernel
theorem dX0_taken_9 : decode cX0_taken 9 = .ok (.getfield 41, 3) := by decide +kernel
theorem dX0_taken_12 : decode cX0_taken 12 = .ok (.if_icmp .ge 17, 3) := by decide +kernel
theorem dX0_taken_15 : decode cX0_taken 15 = .ok (.iload_n 1, 1) := by decide +kernel
theorem dX0_taken_16 : decode cX0_taken 16 = .ok (.aload_n 0, 1) := by decide +kernel
theorem dX0_taken_17 : decode cX0_taken 17 = .ok (.iload_n 2, 1) := by decide +kernel
theorem dX0_taken_18 : decode cX0_taken 18 = .ok (.invokevirtual 99, 3) := by decide +kernel
theorem dX0_taken_21 : decode cX0_taken 21 = .ok (.ior, 1) := by decide +kernel
theorem dX0_taken_22 : decode cX0_taken 22 = .ok (.istore_n 1, 1) := by decide +kernel
theorem dX0_taken_23 : decode cX0_taken 23 = .ok (.iinc 2 1, 3) := by decide +kernel
theorem dX0_taken_26 : decode cX0_taken 26 = .ok (.goto (-19), 3) := by decide +kernel
theorem dX0_taken_29 : decode cX0_taken 29 = .ok (.iload_n 1, 1) := by decide +kernel
theorem dX0_taken_30 : decode cX0_taken 30 = .ok (.ireturn, 1) := by decide +kernel
theorem dX0_firstAlike_0 : decode cX0_firstAlike 0 = .ok (.iconst 0, 1) := by decide +kernel
theorem dX0_firstAlike_1 : decode cX0_firstAlike 1 = .ok (.istore_n 2, 1) := by decide +kernel
theorem dX0_firstAlike_2 : decode cX0_firstAlike 2 = .ok (.iload_n 2, 1) := by decide +kernel
theorem dX0_firstAlike_3 : decode cX0_firstAlike 3 = .ok (.iload_n 1, 1) := by decide +kernel
theorem dX0_firstAlike_4 : decode cX0_firstAlike 4 = .ok (.if_icmp .ge 30, 3) := by decide +kernel
theorem dX0_firstAlike_7 : decode cX0_firstAlike 7 = .ok (.aload_n 0, 1) := by decide +kernel
theorem dX0_firstAlike_8 : decode cX0_firstAlike 8 = .ok (.getfield 15, 3) := by decide +kernel
theorem dX0_firstAlike_11 : decode cX0_firstAlike 11 = .ok (.iload_n 2, 1) := by decide +kernel
theorem dX0_firstAlike_12 : decode cX0_firstAlike 12 = .ok (.invokestatic 95, 3) := by decide +kernel
theorem dX0_firstAlike_15 : decode cX0_firstAlike 15 = .ok (.aload_n 0, 1) := by decide +kernel
theorem dX0_firstAlike_16 : decode cX0_firstAlike 16 = .ok (.getfield 15, 3) := by decide +kernel
theorem dX0_firstAlike_19 : decode cX0_firstAlike 19 = .ok (.iload_n 1, 1) := by decide +kernel
theorem dX0_firstAlike_20 : decode cX0_firstAlike 20 = .ok (.invokestatic 95, 3) := by decide +kernel
theorem dX0_firstAlike_23 : decode cX0_firstAlike 23 = .ok (.if_icmp .ne 5, 3) := by decide +kernel
theorem dX0_firstAlike_26 : decode cX0_firstAlike 26 = .ok (.iload_n 2, 1) := by decide +kernel
theorem dX0_firstAlike_27 : decode cX0_firstAlike 27 = .ok (.ireturn, 1) := by decide +kernel
theorem dX0_firstAlike_28 : decode cX0_firstAlike 28 = .ok (.iinc 2 1, 3) := by decide +kernel
theorem dX0_firstAlike_31 : decode cX0_firstAlike 31 = .ok (.goto (-29), 3) := by decide +kernel
theorem dX0_firstAlike_34 : decode cX0_firstAlike 34 = .ok (.iload_n 1, 1) := by decide +kernel
theorem dX0_firstAlike_35 : decode cX0_firstAlike 35 = .ok (.ireturn, 1) := by decide +kernel
theorem dX0_offset_0 : decode cX0_offset 0 = .ok (.iload_n 1, 1) := by decide +kernel
theorem dX0_offset_1 : decode cX0_offset 1 = .ok (.tableswitch 40 0 2 #[27, 33, 35], 27) := by decide +kernel
theorem dX0_offset_28 : decode cX0_offset 28 = .ok (.aload_n 0, 1) := by decide +kernel
theorem dX0_offset_29 : decode cX0_offset 29 = .ok (.getfield 32, 3) := by decide +kernel
theorem dX0_offset_32 : decode cX0_offset 32 = .ok (.ineg, 1) := by decide +kernel
theorem dX0_offset_33 : decode cX0_offset 33 = .ok (.ireturn, 1) := by decide +kernel
theorem dX0_offset_34 : decode cX0_offset 34 = .ok (.iconst 1, 1) := by decide +kernel
theorem dX0_offset_35 : decode cX0_offset 35 = .ok (.ireturn, 1) := by decide +kernel
theorem dX0_offset_36 : decode cX0_offset 36 = .ok (.aload_n 0, 1) := by decide +kernel
theorem dX0_offset_37 : decode cX0_offset 37 = .ok (.getfield 32, 3) := by decide +kernel
theorem dX0_offset_40 : decode cX0_offset 40 = .ok (.ireturn, 1) := by decide +kernel
theorem dX0_offset_41 : decode cX0_offset 41 = .ok (.iconst (-1), 1) := by decide +kernel
theorem dX0_offset_42 : decode cX0_offset 42 = .ok (.ireturn, 1) := by decide +kernel
theorem dX0_directions_0 : decode cX0_directions 0 = .ok (.iconst 0, 1) := by decide +kernel
theorem dX0_directions_1 : decode cX0_directions 1 = .ok (.istore_n 3, 1) := by decide +kernel
theorem dX0_directions_2 : decode cX0_directions 2 = .ok (.iload_n 1, 1) := by decide +kernel
theorem dX0_directions_3 : decode cX0_directions 3 = .ok (.aload_n 0, 1) := by decide +kernel
theorem dX0_directions_4 : decode cX0_directions 4 = .ok (.getfield 44, 3) := by decide +kernel
theorem dX0_directions_7 : decode cX0_directions 7 = .ok (.iand, 1) := by decide +kernel
theorem dX0_directions_8 : decode cX0_directions 8 = .ok (.ifCond .ne 18, 3) := by decide +kernel
theorem dX0_directions_11 : decode cX0_directions 11 = .ok (.iload_n 1, 1) := by decide +kernel
theorem dX0_directions_12 : decode cX0_directions 12 = .ok (.aload_n 0, 1) := by decide +kernel
theorem dX0_directions_13 : decode cX0_directions 13 = .ok (.getfield 32, 3) := by decide +kernel
theorem dX0_directions_16 : decode cX0_directions 16 = .ok (.iushr, 1) := by decide +kernel
theorem dX0_directions_17 : decode cX0_directions 17 = .ok (.iload_n 2, 1) := by decide +kernel
theorem dX0_directions_18 : decode cX0_directions 18 = .ok (.iand, 1) := by decide +kernel
theorem dX0_directions_19 : decode cX0_directions 19 = .ok (.ifCond .ne 7, 3) := by decide +kernel
theorem dX0_directions_22 : decode cX0_directions 22 = .ok (.iload_n 3, 1) := by decide +kernel
theorem dX0_directions_23 : decode cX0_directions 23 = .ok (.iconst 1, 1) := by decide +kernel
theorem dX0_directions_24 : decode cX0_directions 24 = .ok (.ior, 1) := by decide +kernel
theorem dX0_directions_25 : decode cX0_directions 25 = .ok (.istore_n 3, 1) := by decide +kernel
theorem dX0_directions_26 : decode cX0_directions 26 = .ok (.iload_n 1, 1) := by decide +kernel
theorem dX0_directions_27 : decode cX0_directions 27 = .ok (.aload_n 0, 1) := by decide +kernel
theorem dX0_directions_28 : decode cX0_directions 28 = .ok (.getfield 47, 3) := by decide +kernel
theorem dX0_directions_31 : decode cX0_directions 31 = .ok (.iand, 1) := by decide +kernel
theorem dX0_directions_32 : decode cX0_directions 32 = .ok (.ifCond .ne 15, 3) := by decide +kernel
theorem dX0_directions_35 : decode cX0_directions 35 = .ok (.iload_n 1, 1) := by decide +kernel
theorem dX0_directions_36 : decode cX0_directions 36 = .ok (.iconst 1, 1) := by decide +kernel
theorem dX0_directions_37 : decode cX0_directions 37 = .ok (.ishl, 1) := by decide +kernel
theorem dX0_directions_38 : decode cX0_directions 38 = .ok (.iload_n 2, 1) := by decide +kernel
theorem dX0_directions_39 : decode cX0_directions 39 = .ok (.iand, 1) := by decide +kernel
theorem dX0_directions_40 : decode cX0_directions 40 = .ok (.ifCond .ne 7, 3) := by decide +kernel
theorem dX0_directions_43 : decode cX0_directions 43 = .ok (.iload_n 3, 1) := by decide +kernel
theorem dX0_directions_44 : decode cX0_directions 44 = .ok (.iconst 2, 1) := by decide +kernel
theorem dX0_directions_45 : decode cX0_directions 45 = .ok (.ior, 1) := by decide +kernel
theorem dX0_directions_46 : decode cX0_directions 46 = .ok (.istore_n 3, 1) := by decide +kernel
theorem dX0_directions_47 : decode cX0_directions 47 = .ok (.iload_n 1, 1) := by decide +kernel
theorem dX0_directions_48 : decode cX0_directions 48 = .ok (.aload_n 0, 1) := by decide +kernel
theorem dX0_directions_49 : decode cX0_directions 49 = .ok (.getfield 50, 3) := by decide +kernel
theorem dX0_directions_52 : decode cX0_directions 52 = .ok (.iand, 1) := by decide +kernel
theorem dX0_directions_53 : decode cX0_directions 53 = .ok (.ifCond .ne 18, 3) := by decide +kernel
theorem dX0_directions_56 : decode cX0_directions 56 = .ok (.iload_n 1, 1) := by decide +kernel
theorem dX0_directions_57 : decode cX0_directions 57 = .ok (.aload_n 0, 1) := by decide +kernel
theorem dX0_directions_58 : decode cX0_directions 58 = .ok (.getfield 32, 3) := by decide +kernel
theorem dX0_directions_61 : decode cX0_directions 61 = .ok (.ishl, 1) := by decide +kernel
theorem dX0_directions_62 : decode cX0_directions 62 = .ok (.iload_n 2, 1) := by decide +kernel
theorem dX0_directions_63 : decode cX0_directions 63 = .ok (.iand, 1) := by decide +kernel
theorem dX0_directions_64 : decode cX0_directions 64 = .ok (.ifCond .ne 7, 3) := by decide +kernel
theorem dX0_directions_67 : decode cX0_directions 67 = .ok (.iload_n 3, 1) := by decide +kernel
theorem dX0_directions_68 : decode cX0_directions 68 = .ok (.iconst 4, 1) := by decide +kernel
theorem dX0_directions_69 : decode cX0_directions 69 = .ok (.ior, 1) := by decide +kernel
theorem dX0_directions_70 : decode cX0_directions 70 = .ok (.istore_n 3, 1) := by decide +kernel
theorem dX0_directions_71 : decode cX0_directions 71 = .ok (.iload_n 1, 1) := by decide +kernel
theorem dX0_directions_72 : decode cX0_directions 72 = .ok (.aload_n 0, 1) := by decide +kernel
theorem dX0_directions_73 : decode cX0_directions 73 = .ok (.getfield 53, 3) := by decide +kernel
theorem dX0_directions_76 : decode cX0_directions 76 = .ok (.iand, 1) := by decide +kernel
theorem dX0_directions_77 : decode cX0_directions 77 = .ok (.ifCond .ne 16, 3) := by decide +kernel
theorem dX0_directions_80 : decode cX0_directions 80 = .ok (.iload_n 1, 1) := by decide +kernel
theorem dX0_directions_81 : decode cX0_directions 81 = .ok (.iconst 1, 1) := by decide +kernel
theorem dX0_directions_82 : decode cX0_directions 82 = .ok (.iushr, 1) := by decide +kernel
theorem dX0_directions_83 : decode cX0_directions 83 = .ok (.iload_n 2, 1) := by decide +kernel
theorem dX0_directions_84 : decode cX0_directions 84 = .ok (.iand, 1) := by decide +kernel
theorem dX0_directions_85 : decode cX0_directions 85 = .ok (.ifCond .ne 8, 3) := by decide +kernel
theorem dX0_directions_88 : decode cX0_directions 88 = .ok (.iload_n 3, 1) := by decide +kernel
theorem dX0_directions_89 : decode cX0_directions 89 = .ok (.bipush 8, 2) := by decide +kernel
theorem dX0_directions_91 : decode cX0_directions 91 = .ok (.ior, 1) := by decide +kernel
theorem dX0_directions_92 : decode cX0_directions 92 = .ok (.istore_n 3, 1) := by decide +kernel
theorem dX0_directions_93 : decode cX0_directions 93 = .ok (.iload_n 3, 1) := by decide +kernel
theorem dX0_directions_94 : decode cX0_directions 94 = .ok (.ireturn, 1) := by decide +kernel
theorem dX0_directionsOf_0 : decode cX0_directionsOf 0 = .ok (.aload_n 0, 1) := by decide +kernel
theorem dX0_directionsOf_1 : decode cX0_directionsOf 1 = .ok (.iload_n 1, 1) := by decide +kernel
theorem dX0_directionsOf_2 : decode cX0_directionsOf 2 = .ok (.invokevirtual 99, 3) := by decide +kernel
theorem dX0_directionsOf_5 : decode cX0_directionsOf 5 = .ok (.istore_n 2, 1) := by decide +kernel
theorem dX0_directionsOf_6 : decode cX0_directionsOf 6 = .ok (.aload_n 0, 1) := by decide +kernel
theorem dX0_directionsOf_7 : decode cX0_directionsOf 7 = .ok (.iload_n 2, 1) := by decide +kernel
theorem dX0_directionsOf_8 : decode cX0_directionsOf 8 = .ok (.aload_n 0, 1) := by decide +kernel
theorem dX0_directionsOf_9 : decode cX0_directionsOf 9 = .ok (.invokevirtual 103, 3) := by decide +kernel
theorem dX0_directionsOf_12 : decode cX0_directionsOf 12 = .ok (.iload_n 2, 1) := by decide +kernel
theorem dX0_directionsOf_13 : decode cX0_directionsOf 13 = .ok (.iconst (-1), 1) := by decide +kernel
theorem dX0_directionsOf_14 : decode cX0_directionsOf 14 = .ok (.ixor, 1) := by decide +kernel
theorem dX0_directionsOf_15 : decode cX0_directionsOf 15 = .ok (.iand, 1) := by decide +kernel
theorem dX0_directionsOf_16 : decode cX0_directionsOf 16 = .ok (.invokevirtual 107, 3) := by decide +kernel
theorem dX0_directionsOf_19 : decode cX0_directionsOf 19 = .ok (.ireturn, 1) := by decide +kernel
theorem dX0_move_0 : decode cX0_move 0 = .ok (.aload_n 0, 1) := by decide +kernel
theorem dX0_move_1 : decode cX0_move 1 = .ok (.getfield 25, 3) := by decide +kernel
theorem dX0_move_4 : decode cX0_move 4 = .ok (.iload_n 1, 1) := by decide +kernel
theorem dX0_move_5 : decode cX0_move 5 = .ok (.iload_n 2, 1) := by decide +kernel
theorem dX0_move_6 : decode cX0_move 6 = .ok (.invokestatic 87, 3) := by decide +kernel
theorem dX0_move_9 : decode cX0_move 9 = .ok (.aload_n 0, 1) := by decide +kernel
theorem dX0_move_10 : decode cX0_move 10 = .ok (.dup, 1) := by decide +kernel
theorem dX0_move_11 : decode cX0_move 11 = .ok (.getfield 66, 3) := by decide +kernel
theorem dX0_move_14 : decode cX0_move 14 = .ok (.iload_n 3, 1) := by decide +kernel
theorem dX0_move_15 : decode cX0_move 15 = .ok (.iadd, 1) := by decide +kernel
theorem dX0_move_16 : decode cX0_move 16 = .ok (.putfield 66, 3) := by decide +kernel
theorem dX0_move_19 : decode cX0_move 19 = .ok (.iload 4, 2) := by decide +kernel
theorem dX0_move_21 : decode cX0_move 21 = .ok (.ifCond .ne 11, 3) := by decide +kernel
theorem dX0_move_24 : decode cX0_move 24 = .ok (.aload_n 0, 1) := by decide +kernel
theorem dX0_move_25 : decode cX0_move 25 = .ok (.getfield 72, 3) := by decide +kernel
theorem dX0_move_28 : decode cX0_move 28 = .ok (.iload_n 1, 1) := by decide +kernel
theorem dX0_move_29 : decode cX0_move 29 = .ok (.if_icmp .eq 13, 3) := by decide +kernel
theorem dX0_move_32 : decode cX0_move 32 = .ok (.aload_n 0, 1) := by decide +kernel
theorem dX0_move_33 : decode cX0_move 33 = .ok (.dup, 1) := by decide +kernel
theorem dX0_move_34 : decode cX0_move 34 = .ok (.getfield 69, 3) := by decide +kernel
theorem dX0_move_37 : decode cX0_move 37 = .ok (.iconst 1, 1) := by decide +kernel
theorem dX0_move_38 : decode cX0_move 38 = .ok (.iadd, 1) := by decide +kernel
theorem dX0_move_39 : decode cX0_move 39 = .ok (.putfield 69, 3) := by decide +kernel
theorem dX0_move_42 : decode cX0_move 42 = .ok (.aload_n 0, 1) := by decide +kernel
theorem dX0_move_43 : decode cX0_move 43 = .ok (.iload_n 1, 1) := by decide +kernel
theorem dX0_move_44 : decode cX0_move 44 = .ok (.putfield 72, 3) := by decide +kernel
theorem dX0_move_47 : decode cX0_move 47 = .ok (.return_, 1) := by decide +kernel
theorem dX0_key_0 : decode cX0_key 0 = .ok (.lconst 0, 1) := by decide +kernel
theorem dX0_key_1 : decode cX0_key 1 = .ok (.lstore_n 2, 1) := by decide +kernel
theorem dX0_key_2 : decode cX0_key 2 = .ok (.iconst 0, 1) := by decide +kernel
theorem dX0_key_3 : decode cX0_key 3 = .ok (.istore 4, 2) := by decide +kernel
theorem dX0_key_5 : decode cX0_key 5 = .ok (.iload 4, 2) := by decide +kernel
theorem dX0_key_7 : decode cX0_key 7 = .ok (.aload_n 0, 1) := by decide +kernel
theorem dX0_key_8 : decode cX0_key 8 = .ok (.getfield 41, 3) := by decide +kernel
theorem dX0_key_11 : decode cX0_key 11 = .ok (.if_icmp .ge 34, 3) := by decide +kernel
theorem dX0_key_14 : decode cX0_key 14 = .ok (.iload 4, 2) := by decide +kernel
theorem dX0_key_16 : decode cX0_key 16 = .ok (.iload_n 1, 1) := by decide +kernel
theorem dX0_key_17 : decode cX0_key 17 = .ok (.if_icmp .eq 22, 3) := by decide +kernel
theorem dX0_key_20 : decode cX0_key 20 = .ok (.lload_n 2, 1) := by decide +kernel
theorem dX0_key_21 : decode cX0_key 21 = .ok (.aload_n 0, 1) := by decide +kernel
theorem dX0_key_22 : decode cX0_key 22 = .ok (.getfield 25, 3) := by decide +kernel
theorem dX0_key_25 : decode cX0_key 25 = .ok (.iload 4, 2) := by decide +kernel
theorem dX0_key_27 : decode cX0_key 27 = .ok (.invokestatic 95, 3) := by decide +kernel
theorem dX0_key_30 : decode cX0_key 30 = .ok (.i2l, 1) := by decide +kernel
theorem dX0_key_31 : decode cX0_key 31 = .ok (.iload 4, 2) := by decide +kernel
theorem dX0_key_33 : decode cX0_key 33 = .ok (.invokestatic 110, 3) := by decide +kernel
theorem dX0_key_36 : decode cX0_key 36 = .ok (.lshl, 1) := by decide +kernel
theorem dX0_key_37 : decode cX0_key 37 = .ok (.lor, 1) := by decide +kernel
theorem dX0_key_38 : decode cX0_key 38 = .ok (.lstore_n 2, 1) := by decide +kernel
theorem dX0_key_39 : decode cX0_key 39 = .ok (.iinc 4 1, 3) := by decide +kernel
theorem dX0_key_42 : decode cX0_key 42 = .ok (.goto (-37), 3) := by decide +kernel
theorem dX0_key_45 : decode cX0_key 45 = .ok (.lload_n 2, 1) := by decide +kernel
theorem dX0_key_46 : decode cX0_key 46 = .ok (.lreturn, 1) := by decide +kernel
theorem dX0_keyAfter_0 : decode cX0_keyAfter 0 = .ok (.aload_n 0, 1) := by decide +kernel
theorem dX0_keyAfter_1 : decode cX0_keyAfter 1 = .ok (.bipush (-9), 2) := by decide +kernel
theorem dX0_keyAfter_3 : decode cX0_keyAfter 3 = .ok (.invokevirtual 113, 3) := by decide +kernel
theorem dX0_keyAfter_6 : decode cX0_keyAfter 6 = .ok (.iload_n 2, 1) := by decide +kernel
theorem dX0_keyAfter_7 : decode cX0_keyAfter 7 = .ok (.aload_n 0, 1) := by decide +kernel
theorem dX0_keyAfter_8 : decode cX0_keyAfter 8 = .ok (.getfield 25, 3) := by decide +kernel
theorem dX0_keyAfter_11 : decode cX0_keyAfter 11 = .ok (.iload_n 1, 1) := by decide +kernel
theorem dX0_keyAfter_12 : decode cX0_keyAfter 12 = .ok (.invokestatic 95, 3) := by decide +kernel
theorem dX0_keyAfter_15 : decode cX0_keyAfter 15 = .ok (.isub, 1) := by decide +kernel
theorem dX0_keyAfter_16 : decode cX0_keyAfter 16 = .ok (.i2l, 1) := by decide +kernel
theorem dX0_keyAfter_17 : decode cX0_keyAfter 17 = .ok (.iload_n 1, 1) := by decide +kernel
theorem dX0_keyAfter_18 : decode cX0_keyAfter 18 = .ok (.invokestatic 110, 3) := by decide +kernel
theorem dX0_keyAfter_21 : decode cX0_keyAfter 21 = .ok (.lshl, 1) := by decide +kernel
theorem dX0_keyAfter_22 : decode cX0_keyAfter 22 = .ok (.ladd, 1) := by decide +kernel
theorem dX0_keyAfter_23 : decode cX0_keyAfter 23 = .ok (.lreturn, 1) := by decide +kernel
theorem dX0_arrange_0 : decode cX0_arrange 0 = .ok (.iconst 0, 1) := by decide +kernel
theorem dX0_arrange_1 : decode cX0_arrange 1 = .ok (.istore_n 3, 1) := by decide +kernel
theorem dX0_arrange_2 : decode cX0_arrange 2 = .ok (.iload_n 3, 1) := by decide +kernel
theorem dX0_arrange_3 : decode cX0_arrange 3 = .ok (.aload_n 0, 1) := by decide +kernel
theorem dX0_arrange_4 : decode cX0_arrange 4 = .ok (.getfield 41, 3) := by decide +kernel
theorem dX0_arrange_7 : decode cX0_arrange 7 = .ok (.if_icmp .ge 22, 3) := by decide +kernel
theorem dX0_arrange_10 : decode cX0_arrange 10 = .ok (.aload_n 0, 1) := by decide +kernel
theorem dX0_arrange_11 : decode cX0_arrange 11 = .ok (.getfield 25, 3) := by decide +kernel
theorem dX0_arrange_14 : decode cX0_arrange 14 = .ok (.iload_n 3, 1) := by decide +kernel
theorem dX0_arrange_15 : decode cX0_arrange 15 = .ok (.lload_n 1, 1) := by decide +kernel
theorem dX0_arrange_16 : decode cX0_arrange 16 = .ok (.iload_n 3, 1) := by decide +kernel
theorem dX0_arrange_17 : decode cX0_arrange 17 = .ok (.invokestatic 117, 3) := by decide +kernel
theorem dX0_arrange_20 : decode cX0_arrange 20 = .ok (.invokestatic 87, 3) := by decide +kernel
theorem dX0_arrange_23 : decode cX0_arrange 23 = .ok (.iinc 3 1, 3) := by decide +kernel
theorem dX0_arrange_26 : decode cX0_arrange 26 = .ok (.goto (-24), 3) := by decide +kernel
theorem dX0_arrange_29 : decode cX0_arrange 29 = .ok (.return_, 1) := by decide +kernel
theorem dX1_init_0 : decode cX1_init 0 = .ok (.aload_n 0, 1) := by decide +kernel
theorem dX1_init_1 : decode cX1_init 1 = .ok (.invokespecial 3, 3) := by decide +kernel
theorem dX1_init_4 : decode cX1_init 4 = .ok (.aload_n 0, 1) := by decide +kernel
theorem dX1_init_5 : decode cX1_init 5 = .ok (.sipush 2000, 3) := by decide +kernel
theorem dX1_init_8 : decode cX1_init 8 = .ok (.newarray .int, 2) := by decide +kernel
theorem dX1_init_10 : decode cX1_init 10 = .ok (.putfield 9, 3) := by decide +kernel
theorem dX1_init_13 : decode cX1_init 13 = .ok (.aload_n 0, 1) := by decide +kernel
theorem dX1_init_14 : decode cX1_init 14 = .ok (.bipush (-9), 2) := by decide +kernel
theorem dX1_init_16 : decode cX1_init 16 = .ok (.putfield 15, 3) := by decide +kernel
theorem dX1_init_19 : decode cX1_init 19 = .ok (.aload_n 0, 1) := by decide +kernel
theorem dX1_init_20 : decode cX1_init 20 = .ok (.bipush (-9), 2) := by decide +kernel
theorem dX1_init_22 : decode cX1_init 22 = .ok (.putfield 19, 3) := by decide +kernel
theorem dX1_init_25 : decode cX1_init 25 = .ok (.aload_n 0, 1) := by decide +kernel
theorem dX1_init_26 : decode cX1_init 26 = .ok (.iconst 0, 1) := by decide +kernel
theorem dX1_init_27 : decode cX1_init 27 = .ok (.putfield 22, 3) := by decide +kernel
theorem dX1_init_30 : decode cX1_init 30 = .ok (.aload_n 0, 1) := by decide +kernel
theorem dX1_init_31 : decode cX1_init 31 = .ok (.iconst 0, 1) := by decide +kernel
theorem dX1_init_32 : decode cX1_init 32 = .ok (.putfield 25, 3) := by decide +kernel
theorem dX1_init_35 : decode cX1_init 35 = .ok (.aload_n 0, 1) := by decide +kernel
theorem dX1_init_36 : decode cX1_init 36 = .ok (.bipush (-9), 2) := by decide +kernel
theorem dX1_init_38 : decode cX1_init 38 = .ok (.putfield 28, 3) := by decide +kernel
theorem dX1_init_41 : decode cX1_init 41 = .ok (.aload_n 0, 1) := by decide +kernel
theorem dX1_init_42 : decode cX1_init 42 = .ok (.iload_n 1, 1) := by decide +kernel
theorem dX1_init_43 : decode cX1_init 43 = .ok (.putfield 31, 3) := by decide +kernel
theorem dX1_init_46 : decode cX1_init 46 = .ok (.aload_n 0, 1) := by decide +kernel
theorem dX1_init_47 : decode cX1_init 47 = .ok (.aload_n 2, 1) := by decide +kernel
theorem dX1_init_48 : decode cX1_init 48 = .ok (.putfield 35, 3) := by decide +kernel
theorem dX1_init_51 : decode cX1_init 51 = .ok (.return_, 1) := by decide +kernel
theorem dX1_forget_0 : decode cX1_forget 0 = .ok (.aload_n 0, 1) := by decide +kernel
theorem dX1_forget_1 : decode cX1_forget 1 = .ok (.bipush (-9), 2) := by decide +kernel
theorem dX1_forget_3 : decode cX1_forget 3 = .ok (.putfield 15, 3) := by decide +kernel
theorem dX1_forget_6 : decode cX1_forget 6 = .ok (.return_, 1) := by decide +kernel
theorem dX1_measure_0 : decode cX1_measure 0 = .ok (.aload_n 0, 1) := by decide +kernel
theorem dX1_measure_1 : decode cX1_measure 1 = .ok (.getfield 15, 3) := by decide +kernel
theorem dX1_measure_4 : decode cX1_measure 4 = .ok (.aload_n 1, 1) := by decide +kernel
theorem dX1_measure_5 : decode cX1_measure 5 = .ok (.getfield 39, 3) := by decide +kernel
theorem dX1_measure_8 : decode cX1_measure 8 = .ok (.if_icmp .ne 15, 3) := by decide +kernel
theorem dX1_measure_11 : decode cX1_measure 11 = .ok (.aload_n 0, 1) := by decide +kernel
theorem dX1_measure_12 : decode cX1_measure 12 = .ok (.getfield 19, 3) := by decide +kernel
theorem dX1_measure_15 : decode cX1_measure 15 = .ok (.aload_n 1, 1) := by decide +kernel
theorem dX1_measure_16 : decode cX1_measure 16 = .ok (.getfield 42, 3) := by decide +kernel
theorem dX1_measure_19 : decode cX1_measure 19 = .ok (.if_icmp .ne 4, 3) := by decide +kernel
theorem dX1_measure_22 : decode cX1_measure 22 = .ok (.return_, 1) := by decide +kernel
theorem dX1_measure_23 : decode cX1_measure 23 = .ok (.aload_n 0, 1) := by decide +kernel
theorem dX1_measure_24 : decode cX1_measure 24 = .ok (.aload_n 1, 1) := by decide +kernel
theorem dX1_measure_25 : decode cX1_measure 25 = .ok (.getfield 39, 3) := by decide +kernel
theorem dX1_measure_28 : decode cX1_measure 28 = .ok (.putfield 15, 3) := by decide +kernel
theorem dX1_measure_31 : decode cX1_measure 31 = .ok (.aload_n 0, 1) := by decide +kernel
theorem dX1_measure_32 : decode cX1_measure 32 = .ok (.aload_n 1, 1) := by decide +kernel
theorem dX1_measure_33 : decode cX1_measure 33 = .ok (.getfield 42, 3) := by decide +kernel
theorem dX1_measure_36 : decode cX1_measure 36 = .ok (.putfield 19, 3) := by decide +kernel
theorem dX1_measure_39 : decode cX1_measure 39 = .ok (.aload_n 0, 1) := by decide +kernel
theorem dX1_measure_40 : decode cX1_measure 40 = .ok (.aload_n 2, 1) := by decide +kernel
theorem dX1_measure_41 : decode cX1_measure 41 = .ok (.invokevirtual 43, 3) := by decide +kernel
theorem dX1_measure_44 : decode cX1_measure 44 = .ok (.iconst 0, 1) := by decide +kernel
theorem dX1_measure_45 : decode cX1_measure 45 = .ok (.istore_n 3, 1) := by decide +kernel
theorem dX1_measure_46 : decode cX1_measure 46 = .ok (.iload_n 3, 1) := by decide +kernel
theorem dX1_measure_47 : decode cX1_measure 47 = .ok (.aload_n 0, 1) := by decide +kernel
theorem dX1_measure_48 : decode cX1_measure 48 = .ok (.getfield 22, 3) := by decide +kernel
theorem dX1_measure_51 : decode cX1_measure 51 = .ok (.if_icmp .ge 91, 3) := by decide +kernel
theorem dX1_measure_54 : decode cX1_measure 54 = .ok (.iload_n 3, 1) := by decide +kernel
theorem dX1_measure_55 : decode cX1_measure 55 = .ok (.sipush 2000, 3) := by decide +kernel
theorem dX1_measure_58 : decode cX1_measure 58 = .ok (.if_icmp .ge 84, 3) := by decide +kernel
theorem dX1_measure_61 : decode cX1_measure 61 = .ok (.aload_n 0, 1) := by decide +kernel
theorem dX1_measure_62 : decode cX1_measure 62 = .ok (.getfield 35, 3) := by decide +kernel
theorem dX1_measure_65 : decode cX1_measure 65 = .ok (.getfield 47, 3) := by decide +kernel
theorem dX1_measure_68 : decode cX1_measure 68 = .ok (.iload_n 3, 1) := by decide +kernel
theorem dX1_measure_69 : decode cX1_measure 69 = .ok (.invokestatic 52, 3) := by decide +kernel
theorem dX1_measure_72 : decode cX1_measure 72 = .ok (.istore 4, 2) := by decide +kernel
theorem dX1_measure_74 : decode cX1_measure 74 = .ok (.iconst 0, 1) := by decide +kernel
theorem dX1_measure_75 : decode cX1_measure 75 = .ok (.istore 5, 2) := by decide +kernel
theorem dX1_measure_77 : decode cX1_measure 77 = .ok (.iload 5, 2) := by decide +kernel
theorem dX1_measure_79 : decode cX1_measure 79 = .ok (.aload_n 1, 1) := by decide +kernel
theorem dX1_measure_80 : decode cX1_measure 80 = .ok (.getfield 56, 3) := by decide +kernel
theorem dX1_measure_83 : decode cX1_measure 83 = .ok (.if_icmp .ge 53, 3) := by decide +kernel
theorem dX1_measure_86 : decode cX1_measure 86 = .ok (.aload_n 2, 1) := by decide +kernel
theorem dX1_measure_87 : decode cX1_measure 87 = .ok (.iload 4, 2) := by decide +kernel
theorem dX1_measure_89 : decode cX1_measure 89 = .ok (.iload 5, 2) := by decide +kernel
theorem dX1_measure_91 : decode cX1_measure 91 = .ok (.invokevirtual 59, 3) := by decide +kernel
theorem dX1_measure_94 : decode cX1_measure 94 = .ok (.ifCond .ne 6, 3) := by decide +kernel
theorem dX1_measure_97 : decode cX1_measure 97 = .ok (.goto 33, 3) := by decide +kernel
theorem dX1_measure_100 : decode cX1_measure 100 = .ok (.aload_n 0, 1) := by decide +kernel
theorem dX1_measure_101 : decode cX1_measure 101 = .ok (.getfield 31, 3) := by decide +kernel
theorem dX1_measure_104 : decode cX1_measure 104 = .ok (.ifCond .eq 16, 3) := by decide +kernel
theorem dX1_measure_107 : decode cX1_measure 107 = .ok (.aload_n 0, 1) := by decide +kernel
theorem dX1_measure_108 : decode cX1_measure 108 = .ok (.aload_n 1, 1) := by decide +kernel
theorem dX1_measure_109 : decode cX1_measure 109 = .ok (.aload_n 2, 1) := by decide +kernel
theorem dX1_measure_110 : decode cX1_measure 110 = .ok (.iload 4, 2) := by decide +kernel
theorem dX1_measure_112 : decode cX1_measure 112 = .ok (.iload 5, 2) := by decide +kernel
theorem dX1_measure_114 : decode cX1_measure 114 = .ok (.invokevirtual 65, 3) := by decide +kernel
theorem dX1_measure_117 : decode cX1_measure 117 = .ok (.goto 13, 3) := by decide +kernel
theorem dX1_measure_120 : decode cX1_measure 120 = .ok (.aload_n 0, 1) := by decide +kernel
theorem dX1_measure_121 : decode cX1_measure 121 = .ok (.aload_n 1, 1) := by decide +kernel
theorem dX1_measure_122 : decode cX1_measure 122 = .ok (.aload_n 2, 1) := by decide +kernel
theorem dX1_measure_123 : decode cX1_measure 123 = .ok (.iload 4, 2) := by decide +kernel
theorem dX1_measure_125 : decode cX1_measure 125 = .ok (.iload 5, 2) := by decide +kernel
theorem dX1_measure_127 : decode cX1_measure 127 = .ok (.invokevirtual 69, 3) := by decide +kernel
theorem dX1_measure_130 : decode cX1_measure 130 = .ok (.iinc 5 1, 3) := by decide +kernel
theorem dX1_measure_133 : decode cX1_measure 133 = .ok (.goto (-56), 3) := by decide +kernel
theorem dX1_measure_136 : decode cX1_measure 136 = .ok (.iinc 3 1, 3) := by decide +kernel
theorem dX1_measure_139 : decode cX1_measure 139 = .ok (.goto (-93), 3) := by decide +kernel
theorem dX1_measure_142 : decode cX1_measure 142 = .ok (.aload_n 0, 1) := by decide +kernel
theorem dX1_measure_143 : decode cX1_measure 143 = .ok (.aload_n 0, 1) := by decide +kernel
theorem dX1_measure_144 : decode cX1_measure 144 = .ok (.getfield 22, 3) := by decide +kernel
theorem dX1_measure_147 : decode cX1_measure 147 = .ok (.iconst 1, 1) := by decide +kernel
theorem dX1_measure_148 : decode cX1_measure 148 = .ok (.if_icmp .ge 8, 3) := by decide +kernel
theorem dX1_measure_151 : decode cX1_measure 151 = .ok (.bipush (-9), 2) := by decide +kernel
theorem dX1_measure_153 : decode cX1_measure 153 = .ok (.goto 26, 3) := by decide +kernel
theorem dX1_measure_156 : decode cX1_measure 156 = .ok (.aload_n 0, 1) := by decide +kernel
theorem dX1_measure_157 : decode cX1_measure 157 = .ok (.getfield 9, 3) := by decide +kernel
theorem dX1_measure_160 : decode cX1_measure 160 = .ok (.aload_n 0, 1) := by decide +kernel
theorem dX1_measure_161 : decode cX1_measure 161 = .ok (.getfield 35, 3) := by decide +kernel
theorem dX1_measure_164 : decode cX1_measure 164 = .ok (.getfield 47, 3) := by decide +kernel
theorem dX1_measure_167 : decode cX1_measure 167 = .ok (.aload_n 0, 1) := by decide +kernel
theorem dX1_measure_168 : decode cX1_measure 168 = .ok (.getfield 22, 3) := by decide +kernel
theorem dX1_measure_171 : decode cX1_measure 171 = .ok (.iconst 1, 1) := by decide +kernel
theorem dX1_measure_172 : decode cX1_measure 172 = .ok (.isub, 1) := by decide +kernel
theorem dX1_measure_173 : decode cX1_measure 173 = .ok (.invokestatic 52, 3) := by decide +kernel
theorem dX1_measure_176 : decode cX1_measure 176 = .ok (.invokestatic 52, 3) := by decide +kernel
theorem dX1_measure_179 : decode cX1_measure 179 = .ok (.putfield 28, 3) := by decide +kernel
theorem dX1_measure_182 : decode cX1_measure 182 = .ok (.return_, 1) := by decide +kernel
theorem dX1_beginAtSolved_0 : decode cX1_beginAtSolved 0 = .ok (.aload_n 0, 1) := by decide +kernel
theorem dX1_beginAtSolved_1 : decode cX1_beginAtSolved 1 = .ok (.getfield 9, 3) := by decide +kernel
theorem dX1_beginAtSolved_4 : decode cX1_beginAtSolved 4 = .ok (.iconst (-1), 1) := by decide +kernel
theorem dX1_beginAtSolved_5 : decode cX1_beginAtSolved 5 = .ok (.invokestatic 72, 3) := by decide +kernel
theorem dX1_beginAtSolved_8 : decode cX1_beginAtSolved 8 = .ok (.aload_n 0, 1) := by decide +kernel
theorem dX1_beginAtSolved_9 : decode cX1_beginAtSolved 9 = .ok (.getfield 35, 3) := by decide +kernel
theorem dX1_beginAtSolved_12 : decode cX1_beginAtSolved 12 = .ok (.getfield 78, 3) := by decide +kernel
theorem dX1_beginAtSolved_15 : decode cX1_beginAtSolved 15 = .ok (.iconst 0, 1) := by decide +kernel
theorem dX1_beginAtSolved_16 : decode cX1_beginAtSolved 16 = .ok (.invokestatic 72, 3) := by decide +kernel
theorem dX1_beginAtSolved_19 : decode cX1_beginAtSolved 19 = .ok (.aload_n 0, 1) := by decide +kernel
theorem dX1_beginAtSolved_20 : decode cX1_beginAtSolved 20 = .ok (.iconst 0, 1) := by decide +kernel
theorem dX1_beginAtSolved_21 : decode cX1_beginAtSolved 21 = .ok (.putfield 22, 3) := by decide +kernel
theorem dX1_beginAtSolved_24 : decode cX1_beginAtSolved 24 = .ok (.aload_n 0, 1) := by decide +kernel
theorem dX1_beginAtSolved_25 : decode cX1_beginAtSolved 25 = .ok (.iconst 0, 1) := by decide +kernel
theorem dX1_beginAtSolved_26 : decode cX1_beginAtSolved 26 = .ok (.putfield 25, 3) := by decide +kernel
theorem dX1_beginAtSolved_29 : decode cX1_beginAtSolved 29 = .ok (.iconst 0, 1) := by decide +kernel
theorem dX1_beginAtSolved_30 : decode cX1_beginAtSolved 30 = .ok (.istore_n 2, 1) := by decide +kernel
theorem dX1_beginAtSolved_31 : decode cX1_beginAtSolved 31 = .ok (.iload_n 2, 1) := by decide +kernel
theorem dX1_beginAtSolved_32 : decode cX1_beginAtSolved 32 = .ok (.aload_n 1, 1) := by decide +kernel
theorem dX1_beginAtSolved_33 : decode cX1_beginAtSolved 33 = .ok (.getfield 81, 3) := by decide +kernel
theorem dX1_beginAtSolved_36 : decode cX1_beginAtSolved 36 = .ok (.if_icmp .ge 37, 3) := by decide +kernel
theorem dX1_beginAtSolved_39 : decode cX1_beginAtSolved 39 = .ok (.aload_n 1, 1) := by decide +kernel
theorem dX1_beginAtSolved_40 : decode cX1_beginAtSolved 40 = .ok (.getfield 84, 3) := by decide +kernel
theorem dX1_beginAtSolved_43 : decode cX1_beginAtSolved 43 = .ok (.iload_n 2, 1) := by decide +kernel
theorem dX1_beginAtSolved_44 : decode cX1_beginAtSolved 44 = .ok (.invokestatic 88, 3) := by decide +kernel
theorem dX1_beginAtSolved_47 : decode cX1_beginAtSolved 47 = .ok (.aload_n 0, 1) := by decide +kernel
theorem dX1_beginAtSolved_48 : decode cX1_beginAtSolved 48 = .ok (.getfield 15, 3) := by decide +kernel
theorem dX1_beginAtSolved_51 : decode cX1_beginAtSolved 51 = .ok (.invokestatic 91, 3) := by decide +kernel
theorem dX1_beginAtSolved_54 : decode cX1_beginAtSolved 54 = .ok (.aload_n 0, 1) := by decide +kernel
theorem dX1_beginAtSolved_55 : decode cX1_beginAtSolved 55 = .ok (.getfield 19, 3) := by decide +kernel
theorem dX1_beginAtSolved_58 : decode cX1_beginAtSolved 58 = .ok (.if_icmp .ne 9, 3) := by decide +kernel
theorem dX1_beginAtSolved_61 : decode cX1_beginAtSolved 61 = .ok (.aload_n 0, 1) := by decide +kernel
theorem dX1_beginAtSolved_62 : decode cX1_beginAtSolved 62 = .ok (.iload_n 2, 1) := by decide +kernel
theorem dX1_beginAtSolved_63 : decode cX1_beginAtSolved 63 = .ok (.iconst 0, 1) := by decide +kernel
theorem dX1_beginAtSolved_64 : decode cX1_beginAtSolved 64 = .ok (.invokevirtual 95, 3) := by decide +kernel
theorem dX1_beginAtSolved_67 : decode cX1_beginAtSolved 67 = .ok (.iinc 2 1, 3) := by decide +kernel
theorem dX1_beginAtSolved_70 : decode cX1_beginAtSolved 70 = .ok (.goto (-39), 3) := by decide +kernel
theorem dX1_beginAtSolved_73 : decode cX1_beginAtSolved 73 = .ok (.return_, 1) := by decide +kernel
theorem dX1_reach_0 : decode cX1_reach 0 = .ok (.aload_n 0, 1) := by decide +kernel
theorem dX1_reach_1 : decode cX1_reach 1 = .ok (.getfield 9, 3) := by decide +kernel
theorem dX1_reach_4 : decode cX1_reach 4 = .ok (.iload_n 1, 1) := by decide +kernel
theorem dX1_reach_5 : decode cX1_reach 5 = .ok (.invokestatic 52, 3) := by decide +kernel
theorem dX1_reach_8 : decode cX1_reach 8 = .ok (.ifCond .ge 47, 3) := by decide +kernel
theorem dX1_reach_11 : decode cX1_reach 11 = .ok (.aload_n 0, 1) := by decide +kernel
theorem dX1_reach_12 : decode cX1_reach 12 = .ok (.getfield 9, 3) := by decide +kernel
theorem dX1_reach_15 : decode cX1_reach 15 = .ok (.iload_n 1, 1) := by decide +kernel
theorem dX1_reach_16 : decode cX1_reach 16 = .ok (.iload_n 2, 1) := by decide +kernel
theorem dX1_reach_17 : decode cX1_reach 17 = .ok (.invokestatic 99, 3) := by decide +kernel
theorem dX1_reach_20 : decode cX1_reach 20 = .ok (.aload_n 0, 1) := by decide +kernel
theorem dX1_reach_21 : decode cX1_reach 21 = .ok (.getfield 35, 3) := by decide +kernel
theorem dX1_reach_24 : decode cX1_reach 24 = .ok (.getfield 47, 3) := by decide +kernel
theorem dX1_reach_27 : decode cX1_reach 27 = .ok (.aload_n 0, 1) := by decide +kernel
theorem dX1_reach_28 : decode cX1_reach 28 = .ok (.getfield 22, 3) := by decide +kernel
theorem dX1_reach_31 : decode cX1_reach 31 = .ok (.iload_n 1, 1) := by decide +kernel
theorem dX1_reach_32 : decode cX1_reach 32 = .ok (.invokestatic 99, 3) := by decide +kernel
theorem dX1_reach_35 : decode cX1_reach 35 = .ok (.aload_n 0, 1) := by decide +kernel
theorem dX1_reach_36 : decode cX1_reach 36 = .ok (.dup, 1) := by decide +kernel
theorem dX1_reach_37 : decode cX1_reach 37 = .ok (.getfield 22, 3) := by decide +kernel
theorem dX1_reach_40 : decode cX1_reach 40 = .ok (.iconst 1, 1) := by decide +kernel
theorem dX1_reach_41 : decode cX1_reach 41 = .ok (.iadd, 1) := by decide +kernel
theorem dX1_reach_42 : decode cX1_reach 42 = .ok (.putfield 22, 3) := by decide +kernel
theorem dX1_reach_45 : decode cX1_reach 45 = .ok (.aload_n 0, 1) := by decide +kernel
theorem dX1_reach_46 : decode cX1_reach 46 = .ok (.dup, 1) := by decide +kernel
theorem dX1_reach_47 : decode cX1_reach 47 = .ok (.getfield 25, 3) := by decide +kernel
theorem dX1_reach_50 : decode cX1_reach 50 = .ok (.iload_n 2, 1) := by decide +kernel
theorem dX1_reach_51 : decode cX1_reach 51 = .ok (.iadd, 1) := by decide +kernel
theorem dX1_reach_52 : decode cX1_reach 52 = .ok (.putfield 25, 3) := by decide +kernel
theorem dX1_reach_55 : decode cX1_reach 55 = .ok (.return_, 1) := by decide +kernel
theorem dX1_stepFrom_0 : decode cX1_stepFrom 0 = .ok (.aload_n 0, 1) := by decide +kernel
theorem dX1_stepFrom_1 : decode cX1_stepFrom 1 = .ok (.getfield 9, 3) := by decide +kernel
theorem dX1_stepFrom_4 : decode cX1_stepFrom 4 = .ok (.iload_n 3, 1) := by decide +kernel
theorem dX1_stepFrom_5 : decode cX1_stepFrom 5 = .ok (.invokestatic 52, 3) := by decide +kernel
theorem dX1_stepFrom_8 : decode cX1_stepFrom 8 = .ok (.iconst 1, 1) := by decide +kernel
theorem dX1_stepFrom_9 : decode cX1_stepFrom 9 = .ok (.iadd, 1) := by decide +kernel
theorem dX1_stepFrom_10 : decode cX1_stepFrom 10 = .ok (.istore 5, 2) := by decide +kernel
theorem dX1_stepFrom_12 : decode cX1_stepFrom 12 = .ok (.iconst 0, 1) := by decide +kernel
theorem dX1_stepFrom_13 : decode cX1_stepFrom 13 = .ok (.istore 6, 2) := by decide +kernel
theorem dX1_stepFrom_15 : decode cX1_stepFrom 15 = .ok (.iload 6, 2) := by decide +kernel
theorem dX1_stepFrom_17 : decode cX1_stepFrom 17 = .ok (.iconst 4, 1) := by decide +kernel
theorem dX1_stepFrom_18 : decode cX1_stepFrom 18 = .ok (.if_icmp .ge 34, 3) := by decide +kernel
theorem dX1_stepFrom_21 : decode cX1_stepFrom 21 = .ok (.aload_n 2, 1) := by decide +kernel
theorem dX1_stepFrom_22 : decode cX1_stepFrom 22 = .ok (.aload_n 1, 1) := by decide +kernel
theorem dX1_stepFrom_23 : decode cX1_stepFrom 23 = .ok (.iload_n 3, 1) := by decide +kernel
theorem dX1_stepFrom_24 : decode cX1_stepFrom 24 = .ok (.iload 4, 2) := by decide +kernel
theorem dX1_stepFrom_26 : decode cX1_stepFrom 26 = .ok (.iload 6, 2) := by decide +kernel
theorem dX1_stepFrom_28 : decode cX1_stepFrom 28 = .ok (.invokevirtual 103, 3) := by decide +kernel
theorem dX1_stepFrom_31 : decode cX1_stepFrom 31 = .ok (.istore 7, 2) := by decide +kernel
theorem dX1_stepFrom_33 : decode cX1_stepFrom 33 = .ok (.iload 7, 2) := by decide +kernel
theorem dX1_stepFrom_35 : decode cX1_stepFrom 35 = .ok (.ifCond .lt 11, 3) := by decide +kernel
theorem dX1_stepFrom_38 : decode cX1_stepFrom 38 = .ok (.aload_n 0, 1) := by decide +kernel
theorem dX1_stepFrom_39 : decode cX1_stepFrom 39 = .ok (.iload 7, 2) := by decide +kernel
theorem dX1_stepFrom_41 : decode cX1_stepFrom 41 = .ok (.iload 5, 2) := by decide +kernel
theorem dX1_stepFrom_43 : decode cX1_stepFrom 43 = .ok (.invokevirtual 95, 3) := by decide +kernel
theorem dX1_stepFrom_46 : decode cX1_stepFrom 46 = .ok (.iinc 6 1, 3) := by decide +kernel
theorem dX1_stepFrom_49 : decode cX1_stepFrom 49 = .ok (.goto (-34), 3) := by decide +kernel
theorem dX1_stepFrom_52 : decode cX1_stepFrom 52 = .ok (.return_, 1) := by decide +kernel
theorem dX1_slideFrom_0 : decode cX1_slideFrom 0 = .ok (.iconst 1, 1) := by decide +kernel
theorem dX1_slideFrom_1 : decode cX1_slideFrom 1 = .ok (.iload 4, 2) := by decide +kernel
theorem dX1_slideFrom_3 : decode cX1_slideFrom 3 = .ok (.ishl, 1) := by decide +kernel
theorem dX1_slideFrom_4 : decode cX1_slideFrom 4 = .ok (.istore 5, 2) := by decide +kernel
theorem dX1_slideFrom_6 : decode cX1_slideFrom 6 = .ok (.aload_n 0, 1) := by decide +kernel
theorem dX1_slideFrom_7 : decode cX1_slideFrom 7 = .ok (.getfield 35, 3) := by decide +kernel
theorem dX1_slideFrom_10 : decode cX1_slideFrom 10 = .ok (.getfield 78, 3) := by decide +kernel
theorem dX1_slideFrom_13 : decode cX1_slideFrom 13 = .ok (.iload_n 3, 1) := by decide +kernel
theorem dX1_slideFrom_14 : decode cX1_slideFrom 14 = .ok (.invokestatic 52, 3) := by decide +kernel
theorem dX1_slideFrom_17 : decode cX1_slideFrom 17 = .ok (.iload 5, 2) := by decide +kernel
theorem dX1_slideFrom_19 : decode cX1_slideFrom 19 = .ok (.iand, 1) := by decide +kernel
theorem dX1_slideFrom_20 : decode cX1_slideFrom 20 = .ok (.ifCond .eq 4, 3) := by decide +kernel
theorem dX1_slideFrom_23 : decode cX1_slideFrom 23 = .ok (.return_, 1) := by decide +kernel
theorem dX1_slideFrom_24 : decode cX1_slideFrom 24 = .ok (.aload_n 0, 1) := by decide +kernel
theorem dX1_slideFrom_25 : decode cX1_slideFrom 25 = .ok (.getfield 9, 3) := by decide +kernel
theorem dX1_slideFrom_28 : decode cX1_slideFrom 28 = .ok (.iload_n 3, 1) := by decide +kernel
theorem dX1_slideFrom_29 : decode cX1_slideFrom 29 = .ok (.invokestatic 52, 3) := by decide +kernel
theorem dX1_slideFrom_32 : decode cX1_slideFrom 32 = .ok (.iconst 1, 1) := by decide +kernel
theorem dX1_slideFrom_33 : decode cX1_slideFrom 33 = .ok (.iadd, 1) := by decide +kernel
theorem dX1_slideFrom_34 : decode cX1_slideFrom 34 = .ok (.istore 6, 2) := by decide +kernel
theorem dX1_slideFrom_36 : decode cX1_slideFrom 36 = .ok (.aload_n 0, 1) := by decide +kernel
theorem dX1_slideFrom_37 : decode cX1_slideFrom 37 = .ok (.getfield 35, 3) := by decide +kernel
theorem dX1_slideFrom_40 : decode cX1_slideFrom 40 = .ok (.getfield 78, 3) := by decide +kernel
theorem dX1_slideFrom_43 : decode cX1_slideFrom 43 = .ok (.iload_n 3, 1) := by decide +kernel
theorem dX1_slideFrom_44 : decode cX1_slideFrom 44 = .ok (.aload_n 0, 1) := by decide +kernel
theorem dX1_slideFrom_45 : decode cX1_slideFrom 45 = .ok (.getfield 35, 3) := by decide +kernel
theorem dX1_slideFrom_48 : decode cX1_slideFrom 48 = .ok (.getfield 78, 3) := by decide +kernel
theorem dX1_slideFrom_51 : decode cX1_slideFrom 51 = .ok (.iload_n 3, 1) := by decide +kernel
theorem dX1_slideFrom_52 : decode cX1_slideFrom 52 = .ok (.invokestatic 52, 3) := by decide +kernel
theorem dX1_slideFrom_55 : decode cX1_slideFrom 55 = .ok (.iload 5, 2) := by decide +kernel
theorem dX1_slideFrom_57 : decode cX1_slideFrom 57 = .ok (.ior, 1) := by decide +kernel
theorem dX1_slideFrom_58 : decode cX1_slideFrom 58 = .ok (.invokestatic 99, 3) := by decide +kernel
theorem dX1_slideFrom_61 : decode cX1_slideFrom 61 = .ok (.aload_n 0, 1) := by decide +kernel
theorem dX1_slideFrom_62 : decode cX1_slideFrom 62 = .ok (.getfield 35, 3) := by decide +kernel
theorem dX1_slideFrom_65 : decode cX1_slideFrom 65 = .ok (.getfield 107, 3) := by decide +kernel
theorem dX1_slideFrom_68 : decode cX1_slideFrom 68 = .ok (.iconst 0, 1) := by decide +kernel
theorem dX1_slideFrom_69 : decode cX1_slideFrom 69 = .ok (.iload_n 3, 1) := by decide +kernel
theorem dX1_slideFrom_70 : decode cX1_slideFrom 70 = .ok (.invokestatic 99, 3) := by decide +kernel
theorem dX1_slideFrom_73 : decode cX1_slideFrom 73 = .ok (.iconst 1, 1) := by decide +kernel
theorem dX1_slideFrom_74 : decode cX1_slideFrom 74 = .ok (.istore 7, 2) := by decide +kernel
theorem dX1_slideFrom_76 : decode cX1_slideFrom 76 = .ok (.iconst 0, 1) := by decide +kernel
theorem dX1_slideFrom_77 : decode cX1_slideFrom 77 = .ok (.istore 8, 2) := by decide +kernel
theorem dX1_slideFrom_79 : decode cX1_slideFrom 79 = .ok (.iload 8, 2) := by decide +kernel
theorem dX1_slideFrom_81 : decode cX1_slideFrom 81 = .ok (.iload 7, 2) := by decide +kernel
theorem dX1_slideFrom_83 : decode cX1_slideFrom 83 = .ok (.if_icmp .ge 133, 3) := by decide +kernel
theorem dX1_slideFrom_86 : decode cX1_slideFrom 86 = .ok (.iload 8, 2) := by decide +kernel
theorem dX1_slideFrom_88 : decode cX1_slideFrom 88 = .ok (.bipush 24, 2) := by decide +kernel
theorem dX1_slideFrom_90 : decode cX1_slideFrom 90 = .ok (.if_icmp .ge 126, 3) := by decide +kernel
theorem dX1_slideFrom_93 : decode cX1_slideFrom 93 = .ok (.aload_n 0, 1) := by decide +kernel
theorem dX1_slideFrom_94 : decode cX1_slideFrom 94 = .ok (.getfield 35, 3) := by decide +kernel
theorem dX1_slideFrom_97 : decode cX1_slideFrom 97 = .ok (.getfield 107, 3) := by decide +kernel
theorem dX1_slideFrom_100 : decode cX1_slideFrom 100 = .ok (.iload 8, 2) := by decide +kernel
theorem dX1_slideFrom_102 : decode cX1_slideFrom 102 = .ok (.invokestatic 52, 3) := by decide +kernel
theorem dX1_slideFrom_105 : decode cX1_slideFrom 105 = .ok (.istore 9, 2) := by decide +kernel
theorem dX1_slideFrom_107 : decode cX1_slideFrom 107 = .ok (.iconst 0, 1) := by decide +kernel
theorem dX1_slideFrom_108 : decode cX1_slideFrom 108 = .ok (.istore 10, 2) := by decide +kernel
theorem dX1_slideFrom_110 : decode cX1_slideFrom 110 = .ok (.iload 10, 2) := by decide +kernel
theorem dX1_slideFrom_112 : decode cX1_slideFrom 112 = .ok (.iconst 4, 1) := by decide +kernel
theorem dX1_slideFrom_113 : decode cX1_slideFrom 113 = .ok (.if_icmp .ge 97, 3) := by decide +kernel
theorem dX1_slideFrom_116 : decode cX1_slideFrom 116 = .ok (.aload_n 2, 1) := by decide +kernel
theorem dX1_slideFrom_117 : decode cX1_slideFrom 117 = .ok (.aload_n 1, 1) := by decide +kernel
theorem dX1_slideFrom_118 : decode cX1_slideFrom 118 = .ok (.iload 9, 2) := by decide +kernel
theorem dX1_slideFrom_120 : decode cX1_slideFrom 120 = .ok (.iload 4, 2) := by decide +kernel
theorem dX1_slideFrom_122 : decode cX1_slideFrom 122 = .ok (.iload 10, 2) := by decide +kernel
theorem dX1_slideFrom_124 : decode cX1_slideFrom 124 = .ok (.invokevirtual 103, 3) := by decide +kernel
theorem dX1_slideFrom_127 : decode cX1_slideFrom 127 = .ok (.istore 11, 2) := by decide +kernel
theorem dX1_slideFrom_129 : decode cX1_slideFrom 129 = .ok (.iload 11, 2) := by decide +kernel
theorem dX1_slideFrom_131 : decode cX1_slideFrom 131 = .ok (.ifCond .lt 73, 3) := by decide +kernel
theorem dX1_slideFrom_134 : decode cX1_slideFrom 134 = .ok (.aload_n 0, 1) := by decide +kernel
theorem dX1_slideFrom_135 : decode cX1_slideFrom 135 = .ok (.getfield 35, 3) := by decide +kernel
theorem dX1_slideFrom_138 : decode cX1_slideFrom 138 = .ok (.getfield 78, 3) := by decide +kernel
theorem dX1_slideFrom_141 : decode cX1_slideFrom 141 = .ok (.iload 11, 2) := by decide +kernel
theorem dX1_slideFrom_143 : decode cX1_slideFrom 143 = .ok (.invokestatic 52, 3) := by decide +kernel
theorem dX1_slideFrom_146 : decode cX1_slideFrom 146 = .ok (.iload 5, 2) := by decide +kernel
theorem dX1_slideFrom_148 : decode cX1_slideFrom 148 = .ok (.iand, 1) := by decide +kernel
theorem dX1_slideFrom_149 : decode cX1_slideFrom 149 = .ok (.ifCond .ne 55, 3) := by decide +kernel
theorem dX1_slideFrom_152 : decode cX1_slideFrom 152 = .ok (.aload_n 0, 1) := by decide +kernel
theorem dX1_slideFrom_153 : decode cX1_slideFrom 153 = .ok (.getfield 35, 3) := by decide +kernel
theorem dX1_slideFrom_156 : decode cX1_slideFrom 156 = .ok (.getfield 78, 3) := by decide +kernel
theorem dX1_slideFrom_159 : decode cX1_slideFrom 159 = .ok (.iload 11, 2) := by decide +kernel
theorem dX1_slideFrom_161 : decode cX1_slideFrom 161 = .ok (.aload_n 0, 1) := by decide +kernel
theorem dX1_slideFrom_162 : decode cX1_slideFrom 162 = .ok (.getfield 35, 3) := by decide +kernel
theorem dX1_slideFrom_165 : decode cX1_slideFrom 165 = .ok (.getfield 78, 3) := by decide +kernel
theorem dX1_slideFrom_168 : decode cX1_slideFrom 168 = .ok (.iload 11, 2) := by decide +kernel
theorem dX1_slideFrom_170 : decode cX1_slideFrom 170 = .ok (.invokestatic 52, 3) := by decide +kernel
theorem dX1_slideFrom_173 : decode cX1_slideFrom 173 = .ok (.iload 5, 2) := by decide +kernel
theorem dX1_slideFrom_175 : decode cX1_slideFrom 175 = .ok (.ior, 1) := by decide +kernel
theorem dX1_slideFrom_176 : decode cX1_slideFrom 176 = .ok (.invokestatic 99, 3) := by decide +kernel
theorem dX1_slideFrom_179 : decode cX1_slideFrom 179 = .ok (.aload_n 0, 1) := by decide +kernel
theorem dX1_slideFrom_180 : decode cX1_slideFrom 180 = .ok (.getfield 35, 3) := by decide +kernel
theorem dX1_slideFrom_183 : decode cX1_slideFrom 183 = .ok (.getfield 107, 3) := by decide +kernel
theorem dX1_slideFrom_186 : decode cX1_slideFrom 186 = .ok (.iload 7, 2) := by decide +kernel
theorem dX1_slideFrom_188 : decode cX1_slideFrom 188 = .ok (.iload 11, 2) := by decide +kernel
theorem dX1_slideFrom_190 : decode cX1_slideFrom 190 = .ok (.invokestatic 99, 3) := by decide +kernel
theorem dX1_slideFrom_193 : decode cX1_slideFrom 193 = .ok (.iinc 7 1, 3) := by decide +kernel
theorem dX1_slideFrom_196 : decode cX1_slideFrom 196 = .ok (.aload_n 0, 1) := by decide +kernel
theorem dX1_slideFrom_197 : decode cX1_slideFrom 197 = .ok (.iload 11, 2) := by decide +kernel
theorem dX1_slideFrom_199 : decode cX1_slideFrom 199 = .ok (.iload 6, 2) := by decide +kernel
theorem dX1_slideFrom_201 : decode cX1_slideFrom 201 = .ok (.invokevirtual 95, 3) := by decide +kernel
theorem dX1_slideFrom_204 : decode cX1_slideFrom 204 = .ok (.iinc 10 1, 3) := by decide +kernel
theorem dX1_slideFrom_207 : decode cX1_slideFrom 207 = .ok (.goto (-97), 3) := by decide +kernel
theorem dX1_slideFrom_210 : decode cX1_slideFrom 210 = .ok (.iinc 8 1, 3) := by decide +kernel
theorem dX1_slideFrom_213 : decode cX1_slideFrom 213 = .ok (.goto (-134), 3) := by decide +kernel
theorem dX1_slideFrom_216 : decode cX1_slideFrom 216 = .ok (.return_, 1) := by decide +kernel
theorem dX2_init_0 : decode cX2_init 0 = .ok (.aload_n 0, 1) := by decide +kernel
theorem dX2_init_1 : decode cX2_init 1 = .ok (.invokespecial 3, 3) := by decide +kernel
theorem dX2_init_4 : decode cX2_init 4 = .ok (.aload_n 0, 1) := by decide +kernel
theorem dX2_init_5 : decode cX2_init 5 = .ok (.bipush 10, 2) := by decide +kernel
theorem dX2_init_7 : decode cX2_init 7 = .ok (.anewarray 9, 3) := by decide +kernel
theorem dX2_init_10 : decode cX2_init 10 = .ok (.putfield 11, 3) := by decide +kernel
theorem dX2_init_13 : decode cX2_init 13 = .ok (.aload_n 0, 1) := by decide +kernel
theorem dX2_init_14 : decode cX2_init 14 = .ok (.iconst 0, 1) := by decide +kernel
theorem dX2_init_15 : decode cX2_init 15 = .ok (.putfield 17, 3) := by decide +kernel
theorem dX2_init_18 : decode cX2_init 18 = .ok (.aload_n 0, 1) := by decide +kernel
theorem dX2_init_19 : decode cX2_init 19 = .ok (.iconst 0, 1) := by decide +kernel
theorem dX2_init_20 : decode cX2_init 20 = .ok (.putfield 21, 3) := by decide +kernel
theorem dX2_init_23 : decode cX2_init 23 = .ok (.iconst 0, 1) := by decide +kernel
theorem dX2_init_24 : decode cX2_init 24 = .ok (.istore_n 1, 1) := by decide +kernel
theorem dX2_init_25 : decode cX2_init 25 = .ok (.iload_n 1, 1) := by decide +kernel
theorem dX2_init_26 : decode cX2_init 26 = .ok (.aload_n 0, 1) := by decide +kernel
theorem dX2_init_27 : decode cX2_init 27 = .ok (.getfield 11, 3) := by decide +kernel
theorem dX2_init_30 : decode cX2_init 30 = .ok (.arraylength, 1) := by decide +kernel
theorem dX2_init_31 : decode cX2_init 31 = .ok (.if_icmp .ge 22, 3) := by decide +kernel
theorem dX2_init_34 : decode cX2_init 34 = .ok (.aload_n 0, 1) := by decide +kernel
theorem dX2_init_35 : decode cX2_init 35 = .ok (.getfield 11, 3) := by decide +kernel
theorem dX2_init_38 : decode cX2_init 38 = .ok (.iload_n 1, 1) := by decide +kernel
theorem dX2_init_39 : decode cX2_init 39 = .ok (.new 9, 3) := by decide +kernel
theorem dX2_init_42 : decode cX2_init 42 = .ok (.dup, 1) := by decide +kernel
theorem dX2_init_43 : decode cX2_init 43 = .ok (.invokespecial 24, 3) := by decide +kernel
theorem dX2_init_46 : decode cX2_init 46 = .ok (.aastore, 1) := by decide +kernel
theorem dX2_init_47 : decode cX2_init 47 = .ok (.iinc 1 1, 3) := by decide +kernel
theorem dX2_init_50 : decode cX2_init 50 = .ok (.goto (-25), 3) := by decide +kernel
theorem dX2_init_53 : decode cX2_init 53 = .ok (.return_, 1) := by decide +kernel
theorem dX2_keep_0 : decode cX2_keep 0 = .ok (.aload_n 0, 1) := by decide +kernel
theorem dX2_keep_1 : decode cX2_keep 1 = .ok (.getfield 21, 3) := by decide +kernel
theorem dX2_keep_4 : decode cX2_keep 4 = .ok (.bipush 10, 2) := by decide +kernel
theorem dX2_keep_6 : decode cX2_keep 6 = .ok (.if_icmp .lt 26, 3) := by decide +kernel
theorem dX2_keep_9 : decode cX2_keep 9 = .ok (.aload_n 0, 1) := by decide +kernel
theorem dX2_keep_10 : decode cX2_keep 10 = .ok (.aload_n 0, 1) := by decide +kernel
theorem dX2_keep_11 : decode cX2_keep 11 = .ok (.getfield 17, 3) := by decide +kernel
theorem dX2_keep_14 : decode cX2_keep 14 = .ok (.iconst 1, 1) := by decide +kernel
theorem dX2_keep_15 : decode cX2_keep 15 = .ok (.iadd, 1) := by decide +kernel
theorem dX2_keep_16 : decode cX2_keep 16 = .ok (.bipush 10, 2) := by decide +kernel
theorem dX2_keep_18 : decode cX2_keep 18 = .ok (.irem, 1) := by decide +kernel
theorem dX2_keep_19 : decode cX2_keep 19 = .ok (.putfield 17, 3) := by decide +kernel
theorem dX2_keep_22 : decode cX2_keep 22 = .ok (.aload_n 0, 1) := by decide +kernel
theorem dX2_keep_23 : decode cX2_keep 23 = .ok (.dup, 1) := by decide +kernel
theorem dX2_keep_24 : decode cX2_keep 24 = .ok (.getfield 21, 3) := by decide +kernel
theorem dX2_keep_27 : decode cX2_keep 27 = .ok (.iconst 1, 1) := by decide +kernel
theorem dX2_keep_28 : decode cX2_keep 28 = .ok (.isub, 1) := by decide +kernel
theorem dX2_keep_29 : decode cX2_keep 29 = .ok (.putfield 21, 3) := by decide +kernel
theorem dX2_keep_32 : decode cX2_keep 32 = .ok (.aload_n 0, 1) := by decide +kernel
theorem dX2_keep_33 : decode cX2_keep 33 = .ok (.aload_n 0, 1) := by decide +kernel
theorem dX2_keep_34 : decode cX2_keep 34 = .ok (.getfield 21, 3) := by decide +kernel
theorem dX2_keep_37 : decode cX2_keep 37 = .ok (.invokevirtual 25, 3) := by decide +kernel
theorem dX2_keep_40 : decode cX2_keep 40 = .ok (.astore_n 2, 1) := by decide +kernel
theorem dX2_keep_41 : decode cX2_keep 41 = .ok (.aload_n 2, 1) := by decide +kernel
theorem dX2_keep_42 : decode cX2_keep 42 = .ok (.ifnull 18, 3) := by decide +kernel
theorem dX2_keep_45 : decode cX2_keep 45 = .ok (.aload_n 2, 1) := by decide +kernel
theorem dX2_keep_46 : decode cX2_keep 46 = .ok (.aload_n 1, 1) := by decide +kernel
theorem dX2_keep_47 : decode cX2_keep 47 = .ok (.invokevirtual 29, 3) := by decide +kernel
theorem dX2_keep_50 : decode cX2_keep 50 = .ok (.aload_n 0, 1) := by decide +kernel
theorem dX2_keep_51 : decode cX2_keep 51 = .ok (.dup, 1) := by decide +kernel
theorem dX2_keep_52 : decode cX2_keep 52 = .ok (.getfield 21, 3) := by decide +kernel
theorem dX2_keep_55 : decode cX2_keep 55 = .ok (.iconst 1, 1) := by decide +kernel
theorem dX2_keep_56 : decode cX2_keep 56 = .ok (.iadd, 1) := by decide +kernel
theorem dX2_keep_57 : decode cX2_keep 57 = .ok (.putfield 21, 3) := by decide +kernel
theorem dX2_keep_60 : decode cX2_keep 60 = .ok (.return_, 1) := by decide +kernel
theorem dX2_restore_0 : decode cX2_restore 0 = .ok (.aload_n 0, 1) := by decide +kernel
theorem dX2_restore_1 : decode cX2_restore 1 = .ok (.getfield 21, 3) := by decide +kernel
theorem dX2_restore_4 : decode cX2_restore 4 = .ok (.iconst 1, 1) := by decide +kernel
theorem dX2_restore_5 : decode cX2_restore 5 = .ok (.if_icmp .ge 6, 3) := by decide +kernel
theorem dX2_restore_8 : decode cX2_restore 8 = .ok (.bipush (-9), 2) := by decide +kernel
theorem dX2_restore_10 : decode cX2_restore 10 = .ok (.ireturn, 1) := by decide +kernel
theorem dX2_restore_11 : decode cX2_restore 11 = .ok (.aload_n 0, 1) := by decide +kernel
theorem dX2_restore_12 : decode cX2_restore 12 = .ok (.aload_n 0, 1) := by decide +kernel
theorem dX2_restore_13 : decode cX2_restore 13 = .ok (.getfield 21, 3) := by decide +kernel
theorem dX2_restore_16 : decode cX2_restore 16 = .ok (.iconst 1, 1) := by decide +kernel
theorem dX2_restore_17 : decode cX2_restore 17 = .ok (.isub, 1) := by decide +kernel
theorem dX2_restore_18 : decode cX2_restore 18 = .ok (.invokevirtual 25, 3) := by decide +kernel
theorem dX2_restore_21 : decode cX2_restore 21 = .ok (.astore_n 2, 1) := by decide +kernel
theorem dX2_restore_22 : decode cX2_restore 22 = .ok (.aload_n 2, 1) := by decide +kernel
theorem dX2_restore_23 : decode cX2_restore 23 = .ok (.ifnonnull 6, 3) := by decide +kernel
theorem dX2_restore_26 : decode cX2_restore 26 = .ok (.bipush (-9), 2) := by decide +kernel
theorem dX2_restore_28 : decode cX2_restore 28 = .ok (.ireturn, 1) := by decide +kernel
theorem dX2_restore_29 : decode cX2_restore 29 = .ok (.aload_n 1, 1) := by decide +kernel
theorem dX2_restore_30 : decode cX2_restore 30 = .ok (.aload_n 2, 1) := by decide +kernel
theorem dX2_restore_31 : decode cX2_restore 31 = .ok (.invokevirtual 29, 3) := by decide +kernel
theorem dX2_restore_34 : decode cX2_restore 34 = .ok (.aload_n 0, 1) := by decide +kernel
theorem dX2_restore_35 : decode cX2_restore 35 = .ok (.dup, 1) := by decide +kernel
theorem dX2_restore_36 : decode cX2_restore 36 = .ok (.getfield 21, 3) := by decide +kernel
theorem dX2_restore_39 : decode cX2_restore 39 = .ok (.iconst 1, 1) := by decide +kernel
theorem dX2_restore_40 : decode cX2_restore 40 = .ok (.isub, 1) := by decide +kernel
theorem dX2_restore_41 : decode cX2_restore 41 = .ok (.putfield 21, 3) := by decide +kernel
theorem dX2_restore_44 : decode cX2_restore 44 = .ok (.aload_n 0, 1) := by decide +kernel
theorem dX2_restore_45 : decode cX2_restore 45 = .ok (.getfield 21, 3) := by decide +kernel
theorem dX2_restore_48 : decode cX2_restore 48 = .ok (.ireturn, 1) := by decide +kernel
theorem dX2_boardAt_0 : decode cX2_boardAt 0 = .ok (.aload_n 0, 1) := by decide +kernel
theorem dX2_boardAt_1 : decode cX2_boardAt 1 = .ok (.getfield 17, 3) := by decide +kernel
theorem dX2_boardAt_4 : decode cX2_boardAt 4 = .ok (.iload_n 1, 1) := by decide +kernel
theorem dX2_boardAt_5 : decode cX2_boardAt 5 = .ok (.iadd, 1) := by decide +kernel
theorem dX2_boardAt_6 : decode cX2_boardAt 6 = .ok (.bipush 10, 2) := by decide +kernel
theorem dX2_boardAt_8 : decode cX2_boardAt 8 = .ok (.irem, 1) := by decide +kernel
theorem dX2_boardAt_9 : decode cX2_boardAt 9 = .ok (.istore_n 2, 1) := by decide +kernel
theorem dX2_boardAt_10 : decode cX2_boardAt 10 = .ok (.iload_n 2, 1) := by decide +kernel
theorem dX2_boardAt_11 : decode cX2_boardAt 11 = .ok (.ifCond .lt 21, 3) := by decide +kernel
theorem dX2_boardAt_14 : decode cX2_boardAt 14 = .ok (.iload_n 2, 1) := by decide +kernel
theorem dX2_boardAt_15 : decode cX2_boardAt 15 = .ok (.aload_n 0, 1) := by decide +kernel
theorem dX2_boardAt_16 : decode cX2_boardAt 16 = .ok (.getfield 11, 3) := by decide +kernel
theorem dX2_boardAt_19 : decode cX2_boardAt 19 = .ok (.arraylength, 1) := by decide +kernel
theorem dX2_boardAt_20 : decode cX2_boardAt 20 = .ok (.if_icmp .ge 12, 3) := by decide +kernel
theorem dX2_boardAt_23 : decode cX2_boardAt 23 = .ok (.aload_n 0, 1) := by decide +kernel
theorem dX2_boardAt_24 : decode cX2_boardAt 24 = .ok (.getfield 11, 3) := by decide +kernel
theorem dX2_boardAt_27 : decode cX2_boardAt 27 = .ok (.iload_n 2, 1) := by decide +kernel
theorem dX2_boardAt_28 : decode cX2_boardAt 28 = .ok (.aaload, 1) := by decide +kernel
theorem dX2_boardAt_29 : decode cX2_boardAt 29 = .ok (.goto 4, 3) := by decide +kernel
theorem dX2_boardAt_32 : decode cX2_boardAt 32 = .ok (.aconst_null, 1) := by decide +kernel
theorem dX2_boardAt_33 : decode cX2_boardAt 33 = .ok (.areturn, 1) := by decide +kernel
theorem dX3_init_0 : decode cX3_init 0 = .ok (.aload_n 0, 1) := by decide +kernel
theorem dX3_init_1 : decode cX3_init 1 = .ok (.invokespecial 3, 3) := by decide +kernel
theorem dX3_init_4 : decode cX3_init 4 = .ok (.aload_n 0, 1) := by decide +kernel
theorem dX3_init_5 : decode cX3_init 5 = .ok (.bipush 24, 2) := by decide +kernel
theorem dX3_init_7 : decode cX3_init 7 = .ok (.newarray .int, 2) := by decide +kernel
theorem dX3_init_9 : decode cX3_init 9 = .ok (.putfield 9, 3) := by decide +kernel
theorem dX3_init_12 : decode cX3_init 12 = .ok (.aload_n 0, 1) := by decide +kernel
theorem dX3_init_13 : decode cX3_init 13 = .ok (.bipush 24, 2) := by decide +kernel
theorem dX3_init_15 : decode cX3_init 15 = .ok (.newarray .int, 2) := by decide +kernel
theorem dX3_init_17 : decode cX3_init 17 = .ok (.putfield 15, 3) := by decide +kernel
theorem dX3_init_20 : decode cX3_init 20 = .ok (.return_, 1) := by decide +kernel
theorem dX3_spread_0 : decode cX3_spread 0 = .ok (.aload_n 1, 1) := by decide +kernel
theorem dX3_spread_1 : decode cX3_spread 1 = .ok (.getfield 18, 3) := by decide +kernel
theorem dX3_spread_4 : decode cX3_spread 4 = .ok (.iload_n 2, 1) := by decide +kernel
theorem dX3_spread_5 : decode cX3_spread 5 = .ok (.invokestatic 23, 3) := by decide +kernel
theorem dX3_spread_8 : decode cX3_spread 8 = .ok (.istore_n 3, 1) := by decide +kernel
theorem dX3_spread_9 : decode cX3_spread 9 = .ok (.aload_n 1, 1) := by decide +kernel
theorem dX3_spread_10 : decode cX3_spread 10 = .ok (.invokevirtual 27, 3) := by decide +kernel
theorem dX3_spread_13 : decode cX3_spread 13 = .ok (.aload_n 1, 1) := by decide +kernel
theorem dX3_spread_14 : decode cX3_spread 14 = .ok (.iload_n 2, 1) := by decide +kernel
theorem dX3_spread_15 : decode cX3_spread 15 = .ok (.invokevirtual 31, 3) := by decide +kernel
theorem dX3_spread_18 : decode cX3_spread 18 = .ok (.iconst (-1), 1) := by decide +kernel
theorem dX3_spread_19 : decode cX3_spread 19 = .ok (.ixor, 1) := by decide +kernel
theorem dX3_spread_20 : decode cX3_spread 20 = .ok (.iand, 1) := by decide +kernel
theorem dX3_spread_21 : decode cX3_spread 21 = .ok (.istore 4, 2) := by decide +kernel
theorem dX3_spread_23 : decode cX3_spread 23 = .ok (.aload_n 1, 1) := by decide +kernel
theorem dX3_spread_24 : decode cX3_spread 24 = .ok (.getfield 35, 3) := by decide +kernel
theorem dX3_spread_27 : decode cX3_spread 27 = .ok (.iload_n 2, 1) := by decide +kernel
theorem dX3_spread_28 : decode cX3_spread 28 = .ok (.invokestatic 23, 3) := by decide +kernel
theorem dX3_spread_31 : decode cX3_spread 31 = .ok (.istore 5, 2) := by decide +kernel
theorem dX3_spread_33 : decode cX3_spread 33 = .ok (.aload_n 0, 1) := by decide +kernel
theorem dX3_spread_34 : decode cX3_spread 34 = .ok (.getfield 9, 3) := by decide +kernel
theorem dX3_spread_37 : decode cX3_spread 37 = .ok (.iconst (-1), 1) := by decide +kernel
theorem dX3_spread_38 : decode cX3_spread 38 = .ok (.invokestatic 38, 3) := by decide +kernel
theorem dX3_spread_41 : decode cX3_spread 41 = .ok (.aload_n 0, 1) := by decide +kernel
theorem dX3_spread_42 : decode cX3_spread 42 = .ok (.getfield 9, 3) := by decide +kernel
theorem dX3_spread_45 : decode cX3_spread 45 = .ok (.iload 5, 2) := by decide +kernel
theorem dX3_spread_47 : decode cX3_spread 47 = .ok (.iconst 0, 1) := by decide +kernel
theorem dX3_spread_48 : decode cX3_spread 48 = .ok (.invokestatic 44, 3) := by decide +kernel
theorem dX3_spread_51 : decode cX3_spread 51 = .ok (.aload_n 0, 1) := by decide +kernel
theorem dX3_spread_52 : decode cX3_spread 52 = .ok (.getfield 15, 3) := by decide +kernel
theorem dX3_spread_55 : decode cX3_spread 55 = .ok (.iconst 0, 1) := by decide +kernel
theorem dX3_spread_56 : decode cX3_spread 56 = .ok (.iload 5, 2) := by decide +kernel
theorem dX3_spread_58 : decode cX3_spread 58 = .ok (.invokestatic 44, 3) := by decide +kernel
theorem dX3_spread_61 : decode cX3_spread 61 = .ok (.iconst 1, 1) := by decide +kernel
theorem dX3_spread_62 : decode cX3_spread 62 = .ok (.istore 6, 2) := by decide +kernel
theorem dX3_spread_64 : decode cX3_spread 64 = .ok (.iconst 0, 1) := by decide +kernel
theorem dX3_spread_65 : decode cX3_spread 65 = .ok (.istore 7, 2) := by decide +kernel
theorem dX3_spread_67 : decode cX3_spread 67 = .ok (.iload 7, 2) := by decide +kernel
theorem dX3_spread_69 : decode cX3_spread 69 = .ok (.iload 6, 2) := by decide +kernel
theorem dX3_spread_71 : decode cX3_spread 71 = .ok (.if_icmp .ge 121, 3) := by decide +kernel
theorem dX3_spread_74 : decode cX3_spread 74 = .ok (.iload 7, 2) := by decide +kernel
theorem dX3_spread_76 : decode cX3_spread 76 = .ok (.bipush 24, 2) := by decide +kernel
theorem dX3_spread_78 : decode cX3_spread 78 = .ok (.if_icmp .ge 114, 3) := by decide +kernel
theorem dX3_spread_81 : decode cX3_spread 81 = .ok (.aload_n 0, 1) := by decide +kernel
theorem dX3_spread_82 : decode cX3_spread 82 = .ok (.getfield 15, 3) := by decide +kernel
theorem dX3_spread_85 : decode cX3_spread 85 = .ok (.iload 7, 2) := by decide +kernel
theorem dX3_spread_87 : decode cX3_spread 87 = .ok (.invokestatic 23, 3) := by decide +kernel
theorem dX3_spread_90 : decode cX3_spread 90 = .ok (.istore 8, 2) := by decide +kernel
theorem dX3_spread_92 : decode cX3_spread 92 = .ok (.aload_n 1, 1) := by decide +kernel
theorem dX3_spread_93 : decode cX3_spread 93 = .ok (.iload_n 3, 1) := by decide +kernel
theorem dX3_spread_94 : decode cX3_spread 94 = .ok (.iload 8, 2) := by decide +kernel
theorem dX3_spread_96 : decode cX3_spread 96 = .ok (.ishl, 1) := by decide +kernel
theorem dX3_spread_97 : decode cX3_spread 97 = .ok (.iload 4, 2) := by decide +kernel
theorem dX3_spread_99 : decode cX3_spread 99 = .ok (.invokevirtual 48, 3) := by decide +kernel
theorem dX3_spread_102 : decode cX3_spread 102 = .ok (.istore 9, 2) := by decide +kernel
theorem dX3_spread_104 : decode cX3_spread 104 = .ok (.iconst 0, 1) := by decide +kernel
theorem dX3_spread_105 : decode cX3_spread 105 = .ok (.istore 10, 2) := by decide +kernel
theorem dX3_spread_107 : decode cX3_spread 107 = .ok (.iload 10, 2) := by decide +kernel
theorem dX3_spread_109 : decode cX3_spread 109 = .ok (.iconst 4, 1) := by decide +kernel
theorem dX3_spread_110 : decode cX3_spread 110 = .ok (.if_icmp .ge 76, 3) := by decide +kernel
theorem dX3_spread_113 : decode cX3_spread 113 = .ok (.iload 8, 2) := by decide +kernel
theorem dX3_spread_115 : decode cX3_spread 115 = .ok (.aload_n 1, 1) := by decide +kernel
theorem dX3_spread_116 : decode cX3_spread 116 = .ok (.iload 10, 2) := by decide +kernel
theorem dX3_spread_118 : decode cX3_spread 118 = .ok (.invokevirtual 52, 3) := by decide +kernel
theorem dX3_spread_121 : decode cX3_spread 121 = .ok (.iadd, 1) := by decide +kernel
theorem dX3_spread_122 : decode cX3_spread 122 = .ok (.istore 11, 2) := by decide +kernel
theorem dX3_spread_124 : decode cX3_spread 124 = .ok (.iload 9, 2) := by decide +kernel
theorem dX3_spread_126 : decode cX3_spread 126 = .ok (.iload 10, 2) := by decide +kernel
theorem dX3_spread_128 : decode cX3_spread 128 = .ok (.ishr, 1) := by decide +kernel
theorem dX3_spread_129 : decode cX3_spread 129 = .ok (.iconst 1, 1) := by decide +kernel
theorem dX3_spread_130 : decode cX3_spread 130 = .ok (.iand, 1) := by decide +kernel
theorem dX3_spread_131 : decode cX3_spread 131 = .ok (.ifCond .eq 49, 3) := by decide +kernel
theorem dX3_spread_134 : decode cX3_spread 134 = .ok (.aload_n 0, 1) := by decide +kernel
theorem dX3_spread_135 : decode cX3_spread 135 = .ok (.getfield 9, 3) := by decide +kernel
theorem dX3_spread_138 : decode cX3_spread 138 = .ok (.iload 11, 2) := by decide +kernel
theorem dX3_spread_140 : decode cX3_spread 140 = .ok (.invokestatic 23, 3) := by decide +kernel
theorem dX3_spread_143 : decode cX3_spread 143 = .ok (.ifCond .ge 37, 3) := by decide +kernel
theorem dX3_spread_146 : decode cX3_spread 146 = .ok (.aload_n 0, 1) := by decide +kernel
theorem dX3_spread_147 : decode cX3_spread 147 = .ok (.getfield 9, 3) := by decide +kernel
theorem dX3_spread_150 : decode cX3_spread 150 = .ok (.iload 11, 2) := by decide +kernel
theorem dX3_spread_152 : decode cX3_spread 152 = .ok (.aload_n 0, 1) := by decide +kernel
theorem dX3_spread_153 : decode cX3_spread 153 = .ok (.getfield 9, 3) := by decide +kernel
theorem dX3_spread_156 : decode cX3_spread 156 = .ok (.iload 8, 2) := by decide +kernel
theorem dX3_spread_158 : decode cX3_spread 158 = .ok (.invokestatic 23, 3) := by decide +kernel
theorem dX3_spread_161 : decode cX3_spread 161 = .ok (.iconst 1, 1) := by decide +kernel
theorem dX3_spread_162 : decode cX3_spread 162 = .ok (.iadd, 1) := by decide +kernel
theorem dX3_spread_163 : decode cX3_spread 163 = .ok (.invokestatic 44, 3) := by decide +kernel
theorem dX3_spread_166 : decode cX3_spread 166 = .ok (.aload_n 0, 1) := by decide +kernel
theorem dX3_spread_167 : decode cX3_spread 167 = .ok (.getfield 15, 3) := by decide +kernel
theorem dX3_spread_170 : decode cX3_spread 170 = .ok (.iload 6, 2) := by decide +kernel
theorem dX3_spread_172 : decode cX3_spread 172 = .ok (.iload 11, 2) := by decide +kernel
theorem dX3_spread_174 : decode cX3_spread 174 = .ok (.invokestatic 44, 3) := by decide +kernel
theorem dX3_spread_177 : decode cX3_spread 177 = .ok (.iinc 6 1, 3) := by decide +kernel
theorem dX3_spread_180 : decode cX3_spread 180 = .ok (.iinc 10 1, 3) := by decide +kernel
theorem dX3_spread_183 : decode cX3_spread 183 = .ok (.goto (-76), 3) := by decide +kernel
theorem dX3_spread_186 : decode cX3_spread 186 = .ok (.iinc 7 1, 3) := by decide +kernel
theorem dX3_spread_189 : decode cX3_spread 189 = .ok (.goto (-122), 3) := by decide +kernel
theorem dX3_spread_192 : decode cX3_spread 192 = .ok (.iload 6, 2) := by decide +kernel
theorem dX3_spread_194 : decode cX3_spread 194 = .ok (.iconst 1, 1) := by decide +kernel
theorem dX3_spread_195 : decode cX3_spread 195 = .ok (.isub, 1) := by decide +kernel
theorem dX3_spread_196 : decode cX3_spread 196 = .ok (.ireturn, 1) := by decide +kernel
theorem dX4_init_0 : decode cX4_init 0 = .ok (.aload_n 0, 1) := by decide +kernel
theorem dX4_init_1 : decode cX4_init 1 = .ok (.invokespecial 3, 3) := by decide +kernel
theorem dX4_init_4 : decode cX4_init 4 = .ok (.aload_n 0, 1) := by decide +kernel
theorem dX4_init_5 : decode cX4_init 5 = .ok (.sipush 2000, 3) := by decide +kernel
theorem dX4_init_8 : decode cX4_init 8 = .ok (.newarray .int, 2) := by decide +kernel
theorem dX4_init_10 : decode cX4_init 10 = .ok (.putfield 9, 3) := by decide +kernel
theorem dX4_init_13 : decode cX4_init 13 = .ok (.aload_n 0, 1) := by decide +kernel
theorem dX4_init_14 : decode cX4_init 14 = .ok (.sipush 2000, 3) := by decide +kernel
theorem dX4_init_17 : decode cX4_init 17 = .ok (.newarray .int, 2) := by decide +kernel
