theorem dX8_shapes_81 : decode cX8_shapes 81 = .ok (.irem, 1) := by decide +kernel
theorem dX8_shapes_82 : decode cX8_shapes 82 = .ok (.goto 5, 3) := by decide +kernel
theorem dX8_shapes_85 : decode cX8_shapes 85 = .ok (.iload 4, 2) := by decide +kernel
theorem dX8_shapes_87 : decode cX8_shapes 87 = .ok (.istore 4, 2) := by decide +kernel
theorem dX8_shapes_89 : decode cX8_shapes 89 = .ok (.iload 7, 2) := by decide +kernel
theorem dX8_shapes_91 : decode cX8_shapes 91 = .ok (.aload_n 0, 1) := by decide +kernel
theorem dX8_shapes_92 : decode cX8_shapes 92 = .ok (.getfield 61, 3) := by decide +kernel
theorem dX8_shapes_95 : decode cX8_shapes 95 = .ok (.idiv, 1) := by decide +kernel
theorem dX8_shapes_96 : decode cX8_shapes 96 = .ok (.iload 5, 2) := by decide +kernel
theorem dX8_shapes_98 : decode cX8_shapes 98 = .ok (.if_icmp .ge 13, 3) := by decide +kernel
theorem dX8_shapes_101 : decode cX8_shapes 101 = .ok (.iload 7, 2) := by decide +kernel
theorem dX8_shapes_103 : decode cX8_shapes 103 = .ok (.aload_n 0, 1) := by decide +kernel
theorem dX8_shapes_104 : decode cX8_shapes 104 = .ok (.getfield 61, 3) := by decide +kernel
theorem dX8_shapes_107 : decode cX8_shapes 107 = .ok (.idiv, 1) := by decide +kernel
theorem dX8_shapes_108 : decode cX8_shapes 108 = .ok (.goto 5, 3) := by decide +kernel
theorem dX8_shapes_111 : decode cX8_shapes 111 = .ok (.iload 5, 2) := by decide +kernel
theorem dX8_shapes_113 : decode cX8_shapes 113 = .ok (.istore 5, 2) := by decide +kernel
theorem dX8_shapes_115 : decode cX8_shapes 115 = .ok (.iload 7, 2) := by decide +kernel
theorem dX8_shapes_117 : decode cX8_shapes 117 = .ok (.aload_n 0, 1) := by decide +kernel
theorem dX8_shapes_118 : decode cX8_shapes 118 = .ok (.getfield 61, 3) := by decide +kernel
theorem dX8_shapes_121 : decode cX8_shapes 121 = .ok (.idiv, 1) := by decide +kernel
theorem dX8_shapes_122 : decode cX8_shapes 122 = .ok (.iload 6, 2) := by decide +kernel
theorem dX8_shapes_124 : decode cX8_shapes 124 = .ok (.if_icmp .le 13, 3) := by decide +kernel
theorem dX8_shapes_127 : decode cX8_shapes 127 = .ok (.iload 7, 2) := by decide +kernel
theorem dX8_shapes_129 : decode cX8_shapes 129 = .ok (.aload_n 0, 1) := by decide +kernel
theorem dX8_shapes_130 : decode cX8_shapes 130 = .ok (.getfield 61, 3) := by decide +kernel
theorem dX8_shapes_133 : decode cX8_shapes 133 = .ok (.idiv, 1) := by decide +kernel
theorem dX8_shapes_134 : decode cX8_shapes 134 = .ok (.goto 5, 3) := by decide +kernel
theorem dX8_shapes_137 : decode cX8_shapes 137 = .ok (.iload 6, 2) := by decide +kernel
theorem dX8_shapes_139 : decode cX8_shapes 139 = .ok (.istore 6, 2) := by decide +kernel
theorem dX8_shapes_141 : decode cX8_shapes 141 = .ok (.iinc 7 1, 3) := by decide +kernel
theorem dX8_shapes_144 : decode cX8_shapes 144 = .ok (.goto (-128), 3) := by decide +kernel
theorem dX8_shapes_147 : decode cX8_shapes 147 = .ok (.aload_n 0, 1) := by decide +kernel
theorem dX8_shapes_148 : decode cX8_shapes 148 = .ok (.getfield 7, 3) := by decide +kernel
theorem dX8_shapes_151 : decode cX8_shapes 151 = .ok (.bipush 31, 2) := by decide +kernel
theorem dX8_shapes_153 : decode cX8_shapes 153 = .ok (.iload_n 1, 1) := by decide +kernel
theorem dX8_shapes_154 : decode cX8_shapes 154 = .ok (.iadd, 1) := by decide +kernel
theorem dX8_shapes_155 : decode cX8_shapes 155 = .ok (.iload 5, 2) := by decide +kernel
theorem dX8_shapes_157 : decode cX8_shapes 157 = .ok (.aload_n 0, 1) := by decide +kernel
theorem dX8_shapes_158 : decode cX8_shapes 158 = .ok (.getfield 61, 3) := by decide +kernel
theorem dX8_shapes_161 : decode cX8_shapes 161 = .ok (.imul, 1) := by decide +kernel
theorem dX8_shapes_162 : decode cX8_shapes 162 = .ok (.iload_n 3, 1) := by decide +kernel
theorem dX8_shapes_163 : decode cX8_shapes 163 = .ok (.iadd, 1) := by decide +kernel
theorem dX8_shapes_164 : decode cX8_shapes 164 = .ok (.iastore, 1) := by decide +kernel
theorem dX8_shapes_165 : decode cX8_shapes 165 = .ok (.aload_n 0, 1) := by decide +kernel
theorem dX8_shapes_166 : decode cX8_shapes 166 = .ok (.getfield 7, 3) := by decide +kernel
theorem dX8_shapes_169 : decode cX8_shapes 169 = .ok (.bipush 10, 2) := by decide +kernel
theorem dX8_shapes_171 : decode cX8_shapes 171 = .ok (.iload_n 1, 1) := by decide +kernel
theorem dX8_shapes_172 : decode cX8_shapes 172 = .ok (.iadd, 1) := by decide +kernel
theorem dX8_shapes_173 : decode cX8_shapes 173 = .ok (.iload_n 2, 1) := by decide +kernel
theorem dX8_shapes_174 : decode cX8_shapes 174 = .ok (.aload_n 0, 1) := by decide +kernel
theorem dX8_shapes_175 : decode cX8_shapes 175 = .ok (.getfield 7, 3) := by decide +kernel
theorem dX8_shapes_178 : decode cX8_shapes 178 = .ok (.bipush 31, 2) := by decide +kernel
theorem dX8_shapes_180 : decode cX8_shapes 180 = .ok (.iload_n 1, 1) := by decide +kernel
theorem dX8_shapes_181 : decode cX8_shapes 181 = .ok (.iadd, 1) := by decide +kernel
theorem dX8_shapes_182 : decode cX8_shapes 182 = .ok (.iaload, 1) := by decide +kernel
theorem dX8_shapes_183 : decode cX8_shapes 183 = .ok (.ishr, 1) := by decide +kernel
theorem dX8_shapes_184 : decode cX8_shapes 184 = .ok (.iastore, 1) := by decide +kernel
theorem dX8_shapes_185 : decode cX8_shapes 185 = .ok (.aload_n 0, 1) := by decide +kernel
theorem dX8_shapes_186 : decode cX8_shapes 186 = .ok (.getfield 7, 3) := by decide +kernel
theorem dX8_shapes_189 : decode cX8_shapes 189 = .ok (.bipush 17, 2) := by decide +kernel
theorem dX8_shapes_191 : decode cX8_shapes 191 = .ok (.iload_n 1, 1) := by decide +kernel
theorem dX8_shapes_192 : decode cX8_shapes 192 = .ok (.iadd, 1) := by decide +kernel
theorem dX8_shapes_193 : decode cX8_shapes 193 = .ok (.iload 4, 2) := by decide +kernel
theorem dX8_shapes_195 : decode cX8_shapes 195 = .ok (.iload_n 3, 1) := by decide +kernel
theorem dX8_shapes_196 : decode cX8_shapes 196 = .ok (.isub, 1) := by decide +kernel
theorem dX8_shapes_197 : decode cX8_shapes 197 = .ok (.iconst 1, 1) := by decide +kernel
theorem dX8_shapes_198 : decode cX8_shapes 198 = .ok (.iadd, 1) := by decide +kernel
theorem dX8_shapes_199 : decode cX8_shapes 199 = .ok (.iastore, 1) := by decide +kernel
theorem dX8_shapes_200 : decode cX8_shapes 200 = .ok (.aload_n 0, 1) := by decide +kernel
theorem dX8_shapes_201 : decode cX8_shapes 201 = .ok (.getfield 7, 3) := by decide +kernel
theorem dX8_shapes_204 : decode cX8_shapes 204 = .ok (.bipush 24, 2) := by decide +kernel
theorem dX8_shapes_206 : decode cX8_shapes 206 = .ok (.iload_n 1, 1) := by decide +kernel
theorem dX8_shapes_207 : decode cX8_shapes 207 = .ok (.iadd, 1) := by decide +kernel
theorem dX8_shapes_208 : decode cX8_shapes 208 = .ok (.iload 6, 2) := by decide +kernel
theorem dX8_shapes_210 : decode cX8_shapes 210 = .ok (.iload 5, 2) := by decide +kernel
theorem dX8_shapes_212 : decode cX8_shapes 212 = .ok (.isub, 1) := by decide +kernel
theorem dX8_shapes_213 : decode cX8_shapes 213 = .ok (.iconst 1, 1) := by decide +kernel
theorem dX8_shapes_214 : decode cX8_shapes 214 = .ok (.iadd, 1) := by decide +kernel
theorem dX8_shapes_215 : decode cX8_shapes 215 = .ok (.iastore, 1) := by decide +kernel
theorem dX8_shapes_216 : decode cX8_shapes 216 = .ok (.return_, 1) := by decide +kernel
theorem dX8_isInside_0 : decode cX8_isInside 0 = .ok (.iload_n 2, 1) := by decide +kernel
theorem dX8_isInside_1 : decode cX8_isInside 1 = .ok (.iconst 0, 1) := by decide +kernel
theorem dX8_isInside_2 : decode cX8_isInside 2 = .ok (.aload_n 0, 1) := by decide +kernel
theorem dX8_isInside_3 : decode cX8_isInside 3 = .ok (.invokevirtual 98, 3) := by decide +kernel
theorem dX8_isInside_6 : decode cX8_isInside 6 = .ok (.iconst 1, 1) := by decide +kernel
theorem dX8_isInside_7 : decode cX8_isInside 7 = .ok (.isub, 1) := by decide +kernel
theorem dX8_isInside_8 : decode cX8_isInside 8 = .ok (.invokestatic 54, 3) := by decide +kernel
theorem dX8_isInside_11 : decode cX8_isInside 11 = .ok (.ifCond .eq 61, 3) := by decide +kernel
theorem dX8_isInside_14 : decode cX8_isInside 14 = .ok (.iload_n 2, 1) := by decide +kernel
theorem dX8_isInside_15 : decode cX8_isInside 15 = .ok (.aload_n 0, 1) := by decide +kernel
theorem dX8_isInside_16 : decode cX8_isInside 16 = .ok (.getfield 7, 3) := by decide +kernel
theorem dX8_isInside_19 : decode cX8_isInside 19 = .ok (.iconst 0, 1) := by decide +kernel
theorem dX8_isInside_20 : decode cX8_isInside 20 = .ok (.iaload, 1) := by decide +kernel
theorem dX8_isInside_21 : decode cX8_isInside 21 = .ok (.irem, 1) := by decide +kernel
theorem dX8_isInside_22 : decode cX8_isInside 22 = .ok (.aload_n 0, 1) := by decide +kernel
theorem dX8_isInside_23 : decode cX8_isInside 23 = .ok (.getfield 7, 3) := by decide +kernel
theorem dX8_isInside_26 : decode cX8_isInside 26 = .ok (.bipush 17, 2) := by decide +kernel
theorem dX8_isInside_28 : decode cX8_isInside 28 = .ok (.iload_n 1, 1) := by decide +kernel
theorem dX8_isInside_29 : decode cX8_isInside 29 = .ok (.iadd, 1) := by decide +kernel
theorem dX8_isInside_30 : decode cX8_isInside 30 = .ok (.iaload, 1) := by decide +kernel
theorem dX8_isInside_31 : decode cX8_isInside 31 = .ok (.iadd, 1) := by decide +kernel
theorem dX8_isInside_32 : decode cX8_isInside 32 = .ok (.aload_n 0, 1) := by decide +kernel
theorem dX8_isInside_33 : decode cX8_isInside 33 = .ok (.getfield 7, 3) := by decide +kernel
theorem dX8_isInside_36 : decode cX8_isInside 36 = .ok (.iconst 0, 1) := by decide +kernel
theorem dX8_isInside_37 : decode cX8_isInside 37 = .ok (.iaload, 1) := by decide +kernel
theorem dX8_isInside_38 : decode cX8_isInside 38 = .ok (.if_icmp .gt 34, 3) := by decide +kernel
theorem dX8_isInside_41 : decode cX8_isInside 41 = .ok (.iload_n 2, 1) := by decide +kernel
theorem dX8_isInside_42 : decode cX8_isInside 42 = .ok (.aload_n 0, 1) := by decide +kernel
theorem dX8_isInside_43 : decode cX8_isInside 43 = .ok (.getfield 7, 3) := by decide +kernel
theorem dX8_isInside_46 : decode cX8_isInside 46 = .ok (.iconst 0, 1) := by decide +kernel
theorem dX8_isInside_47 : decode cX8_isInside 47 = .ok (.iaload, 1) := by decide +kernel
theorem dX8_isInside_48 : decode cX8_isInside 48 = .ok (.idiv, 1) := by decide +kernel
theorem dX8_isInside_49 : decode cX8_isInside 49 = .ok (.aload_n 0, 1) := by decide +kernel
theorem dX8_isInside_50 : decode cX8_isInside 50 = .ok (.getfield 7, 3) := by decide +kernel
theorem dX8_isInside_53 : decode cX8_isInside 53 = .ok (.bipush 24, 2) := by decide +kernel
theorem dX8_isInside_55 : decode cX8_isInside 55 = .ok (.iload_n 1, 1) := by decide +kernel
theorem dX8_isInside_56 : decode cX8_isInside 56 = .ok (.iadd, 1) := by decide +kernel
theorem dX8_isInside_57 : decode cX8_isInside 57 = .ok (.iaload, 1) := by decide +kernel
theorem dX8_isInside_58 : decode cX8_isInside 58 = .ok (.iadd, 1) := by decide +kernel
theorem dX8_isInside_59 : decode cX8_isInside 59 = .ok (.aload_n 0, 1) := by decide +kernel
theorem dX8_isInside_60 : decode cX8_isInside 60 = .ok (.getfield 7, 3) := by decide +kernel
theorem dX8_isInside_63 : decode cX8_isInside 63 = .ok (.iconst 1, 1) := by decide +kernel
theorem dX8_isInside_64 : decode cX8_isInside 64 = .ok (.iaload, 1) := by decide +kernel
theorem dX8_isInside_65 : decode cX8_isInside 65 = .ok (.if_icmp .gt 7, 3) := by decide +kernel
theorem dX8_isInside_68 : decode cX8_isInside 68 = .ok (.iconst 1, 1) := by decide +kernel
theorem dX8_isInside_69 : decode cX8_isInside 69 = .ok (.goto 4, 3) := by decide +kernel
theorem dX8_isInside_72 : decode cX8_isInside 72 = .ok (.iconst 0, 1) := by decide +kernel
theorem dX8_isInside_73 : decode cX8_isInside 73 = .ok (.ireturn, 1) := by decide +kernel
theorem dX8_placeIn_0 : decode cX8_placeIn 0 = .ok (.lload_n 0, 1) := by decide +kernel
theorem dX8_placeIn_1 : decode cX8_placeIn 1 = .ok (.iconst 5, 1) := by decide +kernel
theorem dX8_placeIn_2 : decode cX8_placeIn 2 = .ok (.bipush 6, 2) := by decide +kernel
theorem dX8_placeIn_4 : decode cX8_placeIn 4 = .ok (.iload_n 2, 1) := by decide +kernel
theorem dX8_placeIn_5 : decode cX8_placeIn 5 = .ok (.isub, 1) := by decide +kernel
theorem dX8_placeIn_6 : decode cX8_placeIn 6 = .ok (.imul, 1) := by decide +kernel
theorem dX8_placeIn_7 : decode cX8_placeIn 7 = .ok (.lshr, 1) := by decide +kernel
theorem dX8_placeIn_8 : decode cX8_placeIn 8 = .ok (.l2i, 1) := by decide +kernel
theorem dX8_placeIn_9 : decode cX8_placeIn 9 = .ok (.bipush 31, 2) := by decide +kernel
theorem dX8_placeIn_11 : decode cX8_placeIn 11 = .ok (.iand, 1) := by decide +kernel
theorem dX8_placeIn_12 : decode cX8_placeIn 12 = .ok (.ireturn, 1) := by decide +kernel
theorem dX8_with_0 : decode cX8_with 0 = .ok (.iconst 5, 1) := by decide +kernel
theorem dX8_with_1 : decode cX8_with 1 = .ok (.bipush 6, 2) := by decide +kernel
theorem dX8_with_3 : decode cX8_with 3 = .ok (.iload_n 2, 1) := by decide +kernel
theorem dX8_with_4 : decode cX8_with 4 = .ok (.isub, 1) := by decide +kernel
theorem dX8_with_5 : decode cX8_with 5 = .ok (.imul, 1) := by decide +kernel
theorem dX8_with_6 : decode cX8_with 6 = .ok (.istore 4, 2) := by decide +kernel
theorem dX8_with_8 : decode cX8_with 8 = .ok (.lload_n 0, 1) := by decide +kernel
theorem dX8_with_9 : decode cX8_with 9 = .ok (.ldc2_w 101, 3) := by decide +kernel
theorem dX8_with_12 : decode cX8_with 12 = .ok (.iload 4, 2) := by decide +kernel
theorem dX8_with_14 : decode cX8_with 14 = .ok (.lshl, 1) := by decide +kernel
theorem dX8_with_15 : decode cX8_with 15 = .ok (.ldc2_w 103, 3) := by decide +kernel
theorem dX8_with_18 : decode cX8_with 18 = .ok (.lxor, 1) := by decide +kernel
theorem dX8_with_19 : decode cX8_with 19 = .ok (.land, 1) := by decide +kernel
theorem dX8_with_20 : decode cX8_with 20 = .ok (.iload_n 3, 1) := by decide +kernel
theorem dX8_with_21 : decode cX8_with 21 = .ok (.i2l, 1) := by decide +kernel
theorem dX8_with_22 : decode cX8_with 22 = .ok (.iload 4, 2) := by decide +kernel
theorem dX8_with_24 : decode cX8_with 24 = .ok (.lshl, 1) := by decide +kernel
theorem dX8_with_25 : decode cX8_with 25 = .ok (.lor, 1) := by decide +kernel
theorem dX8_with_26 : decode cX8_with 26 = .ok (.lreturn, 1) := by decide +kernel
theorem dX8_present_0 : decode cX8_present 0 = .ok (.lconst 0, 1) := by decide +kernel
theorem dX8_present_1 : decode cX8_present 1 = .ok (.lstore_n 1, 1) := by decide +kernel
theorem dX8_present_2 : decode cX8_present 2 = .ok (.iconst 0, 1) := by decide +kernel
theorem dX8_present_3 : decode cX8_present 3 = .ok (.istore_n 3, 1) := by decide +kernel
theorem dX8_present_4 : decode cX8_present 4 = .ok (.iload_n 3, 1) := by decide +kernel
theorem dX8_present_5 : decode cX8_present 5 = .ok (.aload_n 0, 1) := by decide +kernel
theorem dX8_present_6 : decode cX8_present 6 = .ok (.getfield 7, 3) := by decide +kernel
theorem dX8_present_9 : decode cX8_present 9 = .ok (.iconst 2, 1) := by decide +kernel
theorem dX8_present_10 : decode cX8_present 10 = .ok (.iaload, 1) := by decide +kernel
theorem dX8_present_11 : decode cX8_present 11 = .ok (.if_icmp .ge 24, 3) := by decide +kernel
theorem dX8_present_14 : decode cX8_present 14 = .ok (.lload_n 1, 1) := by decide +kernel
theorem dX8_present_15 : decode cX8_present 15 = .ok (.iload_n 3, 1) := by decide +kernel
theorem dX8_present_16 : decode cX8_present 16 = .ok (.aload_n 0, 1) := by decide +kernel
theorem dX8_present_17 : decode cX8_present 17 = .ok (.getfield 7, 3) := by decide +kernel
theorem dX8_present_20 : decode cX8_present 20 = .ok (.bipush 31, 2) := by decide +kernel
theorem dX8_present_22 : decode cX8_present 22 = .ok (.iload_n 3, 1) := by decide +kernel
theorem dX8_present_23 : decode cX8_present 23 = .ok (.iadd, 1) := by decide +kernel
theorem dX8_present_24 : decode cX8_present 24 = .ok (.iaload, 1) := by decide +kernel
theorem dX8_present_25 : decode cX8_present 25 = .ok (.invokestatic 105, 3) := by decide +kernel
theorem dX8_present_28 : decode cX8_present 28 = .ok (.lstore_n 1, 1) := by decide +kernel
theorem dX8_present_29 : decode cX8_present 29 = .ok (.iinc 3 1, 3) := by decide +kernel
theorem dX8_present_32 : decode cX8_present 32 = .ok (.goto (-28), 3) := by decide +kernel
theorem dX8_present_35 : decode cX8_present 35 = .ok (.lload_n 1, 1) := by decide +kernel
theorem dX8_present_36 : decode cX8_present 36 = .ok (.lreturn, 1) := by decide +kernel
theorem dX8_taken_0 : decode cX8_taken 0 = .ok (.aload_n 0, 1) := by decide +kernel
theorem dX8_taken_1 : decode cX8_taken 1 = .ok (.getfield 7, 3) := by decide +kernel
theorem dX8_taken_4 : decode cX8_taken 4 = .ok (.iconst 3, 1) := by decide +kernel
theorem dX8_taken_5 : decode cX8_taken 5 = .ok (.iaload, 1) := by decide +kernel
theorem dX8_taken_6 : decode cX8_taken 6 = .ok (.istore 4, 2) := by decide +kernel
theorem dX8_taken_8 : decode cX8_taken 8 = .ok (.iconst 0, 1) := by decide +kernel
theorem dX8_taken_9 : decode cX8_taken 9 = .ok (.istore 5, 2) := by decide +kernel
theorem dX8_taken_11 : decode cX8_taken 11 = .ok (.iload 5, 2) := by decide +kernel
theorem dX8_taken_13 : decode cX8_taken 13 = .ok (.aload_n 0, 1) := by decide +kernel
theorem dX8_taken_14 : decode cX8_taken 14 = .ok (.getfield 7, 3) := by decide +kernel
theorem dX8_taken_17 : decode cX8_taken 17 = .ok (.iconst 2, 1) := by decide +kernel
theorem dX8_taken_18 : decode cX8_taken 18 = .ok (.iaload, 1) := by decide +kernel
theorem dX8_taken_19 : decode cX8_taken 19 = .ok (.if_icmp .ge 50, 3) := by decide +kernel
theorem dX8_taken_22 : decode cX8_taken 22 = .ok (.iload 4, 2) := by decide +kernel
theorem dX8_taken_24 : decode cX8_taken 24 = .ok (.iload 5, 2) := by decide +kernel
theorem dX8_taken_26 : decode cX8_taken 26 = .ok (.iload_n 3, 1) := by decide +kernel
theorem dX8_taken_27 : decode cX8_taken 27 = .ok (.if_icmp .eq 12, 3) := by decide +kernel
theorem dX8_taken_30 : decode cX8_taken 30 = .ok (.iload 5, 2) := by decide +kernel
theorem dX8_taken_32 : decode cX8_taken 32 = .ok (.aload_n 0, 1) := by decide +kernel
theorem dX8_taken_33 : decode cX8_taken 33 = .ok (.getfield 28, 3) := by decide +kernel
theorem dX8_taken_36 : decode cX8_taken 36 = .ok (.if_icmp .ne 7, 3) := by decide +kernel
theorem dX8_taken_39 : decode cX8_taken 39 = .ok (.iconst 0, 1) := by decide +kernel
theorem dX8_taken_40 : decode cX8_taken 40 = .ok (.goto 20, 3) := by decide +kernel
theorem dX8_taken_43 : decode cX8_taken 43 = .ok (.aload_n 0, 1) := by decide +kernel
theorem dX8_taken_44 : decode cX8_taken 44 = .ok (.getfield 7, 3) := by decide +kernel
theorem dX8_taken_47 : decode cX8_taken 47 = .ok (.bipush 10, 2) := by decide +kernel
theorem dX8_taken_49 : decode cX8_taken 49 = .ok (.iload 5, 2) := by decide +kernel
theorem dX8_taken_51 : decode cX8_taken 51 = .ok (.iadd, 1) := by decide +kernel
theorem dX8_taken_52 : decode cX8_taken 52 = .ok (.iaload, 1) := by decide +kernel
theorem dX8_taken_53 : decode cX8_taken 53 = .ok (.lload_n 1, 1) := by decide +kernel
theorem dX8_taken_54 : decode cX8_taken 54 = .ok (.iload 5, 2) := by decide +kernel
theorem dX8_taken_56 : decode cX8_taken 56 = .ok (.invokestatic 109, 3) := by decide +kernel
theorem dX8_taken_59 : decode cX8_taken 59 = .ok (.ishl, 1) := by decide +kernel
theorem dX8_taken_60 : decode cX8_taken 60 = .ok (.ior, 1) := by decide +kernel
theorem dX8_taken_61 : decode cX8_taken 61 = .ok (.istore 4, 2) := by decide +kernel
theorem dX8_taken_63 : decode cX8_taken 63 = .ok (.iinc 5 1, 3) := by decide +kernel
theorem dX8_taken_66 : decode cX8_taken 66 = .ok (.goto (-55), 3) := by decide +kernel
theorem dX8_taken_69 : decode cX8_taken 69 = .ok (.iload 4, 2) := by decide +kernel
theorem dX8_taken_71 : decode cX8_taken 71 = .ok (.ireturn, 1) := by decide +kernel
theorem dX8_beside_0 : decode cX8_beside 0 = .ok (.iload_n 2, 1) := by decide +kernel
theorem dX8_beside_1 : decode cX8_beside 1 = .ok (.aload_n 0, 1) := by decide +kernel
theorem dX8_beside_2 : decode cX8_beside 2 = .ok (.getfield 7, 3) := by decide +kernel
theorem dX8_beside_5 : decode cX8_beside 5 = .ok (.iconst 0, 1) := by decide +kernel
theorem dX8_beside_6 : decode cX8_beside 6 = .ok (.iaload, 1) := by decide +kernel
theorem dX8_beside_7 : decode cX8_beside 7 = .ok (.irem, 1) := by decide +kernel
theorem dX8_beside_8 : decode cX8_beside 8 = .ok (.iload_n 3, 1) := by decide +kernel
theorem dX8_beside_9 : decode cX8_beside 9 = .ok (.iconst 1, 1) := by decide +kernel
theorem dX8_beside_10 : decode cX8_beside 10 = .ok (.if_icmp .ne 7, 3) := by decide +kernel
theorem dX8_beside_13 : decode cX8_beside 13 = .ok (.iconst 1, 1) := by decide +kernel
theorem dX8_beside_14 : decode cX8_beside 14 = .ok (.goto 13, 3) := by decide +kernel
theorem dX8_beside_17 : decode cX8_beside 17 = .ok (.iload_n 3, 1) := by decide +kernel
theorem dX8_beside_18 : decode cX8_beside 18 = .ok (.iconst 3, 1) := by decide +kernel
theorem dX8_beside_19 : decode cX8_beside 19 = .ok (.if_icmp .ne 7, 3) := by decide +kernel
theorem dX8_beside_22 : decode cX8_beside 22 = .ok (.iconst (-1), 1) := by decide +kernel
theorem dX8_beside_23 : decode cX8_beside 23 = .ok (.goto 4, 3) := by decide +kernel
theorem dX8_beside_26 : decode cX8_beside 26 = .ok (.iconst 0, 1) := by decide +kernel
theorem dX8_beside_27 : decode cX8_beside 27 = .ok (.iadd, 1) := by decide +kernel
theorem dX8_beside_28 : decode cX8_beside 28 = .ok (.istore 4, 2) := by decide +kernel
theorem dX8_beside_30 : decode cX8_beside 30 = .ok (.iload_n 2, 1) := by decide +kernel
theorem dX8_beside_31 : decode cX8_beside 31 = .ok (.aload_n 0, 1) := by decide +kernel
theorem dX8_beside_32 : decode cX8_beside 32 = .ok (.getfield 7, 3) := by decide +kernel
theorem dX8_beside_35 : decode cX8_beside 35 = .ok (.iconst 0, 1) := by decide +kernel
theorem dX8_beside_36 : decode cX8_beside 36 = .ok (.iaload, 1) := by decide +kernel
theorem dX8_beside_37 : decode cX8_beside 37 = .ok (.idiv, 1) := by decide +kernel
theorem dX8_beside_38 : decode cX8_beside 38 = .ok (.iload_n 3, 1) := by decide +kernel
theorem dX8_beside_39 : decode cX8_beside 39 = .ok (.iconst 2, 1) := by decide +kernel
theorem dX8_beside_40 : decode cX8_beside 40 = .ok (.if_icmp .ne 7, 3) := by decide +kernel
theorem dX8_beside_43 : decode cX8_beside 43 = .ok (.iconst 1, 1) := by decide +kernel
theorem dX8_beside_44 : decode cX8_beside 44 = .ok (.goto 12, 3) := by decide +kernel
theorem dX8_beside_47 : decode cX8_beside 47 = .ok (.iload_n 3, 1) := by decide +kernel
theorem dX8_beside_48 : decode cX8_beside 48 = .ok (.ifCond .ne 7, 3) := by decide +kernel
theorem dX8_beside_51 : decode cX8_beside 51 = .ok (.iconst (-1), 1) := by decide +kernel
theorem dX8_beside_52 : decode cX8_beside 52 = .ok (.goto 4, 3) := by decide +kernel
theorem dX8_beside_55 : decode cX8_beside 55 = .ok (.iconst 0, 1) := by decide +kernel
theorem dX8_beside_56 : decode cX8_beside 56 = .ok (.iadd, 1) := by decide +kernel
theorem dX8_beside_57 : decode cX8_beside 57 = .ok (.istore 5, 2) := by decide +kernel
theorem dX8_beside_59 : decode cX8_beside 59 = .ok (.iload 4, 2) := by decide +kernel
theorem dX8_beside_61 : decode cX8_beside 61 = .ok (.ifCond .lt 54, 3) := by decide +kernel
theorem dX8_beside_64 : decode cX8_beside 64 = .ok (.iload 5, 2) := by decide +kernel
theorem dX8_beside_66 : decode cX8_beside 66 = .ok (.ifCond .lt 49, 3) := by decide +kernel
theorem dX8_beside_69 : decode cX8_beside 69 = .ok (.iload 4, 2) := by decide +kernel
theorem dX8_beside_71 : decode cX8_beside 71 = .ok (.aload_n 0, 1) := by decide +kernel
theorem dX8_beside_72 : decode cX8_beside 72 = .ok (.getfield 7, 3) := by decide +kernel
theorem dX8_beside_75 : decode cX8_beside 75 = .ok (.bipush 17, 2) := by decide +kernel
theorem dX8_beside_77 : decode cX8_beside 77 = .ok (.iload_n 1, 1) := by decide +kernel
theorem dX8_beside_78 : decode cX8_beside 78 = .ok (.iadd, 1) := by decide +kernel
theorem dX8_beside_79 : decode cX8_beside 79 = .ok (.iaload, 1) := by decide +kernel
theorem dX8_beside_80 : decode cX8_beside 80 = .ok (.iadd, 1) := by decide +kernel
theorem dX8_beside_81 : decode cX8_beside 81 = .ok (.aload_n 0, 1) := by decide +kernel
theorem dX8_beside_82 : decode cX8_beside 82 = .ok (.getfield 7, 3) := by decide +kernel
theorem dX8_beside_85 : decode cX8_beside 85 = .ok (.iconst 0, 1) := by decide +kernel
theorem dX8_beside_86 : decode cX8_beside 86 = .ok (.iaload, 1) := by decide +kernel
theorem dX8_beside_87 : decode cX8_beside 87 = .ok (.if_icmp .gt 28, 3) := by decide +kernel
theorem dX8_beside_90 : decode cX8_beside 90 = .ok (.iload 5, 2) := by decide +kernel
theorem dX8_beside_92 : decode cX8_beside 92 = .ok (.aload_n 0, 1) := by decide +kernel
theorem dX8_beside_93 : decode cX8_beside 93 = .ok (.getfield 7, 3) := by decide +kernel
theorem dX8_beside_96 : decode cX8_beside 96 = .ok (.bipush 24, 2) := by decide +kernel
theorem dX8_beside_98 : decode cX8_beside 98 = .ok (.iload_n 1, 1) := by decide +kernel
theorem dX8_beside_99 : decode cX8_beside 99 = .ok (.iadd, 1) := by decide +kernel
theorem dX8_beside_100 : decode cX8_beside 100 = .ok (.iaload, 1) := by decide +kernel
theorem dX8_beside_101 : decode cX8_beside 101 = .ok (.iadd, 1) := by decide +kernel
theorem dX8_beside_102 : decode cX8_beside 102 = .ok (.aload_n 0, 1) := by decide +kernel
theorem dX8_beside_103 : decode cX8_beside 103 = .ok (.getfield 7, 3) := by decide +kernel
theorem dX8_beside_106 : decode cX8_beside 106 = .ok (.iconst 1, 1) := by decide +kernel
theorem dX8_beside_107 : decode cX8_beside 107 = .ok (.iaload, 1) := by decide +kernel
theorem dX8_beside_108 : decode cX8_beside 108 = .ok (.if_icmp .gt 7, 3) := by decide +kernel
theorem dX8_beside_111 : decode cX8_beside 111 = .ok (.iconst 1, 1) := by decide +kernel
theorem dX8_beside_112 : decode cX8_beside 112 = .ok (.goto 4, 3) := by decide +kernel
theorem dX8_beside_115 : decode cX8_beside 115 = .ok (.iconst 0, 1) := by decide +kernel
theorem dX8_beside_116 : decode cX8_beside 116 = .ok (.istore 6, 2) := by decide +kernel
theorem dX8_beside_118 : decode cX8_beside 118 = .ok (.iload 6, 2) := by decide +kernel
theorem dX8_beside_120 : decode cX8_beside 120 = .ok (.ifCond .eq 18, 3) := by decide +kernel
theorem dX8_beside_123 : decode cX8_beside 123 = .ok (.iload 5, 2) := by decide +kernel
theorem dX8_beside_125 : decode cX8_beside 125 = .ok (.aload_n 0, 1) := by decide +kernel
theorem dX8_beside_126 : decode cX8_beside 126 = .ok (.getfield 7, 3) := by decide +kernel
theorem dX8_beside_129 : decode cX8_beside 129 = .ok (.iconst 0, 1) := by decide +kernel
theorem dX8_beside_130 : decode cX8_beside 130 = .ok (.iaload, 1) := by decide +kernel
theorem dX8_beside_131 : decode cX8_beside 131 = .ok (.imul, 1) := by decide +kernel
theorem dX8_beside_132 : decode cX8_beside 132 = .ok (.iload 4, 2) := by decide +kernel
theorem dX8_beside_134 : decode cX8_beside 134 = .ok (.iadd, 1) := by decide +kernel
theorem dX8_beside_135 : decode cX8_beside 135 = .ok (.goto 5, 3) := by decide +kernel
theorem dX8_beside_138 : decode cX8_beside 138 = .ok (.bipush (-9), 2) := by decide +kernel
theorem dX8_beside_140 : decode cX8_beside 140 = .ok (.ireturn, 1) := by decide +kernel
theorem dX8_floods_0 : decode cX8_floods 0 = .ok (.aload_n 0, 1) := by decide +kernel
theorem dX8_floods_1 : decode cX8_floods 1 = .ok (.lload_n 1, 1) := by decide +kernel
theorem dX8_floods_2 : decode cX8_floods 2 = .ok (.iload_n 3, 1) := by decide +kernel
theorem dX8_floods_3 : decode cX8_floods 3 = .ok (.invokevirtual 113, 3) := by decide +kernel
theorem dX8_floods_6 : decode cX8_floods 6 = .ok (.istore 4, 2) := by decide +kernel
theorem dX8_floods_8 : decode cX8_floods 8 = .ok (.iconst 0, 1) := by decide +kernel
theorem dX8_floods_9 : decode cX8_floods 9 = .ok (.istore 5, 2) := by decide +kernel
theorem dX8_floods_11 : decode cX8_floods 11 = .ok (.iload 5, 2) := by decide +kernel
theorem dX8_floods_13 : decode cX8_floods 13 = .ok (.bipush 24, 2) := by decide +kernel
theorem dX8_floods_15 : decode cX8_floods 15 = .ok (.if_icmp .ge 17, 3) := by decide +kernel
theorem dX8_floods_18 : decode cX8_floods 18 = .ok (.aload_n 0, 1) := by decide +kernel
theorem dX8_floods_19 : decode cX8_floods 19 = .ok (.getfield 32, 3) := by decide +kernel
theorem dX8_floods_22 : decode cX8_floods 22 = .ok (.iload 5, 2) := by decide +kernel
theorem dX8_floods_24 : decode cX8_floods 24 = .ok (.iconst (-1), 1) := by decide +kernel
theorem dX8_floods_25 : decode cX8_floods 25 = .ok (.iastore, 1) := by decide +kernel
theorem dX8_floods_26 : decode cX8_floods 26 = .ok (.iinc 5 1, 3) := by decide +kernel
theorem dX8_floods_29 : decode cX8_floods 29 = .ok (.goto (-18), 3) := by decide +kernel
theorem dX8_floods_32 : decode cX8_floods 32 = .ok (.iconst 1, 1) := by decide +kernel
theorem dX8_floods_33 : decode cX8_floods 33 = .ok (.istore 5, 2) := by decide +kernel
theorem dX8_floods_35 : decode cX8_floods 35 = .ok (.aload_n 0, 1) := by decide +kernel
theorem dX8_floods_36 : decode cX8_floods 36 = .ok (.getfield 35, 3) := by decide +kernel
theorem dX8_floods_39 : decode cX8_floods 39 = .ok (.iconst 0, 1) := by decide +kernel
theorem dX8_floods_40 : decode cX8_floods 40 = .ok (.lload_n 1, 1) := by decide +kernel
theorem dX8_floods_41 : decode cX8_floods 41 = .ok (.iload_n 3, 1) := by decide +kernel
theorem dX8_floods_42 : decode cX8_floods 42 = .ok (.invokestatic 109, 3) := by decide +kernel
theorem dX8_floods_45 : decode cX8_floods 45 = .ok (.iastore, 1) := by decide +kernel
theorem dX8_floods_46 : decode cX8_floods 46 = .ok (.aload_n 0, 1) := by decide +kernel
theorem dX8_floods_47 : decode cX8_floods 47 = .ok (.getfield 32, 3) := by decide +kernel
theorem dX8_floods_50 : decode cX8_floods 50 = .ok (.aload_n 0, 1) := by decide +kernel
theorem dX8_floods_51 : decode cX8_floods 51 = .ok (.getfield 35, 3) := by decide +kernel
theorem dX8_floods_54 : decode cX8_floods 54 = .ok (.iconst 0, 1) := by decide +kernel
theorem dX8_floods_55 : decode cX8_floods 55 = .ok (.iaload, 1) := by decide +kernel
theorem dX8_floods_56 : decode cX8_floods 56 = .ok (.iconst 0, 1) := by decide +kernel
theorem dX8_floods_57 : decode cX8_floods 57 = .ok (.iastore, 1) := by decide +kernel
theorem dX8_floods_58 : decode cX8_floods 58 = .ok (.iconst 0, 1) := by decide +kernel
theorem dX8_floods_59 : decode cX8_floods 59 = .ok (.istore 6, 2) := by decide +kernel
theorem dX8_floods_61 : decode cX8_floods 61 = .ok (.iload 6, 2) := by decide +kernel
theorem dX8_floods_63 : decode cX8_floods 63 = .ok (.iload 5, 2) := by decide +kernel
theorem dX8_floods_65 : decode cX8_floods 65 = .ok (.if_icmp .ge 106, 3) := by decide +kernel
theorem dX8_floods_68 : decode cX8_floods 68 = .ok (.iconst 0, 1) := by decide +kernel
theorem dX8_floods_69 : decode cX8_floods 69 = .ok (.istore 7, 2) := by decide +kernel
theorem dX8_floods_71 : decode cX8_floods 71 = .ok (.iload 7, 2) := by decide +kernel
theorem dX8_floods_73 : decode cX8_floods 73 = .ok (.iconst 4, 1) := by decide +kernel
theorem dX8_floods_74 : decode cX8_floods 74 = .ok (.if_icmp .ge 91, 3) := by decide +kernel
theorem dX8_floods_77 : decode cX8_floods 77 = .ok (.aload_n 0, 1) := by decide +kernel
theorem dX8_floods_78 : decode cX8_floods 78 = .ok (.iload_n 3, 1) := by decide +kernel
theorem dX8_floods_79 : decode cX8_floods 79 = .ok (.aload_n 0, 1) := by decide +kernel
theorem dX8_floods_80 : decode cX8_floods 80 = .ok (.getfield 35, 3) := by decide +kernel
theorem dX8_floods_83 : decode cX8_floods 83 = .ok (.iload 6, 2) := by decide +kernel
theorem dX8_floods_85 : decode cX8_floods 85 = .ok (.iaload, 1) := by decide +kernel
theorem dX8_floods_86 : decode cX8_floods 86 = .ok (.iload 7, 2) := by decide +kernel
theorem dX8_floods_88 : decode cX8_floods 88 = .ok (.invokevirtual 116, 3) := by decide +kernel
theorem dX8_floods_91 : decode cX8_floods 91 = .ok (.istore 8, 2) := by decide +kernel
theorem dX8_floods_93 : decode cX8_floods 93 = .ok (.iload 8, 2) := by decide +kernel
theorem dX8_floods_95 : decode cX8_floods 95 = .ok (.ifCond .lt 64, 3) := by decide +kernel
theorem dX8_floods_98 : decode cX8_floods 98 = .ok (.aload_n 0, 1) := by decide +kernel
theorem dX8_floods_99 : decode cX8_floods 99 = .ok (.getfield 32, 3) := by decide +kernel
theorem dX8_floods_102 : decode cX8_floods 102 = .ok (.iload 8, 2) := by decide +kernel
theorem dX8_floods_104 : decode cX8_floods 104 = .ok (.iaload, 1) := by decide +kernel
theorem dX8_floods_105 : decode cX8_floods 105 = .ok (.ifCond .ge 54, 3) := by decide +kernel
theorem dX8_floods_108 : decode cX8_floods 108 = .ok (.aload_n 0, 1) := by decide +kernel
theorem dX8_floods_109 : decode cX8_floods 109 = .ok (.getfield 7, 3) := by decide +kernel
theorem dX8_floods_112 : decode cX8_floods 112 = .ok (.bipush 10, 2) := by decide +kernel
theorem dX8_floods_114 : decode cX8_floods 114 = .ok (.iload_n 3, 1) := by decide +kernel
theorem dX8_floods_115 : decode cX8_floods 115 = .ok (.iadd, 1) := by decide +kernel
theorem dX8_floods_116 : decode cX8_floods 116 = .ok (.iaload, 1) := by decide +kernel
theorem dX8_floods_117 : decode cX8_floods 117 = .ok (.iload 8, 2) := by decide +kernel
theorem dX8_floods_119 : decode cX8_floods 119 = .ok (.ishl, 1) := by decide +kernel
theorem dX8_floods_120 : decode cX8_floods 120 = .ok (.iload 4, 2) := by decide +kernel
theorem dX8_floods_122 : decode cX8_floods 122 = .ok (.iand, 1) := by decide +kernel
theorem dX8_floods_123 : decode cX8_floods 123 = .ok (.ifCond .ne 36, 3) := by decide +kernel
theorem dX8_floods_126 : decode cX8_floods 126 = .ok (.aload_n 0, 1) := by decide +kernel
theorem dX8_floods_127 : decode cX8_floods 127 = .ok (.getfield 32, 3) := by decide +kernel
theorem dX8_floods_130 : decode cX8_floods 130 = .ok (.iload 8, 2) := by decide +kernel
theorem dX8_floods_132 : decode cX8_floods 132 = .ok (.aload_n 0, 1) := by decide +kernel
theorem dX8_floods_133 : decode cX8_floods 133 = .ok (.getfield 32, 3) := by decide +kernel
theorem dX8_floods_136 : decode cX8_floods 136 = .ok (.aload_n 0, 1) := by decide +kernel
theorem dX8_floods_137 : decode cX8_floods 137 = .ok (.getfield 35, 3) := by decide +kernel
theorem dX8_floods_140 : decode cX8_floods 140 = .ok (.iload 6, 2) := by decide +kernel
theorem dX8_floods_142 : decode cX8_floods 142 = .ok (.iaload, 1) := by decide +kernel
theorem dX8_floods_143 : decode cX8_floods 143 = .ok (.iaload, 1) := by decide +kernel
theorem dX8_floods_144 : decode cX8_floods 144 = .ok (.iconst 1, 1) := by decide +kernel
theorem dX8_floods_145 : decode cX8_floods 145 = .ok (.iadd, 1) := by decide +kernel
theorem dX8_floods_146 : decode cX8_floods 146 = .ok (.iastore, 1) := by decide +kernel
theorem dX8_floods_147 : decode cX8_floods 147 = .ok (.aload_n 0, 1) := by decide +kernel
theorem dX8_floods_148 : decode cX8_floods 148 = .ok (.getfield 35, 3) := by decide +kernel
theorem dX8_floods_151 : decode cX8_floods 151 = .ok (.iload 5, 2) := by decide +kernel
theorem dX8_floods_153 : decode cX8_floods 153 = .ok (.iload 8, 2) := by decide +kernel
theorem dX8_floods_155 : decode cX8_floods 155 = .ok (.iastore, 1) := by decide +kernel
theorem dX8_floods_156 : decode cX8_floods 156 = .ok (.iinc 5 1, 3) := by decide +kernel
theorem dX8_floods_159 : decode cX8_floods 159 = .ok (.iinc 7 1, 3) := by decide +kernel
theorem dX8_floods_162 : decode cX8_floods 162 = .ok (.goto (-91), 3) := by decide +kernel
theorem dX8_floods_165 : decode cX8_floods 165 = .ok (.iinc 6 1, 3) := by decide +kernel
theorem dX8_floods_168 : decode cX8_floods 168 = .ok (.goto (-107), 3) := by decide +kernel
theorem dX8_floods_171 : decode cX8_floods 171 = .ok (.return_, 1) := by decide +kernel
theorem dX8_slot_0 : decode cX8_slot 0 = .ok (.lload_n 1, 1) := by decide +kernel
theorem dX8_slot_1 : decode cX8_slot 1 = .ok (.lload_n 1, 1) := by decide +kernel
theorem dX8_slot_2 : decode cX8_slot 2 = .ok (.bipush 13, 2) := by decide +kernel
theorem dX8_slot_4 : decode cX8_slot 4 = .ok (.lshr, 1) := by decide +kernel
theorem dX8_slot_5 : decode cX8_slot 5 = .ok (.lxor, 1) := by decide +kernel
theorem dX8_slot_6 : decode cX8_slot 6 = .ok (.lload_n 1, 1) := by decide +kernel
theorem dX8_slot_7 : decode cX8_slot 7 = .ok (.bipush 23, 2) := by decide +kernel
theorem dX8_slot_9 : decode cX8_slot 9 = .ok (.lshr, 1) := by decide +kernel
theorem dX8_slot_10 : decode cX8_slot 10 = .ok (.lxor, 1) := by decide +kernel
theorem dX8_slot_11 : decode cX8_slot 11 = .ok (.ldc2_w 119, 3) := by decide +kernel
theorem dX8_slot_14 : decode cX8_slot 14 = .ok (.land, 1) := by decide +kernel
theorem dX8_slot_15 : decode cX8_slot 15 = .ok (.l2i, 1) := by decide +kernel
theorem dX8_slot_16 : decode cX8_slot 16 = .ok (.istore_n 3, 1) := by decide +kernel
theorem dX8_slot_17 : decode cX8_slot 17 = .ok (.aload_n 0, 1) := by decide +kernel
theorem dX8_slot_18 : decode cX8_slot 18 = .ok (.getfield 42, 3) := by decide +kernel
theorem dX8_slot_21 : decode cX8_slot 21 = .ok (.iload_n 3, 1) := by decide +kernel
theorem dX8_slot_22 : decode cX8_slot 22 = .ok (.iaload, 1) := by decide +kernel
theorem dX8_slot_23 : decode cX8_slot 23 = .ok (.ifCond .le 32, 3) := by decide +kernel
theorem dX8_slot_26 : decode cX8_slot 26 = .ok (.aload_n 0, 1) := by decide +kernel
theorem dX8_slot_27 : decode cX8_slot 27 = .ok (.getfield 38, 3) := by decide +kernel
theorem dX8_slot_30 : decode cX8_slot 30 = .ok (.aload_n 0, 1) := by decide +kernel
theorem dX8_slot_31 : decode cX8_slot 31 = .ok (.getfield 42, 3) := by decide +kernel
theorem dX8_slot_34 : decode cX8_slot 34 = .ok (.iload_n 3, 1) := by decide +kernel
theorem dX8_slot_35 : decode cX8_slot 35 = .ok (.iaload, 1) := by decide +kernel
theorem dX8_slot_36 : decode cX8_slot 36 = .ok (.iconst 1, 1) := by decide +kernel
theorem dX8_slot_37 : decode cX8_slot 37 = .ok (.isub, 1) := by decide +kernel
theorem dX8_slot_38 : decode cX8_slot 38 = .ok (.laload, 1) := by decide +kernel
theorem dX8_slot_39 : decode cX8_slot 39 = .ok (.lload_n 1, 1) := by decide +kernel
theorem dX8_slot_40 : decode cX8_slot 40 = .ok (.lcmp, 1) := by decide +kernel
theorem dX8_slot_41 : decode cX8_slot 41 = .ok (.ifCond .eq 14, 3) := by decide +kernel
theorem dX8_slot_44 : decode cX8_slot 44 = .ok (.iload_n 3, 1) := by decide +kernel
theorem dX8_slot_45 : decode cX8_slot 45 = .ok (.iconst 1, 1) := by decide +kernel
theorem dX8_slot_46 : decode cX8_slot 46 = .ok (.iadd, 1) := by decide +kernel
theorem dX8_slot_47 : decode cX8_slot 47 = .ok (.sipush 8191, 3) := by decide +kernel
theorem dX8_slot_50 : decode cX8_slot 50 = .ok (.iand, 1) := by decide +kernel
theorem dX8_slot_51 : decode cX8_slot 51 = .ok (.istore_n 3, 1) := by decide +kernel
theorem dX8_slot_52 : decode cX8_slot 52 = .ok (.goto (-35), 3) := by decide +kernel
theorem dX8_slot_55 : decode cX8_slot 55 = .ok (.iload_n 3, 1) := by decide +kernel
theorem dX8_slot_56 : decode cX8_slot 56 = .ok (.ireturn, 1) := by decide +kernel
theorem dX8_finds_0 : decode cX8_finds 0 = .ok (.aload_n 0, 1) := by decide +kernel
theorem dX8_finds_1 : decode cX8_finds 1 = .ok (.lload_n 1, 1) := by decide +kernel
theorem dX8_finds_2 : decode cX8_finds 2 = .ok (.invokevirtual 121, 3) := by decide +kernel
theorem dX8_finds_5 : decode cX8_finds 5 = .ok (.istore_n 3, 1) := by decide +kernel
theorem dX8_finds_6 : decode cX8_finds 6 = .ok (.aload_n 0, 1) := by decide +kernel
theorem dX8_finds_7 : decode cX8_finds 7 = .ok (.getfield 42, 3) := by decide +kernel
theorem dX8_finds_10 : decode cX8_finds 10 = .ok (.iload_n 3, 1) := by decide +kernel
theorem dX8_finds_11 : decode cX8_finds 11 = .ok (.iaload, 1) := by decide +kernel
theorem dX8_finds_12 : decode cX8_finds 12 = .ok (.ifCond .ne 49, 3) := by decide +kernel
theorem dX8_finds_15 : decode cX8_finds 15 = .ok (.aload_n 0, 1) := by decide +kernel
theorem dX8_finds_16 : decode cX8_finds 16 = .ok (.getfield 125, 3) := by decide +kernel
theorem dX8_finds_19 : decode cX8_finds 19 = .ok (.sipush 2000, 3) := by decide +kernel
theorem dX8_finds_22 : decode cX8_finds 22 = .ok (.if_icmp .ne 9, 3) := by decide +kernel
theorem dX8_finds_25 : decode cX8_finds 25 = .ok (.aload_n 0, 1) := by decide +kernel
theorem dX8_finds_26 : decode cX8_finds 26 = .ok (.iconst 1, 1) := by decide +kernel
theorem dX8_finds_27 : decode cX8_finds 27 = .ok (.putfield 128, 3) := by decide +kernel
theorem dX8_finds_30 : decode cX8_finds 30 = .ok (.return_, 1) := by decide +kernel
theorem dX8_finds_31 : decode cX8_finds 31 = .ok (.aload_n 0, 1) := by decide +kernel
theorem dX8_finds_32 : decode cX8_finds 32 = .ok (.getfield 38, 3) := by decide +kernel
theorem dX8_finds_35 : decode cX8_finds 35 = .ok (.aload_n 0, 1) := by decide +kernel
theorem dX8_finds_36 : decode cX8_finds 36 = .ok (.getfield 125, 3) := by decide +kernel
theorem dX8_finds_39 : decode cX8_finds 39 = .ok (.lload_n 1, 1) := by decide +kernel
theorem dX8_finds_40 : decode cX8_finds 40 = .ok (.lastore, 1) := by decide +kernel
theorem dX8_finds_41 : decode cX8_finds 41 = .ok (.aload_n 0, 1) := by decide +kernel
theorem dX8_finds_42 : decode cX8_finds 42 = .ok (.dup, 1) := by decide +kernel
theorem dX8_finds_43 : decode cX8_finds 43 = .ok (.getfield 125, 3) := by decide +kernel
theorem dX8_finds_46 : decode cX8_finds 46 = .ok (.iconst 1, 1) := by decide +kernel
theorem dX8_finds_47 : decode cX8_finds 47 = .ok (.iadd, 1) := by decide +kernel
theorem dX8_finds_48 : decode cX8_finds 48 = .ok (.putfield 125, 3) := by decide +kernel
theorem dX8_finds_51 : decode cX8_finds 51 = .ok (.aload_n 0, 1) := by decide +kernel
theorem dX8_finds_52 : decode cX8_finds 52 = .ok (.getfield 42, 3) := by decide +kernel
theorem dX8_finds_55 : decode cX8_finds 55 = .ok (.iload_n 3, 1) := by decide +kernel
theorem dX8_finds_56 : decode cX8_finds 56 = .ok (.aload_n 0, 1) := by decide +kernel
theorem dX8_finds_57 : decode cX8_finds 57 = .ok (.getfield 125, 3) := by decide +kernel
theorem dX8_finds_60 : decode cX8_finds 60 = .ok (.iastore, 1) := by decide +kernel
theorem dX8_finds_61 : decode cX8_finds 61 = .ok (.return_, 1) := by decide +kernel
theorem dX8_explores_0 : decode cX8_explores 0 = .ok (.aload_n 0, 1) := by decide +kernel
theorem dX8_explores_1 : decode cX8_explores 1 = .ok (.iload_n 1, 1) := by decide +kernel
theorem dX8_explores_2 : decode cX8_explores 2 = .ok (.putfield 28, 3) := by decide +kernel
theorem dX8_explores_5 : decode cX8_explores 5 = .ok (.iconst 0, 1) := by decide +kernel
theorem dX8_explores_6 : decode cX8_explores 6 = .ok (.istore_n 2, 1) := by decide +kernel
theorem dX8_explores_7 : decode cX8_explores 7 = .ok (.iload_n 2, 1) := by decide +kernel
theorem dX8_explores_8 : decode cX8_explores 8 = .ok (.sipush 8192, 3) := by decide +kernel
theorem dX8_explores_11 : decode cX8_explores 11 = .ok (.if_icmp .ge 16, 3) := by decide +kernel
theorem dX8_explores_14 : decode cX8_explores 14 = .ok (.aload_n 0, 1) := by decide +kernel
theorem dX8_explores_15 : decode cX8_explores 15 = .ok (.getfield 42, 3) := by decide +kernel
theorem dX8_explores_18 : decode cX8_explores 18 = .ok (.iload_n 2, 1) := by decide +kernel
theorem dX8_explores_19 : decode cX8_explores 19 = .ok (.iconst 0, 1) := by decide +kernel
theorem dX8_explores_20 : decode cX8_explores 20 = .ok (.iastore, 1) := by decide +kernel
theorem dX8_explores_21 : decode cX8_explores 21 = .ok (.iinc 2 1, 3) := by decide +kernel
theorem dX8_explores_24 : decode cX8_explores 24 = .ok (.goto (-17), 3) := by decide +kernel
theorem dX8_explores_27 : decode cX8_explores 27 = .ok (.aload_n 0, 1) := by decide +kernel
theorem dX8_explores_28 : decode cX8_explores 28 = .ok (.iconst 0, 1) := by decide +kernel
theorem dX8_explores_29 : decode cX8_explores 29 = .ok (.putfield 125, 3) := by decide +kernel
theorem dX8_explores_32 : decode cX8_explores 32 = .ok (.aload_n 0, 1) := by decide +kernel
theorem dX8_explores_33 : decode cX8_explores 33 = .ok (.iconst 0, 1) := by decide +kernel
theorem dX8_explores_34 : decode cX8_explores 34 = .ok (.putfield 128, 3) := by decide +kernel
theorem dX8_explores_37 : decode cX8_explores 37 = .ok (.aload_n 0, 1) := by decide +kernel
theorem dX8_explores_38 : decode cX8_explores 38 = .ok (.iload_n 1, 1) := by decide +kernel
theorem dX8_explores_39 : decode cX8_explores 39 = .ok (.ifCond .ge 10, 3) := by decide +kernel
theorem dX8_explores_42 : decode cX8_explores 42 = .ok (.aload_n 0, 1) := by decide +kernel
theorem dX8_explores_43 : decode cX8_explores 43 = .ok (.invokevirtual 132, 3) := by decide +kernel
theorem dX8_explores_46 : decode cX8_explores 46 = .ok (.goto 12, 3) := by decide +kernel
theorem dX8_explores_49 : decode cX8_explores 49 = .ok (.aload_n 0, 1) := by decide +kernel
theorem dX8_explores_50 : decode cX8_explores 50 = .ok (.invokevirtual 132, 3) := by decide +kernel
theorem dX8_explores_53 : decode cX8_explores 53 = .ok (.iload_n 1, 1) := by decide +kernel
theorem dX8_explores_54 : decode cX8_explores 54 = .ok (.iconst 0, 1) := by decide +kernel
theorem dX8_explores_55 : decode cX8_explores 55 = .ok (.invokestatic 105, 3) := by decide +kernel
theorem dX8_explores_58 : decode cX8_explores 58 = .ok (.invokevirtual 136, 3) := by decide +kernel
theorem dX8_explores_61 : decode cX8_explores 61 = .ok (.iconst 0, 1) := by decide +kernel
theorem dX8_explores_62 : decode cX8_explores 62 = .ok (.istore_n 2, 1) := by decide +kernel
theorem dX8_explores_63 : decode cX8_explores 63 = .ok (.iload_n 2, 1) := by decide +kernel
theorem dX8_explores_64 : decode cX8_explores 64 = .ok (.aload_n 0, 1) := by decide +kernel
theorem dX8_explores_65 : decode cX8_explores 65 = .ok (.getfield 125, 3) := by decide +kernel
theorem dX8_explores_68 : decode cX8_explores 68 = .ok (.if_icmp .ge 128, 3) := by decide +kernel
theorem dX8_explores_71 : decode cX8_explores 71 = .ok (.aload_n 0, 1) := by decide +kernel
theorem dX8_explores_72 : decode cX8_explores 72 = .ok (.getfield 128, 3) := by decide +kernel
theorem dX8_explores_75 : decode cX8_explores 75 = .ok (.ifCond .ne 121, 3) := by decide +kernel
theorem dX8_explores_78 : decode cX8_explores 78 = .ok (.iconst 0, 1) := by decide +kernel
theorem dX8_explores_79 : decode cX8_explores 79 = .ok (.istore_n 3, 1) := by decide +kernel
theorem dX8_explores_80 : decode cX8_explores 80 = .ok (.iload_n 3, 1) := by decide +kernel
theorem dX8_explores_81 : decode cX8_explores 81 = .ok (.aload_n 0, 1) := by decide +kernel
theorem dX8_explores_82 : decode cX8_explores 82 = .ok (.getfield 7, 3) := by decide +kernel
theorem dX8_explores_85 : decode cX8_explores 85 = .ok (.iconst 2, 1) := by decide +kernel
theorem dX8_explores_86 : decode cX8_explores 86 = .ok (.iaload, 1) := by decide +kernel
theorem dX8_explores_87 : decode cX8_explores 87 = .ok (.if_icmp .ge 103, 3) := by decide +kernel
theorem dX8_explores_90 : decode cX8_explores 90 = .ok (.aload_n 0, 1) := by decide +kernel
theorem dX8_explores_91 : decode cX8_explores 91 = .ok (.aload_n 0, 1) := by decide +kernel
theorem dX8_explores_92 : decode cX8_explores 92 = .ok (.getfield 38, 3) := by decide +kernel
theorem dX8_explores_95 : decode cX8_explores 95 = .ok (.iload_n 2, 1) := by decide +kernel
theorem dX8_explores_96 : decode cX8_explores 96 = .ok (.laload, 1) := by decide +kernel
theorem dX8_explores_97 : decode cX8_explores 97 = .ok (.iload_n 3, 1) := by decide +kernel
theorem dX8_explores_98 : decode cX8_explores 98 = .ok (.invokevirtual 113, 3) := by decide +kernel
theorem dX8_explores_101 : decode cX8_explores 101 = .ok (.istore 4, 2) := by decide +kernel
theorem dX8_explores_103 : decode cX8_explores 103 = .ok (.iconst 0, 1) := by decide +kernel
theorem dX8_explores_104 : decode cX8_explores 104 = .ok (.istore 5, 2) := by decide +kernel
theorem dX8_explores_106 : decode cX8_explores 106 = .ok (.iload 5, 2) := by decide +kernel
theorem dX8_explores_108 : decode cX8_explores 108 = .ok (.iconst 4, 1) := by decide +kernel
theorem dX8_explores_109 : decode cX8_explores 109 = .ok (.if_icmp .ge 75, 3) := by decide +kernel
theorem dX8_explores_112 : decode cX8_explores 112 = .ok (.iload_n 3, 1) := by decide +kernel
theorem dX8_explores_113 : decode cX8_explores 113 = .ok (.aload_n 0, 1) := by decide +kernel
theorem dX8_explores_114 : decode cX8_explores 114 = .ok (.getfield 28, 3) := by decide +kernel
theorem dX8_explores_117 : decode cX8_explores 117 = .ok (.if_icmp .eq 67, 3) := by decide +kernel
theorem dX8_explores_120 : decode cX8_explores 120 = .ok (.aload_n 0, 1) := by decide +kernel
theorem dX8_explores_121 : decode cX8_explores 121 = .ok (.iload_n 3, 1) := by decide +kernel
theorem dX8_explores_122 : decode cX8_explores 122 = .ok (.aload_n 0, 1) := by decide +kernel
theorem dX8_explores_123 : decode cX8_explores 123 = .ok (.getfield 38, 3) := by decide +kernel
theorem dX8_explores_126 : decode cX8_explores 126 = .ok (.iload_n 2, 1) := by decide +kernel
theorem dX8_explores_127 : decode cX8_explores 127 = .ok (.laload, 1) := by decide +kernel
theorem dX8_explores_128 : decode cX8_explores 128 = .ok (.iload_n 3, 1) := by decide +kernel
theorem dX8_explores_129 : decode cX8_explores 129 = .ok (.invokestatic 109, 3) := by decide +kernel
theorem dX8_explores_132 : decode cX8_explores 132 = .ok (.iload 5, 2) := by decide +kernel
theorem dX8_explores_134 : decode cX8_explores 134 = .ok (.invokevirtual 116, 3) := by decide +kernel
theorem dX8_explores_137 : decode cX8_explores 137 = .ok (.istore 6, 2) := by decide +kernel
theorem dX8_explores_139 : decode cX8_explores 139 = .ok (.iload 6, 2) := by decide +kernel
theorem dX8_explores_141 : decode cX8_explores 141 = .ok (.ifCond .lt 37, 3) := by decide +kernel
theorem dX8_explores_144 : decode cX8_explores 144 = .ok (.aload_n 0, 1) := by decide +kernel
theorem dX8_explores_145 : decode cX8_explores 145 = .ok (.getfield 7, 3) := by decide +kernel
theorem dX8_explores_148 : decode cX8_explores 148 = .ok (.bipush 10, 2) := by decide +kernel
theorem dX8_explores_150 : decode cX8_explores 150 = .ok (.iload_n 3, 1) := by decide +kernel
theorem dX8_explores_151 : decode cX8_explores 151 = .ok (.iadd, 1) := by decide +kernel
theorem dX8_explores_152 : decode cX8_explores 152 = .ok (.iaload, 1) := by decide +kernel
theorem dX8_explores_153 : decode cX8_explores 153 = .ok (.iload 6, 2) := by decide +kernel
theorem dX8_explores_155 : decode cX8_explores 155 = .ok (.ishl, 1) := by decide +kernel
theorem dX8_explores_156 : decode cX8_explores 156 = .ok (.iload 4, 2) := by decide +kernel
theorem dX8_explores_158 : decode cX8_explores 158 = .ok (.iand, 1) := by decide +kernel
theorem dX8_explores_159 : decode cX8_explores 159 = .ok (.ifCond .ne 19, 3) := by decide +kernel
theorem dX8_explores_162 : decode cX8_explores 162 = .ok (.aload_n 0, 1) := by decide +kernel
theorem dX8_explores_163 : decode cX8_explores 163 = .ok (.aload_n 0, 1) := by decide +kernel
theorem dX8_explores_164 : decode cX8_explores 164 = .ok (.getfield 38, 3) := by decide +kernel
theorem dX8_explores_167 : decode cX8_explores 167 = .ok (.iload_n 2, 1) := by decide +kernel
theorem dX8_explores_168 : decode cX8_explores 168 = .ok (.laload, 1) := by decide +kernel
theorem dX8_explores_169 : decode cX8_explores 169 = .ok (.iload_n 3, 1) := by decide +kernel
theorem dX8_explores_170 : decode cX8_explores 170 = .ok (.iload 6, 2) := by decide +kernel
theorem dX8_explores_172 : decode cX8_explores 172 = .ok (.invokestatic 105, 3) := by decide +kernel
theorem dX8_explores_175 : decode cX8_explores 175 = .ok (.invokevirtual 136, 3) := by decide +kernel
theorem dX8_explores_178 : decode cX8_explores 178 = .ok (.iinc 5 1, 3) := by decide +kernel
theorem dX8_explores_181 : decode cX8_explores 181 = .ok (.goto (-75), 3) := by decide +kernel
theorem dX8_explores_184 : decode cX8_explores 184 = .ok (.iinc 3 1, 3) := by decide +kernel
theorem dX8_explores_187 : decode cX8_explores 187 = .ok (.goto (-107), 3) := by decide +kernel
theorem dX8_explores_190 : decode cX8_explores 190 = .ok (.iinc 2 1, 3) := by decide +kernel
theorem dX8_explores_193 : decode cX8_explores 193 = .ok (.goto (-130), 3) := by decide +kernel
theorem dX8_explores_196 : decode cX8_explores 196 = .ok (.return_, 1) := by decide +kernel
theorem dX8_reaches_0 : decode cX8_reaches 0 = .ok (.aload_n 0, 1) := by decide +kernel
theorem dX8_reaches_1 : decode cX8_reaches 1 = .ok (.getfield 42, 3) := by decide +kernel
theorem dX8_reaches_4 : decode cX8_reaches 4 = .ok (.aload_n 0, 1) := by decide +kernel
theorem dX8_reaches_5 : decode cX8_reaches 5 = .ok (.lload_n 1, 1) := by decide +kernel
theorem dX8_reaches_6 : decode cX8_reaches 6 = .ok (.invokevirtual 121, 3) := by decide +kernel
theorem dX8_reaches_9 : decode cX8_reaches 9 = .ok (.iaload, 1) := by decide +kernel
theorem dX8_reaches_10 : decode cX8_reaches 10 = .ok (.iconst 1, 1) := by decide +kernel
theorem dX8_reaches_11 : decode cX8_reaches 11 = .ok (.isub, 1) := by decide +kernel
theorem dX8_reaches_12 : decode cX8_reaches 12 = .ok (.istore 4, 2) := by decide +kernel
theorem dX8_reaches_14 : decode cX8_reaches 14 = .ok (.aload_n 0, 1) := by decide +kernel
theorem dX8_reaches_15 : decode cX8_reaches 15 = .ok (.getfield 45, 3) := by decide +kernel
theorem dX8_reaches_18 : decode cX8_reaches 18 = .ok (.iload 4, 2) := by decide +kernel
theorem dX8_reaches_20 : decode cX8_reaches 20 = .ok (.iaload, 1) := by decide +kernel
theorem dX8_reaches_21 : decode cX8_reaches 21 = .ok (.ifCond .ge 32, 3) := by decide +kernel
theorem dX8_reaches_24 : decode cX8_reaches 24 = .ok (.aload_n 0, 1) := by decide +kernel
theorem dX8_reaches_25 : decode cX8_reaches 25 = .ok (.getfield 45, 3) := by decide +kernel
theorem dX8_reaches_28 : decode cX8_reaches 28 = .ok (.iload 4, 2) := by decide +kernel
theorem dX8_reaches_30 : decode cX8_reaches 30 = .ok (.iload_n 3, 1) := by decide +kernel
theorem dX8_reaches_31 : decode cX8_reaches 31 = .ok (.iastore, 1) := by decide +kernel
theorem dX8_reaches_32 : decode cX8_reaches 32 = .ok (.aload_n 0, 1) := by decide +kernel
theorem dX8_reaches_33 : decode cX8_reaches 33 = .ok (.getfield 48, 3) := by decide +kernel
theorem dX8_reaches_36 : decode cX8_reaches 36 = .ok (.aload_n 0, 1) := by decide +kernel
theorem dX8_reaches_37 : decode cX8_reaches 37 = .ok (.getfield 140, 3) := by decide +kernel
theorem dX8_reaches_40 : decode cX8_reaches 40 = .ok (.iload 4, 2) := by decide +kernel
theorem dX8_reaches_42 : decode cX8_reaches 42 = .ok (.iastore, 1) := by decide +kernel
theorem dX8_reaches_43 : decode cX8_reaches 43 = .ok (.aload_n 0, 1) := by decide +kernel
theorem dX8_reaches_44 : decode cX8_reaches 44 = .ok (.dup, 1) := by decide +kernel
theorem dX8_reaches_45 : decode cX8_reaches 45 = .ok (.getfield 140, 3) := by decide +kernel
theorem dX8_reaches_48 : decode cX8_reaches 48 = .ok (.iconst 1, 1) := by decide +kernel
theorem dX8_reaches_49 : decode cX8_reaches 49 = .ok (.iadd, 1) := by decide +kernel
theorem dX8_reaches_50 : decode cX8_reaches 50 = .ok (.putfield 140, 3) := by decide +kernel
theorem dX8_reaches_53 : decode cX8_reaches 53 = .ok (.return_, 1) := by decide +kernel
theorem dX8_isMove_0 : decode cX8_isMove 0 = .ok (.iload_n 2, 1) := by decide +kernel
theorem dX8_isMove_1 : decode cX8_isMove 1 = .ok (.ifCond .eq 20, 3) := by decide +kernel
theorem dX8_isMove_4 : decode cX8_isMove 4 = .ok (.aload_n 0, 1) := by decide +kernel
theorem dX8_isMove_5 : decode cX8_isMove 5 = .ok (.getfield 32, 3) := by decide +kernel
theorem dX8_isMove_8 : decode cX8_isMove 8 = .ok (.iload_n 1, 1) := by decide +kernel
theorem dX8_isMove_9 : decode cX8_isMove 9 = .ok (.iaload, 1) := by decide +kernel
theorem dX8_isMove_10 : decode cX8_isMove 10 = .ok (.ifCond .le 7, 3) := by decide +kernel
theorem dX8_isMove_13 : decode cX8_isMove 13 = .ok (.iconst 1, 1) := by decide +kernel
theorem dX8_isMove_14 : decode cX8_isMove 14 = .ok (.goto 22, 3) := by decide +kernel
theorem dX8_isMove_17 : decode cX8_isMove 17 = .ok (.iconst 0, 1) := by decide +kernel
theorem dX8_isMove_18 : decode cX8_isMove 18 = .ok (.goto 18, 3) := by decide +kernel
theorem dX8_isMove_21 : decode cX8_isMove 21 = .ok (.aload_n 0, 1) := by decide +kernel
theorem dX8_isMove_22 : decode cX8_isMove 22 = .ok (.getfield 32, 3) := by decide +kernel
theorem dX8_isMove_25 : decode cX8_isMove 25 = .ok (.iload_n 1, 1) := by decide +kernel
theorem dX8_isMove_26 : decode cX8_isMove 26 = .ok (.iaload, 1) := by decide +kernel
theorem dX8_isMove_27 : decode cX8_isMove 27 = .ok (.iconst 1, 1) := by decide +kernel
theorem dX8_isMove_28 : decode cX8_isMove 28 = .ok (.if_icmp .ne 7, 3) := by decide +kernel
theorem dX8_isMove_31 : decode cX8_isMove 31 = .ok (.iconst 1, 1) := by decide +kernel
theorem dX8_isMove_32 : decode cX8_isMove 32 = .ok (.goto 4, 3) := by decide +kernel
theorem dX8_isMove_35 : decode cX8_isMove 35 = .ok (.iconst 0, 1) := by decide +kernel
theorem dX8_isMove_36 : decode cX8_isMove 36 = .ok (.ireturn, 1) := by decide +kernel
theorem dX8_measures_0 : decode cX8_measures 0 = .ok (.aload_n 0, 1) := by decide +kernel
theorem dX8_measures_1 : decode cX8_measures 1 = .ok (.iconst 0, 1) := by decide +kernel
theorem dX8_measures_2 : decode cX8_measures 2 = .ok (.putfield 140, 3) := by decide +kernel
theorem dX8_measures_5 : decode cX8_measures 5 = .ok (.iconst 0, 1) := by decide +kernel
theorem dX8_measures_6 : decode cX8_measures 6 = .ok (.istore_n 2, 1) := by decide +kernel
theorem dX8_measures_7 : decode cX8_measures 7 = .ok (.iload_n 2, 1) := by decide +kernel
theorem dX8_measures_8 : decode cX8_measures 8 = .ok (.aload_n 0, 1) := by decide +kernel
theorem dX8_measures_9 : decode cX8_measures 9 = .ok (.getfield 125, 3) := by decide +kernel
theorem dX8_measures_12 : decode cX8_measures 12 = .ok (.if_icmp .ge 80, 3) := by decide +kernel
theorem dX8_measures_15 : decode cX8_measures 15 = .ok (.aload_n 0, 1) := by decide +kernel
theorem dX8_measures_16 : decode cX8_measures 16 = .ok (.getfield 38, 3) := by decide +kernel
theorem dX8_measures_19 : decode cX8_measures 19 = .ok (.iload_n 2, 1) := by decide +kernel
theorem dX8_measures_20 : decode cX8_measures 20 = .ok (.laload, 1) := by decide +kernel
theorem dX8_measures_21 : decode cX8_measures 21 = .ok (.aload_n 0, 1) := by decide +kernel
theorem dX8_measures_22 : decode cX8_measures 22 = .ok (.getfield 7, 3) := by decide +kernel
theorem dX8_measures_25 : decode cX8_measures 25 = .ok (.bipush 6, 2) := by decide +kernel
theorem dX8_measures_27 : decode cX8_measures 27 = .ok (.iaload, 1) := by decide +kernel
theorem dX8_measures_28 : decode cX8_measures 28 = .ok (.invokestatic 109, 3) := by decide +kernel
theorem dX8_measures_31 : decode cX8_measures 31 = .ok (.aload_n 0, 1) := by decide +kernel
theorem dX8_measures_32 : decode cX8_measures 32 = .ok (.getfield 7, 3) := by decide +kernel
theorem dX8_measures_35 : decode cX8_measures 35 = .ok (.bipush 7, 2) := by decide +kernel
theorem dX8_measures_37 : decode cX8_measures 37 = .ok (.iaload, 1) := by decide +kernel
theorem dX8_measures_38 : decode cX8_measures 38 = .ok (.if_icmp .ne 7, 3) := by decide +kernel
theorem dX8_measures_41 : decode cX8_measures 41 = .ok (.iconst 1, 1) := by decide +kernel
theorem dX8_measures_42 : decode cX8_measures 42 = .ok (.goto 4, 3) := by decide +kernel
theorem dX8_measures_45 : decode cX8_measures 45 = .ok (.iconst 0, 1) := by decide +kernel
theorem dX8_measures_46 : decode cX8_measures 46 = .ok (.istore_n 3, 1) := by decide +kernel
theorem dX8_measures_47 : decode cX8_measures 47 = .ok (.aload_n 0, 1) := by decide +kernel
theorem dX8_measures_48 : decode cX8_measures 48 = .ok (.getfield 45, 3) := by decide +kernel
theorem dX8_measures_51 : decode cX8_measures 51 = .ok (.iload_n 2, 1) := by decide +kernel
theorem dX8_measures_52 : decode cX8_measures 52 = .ok (.iload_n 3, 1) := by decide +kernel
theorem dX8_measures_53 : decode cX8_measures 53 = .ok (.ifCond .eq 7, 3) := by decide +kernel
theorem dX8_measures_56 : decode cX8_measures 56 = .ok (.iconst 0, 1) := by decide +kernel
theorem dX8_measures_57 : decode cX8_measures 57 = .ok (.goto 4, 3) := by decide +kernel
theorem dX8_measures_60 : decode cX8_measures 60 = .ok (.iconst (-1), 1) := by decide +kernel
theorem dX8_measures_61 : decode cX8_measures 61 = .ok (.iastore, 1) := by decide +kernel
theorem dX8_measures_62 : decode cX8_measures 62 = .ok (.iload_n 3, 1) := by decide +kernel
theorem dX8_measures_63 : decode cX8_measures 63 = .ok (.ifCond .eq 23, 3) := by decide +kernel
theorem dX8_measures_66 : decode cX8_measures 66 = .ok (.aload_n 0, 1) := by decide +kernel
theorem dX8_measures_67 : decode cX8_measures 67 = .ok (.getfield 48, 3) := by decide +kernel
theorem dX8_measures_70 : decode cX8_measures 70 = .ok (.aload_n 0, 1) := by decide +kernel
theorem dX8_measures_71 : decode cX8_measures 71 = .ok (.getfield 140, 3) := by decide +kernel
theorem dX8_measures_74 : decode cX8_measures 74 = .ok (.iload_n 2, 1) := by decide +kernel
theorem dX8_measures_75 : decode cX8_measures 75 = .ok (.iastore, 1) := by decide +kernel
theorem dX8_measures_76 : decode cX8_measures 76 = .ok (.aload_n 0, 1) := by decide +kernel
theorem dX8_measures_77 : decode cX8_measures 77 = .ok (.dup, 1) := by decide +kernel
theorem dX8_measures_78 : decode cX8_measures 78 = .ok (.getfield 140, 3) := by decide +kernel
theorem dX8_measures_81 : decode cX8_measures 81 = .ok (.iconst 1, 1) := by decide +kernel
theorem dX8_measures_82 : decode cX8_measures 82 = .ok (.iadd, 1) := by decide +kernel
theorem dX8_measures_83 : decode cX8_measures 83 = .ok (.putfield 140, 3) := by decide +kernel
theorem dX8_measures_86 : decode cX8_measures 86 = .ok (.iinc 2 1, 3) := by decide +kernel
theorem dX8_measures_89 : decode cX8_measures 89 = .ok (.goto (-82), 3) := by decide +kernel
theorem dX8_measures_92 : decode cX8_measures 92 = .ok (.iconst 0, 1) := by decide +kernel
theorem dX8_measures_93 : decode cX8_measures 93 = .ok (.istore_n 2, 1) := by decide +kernel
theorem dX8_measures_94 : decode cX8_measures 94 = .ok (.iload_n 2, 1) := by decide +kernel
theorem dX8_measures_95 : decode cX8_measures 95 = .ok (.aload_n 0, 1) := by decide +kernel
theorem dX8_measures_96 : decode cX8_measures 96 = .ok (.getfield 140, 3) := by decide +kernel
theorem dX8_measures_99 : decode cX8_measures 99 = .ok (.if_icmp .ge 110, 3) := by decide +kernel
theorem dX8_measures_102 : decode cX8_measures 102 = .ok (.aload_n 0, 1) := by decide +kernel
theorem dX8_measures_103 : decode cX8_measures 103 = .ok (.getfield 38, 3) := by decide +kernel
theorem dX8_measures_106 : decode cX8_measures 106 = .ok (.aload_n 0, 1) := by decide +kernel
theorem dX8_measures_107 : decode cX8_measures 107 = .ok (.getfield 48, 3) := by decide +kernel
theorem dX8_measures_110 : decode cX8_measures 110 = .ok (.iload_n 2, 1) := by decide +kernel
theorem dX8_measures_111 : decode cX8_measures 111 = .ok (.iaload, 1) := by decide +kernel
theorem dX8_measures_112 : decode cX8_measures 112 = .ok (.laload, 1) := by decide +kernel
theorem dX8_measures_113 : decode cX8_measures 113 = .ok (.lstore_n 3, 1) := by decide +kernel
theorem dX8_measures_114 : decode cX8_measures 114 = .ok (.iconst 0, 1) := by decide +kernel
theorem dX8_measures_115 : decode cX8_measures 115 = .ok (.istore 5, 2) := by decide +kernel
theorem dX8_measures_117 : decode cX8_measures 117 = .ok (.iload 5, 2) := by decide +kernel
theorem dX8_measures_119 : decode cX8_measures 119 = .ok (.aload_n 0, 1) := by decide +kernel
theorem dX8_measures_120 : decode cX8_measures 120 = .ok (.getfield 7, 3) := by decide +kernel
theorem dX8_measures_123 : decode cX8_measures 123 = .ok (.iconst 2, 1) := by decide +kernel
theorem dX8_measures_124 : decode cX8_measures 124 = .ok (.iaload, 1) := by decide +kernel
theorem dX8_measures_125 : decode cX8_measures 125 = .ok (.if_icmp .ge 78, 3) := by decide +kernel
theorem dX8_measures_128 : decode cX8_measures 128 = .ok (.iload 5, 2) := by decide +kernel
theorem dX8_measures_130 : decode cX8_measures 130 = .ok (.aload_n 0, 1) := by decide +kernel
theorem dX8_measures_131 : decode cX8_measures 131 = .ok (.getfield 28, 3) := by decide +kernel
theorem dX8_measures_134 : decode cX8_measures 134 = .ok (.if_icmp .eq 63, 3) := by decide +kernel
theorem dX8_measures_137 : decode cX8_measures 137 = .ok (.aload_n 0, 1) := by decide +kernel
theorem dX8_measures_138 : decode cX8_measures 138 = .ok (.lload_n 3, 1) := by decide +kernel
theorem dX8_measures_139 : decode cX8_measures 139 = .ok (.iload 5, 2) := by decide +kernel
theorem dX8_measures_141 : decode cX8_measures 141 = .ok (.invokevirtual 143, 3) := by decide +kernel
theorem dX8_measures_144 : decode cX8_measures 144 = .ok (.iconst 0, 1) := by decide +kernel
theorem dX8_measures_145 : decode cX8_measures 145 = .ok (.istore 6, 2) := by decide +kernel
theorem dX8_measures_147 : decode cX8_measures 147 = .ok (.iload 6, 2) := by decide +kernel
theorem dX8_measures_149 : decode cX8_measures 149 = .ok (.aload_n 0, 1) := by decide +kernel
theorem dX8_measures_150 : decode cX8_measures 150 = .ok (.invokevirtual 98, 3) := by decide +kernel
theorem dX8_measures_153 : decode cX8_measures 153 = .ok (.if_icmp .ge 44, 3) := by decide +kernel
theorem dX8_measures_156 : decode cX8_measures 156 = .ok (.aload_n 0, 1) := by decide +kernel
theorem dX8_measures_157 : decode cX8_measures 157 = .ok (.iload 6, 2) := by decide +kernel
theorem dX8_measures_159 : decode cX8_measures 159 = .ok (.iload_n 1, 1) := by decide +kernel
theorem dX8_measures_160 : decode cX8_measures 160 = .ok (.invokevirtual 147, 3) := by decide +kernel
theorem dX8_measures_163 : decode cX8_measures 163 = .ok (.ifCond .eq 28, 3) := by decide +kernel
theorem dX8_measures_166 : decode cX8_measures 166 = .ok (.aload_n 0, 1) := by decide +kernel
theorem dX8_measures_167 : decode cX8_measures 167 = .ok (.lload_n 3, 1) := by decide +kernel
theorem dX8_measures_168 : decode cX8_measures 168 = .ok (.iload 5, 2) := by decide +kernel
theorem dX8_measures_170 : decode cX8_measures 170 = .ok (.iload 6, 2) := by decide +kernel
theorem dX8_measures_172 : decode cX8_measures 172 = .ok (.invokestatic 105, 3) := by decide +kernel
theorem dX8_measures_175 : decode cX8_measures 175 = .ok (.aload_n 0, 1) := by decide +kernel
theorem dX8_measures_176 : decode cX8_measures 176 = .ok (.getfield 45, 3) := by decide +kernel
theorem dX8_measures_179 : decode cX8_measures 179 = .ok (.aload_n 0, 1) := by decide +kernel
theorem dX8_measures_180 : decode cX8_measures 180 = .ok (.getfield 48, 3) := by decide +kernel
theorem dX8_measures_183 : decode cX8_measures 183 = .ok (.iload_n 2, 1) := by decide +kernel
theorem dX8_measures_184 : decode cX8_measures 184 = .ok (.iaload, 1) := by decide +kernel
theorem dX8_measures_185 : decode cX8_measures 185 = .ok (.iaload, 1) := by decide +kernel
theorem dX8_measures_186 : decode cX8_measures 186 = .ok (.iconst 1, 1) := by decide +kernel
theorem dX8_measures_187 : decode cX8_measures 187 = .ok (.iadd, 1) := by decide +kernel
theorem dX8_measures_188 : decode cX8_measures 188 = .ok (.invokevirtual 151, 3) := by decide +kernel
theorem dX8_measures_191 : decode cX8_measures 191 = .ok (.iinc 6 1, 3) := by decide +kernel
theorem dX8_measures_194 : decode cX8_measures 194 = .ok (.goto (-47), 3) := by decide +kernel
theorem dX8_measures_197 : decode cX8_measures 197 = .ok (.iinc 5 1, 3) := by decide +kernel
theorem dX8_measures_200 : decode cX8_measures 200 = .ok (.goto (-83), 3) := by decide +kernel
theorem dX8_measures_203 : decode cX8_measures 203 = .ok (.iinc 2 1, 3) := by decide +kernel
theorem dX8_measures_206 : decode cX8_measures 206 = .ok (.goto (-112), 3) := by decide +kernel
theorem dX8_measures_209 : decode cX8_measures 209 = .ok (.return_, 1) := by decide +kernel
theorem dX8_opens_0 : decode cX8_opens 0 = .ok (.aload_n 0, 1) := by decide +kernel
theorem dX8_opens_1 : decode cX8_opens 1 = .ok (.getfield 7, 3) := by decide +kernel
theorem dX8_opens_4 : decode cX8_opens 4 = .ok (.bipush 6, 2) := by decide +kernel
theorem dX8_opens_6 : decode cX8_opens 6 = .ok (.iaload, 1) := by decide +kernel
theorem dX8_opens_7 : decode cX8_opens 7 = .ok (.ifCond .ge 6, 3) := by decide +kernel
theorem dX8_opens_10 : decode cX8_opens 10 = .ok (.bipush (-2), 2) := by decide +kernel
theorem dX8_opens_12 : decode cX8_opens 12 = .ok (.ireturn, 1) := by decide +kernel
theorem dX8_opens_13 : decode cX8_opens 13 = .ok (.aload_n 0, 1) := by decide +kernel
theorem dX8_opens_14 : decode cX8_opens 14 = .ok (.iload_n 2, 1) := by decide +kernel
theorem dX8_opens_15 : decode cX8_opens 15 = .ok (.invokevirtual 154, 3) := by decide +kernel
theorem dX8_opens_18 : decode cX8_opens 18 = .ok (.aload_n 0, 1) := by decide +kernel
theorem dX8_opens_19 : decode cX8_opens 19 = .ok (.getfield 128, 3) := by decide +kernel
theorem dX8_opens_22 : decode cX8_opens 22 = .ok (.ifCond .eq 6, 3) := by decide +kernel
theorem dX8_opens_25 : decode cX8_opens 25 = .ok (.bipush (-3), 2) := by decide +kernel
theorem dX8_opens_27 : decode cX8_opens 27 = .ok (.ireturn, 1) := by decide +kernel
theorem dX8_opens_28 : decode cX8_opens 28 = .ok (.aload_n 0, 1) := by decide +kernel
theorem dX8_opens_29 : decode cX8_opens 29 = .ok (.iload_n 1, 1) := by decide +kernel
theorem dX8_opens_30 : decode cX8_opens 30 = .ok (.invokevirtual 158, 3) := by decide +kernel
theorem dX8_opens_33 : decode cX8_opens 33 = .ok (.aload_n 0, 1) := by decide +kernel
theorem dX8_opens_34 : decode cX8_opens 34 = .ok (.getfield 140, 3) := by decide +kernel
theorem dX8_opens_37 : decode cX8_opens 37 = .ok (.ifCond .ne 8, 3) := by decide +kernel
theorem dX8_opens_40 : decode cX8_opens 40 = .ok (.bipush (-9), 2) := by decide +kernel
theorem dX8_opens_42 : decode cX8_opens 42 = .ok (.goto 4, 3) := by decide +kernel
theorem dX8_opens_45 : decode cX8_opens 45 = .ok (.iconst 0, 1) := by decide +kernel
theorem dX8_opens_46 : decode cX8_opens 46 = .ok (.ireturn, 1) := by decide +kernel
theorem dX8_isSolved_0 : decode cX8_isSolved 0 = .ok (.aload_n 0, 1) := by decide +kernel
theorem dX8_isSolved_1 : decode cX8_isSolved 1 = .ok (.getfield 7, 3) := by decide +kernel
theorem dX8_isSolved_4 : decode cX8_isSolved 4 = .ok (.bipush 6, 2) := by decide +kernel
theorem dX8_isSolved_6 : decode cX8_isSolved 6 = .ok (.iaload, 1) := by decide +kernel
theorem dX8_isSolved_7 : decode cX8_isSolved 7 = .ok (.ifCond .lt 32, 3) := by decide +kernel
theorem dX8_isSolved_10 : decode cX8_isSolved 10 = .ok (.aload_n 0, 1) := by decide +kernel
theorem dX8_isSolved_11 : decode cX8_isSolved 11 = .ok (.getfield 7, 3) := by decide +kernel
theorem dX8_isSolved_14 : decode cX8_isSolved 14 = .ok (.bipush 31, 2) := by decide +kernel
theorem dX8_isSolved_16 : decode cX8_isSolved 16 = .ok (.aload_n 0, 1) := by decide +kernel
theorem dX8_isSolved_17 : decode cX8_isSolved 17 = .ok (.getfield 7, 3) := by decide +kernel
theorem dX8_isSolved_20 : decode cX8_isSolved 20 = .ok (.bipush 6, 2) := by decide +kernel
theorem dX8_isSolved_22 : decode cX8_isSolved 22 = .ok (.iaload, 1) := by decide +kernel
theorem dX8_isSolved_23 : decode cX8_isSolved 23 = .ok (.iadd, 1) := by decide +kernel
theorem dX8_isSolved_24 : decode cX8_isSolved 24 = .ok (.iaload, 1) := by decide +kernel
theorem dX8_isSolved_25 : decode cX8_isSolved 25 = .ok (.aload_n 0, 1) := by decide +kernel
theorem dX8_isSolved_26 : decode cX8_isSolved 26 = .ok (.getfield 7, 3) := by decide +kernel
theorem dX8_isSolved_29 : decode cX8_isSolved 29 = .ok (.bipush 7, 2) := by decide +kernel
theorem dX8_isSolved_31 : decode cX8_isSolved 31 = .ok (.iaload, 1) := by decide +kernel
theorem dX8_isSolved_32 : decode cX8_isSolved 32 = .ok (.if_icmp .ne 7, 3) := by decide +kernel
theorem dX8_isSolved_35 : decode cX8_isSolved 35 = .ok (.iconst 1, 1) := by decide +kernel
theorem dX8_isSolved_36 : decode cX8_isSolved 36 = .ok (.goto 4, 3) := by decide +kernel
theorem dX8_isSolved_39 : decode cX8_isSolved 39 = .ok (.iconst 0, 1) := by decide +kernel
theorem dX8_isSolved_40 : decode cX8_isSolved 40 = .ok (.ireturn, 1) := by decide +kernel
theorem dX8_many_0 : decode cX8_many 0 = .ok (.iconst 0, 1) := by decide +kernel
theorem dX8_many_1 : decode cX8_many 1 = .ok (.istore_n 1, 1) := by decide +kernel
theorem dX8_many_2 : decode cX8_many 2 = .ok (.iconst 0, 1) := by decide +kernel
theorem dX8_many_3 : decode cX8_many 3 = .ok (.istore_n 2, 1) := by decide +kernel
theorem dX8_many_4 : decode cX8_many 4 = .ok (.iload_n 2, 1) := by decide +kernel
theorem dX8_many_5 : decode cX8_many 5 = .ok (.bipush 24, 2) := by decide +kernel
theorem dX8_many_7 : decode cX8_many 7 = .ok (.if_icmp .ge 17, 3) := by decide +kernel
theorem dX8_many_10 : decode cX8_many 10 = .ok (.iload_n 1, 1) := by decide +kernel
theorem dX8_many_11 : decode cX8_many 11 = .ok (.iload_n 0, 1) := by decide +kernel
theorem dX8_many_12 : decode cX8_many 12 = .ok (.iload_n 2, 1) := by decide +kernel
theorem dX8_many_13 : decode cX8_many 13 = .ok (.ishr, 1) := by decide +kernel
theorem dX8_many_14 : decode cX8_many 14 = .ok (.iconst 1, 1) := by decide +kernel
theorem dX8_many_15 : decode cX8_many 15 = .ok (.iand, 1) := by decide +kernel
theorem dX8_many_16 : decode cX8_many 16 = .ok (.iadd, 1) := by decide +kernel
theorem dX8_many_17 : decode cX8_many 17 = .ok (.istore_n 1, 1) := by decide +kernel
theorem dX8_many_18 : decode cX8_many 18 = .ok (.iinc 2 1, 3) := by decide +kernel
theorem dX8_many_21 : decode cX8_many 21 = .ok (.goto (-17), 3) := by decide +kernel
theorem dX8_many_24 : decode cX8_many 24 = .ok (.iload_n 1, 1) := by decide +kernel
theorem dX8_many_25 : decode cX8_many 25 = .ok (.ireturn, 1) := by decide +kernel
theorem dX8_frameOf_0 : decode cX8_frameOf 0 = .ok (.aload_n 0, 1) := by decide +kernel
theorem dX8_frameOf_1 : decode cX8_frameOf 1 = .ok (.bipush (-9), 2) := by decide +kernel
theorem dX8_frameOf_3 : decode cX8_frameOf 3 = .ok (.putfield 28, 3) := by decide +kernel
theorem dX8_frameOf_6 : decode cX8_frameOf 6 = .ok (.iload_n 1, 1) := by decide +kernel
theorem dX8_frameOf_7 : decode cX8_frameOf 7 = .ok (.lookupswitch 57 #[(3, 25), (8, 44)], 25) := by decide +kernel
theorem dX8_frameOf_32 : decode cX8_frameOf 32 = .ok (.aload_n 0, 1) := by decide +kernel
theorem dX8_frameOf_33 : decode cX8_frameOf 33 = .ok (.invokevirtual 98, 3) := by decide +kernel
theorem dX8_frameOf_36 : decode cX8_frameOf 36 = .ok (.aload_n 0, 1) := by decide +kernel
theorem dX8_frameOf_37 : decode cX8_frameOf 37 = .ok (.aload_n 0, 1) := by decide +kernel
theorem dX8_frameOf_38 : decode cX8_frameOf 38 = .ok (.invokevirtual 132, 3) := by decide +kernel
theorem dX8_frameOf_41 : decode cX8_frameOf 41 = .ok (.bipush (-9), 2) := by decide +kernel
theorem dX8_frameOf_43 : decode cX8_frameOf 43 = .ok (.invokevirtual 113, 3) := by decide +kernel
theorem dX8_frameOf_46 : decode cX8_frameOf 46 = .ok (.invokestatic 162, 3) := by decide +kernel
theorem dX8_frameOf_49 : decode cX8_frameOf 49 = .ok (.isub, 1) := by decide +kernel
theorem dX8_frameOf_50 : decode cX8_frameOf 50 = .ok (.ireturn, 1) := by decide +kernel
theorem dX8_frameOf_51 : decode cX8_frameOf 51 = .ok (.aload_n 0, 1) := by decide +kernel
theorem dX8_frameOf_52 : decode cX8_frameOf 52 = .ok (.invokevirtual 166, 3) := by decide +kernel
theorem dX8_frameOf_55 : decode cX8_frameOf 55 = .ok (.ifCond .eq 7, 3) := by decide +kernel
theorem dX8_frameOf_58 : decode cX8_frameOf 58 = .ok (.iconst 1, 1) := by decide +kernel
theorem dX8_frameOf_59 : decode cX8_frameOf 59 = .ok (.goto 4, 3) := by decide +kernel
theorem dX8_frameOf_62 : decode cX8_frameOf 62 = .ok (.iconst 0, 1) := by decide +kernel
theorem dX8_frameOf_63 : decode cX8_frameOf 63 = .ok (.ireturn, 1) := by decide +kernel
theorem dX8_frameOf_64 : decode cX8_frameOf 64 = .ok (.aload_n 0, 1) := by decide +kernel
theorem dX8_frameOf_65 : decode cX8_frameOf 65 = .ok (.getfield 7, 3) := by decide +kernel
theorem dX8_frameOf_68 : decode cX8_frameOf 68 = .ok (.iload_n 1, 1) := by decide +kernel
theorem dX8_frameOf_69 : decode cX8_frameOf 69 = .ok (.iaload, 1) := by decide +kernel
theorem dX8_frameOf_70 : decode cX8_frameOf 70 = .ok (.ireturn, 1) := by decide +kernel
theorem dX8_frame_0 : decode cX8_frame 0 = .ok (.iload_n 1, 1) := by decide +kernel
theorem dX8_frame_1 : decode cX8_frame 1 = .ok (.iconst 0, 1) := by decide +kernel
theorem dX8_frame_2 : decode cX8_frame 2 = .ok (.bipush 8, 2) := by decide +kernel
theorem dX8_frame_4 : decode cX8_frame 4 = .ok (.invokestatic 54, 3) := by decide +kernel
theorem dX8_frame_7 : decode cX8_frame 7 = .ok (.ifCond .eq 11, 3) := by decide +kernel
theorem dX8_frame_10 : decode cX8_frame 10 = .ok (.aload_n 0, 1) := by decide +kernel
theorem dX8_frame_11 : decode cX8_frame 11 = .ok (.iload_n 1, 1) := by decide +kernel
theorem dX8_frame_12 : decode cX8_frame 12 = .ok (.invokevirtual 170, 3) := by decide +kernel
theorem dX8_frame_15 : decode cX8_frame 15 = .ok (.goto 4, 3) := by decide +kernel
theorem dX8_frame_18 : decode cX8_frame 18 = .ok (.iconst (-1), 1) := by decide +kernel
theorem dX8_frame_19 : decode cX8_frame 19 = .ok (.ireturn, 1) := by decide +kernel
theorem dX8_inCell_0 : decode cX8_inCell 0 = .ok (.aload_n 0, 1) := by decide +kernel
theorem dX8_inCell_1 : decode cX8_inCell 1 = .ok (.getfield 7, 3) := by decide +kernel
theorem dX8_inCell_4 : decode cX8_inCell 4 = .ok (.iconst 3, 1) := by decide +kernel
theorem dX8_inCell_5 : decode cX8_inCell 5 = .ok (.iaload, 1) := by decide +kernel
theorem dX8_inCell_6 : decode cX8_inCell 6 = .ok (.iload_n 1, 1) := by decide +kernel
theorem dX8_inCell_7 : decode cX8_inCell 7 = .ok (.ishr, 1) := by decide +kernel
theorem dX8_inCell_8 : decode cX8_inCell 8 = .ok (.iconst 1, 1) := by decide +kernel
theorem dX8_inCell_9 : decode cX8_inCell 9 = .ok (.iand, 1) := by decide +kernel
theorem dX8_inCell_10 : decode cX8_inCell 10 = .ok (.iconst 1, 1) := by decide +kernel
theorem dX8_inCell_11 : decode cX8_inCell 11 = .ok (.if_icmp .ne 8, 3) := by decide +kernel
theorem dX8_inCell_14 : decode cX8_inCell 14 = .ok (.bipush (-10), 2) := by decide +kernel
theorem dX8_inCell_16 : decode cX8_inCell 16 = .ok (.goto 5, 3) := by decide +kernel
theorem dX8_inCell_19 : decode cX8_inCell 19 = .ok (.bipush (-9), 2) := by decide +kernel
theorem dX8_inCell_21 : decode cX8_inCell 21 = .ok (.istore_n 2, 1) := by decide +kernel
theorem dX8_inCell_22 : decode cX8_inCell 22 = .ok (.iconst 0, 1) := by decide +kernel
theorem dX8_inCell_23 : decode cX8_inCell 23 = .ok (.istore_n 3, 1) := by decide +kernel
theorem dX8_inCell_24 : decode cX8_inCell 24 = .ok (.iload_n 3, 1) := by decide +kernel
theorem dX8_inCell_25 : decode cX8_inCell 25 = .ok (.aload_n 0, 1) := by decide +kernel
theorem dX8_inCell_26 : decode cX8_inCell 26 = .ok (.getfield 7, 3) := by decide +kernel
theorem dX8_inCell_29 : decode cX8_inCell 29 = .ok (.iconst 2, 1) := by decide +kernel
theorem dX8_inCell_30 : decode cX8_inCell 30 = .ok (.iaload, 1) := by decide +kernel
theorem dX8_inCell_31 : decode cX8_inCell 31 = .ok (.if_icmp .ge 42, 3) := by decide +kernel
theorem dX8_inCell_34 : decode cX8_inCell 34 = .ok (.aload_n 0, 1) := by decide +kernel
theorem dX8_inCell_35 : decode cX8_inCell 35 = .ok (.getfield 7, 3) := by decide +kernel
theorem dX8_inCell_38 : decode cX8_inCell 38 = .ok (.bipush 10, 2) := by decide +kernel
theorem dX8_inCell_40 : decode cX8_inCell 40 = .ok (.iload_n 3, 1) := by decide +kernel
theorem dX8_inCell_41 : decode cX8_inCell 41 = .ok (.iadd, 1) := by decide +kernel
theorem dX8_inCell_42 : decode cX8_inCell 42 = .ok (.iaload, 1) := by decide +kernel
theorem dX8_inCell_43 : decode cX8_inCell 43 = .ok (.aload_n 0, 1) := by decide +kernel
theorem dX8_inCell_44 : decode cX8_inCell 44 = .ok (.getfield 7, 3) := by decide +kernel
theorem dX8_inCell_47 : decode cX8_inCell 47 = .ok (.bipush 31, 2) := by decide +kernel
theorem dX8_inCell_49 : decode cX8_inCell 49 = .ok (.iload_n 3, 1) := by decide +kernel
theorem dX8_inCell_50 : decode cX8_inCell 50 = .ok (.iadd, 1) := by decide +kernel
theorem dX8_inCell_51 : decode cX8_inCell 51 = .ok (.iaload, 1) := by decide +kernel
theorem dX8_inCell_52 : decode cX8_inCell 52 = .ok (.ishl, 1) := by decide +kernel
theorem dX8_inCell_53 : decode cX8_inCell 53 = .ok (.iload_n 1, 1) := by decide +kernel
theorem dX8_inCell_54 : decode cX8_inCell 54 = .ok (.ishr, 1) := by decide +kernel
theorem dX8_inCell_55 : decode cX8_inCell 55 = .ok (.iconst 1, 1) := by decide +kernel
theorem dX8_inCell_56 : decode cX8_inCell 56 = .ok (.iand, 1) := by decide +kernel
theorem dX8_inCell_57 : decode cX8_inCell 57 = .ok (.iconst 1, 1) := by decide +kernel
theorem dX8_inCell_58 : decode cX8_inCell 58 = .ok (.if_icmp .ne 7, 3) := by decide +kernel
theorem dX8_inCell_61 : decode cX8_inCell 61 = .ok (.iload_n 3, 1) := by decide +kernel
theorem dX8_inCell_62 : decode cX8_inCell 62 = .ok (.goto 4, 3) := by decide +kernel
theorem dX8_inCell_65 : decode cX8_inCell 65 = .ok (.iload_n 2, 1) := by decide +kernel
theorem dX8_inCell_66 : decode cX8_inCell 66 = .ok (.istore_n 2, 1) := by decide +kernel
theorem dX8_inCell_67 : decode cX8_inCell 67 = .ok (.iinc 3 1, 3) := by decide +kernel
theorem dX8_inCell_70 : decode cX8_inCell 70 = .ok (.goto (-46), 3) := by decide +kernel
theorem dX8_inCell_73 : decode cX8_inCell 73 = .ok (.iload_n 2, 1) := by decide +kernel
theorem dX8_inCell_74 : decode cX8_inCell 74 = .ok (.ireturn, 1) := by decide +kernel
theorem dX8_cell_0 : decode cX8_cell 0 = .ok (.iload_n 1, 1) := by decide +kernel
theorem dX8_cell_1 : decode cX8_cell 1 = .ok (.iconst 0, 1) := by decide +kernel
theorem dX8_cell_2 : decode cX8_cell 2 = .ok (.aload_n 0, 1) := by decide +kernel
theorem dX8_cell_3 : decode cX8_cell 3 = .ok (.invokevirtual 98, 3) := by decide +kernel
theorem dX8_cell_6 : decode cX8_cell 6 = .ok (.iconst 1, 1) := by decide +kernel
theorem dX8_cell_7 : decode cX8_cell 7 = .ok (.isub, 1) := by decide +kernel
theorem dX8_cell_8 : decode cX8_cell 8 = .ok (.invokestatic 54, 3) := by decide +kernel
theorem dX8_cell_11 : decode cX8_cell 11 = .ok (.ifCond .eq 11, 3) := by decide +kernel
theorem dX8_cell_14 : decode cX8_cell 14 = .ok (.aload_n 0, 1) := by decide +kernel
theorem dX8_cell_15 : decode cX8_cell 15 = .ok (.iload_n 1, 1) := by decide +kernel
theorem dX8_cell_16 : decode cX8_cell 16 = .ok (.invokevirtual 173, 3) := by decide +kernel
theorem dX8_cell_19 : decode cX8_cell 19 = .ok (.goto 4, 3) := by decide +kernel
theorem dX8_cell_22 : decode cX8_cell 22 = .ok (.iconst (-1), 1) := by decide +kernel
theorem dX8_cell_23 : decode cX8_cell 23 = .ok (.ireturn, 1) := by decide +kernel
theorem dX8_told_0 : decode cX8_told 0 = .ok (.aload_n 0, 1) := by decide +kernel
theorem dX8_told_1 : decode cX8_told 1 = .ok (.bipush (-9), 2) := by decide +kernel
theorem dX8_told_3 : decode cX8_told 3 = .ok (.putfield 28, 3) := by decide +kernel
theorem dX8_told_6 : decode cX8_told 6 = .ok (.aload_n 0, 1) := by decide +kernel
theorem dX8_told_7 : decode cX8_told 7 = .ok (.aload_n 0, 1) := by decide +kernel
theorem dX8_told_8 : decode cX8_told 8 = .ok (.invokevirtual 132, 3) := by decide +kernel
theorem dX8_told_11 : decode cX8_told 11 = .ok (.iload_n 1, 1) := by decide +kernel
theorem dX8_told_12 : decode cX8_told 12 = .ok (.invokevirtual 143, 3) := by decide +kernel
theorem dX8_told_15 : decode cX8_told 15 = .ok (.iload_n 2, 1) := by decide +kernel
theorem dX8_told_16 : decode cX8_told 16 = .ok (.tableswitch 189 0 5 #[40, 50, 63, 73, 83, 147], 40) := by decide +kernel
theorem dX8_told_56 : decode cX8_told 56 = .ok (.aload_n 0, 1) := by decide +kernel
theorem dX8_told_57 : decode cX8_told 57 = .ok (.getfield 7, 3) := by decide +kernel
theorem dX8_told_60 : decode cX8_told 60 = .ok (.bipush 31, 2) := by decide +kernel
theorem dX8_told_62 : decode cX8_told 62 = .ok (.iload_n 1, 1) := by decide +kernel
theorem dX8_told_63 : decode cX8_told 63 = .ok (.iadd, 1) := by decide +kernel
theorem dX8_told_64 : decode cX8_told 64 = .ok (.iaload, 1) := by decide +kernel
theorem dX8_told_65 : decode cX8_told 65 = .ok (.ireturn, 1) := by decide +kernel
theorem dX8_told_66 : decode cX8_told 66 = .ok (.aload_n 0, 1) := by decide +kernel
theorem dX8_told_67 : decode cX8_told 67 = .ok (.getfield 7, 3) := by decide +kernel
theorem dX8_told_70 : decode cX8_told 70 = .ok (.bipush 10, 2) := by decide +kernel
theorem dX8_told_72 : decode cX8_told 72 = .ok (.iload_n 1, 1) := by decide +kernel
theorem dX8_told_73 : decode cX8_told 73 = .ok (.iadd, 1) := by decide +kernel
theorem dX8_told_74 : decode cX8_told 74 = .ok (.iaload, 1) := by decide +kernel
theorem dX8_told_75 : decode cX8_told 75 = .ok (.invokestatic 162, 3) := by decide +kernel
theorem dX8_told_78 : decode cX8_told 78 = .ok (.ireturn, 1) := by decide +kernel
theorem dX8_told_79 : decode cX8_told 79 = .ok (.aload_n 0, 1) := by decide +kernel
theorem dX8_told_80 : decode cX8_told 80 = .ok (.getfield 7, 3) := by decide +kernel
theorem dX8_told_83 : decode cX8_told 83 = .ok (.bipush 17, 2) := by decide +kernel
theorem dX8_told_85 : decode cX8_told 85 = .ok (.iload_n 1, 1) := by decide +kernel
theorem dX8_told_86 : decode cX8_told 86 = .ok (.iadd, 1) := by decide +kernel
theorem dX8_told_87 : decode cX8_told 87 = .ok (.iaload, 1) := by decide +kernel
theorem dX8_told_88 : decode cX8_told 88 = .ok (.ireturn, 1) := by decide +kernel
theorem dX8_told_89 : decode cX8_told 89 = .ok (.aload_n 0, 1) := by decide +kernel
theorem dX8_told_90 : decode cX8_told 90 = .ok (.getfield 7, 3) := by decide +kernel
theorem dX8_told_93 : decode cX8_told 93 = .ok (.bipush 24, 2) := by decide +kernel
theorem dX8_told_95 : decode cX8_told 95 = .ok (.iload_n 1, 1) := by decide +kernel
theorem dX8_told_96 : decode cX8_told 96 = .ok (.iadd, 1) := by decide +kernel
theorem dX8_told_97 : decode cX8_told 97 = .ok (.iaload, 1) := by decide +kernel
theorem dX8_told_98 : decode cX8_told 98 = .ok (.ireturn, 1) := by decide +kernel
theorem dX8_told_99 : decode cX8_told 99 = .ok (.iconst 0, 1) := by decide +kernel
theorem dX8_told_100 : decode cX8_told 100 = .ok (.istore_n 3, 1) := by decide +kernel
theorem dX8_told_101 : decode cX8_told 101 = .ok (.iconst 0, 1) := by decide +kernel
theorem dX8_told_102 : decode cX8_told 102 = .ok (.istore 4, 2) := by decide +kernel
theorem dX8_told_104 : decode cX8_told 104 = .ok (.iload 4, 2) := by decide +kernel
theorem dX8_told_106 : decode cX8_told 106 = .ok (.iconst 4, 1) := by decide +kernel
theorem dX8_told_107 : decode cX8_told 107 = .ok (.if_icmp .ge 54, 3) := by decide +kernel
theorem dX8_told_110 : decode cX8_told 110 = .ok (.aload_n 0, 1) := by decide +kernel
theorem dX8_told_111 : decode cX8_told 111 = .ok (.iload_n 1, 1) := by decide +kernel
theorem dX8_told_112 : decode cX8_told 112 = .ok (.aload_n 0, 1) := by decide +kernel
theorem dX8_told_113 : decode cX8_told 113 = .ok (.getfield 7, 3) := by decide +kernel
theorem dX8_told_116 : decode cX8_told 116 = .ok (.bipush 31, 2) := by decide +kernel
theorem dX8_told_118 : decode cX8_told 118 = .ok (.iload_n 1, 1) := by decide +kernel
theorem dX8_told_119 : decode cX8_told 119 = .ok (.iadd, 1) := by decide +kernel
theorem dX8_told_120 : decode cX8_told 120 = .ok (.iaload, 1) := by decide +kernel
theorem dX8_told_121 : decode cX8_told 121 = .ok (.iload 4, 2) := by decide +kernel
theorem dX8_told_123 : decode cX8_told 123 = .ok (.invokevirtual 116, 3) := by decide +kernel
theorem dX8_told_126 : decode cX8_told 126 = .ok (.istore 5, 2) := by decide +kernel
theorem dX8_told_128 : decode cX8_told 128 = .ok (.iload_n 3, 1) := by decide +kernel
theorem dX8_told_129 : decode cX8_told 129 = .ok (.iload 5, 2) := by decide +kernel
theorem dX8_told_131 : decode cX8_told 131 = .ok (.ifCond .lt 21, 3) := by decide +kernel
theorem dX8_told_134 : decode cX8_told 134 = .ok (.aload_n 0, 1) := by decide +kernel
theorem dX8_told_135 : decode cX8_told 135 = .ok (.getfield 32, 3) := by decide +kernel
theorem dX8_told_138 : decode cX8_told 138 = .ok (.iload 5, 2) := by decide +kernel
theorem dX8_told_140 : decode cX8_told 140 = .ok (.iaload, 1) := by decide +kernel
theorem dX8_told_141 : decode cX8_told 141 = .ok (.iconst 1, 1) := by decide +kernel
theorem dX8_told_142 : decode cX8_told 142 = .ok (.if_icmp .ne 10, 3) := by decide +kernel
theorem dX8_told_145 : decode cX8_told 145 = .ok (.iconst 1, 1) := by decide +kernel
theorem dX8_told_146 : decode cX8_told 146 = .ok (.iload 4, 2) := by decide +kernel
theorem dX8_told_148 : decode cX8_told 148 = .ok (.ishl, 1) := by decide +kernel
theorem dX8_told_149 : decode cX8_told 149 = .ok (.goto 4, 3) := by decide +kernel
theorem dX8_told_152 : decode cX8_told 152 = .ok (.iconst 0, 1) := by decide +kernel
theorem dX8_told_153 : decode cX8_told 153 = .ok (.ior, 1) := by decide +kernel
theorem dX8_told_154 : decode cX8_told 154 = .ok (.istore_n 3, 1) := by decide +kernel
theorem dX8_told_155 : decode cX8_told 155 = .ok (.iinc 4 1, 3) := by decide +kernel
theorem dX8_told_158 : decode cX8_told 158 = .ok (.goto (-54), 3) := by decide +kernel
theorem dX8_told_161 : decode cX8_told 161 = .ok (.iload_n 3, 1) := by decide +kernel
theorem dX8_told_162 : decode cX8_told 162 = .ok (.ireturn, 1) := by decide +kernel
theorem dX8_told_163 : decode cX8_told 163 = .ok (.iconst 0, 1) := by decide +kernel
theorem dX8_told_164 : decode cX8_told 164 = .ok (.istore 4, 2) := by decide +kernel
theorem dX8_told_166 : decode cX8_told 166 = .ok (.iconst 0, 1) := by decide +kernel
theorem dX8_told_167 : decode cX8_told 167 = .ok (.istore 5, 2) := by decide +kernel
theorem dX8_told_169 : decode cX8_told 169 = .ok (.iload 5, 2) := by decide +kernel
theorem dX8_told_171 : decode cX8_told 171 = .ok (.bipush 24, 2) := by decide +kernel
theorem dX8_told_173 : decode cX8_told 173 = .ok (.if_icmp .ge 29, 3) := by decide +kernel
theorem dX8_told_176 : decode cX8_told 176 = .ok (.iload 4, 2) := by decide +kernel
theorem dX8_told_178 : decode cX8_told 178 = .ok (.aload_n 0, 1) := by decide +kernel
theorem dX8_told_179 : decode cX8_told 179 = .ok (.getfield 32, 3) := by decide +kernel
theorem dX8_told_182 : decode cX8_told 182 = .ok (.iload 5, 2) := by decide +kernel
theorem dX8_told_184 : decode cX8_told 184 = .ok (.iaload, 1) := by decide +kernel
theorem dX8_told_185 : decode cX8_told 185 = .ok (.ifCond .le 7, 3) := by decide +kernel
theorem dX8_told_188 : decode cX8_told 188 = .ok (.iconst 1, 1) := by decide +kernel
theorem dX8_told_189 : decode cX8_told 189 = .ok (.goto 4, 3) := by decide +kernel
theorem dX8_told_192 : decode cX8_told 192 = .ok (.iconst 0, 1) := by decide +kernel
theorem dX8_told_193 : decode cX8_told 193 = .ok (.iadd, 1) := by decide +kernel
theorem dX8_told_194 : decode cX8_told 194 = .ok (.istore 4, 2) := by decide +kernel
theorem dX8_told_196 : decode cX8_told 196 = .ok (.iinc 5 1, 3) := by decide +kernel
theorem dX8_told_199 : decode cX8_told 199 = .ok (.goto (-30), 3) := by decide +kernel
theorem dX8_told_202 : decode cX8_told 202 = .ok (.iload 4, 2) := by decide +kernel
theorem dX8_told_204 : decode cX8_told 204 = .ok (.ireturn, 1) := by decide +kernel
theorem dX8_told_205 : decode cX8_told 205 = .ok (.iload_n 1, 1) := by decide +kernel
theorem dX8_told_206 : decode cX8_told 206 = .ok (.istore 5, 2) := by decide +kernel
theorem dX8_told_208 : decode cX8_told 208 = .ok (.iload_n 1, 1) := by decide +kernel
theorem dX8_told_209 : decode cX8_told 209 = .ok (.iconst 1, 1) := by decide +kernel
theorem dX8_told_210 : decode cX8_told 210 = .ok (.isub, 1) := by decide +kernel
theorem dX8_told_211 : decode cX8_told 211 = .ok (.istore 6, 2) := by decide +kernel
theorem dX8_told_213 : decode cX8_told 213 = .ok (.iload 6, 2) := by decide +kernel
theorem dX8_told_215 : decode cX8_told 215 = .ok (.ifCond .lt 84, 3) := by decide +kernel
theorem dX8_told_218 : decode cX8_told 218 = .ok (.aload_n 0, 1) := by decide +kernel
theorem dX8_told_219 : decode cX8_told 219 = .ok (.getfield 7, 3) := by decide +kernel
theorem dX8_told_222 : decode cX8_told 222 = .ok (.bipush 10, 2) := by decide +kernel
theorem dX8_told_224 : decode cX8_told 224 = .ok (.iload 6, 2) := by decide +kernel
theorem dX8_told_226 : decode cX8_told 226 = .ok (.iadd, 1) := by decide +kernel
theorem dX8_told_227 : decode cX8_told 227 = .ok (.iaload, 1) := by decide +kernel
theorem dX8_told_228 : decode cX8_told 228 = .ok (.aload_n 0, 1) := by decide +kernel
theorem dX8_told_229 : decode cX8_told 229 = .ok (.getfield 7, 3) := by decide +kernel
theorem dX8_told_232 : decode cX8_told 232 = .ok (.bipush 10, 2) := by decide +kernel
theorem dX8_told_234 : decode cX8_told 234 = .ok (.iload_n 1, 1) := by decide +kernel
theorem dX8_told_235 : decode cX8_told 235 = .ok (.iadd, 1) := by decide +kernel
theorem dX8_told_236 : decode cX8_told 236 = .ok (.iaload, 1) := by decide +kernel
theorem dX8_told_237 : decode cX8_told 237 = .ok (.if_icmp .ne 52, 3) := by decide +kernel
theorem dX8_told_240 : decode cX8_told 240 = .ok (.aload_n 0, 1) := by decide +kernel
theorem dX8_told_241 : decode cX8_told 241 = .ok (.getfield 7, 3) := by decide +kernel
theorem dX8_told_244 : decode cX8_told 244 = .ok (.bipush 17, 2) := by decide +kernel
theorem dX8_told_246 : decode cX8_told 246 = .ok (.iload 6, 2) := by decide +kernel
theorem dX8_told_248 : decode cX8_told 248 = .ok (.iadd, 1) := by decide +kernel
theorem dX8_told_249 : decode cX8_told 249 = .ok (.iaload, 1) := by decide +kernel
theorem dX8_told_250 : decode cX8_told 250 = .ok (.aload_n 0, 1) := by decide +kernel
theorem dX8_told_251 : decode cX8_told 251 = .ok (.getfield 7, 3) := by decide +kernel
theorem dX8_told_254 : decode cX8_told 254 = .ok (.bipush 17, 2) := by decide +kernel
theorem dX8_told_256 : decode cX8_told 256 = .ok (.iload_n 1, 1) := by decide +kernel
theorem dX8_told_257 : decode cX8_told 257 = .ok (.iadd, 1) := by decide +kernel
theorem dX8_told_258 : decode cX8_told 258 = .ok (.iaload, 1) := by decide +kernel
theorem dX8_told_259 : decode cX8_told 259 = .ok (.if_icmp .ne 30, 3) := by decide +kernel
theorem dX8_told_262 : decode cX8_told 262 = .ok (.aload_n 0, 1) := by decide +kernel
theorem dX8_told_263 : decode cX8_told 263 = .ok (.getfield 7, 3) := by decide +kernel
theorem dX8_told_266 : decode cX8_told 266 = .ok (.bipush 24, 2) := by decide +kernel
theorem dX8_told_268 : decode cX8_told 268 = .ok (.iload 6, 2) := by decide +kernel
theorem dX8_told_270 : decode cX8_told 270 = .ok (.iadd, 1) := by decide +kernel
theorem dX8_told_271 : decode cX8_told 271 = .ok (.iaload, 1) := by decide +kernel
theorem dX8_told_272 : decode cX8_told 272 = .ok (.aload_n 0, 1) := by decide +kernel
theorem dX8_told_273 : decode cX8_told 273 = .ok (.getfield 7, 3) := by decide +kernel
theorem dX8_told_276 : decode cX8_told 276 = .ok (.bipush 24, 2) := by decide +kernel
theorem dX8_told_278 : decode cX8_told 278 = .ok (.iload_n 1, 1) := by decide +kernel
theorem dX8_told_279 : decode cX8_told 279 = .ok (.iadd, 1) := by decide +kernel
theorem dX8_told_280 : decode cX8_told 280 = .ok (.iaload, 1) := by decide +kernel
theorem dX8_told_281 : decode cX8_told 281 = .ok (.if_icmp .ne 8, 3) := by decide +kernel
theorem dX8_told_284 : decode cX8_told 284 = .ok (.iload 6, 2) := by decide +kernel
theorem dX8_told_286 : decode cX8_told 286 = .ok (.goto 5, 3) := by decide +kernel
theorem dX8_told_289 : decode cX8_told 289 = .ok (.iload 5, 2) := by decide +kernel
theorem dX8_told_291 : decode cX8_told 291 = .ok (.istore 5, 2) := by decide +kernel
theorem dX8_told_293 : decode cX8_told 293 = .ok (.iinc 6 (-1), 3) := by decide +kernel
theorem dX8_told_296 : decode cX8_told 296 = .ok (.goto (-83), 3) := by decide +kernel
theorem dX8_told_299 : decode cX8_told 299 = .ok (.iload 5, 2) := by decide +kernel
theorem dX8_told_301 : decode cX8_told 301 = .ok (.ireturn, 1) := by decide +kernel
theorem dX8_block_0 : decode cX8_block 0 = .ok (.aload_n 0, 1) := by decide +kernel
theorem dX8_block_1 : decode cX8_block 1 = .ok (.iload_n 1, 1) := by decide +kernel
theorem dX8_block_2 : decode cX8_block 2 = .ok (.invokevirtual 176, 3) := by decide +kernel
theorem dX8_block_5 : decode cX8_block 5 = .ok (.ifCond .eq 22, 3) := by decide +kernel
theorem dX8_block_8 : decode cX8_block 8 = .ok (.iload_n 2, 1) := by decide +kernel
theorem dX8_block_9 : decode cX8_block 9 = .ok (.iconst 0, 1) := by decide +kernel
theorem dX8_block_10 : decode cX8_block 10 = .ok (.bipush 6, 2) := by decide +kernel
theorem dX8_block_12 : decode cX8_block 12 = .ok (.invokestatic 54, 3) := by decide +kernel
theorem dX8_block_15 : decode cX8_block 15 = .ok (.ifCond .eq 12, 3) := by decide +kernel
theorem dX8_block_18 : decode cX8_block 18 = .ok (.aload_n 0, 1) := by decide +kernel
theorem dX8_block_19 : decode cX8_block 19 = .ok (.iload_n 1, 1) := by decide +kernel
theorem dX8_block_20 : decode cX8_block 20 = .ok (.iload_n 2, 1) := by decide +kernel
theorem dX8_block_21 : decode cX8_block 21 = .ok (.invokevirtual 179, 3) := by decide +kernel
theorem dX8_block_24 : decode cX8_block 24 = .ok (.goto 4, 3) := by decide +kernel
theorem dX8_block_27 : decode cX8_block 27 = .ok (.iconst (-1), 1) := by decide +kernel
theorem dX8_block_28 : decode cX8_block 28 = .ok (.ireturn, 1) := by decide +kernel
theorem dX8_moves_0 : decode cX8_moves 0 = .ok (.aload_n 0, 1) := by decide +kernel
theorem dX8_moves_1 : decode cX8_moves 1 = .ok (.getfield 7, 3) := by decide +kernel
theorem dX8_moves_4 : decode cX8_moves 4 = .ok (.iconst 4, 1) := by decide +kernel
theorem dX8_moves_5 : decode cX8_moves 5 = .ok (.dup2, 1) := by decide +kernel
theorem dX8_moves_6 : decode cX8_moves 6 = .ok (.iaload, 1) := by decide +kernel
theorem dX8_moves_7 : decode cX8_moves 7 = .ok (.iload_n 3, 1) := by decide +kernel
theorem dX8_moves_8 : decode cX8_moves 8 = .ok (.iadd, 1) := by decide +kernel
theorem dX8_moves_9 : decode cX8_moves 9 = .ok (.iastore, 1) := by decide +kernel
theorem dX8_moves_10 : decode cX8_moves 10 = .ok (.aload_n 0, 1) := by decide +kernel
theorem dX8_moves_11 : decode cX8_moves 11 = .ok (.getfield 7, 3) := by decide +kernel
theorem dX8_moves_14 : decode cX8_moves 14 = .ok (.iconst 5, 1) := by decide +kernel
theorem dX8_moves_15 : decode cX8_moves 15 = .ok (.dup2, 1) := by decide +kernel
theorem dX8_moves_16 : decode cX8_moves 16 = .ok (.iaload, 1) := by decide +kernel
theorem dX8_moves_17 : decode cX8_moves 17 = .ok (.iload 4, 2) := by decide +kernel
theorem dX8_moves_19 : decode cX8_moves 19 = .ok (.ifCond .ne 14, 3) := by decide +kernel
theorem dX8_moves_22 : decode cX8_moves 22 = .ok (.aload_n 0, 1) := by decide +kernel
theorem dX8_moves_23 : decode cX8_moves 23 = .ok (.getfield 7, 3) := by decide +kernel
theorem dX8_moves_26 : decode cX8_moves 26 = .ok (.bipush 8, 2) := by decide +kernel
theorem dX8_moves_28 : decode cX8_moves 28 = .ok (.iaload, 1) := by decide +kernel
theorem dX8_moves_29 : decode cX8_moves 29 = .ok (.iload_n 1, 1) := by decide +kernel
theorem dX8_moves_30 : decode cX8_moves 30 = .ok (.if_icmp .eq 7, 3) := by decide +kernel
theorem dX8_moves_33 : decode cX8_moves 33 = .ok (.iconst 1, 1) := by decide +kernel
theorem dX8_moves_34 : decode cX8_moves 34 = .ok (.goto 4, 3) := by decide +kernel
theorem dX8_moves_37 : decode cX8_moves 37 = .ok (.iconst 0, 1) := by decide +kernel
theorem dX8_moves_38 : decode cX8_moves 38 = .ok (.iadd, 1) := by decide +kernel
theorem dX8_moves_39 : decode cX8_moves 39 = .ok (.iastore, 1) := by decide +kernel
theorem dX8_moves_40 : decode cX8_moves 40 = .ok (.aload_n 0, 1) := by decide +kernel
theorem dX8_moves_41 : decode cX8_moves 41 = .ok (.getfield 7, 3) := by decide +kernel
theorem dX8_moves_44 : decode cX8_moves 44 = .ok (.bipush 8, 2) := by decide +kernel
theorem dX8_moves_46 : decode cX8_moves 46 = .ok (.iload_n 1, 1) := by decide +kernel
theorem dX8_moves_47 : decode cX8_moves 47 = .ok (.iastore, 1) := by decide +kernel
theorem dX8_moves_48 : decode cX8_moves 48 = .ok (.aload_n 0, 1) := by decide +kernel
theorem dX8_moves_49 : decode cX8_moves 49 = .ok (.getfield 7, 3) := by decide +kernel
theorem dX8_moves_52 : decode cX8_moves 52 = .ok (.bipush 31, 2) := by decide +kernel
theorem dX8_moves_54 : decode cX8_moves 54 = .ok (.iload_n 1, 1) := by decide +kernel
theorem dX8_moves_55 : decode cX8_moves 55 = .ok (.iadd, 1) := by decide +kernel
theorem dX8_moves_56 : decode cX8_moves 56 = .ok (.iload_n 2, 1) := by decide +kernel
theorem dX8_moves_57 : decode cX8_moves 57 = .ok (.iastore, 1) := by decide +kernel
theorem dX8_moves_58 : decode cX8_moves 58 = .ok (.return_, 1) := by decide +kernel
theorem dX8_step_0 : decode cX8_step 0 = .ok (.aload_n 0, 1) := by decide +kernel
theorem dX8_step_1 : decode cX8_step 1 = .ok (.iload_n 1, 1) := by decide +kernel
theorem dX8_step_2 : decode cX8_step 2 = .ok (.invokevirtual 176, 3) := by decide +kernel
theorem dX8_step_5 : decode cX8_step 5 = .ok (.ifCond .eq 12, 3) := by decide +kernel
theorem dX8_step_8 : decode cX8_step 8 = .ok (.iload_n 2, 1) := by decide +kernel
theorem dX8_step_9 : decode cX8_step 9 = .ok (.iconst 0, 1) := by decide +kernel
theorem dX8_step_10 : decode cX8_step 10 = .ok (.iconst 3, 1) := by decide +kernel
theorem dX8_step_11 : decode cX8_step 11 = .ok (.invokestatic 54, 3) := by decide +kernel
theorem dX8_step_14 : decode cX8_step 14 = .ok (.ifCond .ne 5, 3) := by decide +kernel
theorem dX8_step_17 : decode cX8_step 17 = .ok (.iconst (-1), 1) := by decide +kernel
theorem dX8_step_18 : decode cX8_step 18 = .ok (.ireturn, 1) := by decide +kernel
theorem dX8_step_19 : decode cX8_step 19 = .ok (.aload_n 0, 1) := by decide +kernel
theorem dX8_step_20 : decode cX8_step 20 = .ok (.bipush (-9), 2) := by decide +kernel
theorem dX8_step_22 : decode cX8_step 22 = .ok (.putfield 28, 3) := by decide +kernel
theorem dX8_step_25 : decode cX8_step 25 = .ok (.aload_n 0, 1) := by decide +kernel
theorem dX8_step_26 : decode cX8_step 26 = .ok (.aload_n 0, 1) := by decide +kernel
theorem dX8_step_27 : decode cX8_step 27 = .ok (.invokevirtual 132, 3) := by decide +kernel
theorem dX8_step_30 : decode cX8_step 30 = .ok (.iload_n 1, 1) := by decide +kernel
theorem dX8_step_31 : decode cX8_step 31 = .ok (.invokevirtual 143, 3) := by decide +kernel
theorem dX8_step_34 : decode cX8_step 34 = .ok (.aload_n 0, 1) := by decide +kernel
theorem dX8_step_35 : decode cX8_step 35 = .ok (.iload_n 1, 1) := by decide +kernel
theorem dX8_step_36 : decode cX8_step 36 = .ok (.aload_n 0, 1) := by decide +kernel
theorem dX8_step_37 : decode cX8_step 37 = .ok (.getfield 7, 3) := by decide +kernel
theorem dX8_step_40 : decode cX8_step 40 = .ok (.bipush 31, 2) := by decide +kernel
theorem dX8_step_42 : decode cX8_step 42 = .ok (.iload_n 1, 1) := by decide +kernel
theorem dX8_step_43 : decode cX8_step 43 = .ok (.iadd, 1) := by decide +kernel
theorem dX8_step_44 : decode cX8_step 44 = .ok (.iaload, 1) := by decide +kernel
theorem dX8_step_45 : decode cX8_step 45 = .ok (.iload_n 2, 1) := by decide +kernel
theorem dX8_step_46 : decode cX8_step 46 = .ok (.invokevirtual 116, 3) := by decide +kernel
theorem dX8_step_49 : decode cX8_step 49 = .ok (.istore_n 3, 1) := by decide +kernel
theorem dX8_step_50 : decode cX8_step 50 = .ok (.iload_n 3, 1) := by decide +kernel
theorem dX8_step_51 : decode cX8_step 51 = .ok (.ifCond .lt 13, 3) := by decide +kernel
theorem dX8_step_54 : decode cX8_step 54 = .ok (.aload_n 0, 1) := by decide +kernel
theorem dX8_step_55 : decode cX8_step 55 = .ok (.getfield 32, 3) := by decide +kernel
theorem dX8_step_58 : decode cX8_step 58 = .ok (.iload_n 3, 1) := by decide +kernel
theorem dX8_step_59 : decode cX8_step 59 = .ok (.iaload, 1) := by decide +kernel
theorem dX8_step_60 : decode cX8_step 60 = .ok (.iconst 1, 1) := by decide +kernel
theorem dX8_step_61 : decode cX8_step 61 = .ok (.if_icmp .eq 6, 3) := by decide +kernel
theorem dX8_step_64 : decode cX8_step 64 = .ok (.bipush (-2), 2) := by decide +kernel
theorem dX8_step_66 : decode cX8_step 66 = .ok (.ireturn, 1) := by decide +kernel
theorem dX8_step_67 : decode cX8_step 67 = .ok (.aload_n 0, 1) := by decide +kernel
theorem dX8_step_68 : decode cX8_step 68 = .ok (.invokevirtual 91, 3) := by decide +kernel
theorem dX8_step_71 : decode cX8_step 71 = .ok (.aload_n 0, 1) := by decide +kernel
theorem dX8_step_72 : decode cX8_step 72 = .ok (.iload_n 1, 1) := by decide +kernel
theorem dX8_step_73 : decode cX8_step 73 = .ok (.iload_n 3, 1) := by decide +kernel
theorem dX8_step_74 : decode cX8_step 74 = .ok (.iconst 1, 1) := by decide +kernel
theorem dX8_step_75 : decode cX8_step 75 = .ok (.iconst 0, 1) := by decide +kernel
theorem dX8_step_76 : decode cX8_step 76 = .ok (.invokevirtual 183, 3) := by decide +kernel
theorem dX8_step_79 : decode cX8_step 79 = .ok (.iload_n 3, 1) := by decide +kernel
theorem dX8_step_80 : decode cX8_step 80 = .ok (.ireturn, 1) := by decide +kernel
theorem dX8_slide_0 : decode cX8_slide 0 = .ok (.aload_n 0, 1) := by decide +kernel
theorem dX8_slide_1 : decode cX8_slide 1 = .ok (.iload_n 1, 1) := by decide +kernel
theorem dX8_slide_2 : decode cX8_slide 2 = .ok (.invokevirtual 176, 3) := by decide +kernel
theorem dX8_slide_5 : decode cX8_slide 5 = .ok (.ifCond .eq 17, 3) := by decide +kernel
theorem dX8_slide_8 : decode cX8_slide 8 = .ok (.iload_n 2, 1) := by decide +kernel
theorem dX8_slide_9 : decode cX8_slide 9 = .ok (.iconst 0, 1) := by decide +kernel
theorem dX8_slide_10 : decode cX8_slide 10 = .ok (.aload_n 0, 1) := by decide +kernel
theorem dX8_slide_11 : decode cX8_slide 11 = .ok (.invokevirtual 98, 3) := by decide +kernel
theorem dX8_slide_14 : decode cX8_slide 14 = .ok (.iconst 1, 1) := by decide +kernel
theorem dX8_slide_15 : decode cX8_slide 15 = .ok (.isub, 1) := by decide +kernel
theorem dX8_slide_16 : decode cX8_slide 16 = .ok (.invokestatic 54, 3) := by decide +kernel
theorem dX8_slide_19 : decode cX8_slide 19 = .ok (.ifCond .ne 5, 3) := by decide +kernel
theorem dX8_slide_22 : decode cX8_slide 22 = .ok (.iconst (-1), 1) := by decide +kernel
theorem dX8_slide_23 : decode cX8_slide 23 = .ok (.ireturn, 1) := by decide +kernel
theorem dX8_slide_24 : decode cX8_slide 24 = .ok (.aload_n 0, 1) := by decide +kernel
theorem dX8_slide_25 : decode cX8_slide 25 = .ok (.bipush (-9), 2) := by decide +kernel
theorem dX8_slide_27 : decode cX8_slide 27 = .ok (.putfield 28, 3) := by decide +kernel
theorem dX8_slide_30 : decode cX8_slide 30 = .ok (.aload_n 0, 1) := by decide +kernel
theorem dX8_slide_31 : decode cX8_slide 31 = .ok (.aload_n 0, 1) := by decide +kernel
theorem dX8_slide_32 : decode cX8_slide 32 = .ok (.invokevirtual 132, 3) := by decide +kernel
theorem dX8_slide_35 : decode cX8_slide 35 = .ok (.iload_n 1, 1) := by decide +kernel
theorem dX8_slide_36 : decode cX8_slide 36 = .ok (.invokevirtual 143, 3) := by decide +kernel
