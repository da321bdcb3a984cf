theorem dX6_takeIsland_40 : decode cX6_takeIsland 40 = .ok (.iaload, 1) := by decide +kernel
theorem dX6_takeIsland_41 : decode cX6_takeIsland 41 = .ok (.iastore, 1) := by decide +kernel
theorem dX6_takeIsland_42 : decode cX6_takeIsland 42 = .ok (.iconst 0, 1) := by decide +kernel
theorem dX6_takeIsland_43 : decode cX6_takeIsland 43 = .ok (.istore_n 2, 1) := by decide +kernel
theorem dX6_takeIsland_44 : decode cX6_takeIsland 44 = .ok (.iload_n 2, 1) := by decide +kernel
theorem dX6_takeIsland_45 : decode cX6_takeIsland 45 = .ok (.bipush 6, 2) := by decide +kernel
theorem dX6_takeIsland_47 : decode cX6_takeIsland 47 = .ok (.if_icmp .ge 99, 3) := by decide +kernel
theorem dX6_takeIsland_50 : decode cX6_takeIsland 50 = .ok (.aload_n 0, 1) := by decide +kernel
theorem dX6_takeIsland_51 : decode cX6_takeIsland 51 = .ok (.getfield 16, 3) := by decide +kernel
theorem dX6_takeIsland_54 : decode cX6_takeIsland 54 = .ok (.bipush 9, 2) := by decide +kernel
theorem dX6_takeIsland_56 : decode cX6_takeIsland 56 = .ok (.iload_n 2, 1) := by decide +kernel
theorem dX6_takeIsland_57 : decode cX6_takeIsland 57 = .ok (.imul, 1) := by decide +kernel
theorem dX6_takeIsland_58 : decode cX6_takeIsland 58 = .ok (.iload_n 1, 1) := by decide +kernel
theorem dX6_takeIsland_59 : decode cX6_takeIsland 59 = .ok (.iadd, 1) := by decide +kernel
theorem dX6_takeIsland_60 : decode cX6_takeIsland 60 = .ok (.aload_n 0, 1) := by decide +kernel
theorem dX6_takeIsland_61 : decode cX6_takeIsland 61 = .ok (.getfield 65, 3) := by decide +kernel
theorem dX6_takeIsland_64 : decode cX6_takeIsland 64 = .ok (.bipush 9, 2) := by decide +kernel
theorem dX6_takeIsland_66 : decode cX6_takeIsland 66 = .ok (.iload_n 2, 1) := by decide +kernel
theorem dX6_takeIsland_67 : decode cX6_takeIsland 67 = .ok (.imul, 1) := by decide +kernel
theorem dX6_takeIsland_68 : decode cX6_takeIsland 68 = .ok (.iload_n 1, 1) := by decide +kernel
theorem dX6_takeIsland_69 : decode cX6_takeIsland 69 = .ok (.iadd, 1) := by decide +kernel
theorem dX6_takeIsland_70 : decode cX6_takeIsland 70 = .ok (.baload, 1) := by decide +kernel
theorem dX6_takeIsland_71 : decode cX6_takeIsland 71 = .ok (.ifCond .eq 17, 3) := by decide +kernel
theorem dX6_takeIsland_74 : decode cX6_takeIsland 74 = .ok (.aload_n 0, 1) := by decide +kernel
theorem dX6_takeIsland_75 : decode cX6_takeIsland 75 = .ok (.getfield 59, 3) := by decide +kernel
theorem dX6_takeIsland_78 : decode cX6_takeIsland 78 = .ok (.bipush 9, 2) := by decide +kernel
theorem dX6_takeIsland_80 : decode cX6_takeIsland 80 = .ok (.iload_n 2, 1) := by decide +kernel
theorem dX6_takeIsland_81 : decode cX6_takeIsland 81 = .ok (.imul, 1) := by decide +kernel
theorem dX6_takeIsland_82 : decode cX6_takeIsland 82 = .ok (.iload_n 1, 1) := by decide +kernel
theorem dX6_takeIsland_83 : decode cX6_takeIsland 83 = .ok (.iadd, 1) := by decide +kernel
theorem dX6_takeIsland_84 : decode cX6_takeIsland 84 = .ok (.iaload, 1) := by decide +kernel
theorem dX6_takeIsland_85 : decode cX6_takeIsland 85 = .ok (.goto 9, 3) := by decide +kernel
theorem dX6_takeIsland_88 : decode cX6_takeIsland 88 = .ok (.aload_n 0, 1) := by decide +kernel
theorem dX6_takeIsland_89 : decode cX6_takeIsland 89 = .ok (.getfield 53, 3) := by decide +kernel
theorem dX6_takeIsland_92 : decode cX6_takeIsland 92 = .ok (.iload_n 1, 1) := by decide +kernel
theorem dX6_takeIsland_93 : decode cX6_takeIsland 93 = .ok (.iaload, 1) := by decide +kernel
theorem dX6_takeIsland_94 : decode cX6_takeIsland 94 = .ok (.iastore, 1) := by decide +kernel
theorem dX6_takeIsland_95 : decode cX6_takeIsland 95 = .ok (.aload_n 0, 1) := by decide +kernel
theorem dX6_takeIsland_96 : decode cX6_takeIsland 96 = .ok (.getfield 19, 3) := by decide +kernel
theorem dX6_takeIsland_99 : decode cX6_takeIsland 99 = .ok (.bipush 9, 2) := by decide +kernel
theorem dX6_takeIsland_101 : decode cX6_takeIsland 101 = .ok (.iload_n 2, 1) := by decide +kernel
theorem dX6_takeIsland_102 : decode cX6_takeIsland 102 = .ok (.imul, 1) := by decide +kernel
theorem dX6_takeIsland_103 : decode cX6_takeIsland 103 = .ok (.iload_n 1, 1) := by decide +kernel
theorem dX6_takeIsland_104 : decode cX6_takeIsland 104 = .ok (.iadd, 1) := by decide +kernel
theorem dX6_takeIsland_105 : decode cX6_takeIsland 105 = .ok (.aload_n 0, 1) := by decide +kernel
theorem dX6_takeIsland_106 : decode cX6_takeIsland 106 = .ok (.getfield 65, 3) := by decide +kernel
theorem dX6_takeIsland_109 : decode cX6_takeIsland 109 = .ok (.bipush 9, 2) := by decide +kernel
theorem dX6_takeIsland_111 : decode cX6_takeIsland 111 = .ok (.iload_n 2, 1) := by decide +kernel
theorem dX6_takeIsland_112 : decode cX6_takeIsland 112 = .ok (.imul, 1) := by decide +kernel
theorem dX6_takeIsland_113 : decode cX6_takeIsland 113 = .ok (.iload_n 1, 1) := by decide +kernel
theorem dX6_takeIsland_114 : decode cX6_takeIsland 114 = .ok (.iadd, 1) := by decide +kernel
theorem dX6_takeIsland_115 : decode cX6_takeIsland 115 = .ok (.baload, 1) := by decide +kernel
theorem dX6_takeIsland_116 : decode cX6_takeIsland 116 = .ok (.ifCond .eq 17, 3) := by decide +kernel
theorem dX6_takeIsland_119 : decode cX6_takeIsland 119 = .ok (.aload_n 0, 1) := by decide +kernel
theorem dX6_takeIsland_120 : decode cX6_takeIsland 120 = .ok (.getfield 62, 3) := by decide +kernel
theorem dX6_takeIsland_123 : decode cX6_takeIsland 123 = .ok (.bipush 9, 2) := by decide +kernel
theorem dX6_takeIsland_125 : decode cX6_takeIsland 125 = .ok (.iload_n 2, 1) := by decide +kernel
theorem dX6_takeIsland_126 : decode cX6_takeIsland 126 = .ok (.imul, 1) := by decide +kernel
theorem dX6_takeIsland_127 : decode cX6_takeIsland 127 = .ok (.iload_n 1, 1) := by decide +kernel
theorem dX6_takeIsland_128 : decode cX6_takeIsland 128 = .ok (.iadd, 1) := by decide +kernel
theorem dX6_takeIsland_129 : decode cX6_takeIsland 129 = .ok (.iaload, 1) := by decide +kernel
theorem dX6_takeIsland_130 : decode cX6_takeIsland 130 = .ok (.goto 9, 3) := by decide +kernel
theorem dX6_takeIsland_133 : decode cX6_takeIsland 133 = .ok (.aload_n 0, 1) := by decide +kernel
theorem dX6_takeIsland_134 : decode cX6_takeIsland 134 = .ok (.getfield 56, 3) := by decide +kernel
theorem dX6_takeIsland_137 : decode cX6_takeIsland 137 = .ok (.iload_n 1, 1) := by decide +kernel
theorem dX6_takeIsland_138 : decode cX6_takeIsland 138 = .ok (.iaload, 1) := by decide +kernel
theorem dX6_takeIsland_139 : decode cX6_takeIsland 139 = .ok (.iastore, 1) := by decide +kernel
theorem dX6_takeIsland_140 : decode cX6_takeIsland 140 = .ok (.iinc 2 1, 3) := by decide +kernel
theorem dX6_takeIsland_143 : decode cX6_takeIsland 143 = .ok (.goto (-99), 3) := by decide +kernel
theorem dX6_takeIsland_146 : decode cX6_takeIsland 146 = .ok (.iinc 1 1, 3) := by decide +kernel
theorem dX6_takeIsland_149 : decode cX6_takeIsland 149 = .ok (.goto (-139), 3) := by decide +kernel
theorem dX6_takeIsland_152 : decode cX6_takeIsland 152 = .ok (.aload_n 0, 1) := by decide +kernel
theorem dX6_takeIsland_153 : decode cX6_takeIsland 153 = .ok (.aload_n 0, 1) := by decide +kernel
theorem dX6_takeIsland_154 : decode cX6_takeIsland 154 = .ok (.getfield 200, 3) := by decide +kernel
theorem dX6_takeIsland_157 : decode cX6_takeIsland 157 = .ok (.putfield 250, 3) := by decide +kernel
theorem dX6_takeIsland_160 : decode cX6_takeIsland 160 = .ok (.aload_n 0, 1) := by decide +kernel
theorem dX6_takeIsland_161 : decode cX6_takeIsland 161 = .ok (.aload_n 0, 1) := by decide +kernel
theorem dX6_takeIsland_162 : decode cX6_takeIsland 162 = .ok (.getfield 179, 3) := by decide +kernel
theorem dX6_takeIsland_165 : decode cX6_takeIsland 165 = .ok (.putfield 253, 3) := by decide +kernel
theorem dX6_takeIsland_168 : decode cX6_takeIsland 168 = .ok (.aload_n 0, 1) := by decide +kernel
theorem dX6_takeIsland_169 : decode cX6_takeIsland 169 = .ok (.aload_n 0, 1) := by decide +kernel
theorem dX6_takeIsland_170 : decode cX6_takeIsland 170 = .ok (.getfield 197, 3) := by decide +kernel
theorem dX6_takeIsland_173 : decode cX6_takeIsland 173 = .ok (.putfield 256, 3) := by decide +kernel
theorem dX6_takeIsland_176 : decode cX6_takeIsland 176 = .ok (.aload_n 0, 1) := by decide +kernel
theorem dX6_takeIsland_177 : decode cX6_takeIsland 177 = .ok (.aload_n 0, 1) := by decide +kernel
theorem dX6_takeIsland_178 : decode cX6_takeIsland 178 = .ok (.getfield 226, 3) := by decide +kernel
theorem dX6_takeIsland_181 : decode cX6_takeIsland 181 = .ok (.putfield 25, 3) := by decide +kernel
theorem dX6_takeIsland_184 : decode cX6_takeIsland 184 = .ok (.aload_n 0, 1) := by decide +kernel
theorem dX6_takeIsland_185 : decode cX6_takeIsland 185 = .ok (.aload_n 0, 1) := by decide +kernel
theorem dX6_takeIsland_186 : decode cX6_takeIsland 186 = .ok (.getfield 229, 3) := by decide +kernel
theorem dX6_takeIsland_189 : decode cX6_takeIsland 189 = .ok (.putfield 29, 3) := by decide +kernel
theorem dX6_takeIsland_192 : decode cX6_takeIsland 192 = .ok (.iconst 0, 1) := by decide +kernel
theorem dX6_takeIsland_193 : decode cX6_takeIsland 193 = .ok (.istore_n 1, 1) := by decide +kernel
theorem dX6_takeIsland_194 : decode cX6_takeIsland 194 = .ok (.iload_n 1, 1) := by decide +kernel
theorem dX6_takeIsland_195 : decode cX6_takeIsland 195 = .ok (.iconst 3, 1) := by decide +kernel
theorem dX6_takeIsland_196 : decode cX6_takeIsland 196 = .ok (.if_icmp .ge 21, 3) := by decide +kernel
theorem dX6_takeIsland_199 : decode cX6_takeIsland 199 = .ok (.aload_n 0, 1) := by decide +kernel
theorem dX6_takeIsland_200 : decode cX6_takeIsland 200 = .ok (.getfield 22, 3) := by decide +kernel
theorem dX6_takeIsland_203 : decode cX6_takeIsland 203 = .ok (.iload_n 1, 1) := by decide +kernel
theorem dX6_takeIsland_204 : decode cX6_takeIsland 204 = .ok (.aload_n 0, 1) := by decide +kernel
theorem dX6_takeIsland_205 : decode cX6_takeIsland 205 = .ok (.getfield 69, 3) := by decide +kernel
theorem dX6_takeIsland_208 : decode cX6_takeIsland 208 = .ok (.iload_n 1, 1) := by decide +kernel
theorem dX6_takeIsland_209 : decode cX6_takeIsland 209 = .ok (.iaload, 1) := by decide +kernel
theorem dX6_takeIsland_210 : decode cX6_takeIsland 210 = .ok (.iastore, 1) := by decide +kernel
theorem dX6_takeIsland_211 : decode cX6_takeIsland 211 = .ok (.iinc 1 1, 3) := by decide +kernel
theorem dX6_takeIsland_214 : decode cX6_takeIsland 214 = .ok (.goto (-20), 3) := by decide +kernel
theorem dX6_takeIsland_217 : decode cX6_takeIsland 217 = .ok (.aload_n 0, 1) := by decide +kernel
theorem dX6_takeIsland_218 : decode cX6_takeIsland 218 = .ok (.iconst 0, 1) := by decide +kernel
theorem dX6_takeIsland_219 : decode cX6_takeIsland 219 = .ok (.putfield 259, 3) := by decide +kernel
theorem dX6_takeIsland_222 : decode cX6_takeIsland 222 = .ok (.aload_n 0, 1) := by decide +kernel
theorem dX6_takeIsland_223 : decode cX6_takeIsland 223 = .ok (.getfield 105, 3) := by decide +kernel
theorem dX6_takeIsland_226 : decode cX6_takeIsland 226 = .ok (.iconst 0, 1) := by decide +kernel
theorem dX6_takeIsland_227 : decode cX6_takeIsland 227 = .ok (.iconst 0, 1) := by decide +kernel
theorem dX6_takeIsland_228 : decode cX6_takeIsland 228 = .ok (.bastore, 1) := by decide +kernel
theorem dX6_takeIsland_229 : decode cX6_takeIsland 229 = .ok (.aload_n 0, 1) := by decide +kernel
theorem dX6_takeIsland_230 : decode cX6_takeIsland 230 = .ok (.getfield 105, 3) := by decide +kernel
theorem dX6_takeIsland_233 : decode cX6_takeIsland 233 = .ok (.iconst 1, 1) := by decide +kernel
theorem dX6_takeIsland_234 : decode cX6_takeIsland 234 = .ok (.iconst 0, 1) := by decide +kernel
theorem dX6_takeIsland_235 : decode cX6_takeIsland 235 = .ok (.bastore, 1) := by decide +kernel
theorem dX6_takeIsland_236 : decode cX6_takeIsland 236 = .ok (.aload_n 0, 1) := by decide +kernel
theorem dX6_takeIsland_237 : decode cX6_takeIsland 237 = .ok (.invokevirtual 108, 3) := by decide +kernel
theorem dX6_takeIsland_240 : decode cX6_takeIsland 240 = .ok (.return_, 1) := by decide +kernel
theorem dX6_fault_0 : decode cX6_fault 0 = .ok (.aload_n 0, 1) := by decide +kernel
theorem dX6_fault_1 : decode cX6_fault 1 = .ok (.getfield 50, 3) := by decide +kernel
theorem dX6_fault_4 : decode cX6_fault 4 = .ok (.ireturn, 1) := by decide +kernel
theorem dX6_told_0 : decode cX6_told 0 = .ok (.iload_n 1, 1) := by decide +kernel
theorem dX6_told_1 : decode cX6_told 1 = .ok (.tableswitch 117 0 11 #[63, 68, 73, 78, 78, 78, 87, 92, 97, 102, 107, 112], 63) := by decide +kernel
theorem dX6_told_64 : decode cX6_told 64 = .ok (.aload_n 0, 1) := by decide +kernel
theorem dX6_told_65 : decode cX6_told 65 = .ok (.getfield 111, 3) := by decide +kernel
theorem dX6_told_68 : decode cX6_told 68 = .ok (.ireturn, 1) := by decide +kernel
theorem dX6_told_69 : decode cX6_told 69 = .ok (.aload_n 0, 1) := by decide +kernel
theorem dX6_told_70 : decode cX6_told 70 = .ok (.getfield 250, 3) := by decide +kernel
theorem dX6_told_73 : decode cX6_told 73 = .ok (.ireturn, 1) := by decide +kernel
theorem dX6_told_74 : decode cX6_told 74 = .ok (.aload_n 0, 1) := by decide +kernel
theorem dX6_told_75 : decode cX6_told 75 = .ok (.getfield 256, 3) := by decide +kernel
theorem dX6_told_78 : decode cX6_told 78 = .ok (.ireturn, 1) := by decide +kernel
theorem dX6_told_79 : decode cX6_told 79 = .ok (.aload_n 0, 1) := by decide +kernel
theorem dX6_told_80 : decode cX6_told 80 = .ok (.getfield 22, 3) := by decide +kernel
theorem dX6_told_83 : decode cX6_told 83 = .ok (.iload_n 1, 1) := by decide +kernel
theorem dX6_told_84 : decode cX6_told 84 = .ok (.iconst 3, 1) := by decide +kernel
theorem dX6_told_85 : decode cX6_told 85 = .ok (.isub, 1) := by decide +kernel
theorem dX6_told_86 : decode cX6_told 86 = .ok (.iaload, 1) := by decide +kernel
theorem dX6_told_87 : decode cX6_told 87 = .ok (.ireturn, 1) := by decide +kernel
theorem dX6_told_88 : decode cX6_told 88 = .ok (.aload_n 0, 1) := by decide +kernel
theorem dX6_told_89 : decode cX6_told 89 = .ok (.getfield 25, 3) := by decide +kernel
theorem dX6_told_92 : decode cX6_told 92 = .ok (.ireturn, 1) := by decide +kernel
theorem dX6_told_93 : decode cX6_told 93 = .ok (.aload_n 0, 1) := by decide +kernel
theorem dX6_told_94 : decode cX6_told 94 = .ok (.getfield 29, 3) := by decide +kernel
theorem dX6_told_97 : decode cX6_told 97 = .ok (.ireturn, 1) := by decide +kernel
theorem dX6_told_98 : decode cX6_told 98 = .ok (.aload_n 0, 1) := by decide +kernel
theorem dX6_told_99 : decode cX6_told 99 = .ok (.getfield 126, 3) := by decide +kernel
theorem dX6_told_102 : decode cX6_told 102 = .ok (.ireturn, 1) := by decide +kernel
theorem dX6_told_103 : decode cX6_told 103 = .ok (.aload_n 0, 1) := by decide +kernel
theorem dX6_told_104 : decode cX6_told 104 = .ok (.getfield 120, 3) := by decide +kernel
theorem dX6_told_107 : decode cX6_told 107 = .ok (.ireturn, 1) := by decide +kernel
theorem dX6_told_108 : decode cX6_told 108 = .ok (.aload_n 0, 1) := by decide +kernel
theorem dX6_told_109 : decode cX6_told 109 = .ok (.getfield 259, 3) := by decide +kernel
theorem dX6_told_112 : decode cX6_told 112 = .ok (.ireturn, 1) := by decide +kernel
theorem dX6_told_113 : decode cX6_told 113 = .ok (.aload_n 0, 1) := by decide +kernel
theorem dX6_told_114 : decode cX6_told 114 = .ok (.getfield 44, 3) := by decide +kernel
theorem dX6_told_117 : decode cX6_told 117 = .ok (.ireturn, 1) := by decide +kernel
theorem dX6_told_118 : decode cX6_told 118 = .ok (.ldc 125, 2) := by decide +kernel
theorem dX6_told_120 : decode cX6_told 120 = .ok (.ireturn, 1) := by decide +kernel
theorem dX6_mark_0 : decode cX6_mark 0 = .ok (.aload_n 0, 1) := by decide +kernel
theorem dX6_mark_1 : decode cX6_mark 1 = .ok (.iload_n 1, 1) := by decide +kernel
theorem dX6_mark_2 : decode cX6_mark 2 = .ok (.invokevirtual 262, 3) := by decide +kernel
theorem dX6_mark_5 : decode cX6_mark 5 = .ok (.ifCond .ne 7, 3) := by decide +kernel
theorem dX6_mark_8 : decode cX6_mark 8 = .ok (.ldc_w 266, 3) := by decide +kernel
theorem dX6_mark_11 : decode cX6_mark 11 = .ok (.ireturn, 1) := by decide +kernel
theorem dX6_mark_12 : decode cX6_mark 12 = .ok (.iload_n 2, 1) := by decide +kernel
theorem dX6_mark_13 : decode cX6_mark 13 = .ok (.ifCond .ne 12, 3) := by decide +kernel
theorem dX6_mark_16 : decode cX6_mark 16 = .ok (.aload_n 0, 1) := by decide +kernel
theorem dX6_mark_17 : decode cX6_mark 17 = .ok (.getfield 7, 3) := by decide +kernel
theorem dX6_mark_20 : decode cX6_mark 20 = .ok (.iload_n 1, 1) := by decide +kernel
theorem dX6_mark_21 : decode cX6_mark 21 = .ok (.iaload, 1) := by decide +kernel
theorem dX6_mark_22 : decode cX6_mark 22 = .ok (.goto 19, 3) := by decide +kernel
theorem dX6_mark_25 : decode cX6_mark 25 = .ok (.iload_n 2, 1) := by decide +kernel
theorem dX6_mark_26 : decode cX6_mark 26 = .ok (.iconst 1, 1) := by decide +kernel
theorem dX6_mark_27 : decode cX6_mark 27 = .ok (.if_icmp .ne 12, 3) := by decide +kernel
theorem dX6_mark_30 : decode cX6_mark 30 = .ok (.aload_n 0, 1) := by decide +kernel
theorem dX6_mark_31 : decode cX6_mark 31 = .ok (.getfield 13, 3) := by decide +kernel
theorem dX6_mark_34 : decode cX6_mark 34 = .ok (.iload_n 1, 1) := by decide +kernel
theorem dX6_mark_35 : decode cX6_mark 35 = .ok (.iaload, 1) := by decide +kernel
theorem dX6_mark_36 : decode cX6_mark 36 = .ok (.goto 5, 3) := by decide +kernel
theorem dX6_mark_39 : decode cX6_mark 39 = .ok (.ldc 125, 2) := by decide +kernel
theorem dX6_mark_41 : decode cX6_mark 41 = .ok (.ireturn, 1) := by decide +kernel
theorem dX6_map_0 : decode cX6_map 0 = .ok (.iload_n 1, 1) := by decide +kernel
theorem dX6_map_1 : decode cX6_map 1 = .ok (.invokestatic 267, 3) := by decide +kernel
theorem dX6_map_4 : decode cX6_map 4 = .ok (.ifCond .eq 11, 3) := by decide +kernel
theorem dX6_map_7 : decode cX6_map 7 = .ok (.aload_n 0, 1) := by decide +kernel
theorem dX6_map_8 : decode cX6_map 8 = .ok (.iload_n 2, 1) := by decide +kernel
theorem dX6_map_9 : decode cX6_map 9 = .ok (.invokevirtual 262, 3) := by decide +kernel
theorem dX6_map_12 : decode cX6_map 12 = .ok (.ifCond .ne 7, 3) := by decide +kernel
theorem dX6_map_15 : decode cX6_map 15 = .ok (.ldc_w 266, 3) := by decide +kernel
theorem dX6_map_18 : decode cX6_map 18 = .ok (.ireturn, 1) := by decide +kernel
theorem dX6_map_19 : decode cX6_map 19 = .ok (.iload_n 3, 1) := by decide +kernel
theorem dX6_map_20 : decode cX6_map 20 = .ok (.ifCond .ne 17, 3) := by decide +kernel
theorem dX6_map_23 : decode cX6_map 23 = .ok (.aload_n 0, 1) := by decide +kernel
theorem dX6_map_24 : decode cX6_map 24 = .ok (.getfield 16, 3) := by decide +kernel
theorem dX6_map_27 : decode cX6_map 27 = .ok (.bipush 9, 2) := by decide +kernel
theorem dX6_map_29 : decode cX6_map 29 = .ok (.iload_n 1, 1) := by decide +kernel
theorem dX6_map_30 : decode cX6_map 30 = .ok (.imul, 1) := by decide +kernel
theorem dX6_map_31 : decode cX6_map 31 = .ok (.iload_n 2, 1) := by decide +kernel
theorem dX6_map_32 : decode cX6_map 32 = .ok (.iadd, 1) := by decide +kernel
theorem dX6_map_33 : decode cX6_map 33 = .ok (.iaload, 1) := by decide +kernel
theorem dX6_map_34 : decode cX6_map 34 = .ok (.goto 24, 3) := by decide +kernel
theorem dX6_map_37 : decode cX6_map 37 = .ok (.iload_n 3, 1) := by decide +kernel
theorem dX6_map_38 : decode cX6_map 38 = .ok (.iconst 1, 1) := by decide +kernel
theorem dX6_map_39 : decode cX6_map 39 = .ok (.if_icmp .ne 17, 3) := by decide +kernel
theorem dX6_map_42 : decode cX6_map 42 = .ok (.aload_n 0, 1) := by decide +kernel
theorem dX6_map_43 : decode cX6_map 43 = .ok (.getfield 19, 3) := by decide +kernel
theorem dX6_map_46 : decode cX6_map 46 = .ok (.bipush 9, 2) := by decide +kernel
theorem dX6_map_48 : decode cX6_map 48 = .ok (.iload_n 1, 1) := by decide +kernel
theorem dX6_map_49 : decode cX6_map 49 = .ok (.imul, 1) := by decide +kernel
theorem dX6_map_50 : decode cX6_map 50 = .ok (.iload_n 2, 1) := by decide +kernel
theorem dX6_map_51 : decode cX6_map 51 = .ok (.iadd, 1) := by decide +kernel
theorem dX6_map_52 : decode cX6_map 52 = .ok (.iaload, 1) := by decide +kernel
theorem dX6_map_53 : decode cX6_map 53 = .ok (.goto 5, 3) := by decide +kernel
theorem dX6_map_56 : decode cX6_map 56 = .ok (.ldc 125, 2) := by decide +kernel
theorem dX6_map_58 : decode cX6_map 58 = .ok (.ireturn, 1) := by decide +kernel
theorem dX6_narrow_0 : decode cX6_narrow 0 = .ok (.aload_n 0, 1) := by decide +kernel
theorem dX6_narrow_1 : decode cX6_narrow 1 = .ok (.getfield 72, 3) := by decide +kernel
theorem dX6_narrow_4 : decode cX6_narrow 4 = .ok (.iload_n 1, 1) := by decide +kernel
theorem dX6_narrow_5 : decode cX6_narrow 5 = .ok (.baload, 1) := by decide +kernel
theorem dX6_narrow_6 : decode cX6_narrow 6 = .ok (.ifCond .eq 73, 3) := by decide +kernel
theorem dX6_narrow_9 : decode cX6_narrow 9 = .ok (.aload_n 0, 1) := by decide +kernel
theorem dX6_narrow_10 : decode cX6_narrow 10 = .ok (.getfield 75, 3) := by decide +kernel
theorem dX6_narrow_13 : decode cX6_narrow 13 = .ok (.iconst 4, 1) := by decide +kernel
theorem dX6_narrow_14 : decode cX6_narrow 14 = .ok (.iload_n 1, 1) := by decide +kernel
theorem dX6_narrow_15 : decode cX6_narrow 15 = .ok (.imul, 1) := by decide +kernel
theorem dX6_narrow_16 : decode cX6_narrow 16 = .ok (.iload_n 2, 1) := by decide +kernel
theorem dX6_narrow_17 : decode cX6_narrow 17 = .ok (.aload_n 0, 1) := by decide +kernel
theorem dX6_narrow_18 : decode cX6_narrow 18 = .ok (.getfield 256, 3) := by decide +kernel
theorem dX6_narrow_21 : decode cX6_narrow 21 = .ok (.isub, 1) := by decide +kernel
theorem dX6_narrow_22 : decode cX6_narrow 22 = .ok (.iastore, 1) := by decide +kernel
theorem dX6_narrow_23 : decode cX6_narrow 23 = .ok (.aload_n 0, 1) := by decide +kernel
theorem dX6_narrow_24 : decode cX6_narrow 24 = .ok (.getfield 75, 3) := by decide +kernel
theorem dX6_narrow_27 : decode cX6_narrow 27 = .ok (.iconst 4, 1) := by decide +kernel
theorem dX6_narrow_28 : decode cX6_narrow 28 = .ok (.iload_n 1, 1) := by decide +kernel
theorem dX6_narrow_29 : decode cX6_narrow 29 = .ok (.imul, 1) := by decide +kernel
theorem dX6_narrow_30 : decode cX6_narrow 30 = .ok (.iconst 1, 1) := by decide +kernel
theorem dX6_narrow_31 : decode cX6_narrow 31 = .ok (.iadd, 1) := by decide +kernel
theorem dX6_narrow_32 : decode cX6_narrow 32 = .ok (.iload_n 2, 1) := by decide +kernel
theorem dX6_narrow_33 : decode cX6_narrow 33 = .ok (.aload_n 0, 1) := by decide +kernel
theorem dX6_narrow_34 : decode cX6_narrow 34 = .ok (.getfield 256, 3) := by decide +kernel
theorem dX6_narrow_37 : decode cX6_narrow 37 = .ok (.iadd, 1) := by decide +kernel
theorem dX6_narrow_38 : decode cX6_narrow 38 = .ok (.iastore, 1) := by decide +kernel
theorem dX6_narrow_39 : decode cX6_narrow 39 = .ok (.aload_n 0, 1) := by decide +kernel
theorem dX6_narrow_40 : decode cX6_narrow 40 = .ok (.getfield 75, 3) := by decide +kernel
theorem dX6_narrow_43 : decode cX6_narrow 43 = .ok (.iconst 4, 1) := by decide +kernel
theorem dX6_narrow_44 : decode cX6_narrow 44 = .ok (.iload_n 1, 1) := by decide +kernel
theorem dX6_narrow_45 : decode cX6_narrow 45 = .ok (.imul, 1) := by decide +kernel
theorem dX6_narrow_46 : decode cX6_narrow 46 = .ok (.iconst 2, 1) := by decide +kernel
theorem dX6_narrow_47 : decode cX6_narrow 47 = .ok (.iadd, 1) := by decide +kernel
theorem dX6_narrow_48 : decode cX6_narrow 48 = .ok (.iload_n 3, 1) := by decide +kernel
theorem dX6_narrow_49 : decode cX6_narrow 49 = .ok (.aload_n 0, 1) := by decide +kernel
theorem dX6_narrow_50 : decode cX6_narrow 50 = .ok (.getfield 256, 3) := by decide +kernel
theorem dX6_narrow_53 : decode cX6_narrow 53 = .ok (.isub, 1) := by decide +kernel
theorem dX6_narrow_54 : decode cX6_narrow 54 = .ok (.iastore, 1) := by decide +kernel
theorem dX6_narrow_55 : decode cX6_narrow 55 = .ok (.aload_n 0, 1) := by decide +kernel
theorem dX6_narrow_56 : decode cX6_narrow 56 = .ok (.getfield 75, 3) := by decide +kernel
theorem dX6_narrow_59 : decode cX6_narrow 59 = .ok (.iconst 4, 1) := by decide +kernel
theorem dX6_narrow_60 : decode cX6_narrow 60 = .ok (.iload_n 1, 1) := by decide +kernel
theorem dX6_narrow_61 : decode cX6_narrow 61 = .ok (.imul, 1) := by decide +kernel
theorem dX6_narrow_62 : decode cX6_narrow 62 = .ok (.iconst 3, 1) := by decide +kernel
theorem dX6_narrow_63 : decode cX6_narrow 63 = .ok (.iadd, 1) := by decide +kernel
theorem dX6_narrow_64 : decode cX6_narrow 64 = .ok (.iload_n 3, 1) := by decide +kernel
theorem dX6_narrow_65 : decode cX6_narrow 65 = .ok (.aload_n 0, 1) := by decide +kernel
theorem dX6_narrow_66 : decode cX6_narrow 66 = .ok (.getfield 256, 3) := by decide +kernel
theorem dX6_narrow_69 : decode cX6_narrow 69 = .ok (.iadd, 1) := by decide +kernel
theorem dX6_narrow_70 : decode cX6_narrow 70 = .ok (.iastore, 1) := by decide +kernel
theorem dX6_narrow_71 : decode cX6_narrow 71 = .ok (.aload_n 0, 1) := by decide +kernel
theorem dX6_narrow_72 : decode cX6_narrow 72 = .ok (.getfield 72, 3) := by decide +kernel
theorem dX6_narrow_75 : decode cX6_narrow 75 = .ok (.iload_n 1, 1) := by decide +kernel
theorem dX6_narrow_76 : decode cX6_narrow 76 = .ok (.iconst 0, 1) := by decide +kernel
theorem dX6_narrow_77 : decode cX6_narrow 77 = .ok (.bastore, 1) := by decide +kernel
theorem dX6_narrow_78 : decode cX6_narrow 78 = .ok (.return_, 1) := by decide +kernel
theorem dX6_narrow_79 : decode cX6_narrow 79 = .ok (.aload_n 0, 1) := by decide +kernel
theorem dX6_narrow_80 : decode cX6_narrow 80 = .ok (.getfield 75, 3) := by decide +kernel
theorem dX6_narrow_83 : decode cX6_narrow 83 = .ok (.iconst 4, 1) := by decide +kernel
theorem dX6_narrow_84 : decode cX6_narrow 84 = .ok (.iload_n 1, 1) := by decide +kernel
theorem dX6_narrow_85 : decode cX6_narrow 85 = .ok (.imul, 1) := by decide +kernel
theorem dX6_narrow_86 : decode cX6_narrow 86 = .ok (.iload_n 2, 1) := by decide +kernel
theorem dX6_narrow_87 : decode cX6_narrow 87 = .ok (.aload_n 0, 1) := by decide +kernel
theorem dX6_narrow_88 : decode cX6_narrow 88 = .ok (.getfield 256, 3) := by decide +kernel
theorem dX6_narrow_91 : decode cX6_narrow 91 = .ok (.isub, 1) := by decide +kernel
theorem dX6_narrow_92 : decode cX6_narrow 92 = .ok (.aload_n 0, 1) := by decide +kernel
theorem dX6_narrow_93 : decode cX6_narrow 93 = .ok (.getfield 75, 3) := by decide +kernel
theorem dX6_narrow_96 : decode cX6_narrow 96 = .ok (.iconst 4, 1) := by decide +kernel
theorem dX6_narrow_97 : decode cX6_narrow 97 = .ok (.iload_n 1, 1) := by decide +kernel
theorem dX6_narrow_98 : decode cX6_narrow 98 = .ok (.imul, 1) := by decide +kernel
theorem dX6_narrow_99 : decode cX6_narrow 99 = .ok (.iaload, 1) := by decide +kernel
theorem dX6_narrow_100 : decode cX6_narrow 100 = .ok (.if_icmp .le 12, 3) := by decide +kernel
theorem dX6_narrow_103 : decode cX6_narrow 103 = .ok (.iload_n 2, 1) := by decide +kernel
theorem dX6_narrow_104 : decode cX6_narrow 104 = .ok (.aload_n 0, 1) := by decide +kernel
theorem dX6_narrow_105 : decode cX6_narrow 105 = .ok (.getfield 256, 3) := by decide +kernel
theorem dX6_narrow_108 : decode cX6_narrow 108 = .ok (.isub, 1) := by decide +kernel
theorem dX6_narrow_109 : decode cX6_narrow 109 = .ok (.goto 11, 3) := by decide +kernel
theorem dX6_narrow_112 : decode cX6_narrow 112 = .ok (.aload_n 0, 1) := by decide +kernel
theorem dX6_narrow_113 : decode cX6_narrow 113 = .ok (.getfield 75, 3) := by decide +kernel
theorem dX6_narrow_116 : decode cX6_narrow 116 = .ok (.iconst 4, 1) := by decide +kernel
theorem dX6_narrow_117 : decode cX6_narrow 117 = .ok (.iload_n 1, 1) := by decide +kernel
theorem dX6_narrow_118 : decode cX6_narrow 118 = .ok (.imul, 1) := by decide +kernel
theorem dX6_narrow_119 : decode cX6_narrow 119 = .ok (.iaload, 1) := by decide +kernel
theorem dX6_narrow_120 : decode cX6_narrow 120 = .ok (.iastore, 1) := by decide +kernel
theorem dX6_narrow_121 : decode cX6_narrow 121 = .ok (.aload_n 0, 1) := by decide +kernel
theorem dX6_narrow_122 : decode cX6_narrow 122 = .ok (.getfield 75, 3) := by decide +kernel
theorem dX6_narrow_125 : decode cX6_narrow 125 = .ok (.iconst 4, 1) := by decide +kernel
theorem dX6_narrow_126 : decode cX6_narrow 126 = .ok (.iload_n 1, 1) := by decide +kernel
theorem dX6_narrow_127 : decode cX6_narrow 127 = .ok (.imul, 1) := by decide +kernel
theorem dX6_narrow_128 : decode cX6_narrow 128 = .ok (.iconst 1, 1) := by decide +kernel
theorem dX6_narrow_129 : decode cX6_narrow 129 = .ok (.iadd, 1) := by decide +kernel
theorem dX6_narrow_130 : decode cX6_narrow 130 = .ok (.iload_n 2, 1) := by decide +kernel
theorem dX6_narrow_131 : decode cX6_narrow 131 = .ok (.aload_n 0, 1) := by decide +kernel
theorem dX6_narrow_132 : decode cX6_narrow 132 = .ok (.getfield 256, 3) := by decide +kernel
theorem dX6_narrow_135 : decode cX6_narrow 135 = .ok (.iadd, 1) := by decide +kernel
theorem dX6_narrow_136 : decode cX6_narrow 136 = .ok (.aload_n 0, 1) := by decide +kernel
theorem dX6_narrow_137 : decode cX6_narrow 137 = .ok (.getfield 75, 3) := by decide +kernel
theorem dX6_narrow_140 : decode cX6_narrow 140 = .ok (.iconst 4, 1) := by decide +kernel
theorem dX6_narrow_141 : decode cX6_narrow 141 = .ok (.iload_n 1, 1) := by decide +kernel
theorem dX6_narrow_142 : decode cX6_narrow 142 = .ok (.imul, 1) := by decide +kernel
theorem dX6_narrow_143 : decode cX6_narrow 143 = .ok (.iconst 1, 1) := by decide +kernel
theorem dX6_narrow_144 : decode cX6_narrow 144 = .ok (.iadd, 1) := by decide +kernel
theorem dX6_narrow_145 : decode cX6_narrow 145 = .ok (.iaload, 1) := by decide +kernel
theorem dX6_narrow_146 : decode cX6_narrow 146 = .ok (.if_icmp .ge 12, 3) := by decide +kernel
theorem dX6_narrow_149 : decode cX6_narrow 149 = .ok (.iload_n 2, 1) := by decide +kernel
theorem dX6_narrow_150 : decode cX6_narrow 150 = .ok (.aload_n 0, 1) := by decide +kernel
theorem dX6_narrow_151 : decode cX6_narrow 151 = .ok (.getfield 256, 3) := by decide +kernel
theorem dX6_narrow_154 : decode cX6_narrow 154 = .ok (.iadd, 1) := by decide +kernel
theorem dX6_narrow_155 : decode cX6_narrow 155 = .ok (.goto 13, 3) := by decide +kernel
theorem dX6_narrow_158 : decode cX6_narrow 158 = .ok (.aload_n 0, 1) := by decide +kernel
theorem dX6_narrow_159 : decode cX6_narrow 159 = .ok (.getfield 75, 3) := by decide +kernel
theorem dX6_narrow_162 : decode cX6_narrow 162 = .ok (.iconst 4, 1) := by decide +kernel
theorem dX6_narrow_163 : decode cX6_narrow 163 = .ok (.iload_n 1, 1) := by decide +kernel
theorem dX6_narrow_164 : decode cX6_narrow 164 = .ok (.imul, 1) := by decide +kernel
theorem dX6_narrow_165 : decode cX6_narrow 165 = .ok (.iconst 1, 1) := by decide +kernel
theorem dX6_narrow_166 : decode cX6_narrow 166 = .ok (.iadd, 1) := by decide +kernel
theorem dX6_narrow_167 : decode cX6_narrow 167 = .ok (.iaload, 1) := by decide +kernel
theorem dX6_narrow_168 : decode cX6_narrow 168 = .ok (.iastore, 1) := by decide +kernel
theorem dX6_narrow_169 : decode cX6_narrow 169 = .ok (.aload_n 0, 1) := by decide +kernel
theorem dX6_narrow_170 : decode cX6_narrow 170 = .ok (.getfield 75, 3) := by decide +kernel
theorem dX6_narrow_173 : decode cX6_narrow 173 = .ok (.iconst 4, 1) := by decide +kernel
theorem dX6_narrow_174 : decode cX6_narrow 174 = .ok (.iload_n 1, 1) := by decide +kernel
theorem dX6_narrow_175 : decode cX6_narrow 175 = .ok (.imul, 1) := by decide +kernel
theorem dX6_narrow_176 : decode cX6_narrow 176 = .ok (.iconst 2, 1) := by decide +kernel
theorem dX6_narrow_177 : decode cX6_narrow 177 = .ok (.iadd, 1) := by decide +kernel
theorem dX6_narrow_178 : decode cX6_narrow 178 = .ok (.iload_n 3, 1) := by decide +kernel
theorem dX6_narrow_179 : decode cX6_narrow 179 = .ok (.aload_n 0, 1) := by decide +kernel
theorem dX6_narrow_180 : decode cX6_narrow 180 = .ok (.getfield 256, 3) := by decide +kernel
theorem dX6_narrow_183 : decode cX6_narrow 183 = .ok (.isub, 1) := by decide +kernel
theorem dX6_narrow_184 : decode cX6_narrow 184 = .ok (.aload_n 0, 1) := by decide +kernel
theorem dX6_narrow_185 : decode cX6_narrow 185 = .ok (.getfield 75, 3) := by decide +kernel
theorem dX6_narrow_188 : decode cX6_narrow 188 = .ok (.iconst 4, 1) := by decide +kernel
theorem dX6_narrow_189 : decode cX6_narrow 189 = .ok (.iload_n 1, 1) := by decide +kernel
theorem dX6_narrow_190 : decode cX6_narrow 190 = .ok (.imul, 1) := by decide +kernel
theorem dX6_narrow_191 : decode cX6_narrow 191 = .ok (.iconst 2, 1) := by decide +kernel
theorem dX6_narrow_192 : decode cX6_narrow 192 = .ok (.iadd, 1) := by decide +kernel
theorem dX6_narrow_193 : decode cX6_narrow 193 = .ok (.iaload, 1) := by decide +kernel
theorem dX6_narrow_194 : decode cX6_narrow 194 = .ok (.if_icmp .le 12, 3) := by decide +kernel
theorem dX6_narrow_197 : decode cX6_narrow 197 = .ok (.iload_n 3, 1) := by decide +kernel
theorem dX6_narrow_198 : decode cX6_narrow 198 = .ok (.aload_n 0, 1) := by decide +kernel
theorem dX6_narrow_199 : decode cX6_narrow 199 = .ok (.getfield 256, 3) := by decide +kernel
theorem dX6_narrow_202 : decode cX6_narrow 202 = .ok (.isub, 1) := by decide +kernel
theorem dX6_narrow_203 : decode cX6_narrow 203 = .ok (.goto 13, 3) := by decide +kernel
theorem dX6_narrow_206 : decode cX6_narrow 206 = .ok (.aload_n 0, 1) := by decide +kernel
theorem dX6_narrow_207 : decode cX6_narrow 207 = .ok (.getfield 75, 3) := by decide +kernel
theorem dX6_narrow_210 : decode cX6_narrow 210 = .ok (.iconst 4, 1) := by decide +kernel
theorem dX6_narrow_211 : decode cX6_narrow 211 = .ok (.iload_n 1, 1) := by decide +kernel
theorem dX6_narrow_212 : decode cX6_narrow 212 = .ok (.imul, 1) := by decide +kernel
theorem dX6_narrow_213 : decode cX6_narrow 213 = .ok (.iconst 2, 1) := by decide +kernel
theorem dX6_narrow_214 : decode cX6_narrow 214 = .ok (.iadd, 1) := by decide +kernel
theorem dX6_narrow_215 : decode cX6_narrow 215 = .ok (.iaload, 1) := by decide +kernel
theorem dX6_narrow_216 : decode cX6_narrow 216 = .ok (.iastore, 1) := by decide +kernel
theorem dX6_narrow_217 : decode cX6_narrow 217 = .ok (.aload_n 0, 1) := by decide +kernel
theorem dX6_narrow_218 : decode cX6_narrow 218 = .ok (.getfield 75, 3) := by decide +kernel
theorem dX6_narrow_221 : decode cX6_narrow 221 = .ok (.iconst 4, 1) := by decide +kernel
theorem dX6_narrow_222 : decode cX6_narrow 222 = .ok (.iload_n 1, 1) := by decide +kernel
theorem dX6_narrow_223 : decode cX6_narrow 223 = .ok (.imul, 1) := by decide +kernel
theorem dX6_narrow_224 : decode cX6_narrow 224 = .ok (.iconst 3, 1) := by decide +kernel
theorem dX6_narrow_225 : decode cX6_narrow 225 = .ok (.iadd, 1) := by decide +kernel
theorem dX6_narrow_226 : decode cX6_narrow 226 = .ok (.iload_n 3, 1) := by decide +kernel
theorem dX6_narrow_227 : decode cX6_narrow 227 = .ok (.aload_n 0, 1) := by decide +kernel
theorem dX6_narrow_228 : decode cX6_narrow 228 = .ok (.getfield 256, 3) := by decide +kernel
theorem dX6_narrow_231 : decode cX6_narrow 231 = .ok (.iadd, 1) := by decide +kernel
theorem dX6_narrow_232 : decode cX6_narrow 232 = .ok (.aload_n 0, 1) := by decide +kernel
theorem dX6_narrow_233 : decode cX6_narrow 233 = .ok (.getfield 75, 3) := by decide +kernel
theorem dX6_narrow_236 : decode cX6_narrow 236 = .ok (.iconst 4, 1) := by decide +kernel
theorem dX6_narrow_237 : decode cX6_narrow 237 = .ok (.iload_n 1, 1) := by decide +kernel
theorem dX6_narrow_238 : decode cX6_narrow 238 = .ok (.imul, 1) := by decide +kernel
theorem dX6_narrow_239 : decode cX6_narrow 239 = .ok (.iconst 3, 1) := by decide +kernel
theorem dX6_narrow_240 : decode cX6_narrow 240 = .ok (.iadd, 1) := by decide +kernel
theorem dX6_narrow_241 : decode cX6_narrow 241 = .ok (.iaload, 1) := by decide +kernel
theorem dX6_narrow_242 : decode cX6_narrow 242 = .ok (.if_icmp .ge 12, 3) := by decide +kernel
theorem dX6_narrow_245 : decode cX6_narrow 245 = .ok (.iload_n 3, 1) := by decide +kernel
theorem dX6_narrow_246 : decode cX6_narrow 246 = .ok (.aload_n 0, 1) := by decide +kernel
theorem dX6_narrow_247 : decode cX6_narrow 247 = .ok (.getfield 256, 3) := by decide +kernel
theorem dX6_narrow_250 : decode cX6_narrow 250 = .ok (.iadd, 1) := by decide +kernel
theorem dX6_narrow_251 : decode cX6_narrow 251 = .ok (.goto 13, 3) := by decide +kernel
theorem dX6_narrow_254 : decode cX6_narrow 254 = .ok (.aload_n 0, 1) := by decide +kernel
theorem dX6_narrow_255 : decode cX6_narrow 255 = .ok (.getfield 75, 3) := by decide +kernel
theorem dX6_narrow_258 : decode cX6_narrow 258 = .ok (.iconst 4, 1) := by decide +kernel
theorem dX6_narrow_259 : decode cX6_narrow 259 = .ok (.iload_n 1, 1) := by decide +kernel
theorem dX6_narrow_260 : decode cX6_narrow 260 = .ok (.imul, 1) := by decide +kernel
theorem dX6_narrow_261 : decode cX6_narrow 261 = .ok (.iconst 3, 1) := by decide +kernel
theorem dX6_narrow_262 : decode cX6_narrow 262 = .ok (.iadd, 1) := by decide +kernel
theorem dX6_narrow_263 : decode cX6_narrow 263 = .ok (.iaload, 1) := by decide +kernel
theorem dX6_narrow_264 : decode cX6_narrow 264 = .ok (.iastore, 1) := by decide +kernel
theorem dX6_narrow_265 : decode cX6_narrow 265 = .ok (.return_, 1) := by decide +kernel
theorem dX6_isLeft_0 : decode cX6_isLeft 0 = .ok (.aload_n 0, 1) := by decide +kernel
theorem dX6_isLeft_1 : decode cX6_isLeft 1 = .ok (.getfield 72, 3) := by decide +kernel
theorem dX6_isLeft_4 : decode cX6_isLeft 4 = .ok (.iload_n 1, 1) := by decide +kernel
theorem dX6_isLeft_5 : decode cX6_isLeft 5 = .ok (.baload, 1) := by decide +kernel
theorem dX6_isLeft_6 : decode cX6_isLeft 6 = .ok (.ifCond .ne 47, 3) := by decide +kernel
theorem dX6_isLeft_9 : decode cX6_isLeft 9 = .ok (.aload_n 0, 1) := by decide +kernel
theorem dX6_isLeft_10 : decode cX6_isLeft 10 = .ok (.getfield 75, 3) := by decide +kernel
theorem dX6_isLeft_13 : decode cX6_isLeft 13 = .ok (.iconst 4, 1) := by decide +kernel
theorem dX6_isLeft_14 : decode cX6_isLeft 14 = .ok (.iload_n 1, 1) := by decide +kernel
theorem dX6_isLeft_15 : decode cX6_isLeft 15 = .ok (.imul, 1) := by decide +kernel
theorem dX6_isLeft_16 : decode cX6_isLeft 16 = .ok (.iaload, 1) := by decide +kernel
theorem dX6_isLeft_17 : decode cX6_isLeft 17 = .ok (.aload_n 0, 1) := by decide +kernel
theorem dX6_isLeft_18 : decode cX6_isLeft 18 = .ok (.getfield 75, 3) := by decide +kernel
theorem dX6_isLeft_21 : decode cX6_isLeft 21 = .ok (.iconst 4, 1) := by decide +kernel
theorem dX6_isLeft_22 : decode cX6_isLeft 22 = .ok (.iload_n 1, 1) := by decide +kernel
theorem dX6_isLeft_23 : decode cX6_isLeft 23 = .ok (.imul, 1) := by decide +kernel
theorem dX6_isLeft_24 : decode cX6_isLeft 24 = .ok (.iconst 1, 1) := by decide +kernel
theorem dX6_isLeft_25 : decode cX6_isLeft 25 = .ok (.iadd, 1) := by decide +kernel
theorem dX6_isLeft_26 : decode cX6_isLeft 26 = .ok (.iaload, 1) := by decide +kernel
theorem dX6_isLeft_27 : decode cX6_isLeft 27 = .ok (.if_icmp .gt 30, 3) := by decide +kernel
theorem dX6_isLeft_30 : decode cX6_isLeft 30 = .ok (.aload_n 0, 1) := by decide +kernel
theorem dX6_isLeft_31 : decode cX6_isLeft 31 = .ok (.getfield 75, 3) := by decide +kernel
theorem dX6_isLeft_34 : decode cX6_isLeft 34 = .ok (.iconst 4, 1) := by decide +kernel
theorem dX6_isLeft_35 : decode cX6_isLeft 35 = .ok (.iload_n 1, 1) := by decide +kernel
theorem dX6_isLeft_36 : decode cX6_isLeft 36 = .ok (.imul, 1) := by decide +kernel
theorem dX6_isLeft_37 : decode cX6_isLeft 37 = .ok (.iconst 2, 1) := by decide +kernel
theorem dX6_isLeft_38 : decode cX6_isLeft 38 = .ok (.iadd, 1) := by decide +kernel
theorem dX6_isLeft_39 : decode cX6_isLeft 39 = .ok (.iaload, 1) := by decide +kernel
theorem dX6_isLeft_40 : decode cX6_isLeft 40 = .ok (.aload_n 0, 1) := by decide +kernel
theorem dX6_isLeft_41 : decode cX6_isLeft 41 = .ok (.getfield 75, 3) := by decide +kernel
theorem dX6_isLeft_44 : decode cX6_isLeft 44 = .ok (.iconst 4, 1) := by decide +kernel
theorem dX6_isLeft_45 : decode cX6_isLeft 45 = .ok (.iload_n 1, 1) := by decide +kernel
theorem dX6_isLeft_46 : decode cX6_isLeft 46 = .ok (.imul, 1) := by decide +kernel
theorem dX6_isLeft_47 : decode cX6_isLeft 47 = .ok (.iconst 3, 1) := by decide +kernel
theorem dX6_isLeft_48 : decode cX6_isLeft 48 = .ok (.iadd, 1) := by decide +kernel
theorem dX6_isLeft_49 : decode cX6_isLeft 49 = .ok (.iaload, 1) := by decide +kernel
theorem dX6_isLeft_50 : decode cX6_isLeft 50 = .ok (.if_icmp .gt 7, 3) := by decide +kernel
theorem dX6_isLeft_53 : decode cX6_isLeft 53 = .ok (.iconst 1, 1) := by decide +kernel
theorem dX6_isLeft_54 : decode cX6_isLeft 54 = .ok (.goto 4, 3) := by decide +kernel
theorem dX6_isLeft_57 : decode cX6_isLeft 57 = .ok (.iconst 0, 1) := by decide +kernel
theorem dX6_isLeft_58 : decode cX6_isLeft 58 = .ok (.ireturn, 1) := by decide +kernel
theorem dX6_findLeft_0 : decode cX6_findLeft 0 = .ok (.iconst 0, 1) := by decide +kernel
theorem dX6_findLeft_1 : decode cX6_findLeft 1 = .ok (.istore_n 3, 1) := by decide +kernel
theorem dX6_findLeft_2 : decode cX6_findLeft 2 = .ok (.iload_n 3, 1) := by decide +kernel
theorem dX6_findLeft_3 : decode cX6_findLeft 3 = .ok (.aload_n 0, 1) := by decide +kernel
theorem dX6_findLeft_4 : decode cX6_findLeft 4 = .ok (.getfield 111, 3) := by decide +kernel
theorem dX6_findLeft_7 : decode cX6_findLeft 7 = .ok (.if_icmp .ge 89, 3) := by decide +kernel
theorem dX6_findLeft_10 : decode cX6_findLeft 10 = .ok (.aload_n 0, 1) := by decide +kernel
theorem dX6_findLeft_11 : decode cX6_findLeft 11 = .ok (.getfield 72, 3) := by decide +kernel
theorem dX6_findLeft_14 : decode cX6_findLeft 14 = .ok (.iload_n 3, 1) := by decide +kernel
theorem dX6_findLeft_15 : decode cX6_findLeft 15 = .ok (.iconst 1, 1) := by decide +kernel
theorem dX6_findLeft_16 : decode cX6_findLeft 16 = .ok (.bastore, 1) := by decide +kernel
theorem dX6_findLeft_17 : decode cX6_findLeft 17 = .ok (.iconst 0, 1) := by decide +kernel
theorem dX6_findLeft_18 : decode cX6_findLeft 18 = .ok (.istore 4, 2) := by decide +kernel
theorem dX6_findLeft_20 : decode cX6_findLeft 20 = .ok (.iload 4, 2) := by decide +kernel
theorem dX6_findLeft_22 : decode cX6_findLeft 22 = .ok (.bipush 6, 2) := by decide +kernel
theorem dX6_findLeft_24 : decode cX6_findLeft 24 = .ok (.if_icmp .ge 66, 3) := by decide +kernel
theorem dX6_findLeft_27 : decode cX6_findLeft 27 = .ok (.iload_n 2, 1) := by decide +kernel
theorem dX6_findLeft_28 : decode cX6_findLeft 28 = .ok (.iload 4, 2) := by decide +kernel
theorem dX6_findLeft_30 : decode cX6_findLeft 30 = .ok (.invokestatic 182, 3) := by decide +kernel
theorem dX6_findLeft_33 : decode cX6_findLeft 33 = .ok (.ifCond .ne 51, 3) := by decide +kernel
theorem dX6_findLeft_36 : decode cX6_findLeft 36 = .ok (.aload_n 0, 1) := by decide +kernel
theorem dX6_findLeft_37 : decode cX6_findLeft 37 = .ok (.getfield 32, 3) := by decide +kernel
theorem dX6_findLeft_40 : decode cX6_findLeft 40 = .ok (.bipush 6, 2) := by decide +kernel
theorem dX6_findLeft_42 : decode cX6_findLeft 42 = .ok (.iload_n 1, 1) := by decide +kernel
theorem dX6_findLeft_43 : decode cX6_findLeft 43 = .ok (.imul, 1) := by decide +kernel
theorem dX6_findLeft_44 : decode cX6_findLeft 44 = .ok (.iload 4, 2) := by decide +kernel
theorem dX6_findLeft_46 : decode cX6_findLeft 46 = .ok (.iadd, 1) := by decide +kernel
theorem dX6_findLeft_47 : decode cX6_findLeft 47 = .ok (.iaload, 1) := by decide +kernel
theorem dX6_findLeft_48 : decode cX6_findLeft 48 = .ok (.iload_n 3, 1) := by decide +kernel
theorem dX6_findLeft_49 : decode cX6_findLeft 49 = .ok (.invokestatic 182, 3) := by decide +kernel
theorem dX6_findLeft_52 : decode cX6_findLeft 52 = .ok (.ifCond .eq 32, 3) := by decide +kernel
theorem dX6_findLeft_55 : decode cX6_findLeft 55 = .ok (.aload_n 0, 1) := by decide +kernel
theorem dX6_findLeft_56 : decode cX6_findLeft 56 = .ok (.iload_n 3, 1) := by decide +kernel
theorem dX6_findLeft_57 : decode cX6_findLeft 57 = .ok (.aload_n 0, 1) := by decide +kernel
theorem dX6_findLeft_58 : decode cX6_findLeft 58 = .ok (.getfield 16, 3) := by decide +kernel
theorem dX6_findLeft_61 : decode cX6_findLeft 61 = .ok (.bipush 9, 2) := by decide +kernel
theorem dX6_findLeft_63 : decode cX6_findLeft 63 = .ok (.iload 4, 2) := by decide +kernel
theorem dX6_findLeft_65 : decode cX6_findLeft 65 = .ok (.imul, 1) := by decide +kernel
theorem dX6_findLeft_66 : decode cX6_findLeft 66 = .ok (.iload_n 3, 1) := by decide +kernel
theorem dX6_findLeft_67 : decode cX6_findLeft 67 = .ok (.iadd, 1) := by decide +kernel
theorem dX6_findLeft_68 : decode cX6_findLeft 68 = .ok (.iaload, 1) := by decide +kernel
theorem dX6_findLeft_69 : decode cX6_findLeft 69 = .ok (.aload_n 0, 1) := by decide +kernel
theorem dX6_findLeft_70 : decode cX6_findLeft 70 = .ok (.getfield 19, 3) := by decide +kernel
theorem dX6_findLeft_73 : decode cX6_findLeft 73 = .ok (.bipush 9, 2) := by decide +kernel
theorem dX6_findLeft_75 : decode cX6_findLeft 75 = .ok (.iload 4, 2) := by decide +kernel
theorem dX6_findLeft_77 : decode cX6_findLeft 77 = .ok (.imul, 1) := by decide +kernel
theorem dX6_findLeft_78 : decode cX6_findLeft 78 = .ok (.iload_n 3, 1) := by decide +kernel
theorem dX6_findLeft_79 : decode cX6_findLeft 79 = .ok (.iadd, 1) := by decide +kernel
theorem dX6_findLeft_80 : decode cX6_findLeft 80 = .ok (.iaload, 1) := by decide +kernel
theorem dX6_findLeft_81 : decode cX6_findLeft 81 = .ok (.invokevirtual 270, 3) := by decide +kernel
theorem dX6_findLeft_84 : decode cX6_findLeft 84 = .ok (.iinc 4 1, 3) := by decide +kernel
theorem dX6_findLeft_87 : decode cX6_findLeft 87 = .ok (.goto (-67), 3) := by decide +kernel
theorem dX6_findLeft_90 : decode cX6_findLeft 90 = .ok (.iinc 3 1, 3) := by decide +kernel
theorem dX6_findLeft_93 : decode cX6_findLeft 93 = .ok (.goto (-91), 3) := by decide +kernel
theorem dX6_findLeft_96 : decode cX6_findLeft 96 = .ok (.return_, 1) := by decide +kernel
theorem dX6_isApart_0 : decode cX6_isApart 0 = .ok (.aload_n 0, 1) := by decide +kernel
theorem dX6_isApart_1 : decode cX6_isApart 1 = .ok (.getfield 16, 3) := by decide +kernel
theorem dX6_isApart_4 : decode cX6_isApart 4 = .ok (.bipush 9, 2) := by decide +kernel
theorem dX6_isApart_6 : decode cX6_isApart 6 = .ok (.iload_n 1, 1) := by decide +kernel
theorem dX6_isApart_7 : decode cX6_isApart 7 = .ok (.imul, 1) := by decide +kernel
theorem dX6_isApart_8 : decode cX6_isApart 8 = .ok (.iload_n 2, 1) := by decide +kernel
theorem dX6_isApart_9 : decode cX6_isApart 9 = .ok (.iadd, 1) := by decide +kernel
theorem dX6_isApart_10 : decode cX6_isApart 10 = .ok (.iaload, 1) := by decide +kernel
theorem dX6_isApart_11 : decode cX6_isApart 11 = .ok (.istore_n 3, 1) := by decide +kernel
theorem dX6_isApart_12 : decode cX6_isApart 12 = .ok (.aload_n 0, 1) := by decide +kernel
theorem dX6_isApart_13 : decode cX6_isApart 13 = .ok (.getfield 19, 3) := by decide +kernel
theorem dX6_isApart_16 : decode cX6_isApart 16 = .ok (.bipush 9, 2) := by decide +kernel
theorem dX6_isApart_18 : decode cX6_isApart 18 = .ok (.iload_n 1, 1) := by decide +kernel
theorem dX6_isApart_19 : decode cX6_isApart 19 = .ok (.imul, 1) := by decide +kernel
theorem dX6_isApart_20 : decode cX6_isApart 20 = .ok (.iload_n 2, 1) := by decide +kernel
theorem dX6_isApart_21 : decode cX6_isApart 21 = .ok (.iadd, 1) := by decide +kernel
theorem dX6_isApart_22 : decode cX6_isApart 22 = .ok (.iaload, 1) := by decide +kernel
theorem dX6_isApart_23 : decode cX6_isApart 23 = .ok (.istore 4, 2) := by decide +kernel
theorem dX6_isApart_25 : decode cX6_isApart 25 = .ok (.iload_n 3, 1) := by decide +kernel
theorem dX6_isApart_26 : decode cX6_isApart 26 = .ok (.aload_n 0, 1) := by decide +kernel
theorem dX6_isApart_27 : decode cX6_isApart 27 = .ok (.getfield 256, 3) := by decide +kernel
theorem dX6_isApart_30 : decode cX6_isApart 30 = .ok (.iadd, 1) := by decide +kernel
theorem dX6_isApart_31 : decode cX6_isApart 31 = .ok (.aload_n 0, 1) := by decide +kernel
theorem dX6_isApart_32 : decode cX6_isApart 32 = .ok (.getfield 75, 3) := by decide +kernel
theorem dX6_isApart_35 : decode cX6_isApart 35 = .ok (.iconst 4, 1) := by decide +kernel
theorem dX6_isApart_36 : decode cX6_isApart 36 = .ok (.iload_n 2, 1) := by decide +kernel
theorem dX6_isApart_37 : decode cX6_isApart 37 = .ok (.imul, 1) := by decide +kernel
theorem dX6_isApart_38 : decode cX6_isApart 38 = .ok (.iaload, 1) := by decide +kernel
theorem dX6_isApart_39 : decode cX6_isApart 39 = .ok (.if_icmp .lt 22, 3) := by decide +kernel
theorem dX6_isApart_42 : decode cX6_isApart 42 = .ok (.iload_n 3, 1) := by decide +kernel
theorem dX6_isApart_43 : decode cX6_isApart 43 = .ok (.aload_n 0, 1) := by decide +kernel
theorem dX6_isApart_44 : decode cX6_isApart 44 = .ok (.getfield 256, 3) := by decide +kernel
theorem dX6_isApart_47 : decode cX6_isApart 47 = .ok (.isub, 1) := by decide +kernel
theorem dX6_isApart_48 : decode cX6_isApart 48 = .ok (.aload_n 0, 1) := by decide +kernel
theorem dX6_isApart_49 : decode cX6_isApart 49 = .ok (.getfield 75, 3) := by decide +kernel
theorem dX6_isApart_52 : decode cX6_isApart 52 = .ok (.iconst 4, 1) := by decide +kernel
theorem dX6_isApart_53 : decode cX6_isApart 53 = .ok (.iload_n 2, 1) := by decide +kernel
theorem dX6_isApart_54 : decode cX6_isApart 54 = .ok (.imul, 1) := by decide +kernel
theorem dX6_isApart_55 : decode cX6_isApart 55 = .ok (.iconst 1, 1) := by decide +kernel
theorem dX6_isApart_56 : decode cX6_isApart 56 = .ok (.iadd, 1) := by decide +kernel
theorem dX6_isApart_57 : decode cX6_isApart 57 = .ok (.iaload, 1) := by decide +kernel
theorem dX6_isApart_58 : decode cX6_isApart 58 = .ok (.if_icmp .le 7, 3) := by decide +kernel
theorem dX6_isApart_61 : decode cX6_isApart 61 = .ok (.iconst 1, 1) := by decide +kernel
theorem dX6_isApart_62 : decode cX6_isApart 62 = .ok (.goto 4, 3) := by decide +kernel
theorem dX6_isApart_65 : decode cX6_isApart 65 = .ok (.iconst 0, 1) := by decide +kernel
theorem dX6_isApart_66 : decode cX6_isApart 66 = .ok (.istore 5, 2) := by decide +kernel
theorem dX6_isApart_68 : decode cX6_isApart 68 = .ok (.iload 4, 2) := by decide +kernel
theorem dX6_isApart_70 : decode cX6_isApart 70 = .ok (.aload_n 0, 1) := by decide +kernel
theorem dX6_isApart_71 : decode cX6_isApart 71 = .ok (.getfield 256, 3) := by decide +kernel
theorem dX6_isApart_74 : decode cX6_isApart 74 = .ok (.iadd, 1) := by decide +kernel
theorem dX6_isApart_75 : decode cX6_isApart 75 = .ok (.aload_n 0, 1) := by decide +kernel
theorem dX6_isApart_76 : decode cX6_isApart 76 = .ok (.getfield 75, 3) := by decide +kernel
theorem dX6_isApart_79 : decode cX6_isApart 79 = .ok (.iconst 4, 1) := by decide +kernel
theorem dX6_isApart_80 : decode cX6_isApart 80 = .ok (.iload_n 2, 1) := by decide +kernel
theorem dX6_isApart_81 : decode cX6_isApart 81 = .ok (.imul, 1) := by decide +kernel
theorem dX6_isApart_82 : decode cX6_isApart 82 = .ok (.iconst 2, 1) := by decide +kernel
theorem dX6_isApart_83 : decode cX6_isApart 83 = .ok (.iadd, 1) := by decide +kernel
theorem dX6_isApart_84 : decode cX6_isApart 84 = .ok (.iaload, 1) := by decide +kernel
theorem dX6_isApart_85 : decode cX6_isApart 85 = .ok (.if_icmp .lt 23, 3) := by decide +kernel
theorem dX6_isApart_88 : decode cX6_isApart 88 = .ok (.iload 4, 2) := by decide +kernel
theorem dX6_isApart_90 : decode cX6_isApart 90 = .ok (.aload_n 0, 1) := by decide +kernel
theorem dX6_isApart_91 : decode cX6_isApart 91 = .ok (.getfield 256, 3) := by decide +kernel
theorem dX6_isApart_94 : decode cX6_isApart 94 = .ok (.isub, 1) := by decide +kernel
theorem dX6_isApart_95 : decode cX6_isApart 95 = .ok (.aload_n 0, 1) := by decide +kernel
theorem dX6_isApart_96 : decode cX6_isApart 96 = .ok (.getfield 75, 3) := by decide +kernel
theorem dX6_isApart_99 : decode cX6_isApart 99 = .ok (.iconst 4, 1) := by decide +kernel
theorem dX6_isApart_100 : decode cX6_isApart 100 = .ok (.iload_n 2, 1) := by decide +kernel
theorem dX6_isApart_101 : decode cX6_isApart 101 = .ok (.imul, 1) := by decide +kernel
theorem dX6_isApart_102 : decode cX6_isApart 102 = .ok (.iconst 3, 1) := by decide +kernel
theorem dX6_isApart_103 : decode cX6_isApart 103 = .ok (.iadd, 1) := by decide +kernel
theorem dX6_isApart_104 : decode cX6_isApart 104 = .ok (.iaload, 1) := by decide +kernel
theorem dX6_isApart_105 : decode cX6_isApart 105 = .ok (.if_icmp .le 7, 3) := by decide +kernel
theorem dX6_isApart_108 : decode cX6_isApart 108 = .ok (.iconst 1, 1) := by decide +kernel
theorem dX6_isApart_109 : decode cX6_isApart 109 = .ok (.goto 4, 3) := by decide +kernel
theorem dX6_isApart_112 : decode cX6_isApart 112 = .ok (.iconst 0, 1) := by decide +kernel
theorem dX6_isApart_113 : decode cX6_isApart 113 = .ok (.istore 6, 2) := by decide +kernel
theorem dX6_isApart_115 : decode cX6_isApart 115 = .ok (.aload_n 0, 1) := by decide +kernel
theorem dX6_isApart_116 : decode cX6_isApart 116 = .ok (.getfield 72, 3) := by decide +kernel
theorem dX6_isApart_119 : decode cX6_isApart 119 = .ok (.iload_n 2, 1) := by decide +kernel
theorem dX6_isApart_120 : decode cX6_isApart 120 = .ok (.baload, 1) := by decide +kernel
theorem dX6_isApart_121 : decode cX6_isApart 121 = .ok (.ifCond .ne 17, 3) := by decide +kernel
theorem dX6_isApart_124 : decode cX6_isApart 124 = .ok (.iload 5, 2) := by decide +kernel
theorem dX6_isApart_126 : decode cX6_isApart 126 = .ok (.ifCond .ne 8, 3) := by decide +kernel
theorem dX6_isApart_129 : decode cX6_isApart 129 = .ok (.iload 6, 2) := by decide +kernel
theorem dX6_isApart_131 : decode cX6_isApart 131 = .ok (.ifCond .eq 7, 3) := by decide +kernel
theorem dX6_isApart_134 : decode cX6_isApart 134 = .ok (.iconst 1, 1) := by decide +kernel
theorem dX6_isApart_135 : decode cX6_isApart 135 = .ok (.goto 4, 3) := by decide +kernel
theorem dX6_isApart_138 : decode cX6_isApart 138 = .ok (.iconst 0, 1) := by decide +kernel
theorem dX6_isApart_139 : decode cX6_isApart 139 = .ok (.ireturn, 1) := by decide +kernel
theorem dX6_isWithin_0 : decode cX6_isWithin 0 = .ok (.aload_n 0, 1) := by decide +kernel
theorem dX6_isWithin_1 : decode cX6_isWithin 1 = .ok (.getfield 16, 3) := by decide +kernel
theorem dX6_isWithin_4 : decode cX6_isWithin 4 = .ok (.bipush 9, 2) := by decide +kernel
theorem dX6_isWithin_6 : decode cX6_isWithin 6 = .ok (.iload_n 1, 1) := by decide +kernel
theorem dX6_isWithin_7 : decode cX6_isWithin 7 = .ok (.imul, 1) := by decide +kernel
theorem dX6_isWithin_8 : decode cX6_isWithin 8 = .ok (.iload_n 2, 1) := by decide +kernel
theorem dX6_isWithin_9 : decode cX6_isWithin 9 = .ok (.iadd, 1) := by decide +kernel
theorem dX6_isWithin_10 : decode cX6_isWithin 10 = .ok (.iaload, 1) := by decide +kernel
theorem dX6_isWithin_11 : decode cX6_isWithin 11 = .ok (.istore_n 3, 1) := by decide +kernel
theorem dX6_isWithin_12 : decode cX6_isWithin 12 = .ok (.aload_n 0, 1) := by decide +kernel
theorem dX6_isWithin_13 : decode cX6_isWithin 13 = .ok (.getfield 19, 3) := by decide +kernel
theorem dX6_isWithin_16 : decode cX6_isWithin 16 = .ok (.bipush 9, 2) := by decide +kernel
theorem dX6_isWithin_18 : decode cX6_isWithin 18 = .ok (.iload_n 1, 1) := by decide +kernel
theorem dX6_isWithin_19 : decode cX6_isWithin 19 = .ok (.imul, 1) := by decide +kernel
theorem dX6_isWithin_20 : decode cX6_isWithin 20 = .ok (.iload_n 2, 1) := by decide +kernel
theorem dX6_isWithin_21 : decode cX6_isWithin 21 = .ok (.iadd, 1) := by decide +kernel
theorem dX6_isWithin_22 : decode cX6_isWithin 22 = .ok (.iaload, 1) := by decide +kernel
theorem dX6_isWithin_23 : decode cX6_isWithin 23 = .ok (.istore 4, 2) := by decide +kernel
theorem dX6_isWithin_25 : decode cX6_isWithin 25 = .ok (.aload_n 0, 1) := by decide +kernel
theorem dX6_isWithin_26 : decode cX6_isWithin 26 = .ok (.getfield 75, 3) := by decide +kernel
theorem dX6_isWithin_29 : decode cX6_isWithin 29 = .ok (.iconst 4, 1) := by decide +kernel
theorem dX6_isWithin_30 : decode cX6_isWithin 30 = .ok (.iload_n 2, 1) := by decide +kernel
theorem dX6_isWithin_31 : decode cX6_isWithin 31 = .ok (.imul, 1) := by decide +kernel
theorem dX6_isWithin_32 : decode cX6_isWithin 32 = .ok (.iaload, 1) := by decide +kernel
theorem dX6_isWithin_33 : decode cX6_isWithin 33 = .ok (.iload_n 3, 1) := by decide +kernel
theorem dX6_isWithin_34 : decode cX6_isWithin 34 = .ok (.aload_n 0, 1) := by decide +kernel
theorem dX6_isWithin_35 : decode cX6_isWithin 35 = .ok (.getfield 256, 3) := by decide +kernel
theorem dX6_isWithin_38 : decode cX6_isWithin 38 = .ok (.isub, 1) := by decide +kernel
theorem dX6_isWithin_39 : decode cX6_isWithin 39 = .ok (.if_icmp .lt 26, 3) := by decide +kernel
theorem dX6_isWithin_42 : decode cX6_isWithin 42 = .ok (.aload_n 0, 1) := by decide +kernel
theorem dX6_isWithin_43 : decode cX6_isWithin 43 = .ok (.getfield 75, 3) := by decide +kernel
theorem dX6_isWithin_46 : decode cX6_isWithin 46 = .ok (.iconst 4, 1) := by decide +kernel
theorem dX6_isWithin_47 : decode cX6_isWithin 47 = .ok (.iload_n 2, 1) := by decide +kernel
theorem dX6_isWithin_48 : decode cX6_isWithin 48 = .ok (.imul, 1) := by decide +kernel
theorem dX6_isWithin_49 : decode cX6_isWithin 49 = .ok (.iconst 1, 1) := by decide +kernel
theorem dX6_isWithin_50 : decode cX6_isWithin 50 = .ok (.iadd, 1) := by decide +kernel
theorem dX6_isWithin_51 : decode cX6_isWithin 51 = .ok (.iaload, 1) := by decide +kernel
theorem dX6_isWithin_52 : decode cX6_isWithin 52 = .ok (.iload_n 3, 1) := by decide +kernel
theorem dX6_isWithin_53 : decode cX6_isWithin 53 = .ok (.aload_n 0, 1) := by decide +kernel
theorem dX6_isWithin_54 : decode cX6_isWithin 54 = .ok (.getfield 256, 3) := by decide +kernel
theorem dX6_isWithin_57 : decode cX6_isWithin 57 = .ok (.iadd, 1) := by decide +kernel
theorem dX6_isWithin_58 : decode cX6_isWithin 58 = .ok (.if_icmp .gt 7, 3) := by decide +kernel
theorem dX6_isWithin_61 : decode cX6_isWithin 61 = .ok (.iconst 1, 1) := by decide +kernel
theorem dX6_isWithin_62 : decode cX6_isWithin 62 = .ok (.goto 4, 3) := by decide +kernel
theorem dX6_isWithin_65 : decode cX6_isWithin 65 = .ok (.iconst 0, 1) := by decide +kernel
theorem dX6_isWithin_66 : decode cX6_isWithin 66 = .ok (.istore 5, 2) := by decide +kernel
theorem dX6_isWithin_68 : decode cX6_isWithin 68 = .ok (.aload_n 0, 1) := by decide +kernel
theorem dX6_isWithin_69 : decode cX6_isWithin 69 = .ok (.getfield 72, 3) := by decide +kernel
theorem dX6_isWithin_72 : decode cX6_isWithin 72 = .ok (.iload_n 2, 1) := by decide +kernel
theorem dX6_isWithin_73 : decode cX6_isWithin 73 = .ok (.baload, 1) := by decide +kernel
theorem dX6_isWithin_74 : decode cX6_isWithin 74 = .ok (.ifCond .ne 52, 3) := by decide +kernel
theorem dX6_isWithin_77 : decode cX6_isWithin 77 = .ok (.iload 5, 2) := by decide +kernel
theorem dX6_isWithin_79 : decode cX6_isWithin 79 = .ok (.ifCond .eq 47, 3) := by decide +kernel
theorem dX6_isWithin_82 : decode cX6_isWithin 82 = .ok (.aload_n 0, 1) := by decide +kernel
theorem dX6_isWithin_83 : decode cX6_isWithin 83 = .ok (.getfield 75, 3) := by decide +kernel
theorem dX6_isWithin_86 : decode cX6_isWithin 86 = .ok (.iconst 4, 1) := by decide +kernel
theorem dX6_isWithin_87 : decode cX6_isWithin 87 = .ok (.iload_n 2, 1) := by decide +kernel
theorem dX6_isWithin_88 : decode cX6_isWithin 88 = .ok (.imul, 1) := by decide +kernel
theorem dX6_isWithin_89 : decode cX6_isWithin 89 = .ok (.iconst 2, 1) := by decide +kernel
theorem dX6_isWithin_90 : decode cX6_isWithin 90 = .ok (.iadd, 1) := by decide +kernel
theorem dX6_isWithin_91 : decode cX6_isWithin 91 = .ok (.iaload, 1) := by decide +kernel
theorem dX6_isWithin_92 : decode cX6_isWithin 92 = .ok (.iload 4, 2) := by decide +kernel
theorem dX6_isWithin_94 : decode cX6_isWithin 94 = .ok (.aload_n 0, 1) := by decide +kernel
theorem dX6_isWithin_95 : decode cX6_isWithin 95 = .ok (.getfield 256, 3) := by decide +kernel
theorem dX6_isWithin_98 : decode cX6_isWithin 98 = .ok (.isub, 1) := by decide +kernel
theorem dX6_isWithin_99 : decode cX6_isWithin 99 = .ok (.if_icmp .lt 27, 3) := by decide +kernel
theorem dX6_isWithin_102 : decode cX6_isWithin 102 = .ok (.aload_n 0, 1) := by decide +kernel
theorem dX6_isWithin_103 : decode cX6_isWithin 103 = .ok (.getfield 75, 3) := by decide +kernel
theorem dX6_isWithin_106 : decode cX6_isWithin 106 = .ok (.iconst 4, 1) := by decide +kernel
theorem dX6_isWithin_107 : decode cX6_isWithin 107 = .ok (.iload_n 2, 1) := by decide +kernel
theorem dX6_isWithin_108 : decode cX6_isWithin 108 = .ok (.imul, 1) := by decide +kernel
theorem dX6_isWithin_109 : decode cX6_isWithin 109 = .ok (.iconst 3, 1) := by decide +kernel
theorem dX6_isWithin_110 : decode cX6_isWithin 110 = .ok (.iadd, 1) := by decide +kernel
theorem dX6_isWithin_111 : decode cX6_isWithin 111 = .ok (.iaload, 1) := by decide +kernel
theorem dX6_isWithin_112 : decode cX6_isWithin 112 = .ok (.iload 4, 2) := by decide +kernel
theorem dX6_isWithin_114 : decode cX6_isWithin 114 = .ok (.aload_n 0, 1) := by decide +kernel
theorem dX6_isWithin_115 : decode cX6_isWithin 115 = .ok (.getfield 256, 3) := by decide +kernel
theorem dX6_isWithin_118 : decode cX6_isWithin 118 = .ok (.iadd, 1) := by decide +kernel
theorem dX6_isWithin_119 : decode cX6_isWithin 119 = .ok (.if_icmp .gt 7, 3) := by decide +kernel
theorem dX6_isWithin_122 : decode cX6_isWithin 122 = .ok (.iconst 1, 1) := by decide +kernel
theorem dX6_isWithin_123 : decode cX6_isWithin 123 = .ok (.goto 4, 3) := by decide +kernel
theorem dX6_isWithin_126 : decode cX6_isWithin 126 = .ok (.iconst 0, 1) := by decide +kernel
theorem dX6_isWithin_127 : decode cX6_isWithin 127 = .ok (.ireturn, 1) := by decide +kernel
theorem dX6_offTimes_0 : decode cX6_offTimes 0 = .ok (.iconst 0, 1) := by decide +kernel
theorem dX6_offTimes_1 : decode cX6_offTimes 1 = .ok (.istore_n 3, 1) := by decide +kernel
theorem dX6_offTimes_2 : decode cX6_offTimes 2 = .ok (.iconst 0, 1) := by decide +kernel
theorem dX6_offTimes_3 : decode cX6_offTimes 3 = .ok (.istore 4, 2) := by decide +kernel
theorem dX6_offTimes_5 : decode cX6_offTimes 5 = .ok (.iload 4, 2) := by decide +kernel
theorem dX6_offTimes_7 : decode cX6_offTimes 7 = .ok (.aload_n 0, 1) := by decide +kernel
theorem dX6_offTimes_8 : decode cX6_offTimes 8 = .ok (.getfield 111, 3) := by decide +kernel
theorem dX6_offTimes_11 : decode cX6_offTimes 11 = .ok (.if_icmp .ge 46, 3) := by decide +kernel
theorem dX6_offTimes_14 : decode cX6_offTimes 14 = .ok (.iload_n 3, 1) := by decide +kernel
theorem dX6_offTimes_15 : decode cX6_offTimes 15 = .ok (.aload_n 0, 1) := by decide +kernel
theorem dX6_offTimes_16 : decode cX6_offTimes 16 = .ok (.getfield 32, 3) := by decide +kernel
theorem dX6_offTimes_19 : decode cX6_offTimes 19 = .ok (.bipush 6, 2) := by decide +kernel
theorem dX6_offTimes_21 : decode cX6_offTimes 21 = .ok (.iload_n 1, 1) := by decide +kernel
theorem dX6_offTimes_22 : decode cX6_offTimes 22 = .ok (.imul, 1) := by decide +kernel
theorem dX6_offTimes_23 : decode cX6_offTimes 23 = .ok (.iload_n 2, 1) := by decide +kernel
theorem dX6_offTimes_24 : decode cX6_offTimes 24 = .ok (.iadd, 1) := by decide +kernel
theorem dX6_offTimes_25 : decode cX6_offTimes 25 = .ok (.iaload, 1) := by decide +kernel
theorem dX6_offTimes_26 : decode cX6_offTimes 26 = .ok (.iload 4, 2) := by decide +kernel
theorem dX6_offTimes_28 : decode cX6_offTimes 28 = .ok (.invokestatic 182, 3) := by decide +kernel
theorem dX6_offTimes_31 : decode cX6_offTimes 31 = .ok (.ifCond .eq 17, 3) := by decide +kernel
theorem dX6_offTimes_34 : decode cX6_offTimes 34 = .ok (.aload_n 0, 1) := by decide +kernel
theorem dX6_offTimes_35 : decode cX6_offTimes 35 = .ok (.iload_n 2, 1) := by decide +kernel
theorem dX6_offTimes_36 : decode cX6_offTimes 36 = .ok (.iload 4, 2) := by decide +kernel
theorem dX6_offTimes_38 : decode cX6_offTimes 38 = .ok (.invokevirtual 274, 3) := by decide +kernel
theorem dX6_offTimes_41 : decode cX6_offTimes 41 = .ok (.ifCond .eq 7, 3) := by decide +kernel
theorem dX6_offTimes_44 : decode cX6_offTimes 44 = .ok (.iconst 1, 1) := by decide +kernel
theorem dX6_offTimes_45 : decode cX6_offTimes 45 = .ok (.goto 4, 3) := by decide +kernel
theorem dX6_offTimes_48 : decode cX6_offTimes 48 = .ok (.iconst 0, 1) := by decide +kernel
theorem dX6_offTimes_49 : decode cX6_offTimes 49 = .ok (.iadd, 1) := by decide +kernel
theorem dX6_offTimes_50 : decode cX6_offTimes 50 = .ok (.istore_n 3, 1) := by decide +kernel
theorem dX6_offTimes_51 : decode cX6_offTimes 51 = .ok (.iinc 4 1, 3) := by decide +kernel
theorem dX6_offTimes_54 : decode cX6_offTimes 54 = .ok (.goto (-49), 3) := by decide +kernel
theorem dX6_offTimes_57 : decode cX6_offTimes 57 = .ok (.iload_n 3, 1) := by decide +kernel
theorem dX6_offTimes_58 : decode cX6_offTimes 58 = .ok (.ireturn, 1) := by decide +kernel
theorem dX6_couldBe_0 : decode cX6_couldBe 0 = .ok (.iconst 0, 1) := by decide +kernel
theorem dX6_couldBe_1 : decode cX6_couldBe 1 = .ok (.istore_n 3, 1) := by decide +kernel
theorem dX6_couldBe_2 : decode cX6_couldBe 2 = .ok (.iconst 0, 1) := by decide +kernel
theorem dX6_couldBe_3 : decode cX6_couldBe 3 = .ok (.istore 4, 2) := by decide +kernel
theorem dX6_couldBe_5 : decode cX6_couldBe 5 = .ok (.iload 4, 2) := by decide +kernel
theorem dX6_couldBe_7 : decode cX6_couldBe 7 = .ok (.aload_n 0, 1) := by decide +kernel
theorem dX6_couldBe_8 : decode cX6_couldBe 8 = .ok (.getfield 111, 3) := by decide +kernel
theorem dX6_couldBe_11 : decode cX6_couldBe 11 = .ok (.if_icmp .ge 48, 3) := by decide +kernel
theorem dX6_couldBe_14 : decode cX6_couldBe 14 = .ok (.iload_n 3, 1) := by decide +kernel
theorem dX6_couldBe_15 : decode cX6_couldBe 15 = .ok (.ifCond .ne 32, 3) := by decide +kernel
theorem dX6_couldBe_18 : decode cX6_couldBe 18 = .ok (.aload_n 0, 1) := by decide +kernel
theorem dX6_couldBe_19 : decode cX6_couldBe 19 = .ok (.getfield 32, 3) := by decide +kernel
theorem dX6_couldBe_22 : decode cX6_couldBe 22 = .ok (.bipush 6, 2) := by decide +kernel
theorem dX6_couldBe_24 : decode cX6_couldBe 24 = .ok (.iload_n 1, 1) := by decide +kernel
theorem dX6_couldBe_25 : decode cX6_couldBe 25 = .ok (.imul, 1) := by decide +kernel
theorem dX6_couldBe_26 : decode cX6_couldBe 26 = .ok (.iload_n 2, 1) := by decide +kernel
theorem dX6_couldBe_27 : decode cX6_couldBe 27 = .ok (.iadd, 1) := by decide +kernel
theorem dX6_couldBe_28 : decode cX6_couldBe 28 = .ok (.iaload, 1) := by decide +kernel
theorem dX6_couldBe_29 : decode cX6_couldBe 29 = .ok (.iload 4, 2) := by decide +kernel
theorem dX6_couldBe_31 : decode cX6_couldBe 31 = .ok (.invokestatic 182, 3) := by decide +kernel
theorem dX6_couldBe_34 : decode cX6_couldBe 34 = .ok (.ifCond .eq 13, 3) := by decide +kernel
theorem dX6_couldBe_37 : decode cX6_couldBe 37 = .ok (.aload_n 0, 1) := by decide +kernel
theorem dX6_couldBe_38 : decode cX6_couldBe 38 = .ok (.iload_n 2, 1) := by decide +kernel
theorem dX6_couldBe_39 : decode cX6_couldBe 39 = .ok (.iload 4, 2) := by decide +kernel
theorem dX6_couldBe_41 : decode cX6_couldBe 41 = .ok (.invokevirtual 277, 3) := by decide +kernel
theorem dX6_couldBe_44 : decode cX6_couldBe 44 = .ok (.ifCond .ne 7, 3) := by decide +kernel
theorem dX6_couldBe_47 : decode cX6_couldBe 47 = .ok (.iconst 1, 1) := by decide +kernel
theorem dX6_couldBe_48 : decode cX6_couldBe 48 = .ok (.goto 4, 3) := by decide +kernel
theorem dX6_couldBe_51 : decode cX6_couldBe 51 = .ok (.iconst 0, 1) := by decide +kernel
theorem dX6_couldBe_52 : decode cX6_couldBe 52 = .ok (.istore_n 3, 1) := by decide +kernel
theorem dX6_couldBe_53 : decode cX6_couldBe 53 = .ok (.iinc 4 1, 3) := by decide +kernel
theorem dX6_couldBe_56 : decode cX6_couldBe 56 = .ok (.goto (-51), 3) := by decide +kernel
theorem dX6_couldBe_59 : decode cX6_couldBe 59 = .ok (.iload_n 3, 1) := by decide +kernel
theorem dX6_couldBe_60 : decode cX6_couldBe 60 = .ok (.ireturn, 1) := by decide +kernel
theorem dX6_quarrels_0 : decode cX6_quarrels 0 = .ok (.iconst (-1), 1) := by decide +kernel
theorem dX6_quarrels_1 : decode cX6_quarrels 1 = .ok (.istore_n 3, 1) := by decide +kernel
theorem dX6_quarrels_2 : decode cX6_quarrels 2 = .ok (.iconst (-1), 1) := by decide +kernel
theorem dX6_quarrels_3 : decode cX6_quarrels 3 = .ok (.istore 4, 2) := by decide +kernel
theorem dX6_quarrels_5 : decode cX6_quarrels 5 = .ok (.iconst 0, 1) := by decide +kernel
theorem dX6_quarrels_6 : decode cX6_quarrels 6 = .ok (.istore 5, 2) := by decide +kernel
theorem dX6_quarrels_8 : decode cX6_quarrels 8 = .ok (.iload 5, 2) := by decide +kernel
theorem dX6_quarrels_10 : decode cX6_quarrels 10 = .ok (.bipush 6, 2) := by decide +kernel
theorem dX6_quarrels_12 : decode cX6_quarrels 12 = .ok (.if_icmp .ge 47, 3) := by decide +kernel
theorem dX6_quarrels_15 : decode cX6_quarrels 15 = .ok (.iload_n 2, 1) := by decide +kernel
theorem dX6_quarrels_16 : decode cX6_quarrels 16 = .ok (.iload 5, 2) := by decide +kernel
theorem dX6_quarrels_18 : decode cX6_quarrels 18 = .ok (.invokestatic 182, 3) := by decide +kernel
theorem dX6_quarrels_21 : decode cX6_quarrels 21 = .ok (.ifCond .eq 8, 3) := by decide +kernel
theorem dX6_quarrels_24 : decode cX6_quarrels 24 = .ok (.iload 5, 2) := by decide +kernel
theorem dX6_quarrels_26 : decode cX6_quarrels 26 = .ok (.goto 5, 3) := by decide +kernel
theorem dX6_quarrels_29 : decode cX6_quarrels 29 = .ok (.iload 4, 2) := by decide +kernel
theorem dX6_quarrels_31 : decode cX6_quarrels 31 = .ok (.istore 4, 2) := by decide +kernel
theorem dX6_quarrels_33 : decode cX6_quarrels 33 = .ok (.iload_n 2, 1) := by decide +kernel
theorem dX6_quarrels_34 : decode cX6_quarrels 34 = .ok (.iload 5, 2) := by decide +kernel
theorem dX6_quarrels_36 : decode cX6_quarrels 36 = .ok (.invokestatic 182, 3) := by decide +kernel
theorem dX6_quarrels_39 : decode cX6_quarrels 39 = .ok (.ifCond .eq 12, 3) := by decide +kernel
theorem dX6_quarrels_42 : decode cX6_quarrels 42 = .ok (.iload_n 3, 1) := by decide +kernel
theorem dX6_quarrels_43 : decode cX6_quarrels 43 = .ok (.ifCond .ge 8, 3) := by decide +kernel
theorem dX6_quarrels_46 : decode cX6_quarrels 46 = .ok (.iload 5, 2) := by decide +kernel
theorem dX6_quarrels_48 : decode cX6_quarrels 48 = .ok (.goto 4, 3) := by decide +kernel
theorem dX6_quarrels_51 : decode cX6_quarrels 51 = .ok (.iload_n 3, 1) := by decide +kernel
theorem dX6_quarrels_52 : decode cX6_quarrels 52 = .ok (.istore_n 3, 1) := by decide +kernel
theorem dX6_quarrels_53 : decode cX6_quarrels 53 = .ok (.iinc 5 1, 3) := by decide +kernel
theorem dX6_quarrels_56 : decode cX6_quarrels 56 = .ok (.goto (-48), 3) := by decide +kernel
theorem dX6_quarrels_59 : decode cX6_quarrels 59 = .ok (.iconst 0, 1) := by decide +kernel
theorem dX6_quarrels_60 : decode cX6_quarrels 60 = .ok (.istore 5, 2) := by decide +kernel
theorem dX6_quarrels_62 : decode cX6_quarrels 62 = .ok (.iconst 0, 1) := by decide +kernel
theorem dX6_quarrels_63 : decode cX6_quarrels 63 = .ok (.istore 6, 2) := by decide +kernel
theorem dX6_quarrels_65 : decode cX6_quarrels 65 = .ok (.iload 6, 2) := by decide +kernel
theorem dX6_quarrels_67 : decode cX6_quarrels 67 = .ok (.aload_n 0, 1) := by decide +kernel
theorem dX6_quarrels_68 : decode cX6_quarrels 68 = .ok (.getfield 111, 3) := by decide +kernel
theorem dX6_quarrels_71 : decode cX6_quarrels 71 = .ok (.if_icmp .ge 178, 3) := by decide +kernel
theorem dX6_quarrels_74 : decode cX6_quarrels 74 = .ok (.iload_n 3, 1) := by decide +kernel
theorem dX6_quarrels_75 : decode cX6_quarrels 75 = .ok (.ifCond .lt 174, 3) := by decide +kernel
theorem dX6_quarrels_78 : decode cX6_quarrels 78 = .ok (.iload 4, 2) := by decide +kernel
theorem dX6_quarrels_80 : decode cX6_quarrels 80 = .ok (.iload_n 3, 1) := by decide +kernel
theorem dX6_quarrels_81 : decode cX6_quarrels 81 = .ok (.if_icmp .eq 168, 3) := by decide +kernel
theorem dX6_quarrels_84 : decode cX6_quarrels 84 = .ok (.aload_n 0, 1) := by decide +kernel
theorem dX6_quarrels_85 : decode cX6_quarrels 85 = .ok (.getfield 72, 3) := by decide +kernel
theorem dX6_quarrels_88 : decode cX6_quarrels 88 = .ok (.iload 6, 2) := by decide +kernel
theorem dX6_quarrels_90 : decode cX6_quarrels 90 = .ok (.baload, 1) := by decide +kernel
theorem dX6_quarrels_91 : decode cX6_quarrels 91 = .ok (.ifCond .eq 46, 3) := by decide +kernel
theorem dX6_quarrels_94 : decode cX6_quarrels 94 = .ok (.aload_n 0, 1) := by decide +kernel
theorem dX6_quarrels_95 : decode cX6_quarrels 95 = .ok (.getfield 32, 3) := by decide +kernel
theorem dX6_quarrels_98 : decode cX6_quarrels 98 = .ok (.bipush 6, 2) := by decide +kernel
theorem dX6_quarrels_100 : decode cX6_quarrels 100 = .ok (.iload_n 1, 1) := by decide +kernel
theorem dX6_quarrels_101 : decode cX6_quarrels 101 = .ok (.imul, 1) := by decide +kernel
theorem dX6_quarrels_102 : decode cX6_quarrels 102 = .ok (.iload_n 3, 1) := by decide +kernel
theorem dX6_quarrels_103 : decode cX6_quarrels 103 = .ok (.iadd, 1) := by decide +kernel
theorem dX6_quarrels_104 : decode cX6_quarrels 104 = .ok (.iaload, 1) := by decide +kernel
theorem dX6_quarrels_105 : decode cX6_quarrels 105 = .ok (.iload 6, 2) := by decide +kernel
theorem dX6_quarrels_107 : decode cX6_quarrels 107 = .ok (.invokestatic 182, 3) := by decide +kernel
theorem dX6_quarrels_110 : decode cX6_quarrels 110 = .ok (.ifCond .eq 27, 3) := by decide +kernel
theorem dX6_quarrels_113 : decode cX6_quarrels 113 = .ok (.aload_n 0, 1) := by decide +kernel
theorem dX6_quarrels_114 : decode cX6_quarrels 114 = .ok (.getfield 32, 3) := by decide +kernel
theorem dX6_quarrels_117 : decode cX6_quarrels 117 = .ok (.bipush 6, 2) := by decide +kernel
theorem dX6_quarrels_119 : decode cX6_quarrels 119 = .ok (.iload_n 1, 1) := by decide +kernel
theorem dX6_quarrels_120 : decode cX6_quarrels 120 = .ok (.imul, 1) := by decide +kernel
theorem dX6_quarrels_121 : decode cX6_quarrels 121 = .ok (.iload 4, 2) := by decide +kernel
theorem dX6_quarrels_123 : decode cX6_quarrels 123 = .ok (.iadd, 1) := by decide +kernel
theorem dX6_quarrels_124 : decode cX6_quarrels 124 = .ok (.iaload, 1) := by decide +kernel
theorem dX6_quarrels_125 : decode cX6_quarrels 125 = .ok (.iload 6, 2) := by decide +kernel
theorem dX6_quarrels_127 : decode cX6_quarrels 127 = .ok (.invokestatic 182, 3) := by decide +kernel
theorem dX6_quarrels_130 : decode cX6_quarrels 130 = .ok (.ifCond .eq 7, 3) := by decide +kernel
theorem dX6_quarrels_133 : decode cX6_quarrels 133 = .ok (.iconst 1, 1) := by decide +kernel
theorem dX6_quarrels_134 : decode cX6_quarrels 134 = .ok (.goto 4, 3) := by decide +kernel
theorem dX6_quarrels_137 : decode cX6_quarrels 137 = .ok (.iconst 0, 1) := by decide +kernel
theorem dX6_quarrels_138 : decode cX6_quarrels 138 = .ok (.istore 7, 2) := by decide +kernel
theorem dX6_quarrels_140 : decode cX6_quarrels 140 = .ok (.aload_n 0, 1) := by decide +kernel
theorem dX6_quarrels_141 : decode cX6_quarrels 141 = .ok (.getfield 16, 3) := by decide +kernel
theorem dX6_quarrels_144 : decode cX6_quarrels 144 = .ok (.bipush 9, 2) := by decide +kernel
theorem dX6_quarrels_146 : decode cX6_quarrels 146 = .ok (.iload_n 3, 1) := by decide +kernel
theorem dX6_quarrels_147 : decode cX6_quarrels 147 = .ok (.imul, 1) := by decide +kernel
theorem dX6_quarrels_148 : decode cX6_quarrels 148 = .ok (.iload 6, 2) := by decide +kernel
theorem dX6_quarrels_150 : decode cX6_quarrels 150 = .ok (.iadd, 1) := by decide +kernel
theorem dX6_quarrels_151 : decode cX6_quarrels 151 = .ok (.iaload, 1) := by decide +kernel
theorem dX6_quarrels_152 : decode cX6_quarrels 152 = .ok (.aload_n 0, 1) := by decide +kernel
theorem dX6_quarrels_153 : decode cX6_quarrels 153 = .ok (.getfield 16, 3) := by decide +kernel
theorem dX6_quarrels_156 : decode cX6_quarrels 156 = .ok (.bipush 9, 2) := by decide +kernel
theorem dX6_quarrels_158 : decode cX6_quarrels 158 = .ok (.iload 4, 2) := by decide +kernel
theorem dX6_quarrels_160 : decode cX6_quarrels 160 = .ok (.imul, 1) := by decide +kernel
theorem dX6_quarrels_161 : decode cX6_quarrels 161 = .ok (.iload 6, 2) := by decide +kernel
theorem dX6_quarrels_163 : decode cX6_quarrels 163 = .ok (.iadd, 1) := by decide +kernel
theorem dX6_quarrels_164 : decode cX6_quarrels 164 = .ok (.iaload, 1) := by decide +kernel
theorem dX6_quarrels_165 : decode cX6_quarrels 165 = .ok (.isub, 1) := by decide +kernel
theorem dX6_quarrels_166 : decode cX6_quarrels 166 = .ok (.invokestatic 193, 3) := by decide +kernel
theorem dX6_quarrels_169 : decode cX6_quarrels 169 = .ok (.iconst 2, 1) := by decide +kernel
theorem dX6_quarrels_170 : decode cX6_quarrels 170 = .ok (.aload_n 0, 1) := by decide +kernel
theorem dX6_quarrels_171 : decode cX6_quarrels 171 = .ok (.getfield 256, 3) := by decide +kernel
theorem dX6_quarrels_174 : decode cX6_quarrels 174 = .ok (.imul, 1) := by decide +kernel
theorem dX6_quarrels_175 : decode cX6_quarrels 175 = .ok (.if_icmp .gt 41, 3) := by decide +kernel
theorem dX6_quarrels_178 : decode cX6_quarrels 178 = .ok (.aload_n 0, 1) := by decide +kernel
theorem dX6_quarrels_179 : decode cX6_quarrels 179 = .ok (.getfield 19, 3) := by decide +kernel
theorem dX6_quarrels_182 : decode cX6_quarrels 182 = .ok (.bipush 9, 2) := by decide +kernel
theorem dX6_quarrels_184 : decode cX6_quarrels 184 = .ok (.iload_n 3, 1) := by decide +kernel
theorem dX6_quarrels_185 : decode cX6_quarrels 185 = .ok (.imul, 1) := by decide +kernel
theorem dX6_quarrels_186 : decode cX6_quarrels 186 = .ok (.iload 6, 2) := by decide +kernel
theorem dX6_quarrels_188 : decode cX6_quarrels 188 = .ok (.iadd, 1) := by decide +kernel
theorem dX6_quarrels_189 : decode cX6_quarrels 189 = .ok (.iaload, 1) := by decide +kernel
theorem dX6_quarrels_190 : decode cX6_quarrels 190 = .ok (.aload_n 0, 1) := by decide +kernel
theorem dX6_quarrels_191 : decode cX6_quarrels 191 = .ok (.getfield 19, 3) := by decide +kernel
theorem dX6_quarrels_194 : decode cX6_quarrels 194 = .ok (.bipush 9, 2) := by decide +kernel
theorem dX6_quarrels_196 : decode cX6_quarrels 196 = .ok (.iload 4, 2) := by decide +kernel
theorem dX6_quarrels_198 : decode cX6_quarrels 198 = .ok (.imul, 1) := by decide +kernel
theorem dX6_quarrels_199 : decode cX6_quarrels 199 = .ok (.iload 6, 2) := by decide +kernel
theorem dX6_quarrels_201 : decode cX6_quarrels 201 = .ok (.iadd, 1) := by decide +kernel
theorem dX6_quarrels_202 : decode cX6_quarrels 202 = .ok (.iaload, 1) := by decide +kernel
theorem dX6_quarrels_203 : decode cX6_quarrels 203 = .ok (.isub, 1) := by decide +kernel
theorem dX6_quarrels_204 : decode cX6_quarrels 204 = .ok (.invokestatic 193, 3) := by decide +kernel
theorem dX6_quarrels_207 : decode cX6_quarrels 207 = .ok (.iconst 2, 1) := by decide +kernel
theorem dX6_quarrels_208 : decode cX6_quarrels 208 = .ok (.aload_n 0, 1) := by decide +kernel
theorem dX6_quarrels_209 : decode cX6_quarrels 209 = .ok (.getfield 256, 3) := by decide +kernel
theorem dX6_quarrels_212 : decode cX6_quarrels 212 = .ok (.imul, 1) := by decide +kernel
theorem dX6_quarrels_213 : decode cX6_quarrels 213 = .ok (.if_icmp .le 7, 3) := by decide +kernel
theorem dX6_quarrels_216 : decode cX6_quarrels 216 = .ok (.iconst 1, 1) := by decide +kernel
theorem dX6_quarrels_217 : decode cX6_quarrels 217 = .ok (.goto 4, 3) := by decide +kernel
theorem dX6_quarrels_220 : decode cX6_quarrels 220 = .ok (.iconst 0, 1) := by decide +kernel
theorem dX6_quarrels_221 : decode cX6_quarrels 221 = .ok (.istore 8, 2) := by decide +kernel
theorem dX6_quarrels_223 : decode cX6_quarrels 223 = .ok (.iload 5, 2) := by decide +kernel
theorem dX6_quarrels_225 : decode cX6_quarrels 225 = .ok (.iload 7, 2) := by decide +kernel
theorem dX6_quarrels_227 : decode cX6_quarrels 227 = .ok (.ifCond .eq 12, 3) := by decide +kernel
theorem dX6_quarrels_230 : decode cX6_quarrels 230 = .ok (.iload 8, 2) := by decide +kernel
theorem dX6_quarrels_232 : decode cX6_quarrels 232 = .ok (.ifCond .eq 7, 3) := by decide +kernel
theorem dX6_quarrels_235 : decode cX6_quarrels 235 = .ok (.iconst 1, 1) := by decide +kernel
theorem dX6_quarrels_236 : decode cX6_quarrels 236 = .ok (.goto 4, 3) := by decide +kernel
theorem dX6_quarrels_239 : decode cX6_quarrels 239 = .ok (.iconst 0, 1) := by decide +kernel
theorem dX6_quarrels_240 : decode cX6_quarrels 240 = .ok (.iadd, 1) := by decide +kernel
theorem dX6_quarrels_241 : decode cX6_quarrels 241 = .ok (.istore 5, 2) := by decide +kernel
theorem dX6_quarrels_243 : decode cX6_quarrels 243 = .ok (.iinc 6 1, 3) := by decide +kernel
theorem dX6_quarrels_246 : decode cX6_quarrels 246 = .ok (.goto (-181), 3) := by decide +kernel
theorem dX6_quarrels_249 : decode cX6_quarrels 249 = .ok (.iload 5, 2) := by decide +kernel
theorem dX6_quarrels_251 : decode cX6_quarrels 251 = .ok (.ireturn, 1) := by decide +kernel
theorem dX6_isOne_0 : decode cX6_isOne 0 = .ok (.aload_n 0, 1) := by decide +kernel
theorem dX6_isOne_1 : decode cX6_isOne 1 = .ok (.getfield 72, 3) := by decide +kernel
theorem dX6_isOne_4 : decode cX6_isOne 4 = .ok (.iload_n 1, 1) := by decide +kernel
theorem dX6_isOne_5 : decode cX6_isOne 5 = .ok (.baload, 1) := by decide +kernel
theorem dX6_isOne_6 : decode cX6_isOne 6 = .ok (.ifCond .ne 51, 3) := by decide +kernel
theorem dX6_isOne_9 : decode cX6_isOne 9 = .ok (.aload_n 0, 1) := by decide +kernel
theorem dX6_isOne_10 : decode cX6_isOne 10 = .ok (.getfield 75, 3) := by decide +kernel
theorem dX6_isOne_13 : decode cX6_isOne 13 = .ok (.iconst 4, 1) := by decide +kernel
theorem dX6_isOne_14 : decode cX6_isOne 14 = .ok (.iload_n 1, 1) := by decide +kernel
theorem dX6_isOne_15 : decode cX6_isOne 15 = .ok (.imul, 1) := by decide +kernel
theorem dX6_isOne_16 : decode cX6_isOne 16 = .ok (.iaload, 1) := by decide +kernel
theorem dX6_isOne_17 : decode cX6_isOne 17 = .ok (.aload_n 0, 1) := by decide +kernel
theorem dX6_isOne_18 : decode cX6_isOne 18 = .ok (.getfield 75, 3) := by decide +kernel
theorem dX6_isOne_21 : decode cX6_isOne 21 = .ok (.iconst 4, 1) := by decide +kernel
theorem dX6_isOne_22 : decode cX6_isOne 22 = .ok (.iload_n 1, 1) := by decide +kernel
theorem dX6_isOne_23 : decode cX6_isOne 23 = .ok (.imul, 1) := by decide +kernel
theorem dX6_isOne_24 : decode cX6_isOne 24 = .ok (.iconst 1, 1) := by decide +kernel
theorem dX6_isOne_25 : decode cX6_isOne 25 = .ok (.iadd, 1) := by decide +kernel
theorem dX6_isOne_26 : decode cX6_isOne 26 = .ok (.iaload, 1) := by decide +kernel
theorem dX6_isOne_27 : decode cX6_isOne 27 = .ok (.if_icmp .ne 30, 3) := by decide +kernel
theorem dX6_isOne_30 : decode cX6_isOne 30 = .ok (.aload_n 0, 1) := by decide +kernel
theorem dX6_isOne_31 : decode cX6_isOne 31 = .ok (.getfield 75, 3) := by decide +kernel
theorem dX6_isOne_34 : decode cX6_isOne 34 = .ok (.iconst 4, 1) := by decide +kernel
theorem dX6_isOne_35 : decode cX6_isOne 35 = .ok (.iload_n 1, 1) := by decide +kernel
theorem dX6_isOne_36 : decode cX6_isOne 36 = .ok (.imul, 1) := by decide +kernel
theorem dX6_isOne_37 : decode cX6_isOne 37 = .ok (.iconst 2, 1) := by decide +kernel
theorem dX6_isOne_38 : decode cX6_isOne 38 = .ok (.iadd, 1) := by decide +kernel
theorem dX6_isOne_39 : decode cX6_isOne 39 = .ok (.iaload, 1) := by decide +kernel
theorem dX6_isOne_40 : decode cX6_isOne 40 = .ok (.aload_n 0, 1) := by decide +kernel
theorem dX6_isOne_41 : decode cX6_isOne 41 = .ok (.getfield 75, 3) := by decide +kernel
theorem dX6_isOne_44 : decode cX6_isOne 44 = .ok (.iconst 4, 1) := by decide +kernel
theorem dX6_isOne_45 : decode cX6_isOne 45 = .ok (.iload_n 1, 1) := by decide +kernel
theorem dX6_isOne_46 : decode cX6_isOne 46 = .ok (.imul, 1) := by decide +kernel
theorem dX6_isOne_47 : decode cX6_isOne 47 = .ok (.iconst 3, 1) := by decide +kernel
theorem dX6_isOne_48 : decode cX6_isOne 48 = .ok (.iadd, 1) := by decide +kernel
theorem dX6_isOne_49 : decode cX6_isOne 49 = .ok (.iaload, 1) := by decide +kernel
theorem dX6_isOne_50 : decode cX6_isOne 50 = .ok (.if_icmp .ne 7, 3) := by decide +kernel
theorem dX6_isOne_53 : decode cX6_isOne 53 = .ok (.iconst 1, 1) := by decide +kernel
theorem dX6_isOne_54 : decode cX6_isOne 54 = .ok (.goto 4, 3) := by decide +kernel
theorem dX6_isOne_57 : decode cX6_isOne 57 = .ok (.iconst 0, 1) := by decide +kernel
theorem dX6_isOne_58 : decode cX6_isOne 58 = .ok (.ireturn, 1) := by decide +kernel
theorem dX6_lead_0 : decode cX6_lead 0 = .ok (.aload_n 0, 1) := by decide +kernel
theorem dX6_lead_1 : decode cX6_lead 1 = .ok (.getfield 75, 3) := by decide +kernel
theorem dX6_lead_4 : decode cX6_lead 4 = .ok (.iconst 4, 1) := by decide +kernel
theorem dX6_lead_5 : decode cX6_lead 5 = .ok (.aload_n 0, 1) := by decide +kernel
theorem dX6_lead_6 : decode cX6_lead 6 = .ok (.getfield 22, 3) := by decide +kernel
theorem dX6_lead_9 : decode cX6_lead 9 = .ok (.iconst 0, 1) := by decide +kernel
theorem dX6_lead_10 : decode cX6_lead 10 = .ok (.iaload, 1) := by decide +kernel
theorem dX6_lead_11 : decode cX6_lead 11 = .ok (.imul, 1) := by decide +kernel
theorem dX6_lead_12 : decode cX6_lead 12 = .ok (.iload_n 1, 1) := by decide +kernel
theorem dX6_lead_13 : decode cX6_lead 13 = .ok (.iadd, 1) := by decide +kernel
theorem dX6_lead_14 : decode cX6_lead 14 = .ok (.iaload, 1) := by decide +kernel
theorem dX6_lead_15 : decode cX6_lead 15 = .ok (.aload_n 0, 1) := by decide +kernel
theorem dX6_lead_16 : decode cX6_lead 16 = .ok (.getfield 75, 3) := by decide +kernel
theorem dX6_lead_19 : decode cX6_lead 19 = .ok (.iconst 4, 1) := by decide +kernel
theorem dX6_lead_20 : decode cX6_lead 20 = .ok (.aload_n 0, 1) := by decide +kernel
theorem dX6_lead_21 : decode cX6_lead 21 = .ok (.getfield 22, 3) := by decide +kernel
theorem dX6_lead_24 : decode cX6_lead 24 = .ok (.iconst 1, 1) := by decide +kernel
theorem dX6_lead_25 : decode cX6_lead 25 = .ok (.iaload, 1) := by decide +kernel
theorem dX6_lead_26 : decode cX6_lead 26 = .ok (.imul, 1) := by decide +kernel
theorem dX6_lead_27 : decode cX6_lead 27 = .ok (.iload_n 1, 1) := by decide +kernel
theorem dX6_lead_28 : decode cX6_lead 28 = .ok (.iadd, 1) := by decide +kernel
theorem dX6_lead_29 : decode cX6_lead 29 = .ok (.iaload, 1) := by decide +kernel
theorem dX6_lead_30 : decode cX6_lead 30 = .ok (.iadd, 1) := by decide +kernel
theorem dX6_lead_31 : decode cX6_lead 31 = .ok (.aload_n 0, 1) := by decide +kernel
theorem dX6_lead_32 : decode cX6_lead 32 = .ok (.getfield 75, 3) := by decide +kernel
theorem dX6_lead_35 : decode cX6_lead 35 = .ok (.iconst 4, 1) := by decide +kernel
theorem dX6_lead_36 : decode cX6_lead 36 = .ok (.aload_n 0, 1) := by decide +kernel
theorem dX6_lead_37 : decode cX6_lead 37 = .ok (.getfield 22, 3) := by decide +kernel
theorem dX6_lead_40 : decode cX6_lead 40 = .ok (.iconst 2, 1) := by decide +kernel
theorem dX6_lead_41 : decode cX6_lead 41 = .ok (.iaload, 1) := by decide +kernel
theorem dX6_lead_42 : decode cX6_lead 42 = .ok (.imul, 1) := by decide +kernel
theorem dX6_lead_43 : decode cX6_lead 43 = .ok (.iload_n 1, 1) := by decide +kernel
theorem dX6_lead_44 : decode cX6_lead 44 = .ok (.iadd, 1) := by decide +kernel
theorem dX6_lead_45 : decode cX6_lead 45 = .ok (.iaload, 1) := by decide +kernel
theorem dX6_lead_46 : decode cX6_lead 46 = .ok (.isub, 1) := by decide +kernel
theorem dX6_lead_47 : decode cX6_lead 47 = .ok (.ireturn, 1) := by decide +kernel
theorem dX6_isFelled_0 : decode cX6_isFelled 0 = .ok (.iconst 0, 1) := by decide +kernel
theorem dX6_isFelled_1 : decode cX6_isFelled 1 = .ok (.istore_n 1, 1) := by decide +kernel
theorem dX6_isFelled_2 : decode cX6_isFelled 2 = .ok (.iconst 0, 1) := by decide +kernel
theorem dX6_isFelled_3 : decode cX6_isFelled 3 = .ok (.istore_n 2, 1) := by decide +kernel
theorem dX6_isFelled_4 : decode cX6_isFelled 4 = .ok (.iload_n 2, 1) := by decide +kernel
theorem dX6_isFelled_5 : decode cX6_isFelled 5 = .ok (.aload_n 0, 1) := by decide +kernel
theorem dX6_isFelled_6 : decode cX6_isFelled 6 = .ok (.getfield 120, 3) := by decide +kernel
theorem dX6_isFelled_9 : decode cX6_isFelled 9 = .ok (.if_icmp .ge 103, 3) := by decide +kernel
theorem dX6_isFelled_12 : decode cX6_isFelled 12 = .ok (.aload_n 0, 1) := by decide +kernel
theorem dX6_isFelled_13 : decode cX6_isFelled 13 = .ok (.getfield 111, 3) := by decide +kernel
theorem dX6_isFelled_16 : decode cX6_isFelled 16 = .ok (.ifCond .le 96, 3) := by decide +kernel
theorem dX6_isFelled_19 : decode cX6_isFelled 19 = .ok (.aload_n 0, 1) := by decide +kernel
theorem dX6_isFelled_20 : decode cX6_isFelled 20 = .ok (.aload_n 0, 1) := by decide +kernel
theorem dX6_isFelled_21 : decode cX6_isFelled 21 = .ok (.getfield 22, 3) := by decide +kernel
theorem dX6_isFelled_24 : decode cX6_isFelled 24 = .ok (.iconst 0, 1) := by decide +kernel
theorem dX6_isFelled_25 : decode cX6_isFelled 25 = .ok (.iaload, 1) := by decide +kernel
theorem dX6_isFelled_26 : decode cX6_isFelled 26 = .ok (.invokevirtual 280, 3) := by decide +kernel
theorem dX6_isFelled_29 : decode cX6_isFelled 29 = .ok (.ifCond .eq 33, 3) := by decide +kernel
theorem dX6_isFelled_32 : decode cX6_isFelled 32 = .ok (.aload_n 0, 1) := by decide +kernel
theorem dX6_isFelled_33 : decode cX6_isFelled 33 = .ok (.aload_n 0, 1) := by decide +kernel
theorem dX6_isFelled_34 : decode cX6_isFelled 34 = .ok (.getfield 22, 3) := by decide +kernel
theorem dX6_isFelled_37 : decode cX6_isFelled 37 = .ok (.iconst 1, 1) := by decide +kernel
theorem dX6_isFelled_38 : decode cX6_isFelled 38 = .ok (.iaload, 1) := by decide +kernel
theorem dX6_isFelled_39 : decode cX6_isFelled 39 = .ok (.invokevirtual 280, 3) := by decide +kernel
theorem dX6_isFelled_42 : decode cX6_isFelled 42 = .ok (.ifCond .eq 20, 3) := by decide +kernel
theorem dX6_isFelled_45 : decode cX6_isFelled 45 = .ok (.aload_n 0, 1) := by decide +kernel
theorem dX6_isFelled_46 : decode cX6_isFelled 46 = .ok (.aload_n 0, 1) := by decide +kernel
theorem dX6_isFelled_47 : decode cX6_isFelled 47 = .ok (.getfield 22, 3) := by decide +kernel
theorem dX6_isFelled_50 : decode cX6_isFelled 50 = .ok (.iconst 2, 1) := by decide +kernel
theorem dX6_isFelled_51 : decode cX6_isFelled 51 = .ok (.iaload, 1) := by decide +kernel
theorem dX6_isFelled_52 : decode cX6_isFelled 52 = .ok (.invokevirtual 280, 3) := by decide +kernel
theorem dX6_isFelled_55 : decode cX6_isFelled 55 = .ok (.ifCond .eq 7, 3) := by decide +kernel
theorem dX6_isFelled_58 : decode cX6_isFelled 58 = .ok (.iconst 1, 1) := by decide +kernel
theorem dX6_isFelled_59 : decode cX6_isFelled 59 = .ok (.goto 4, 3) := by decide +kernel
theorem dX6_isFelled_62 : decode cX6_isFelled 62 = .ok (.iconst 0, 1) := by decide +kernel
theorem dX6_isFelled_63 : decode cX6_isFelled 63 = .ok (.istore_n 3, 1) := by decide +kernel
theorem dX6_isFelled_64 : decode cX6_isFelled 64 = .ok (.iload_n 1, 1) := by decide +kernel
theorem dX6_isFelled_65 : decode cX6_isFelled 65 = .ok (.ifCond .ne 35, 3) := by decide +kernel
theorem dX6_isFelled_68 : decode cX6_isFelled 68 = .ok (.iload_n 3, 1) := by decide +kernel
theorem dX6_isFelled_69 : decode cX6_isFelled 69 = .ok (.ifCond .eq 35, 3) := by decide +kernel
theorem dX6_isFelled_72 : decode cX6_isFelled 72 = .ok (.aload_n 0, 1) := by decide +kernel
theorem dX6_isFelled_73 : decode cX6_isFelled 73 = .ok (.iconst 0, 1) := by decide +kernel
theorem dX6_isFelled_74 : decode cX6_isFelled 74 = .ok (.invokevirtual 283, 3) := by decide +kernel
theorem dX6_isFelled_77 : decode cX6_isFelled 77 = .ok (.aload_n 0, 1) := by decide +kernel
theorem dX6_isFelled_78 : decode cX6_isFelled 78 = .ok (.getfield 38, 3) := by decide +kernel
theorem dX6_isFelled_81 : decode cX6_isFelled 81 = .ok (.iload_n 2, 1) := by decide +kernel
theorem dX6_isFelled_82 : decode cX6_isFelled 82 = .ok (.iaload, 1) := by decide +kernel
theorem dX6_isFelled_83 : decode cX6_isFelled 83 = .ok (.if_icmp .ne 21, 3) := by decide +kernel
theorem dX6_isFelled_86 : decode cX6_isFelled 86 = .ok (.aload_n 0, 1) := by decide +kernel
theorem dX6_isFelled_87 : decode cX6_isFelled 87 = .ok (.iconst 2, 1) := by decide +kernel
theorem dX6_isFelled_88 : decode cX6_isFelled 88 = .ok (.invokevirtual 283, 3) := by decide +kernel
theorem dX6_isFelled_91 : decode cX6_isFelled 91 = .ok (.aload_n 0, 1) := by decide +kernel
theorem dX6_isFelled_92 : decode cX6_isFelled 92 = .ok (.getfield 41, 3) := by decide +kernel
theorem dX6_isFelled_95 : decode cX6_isFelled 95 = .ok (.iload_n 2, 1) := by decide +kernel
theorem dX6_isFelled_96 : decode cX6_isFelled 96 = .ok (.iaload, 1) := by decide +kernel
theorem dX6_isFelled_97 : decode cX6_isFelled 97 = .ok (.if_icmp .ne 7, 3) := by decide +kernel
theorem dX6_isFelled_100 : decode cX6_isFelled 100 = .ok (.iconst 1, 1) := by decide +kernel
theorem dX6_isFelled_101 : decode cX6_isFelled 101 = .ok (.goto 4, 3) := by decide +kernel
theorem dX6_isFelled_104 : decode cX6_isFelled 104 = .ok (.iconst 0, 1) := by decide +kernel
theorem dX6_isFelled_105 : decode cX6_isFelled 105 = .ok (.istore_n 1, 1) := by decide +kernel
theorem dX6_isFelled_106 : decode cX6_isFelled 106 = .ok (.iinc 2 1, 3) := by decide +kernel
theorem dX6_isFelled_109 : decode cX6_isFelled 109 = .ok (.goto (-105), 3) := by decide +kernel
theorem dX6_isFelled_112 : decode cX6_isFelled 112 = .ok (.iload_n 1, 1) := by decide +kernel
theorem dX6_isFelled_113 : decode cX6_isFelled 113 = .ok (.ireturn, 1) := by decide +kernel
theorem dX6_mayLie_0 : decode cX6_mayLie 0 = .ok (.aload_n 0, 1) := by decide +kernel
theorem dX6_mayLie_1 : decode cX6_mayLie 1 = .ok (.iload_n 1, 1) := by decide +kernel
theorem dX6_mayLie_2 : decode cX6_mayLie 2 = .ok (.iload_n 2, 1) := by decide +kernel
theorem dX6_mayLie_3 : decode cX6_mayLie 3 = .ok (.invokevirtual 286, 3) := by decide +kernel
theorem dX6_mayLie_6 : decode cX6_mayLie 6 = .ok (.iconst 1, 1) := by decide +kernel
theorem dX6_mayLie_7 : decode cX6_mayLie 7 = .ok (.istore_n 3, 1) := by decide +kernel
theorem dX6_mayLie_8 : decode cX6_mayLie 8 = .ok (.iconst 0, 1) := by decide +kernel
theorem dX6_mayLie_9 : decode cX6_mayLie 9 = .ok (.istore 4, 2) := by decide +kernel
theorem dX6_mayLie_11 : decode cX6_mayLie 11 = .ok (.iload 4, 2) := by decide +kernel
theorem dX6_mayLie_13 : decode cX6_mayLie 13 = .ok (.aload_n 0, 1) := by decide +kernel
theorem dX6_mayLie_14 : decode cX6_mayLie 14 = .ok (.getfield 111, 3) := by decide +kernel
theorem dX6_mayLie_17 : decode cX6_mayLie 17 = .ok (.if_icmp .ge 28, 3) := by decide +kernel
theorem dX6_mayLie_20 : decode cX6_mayLie 20 = .ok (.iload_n 3, 1) := by decide +kernel
theorem dX6_mayLie_21 : decode cX6_mayLie 21 = .ok (.ifCond .eq 16, 3) := by decide +kernel
theorem dX6_mayLie_24 : decode cX6_mayLie 24 = .ok (.aload_n 0, 1) := by decide +kernel
theorem dX6_mayLie_25 : decode cX6_mayLie 25 = .ok (.iload 4, 2) := by decide +kernel
theorem dX6_mayLie_27 : decode cX6_mayLie 27 = .ok (.invokevirtual 290, 3) := by decide +kernel
theorem dX6_mayLie_30 : decode cX6_mayLie 30 = .ok (.ifCond .eq 7, 3) := by decide +kernel
theorem dX6_mayLie_33 : decode cX6_mayLie 33 = .ok (.iconst 1, 1) := by decide +kernel
theorem dX6_mayLie_34 : decode cX6_mayLie 34 = .ok (.goto 4, 3) := by decide +kernel
theorem dX6_mayLie_37 : decode cX6_mayLie 37 = .ok (.iconst 0, 1) := by decide +kernel
theorem dX6_mayLie_38 : decode cX6_mayLie 38 = .ok (.istore_n 3, 1) := by decide +kernel
theorem dX6_mayLie_39 : decode cX6_mayLie 39 = .ok (.iinc 4 1, 3) := by decide +kernel
theorem dX6_mayLie_42 : decode cX6_mayLie 42 = .ok (.goto (-31), 3) := by decide +kernel
theorem dX6_mayLie_45 : decode cX6_mayLie 45 = .ok (.iconst 0, 1) := by decide +kernel
theorem dX6_mayLie_46 : decode cX6_mayLie 46 = .ok (.istore 4, 2) := by decide +kernel
theorem dX6_mayLie_48 : decode cX6_mayLie 48 = .ok (.iconst 0, 1) := by decide +kernel
theorem dX6_mayLie_49 : decode cX6_mayLie 49 = .ok (.istore 5, 2) := by decide +kernel
theorem dX6_mayLie_51 : decode cX6_mayLie 51 = .ok (.iload 5, 2) := by decide +kernel
theorem dX6_mayLie_53 : decode cX6_mayLie 53 = .ok (.bipush 6, 2) := by decide +kernel
theorem dX6_mayLie_55 : decode cX6_mayLie 55 = .ok (.if_icmp .ge 73, 3) := by decide +kernel
theorem dX6_mayLie_58 : decode cX6_mayLie 58 = .ok (.iload_n 3, 1) := by decide +kernel
theorem dX6_mayLie_59 : decode cX6_mayLie 59 = .ok (.ifCond .eq 69, 3) := by decide +kernel
theorem dX6_mayLie_62 : decode cX6_mayLie 62 = .ok (.iload_n 2, 1) := by decide +kernel
theorem dX6_mayLie_63 : decode cX6_mayLie 63 = .ok (.iload 5, 2) := by decide +kernel
theorem dX6_mayLie_65 : decode cX6_mayLie 65 = .ok (.invokestatic 182, 3) := by decide +kernel
theorem dX6_mayLie_68 : decode cX6_mayLie 68 = .ok (.ifCond .eq 54, 3) := by decide +kernel
theorem dX6_mayLie_71 : decode cX6_mayLie 71 = .ok (.aload_n 0, 1) := by decide +kernel
theorem dX6_mayLie_72 : decode cX6_mayLie 72 = .ok (.iload_n 1, 1) := by decide +kernel
theorem dX6_mayLie_73 : decode cX6_mayLie 73 = .ok (.iload 5, 2) := by decide +kernel
theorem dX6_mayLie_75 : decode cX6_mayLie 75 = .ok (.invokevirtual 293, 3) := by decide +kernel
theorem dX6_mayLie_78 : decode cX6_mayLie 78 = .ok (.istore 6, 2) := by decide +kernel
theorem dX6_mayLie_80 : decode cX6_mayLie 80 = .ok (.iload 4, 2) := by decide +kernel
theorem dX6_mayLie_82 : decode cX6_mayLie 82 = .ok (.iload 6, 2) := by decide +kernel
theorem dX6_mayLie_84 : decode cX6_mayLie 84 = .ok (.ifCond .ne 7, 3) := by decide +kernel
theorem dX6_mayLie_87 : decode cX6_mayLie 87 = .ok (.iconst 1, 1) := by decide +kernel
theorem dX6_mayLie_88 : decode cX6_mayLie 88 = .ok (.goto 4, 3) := by decide +kernel
theorem dX6_mayLie_91 : decode cX6_mayLie 91 = .ok (.iconst 0, 1) := by decide +kernel
theorem dX6_mayLie_92 : decode cX6_mayLie 92 = .ok (.iadd, 1) := by decide +kernel
theorem dX6_mayLie_93 : decode cX6_mayLie 93 = .ok (.istore 4, 2) := by decide +kernel
theorem dX6_mayLie_95 : decode cX6_mayLie 95 = .ok (.iload 6, 2) := by decide +kernel
theorem dX6_mayLie_97 : decode cX6_mayLie 97 = .ok (.iconst 1, 1) := by decide +kernel
theorem dX6_mayLie_98 : decode cX6_mayLie 98 = .ok (.if_icmp .eq 18, 3) := by decide +kernel
theorem dX6_mayLie_101 : decode cX6_mayLie 101 = .ok (.iload 6, 2) := by decide +kernel
theorem dX6_mayLie_103 : decode cX6_mayLie 103 = .ok (.ifCond .ne 17, 3) := by decide +kernel
theorem dX6_mayLie_106 : decode cX6_mayLie 106 = .ok (.aload_n 0, 1) := by decide +kernel
theorem dX6_mayLie_107 : decode cX6_mayLie 107 = .ok (.iload_n 1, 1) := by decide +kernel
theorem dX6_mayLie_108 : decode cX6_mayLie 108 = .ok (.iload 5, 2) := by decide +kernel
theorem dX6_mayLie_110 : decode cX6_mayLie 110 = .ok (.invokevirtual 296, 3) := by decide +kernel
theorem dX6_mayLie_113 : decode cX6_mayLie 113 = .ok (.ifCond .eq 7, 3) := by decide +kernel
theorem dX6_mayLie_116 : decode cX6_mayLie 116 = .ok (.iconst 1, 1) := by decide +kernel
theorem dX6_mayLie_117 : decode cX6_mayLie 117 = .ok (.goto 4, 3) := by decide +kernel
theorem dX6_mayLie_120 : decode cX6_mayLie 120 = .ok (.iconst 0, 1) := by decide +kernel
theorem dX6_mayLie_121 : decode cX6_mayLie 121 = .ok (.istore_n 3, 1) := by decide +kernel
theorem dX6_mayLie_122 : decode cX6_mayLie 122 = .ok (.iinc 5 1, 3) := by decide +kernel
theorem dX6_mayLie_125 : decode cX6_mayLie 125 = .ok (.goto (-74), 3) := by decide +kernel
theorem dX6_mayLie_128 : decode cX6_mayLie 128 = .ok (.iload_n 3, 1) := by decide +kernel
theorem dX6_mayLie_129 : decode cX6_mayLie 129 = .ok (.ifCond .eq 25, 3) := by decide +kernel
theorem dX6_mayLie_132 : decode cX6_mayLie 132 = .ok (.aload_n 0, 1) := by decide +kernel
theorem dX6_mayLie_133 : decode cX6_mayLie 133 = .ok (.iload_n 1, 1) := by decide +kernel
theorem dX6_mayLie_134 : decode cX6_mayLie 134 = .ok (.iload_n 2, 1) := by decide +kernel
theorem dX6_mayLie_135 : decode cX6_mayLie 135 = .ok (.invokevirtual 299, 3) := by decide +kernel
theorem dX6_mayLie_138 : decode cX6_mayLie 138 = .ok (.iload 4, 2) := by decide +kernel
theorem dX6_mayLie_140 : decode cX6_mayLie 140 = .ok (.if_icmp .gt 14, 3) := by decide +kernel
theorem dX6_mayLie_143 : decode cX6_mayLie 143 = .ok (.aload_n 0, 1) := by decide +kernel
theorem dX6_mayLie_144 : decode cX6_mayLie 144 = .ok (.invokevirtual 302, 3) := by decide +kernel
theorem dX6_mayLie_147 : decode cX6_mayLie 147 = .ok (.ifCond .ne 7, 3) := by decide +kernel
theorem dX6_mayLie_150 : decode cX6_mayLie 150 = .ok (.iconst 1, 1) := by decide +kernel
theorem dX6_mayLie_151 : decode cX6_mayLie 151 = .ok (.goto 4, 3) := by decide +kernel
theorem dX6_mayLie_154 : decode cX6_mayLie 154 = .ok (.iconst 0, 1) := by decide +kernel
theorem dX6_mayLie_155 : decode cX6_mayLie 155 = .ok (.ireturn, 1) := by decide +kernel
theorem dX6_mayMany_0 : decode cX6_mayMany 0 = .ok (.iconst 0, 1) := by decide +kernel
theorem dX6_mayMany_1 : decode cX6_mayMany 1 = .ok (.istore_n 2, 1) := by decide +kernel
theorem dX6_mayMany_2 : decode cX6_mayMany 2 = .ok (.iconst 0, 1) := by decide +kernel
theorem dX6_mayMany_3 : decode cX6_mayMany 3 = .ok (.istore_n 3, 1) := by decide +kernel
theorem dX6_mayMany_4 : decode cX6_mayMany 4 = .ok (.iload_n 3, 1) := by decide +kernel
theorem dX6_mayMany_5 : decode cX6_mayMany 5 = .ok (.bipush 64, 2) := by decide +kernel
theorem dX6_mayMany_7 : decode cX6_mayMany 7 = .ok (.if_icmp .ge 37, 3) := by decide +kernel
theorem dX6_mayMany_10 : decode cX6_mayMany 10 = .ok (.iload_n 2, 1) := by decide +kernel
theorem dX6_mayMany_11 : decode cX6_mayMany 11 = .ok (.iload_n 3, 1) := by decide +kernel
theorem dX6_mayMany_12 : decode cX6_mayMany 12 = .ok (.invokestatic 306, 3) := by decide +kernel
theorem dX6_mayMany_15 : decode cX6_mayMany 15 = .ok (.aload_n 0, 1) := by decide +kernel
theorem dX6_mayMany_16 : decode cX6_mayMany 16 = .ok (.getfield 250, 3) := by decide +kernel
theorem dX6_mayMany_19 : decode cX6_mayMany 19 = .ok (.if_icmp .ne 16, 3) := by decide +kernel
theorem dX6_mayMany_22 : decode cX6_mayMany 22 = .ok (.aload_n 0, 1) := by decide +kernel
theorem dX6_mayMany_23 : decode cX6_mayMany 23 = .ok (.iload_n 1, 1) := by decide +kernel
theorem dX6_mayMany_24 : decode cX6_mayMany 24 = .ok (.iload_n 3, 1) := by decide +kernel
theorem dX6_mayMany_25 : decode cX6_mayMany 25 = .ok (.invokevirtual 309, 3) := by decide +kernel
theorem dX6_mayMany_28 : decode cX6_mayMany 28 = .ok (.ifCond .eq 7, 3) := by decide +kernel
theorem dX6_mayMany_31 : decode cX6_mayMany 31 = .ok (.iconst 1, 1) := by decide +kernel
theorem dX6_mayMany_32 : decode cX6_mayMany 32 = .ok (.goto 4, 3) := by decide +kernel
theorem dX6_mayMany_35 : decode cX6_mayMany 35 = .ok (.iconst 0, 1) := by decide +kernel
theorem dX6_mayMany_36 : decode cX6_mayMany 36 = .ok (.iadd, 1) := by decide +kernel
theorem dX6_mayMany_37 : decode cX6_mayMany 37 = .ok (.istore_n 2, 1) := by decide +kernel
theorem dX6_mayMany_38 : decode cX6_mayMany 38 = .ok (.iinc 3 1, 3) := by decide +kernel
theorem dX6_mayMany_41 : decode cX6_mayMany 41 = .ok (.goto (-37), 3) := by decide +kernel
theorem dX6_mayMany_44 : decode cX6_mayMany 44 = .ok (.iload_n 2, 1) := by decide +kernel
theorem dX6_mayMany_45 : decode cX6_mayMany 45 = .ok (.ireturn, 1) := by decide +kernel
theorem dX6_findArea_0 : decode cX6_findArea 0 = .ok (.iconst 0, 1) := by decide +kernel
theorem dX6_findArea_1 : decode cX6_findArea 1 = .ok (.istore_n 1, 1) := by decide +kernel
theorem dX6_findArea_2 : decode cX6_findArea 2 = .ok (.iload_n 1, 1) := by decide +kernel
theorem dX6_findArea_3 : decode cX6_findArea 3 = .ok (.iconst 4, 1) := by decide +kernel
theorem dX6_findArea_4 : decode cX6_findArea 4 = .ok (.if_icmp .ge 66, 3) := by decide +kernel
theorem dX6_findArea_7 : decode cX6_findArea 7 = .ok (.iload_n 1, 1) := by decide +kernel
theorem dX6_findArea_8 : decode cX6_findArea 8 = .ok (.iconst 2, 1) := by decide +kernel
theorem dX6_findArea_9 : decode cX6_findArea 9 = .ok (.irem, 1) := by decide +kernel
theorem dX6_findArea_10 : decode cX6_findArea 10 = .ok (.ifCond .ne 9, 3) := by decide +kernel
theorem dX6_findArea_13 : decode cX6_findArea 13 = .ok (.iload_n 1, 1) := by decide +kernel
theorem dX6_findArea_14 : decode cX6_findArea 14 = .ok (.iconst 1, 1) := by decide +kernel
theorem dX6_findArea_15 : decode cX6_findArea 15 = .ok (.iadd, 1) := by decide +kernel
theorem dX6_findArea_16 : decode cX6_findArea 16 = .ok (.goto 6, 3) := by decide +kernel
theorem dX6_findArea_19 : decode cX6_findArea 19 = .ok (.iload_n 1, 1) := by decide +kernel
theorem dX6_findArea_20 : decode cX6_findArea 20 = .ok (.iconst 1, 1) := by decide +kernel
theorem dX6_findArea_21 : decode cX6_findArea 21 = .ok (.isub, 1) := by decide +kernel
theorem dX6_findArea_22 : decode cX6_findArea 22 = .ok (.istore_n 2, 1) := by decide +kernel
theorem dX6_findArea_23 : decode cX6_findArea 23 = .ok (.aload_n 0, 1) := by decide +kernel
theorem dX6_findArea_24 : decode cX6_findArea 24 = .ok (.getfield 78, 3) := by decide +kernel
theorem dX6_findArea_27 : decode cX6_findArea 27 = .ok (.iload_n 1, 1) := by decide +kernel
theorem dX6_findArea_28 : decode cX6_findArea 28 = .ok (.aload_n 0, 1) := by decide +kernel
theorem dX6_findArea_29 : decode cX6_findArea 29 = .ok (.aload_n 0, 1) := by decide +kernel
theorem dX6_findArea_30 : decode cX6_findArea 30 = .ok (.getfield 22, 3) := by decide +kernel
theorem dX6_findArea_33 : decode cX6_findArea 33 = .ok (.iconst 0, 1) := by decide +kernel
theorem dX6_findArea_34 : decode cX6_findArea 34 = .ok (.iaload, 1) := by decide +kernel
theorem dX6_findArea_35 : decode cX6_findArea 35 = .ok (.iload_n 1, 1) := by decide +kernel
theorem dX6_findArea_36 : decode cX6_findArea 36 = .ok (.invokevirtual 312, 3) := by decide +kernel
theorem dX6_findArea_39 : decode cX6_findArea 39 = .ok (.aload_n 0, 1) := by decide +kernel
theorem dX6_findArea_40 : decode cX6_findArea 40 = .ok (.aload_n 0, 1) := by decide +kernel
theorem dX6_findArea_41 : decode cX6_findArea 41 = .ok (.getfield 22, 3) := by decide +kernel
theorem dX6_findArea_44 : decode cX6_findArea 44 = .ok (.iconst 1, 1) := by decide +kernel
theorem dX6_findArea_45 : decode cX6_findArea 45 = .ok (.iaload, 1) := by decide +kernel
theorem dX6_findArea_46 : decode cX6_findArea 46 = .ok (.iload_n 1, 1) := by decide +kernel
theorem dX6_findArea_47 : decode cX6_findArea 47 = .ok (.invokevirtual 312, 3) := by decide +kernel
theorem dX6_findArea_50 : decode cX6_findArea 50 = .ok (.iadd, 1) := by decide +kernel
theorem dX6_findArea_51 : decode cX6_findArea 51 = .ok (.aload_n 0, 1) := by decide +kernel
theorem dX6_findArea_52 : decode cX6_findArea 52 = .ok (.aload_n 0, 1) := by decide +kernel
theorem dX6_findArea_53 : decode cX6_findArea 53 = .ok (.getfield 22, 3) := by decide +kernel
theorem dX6_findArea_56 : decode cX6_findArea 56 = .ok (.iconst 2, 1) := by decide +kernel
theorem dX6_findArea_57 : decode cX6_findArea 57 = .ok (.iaload, 1) := by decide +kernel
theorem dX6_findArea_58 : decode cX6_findArea 58 = .ok (.iload_n 2, 1) := by decide +kernel
theorem dX6_findArea_59 : decode cX6_findArea 59 = .ok (.invokevirtual 312, 3) := by decide +kernel
theorem dX6_findArea_62 : decode cX6_findArea 62 = .ok (.isub, 1) := by decide +kernel
theorem dX6_findArea_63 : decode cX6_findArea 63 = .ok (.iastore, 1) := by decide +kernel
theorem dX6_findArea_64 : decode cX6_findArea 64 = .ok (.iinc 1 1, 3) := by decide +kernel
theorem dX6_findArea_67 : decode cX6_findArea 67 = .ok (.goto (-65), 3) := by decide +kernel
theorem dX6_findArea_70 : decode cX6_findArea 70 = .ok (.return_, 1) := by decide +kernel
theorem dX6_endOf_0 : decode cX6_endOf 0 = .ok (.aload_n 0, 1) := by decide +kernel
theorem dX6_endOf_1 : decode cX6_endOf 1 = .ok (.getfield 72, 3) := by decide +kernel
theorem dX6_endOf_4 : decode cX6_endOf 4 = .ok (.iload_n 1, 1) := by decide +kernel
theorem dX6_endOf_5 : decode cX6_endOf 5 = .ok (.baload, 1) := by decide +kernel
theorem dX6_endOf_6 : decode cX6_endOf 6 = .ok (.ifCond .eq 18, 3) := by decide +kernel
theorem dX6_endOf_9 : decode cX6_endOf 9 = .ok (.iload_n 2, 1) := by decide +kernel
theorem dX6_endOf_10 : decode cX6_endOf 10 = .ok (.iconst 2, 1) := by decide +kernel
theorem dX6_endOf_11 : decode cX6_endOf 11 = .ok (.irem, 1) := by decide +kernel
theorem dX6_endOf_12 : decode cX6_endOf 12 = .ok (.ifCond .ne 7, 3) := by decide +kernel
theorem dX6_endOf_15 : decode cX6_endOf 15 = .ok (.iconst 0, 1) := by decide +kernel
theorem dX6_endOf_16 : decode cX6_endOf 16 = .ok (.goto 18, 3) := by decide +kernel
theorem dX6_endOf_19 : decode cX6_endOf 19 = .ok (.bipush 99, 2) := by decide +kernel
theorem dX6_endOf_21 : decode cX6_endOf 21 = .ok (.goto 13, 3) := by decide +kernel
theorem dX6_endOf_24 : decode cX6_endOf 24 = .ok (.aload_n 0, 1) := by decide +kernel
theorem dX6_endOf_25 : decode cX6_endOf 25 = .ok (.getfield 75, 3) := by decide +kernel
theorem dX6_endOf_28 : decode cX6_endOf 28 = .ok (.iconst 4, 1) := by decide +kernel
theorem dX6_endOf_29 : decode cX6_endOf 29 = .ok (.iload_n 1, 1) := by decide +kernel
theorem dX6_endOf_30 : decode cX6_endOf 30 = .ok (.imul, 1) := by decide +kernel
theorem dX6_endOf_31 : decode cX6_endOf 31 = .ok (.iload_n 2, 1) := by decide +kernel
theorem dX6_endOf_32 : decode cX6_endOf 32 = .ok (.iadd, 1) := by decide +kernel
theorem dX6_endOf_33 : decode cX6_endOf 33 = .ok (.iaload, 1) := by decide +kernel
theorem dX6_endOf_34 : decode cX6_endOf 34 = .ok (.ireturn, 1) := by decide +kernel
theorem dX6_leads_0 : decode cX6_leads 0 = .ok (.iload_n 1, 1) := by decide +kernel
theorem dX6_leads_1 : decode cX6_leads 1 = .ok (.invokestatic 267, 3) := by decide +kernel
theorem dX6_leads_4 : decode cX6_leads 4 = .ok (.ifCond .ne 7, 3) := by decide +kernel
theorem dX6_leads_7 : decode cX6_leads 7 = .ok (.ldc_w 266, 3) := by decide +kernel
theorem dX6_leads_10 : decode cX6_leads 10 = .ok (.ireturn, 1) := by decide +kernel
theorem dX6_leads_11 : decode cX6_leads 11 = .ok (.iload_n 2, 1) := by decide +kernel
theorem dX6_leads_12 : decode cX6_leads 12 = .ok (.i2l, 1) := by decide +kernel
theorem dX6_leads_13 : decode cX6_leads 13 = .ok (.lconst 0, 1) := by decide +kernel
theorem dX6_leads_14 : decode cX6_leads 14 = .ok (.ldc2_w 315, 3) := by decide +kernel
theorem dX6_leads_17 : decode cX6_leads 17 = .ok (.invokestatic 114, 3) := by decide +kernel
theorem dX6_leads_20 : decode cX6_leads 20 = .ok (.ifCond .ne 6, 3) := by decide +kernel
theorem dX6_leads_23 : decode cX6_leads 23 = .ok (.ldc 125, 2) := by decide +kernel
theorem dX6_leads_25 : decode cX6_leads 25 = .ok (.ireturn, 1) := by decide +kernel
theorem dX6_leads_26 : decode cX6_leads 26 = .ok (.aload_n 0, 1) := by decide +kernel
theorem dX6_leads_27 : decode cX6_leads 27 = .ok (.getfield 111, 3) := by decide +kernel
theorem dX6_leads_30 : decode cX6_leads 30 = .ok (.ifCond .ne 7, 3) := by decide +kernel
theorem dX6_leads_33 : decode cX6_leads 33 = .ok (.ldc_w 317, 3) := by decide +kernel
theorem dX6_leads_36 : decode cX6_leads 36 = .ok (.ireturn, 1) := by decide +kernel
theorem dX6_leads_37 : decode cX6_leads 37 = .ok (.iconst 0, 1) := by decide +kernel
theorem dX6_leads_38 : decode cX6_leads 38 = .ok (.istore_n 3, 1) := by decide +kernel
theorem dX6_leads_39 : decode cX6_leads 39 = .ok (.iload_n 3, 1) := by decide +kernel
theorem dX6_leads_40 : decode cX6_leads 40 = .ok (.aload_n 0, 1) := by decide +kernel
theorem dX6_leads_41 : decode cX6_leads 41 = .ok (.getfield 111, 3) := by decide +kernel
theorem dX6_leads_44 : decode cX6_leads 44 = .ok (.if_icmp .ge 43, 3) := by decide +kernel
theorem dX6_leads_47 : decode cX6_leads 47 = .ok (.aload_n 0, 1) := by decide +kernel
theorem dX6_leads_48 : decode cX6_leads 48 = .ok (.getfield 72, 3) := by decide +kernel
theorem dX6_leads_51 : decode cX6_leads 51 = .ok (.iload_n 3, 1) := by decide +kernel
theorem dX6_leads_52 : decode cX6_leads 52 = .ok (.iconst 1, 1) := by decide +kernel
theorem dX6_leads_53 : decode cX6_leads 53 = .ok (.bastore, 1) := by decide +kernel
theorem dX6_leads_54 : decode cX6_leads 54 = .ok (.aload_n 0, 1) := by decide +kernel
theorem dX6_leads_55 : decode cX6_leads 55 = .ok (.iload_n 3, 1) := by decide +kernel
theorem dX6_leads_56 : decode cX6_leads 56 = .ok (.aload_n 0, 1) := by decide +kernel
theorem dX6_leads_57 : decode cX6_leads 57 = .ok (.getfield 16, 3) := by decide +kernel
theorem dX6_leads_60 : decode cX6_leads 60 = .ok (.bipush 9, 2) := by decide +kernel
theorem dX6_leads_62 : decode cX6_leads 62 = .ok (.iload_n 1, 1) := by decide +kernel
theorem dX6_leads_63 : decode cX6_leads 63 = .ok (.imul, 1) := by decide +kernel
theorem dX6_leads_64 : decode cX6_leads 64 = .ok (.iload_n 3, 1) := by decide +kernel
theorem dX6_leads_65 : decode cX6_leads 65 = .ok (.iadd, 1) := by decide +kernel
theorem dX6_leads_66 : decode cX6_leads 66 = .ok (.iaload, 1) := by decide +kernel
theorem dX6_leads_67 : decode cX6_leads 67 = .ok (.aload_n 0, 1) := by decide +kernel
theorem dX6_leads_68 : decode cX6_leads 68 = .ok (.getfield 19, 3) := by decide +kernel
theorem dX6_leads_71 : decode cX6_leads 71 = .ok (.bipush 9, 2) := by decide +kernel
theorem dX6_leads_73 : decode cX6_leads 73 = .ok (.iload_n 1, 1) := by decide +kernel
theorem dX6_leads_74 : decode cX6_leads 74 = .ok (.imul, 1) := by decide +kernel
theorem dX6_leads_75 : decode cX6_leads 75 = .ok (.iload_n 3, 1) := by decide +kernel
theorem dX6_leads_76 : decode cX6_leads 76 = .ok (.iadd, 1) := by decide +kernel
theorem dX6_leads_77 : decode cX6_leads 77 = .ok (.iaload, 1) := by decide +kernel
theorem dX6_leads_78 : decode cX6_leads 78 = .ok (.invokevirtual 270, 3) := by decide +kernel
theorem dX6_leads_81 : decode cX6_leads 81 = .ok (.iinc 3 1, 3) := by decide +kernel
theorem dX6_leads_84 : decode cX6_leads 84 = .ok (.goto (-45), 3) := by decide +kernel
theorem dX6_leads_87 : decode cX6_leads 87 = .ok (.aload_n 0, 1) := by decide +kernel
theorem dX6_leads_88 : decode cX6_leads 88 = .ok (.invokevirtual 318, 3) := by decide +kernel
theorem dX6_leads_91 : decode cX6_leads 91 = .ok (.aload_n 0, 1) := by decide +kernel
theorem dX6_leads_92 : decode cX6_leads 92 = .ok (.getfield 78, 3) := by decide +kernel
theorem dX6_leads_95 : decode cX6_leads 95 = .ok (.iload_n 2, 1) := by decide +kernel
theorem dX6_leads_96 : decode cX6_leads 96 = .ok (.iaload, 1) := by decide +kernel
theorem dX6_leads_97 : decode cX6_leads 97 = .ok (.ireturn, 1) := by decide +kernel
theorem dX6_knows_0 : decode cX6_knows 0 = .ok (.iload_n 1, 1) := by decide +kernel
theorem dX6_knows_1 : decode cX6_knows 1 = .ok (.invokestatic 267, 3) := by decide +kernel
theorem dX6_knows_4 : decode cX6_knows 4 = .ok (.ifCond .eq 24, 3) := by decide +kernel
theorem dX6_knows_7 : decode cX6_knows 7 = .ok (.iload_n 2, 1) := by decide +kernel
theorem dX6_knows_8 : decode cX6_knows 8 = .ok (.invokestatic 267, 3) := by decide +kernel
theorem dX6_knows_11 : decode cX6_knows 11 = .ok (.ifCond .eq 17, 3) := by decide +kernel
theorem dX6_knows_14 : decode cX6_knows 14 = .ok (.aload_n 0, 1) := by decide +kernel
theorem dX6_knows_15 : decode cX6_knows 15 = .ok (.getfield 32, 3) := by decide +kernel
theorem dX6_knows_18 : decode cX6_knows 18 = .ok (.bipush 6, 2) := by decide +kernel
theorem dX6_knows_20 : decode cX6_knows 20 = .ok (.iload_n 1, 1) := by decide +kernel
theorem dX6_knows_21 : decode cX6_knows 21 = .ok (.imul, 1) := by decide +kernel
theorem dX6_knows_22 : decode cX6_knows 22 = .ok (.iload_n 2, 1) := by decide +kernel
theorem dX6_knows_23 : decode cX6_knows 23 = .ok (.iadd, 1) := by decide +kernel
theorem dX6_knows_24 : decode cX6_knows 24 = .ok (.iaload, 1) := by decide +kernel
theorem dX6_knows_25 : decode cX6_knows 25 = .ok (.goto 6, 3) := by decide +kernel
theorem dX6_knows_28 : decode cX6_knows 28 = .ok (.ldc_w 266, 3) := by decide +kernel
theorem dX6_knows_31 : decode cX6_knows 31 = .ok (.ireturn, 1) := by decide +kernel
theorem dX6_areTwo_0 : decode cX6_areTwo 0 = .ok (.iload_n 0, 1) := by decide +kernel
theorem dX6_areTwo_1 : decode cX6_areTwo 1 = .ok (.invokestatic 267, 3) := by decide +kernel
theorem dX6_areTwo_4 : decode cX6_areTwo 4 = .ok (.ifCond .eq 19, 3) := by decide +kernel
theorem dX6_areTwo_7 : decode cX6_areTwo 7 = .ok (.iload_n 1, 1) := by decide +kernel
theorem dX6_areTwo_8 : decode cX6_areTwo 8 = .ok (.invokestatic 267, 3) := by decide +kernel
theorem dX6_areTwo_11 : decode cX6_areTwo 11 = .ok (.ifCond .eq 12, 3) := by decide +kernel
theorem dX6_areTwo_14 : decode cX6_areTwo 14 = .ok (.iload_n 0, 1) := by decide +kernel
theorem dX6_areTwo_15 : decode cX6_areTwo 15 = .ok (.iload_n 1, 1) := by decide +kernel
theorem dX6_areTwo_16 : decode cX6_areTwo 16 = .ok (.if_icmp .eq 7, 3) := by decide +kernel
theorem dX6_areTwo_19 : decode cX6_areTwo 19 = .ok (.iconst 1, 1) := by decide +kernel
theorem dX6_areTwo_20 : decode cX6_areTwo 20 = .ok (.goto 4, 3) := by decide +kernel
theorem dX6_areTwo_23 : decode cX6_areTwo 23 = .ok (.iconst 0, 1) := by decide +kernel
theorem dX6_areTwo_24 : decode cX6_areTwo 24 = .ok (.ireturn, 1) := by decide +kernel
theorem dX6_show_0 : decode cX6_show 0 = .ok (.iload_n 1, 1) := by decide +kernel
theorem dX6_show_1 : decode cX6_show 1 = .ok (.iload_n 2, 1) := by decide +kernel
theorem dX6_show_2 : decode cX6_show 2 = .ok (.invokestatic 321, 3) := by decide +kernel
theorem dX6_show_5 : decode cX6_show 5 = .ok (.ifCond .eq 11, 3) := by decide +kernel
theorem dX6_show_8 : decode cX6_show 8 = .ok (.aload_n 0, 1) := by decide +kernel
theorem dX6_show_9 : decode cX6_show 9 = .ok (.iload_n 3, 1) := by decide +kernel
theorem dX6_show_10 : decode cX6_show 10 = .ok (.invokevirtual 262, 3) := by decide +kernel
theorem dX6_show_13 : decode cX6_show 13 = .ok (.ifCond .ne 7, 3) := by decide +kernel
theorem dX6_show_16 : decode cX6_show 16 = .ok (.ldc_w 266, 3) := by decide +kernel
theorem dX6_show_19 : decode cX6_show 19 = .ok (.ireturn, 1) := by decide +kernel
theorem dX6_show_20 : decode cX6_show 20 = .ok (.aload_n 0, 1) := by decide +kernel
theorem dX6_show_21 : decode cX6_show 21 = .ok (.getfield 32, 3) := by decide +kernel
theorem dX6_show_24 : decode cX6_show 24 = .ok (.bipush 6, 2) := by decide +kernel
theorem dX6_show_26 : decode cX6_show 26 = .ok (.iload_n 2, 1) := by decide +kernel
theorem dX6_show_27 : decode cX6_show 27 = .ok (.imul, 1) := by decide +kernel
theorem dX6_show_28 : decode cX6_show 28 = .ok (.iload_n 1, 1) := by decide +kernel
theorem dX6_show_29 : decode cX6_show 29 = .ok (.iadd, 1) := by decide +kernel
theorem dX6_show_30 : decode cX6_show 30 = .ok (.iaload, 1) := by decide +kernel
theorem dX6_show_31 : decode cX6_show 31 = .ok (.iload_n 3, 1) := by decide +kernel
theorem dX6_show_32 : decode cX6_show 32 = .ok (.invokestatic 182, 3) := by decide +kernel
theorem dX6_show_35 : decode cX6_show 35 = .ok (.ifCond .eq 7, 3) := by decide +kernel
theorem dX6_show_38 : decode cX6_show 38 = .ok (.ldc_w 317, 3) := by decide +kernel
theorem dX6_show_41 : decode cX6_show 41 = .ok (.ireturn, 1) := by decide +kernel
theorem dX6_show_42 : decode cX6_show 42 = .ok (.aload_n 0, 1) := by decide +kernel
theorem dX6_show_43 : decode cX6_show 43 = .ok (.getfield 32, 3) := by decide +kernel
theorem dX6_show_46 : decode cX6_show 46 = .ok (.bipush 6, 2) := by decide +kernel
theorem dX6_show_48 : decode cX6_show 48 = .ok (.iload_n 2, 1) := by decide +kernel
theorem dX6_show_49 : decode cX6_show 49 = .ok (.imul, 1) := by decide +kernel
theorem dX6_show_50 : decode cX6_show 50 = .ok (.iload_n 1, 1) := by decide +kernel
theorem dX6_show_51 : decode cX6_show 51 = .ok (.iadd, 1) := by decide +kernel
theorem dX6_show_52 : decode cX6_show 52 = .ok (.dup2, 1) := by decide +kernel
theorem dX6_show_53 : decode cX6_show 53 = .ok (.iaload, 1) := by decide +kernel
theorem dX6_show_54 : decode cX6_show 54 = .ok (.iconst 1, 1) := by decide +kernel
theorem dX6_show_55 : decode cX6_show 55 = .ok (.iload_n 3, 1) := by decide +kernel
theorem dX6_show_56 : decode cX6_show 56 = .ok (.ishl, 1) := by decide +kernel
theorem dX6_show_57 : decode cX6_show 57 = .ok (.ior, 1) := by decide +kernel
theorem dX6_show_58 : decode cX6_show 58 = .ok (.iastore, 1) := by decide +kernel
theorem dX6_show_59 : decode cX6_show 59 = .ok (.aload_n 0, 1) := by decide +kernel
theorem dX6_show_60 : decode cX6_show 60 = .ok (.getfield 32, 3) := by decide +kernel
theorem dX6_show_63 : decode cX6_show 63 = .ok (.bipush 6, 2) := by decide +kernel
theorem dX6_show_65 : decode cX6_show 65 = .ok (.iload_n 2, 1) := by decide +kernel
theorem dX6_show_66 : decode cX6_show 66 = .ok (.imul, 1) := by decide +kernel
theorem dX6_show_67 : decode cX6_show 67 = .ok (.iload_n 1, 1) := by decide +kernel
theorem dX6_show_68 : decode cX6_show 68 = .ok (.iadd, 1) := by decide +kernel
theorem dX6_show_69 : decode cX6_show 69 = .ok (.iaload, 1) := by decide +kernel
theorem dX6_show_70 : decode cX6_show 70 = .ok (.invokestatic 306, 3) := by decide +kernel
theorem dX6_show_73 : decode cX6_show 73 = .ok (.ireturn, 1) := by decide +kernel
theorem dX6_trade_0 : decode cX6_trade 0 = .ok (.iload_n 1, 1) := by decide +kernel
theorem dX6_trade_1 : decode cX6_trade 1 = .ok (.iload_n 3, 1) := by decide +kernel
theorem dX6_trade_2 : decode cX6_trade 2 = .ok (.invokestatic 321, 3) := by decide +kernel
theorem dX6_trade_5 : decode cX6_trade 5 = .ok (.ifCond .eq 20, 3) := by decide +kernel
theorem dX6_trade_8 : decode cX6_trade 8 = .ok (.aload_n 0, 1) := by decide +kernel
theorem dX6_trade_9 : decode cX6_trade 9 = .ok (.iload_n 2, 1) := by decide +kernel
theorem dX6_trade_10 : decode cX6_trade 10 = .ok (.invokevirtual 262, 3) := by decide +kernel
theorem dX6_trade_13 : decode cX6_trade 13 = .ok (.ifCond .eq 12, 3) := by decide +kernel
theorem dX6_trade_16 : decode cX6_trade 16 = .ok (.aload_n 0, 1) := by decide +kernel
theorem dX6_trade_17 : decode cX6_trade 17 = .ok (.iload 4, 2) := by decide +kernel
theorem dX6_trade_19 : decode cX6_trade 19 = .ok (.invokevirtual 262, 3) := by decide +kernel
theorem dX6_trade_22 : decode cX6_trade 22 = .ok (.ifCond .ne 7, 3) := by decide +kernel
theorem dX6_trade_25 : decode cX6_trade 25 = .ok (.ldc_w 266, 3) := by decide +kernel
theorem dX6_trade_28 : decode cX6_trade 28 = .ok (.ireturn, 1) := by decide +kernel
theorem dX6_trade_29 : decode cX6_trade 29 = .ok (.aload_n 0, 1) := by decide +kernel
theorem dX6_trade_30 : decode cX6_trade 30 = .ok (.getfield 32, 3) := by decide +kernel
theorem dX6_trade_33 : decode cX6_trade 33 = .ok (.bipush 6, 2) := by decide +kernel
theorem dX6_trade_35 : decode cX6_trade 35 = .ok (.iload_n 3, 1) := by decide +kernel
theorem dX6_trade_36 : decode cX6_trade 36 = .ok (.imul, 1) := by decide +kernel
theorem dX6_trade_37 : decode cX6_trade 37 = .ok (.iload_n 1, 1) := by decide +kernel
theorem dX6_trade_38 : decode cX6_trade 38 = .ok (.iadd, 1) := by decide +kernel
theorem dX6_trade_39 : decode cX6_trade 39 = .ok (.iaload, 1) := by decide +kernel
theorem dX6_trade_40 : decode cX6_trade 40 = .ok (.iload_n 2, 1) := by decide +kernel
theorem dX6_trade_41 : decode cX6_trade 41 = .ok (.invokestatic 182, 3) := by decide +kernel
theorem dX6_trade_44 : decode cX6_trade 44 = .ok (.ifCond .ne 22, 3) := by decide +kernel
theorem dX6_trade_47 : decode cX6_trade 47 = .ok (.aload_n 0, 1) := by decide +kernel
theorem dX6_trade_48 : decode cX6_trade 48 = .ok (.getfield 32, 3) := by decide +kernel
theorem dX6_trade_51 : decode cX6_trade 51 = .ok (.bipush 6, 2) := by decide +kernel
theorem dX6_trade_53 : decode cX6_trade 53 = .ok (.iload_n 1, 1) := by decide +kernel
theorem dX6_trade_54 : decode cX6_trade 54 = .ok (.imul, 1) := by decide +kernel
theorem dX6_trade_55 : decode cX6_trade 55 = .ok (.iload_n 3, 1) := by decide +kernel
theorem dX6_trade_56 : decode cX6_trade 56 = .ok (.iadd, 1) := by decide +kernel
theorem dX6_trade_57 : decode cX6_trade 57 = .ok (.iaload, 1) := by decide +kernel
theorem dX6_trade_58 : decode cX6_trade 58 = .ok (.iload 4, 2) := by decide +kernel
theorem dX6_trade_60 : decode cX6_trade 60 = .ok (.invokestatic 182, 3) := by decide +kernel
theorem dX6_trade_63 : decode cX6_trade 63 = .ok (.ifCond .eq 7, 3) := by decide +kernel
theorem dX6_trade_66 : decode cX6_trade 66 = .ok (.ldc_w 317, 3) := by decide +kernel
theorem dX6_trade_69 : decode cX6_trade 69 = .ok (.ireturn, 1) := by decide +kernel
theorem dX6_trade_70 : decode cX6_trade 70 = .ok (.aload_n 0, 1) := by decide +kernel
theorem dX6_trade_71 : decode cX6_trade 71 = .ok (.getfield 32, 3) := by decide +kernel
theorem dX6_trade_74 : decode cX6_trade 74 = .ok (.bipush 6, 2) := by decide +kernel
theorem dX6_trade_76 : decode cX6_trade 76 = .ok (.iload_n 3, 1) := by decide +kernel
theorem dX6_trade_77 : decode cX6_trade 77 = .ok (.imul, 1) := by decide +kernel
theorem dX6_trade_78 : decode cX6_trade 78 = .ok (.iload_n 1, 1) := by decide +kernel
theorem dX6_trade_79 : decode cX6_trade 79 = .ok (.iadd, 1) := by decide +kernel
theorem dX6_trade_80 : decode cX6_trade 80 = .ok (.dup2, 1) := by decide +kernel
theorem dX6_trade_81 : decode cX6_trade 81 = .ok (.iaload, 1) := by decide +kernel
theorem dX6_trade_82 : decode cX6_trade 82 = .ok (.iconst 1, 1) := by decide +kernel
theorem dX6_trade_83 : decode cX6_trade 83 = .ok (.iload_n 2, 1) := by decide +kernel
theorem dX6_trade_84 : decode cX6_trade 84 = .ok (.ishl, 1) := by decide +kernel
theorem dX6_trade_85 : decode cX6_trade 85 = .ok (.ior, 1) := by decide +kernel
theorem dX6_trade_86 : decode cX6_trade 86 = .ok (.iastore, 1) := by decide +kernel
theorem dX6_trade_87 : decode cX6_trade 87 = .ok (.aload_n 0, 1) := by decide +kernel
theorem dX6_trade_88 : decode cX6_trade 88 = .ok (.getfield 32, 3) := by decide +kernel
theorem dX6_trade_91 : decode cX6_trade 91 = .ok (.bipush 6, 2) := by decide +kernel
theorem dX6_trade_93 : decode cX6_trade 93 = .ok (.iload_n 1, 1) := by decide +kernel
theorem dX6_trade_94 : decode cX6_trade 94 = .ok (.imul, 1) := by decide +kernel
theorem dX6_trade_95 : decode cX6_trade 95 = .ok (.iload_n 3, 1) := by decide +kernel
theorem dX6_trade_96 : decode cX6_trade 96 = .ok (.iadd, 1) := by decide +kernel
theorem dX6_trade_97 : decode cX6_trade 97 = .ok (.dup2, 1) := by decide +kernel
theorem dX6_trade_98 : decode cX6_trade 98 = .ok (.iaload, 1) := by decide +kernel
theorem dX6_trade_99 : decode cX6_trade 99 = .ok (.iconst 1, 1) := by decide +kernel
theorem dX6_trade_100 : decode cX6_trade 100 = .ok (.iload 4, 2) := by decide +kernel
theorem dX6_trade_102 : decode cX6_trade 102 = .ok (.ishl, 1) := by decide +kernel
theorem dX6_trade_103 : decode cX6_trade 103 = .ok (.ior, 1) := by decide +kernel
theorem dX6_trade_104 : decode cX6_trade 104 = .ok (.iastore, 1) := by decide +kernel
theorem dX6_trade_105 : decode cX6_trade 105 = .ok (.iconst 1, 1) := by decide +kernel
theorem dX6_trade_106 : decode cX6_trade 106 = .ok (.ireturn, 1) := by decide +kernel
theorem dX6_digNow_0 : decode cX6_digNow 0 = .ok (.aload_n 0, 1) := by decide +kernel
theorem dX6_digNow_1 : decode cX6_digNow 1 = .ok (.getfield 7, 3) := by decide +kernel
theorem dX6_digNow_4 : decode cX6_digNow 4 = .ok (.aload_n 0, 1) := by decide +kernel
theorem dX6_digNow_5 : decode cX6_digNow 5 = .ok (.getfield 22, 3) := by decide +kernel
theorem dX6_digNow_8 : decode cX6_digNow 8 = .ok (.iconst 0, 1) := by decide +kernel
theorem dX6_digNow_9 : decode cX6_digNow 9 = .ok (.iaload, 1) := by decide +kernel
theorem dX6_digNow_10 : decode cX6_digNow 10 = .ok (.iaload, 1) := by decide +kernel
theorem dX6_digNow_11 : decode cX6_digNow 11 = .ok (.aload_n 0, 1) := by decide +kernel
theorem dX6_digNow_12 : decode cX6_digNow 12 = .ok (.getfield 7, 3) := by decide +kernel
theorem dX6_digNow_15 : decode cX6_digNow 15 = .ok (.aload_n 0, 1) := by decide +kernel
theorem dX6_digNow_16 : decode cX6_digNow 16 = .ok (.getfield 22, 3) := by decide +kernel
theorem dX6_digNow_19 : decode cX6_digNow 19 = .ok (.iconst 1, 1) := by decide +kernel
theorem dX6_digNow_20 : decode cX6_digNow 20 = .ok (.iaload, 1) := by decide +kernel
theorem dX6_digNow_21 : decode cX6_digNow 21 = .ok (.iaload, 1) := by decide +kernel
theorem dX6_digNow_22 : decode cX6_digNow 22 = .ok (.iadd, 1) := by decide +kernel
theorem dX6_digNow_23 : decode cX6_digNow 23 = .ok (.aload_n 0, 1) := by decide +kernel
theorem dX6_digNow_24 : decode cX6_digNow 24 = .ok (.getfield 7, 3) := by decide +kernel
theorem dX6_digNow_27 : decode cX6_digNow 27 = .ok (.aload_n 0, 1) := by decide +kernel
theorem dX6_digNow_28 : decode cX6_digNow 28 = .ok (.getfield 22, 3) := by decide +kernel
theorem dX6_digNow_31 : decode cX6_digNow 31 = .ok (.iconst 2, 1) := by decide +kernel
theorem dX6_digNow_32 : decode cX6_digNow 32 = .ok (.iaload, 1) := by decide +kernel
theorem dX6_digNow_33 : decode cX6_digNow 33 = .ok (.iaload, 1) := by decide +kernel
theorem dX6_digNow_34 : decode cX6_digNow 34 = .ok (.isub, 1) := by decide +kernel
theorem dX6_digNow_35 : decode cX6_digNow 35 = .ok (.istore 4, 2) := by decide +kernel
theorem dX6_digNow_37 : decode cX6_digNow 37 = .ok (.aload_n 0, 1) := by decide +kernel
theorem dX6_digNow_38 : decode cX6_digNow 38 = .ok (.getfield 13, 3) := by decide +kernel
theorem dX6_digNow_41 : decode cX6_digNow 41 = .ok (.aload_n 0, 1) := by decide +kernel
theorem dX6_digNow_42 : decode cX6_digNow 42 = .ok (.getfield 22, 3) := by decide +kernel
theorem dX6_digNow_45 : decode cX6_digNow 45 = .ok (.iconst 0, 1) := by decide +kernel
theorem dX6_digNow_46 : decode cX6_digNow 46 = .ok (.iaload, 1) := by decide +kernel
theorem dX6_digNow_47 : decode cX6_digNow 47 = .ok (.iaload, 1) := by decide +kernel
theorem dX6_digNow_48 : decode cX6_digNow 48 = .ok (.aload_n 0, 1) := by decide +kernel
theorem dX6_digNow_49 : decode cX6_digNow 49 = .ok (.getfield 13, 3) := by decide +kernel
theorem dX6_digNow_52 : decode cX6_digNow 52 = .ok (.aload_n 0, 1) := by decide +kernel
theorem dX6_digNow_53 : decode cX6_digNow 53 = .ok (.getfield 22, 3) := by decide +kernel
theorem dX6_digNow_56 : decode cX6_digNow 56 = .ok (.iconst 1, 1) := by decide +kernel
theorem dX6_digNow_57 : decode cX6_digNow 57 = .ok (.iaload, 1) := by decide +kernel
theorem dX6_digNow_58 : decode cX6_digNow 58 = .ok (.iaload, 1) := by decide +kernel
theorem dX6_digNow_59 : decode cX6_digNow 59 = .ok (.iadd, 1) := by decide +kernel
theorem dX6_digNow_60 : decode cX6_digNow 60 = .ok (.aload_n 0, 1) := by decide +kernel
theorem dX6_digNow_61 : decode cX6_digNow 61 = .ok (.getfield 13, 3) := by decide +kernel
theorem dX6_digNow_64 : decode cX6_digNow 64 = .ok (.aload_n 0, 1) := by decide +kernel
theorem dX6_digNow_65 : decode cX6_digNow 65 = .ok (.getfield 22, 3) := by decide +kernel
theorem dX6_digNow_68 : decode cX6_digNow 68 = .ok (.iconst 2, 1) := by decide +kernel
theorem dX6_digNow_69 : decode cX6_digNow 69 = .ok (.iaload, 1) := by decide +kernel
theorem dX6_digNow_70 : decode cX6_digNow 70 = .ok (.iaload, 1) := by decide +kernel
theorem dX6_digNow_71 : decode cX6_digNow 71 = .ok (.isub, 1) := by decide +kernel
theorem dX6_digNow_72 : decode cX6_digNow 72 = .ok (.istore 5, 2) := by decide +kernel
theorem dX6_digNow_74 : decode cX6_digNow 74 = .ok (.aload_n 0, 1) := by decide +kernel
theorem dX6_digNow_75 : decode cX6_digNow 75 = .ok (.getfield 35, 3) := by decide +kernel
theorem dX6_digNow_78 : decode cX6_digNow 78 = .ok (.iload_n 1, 1) := by decide +kernel
theorem dX6_digNow_79 : decode cX6_digNow 79 = .ok (.dup2, 1) := by decide +kernel
theorem dX6_digNow_80 : decode cX6_digNow 80 = .ok (.iaload, 1) := by decide +kernel
theorem dX6_digNow_81 : decode cX6_digNow 81 = .ok (.aload_n 0, 1) := by decide +kernel
theorem dX6_digNow_82 : decode cX6_digNow 82 = .ok (.getfield 25, 3) := by decide +kernel
theorem dX6_digNow_85 : decode cX6_digNow 85 = .ok (.isub, 1) := by decide +kernel
theorem dX6_digNow_86 : decode cX6_digNow 86 = .ok (.iastore, 1) := by decide +kernel
theorem dX6_digNow_87 : decode cX6_digNow 87 = .ok (.iload_n 2, 1) := by decide +kernel
theorem dX6_digNow_88 : decode cX6_digNow 88 = .ok (.iload 4, 2) := by decide +kernel
theorem dX6_digNow_90 : decode cX6_digNow 90 = .ok (.if_icmp .ne 29, 3) := by decide +kernel
theorem dX6_digNow_93 : decode cX6_digNow 93 = .ok (.iload_n 3, 1) := by decide +kernel
theorem dX6_digNow_94 : decode cX6_digNow 94 = .ok (.iload 5, 2) := by decide +kernel
theorem dX6_digNow_96 : decode cX6_digNow 96 = .ok (.if_icmp .ne 23, 3) := by decide +kernel
theorem dX6_digNow_99 : decode cX6_digNow 99 = .ok (.aload_n 0, 1) := by decide +kernel
theorem dX6_digNow_100 : decode cX6_digNow 100 = .ok (.getfield 35, 3) := by decide +kernel
theorem dX6_digNow_103 : decode cX6_digNow 103 = .ok (.iload_n 1, 1) := by decide +kernel
theorem dX6_digNow_104 : decode cX6_digNow 104 = .ok (.dup2, 1) := by decide +kernel
theorem dX6_digNow_105 : decode cX6_digNow 105 = .ok (.iaload, 1) := by decide +kernel
theorem dX6_digNow_106 : decode cX6_digNow 106 = .ok (.aload_n 0, 1) := by decide +kernel
theorem dX6_digNow_107 : decode cX6_digNow 107 = .ok (.getfield 29, 3) := by decide +kernel
theorem dX6_digNow_110 : decode cX6_digNow 110 = .ok (.iadd, 1) := by decide +kernel
theorem dX6_digNow_111 : decode cX6_digNow 111 = .ok (.iastore, 1) := by decide +kernel
theorem dX6_digNow_112 : decode cX6_digNow 112 = .ok (.aload_n 0, 1) := by decide +kernel
theorem dX6_digNow_113 : decode cX6_digNow 113 = .ok (.iload_n 1, 1) := by decide +kernel
theorem dX6_digNow_114 : decode cX6_digNow 114 = .ok (.putfield 44, 3) := by decide +kernel
theorem dX6_digNow_117 : decode cX6_digNow 117 = .ok (.iconst 1, 1) := by decide +kernel
theorem dX6_digNow_118 : decode cX6_digNow 118 = .ok (.ireturn, 1) := by decide +kernel
theorem dX6_digNow_119 : decode cX6_digNow 119 = .ok (.aload_n 0, 1) := by decide +kernel
theorem dX6_digNow_120 : decode cX6_digNow 120 = .ok (.getfield 120, 3) := by decide +kernel
theorem dX6_digNow_123 : decode cX6_digNow 123 = .ok (.bipush 20, 2) := by decide +kernel
theorem dX6_digNow_125 : decode cX6_digNow 125 = .ok (.if_icmp .ge 33, 3) := by decide +kernel
theorem dX6_digNow_128 : decode cX6_digNow 128 = .ok (.aload_n 0, 1) := by decide +kernel
theorem dX6_digNow_129 : decode cX6_digNow 129 = .ok (.getfield 38, 3) := by decide +kernel
theorem dX6_digNow_132 : decode cX6_digNow 132 = .ok (.aload_n 0, 1) := by decide +kernel
theorem dX6_digNow_133 : decode cX6_digNow 133 = .ok (.getfield 120, 3) := by decide +kernel
theorem dX6_digNow_136 : decode cX6_digNow 136 = .ok (.iload_n 2, 1) := by decide +kernel
theorem dX6_digNow_137 : decode cX6_digNow 137 = .ok (.iastore, 1) := by decide +kernel
theorem dX6_digNow_138 : decode cX6_digNow 138 = .ok (.aload_n 0, 1) := by decide +kernel
theorem dX6_digNow_139 : decode cX6_digNow 139 = .ok (.getfield 41, 3) := by decide +kernel
theorem dX6_digNow_142 : decode cX6_digNow 142 = .ok (.aload_n 0, 1) := by decide +kernel
theorem dX6_digNow_143 : decode cX6_digNow 143 = .ok (.getfield 120, 3) := by decide +kernel
theorem dX6_digNow_146 : decode cX6_digNow 146 = .ok (.iload_n 3, 1) := by decide +kernel
theorem dX6_digNow_147 : decode cX6_digNow 147 = .ok (.iastore, 1) := by decide +kernel
theorem dX6_digNow_148 : decode cX6_digNow 148 = .ok (.aload_n 0, 1) := by decide +kernel
theorem dX6_digNow_149 : decode cX6_digNow 149 = .ok (.dup, 1) := by decide +kernel
theorem dX6_digNow_150 : decode cX6_digNow 150 = .ok (.getfield 120, 3) := by decide +kernel
theorem dX6_digNow_153 : decode cX6_digNow 153 = .ok (.iconst 1, 1) := by decide +kernel
theorem dX6_digNow_154 : decode cX6_digNow 154 = .ok (.iadd, 1) := by decide +kernel
theorem dX6_digNow_155 : decode cX6_digNow 155 = .ok (.putfield 120, 3) := by decide +kernel
theorem dX6_digNow_158 : decode cX6_digNow 158 = .ok (.iconst 0, 1) := by decide +kernel
theorem dX6_digNow_159 : decode cX6_digNow 159 = .ok (.ireturn, 1) := by decide +kernel
theorem dX6_dig_0 : decode cX6_dig 0 = .ok (.iload_n 1, 1) := by decide +kernel
theorem dX6_dig_1 : decode cX6_dig 1 = .ok (.invokestatic 267, 3) := by decide +kernel
theorem dX6_dig_4 : decode cX6_dig 4 = .ok (.ifCond .ne 7, 3) := by decide +kernel
theorem dX6_dig_7 : decode cX6_dig 7 = .ok (.ldc_w 266, 3) := by decide +kernel
theorem dX6_dig_10 : decode cX6_dig 10 = .ok (.ireturn, 1) := by decide +kernel
theorem dX6_dig_11 : decode cX6_dig 11 = .ok (.iload_n 2, 1) := by decide +kernel
theorem dX6_dig_12 : decode cX6_dig 12 = .ok (.i2l, 1) := by decide +kernel
theorem dX6_dig_13 : decode cX6_dig 13 = .ok (.lconst 0, 1) := by decide +kernel
theorem dX6_dig_14 : decode cX6_dig 14 = .ok (.ldc2_w 324, 3) := by decide +kernel
theorem dX6_dig_17 : decode cX6_dig 17 = .ok (.invokestatic 114, 3) := by decide +kernel
theorem dX6_dig_20 : decode cX6_dig 20 = .ok (.ifCond .eq 15, 3) := by decide +kernel
theorem dX6_dig_23 : decode cX6_dig 23 = .ok (.iload_n 3, 1) := by decide +kernel
theorem dX6_dig_24 : decode cX6_dig 24 = .ok (.i2l, 1) := by decide +kernel
theorem dX6_dig_25 : decode cX6_dig 25 = .ok (.lconst 0, 1) := by decide +kernel
theorem dX6_dig_26 : decode cX6_dig 26 = .ok (.ldc2_w 324, 3) := by decide +kernel
theorem dX6_dig_29 : decode cX6_dig 29 = .ok (.invokestatic 114, 3) := by decide +kernel
theorem dX6_dig_32 : decode cX6_dig 32 = .ok (.ifCond .ne 6, 3) := by decide +kernel
theorem dX6_dig_35 : decode cX6_dig 35 = .ok (.ldc 125, 2) := by decide +kernel
theorem dX6_dig_37 : decode cX6_dig 37 = .ok (.ireturn, 1) := by decide +kernel
theorem dX6_dig_38 : decode cX6_dig 38 = .ok (.aload_n 0, 1) := by decide +kernel
theorem dX6_dig_39 : decode cX6_dig 39 = .ok (.getfield 44, 3) := by decide +kernel
theorem dX6_dig_42 : decode cX6_dig 42 = .ok (.ifCond .ge 10, 3) := by decide +kernel
theorem dX6_dig_45 : decode cX6_dig 45 = .ok (.aload_n 0, 1) := by decide +kernel
theorem dX6_dig_46 : decode cX6_dig 46 = .ok (.getfield 111, 3) := by decide +kernel
theorem dX6_dig_49 : decode cX6_dig 49 = .ok (.ifCond .ne 7, 3) := by decide +kernel
theorem dX6_dig_52 : decode cX6_dig 52 = .ok (.ldc_w 317, 3) := by decide +kernel
theorem dX6_dig_55 : decode cX6_dig 55 = .ok (.ireturn, 1) := by decide +kernel
theorem dX6_dig_56 : decode cX6_dig 56 = .ok (.aload_n 0, 1) := by decide +kernel
theorem dX6_dig_57 : decode cX6_dig 57 = .ok (.getfield 120, 3) := by decide +kernel
theorem dX6_dig_60 : decode cX6_dig 60 = .ok (.bipush 20, 2) := by decide +kernel
theorem dX6_dig_62 : decode cX6_dig 62 = .ok (.if_icmp .ne 8, 3) := by decide +kernel
theorem dX6_dig_65 : decode cX6_dig 65 = .ok (.ldc 129, 2) := by decide +kernel
theorem dX6_dig_67 : decode cX6_dig 67 = .ok (.goto 10, 3) := by decide +kernel
theorem dX6_dig_70 : decode cX6_dig 70 = .ok (.aload_n 0, 1) := by decide +kernel
theorem dX6_dig_71 : decode cX6_dig 71 = .ok (.iload_n 1, 1) := by decide +kernel
theorem dX6_dig_72 : decode cX6_dig 72 = .ok (.iload_n 2, 1) := by decide +kernel
theorem dX6_dig_73 : decode cX6_dig 73 = .ok (.iload_n 3, 1) := by decide +kernel
theorem dX6_dig_74 : decode cX6_dig 74 = .ok (.invokevirtual 326, 3) := by decide +kernel
theorem dX6_dig_77 : decode cX6_dig 77 = .ok (.ireturn, 1) := by decide +kernel
theorem dX6_purse_0 : decode cX6_purse 0 = .ok (.iload_n 1, 1) := by decide +kernel
theorem dX6_purse_1 : decode cX6_purse 1 = .ok (.invokestatic 267, 3) := by decide +kernel
theorem dX6_purse_4 : decode cX6_purse 4 = .ok (.ifCond .eq 12, 3) := by decide +kernel
theorem dX6_purse_7 : decode cX6_purse 7 = .ok (.aload_n 0, 1) := by decide +kernel
theorem dX6_purse_8 : decode cX6_purse 8 = .ok (.getfield 35, 3) := by decide +kernel
theorem dX6_purse_11 : decode cX6_purse 11 = .ok (.iload_n 1, 1) := by decide +kernel
theorem dX6_purse_12 : decode cX6_purse 12 = .ok (.iaload, 1) := by decide +kernel
theorem dX6_purse_13 : decode cX6_purse 13 = .ok (.goto 6, 3) := by decide +kernel
theorem dX6_purse_16 : decode cX6_purse 16 = .ok (.ldc_w 266, 3) := by decide +kernel
theorem dX6_purse_19 : decode cX6_purse 19 = .ok (.ireturn, 1) := by decide +kernel
theorem dX6_may_0 : decode cX6_may 0 = .ok (.iload_n 1, 1) := by decide +kernel
theorem dX6_may_1 : decode cX6_may 1 = .ok (.invokestatic 267, 3) := by decide +kernel
theorem dX6_may_4 : decode cX6_may 4 = .ok (.ifCond .ne 7, 3) := by decide +kernel
theorem dX6_may_7 : decode cX6_may 7 = .ok (.ldc_w 266, 3) := by decide +kernel
theorem dX6_may_10 : decode cX6_may 10 = .ok (.ireturn, 1) := by decide +kernel
theorem dX6_may_11 : decode cX6_may 11 = .ok (.iload_n 2, 1) := by decide +kernel
theorem dX6_may_12 : decode cX6_may 12 = .ok (.iconst (-1), 1) := by decide +kernel
theorem dX6_may_13 : decode cX6_may 13 = .ok (.if_icmp .ne 9, 3) := by decide +kernel
theorem dX6_may_16 : decode cX6_may 16 = .ok (.aload_n 0, 1) := by decide +kernel
theorem dX6_may_17 : decode cX6_may 17 = .ok (.iload_n 1, 1) := by decide +kernel
theorem dX6_may_18 : decode cX6_may 18 = .ok (.invokevirtual 330, 3) := by decide +kernel
theorem dX6_may_21 : decode cX6_may 21 = .ok (.ireturn, 1) := by decide +kernel
theorem dX6_may_22 : decode cX6_may 22 = .ok (.iconst 0, 1) := by decide +kernel
theorem dX6_may_23 : decode cX6_may 23 = .ok (.istore_n 3, 1) := by decide +kernel
theorem dX6_may_24 : decode cX6_may 24 = .ok (.iconst 0, 1) := by decide +kernel
theorem dX6_may_25 : decode cX6_may 25 = .ok (.istore 4, 2) := by decide +kernel
theorem dX6_may_27 : decode cX6_may 27 = .ok (.iload 4, 2) := by decide +kernel
theorem dX6_may_29 : decode cX6_may 29 = .ok (.bipush 64, 2) := by decide +kernel
theorem dX6_may_31 : decode cX6_may 31 = .ok (.if_icmp .ge 42, 3) := by decide +kernel
theorem dX6_may_34 : decode cX6_may 34 = .ok (.iload 4, 2) := by decide +kernel
theorem dX6_may_36 : decode cX6_may 36 = .ok (.invokestatic 306, 3) := by decide +kernel
theorem dX6_may_39 : decode cX6_may 39 = .ok (.aload_n 0, 1) := by decide +kernel
theorem dX6_may_40 : decode cX6_may 40 = .ok (.getfield 250, 3) := by decide +kernel
theorem dX6_may_43 : decode cX6_may 43 = .ok (.if_icmp .ne 24, 3) := by decide +kernel
theorem dX6_may_46 : decode cX6_may 46 = .ok (.aload_n 0, 1) := by decide +kernel
theorem dX6_may_47 : decode cX6_may 47 = .ok (.iload_n 1, 1) := by decide +kernel
theorem dX6_may_48 : decode cX6_may 48 = .ok (.iload 4, 2) := by decide +kernel
theorem dX6_may_50 : decode cX6_may 50 = .ok (.invokevirtual 309, 3) := by decide +kernel
theorem dX6_may_53 : decode cX6_may 53 = .ok (.ifCond .eq 14, 3) := by decide +kernel
theorem dX6_may_56 : decode cX6_may 56 = .ok (.iload_n 3, 1) := by decide +kernel
theorem dX6_may_57 : decode cX6_may 57 = .ok (.iload_n 2, 1) := by decide +kernel
theorem dX6_may_58 : decode cX6_may 58 = .ok (.if_icmp .ne 6, 3) := by decide +kernel
theorem dX6_may_61 : decode cX6_may 61 = .ok (.iload 4, 2) := by decide +kernel
theorem dX6_may_63 : decode cX6_may 63 = .ok (.ireturn, 1) := by decide +kernel
theorem dX6_may_64 : decode cX6_may 64 = .ok (.iinc 3 1, 3) := by decide +kernel
theorem dX6_may_67 : decode cX6_may 67 = .ok (.iinc 4 1, 3) := by decide +kernel
theorem dX6_may_70 : decode cX6_may 70 = .ok (.goto (-43), 3) := by decide +kernel
theorem dX6_may_73 : decode cX6_may 73 = .ok (.iconst (-1), 1) := by decide +kernel
theorem dX6_may_74 : decode cX6_may 74 = .ok (.ireturn, 1) := by decide +kernel
theorem dX6_sure_0 : decode cX6_sure 0 = .ok (.iload_n 1, 1) := by decide +kernel
theorem dX6_sure_1 : decode cX6_sure 1 = .ok (.invokestatic 267, 3) := by decide +kernel
theorem dX6_sure_4 : decode cX6_sure 4 = .ok (.ifCond .ne 7, 3) := by decide +kernel
theorem dX6_sure_7 : decode cX6_sure 7 = .ok (.ldc_w 266, 3) := by decide +kernel
theorem dX6_sure_10 : decode cX6_sure 10 = .ok (.ireturn, 1) := by decide +kernel
theorem dX6_sure_11 : decode cX6_sure 11 = .ok (.iload_n 2, 1) := by decide +kernel
theorem dX6_sure_12 : decode cX6_sure 12 = .ok (.i2l, 1) := by decide +kernel
theorem dX6_sure_13 : decode cX6_sure 13 = .ok (.lconst 0, 1) := by decide +kernel
theorem dX6_sure_14 : decode cX6_sure 14 = .ok (.lconst 1, 1) := by decide +kernel
theorem dX6_sure_15 : decode cX6_sure 15 = .ok (.invokestatic 114, 3) := by decide +kernel
theorem dX6_sure_18 : decode cX6_sure 18 = .ok (.ifCond .ne 6, 3) := by decide +kernel
theorem dX6_sure_21 : decode cX6_sure 21 = .ok (.ldc 125, 2) := by decide +kernel
theorem dX6_sure_23 : decode cX6_sure 23 = .ok (.ireturn, 1) := by decide +kernel
theorem dX6_sure_24 : decode cX6_sure 24 = .ok (.bipush 63, 2) := by decide +kernel
theorem dX6_sure_26 : decode cX6_sure 26 = .ok (.istore_n 3, 1) := by decide +kernel
theorem dX6_sure_27 : decode cX6_sure 27 = .ok (.iconst 0, 1) := by decide +kernel
theorem dX6_sure_28 : decode cX6_sure 28 = .ok (.istore 4, 2) := by decide +kernel
theorem dX6_sure_30 : decode cX6_sure 30 = .ok (.iconst 0, 1) := by decide +kernel
theorem dX6_sure_31 : decode cX6_sure 31 = .ok (.istore 5, 2) := by decide +kernel
theorem dX6_sure_33 : decode cX6_sure 33 = .ok (.iconst 0, 1) := by decide +kernel
theorem dX6_sure_34 : decode cX6_sure 34 = .ok (.istore 6, 2) := by decide +kernel
theorem dX6_sure_36 : decode cX6_sure 36 = .ok (.iload 6, 2) := by decide +kernel
theorem dX6_sure_38 : decode cX6_sure 38 = .ok (.bipush 64, 2) := by decide +kernel
theorem dX6_sure_40 : decode cX6_sure 40 = .ok (.if_icmp .ge 46, 3) := by decide +kernel
theorem dX6_sure_43 : decode cX6_sure 43 = .ok (.iload 6, 2) := by decide +kernel
theorem dX6_sure_45 : decode cX6_sure 45 = .ok (.invokestatic 306, 3) := by decide +kernel
theorem dX6_sure_48 : decode cX6_sure 48 = .ok (.aload_n 0, 1) := by decide +kernel
theorem dX6_sure_49 : decode cX6_sure 49 = .ok (.getfield 250, 3) := by decide +kernel
theorem dX6_sure_52 : decode cX6_sure 52 = .ok (.if_icmp .ne 28, 3) := by decide +kernel
theorem dX6_sure_55 : decode cX6_sure 55 = .ok (.aload_n 0, 1) := by decide +kernel
theorem dX6_sure_56 : decode cX6_sure 56 = .ok (.iload_n 1, 1) := by decide +kernel
theorem dX6_sure_57 : decode cX6_sure 57 = .ok (.iload 6, 2) := by decide +kernel
theorem dX6_sure_59 : decode cX6_sure 59 = .ok (.invokevirtual 309, 3) := by decide +kernel
theorem dX6_sure_62 : decode cX6_sure 62 = .ok (.ifCond .eq 18, 3) := by decide +kernel
theorem dX6_sure_65 : decode cX6_sure 65 = .ok (.iinc 5 1, 3) := by decide +kernel
theorem dX6_sure_68 : decode cX6_sure 68 = .ok (.iload_n 3, 1) := by decide +kernel
theorem dX6_sure_69 : decode cX6_sure 69 = .ok (.iload 6, 2) := by decide +kernel
theorem dX6_sure_71 : decode cX6_sure 71 = .ok (.iand, 1) := by decide +kernel
theorem dX6_sure_72 : decode cX6_sure 72 = .ok (.istore_n 3, 1) := by decide +kernel
theorem dX6_sure_73 : decode cX6_sure 73 = .ok (.iload 4, 2) := by decide +kernel
theorem dX6_sure_75 : decode cX6_sure 75 = .ok (.iload 6, 2) := by decide +kernel
theorem dX6_sure_77 : decode cX6_sure 77 = .ok (.ior, 1) := by decide +kernel
theorem dX6_sure_78 : decode cX6_sure 78 = .ok (.istore 4, 2) := by decide +kernel
theorem dX6_sure_80 : decode cX6_sure 80 = .ok (.iinc 6 1, 3) := by decide +kernel
theorem dX6_sure_83 : decode cX6_sure 83 = .ok (.goto (-47), 3) := by decide +kernel
theorem dX6_sure_86 : decode cX6_sure 86 = .ok (.iload 5, 2) := by decide +kernel
theorem dX6_sure_88 : decode cX6_sure 88 = .ok (.ifCond .ne 7, 3) := by decide +kernel
theorem dX6_sure_91 : decode cX6_sure 91 = .ok (.iconst (-1), 1) := by decide +kernel
theorem dX6_sure_92 : decode cX6_sure 92 = .ok (.goto 18, 3) := by decide +kernel
theorem dX6_sure_95 : decode cX6_sure 95 = .ok (.iload_n 2, 1) := by decide +kernel
theorem dX6_sure_96 : decode cX6_sure 96 = .ok (.ifCond .ne 7, 3) := by decide +kernel
theorem dX6_sure_99 : decode cX6_sure 99 = .ok (.iload_n 3, 1) := by decide +kernel
theorem dX6_sure_100 : decode cX6_sure 100 = .ok (.goto 10, 3) := by decide +kernel
theorem dX6_sure_103 : decode cX6_sure 103 = .ok (.bipush 63, 2) := by decide +kernel
theorem dX6_sure_105 : decode cX6_sure 105 = .ok (.iload 4, 2) := by decide +kernel
theorem dX6_sure_107 : decode cX6_sure 107 = .ok (.iconst (-1), 1) := by decide +kernel
theorem dX6_sure_108 : decode cX6_sure 108 = .ok (.ixor, 1) := by decide +kernel
theorem dX6_sure_109 : decode cX6_sure 109 = .ok (.iand, 1) := by decide +kernel
theorem dX6_sure_110 : decode cX6_sure 110 = .ok (.ireturn, 1) := by decide +kernel
theorem dX6_area_0 : decode cX6_area 0 = .ok (.iload_n 1, 1) := by decide +kernel
theorem dX6_area_1 : decode cX6_area 1 = .ok (.invokestatic 267, 3) := by decide +kernel
theorem dX6_area_4 : decode cX6_area 4 = .ok (.ifCond .ne 7, 3) := by decide +kernel
theorem dX6_area_7 : decode cX6_area 7 = .ok (.ldc_w 266, 3) := by decide +kernel
theorem dX6_area_10 : decode cX6_area 10 = .ok (.ireturn, 1) := by decide +kernel
theorem dX6_area_11 : decode cX6_area 11 = .ok (.iload_n 2, 1) := by decide +kernel
theorem dX6_area_12 : decode cX6_area 12 = .ok (.i2l, 1) := by decide +kernel
theorem dX6_area_13 : decode cX6_area 13 = .ok (.lconst 0, 1) := by decide +kernel
theorem dX6_area_14 : decode cX6_area 14 = .ok (.ldc2_w 333, 3) := by decide +kernel
theorem dX6_area_17 : decode cX6_area 17 = .ok (.invokestatic 114, 3) := by decide +kernel
theorem dX6_area_20 : decode cX6_area 20 = .ok (.ifCond .eq 15, 3) := by decide +kernel
theorem dX6_area_23 : decode cX6_area 23 = .ok (.iload_n 3, 1) := by decide +kernel
theorem dX6_area_24 : decode cX6_area 24 = .ok (.i2l, 1) := by decide +kernel
theorem dX6_area_25 : decode cX6_area 25 = .ok (.lconst 0, 1) := by decide +kernel
theorem dX6_area_26 : decode cX6_area 26 = .ok (.ldc2_w 315, 3) := by decide +kernel
theorem dX6_area_29 : decode cX6_area 29 = .ok (.invokestatic 114, 3) := by decide +kernel
theorem dX6_area_32 : decode cX6_area 32 = .ok (.ifCond .ne 6, 3) := by decide +kernel
theorem dX6_area_35 : decode cX6_area 35 = .ok (.ldc 125, 2) := by decide +kernel
theorem dX6_area_37 : decode cX6_area 37 = .ok (.ireturn, 1) := by decide +kernel
theorem dX6_area_38 : decode cX6_area 38 = .ok (.aload_n 0, 1) := by decide +kernel
theorem dX6_area_39 : decode cX6_area 39 = .ok (.getfield 111, 3) := by decide +kernel
theorem dX6_area_42 : decode cX6_area 42 = .ok (.ifCond .eq 23, 3) := by decide +kernel
theorem dX6_area_45 : decode cX6_area 45 = .ok (.iload_n 2, 1) := by decide +kernel
theorem dX6_area_46 : decode cX6_area 46 = .ok (.invokestatic 306, 3) := by decide +kernel
theorem dX6_area_49 : decode cX6_area 49 = .ok (.aload_n 0, 1) := by decide +kernel
theorem dX6_area_50 : decode cX6_area 50 = .ok (.getfield 250, 3) := by decide +kernel
theorem dX6_area_53 : decode cX6_area 53 = .ok (.if_icmp .ne 12, 3) := by decide +kernel
theorem dX6_area_56 : decode cX6_area 56 = .ok (.aload_n 0, 1) := by decide +kernel
theorem dX6_area_57 : decode cX6_area 57 = .ok (.iload_n 1, 1) := by decide +kernel
theorem dX6_area_58 : decode cX6_area 58 = .ok (.iload_n 2, 1) := by decide +kernel
theorem dX6_area_59 : decode cX6_area 59 = .ok (.invokevirtual 309, 3) := by decide +kernel
theorem dX6_area_62 : decode cX6_area 62 = .ok (.ifCond .ne 7, 3) := by decide +kernel
theorem dX6_area_65 : decode cX6_area 65 = .ok (.ldc_w 317, 3) := by decide +kernel
theorem dX6_area_68 : decode cX6_area 68 = .ok (.ireturn, 1) := by decide +kernel
theorem dX6_area_69 : decode cX6_area 69 = .ok (.aload_n 0, 1) := by decide +kernel
theorem dX6_area_70 : decode cX6_area 70 = .ok (.invokevirtual 318, 3) := by decide +kernel
theorem dX6_area_73 : decode cX6_area 73 = .ok (.aload_n 0, 1) := by decide +kernel
theorem dX6_area_74 : decode cX6_area 74 = .ok (.getfield 78, 3) := by decide +kernel
theorem dX6_area_77 : decode cX6_area 77 = .ok (.iload_n 3, 1) := by decide +kernel
theorem dX6_area_78 : decode cX6_area 78 = .ok (.iaload, 1) := by decide +kernel
theorem dX6_area_79 : decode cX6_area 79 = .ok (.ireturn, 1) := by decide +kernel
theorem dX6_addPlace_0 : decode cX6_addPlace 0 = .ok (.iconst 0, 1) := by decide +kernel
theorem dX6_addPlace_1 : decode cX6_addPlace 1 = .ok (.istore_n 3, 1) := by decide +kernel
theorem dX6_addPlace_2 : decode cX6_addPlace 2 = .ok (.iload_n 3, 1) := by decide +kernel
theorem dX6_addPlace_3 : decode cX6_addPlace 3 = .ok (.aload_n 0, 1) := by decide +kernel
theorem dX6_addPlace_4 : decode cX6_addPlace 4 = .ok (.getfield 335, 3) := by decide +kernel
theorem dX6_addPlace_7 : decode cX6_addPlace 7 = .ok (.if_icmp .ge 29, 3) := by decide +kernel
theorem dX6_addPlace_10 : decode cX6_addPlace 10 = .ok (.aload_n 0, 1) := by decide +kernel
theorem dX6_addPlace_11 : decode cX6_addPlace 11 = .ok (.getfield 81, 3) := by decide +kernel
theorem dX6_addPlace_14 : decode cX6_addPlace 14 = .ok (.iload_n 3, 1) := by decide +kernel
theorem dX6_addPlace_15 : decode cX6_addPlace 15 = .ok (.iaload, 1) := by decide +kernel
theorem dX6_addPlace_16 : decode cX6_addPlace 16 = .ok (.iload_n 1, 1) := by decide +kernel
theorem dX6_addPlace_17 : decode cX6_addPlace 17 = .ok (.if_icmp .ne 13, 3) := by decide +kernel
theorem dX6_addPlace_20 : decode cX6_addPlace 20 = .ok (.aload_n 0, 1) := by decide +kernel
theorem dX6_addPlace_21 : decode cX6_addPlace 21 = .ok (.getfield 84, 3) := by decide +kernel
theorem dX6_addPlace_24 : decode cX6_addPlace 24 = .ok (.iload_n 3, 1) := by decide +kernel
theorem dX6_addPlace_25 : decode cX6_addPlace 25 = .ok (.iaload, 1) := by decide +kernel
theorem dX6_addPlace_26 : decode cX6_addPlace 26 = .ok (.iload_n 2, 1) := by decide +kernel
theorem dX6_addPlace_27 : decode cX6_addPlace 27 = .ok (.if_icmp .eq 9, 3) := by decide +kernel
theorem dX6_addPlace_30 : decode cX6_addPlace 30 = .ok (.iinc 3 1, 3) := by decide +kernel
theorem dX6_addPlace_33 : decode cX6_addPlace 33 = .ok (.goto (-31), 3) := by decide +kernel
theorem dX6_addPlace_36 : decode cX6_addPlace 36 = .ok (.iload_n 3, 1) := by decide +kernel
theorem dX6_addPlace_37 : decode cX6_addPlace 37 = .ok (.aload_n 0, 1) := by decide +kernel
theorem dX6_addPlace_38 : decode cX6_addPlace 38 = .ok (.getfield 335, 3) := by decide +kernel
theorem dX6_addPlace_41 : decode cX6_addPlace 41 = .ok (.if_icmp .ne 34, 3) := by decide +kernel
theorem dX6_addPlace_44 : decode cX6_addPlace 44 = .ok (.aload_n 0, 1) := by decide +kernel
theorem dX6_addPlace_45 : decode cX6_addPlace 45 = .ok (.getfield 81, 3) := by decide +kernel
theorem dX6_addPlace_48 : decode cX6_addPlace 48 = .ok (.iload_n 3, 1) := by decide +kernel
theorem dX6_addPlace_49 : decode cX6_addPlace 49 = .ok (.iload_n 1, 1) := by decide +kernel
theorem dX6_addPlace_50 : decode cX6_addPlace 50 = .ok (.iastore, 1) := by decide +kernel
theorem dX6_addPlace_51 : decode cX6_addPlace 51 = .ok (.aload_n 0, 1) := by decide +kernel
theorem dX6_addPlace_52 : decode cX6_addPlace 52 = .ok (.getfield 84, 3) := by decide +kernel
theorem dX6_addPlace_55 : decode cX6_addPlace 55 = .ok (.iload_n 3, 1) := by decide +kernel
theorem dX6_addPlace_56 : decode cX6_addPlace 56 = .ok (.iload_n 2, 1) := by decide +kernel
theorem dX6_addPlace_57 : decode cX6_addPlace 57 = .ok (.iastore, 1) := by decide +kernel
theorem dX6_addPlace_58 : decode cX6_addPlace 58 = .ok (.aload_n 0, 1) := by decide +kernel
theorem dX6_addPlace_59 : decode cX6_addPlace 59 = .ok (.getfield 87, 3) := by decide +kernel
theorem dX6_addPlace_62 : decode cX6_addPlace 62 = .ok (.iload_n 3, 1) := by decide +kernel
theorem dX6_addPlace_63 : decode cX6_addPlace 63 = .ok (.iconst 0, 1) := by decide +kernel
theorem dX6_addPlace_64 : decode cX6_addPlace 64 = .ok (.iastore, 1) := by decide +kernel
theorem dX6_addPlace_65 : decode cX6_addPlace 65 = .ok (.aload_n 0, 1) := by decide +kernel
theorem dX6_addPlace_66 : decode cX6_addPlace 66 = .ok (.dup, 1) := by decide +kernel
theorem dX6_addPlace_67 : decode cX6_addPlace 67 = .ok (.getfield 335, 3) := by decide +kernel
theorem dX6_addPlace_70 : decode cX6_addPlace 70 = .ok (.iconst 1, 1) := by decide +kernel
theorem dX6_addPlace_71 : decode cX6_addPlace 71 = .ok (.iadd, 1) := by decide +kernel
theorem dX6_addPlace_72 : decode cX6_addPlace 72 = .ok (.putfield 335, 3) := by decide +kernel
theorem dX6_addPlace_75 : decode cX6_addPlace 75 = .ok (.aload_n 0, 1) := by decide +kernel
theorem dX6_addPlace_76 : decode cX6_addPlace 76 = .ok (.getfield 87, 3) := by decide +kernel
theorem dX6_addPlace_79 : decode cX6_addPlace 79 = .ok (.iload_n 3, 1) := by decide +kernel
theorem dX6_addPlace_80 : decode cX6_addPlace 80 = .ok (.dup2, 1) := by decide +kernel
theorem dX6_addPlace_81 : decode cX6_addPlace 81 = .ok (.iaload, 1) := by decide +kernel
theorem dX6_addPlace_82 : decode cX6_addPlace 82 = .ok (.iconst 1, 1) := by decide +kernel
theorem dX6_addPlace_83 : decode cX6_addPlace 83 = .ok (.iadd, 1) := by decide +kernel
theorem dX6_addPlace_84 : decode cX6_addPlace 84 = .ok (.iastore, 1) := by decide +kernel
theorem dX6_addPlace_85 : decode cX6_addPlace 85 = .ok (.return_, 1) := by decide +kernel
theorem dX6_findPlaces_0 : decode cX6_findPlaces 0 = .ok (.aload_n 0, 1) := by decide +kernel
theorem dX6_findPlaces_1 : decode cX6_findPlaces 1 = .ok (.iconst 0, 1) := by decide +kernel
theorem dX6_findPlaces_2 : decode cX6_findPlaces 2 = .ok (.putfield 335, 3) := by decide +kernel
theorem dX6_findPlaces_5 : decode cX6_findPlaces 5 = .ok (.aload_n 0, 1) := by decide +kernel
theorem dX6_findPlaces_6 : decode cX6_findPlaces 6 = .ok (.iconst 0, 1) := by decide +kernel
theorem dX6_findPlaces_7 : decode cX6_findPlaces 7 = .ok (.putfield 338, 3) := by decide +kernel
theorem dX6_findPlaces_10 : decode cX6_findPlaces 10 = .ok (.iconst 0, 1) := by decide +kernel
theorem dX6_findPlaces_11 : decode cX6_findPlaces 11 = .ok (.istore_n 2, 1) := by decide +kernel
theorem dX6_findPlaces_12 : decode cX6_findPlaces 12 = .ok (.iload_n 2, 1) := by decide +kernel
theorem dX6_findPlaces_13 : decode cX6_findPlaces 13 = .ok (.bipush 64, 2) := by decide +kernel
theorem dX6_findPlaces_15 : decode cX6_findPlaces 15 = .ok (.if_icmp .ge 96, 3) := by decide +kernel
theorem dX6_findPlaces_18 : decode cX6_findPlaces 18 = .ok (.aload_n 0, 1) := by decide +kernel
theorem dX6_findPlaces_19 : decode cX6_findPlaces 19 = .ok (.getfield 111, 3) := by decide +kernel
theorem dX6_findPlaces_22 : decode cX6_findPlaces 22 = .ok (.ifCond .le 89, 3) := by decide +kernel
theorem dX6_findPlaces_25 : decode cX6_findPlaces 25 = .ok (.iload_n 2, 1) := by decide +kernel
theorem dX6_findPlaces_26 : decode cX6_findPlaces 26 = .ok (.invokestatic 306, 3) := by decide +kernel
theorem dX6_findPlaces_29 : decode cX6_findPlaces 29 = .ok (.aload_n 0, 1) := by decide +kernel
theorem dX6_findPlaces_30 : decode cX6_findPlaces 30 = .ok (.getfield 250, 3) := by decide +kernel
theorem dX6_findPlaces_33 : decode cX6_findPlaces 33 = .ok (.if_icmp .ne 72, 3) := by decide +kernel
theorem dX6_findPlaces_36 : decode cX6_findPlaces 36 = .ok (.aload_n 0, 1) := by decide +kernel
theorem dX6_findPlaces_37 : decode cX6_findPlaces 37 = .ok (.iload_n 1, 1) := by decide +kernel
theorem dX6_findPlaces_38 : decode cX6_findPlaces 38 = .ok (.iload_n 2, 1) := by decide +kernel
theorem dX6_findPlaces_39 : decode cX6_findPlaces 39 = .ok (.invokevirtual 309, 3) := by decide +kernel
theorem dX6_findPlaces_42 : decode cX6_findPlaces 42 = .ok (.ifCond .eq 63, 3) := by decide +kernel
theorem dX6_findPlaces_45 : decode cX6_findPlaces 45 = .ok (.aload_n 0, 1) := by decide +kernel
theorem dX6_findPlaces_46 : decode cX6_findPlaces 46 = .ok (.dup, 1) := by decide +kernel
theorem dX6_findPlaces_47 : decode cX6_findPlaces 47 = .ok (.getfield 338, 3) := by decide +kernel
theorem dX6_findPlaces_50 : decode cX6_findPlaces 50 = .ok (.iconst 1, 1) := by decide +kernel
theorem dX6_findPlaces_51 : decode cX6_findPlaces 51 = .ok (.iadd, 1) := by decide +kernel
theorem dX6_findPlaces_52 : decode cX6_findPlaces 52 = .ok (.putfield 338, 3) := by decide +kernel
theorem dX6_findPlaces_55 : decode cX6_findPlaces 55 = .ok (.aload_n 0, 1) := by decide +kernel
theorem dX6_findPlaces_56 : decode cX6_findPlaces 56 = .ok (.invokevirtual 318, 3) := by decide +kernel
theorem dX6_findPlaces_59 : decode cX6_findPlaces 59 = .ok (.aload_n 0, 1) := by decide +kernel
theorem dX6_findPlaces_60 : decode cX6_findPlaces 60 = .ok (.getfield 78, 3) := by decide +kernel
theorem dX6_findPlaces_63 : decode cX6_findPlaces 63 = .ok (.iconst 0, 1) := by decide +kernel
theorem dX6_findPlaces_64 : decode cX6_findPlaces 64 = .ok (.iaload, 1) := by decide +kernel
theorem dX6_findPlaces_65 : decode cX6_findPlaces 65 = .ok (.aload_n 0, 1) := by decide +kernel
theorem dX6_findPlaces_66 : decode cX6_findPlaces 66 = .ok (.getfield 78, 3) := by decide +kernel
theorem dX6_findPlaces_69 : decode cX6_findPlaces 69 = .ok (.iconst 1, 1) := by decide +kernel
theorem dX6_findPlaces_70 : decode cX6_findPlaces 70 = .ok (.iaload, 1) := by decide +kernel
theorem dX6_findPlaces_71 : decode cX6_findPlaces 71 = .ok (.if_icmp .ne 34, 3) := by decide +kernel
theorem dX6_findPlaces_74 : decode cX6_findPlaces 74 = .ok (.aload_n 0, 1) := by decide +kernel
theorem dX6_findPlaces_75 : decode cX6_findPlaces 75 = .ok (.getfield 78, 3) := by decide +kernel
theorem dX6_findPlaces_78 : decode cX6_findPlaces 78 = .ok (.iconst 2, 1) := by decide +kernel
theorem dX6_findPlaces_79 : decode cX6_findPlaces 79 = .ok (.iaload, 1) := by decide +kernel
theorem dX6_findPlaces_80 : decode cX6_findPlaces 80 = .ok (.aload_n 0, 1) := by decide +kernel
theorem dX6_findPlaces_81 : decode cX6_findPlaces 81 = .ok (.getfield 78, 3) := by decide +kernel
theorem dX6_findPlaces_84 : decode cX6_findPlaces 84 = .ok (.iconst 3, 1) := by decide +kernel
theorem dX6_findPlaces_85 : decode cX6_findPlaces 85 = .ok (.iaload, 1) := by decide +kernel
theorem dX6_findPlaces_86 : decode cX6_findPlaces 86 = .ok (.if_icmp .ne 19, 3) := by decide +kernel
theorem dX6_findPlaces_89 : decode cX6_findPlaces 89 = .ok (.aload_n 0, 1) := by decide +kernel
theorem dX6_findPlaces_90 : decode cX6_findPlaces 90 = .ok (.aload_n 0, 1) := by decide +kernel
theorem dX6_findPlaces_91 : decode cX6_findPlaces 91 = .ok (.getfield 78, 3) := by decide +kernel
theorem dX6_findPlaces_94 : decode cX6_findPlaces 94 = .ok (.iconst 0, 1) := by decide +kernel
theorem dX6_findPlaces_95 : decode cX6_findPlaces 95 = .ok (.iaload, 1) := by decide +kernel
theorem dX6_findPlaces_96 : decode cX6_findPlaces 96 = .ok (.aload_n 0, 1) := by decide +kernel
theorem dX6_findPlaces_97 : decode cX6_findPlaces 97 = .ok (.getfield 78, 3) := by decide +kernel
theorem dX6_findPlaces_100 : decode cX6_findPlaces 100 = .ok (.iconst 2, 1) := by decide +kernel
theorem dX6_findPlaces_101 : decode cX6_findPlaces 101 = .ok (.iaload, 1) := by decide +kernel
theorem dX6_findPlaces_102 : decode cX6_findPlaces 102 = .ok (.invokevirtual 341, 3) := by decide +kernel
theorem dX6_findPlaces_105 : decode cX6_findPlaces 105 = .ok (.iinc 2 1, 3) := by decide +kernel
theorem dX6_findPlaces_108 : decode cX6_findPlaces 108 = .ok (.goto (-96), 3) := by decide +kernel
theorem dX6_findPlaces_111 : decode cX6_findPlaces 111 = .ok (.return_, 1) := by decide +kernel
theorem dX6_bestPlace_0 : decode cX6_bestPlace 0 = .ok (.iconst (-1), 1) := by decide +kernel
theorem dX6_bestPlace_1 : decode cX6_bestPlace 1 = .ok (.istore_n 1, 1) := by decide +kernel
theorem dX6_bestPlace_2 : decode cX6_bestPlace 2 = .ok (.iconst 0, 1) := by decide +kernel
theorem dX6_bestPlace_3 : decode cX6_bestPlace 3 = .ok (.istore_n 2, 1) := by decide +kernel
theorem dX6_bestPlace_4 : decode cX6_bestPlace 4 = .ok (.iload_n 2, 1) := by decide +kernel
theorem dX6_bestPlace_5 : decode cX6_bestPlace 5 = .ok (.aload_n 0, 1) := by decide +kernel
theorem dX6_bestPlace_6 : decode cX6_bestPlace 6 = .ok (.getfield 335, 3) := by decide +kernel
theorem dX6_bestPlace_9 : decode cX6_bestPlace 9 = .ok (.if_icmp .ge 132, 3) := by decide +kernel
theorem dX6_bestPlace_12 : decode cX6_bestPlace 12 = .ok (.iload_n 1, 1) := by decide +kernel
theorem dX6_bestPlace_13 : decode cX6_bestPlace 13 = .ok (.ifCond .lt 18, 3) := by decide +kernel
theorem dX6_bestPlace_16 : decode cX6_bestPlace 16 = .ok (.aload_n 0, 1) := by decide +kernel
theorem dX6_bestPlace_17 : decode cX6_bestPlace 17 = .ok (.getfield 87, 3) := by decide +kernel
theorem dX6_bestPlace_20 : decode cX6_bestPlace 20 = .ok (.iload_n 2, 1) := by decide +kernel
theorem dX6_bestPlace_21 : decode cX6_bestPlace 21 = .ok (.iaload, 1) := by decide +kernel
theorem dX6_bestPlace_22 : decode cX6_bestPlace 22 = .ok (.aload_n 0, 1) := by decide +kernel
theorem dX6_bestPlace_23 : decode cX6_bestPlace 23 = .ok (.getfield 87, 3) := by decide +kernel
theorem dX6_bestPlace_26 : decode cX6_bestPlace 26 = .ok (.iload_n 1, 1) := by decide +kernel
theorem dX6_bestPlace_27 : decode cX6_bestPlace 27 = .ok (.iaload, 1) := by decide +kernel
theorem dX6_bestPlace_28 : decode cX6_bestPlace 28 = .ok (.if_icmp .le 7, 3) := by decide +kernel
theorem dX6_bestPlace_31 : decode cX6_bestPlace 31 = .ok (.iconst 1, 1) := by decide +kernel
theorem dX6_bestPlace_32 : decode cX6_bestPlace 32 = .ok (.goto 4, 3) := by decide +kernel
theorem dX6_bestPlace_35 : decode cX6_bestPlace 35 = .ok (.iconst 0, 1) := by decide +kernel
theorem dX6_bestPlace_36 : decode cX6_bestPlace 36 = .ok (.istore_n 3, 1) := by decide +kernel
theorem dX6_bestPlace_37 : decode cX6_bestPlace 37 = .ok (.iload_n 1, 1) := by decide +kernel
theorem dX6_bestPlace_38 : decode cX6_bestPlace 38 = .ok (.ifCond .lt 22, 3) := by decide +kernel
theorem dX6_bestPlace_41 : decode cX6_bestPlace 41 = .ok (.aload_n 0, 1) := by decide +kernel
theorem dX6_bestPlace_42 : decode cX6_bestPlace 42 = .ok (.getfield 87, 3) := by decide +kernel
theorem dX6_bestPlace_45 : decode cX6_bestPlace 45 = .ok (.iload_n 2, 1) := by decide +kernel
theorem dX6_bestPlace_46 : decode cX6_bestPlace 46 = .ok (.iaload, 1) := by decide +kernel
theorem dX6_bestPlace_47 : decode cX6_bestPlace 47 = .ok (.aload_n 0, 1) := by decide +kernel
theorem dX6_bestPlace_48 : decode cX6_bestPlace 48 = .ok (.getfield 87, 3) := by decide +kernel
theorem dX6_bestPlace_51 : decode cX6_bestPlace 51 = .ok (.iload_n 1, 1) := by decide +kernel
theorem dX6_bestPlace_52 : decode cX6_bestPlace 52 = .ok (.iaload, 1) := by decide +kernel
theorem dX6_bestPlace_53 : decode cX6_bestPlace 53 = .ok (.if_icmp .ne 7, 3) := by decide +kernel
theorem dX6_bestPlace_56 : decode cX6_bestPlace 56 = .ok (.iconst 1, 1) := by decide +kernel
theorem dX6_bestPlace_57 : decode cX6_bestPlace 57 = .ok (.goto 4, 3) := by decide +kernel
theorem dX6_bestPlace_60 : decode cX6_bestPlace 60 = .ok (.iconst 0, 1) := by decide +kernel
theorem dX6_bestPlace_61 : decode cX6_bestPlace 61 = .ok (.istore 4, 2) := by decide +kernel
theorem dX6_bestPlace_63 : decode cX6_bestPlace 63 = .ok (.iload 4, 2) := by decide +kernel
theorem dX6_bestPlace_65 : decode cX6_bestPlace 65 = .ok (.ifCond .eq 52, 3) := by decide +kernel
theorem dX6_bestPlace_68 : decode cX6_bestPlace 68 = .ok (.aload_n 0, 1) := by decide +kernel
theorem dX6_bestPlace_69 : decode cX6_bestPlace 69 = .ok (.getfield 81, 3) := by decide +kernel
theorem dX6_bestPlace_72 : decode cX6_bestPlace 72 = .ok (.iload_n 2, 1) := by decide +kernel
theorem dX6_bestPlace_73 : decode cX6_bestPlace 73 = .ok (.iaload, 1) := by decide +kernel
theorem dX6_bestPlace_74 : decode cX6_bestPlace 74 = .ok (.aload_n 0, 1) := by decide +kernel
theorem dX6_bestPlace_75 : decode cX6_bestPlace 75 = .ok (.getfield 81, 3) := by decide +kernel
theorem dX6_bestPlace_78 : decode cX6_bestPlace 78 = .ok (.iload_n 1, 1) := by decide +kernel
theorem dX6_bestPlace_79 : decode cX6_bestPlace 79 = .ok (.iaload, 1) := by decide +kernel
theorem dX6_bestPlace_80 : decode cX6_bestPlace 80 = .ok (.if_icmp .lt 33, 3) := by decide +kernel
theorem dX6_bestPlace_83 : decode cX6_bestPlace 83 = .ok (.aload_n 0, 1) := by decide +kernel
theorem dX6_bestPlace_84 : decode cX6_bestPlace 84 = .ok (.getfield 81, 3) := by decide +kernel
theorem dX6_bestPlace_87 : decode cX6_bestPlace 87 = .ok (.iload_n 2, 1) := by decide +kernel
theorem dX6_bestPlace_88 : decode cX6_bestPlace 88 = .ok (.iaload, 1) := by decide +kernel
theorem dX6_bestPlace_89 : decode cX6_bestPlace 89 = .ok (.aload_n 0, 1) := by decide +kernel
theorem dX6_bestPlace_90 : decode cX6_bestPlace 90 = .ok (.getfield 81, 3) := by decide +kernel
theorem dX6_bestPlace_93 : decode cX6_bestPlace 93 = .ok (.iload_n 1, 1) := by decide +kernel
theorem dX6_bestPlace_94 : decode cX6_bestPlace 94 = .ok (.iaload, 1) := by decide +kernel
theorem dX6_bestPlace_95 : decode cX6_bestPlace 95 = .ok (.if_icmp .ne 22, 3) := by decide +kernel
theorem dX6_bestPlace_98 : decode cX6_bestPlace 98 = .ok (.aload_n 0, 1) := by decide +kernel
theorem dX6_bestPlace_99 : decode cX6_bestPlace 99 = .ok (.getfield 84, 3) := by decide +kernel
theorem dX6_bestPlace_102 : decode cX6_bestPlace 102 = .ok (.iload_n 2, 1) := by decide +kernel
theorem dX6_bestPlace_103 : decode cX6_bestPlace 103 = .ok (.iaload, 1) := by decide +kernel
theorem dX6_bestPlace_104 : decode cX6_bestPlace 104 = .ok (.aload_n 0, 1) := by decide +kernel
theorem dX6_bestPlace_105 : decode cX6_bestPlace 105 = .ok (.getfield 84, 3) := by decide +kernel
theorem dX6_bestPlace_108 : decode cX6_bestPlace 108 = .ok (.iload_n 1, 1) := by decide +kernel
theorem dX6_bestPlace_109 : decode cX6_bestPlace 109 = .ok (.iaload, 1) := by decide +kernel
theorem dX6_bestPlace_110 : decode cX6_bestPlace 110 = .ok (.if_icmp .ge 7, 3) := by decide +kernel
theorem dX6_bestPlace_113 : decode cX6_bestPlace 113 = .ok (.iconst 1, 1) := by decide +kernel
theorem dX6_bestPlace_114 : decode cX6_bestPlace 114 = .ok (.goto 4, 3) := by decide +kernel
theorem dX6_bestPlace_117 : decode cX6_bestPlace 117 = .ok (.iconst 0, 1) := by decide +kernel
theorem dX6_bestPlace_118 : decode cX6_bestPlace 118 = .ok (.istore 5, 2) := by decide +kernel
theorem dX6_bestPlace_120 : decode cX6_bestPlace 120 = .ok (.iload_n 3, 1) := by decide +kernel
theorem dX6_bestPlace_121 : decode cX6_bestPlace 121 = .ok (.ifCond .ne 8, 3) := by decide +kernel
theorem dX6_bestPlace_124 : decode cX6_bestPlace 124 = .ok (.iload 5, 2) := by decide +kernel
theorem dX6_bestPlace_126 : decode cX6_bestPlace 126 = .ok (.ifCond .eq 7, 3) := by decide +kernel
theorem dX6_bestPlace_129 : decode cX6_bestPlace 129 = .ok (.iload_n 2, 1) := by decide +kernel
theorem dX6_bestPlace_130 : decode cX6_bestPlace 130 = .ok (.goto 4, 3) := by decide +kernel
theorem dX6_bestPlace_133 : decode cX6_bestPlace 133 = .ok (.iload_n 1, 1) := by decide +kernel
theorem dX6_bestPlace_134 : decode cX6_bestPlace 134 = .ok (.istore_n 1, 1) := by decide +kernel
theorem dX6_bestPlace_135 : decode cX6_bestPlace 135 = .ok (.iinc 2 1, 3) := by decide +kernel
theorem dX6_bestPlace_138 : decode cX6_bestPlace 138 = .ok (.goto (-134), 3) := by decide +kernel
theorem dX6_bestPlace_141 : decode cX6_bestPlace 141 = .ok (.iload_n 1, 1) := by decide +kernel
theorem dX6_bestPlace_142 : decode cX6_bestPlace 142 = .ok (.ireturn, 1) := by decide +kernel
theorem dX6_worthOf_0 : decode cX6_worthOf 0 = .ok (.aload_n 0, 1) := by decide +kernel
theorem dX6_worthOf_1 : decode cX6_worthOf 1 = .ok (.getfield 29, 3) := by decide +kernel
theorem dX6_worthOf_4 : decode cX6_worthOf 4 = .ok (.aload_n 0, 1) := by decide +kernel
theorem dX6_worthOf_5 : decode cX6_worthOf 5 = .ok (.getfield 87, 3) := by decide +kernel
theorem dX6_worthOf_8 : decode cX6_worthOf 8 = .ok (.iload_n 1, 1) := by decide +kernel
theorem dX6_worthOf_9 : decode cX6_worthOf 9 = .ok (.iaload, 1) := by decide +kernel
theorem dX6_worthOf_10 : decode cX6_worthOf 10 = .ok (.imul, 1) := by decide +kernel
theorem dX6_worthOf_11 : decode cX6_worthOf 11 = .ok (.aload_n 0, 1) := by decide +kernel
theorem dX6_worthOf_12 : decode cX6_worthOf 12 = .ok (.getfield 338, 3) := by decide +kernel
theorem dX6_worthOf_15 : decode cX6_worthOf 15 = .ok (.idiv, 1) := by decide +kernel
theorem dX6_worthOf_16 : decode cX6_worthOf 16 = .ok (.aload_n 0, 1) := by decide +kernel
theorem dX6_worthOf_17 : decode cX6_worthOf 17 = .ok (.getfield 25, 3) := by decide +kernel
theorem dX6_worthOf_20 : decode cX6_worthOf 20 = .ok (.isub, 1) := by decide +kernel
theorem dX6_worthOf_21 : decode cX6_worthOf 21 = .ok (.ireturn, 1) := by decide +kernel
theorem dX6_best_0 : decode cX6_best 0 = .ok (.iload_n 1, 1) := by decide +kernel
theorem dX6_best_1 : decode cX6_best 1 = .ok (.invokestatic 267, 3) := by decide +kernel
theorem dX6_best_4 : decode cX6_best 4 = .ok (.ifCond .ne 7, 3) := by decide +kernel
theorem dX6_best_7 : decode cX6_best 7 = .ok (.ldc_w 266, 3) := by decide +kernel
theorem dX6_best_10 : decode cX6_best 10 = .ok (.ireturn, 1) := by decide +kernel
theorem dX6_best_11 : decode cX6_best 11 = .ok (.iload_n 2, 1) := by decide +kernel
theorem dX6_best_12 : decode cX6_best 12 = .ok (.i2l, 1) := by decide +kernel
theorem dX6_best_13 : decode cX6_best 13 = .ok (.lconst 0, 1) := by decide +kernel
theorem dX6_best_14 : decode cX6_best 14 = .ok (.ldc2_w 315, 3) := by decide +kernel
theorem dX6_best_17 : decode cX6_best 17 = .ok (.invokestatic 114, 3) := by decide +kernel
theorem dX6_best_20 : decode cX6_best 20 = .ok (.ifCond .ne 6, 3) := by decide +kernel
theorem dX6_best_23 : decode cX6_best 23 = .ok (.ldc 125, 2) := by decide +kernel
theorem dX6_best_25 : decode cX6_best 25 = .ok (.ireturn, 1) := by decide +kernel
theorem dX6_best_26 : decode cX6_best 26 = .ok (.aload_n 0, 1) := by decide +kernel
theorem dX6_best_27 : decode cX6_best 27 = .ok (.iload_n 1, 1) := by decide +kernel
theorem dX6_best_28 : decode cX6_best 28 = .ok (.invokevirtual 344, 3) := by decide +kernel
theorem dX6_best_31 : decode cX6_best 31 = .ok (.aload_n 0, 1) := by decide +kernel
theorem dX6_best_32 : decode cX6_best 32 = .ok (.invokevirtual 348, 3) := by decide +kernel
theorem dX6_best_35 : decode cX6_best 35 = .ok (.istore_n 3, 1) := by decide +kernel
theorem dX6_best_36 : decode cX6_best 36 = .ok (.iload_n 3, 1) := by decide +kernel
theorem dX6_best_37 : decode cX6_best 37 = .ok (.ifCond .ge 5, 3) := by decide +kernel
theorem dX6_best_40 : decode cX6_best 40 = .ok (.iconst (-1), 1) := by decide +kernel
theorem dX6_best_41 : decode cX6_best 41 = .ok (.ireturn, 1) := by decide +kernel
theorem dX6_best_42 : decode cX6_best 42 = .ok (.iload_n 2, 1) := by decide +kernel
theorem dX6_best_43 : decode cX6_best 43 = .ok (.ifCond .ne 12, 3) := by decide +kernel
theorem dX6_best_46 : decode cX6_best 46 = .ok (.aload_n 0, 1) := by decide +kernel
theorem dX6_best_47 : decode cX6_best 47 = .ok (.getfield 81, 3) := by decide +kernel
theorem dX6_best_50 : decode cX6_best 50 = .ok (.iload_n 3, 1) := by decide +kernel
theorem dX6_best_51 : decode cX6_best 51 = .ok (.iaload, 1) := by decide +kernel
theorem dX6_best_52 : decode cX6_best 52 = .ok (.goto 36, 3) := by decide +kernel
theorem dX6_best_55 : decode cX6_best 55 = .ok (.iload_n 2, 1) := by decide +kernel
theorem dX6_best_56 : decode cX6_best 56 = .ok (.iconst 1, 1) := by decide +kernel
theorem dX6_best_57 : decode cX6_best 57 = .ok (.if_icmp .ne 12, 3) := by decide +kernel
theorem dX6_best_60 : decode cX6_best 60 = .ok (.aload_n 0, 1) := by decide +kernel
theorem dX6_best_61 : decode cX6_best 61 = .ok (.getfield 84, 3) := by decide +kernel
theorem dX6_best_64 : decode cX6_best 64 = .ok (.iload_n 3, 1) := by decide +kernel
theorem dX6_best_65 : decode cX6_best 65 = .ok (.iaload, 1) := by decide +kernel
theorem dX6_best_66 : decode cX6_best 66 = .ok (.goto 22, 3) := by decide +kernel
theorem dX6_best_69 : decode cX6_best 69 = .ok (.iload_n 2, 1) := by decide +kernel
theorem dX6_best_70 : decode cX6_best 70 = .ok (.iconst 2, 1) := by decide +kernel
theorem dX6_best_71 : decode cX6_best 71 = .ok (.if_icmp .ne 12, 3) := by decide +kernel
theorem dX6_best_74 : decode cX6_best 74 = .ok (.aload_n 0, 1) := by decide +kernel
theorem dX6_best_75 : decode cX6_best 75 = .ok (.getfield 87, 3) := by decide +kernel
theorem dX6_best_78 : decode cX6_best 78 = .ok (.iload_n 3, 1) := by decide +kernel
theorem dX6_best_79 : decode cX6_best 79 = .ok (.iaload, 1) := by decide +kernel
theorem dX6_best_80 : decode cX6_best 80 = .ok (.goto 8, 3) := by decide +kernel
theorem dX6_best_83 : decode cX6_best 83 = .ok (.aload_n 0, 1) := by decide +kernel
theorem dX6_best_84 : decode cX6_best 84 = .ok (.iload_n 3, 1) := by decide +kernel
theorem dX6_best_85 : decode cX6_best 85 = .ok (.invokevirtual 351, 3) := by decide +kernel
theorem dX6_best_88 : decode cX6_best 88 = .ok (.ireturn, 1) := by decide +kernel
theorem dX6_worstOf_0 : decode cX6_worstOf 0 = .ok (.bipush 9, 2) := by decide +kernel
theorem dX6_worstOf_2 : decode cX6_worstOf 2 = .ok (.iload_n 2, 1) := by decide +kernel
theorem dX6_worstOf_3 : decode cX6_worstOf 3 = .ok (.imul, 1) := by decide +kernel
theorem dX6_worstOf_4 : decode cX6_worstOf 4 = .ok (.iload_n 3, 1) := by decide +kernel
theorem dX6_worstOf_5 : decode cX6_worstOf 5 = .ok (.iadd, 1) := by decide +kernel
theorem dX6_worstOf_6 : decode cX6_worstOf 6 = .ok (.istore 4, 2) := by decide +kernel
theorem dX6_worstOf_8 : decode cX6_worstOf 8 = .ok (.aload_n 0, 1) := by decide +kernel
theorem dX6_worstOf_9 : decode cX6_worstOf 9 = .ok (.getfield 16, 3) := by decide +kernel
theorem dX6_worstOf_12 : decode cX6_worstOf 12 = .ok (.iload 4, 2) := by decide +kernel
theorem dX6_worstOf_14 : decode cX6_worstOf 14 = .ok (.iaload, 1) := by decide +kernel
theorem dX6_worstOf_15 : decode cX6_worstOf 15 = .ok (.istore 5, 2) := by decide +kernel
theorem dX6_worstOf_17 : decode cX6_worstOf 17 = .ok (.aload_n 0, 1) := by decide +kernel
theorem dX6_worstOf_18 : decode cX6_worstOf 18 = .ok (.getfield 19, 3) := by decide +kernel
theorem dX6_worstOf_21 : decode cX6_worstOf 21 = .ok (.iload 4, 2) := by decide +kernel
theorem dX6_worstOf_23 : decode cX6_worstOf 23 = .ok (.iaload, 1) := by decide +kernel
theorem dX6_worstOf_24 : decode cX6_worstOf 24 = .ok (.istore 6, 2) := by decide +kernel
theorem dX6_worstOf_26 : decode cX6_worstOf 26 = .ok (.iconst 0, 1) := by decide +kernel
theorem dX6_worstOf_27 : decode cX6_worstOf 27 = .ok (.istore 7, 2) := by decide +kernel
theorem dX6_worstOf_29 : decode cX6_worstOf 29 = .ok (.aload_n 0, 1) := by decide +kernel
theorem dX6_worstOf_30 : decode cX6_worstOf 30 = .ok (.getfield 32, 3) := by decide +kernel
theorem dX6_worstOf_33 : decode cX6_worstOf 33 = .ok (.bipush 6, 2) := by decide +kernel
theorem dX6_worstOf_35 : decode cX6_worstOf 35 = .ok (.iload_n 1, 1) := by decide +kernel
theorem dX6_worstOf_36 : decode cX6_worstOf 36 = .ok (.imul, 1) := by decide +kernel
theorem dX6_worstOf_37 : decode cX6_worstOf 37 = .ok (.iload_n 2, 1) := by decide +kernel
theorem dX6_worstOf_38 : decode cX6_worstOf 38 = .ok (.iadd, 1) := by decide +kernel
theorem dX6_worstOf_39 : decode cX6_worstOf 39 = .ok (.dup2, 1) := by decide +kernel
theorem dX6_worstOf_40 : decode cX6_worstOf 40 = .ok (.iaload, 1) := by decide +kernel
theorem dX6_worstOf_41 : decode cX6_worstOf 41 = .ok (.iconst 1, 1) := by decide +kernel
theorem dX6_worstOf_42 : decode cX6_worstOf 42 = .ok (.iload_n 3, 1) := by decide +kernel
theorem dX6_worstOf_43 : decode cX6_worstOf 43 = .ok (.ishl, 1) := by decide +kernel
theorem dX6_worstOf_44 : decode cX6_worstOf 44 = .ok (.ior, 1) := by decide +kernel
theorem dX6_worstOf_45 : decode cX6_worstOf 45 = .ok (.iastore, 1) := by decide +kernel
theorem dX6_worstOf_46 : decode cX6_worstOf 46 = .ok (.iconst 0, 1) := by decide +kernel
theorem dX6_worstOf_47 : decode cX6_worstOf 47 = .ok (.istore 8, 2) := by decide +kernel
theorem dX6_worstOf_49 : decode cX6_worstOf 49 = .ok (.iload 8, 2) := by decide +kernel
theorem dX6_worstOf_51 : decode cX6_worstOf 51 = .ok (.bipush 6, 2) := by decide +kernel
theorem dX6_worstOf_53 : decode cX6_worstOf 53 = .ok (.if_icmp .gt 140, 3) := by decide +kernel
theorem dX6_worstOf_56 : decode cX6_worstOf 56 = .ok (.iload 8, 2) := by decide +kernel
theorem dX6_worstOf_58 : decode cX6_worstOf 58 = .ok (.bipush 6, 2) := by decide +kernel
theorem dX6_worstOf_60 : decode cX6_worstOf 60 = .ok (.if_icmp .eq 28, 3) := by decide +kernel
theorem dX6_worstOf_63 : decode cX6_worstOf 63 = .ok (.iload 8, 2) := by decide +kernel
theorem dX6_worstOf_65 : decode cX6_worstOf 65 = .ok (.iload_n 2, 1) := by decide +kernel
theorem dX6_worstOf_66 : decode cX6_worstOf 66 = .ok (.if_icmp .eq 26, 3) := by decide +kernel
theorem dX6_worstOf_69 : decode cX6_worstOf 69 = .ok (.aload_n 0, 1) := by decide +kernel
theorem dX6_worstOf_70 : decode cX6_worstOf 70 = .ok (.getfield 32, 3) := by decide +kernel
theorem dX6_worstOf_73 : decode cX6_worstOf 73 = .ok (.bipush 6, 2) := by decide +kernel
theorem dX6_worstOf_75 : decode cX6_worstOf 75 = .ok (.iload_n 1, 1) := by decide +kernel
theorem dX6_worstOf_76 : decode cX6_worstOf 76 = .ok (.imul, 1) := by decide +kernel
theorem dX6_worstOf_77 : decode cX6_worstOf 77 = .ok (.iload 8, 2) := by decide +kernel
theorem dX6_worstOf_79 : decode cX6_worstOf 79 = .ok (.iadd, 1) := by decide +kernel
theorem dX6_worstOf_80 : decode cX6_worstOf 80 = .ok (.iaload, 1) := by decide +kernel
theorem dX6_worstOf_81 : decode cX6_worstOf 81 = .ok (.iload_n 3, 1) := by decide +kernel
theorem dX6_worstOf_82 : decode cX6_worstOf 82 = .ok (.invokestatic 182, 3) := by decide +kernel
theorem dX6_worstOf_85 : decode cX6_worstOf 85 = .ok (.ifCond .eq 7, 3) := by decide +kernel
theorem dX6_worstOf_88 : decode cX6_worstOf 88 = .ok (.iconst 1, 1) := by decide +kernel
theorem dX6_worstOf_89 : decode cX6_worstOf 89 = .ok (.goto 4, 3) := by decide +kernel
theorem dX6_worstOf_92 : decode cX6_worstOf 92 = .ok (.iconst 0, 1) := by decide +kernel
theorem dX6_worstOf_93 : decode cX6_worstOf 93 = .ok (.istore 9, 2) := by decide +kernel
theorem dX6_worstOf_95 : decode cX6_worstOf 95 = .ok (.iload 9, 2) := by decide +kernel
theorem dX6_worstOf_97 : decode cX6_worstOf 97 = .ok (.ifCond .eq 90, 3) := by decide +kernel
theorem dX6_worstOf_100 : decode cX6_worstOf 100 = .ok (.aload_n 0, 1) := by decide +kernel
theorem dX6_worstOf_101 : decode cX6_worstOf 101 = .ok (.getfield 16, 3) := by decide +kernel
theorem dX6_worstOf_104 : decode cX6_worstOf 104 = .ok (.iload 4, 2) := by decide +kernel
theorem dX6_worstOf_106 : decode cX6_worstOf 106 = .ok (.iload 8, 2) := by decide +kernel
theorem dX6_worstOf_108 : decode cX6_worstOf 108 = .ok (.bipush 6, 2) := by decide +kernel
theorem dX6_worstOf_110 : decode cX6_worstOf 110 = .ok (.if_icmp .ne 9, 3) := by decide +kernel
theorem dX6_worstOf_113 : decode cX6_worstOf 113 = .ok (.sipush 2000, 3) := by decide +kernel
theorem dX6_worstOf_116 : decode cX6_worstOf 116 = .ok (.goto 15, 3) := by decide +kernel
theorem dX6_worstOf_119 : decode cX6_worstOf 119 = .ok (.aload_n 0, 1) := by decide +kernel
theorem dX6_worstOf_120 : decode cX6_worstOf 120 = .ok (.getfield 16, 3) := by decide +kernel
theorem dX6_worstOf_123 : decode cX6_worstOf 123 = .ok (.bipush 9, 2) := by decide +kernel
theorem dX6_worstOf_125 : decode cX6_worstOf 125 = .ok (.iload 8, 2) := by decide +kernel
theorem dX6_worstOf_127 : decode cX6_worstOf 127 = .ok (.imul, 1) := by decide +kernel
theorem dX6_worstOf_128 : decode cX6_worstOf 128 = .ok (.iload_n 3, 1) := by decide +kernel
theorem dX6_worstOf_129 : decode cX6_worstOf 129 = .ok (.iadd, 1) := by decide +kernel
theorem dX6_worstOf_130 : decode cX6_worstOf 130 = .ok (.iaload, 1) := by decide +kernel
theorem dX6_worstOf_131 : decode cX6_worstOf 131 = .ok (.iastore, 1) := by decide +kernel
theorem dX6_worstOf_132 : decode cX6_worstOf 132 = .ok (.aload_n 0, 1) := by decide +kernel
theorem dX6_worstOf_133 : decode cX6_worstOf 133 = .ok (.getfield 19, 3) := by decide +kernel
theorem dX6_worstOf_136 : decode cX6_worstOf 136 = .ok (.iload 4, 2) := by decide +kernel
theorem dX6_worstOf_138 : decode cX6_worstOf 138 = .ok (.iload 8, 2) := by decide +kernel
theorem dX6_worstOf_140 : decode cX6_worstOf 140 = .ok (.bipush 6, 2) := by decide +kernel
theorem dX6_worstOf_142 : decode cX6_worstOf 142 = .ok (.if_icmp .ne 9, 3) := by decide +kernel
theorem dX6_worstOf_145 : decode cX6_worstOf 145 = .ok (.sipush 2000, 3) := by decide +kernel
theorem dX6_worstOf_148 : decode cX6_worstOf 148 = .ok (.goto 15, 3) := by decide +kernel
theorem dX6_worstOf_151 : decode cX6_worstOf 151 = .ok (.aload_n 0, 1) := by decide +kernel
theorem dX6_worstOf_152 : decode cX6_worstOf 152 = .ok (.getfield 19, 3) := by decide +kernel
theorem dX6_worstOf_155 : decode cX6_worstOf 155 = .ok (.bipush 9, 2) := by decide +kernel
theorem dX6_worstOf_157 : decode cX6_worstOf 157 = .ok (.iload 8, 2) := by decide +kernel
theorem dX6_worstOf_159 : decode cX6_worstOf 159 = .ok (.imul, 1) := by decide +kernel
theorem dX6_worstOf_160 : decode cX6_worstOf 160 = .ok (.iload_n 3, 1) := by decide +kernel
theorem dX6_worstOf_161 : decode cX6_worstOf 161 = .ok (.iadd, 1) := by decide +kernel
theorem dX6_worstOf_162 : decode cX6_worstOf 162 = .ok (.iaload, 1) := by decide +kernel
theorem dX6_worstOf_163 : decode cX6_worstOf 163 = .ok (.iastore, 1) := by decide +kernel
theorem dX6_worstOf_164 : decode cX6_worstOf 164 = .ok (.aload_n 0, 1) := by decide +kernel
theorem dX6_worstOf_165 : decode cX6_worstOf 165 = .ok (.iload_n 1, 1) := by decide +kernel
theorem dX6_worstOf_166 : decode cX6_worstOf 166 = .ok (.invokevirtual 330, 3) := by decide +kernel
theorem dX6_worstOf_169 : decode cX6_worstOf 169 = .ok (.istore 10, 2) := by decide +kernel
theorem dX6_worstOf_171 : decode cX6_worstOf 171 = .ok (.iload 10, 2) := by decide +kernel
theorem dX6_worstOf_173 : decode cX6_worstOf 173 = .ok (.iload 7, 2) := by decide +kernel
theorem dX6_worstOf_175 : decode cX6_worstOf 175 = .ok (.if_icmp .le 8, 3) := by decide +kernel
theorem dX6_worstOf_178 : decode cX6_worstOf 178 = .ok (.iload 10, 2) := by decide +kernel
theorem dX6_worstOf_180 : decode cX6_worstOf 180 = .ok (.goto 5, 3) := by decide +kernel
theorem dX6_worstOf_183 : decode cX6_worstOf 183 = .ok (.iload 7, 2) := by decide +kernel
theorem dX6_worstOf_185 : decode cX6_worstOf 185 = .ok (.istore 7, 2) := by decide +kernel
theorem dX6_worstOf_187 : decode cX6_worstOf 187 = .ok (.iinc 8 1, 3) := by decide +kernel
theorem dX6_worstOf_190 : decode cX6_worstOf 190 = .ok (.goto (-141), 3) := by decide +kernel
theorem dX6_worstOf_193 : decode cX6_worstOf 193 = .ok (.aload_n 0, 1) := by decide +kernel
theorem dX6_worstOf_194 : decode cX6_worstOf 194 = .ok (.getfield 32, 3) := by decide +kernel
theorem dX6_worstOf_197 : decode cX6_worstOf 197 = .ok (.bipush 6, 2) := by decide +kernel
theorem dX6_worstOf_199 : decode cX6_worstOf 199 = .ok (.iload_n 1, 1) := by decide +kernel
theorem dX6_worstOf_200 : decode cX6_worstOf 200 = .ok (.imul, 1) := by decide +kernel
theorem dX6_worstOf_201 : decode cX6_worstOf 201 = .ok (.iload_n 2, 1) := by decide +kernel
theorem dX6_worstOf_202 : decode cX6_worstOf 202 = .ok (.iadd, 1) := by decide +kernel
theorem dX6_worstOf_203 : decode cX6_worstOf 203 = .ok (.dup2, 1) := by decide +kernel
theorem dX6_worstOf_204 : decode cX6_worstOf 204 = .ok (.iaload, 1) := by decide +kernel
theorem dX6_worstOf_205 : decode cX6_worstOf 205 = .ok (.iconst 1, 1) := by decide +kernel
theorem dX6_worstOf_206 : decode cX6_worstOf 206 = .ok (.iload_n 3, 1) := by decide +kernel
theorem dX6_worstOf_207 : decode cX6_worstOf 207 = .ok (.ishl, 1) := by decide +kernel
theorem dX6_worstOf_208 : decode cX6_worstOf 208 = .ok (.iconst (-1), 1) := by decide +kernel
theorem dX6_worstOf_209 : decode cX6_worstOf 209 = .ok (.ixor, 1) := by decide +kernel
theorem dX6_worstOf_210 : decode cX6_worstOf 210 = .ok (.iand, 1) := by decide +kernel
theorem dX6_worstOf_211 : decode cX6_worstOf 211 = .ok (.iastore, 1) := by decide +kernel
theorem dX6_worstOf_212 : decode cX6_worstOf 212 = .ok (.aload_n 0, 1) := by decide +kernel
theorem dX6_worstOf_213 : decode cX6_worstOf 213 = .ok (.getfield 16, 3) := by decide +kernel
theorem dX6_worstOf_216 : decode cX6_worstOf 216 = .ok (.iload 4, 2) := by decide +kernel
theorem dX6_worstOf_218 : decode cX6_worstOf 218 = .ok (.iload 5, 2) := by decide +kernel
theorem dX6_worstOf_220 : decode cX6_worstOf 220 = .ok (.iastore, 1) := by decide +kernel
theorem dX6_worstOf_221 : decode cX6_worstOf 221 = .ok (.aload_n 0, 1) := by decide +kernel
theorem dX6_worstOf_222 : decode cX6_worstOf 222 = .ok (.getfield 19, 3) := by decide +kernel
theorem dX6_worstOf_225 : decode cX6_worstOf 225 = .ok (.iload 4, 2) := by decide +kernel
theorem dX6_worstOf_227 : decode cX6_worstOf 227 = .ok (.iload 6, 2) := by decide +kernel
theorem dX6_worstOf_229 : decode cX6_worstOf 229 = .ok (.iastore, 1) := by decide +kernel
theorem dX6_worstOf_230 : decode cX6_worstOf 230 = .ok (.iload 7, 2) := by decide +kernel
theorem dX6_worstOf_232 : decode cX6_worstOf 232 = .ok (.ireturn, 1) := by decide +kernel
theorem dX6_corner_0 : decode cX6_corner 0 = .ok (.iload_n 1, 1) := by decide +kernel
theorem dX6_corner_1 : decode cX6_corner 1 = .ok (.iload_n 2, 1) := by decide +kernel
theorem dX6_corner_2 : decode cX6_corner 2 = .ok (.invokestatic 321, 3) := by decide +kernel
theorem dX6_corner_5 : decode cX6_corner 5 = .ok (.ifCond .eq 11, 3) := by decide +kernel
theorem dX6_corner_8 : decode cX6_corner 8 = .ok (.aload_n 0, 1) := by decide +kernel
theorem dX6_corner_9 : decode cX6_corner 9 = .ok (.iload_n 3, 1) := by decide +kernel
theorem dX6_corner_10 : decode cX6_corner 10 = .ok (.invokevirtual 262, 3) := by decide +kernel
theorem dX6_corner_13 : decode cX6_corner 13 = .ok (.ifCond .ne 7, 3) := by decide +kernel
theorem dX6_corner_16 : decode cX6_corner 16 = .ok (.ldc_w 266, 3) := by decide +kernel
theorem dX6_corner_19 : decode cX6_corner 19 = .ok (.ireturn, 1) := by decide +kernel
theorem dX6_corner_20 : decode cX6_corner 20 = .ok (.aload_n 0, 1) := by decide +kernel
theorem dX6_corner_21 : decode cX6_corner 21 = .ok (.getfield 32, 3) := by decide +kernel
theorem dX6_corner_24 : decode cX6_corner 24 = .ok (.bipush 6, 2) := by decide +kernel
theorem dX6_corner_26 : decode cX6_corner 26 = .ok (.iload_n 1, 1) := by decide +kernel
theorem dX6_corner_27 : decode cX6_corner 27 = .ok (.imul, 1) := by decide +kernel
theorem dX6_corner_28 : decode cX6_corner 28 = .ok (.iload_n 2, 1) := by decide +kernel
theorem dX6_corner_29 : decode cX6_corner 29 = .ok (.iadd, 1) := by decide +kernel
theorem dX6_corner_30 : decode cX6_corner 30 = .ok (.iaload, 1) := by decide +kernel
theorem dX6_corner_31 : decode cX6_corner 31 = .ok (.iload_n 3, 1) := by decide +kernel
theorem dX6_corner_32 : decode cX6_corner 32 = .ok (.invokestatic 182, 3) := by decide +kernel
theorem dX6_corner_35 : decode cX6_corner 35 = .ok (.ifCond .ne 11, 3) := by decide +kernel
theorem dX6_corner_38 : decode cX6_corner 38 = .ok (.aload_n 0, 1) := by decide +kernel
theorem dX6_corner_39 : decode cX6_corner 39 = .ok (.iload_n 1, 1) := by decide +kernel
theorem dX6_corner_40 : decode cX6_corner 40 = .ok (.invokevirtual 330, 3) := by decide +kernel
theorem dX6_corner_43 : decode cX6_corner 43 = .ok (.ifCond .ne 7, 3) := by decide +kernel
theorem dX6_corner_46 : decode cX6_corner 46 = .ok (.ldc_w 317, 3) := by decide +kernel
theorem dX6_corner_49 : decode cX6_corner 49 = .ok (.ireturn, 1) := by decide +kernel
theorem dX6_corner_50 : decode cX6_corner 50 = .ok (.aload_n 0, 1) := by decide +kernel
theorem dX6_corner_51 : decode cX6_corner 51 = .ok (.iload_n 1, 1) := by decide +kernel
theorem dX6_corner_52 : decode cX6_corner 52 = .ok (.iload_n 2, 1) := by decide +kernel
theorem dX6_corner_53 : decode cX6_corner 53 = .ok (.iload_n 3, 1) := by decide +kernel
theorem dX6_corner_54 : decode cX6_corner 54 = .ok (.invokevirtual 354, 3) := by decide +kernel
theorem dX6_corner_57 : decode cX6_corner 57 = .ok (.ireturn, 1) := by decide +kernel
theorem dX6_bestCorner_0 : decode cX6_bestCorner 0 = .ok (.iload_n 1, 1) := by decide +kernel
theorem dX6_bestCorner_1 : decode cX6_bestCorner 1 = .ok (.invokestatic 267, 3) := by decide +kernel
theorem dX6_bestCorner_4 : decode cX6_bestCorner 4 = .ok (.ifCond .ne 7, 3) := by decide +kernel
theorem dX6_bestCorner_7 : decode cX6_bestCorner 7 = .ok (.ldc_w 266, 3) := by decide +kernel
theorem dX6_bestCorner_10 : decode cX6_bestCorner 10 = .ok (.ireturn, 1) := by decide +kernel
theorem dX6_bestCorner_11 : decode cX6_bestCorner 11 = .ok (.iload_n 2, 1) := by decide +kernel
theorem dX6_bestCorner_12 : decode cX6_bestCorner 12 = .ok (.i2l, 1) := by decide +kernel
theorem dX6_bestCorner_13 : decode cX6_bestCorner 13 = .ok (.lconst 0, 1) := by decide +kernel
theorem dX6_bestCorner_14 : decode cX6_bestCorner 14 = .ok (.ldc2_w 357, 3) := by decide +kernel
theorem dX6_bestCorner_17 : decode cX6_bestCorner 17 = .ok (.invokestatic 114, 3) := by decide +kernel
theorem dX6_bestCorner_20 : decode cX6_bestCorner 20 = .ok (.ifCond .ne 6, 3) := by decide +kernel
theorem dX6_bestCorner_23 : decode cX6_bestCorner 23 = .ok (.ldc 125, 2) := by decide +kernel
theorem dX6_bestCorner_25 : decode cX6_bestCorner 25 = .ok (.ireturn, 1) := by decide +kernel
theorem dX6_bestCorner_26 : decode cX6_bestCorner 26 = .ok (.aload_n 0, 1) := by decide +kernel
theorem dX6_bestCorner_27 : decode cX6_bestCorner 27 = .ok (.iload_n 1, 1) := by decide +kernel
theorem dX6_bestCorner_28 : decode cX6_bestCorner 28 = .ok (.invokevirtual 330, 3) := by decide +kernel
theorem dX6_bestCorner_31 : decode cX6_bestCorner 31 = .ok (.ifCond .ne 5, 3) := by decide +kernel
theorem dX6_bestCorner_34 : decode cX6_bestCorner 34 = .ok (.iconst (-1), 1) := by decide +kernel
theorem dX6_bestCorner_35 : decode cX6_bestCorner 35 = .ok (.ireturn, 1) := by decide +kernel
theorem dX6_bestCorner_36 : decode cX6_bestCorner 36 = .ok (.iconst (-1), 1) := by decide +kernel
theorem dX6_bestCorner_37 : decode cX6_bestCorner 37 = .ok (.istore_n 3, 1) := by decide +kernel
theorem dX6_bestCorner_38 : decode cX6_bestCorner 38 = .ok (.iconst 0, 1) := by decide +kernel
theorem dX6_bestCorner_39 : decode cX6_bestCorner 39 = .ok (.istore 4, 2) := by decide +kernel
theorem dX6_bestCorner_41 : decode cX6_bestCorner 41 = .ok (.iconst 0, 1) := by decide +kernel
theorem dX6_bestCorner_42 : decode cX6_bestCorner 42 = .ok (.istore 5, 2) := by decide +kernel
theorem dX6_bestCorner_44 : decode cX6_bestCorner 44 = .ok (.iload 5, 2) := by decide +kernel
theorem dX6_bestCorner_46 : decode cX6_bestCorner 46 = .ok (.bipush 6, 2) := by decide +kernel
theorem dX6_bestCorner_48 : decode cX6_bestCorner 48 = .ok (.if_icmp .ge 114, 3) := by decide +kernel
theorem dX6_bestCorner_51 : decode cX6_bestCorner 51 = .ok (.iconst 0, 1) := by decide +kernel
theorem dX6_bestCorner_52 : decode cX6_bestCorner 52 = .ok (.istore 6, 2) := by decide +kernel
theorem dX6_bestCorner_54 : decode cX6_bestCorner 54 = .ok (.iload 6, 2) := by decide +kernel
theorem dX6_bestCorner_56 : decode cX6_bestCorner 56 = .ok (.aload_n 0, 1) := by decide +kernel
theorem dX6_bestCorner_57 : decode cX6_bestCorner 57 = .ok (.getfield 111, 3) := by decide +kernel
theorem dX6_bestCorner_60 : decode cX6_bestCorner 60 = .ok (.if_icmp .ge 96, 3) := by decide +kernel
theorem dX6_bestCorner_63 : decode cX6_bestCorner 63 = .ok (.iload 5, 2) := by decide +kernel
theorem dX6_bestCorner_65 : decode cX6_bestCorner 65 = .ok (.iload_n 1, 1) := by decide +kernel
theorem dX6_bestCorner_66 : decode cX6_bestCorner 66 = .ok (.if_icmp .eq 90, 3) := by decide +kernel
theorem dX6_bestCorner_69 : decode cX6_bestCorner 69 = .ok (.aload_n 0, 1) := by decide +kernel
theorem dX6_bestCorner_70 : decode cX6_bestCorner 70 = .ok (.getfield 32, 3) := by decide +kernel
theorem dX6_bestCorner_73 : decode cX6_bestCorner 73 = .ok (.bipush 6, 2) := by decide +kernel
theorem dX6_bestCorner_75 : decode cX6_bestCorner 75 = .ok (.iload_n 1, 1) := by decide +kernel
theorem dX6_bestCorner_76 : decode cX6_bestCorner 76 = .ok (.imul, 1) := by decide +kernel
theorem dX6_bestCorner_77 : decode cX6_bestCorner 77 = .ok (.iload 5, 2) := by decide +kernel
theorem dX6_bestCorner_79 : decode cX6_bestCorner 79 = .ok (.iadd, 1) := by decide +kernel
theorem dX6_bestCorner_80 : decode cX6_bestCorner 80 = .ok (.iaload, 1) := by decide +kernel
theorem dX6_bestCorner_81 : decode cX6_bestCorner 81 = .ok (.iload 6, 2) := by decide +kernel
theorem dX6_bestCorner_83 : decode cX6_bestCorner 83 = .ok (.invokestatic 182, 3) := by decide +kernel
theorem dX6_bestCorner_86 : decode cX6_bestCorner 86 = .ok (.ifCond .ne 64, 3) := by decide +kernel
theorem dX6_bestCorner_89 : decode cX6_bestCorner 89 = .ok (.aload_n 0, 1) := by decide +kernel
theorem dX6_bestCorner_90 : decode cX6_bestCorner 90 = .ok (.iload_n 1, 1) := by decide +kernel
theorem dX6_bestCorner_91 : decode cX6_bestCorner 91 = .ok (.iload 5, 2) := by decide +kernel
theorem dX6_bestCorner_93 : decode cX6_bestCorner 93 = .ok (.iload 6, 2) := by decide +kernel
theorem dX6_bestCorner_95 : decode cX6_bestCorner 95 = .ok (.invokevirtual 354, 3) := by decide +kernel
theorem dX6_bestCorner_98 : decode cX6_bestCorner 98 = .ok (.istore 7, 2) := by decide +kernel
theorem dX6_bestCorner_100 : decode cX6_bestCorner 100 = .ok (.iload_n 3, 1) := by decide +kernel
theorem dX6_bestCorner_101 : decode cX6_bestCorner 101 = .ok (.ifCond .lt 10, 3) := by decide +kernel
theorem dX6_bestCorner_104 : decode cX6_bestCorner 104 = .ok (.iload 7, 2) := by decide +kernel
theorem dX6_bestCorner_106 : decode cX6_bestCorner 106 = .ok (.iload 4, 2) := by decide +kernel
theorem dX6_bestCorner_108 : decode cX6_bestCorner 108 = .ok (.if_icmp .ge 7, 3) := by decide +kernel
theorem dX6_bestCorner_111 : decode cX6_bestCorner 111 = .ok (.iconst 1, 1) := by decide +kernel
theorem dX6_bestCorner_112 : decode cX6_bestCorner 112 = .ok (.goto 4, 3) := by decide +kernel
theorem dX6_bestCorner_115 : decode cX6_bestCorner 115 = .ok (.iconst 0, 1) := by decide +kernel
theorem dX6_bestCorner_116 : decode cX6_bestCorner 116 = .ok (.istore 8, 2) := by decide +kernel
theorem dX6_bestCorner_118 : decode cX6_bestCorner 118 = .ok (.iload 8, 2) := by decide +kernel
theorem dX6_bestCorner_120 : decode cX6_bestCorner 120 = .ok (.ifCond .eq 14, 3) := by decide +kernel
theorem dX6_bestCorner_123 : decode cX6_bestCorner 123 = .ok (.bipush 9, 2) := by decide +kernel
theorem dX6_bestCorner_125 : decode cX6_bestCorner 125 = .ok (.iload 5, 2) := by decide +kernel
theorem dX6_bestCorner_127 : decode cX6_bestCorner 127 = .ok (.imul, 1) := by decide +kernel
theorem dX6_bestCorner_128 : decode cX6_bestCorner 128 = .ok (.iload 6, 2) := by decide +kernel
theorem dX6_bestCorner_130 : decode cX6_bestCorner 130 = .ok (.iadd, 1) := by decide +kernel
theorem dX6_bestCorner_131 : decode cX6_bestCorner 131 = .ok (.goto 4, 3) := by decide +kernel
theorem dX6_bestCorner_134 : decode cX6_bestCorner 134 = .ok (.iload_n 3, 1) := by decide +kernel
theorem dX6_bestCorner_135 : decode cX6_bestCorner 135 = .ok (.istore_n 3, 1) := by decide +kernel
theorem dX6_bestCorner_136 : decode cX6_bestCorner 136 = .ok (.iload 8, 2) := by decide +kernel
theorem dX6_bestCorner_138 : decode cX6_bestCorner 138 = .ok (.ifCond .eq 8, 3) := by decide +kernel
theorem dX6_bestCorner_141 : decode cX6_bestCorner 141 = .ok (.iload 7, 2) := by decide +kernel
theorem dX6_bestCorner_143 : decode cX6_bestCorner 143 = .ok (.goto 5, 3) := by decide +kernel
theorem dX6_bestCorner_146 : decode cX6_bestCorner 146 = .ok (.iload 4, 2) := by decide +kernel
theorem dX6_bestCorner_148 : decode cX6_bestCorner 148 = .ok (.istore 4, 2) := by decide +kernel
theorem dX6_bestCorner_150 : decode cX6_bestCorner 150 = .ok (.iinc 6 1, 3) := by decide +kernel
theorem dX6_bestCorner_153 : decode cX6_bestCorner 153 = .ok (.goto (-99), 3) := by decide +kernel
theorem dX6_bestCorner_156 : decode cX6_bestCorner 156 = .ok (.iinc 5 1, 3) := by decide +kernel
theorem dX6_bestCorner_159 : decode cX6_bestCorner 159 = .ok (.goto (-115), 3) := by decide +kernel
theorem dX6_bestCorner_162 : decode cX6_bestCorner 162 = .ok (.iload_n 3, 1) := by decide +kernel
theorem dX6_bestCorner_163 : decode cX6_bestCorner 163 = .ok (.ifCond .ge 7, 3) := by decide +kernel
theorem dX6_bestCorner_166 : decode cX6_bestCorner 166 = .ok (.iconst (-1), 1) := by decide +kernel
theorem dX6_bestCorner_167 : decode cX6_bestCorner 167 = .ok (.goto 28, 3) := by decide +kernel
theorem dX6_bestCorner_170 : decode cX6_bestCorner 170 = .ok (.iload_n 2, 1) := by decide +kernel
theorem dX6_bestCorner_171 : decode cX6_bestCorner 171 = .ok (.ifCond .ne 10, 3) := by decide +kernel
theorem dX6_bestCorner_174 : decode cX6_bestCorner 174 = .ok (.iload_n 3, 1) := by decide +kernel
theorem dX6_bestCorner_175 : decode cX6_bestCorner 175 = .ok (.bipush 9, 2) := by decide +kernel
theorem dX6_bestCorner_177 : decode cX6_bestCorner 177 = .ok (.idiv, 1) := by decide +kernel
theorem dX6_bestCorner_178 : decode cX6_bestCorner 178 = .ok (.goto 17, 3) := by decide +kernel
theorem dX6_bestCorner_181 : decode cX6_bestCorner 181 = .ok (.iload_n 2, 1) := by decide +kernel
theorem dX6_bestCorner_182 : decode cX6_bestCorner 182 = .ok (.iconst 1, 1) := by decide +kernel
theorem dX6_bestCorner_183 : decode cX6_bestCorner 183 = .ok (.if_icmp .ne 10, 3) := by decide +kernel
theorem dX6_bestCorner_186 : decode cX6_bestCorner 186 = .ok (.iload_n 3, 1) := by decide +kernel
theorem dX6_bestCorner_187 : decode cX6_bestCorner 187 = .ok (.bipush 9, 2) := by decide +kernel
theorem dX6_bestCorner_189 : decode cX6_bestCorner 189 = .ok (.irem, 1) := by decide +kernel
theorem dX6_bestCorner_190 : decode cX6_bestCorner 190 = .ok (.goto 5, 3) := by decide +kernel
theorem dX6_bestCorner_193 : decode cX6_bestCorner 193 = .ok (.iload 4, 2) := by decide +kernel
theorem dX6_bestCorner_195 : decode cX6_bestCorner 195 = .ok (.ireturn, 1) := by decide +kernel
theorem dX6_spades_0 : decode cX6_spades 0 = .ok (.iload_n 1, 1) := by decide +kernel
theorem dX6_spades_1 : decode cX6_spades 1 = .ok (.invokestatic 267, 3) := by decide +kernel
theorem dX6_spades_4 : decode cX6_spades 4 = .ok (.ifCond .ne 7, 3) := by decide +kernel
theorem dX6_spades_7 : decode cX6_spades 7 = .ok (.ldc_w 266, 3) := by decide +kernel
theorem dX6_spades_10 : decode cX6_spades 10 = .ok (.ireturn, 1) := by decide +kernel
theorem dX6_spades_11 : decode cX6_spades 11 = .ok (.aload_n 0, 1) := by decide +kernel
theorem dX6_spades_12 : decode cX6_spades 12 = .ok (.iload_n 1, 1) := by decide +kernel
theorem dX6_spades_13 : decode cX6_spades 13 = .ok (.invokevirtual 344, 3) := by decide +kernel
theorem dX6_spades_16 : decode cX6_spades 16 = .ok (.iconst 0, 1) := by decide +kernel
theorem dX6_spades_17 : decode cX6_spades 17 = .ok (.istore_n 2, 1) := by decide +kernel
theorem dX6_spades_18 : decode cX6_spades 18 = .ok (.iconst 0, 1) := by decide +kernel
theorem dX6_spades_19 : decode cX6_spades 19 = .ok (.istore_n 3, 1) := by decide +kernel
theorem dX6_spades_20 : decode cX6_spades 20 = .ok (.iload_n 3, 1) := by decide +kernel
theorem dX6_spades_21 : decode cX6_spades 21 = .ok (.aload_n 0, 1) := by decide +kernel
theorem dX6_spades_22 : decode cX6_spades 22 = .ok (.getfield 335, 3) := by decide +kernel
theorem dX6_spades_25 : decode cX6_spades 25 = .ok (.if_icmp .ge 18, 3) := by decide +kernel
theorem dX6_spades_28 : decode cX6_spades 28 = .ok (.iload_n 2, 1) := by decide +kernel
theorem dX6_spades_29 : decode cX6_spades 29 = .ok (.aload_n 0, 1) := by decide +kernel
theorem dX6_spades_30 : decode cX6_spades 30 = .ok (.getfield 87, 3) := by decide +kernel
theorem dX6_spades_33 : decode cX6_spades 33 = .ok (.iload_n 3, 1) := by decide +kernel
theorem dX6_spades_34 : decode cX6_spades 34 = .ok (.iaload, 1) := by decide +kernel
theorem dX6_spades_35 : decode cX6_spades 35 = .ok (.iadd, 1) := by decide +kernel
theorem dX6_spades_36 : decode cX6_spades 36 = .ok (.istore_n 2, 1) := by decide +kernel
theorem dX6_spades_37 : decode cX6_spades 37 = .ok (.iinc 3 1, 3) := by decide +kernel
theorem dX6_spades_40 : decode cX6_spades 40 = .ok (.goto (-20), 3) := by decide +kernel
theorem dX6_spades_43 : decode cX6_spades 43 = .ok (.aload_n 0, 1) := by decide +kernel
theorem dX6_spades_44 : decode cX6_spades 44 = .ok (.getfield 338, 3) := by decide +kernel
theorem dX6_spades_47 : decode cX6_spades 47 = .ok (.ifCond .eq 11, 3) := by decide +kernel
theorem dX6_spades_50 : decode cX6_spades 50 = .ok (.iload_n 2, 1) := by decide +kernel
theorem dX6_spades_51 : decode cX6_spades 51 = .ok (.aload_n 0, 1) := by decide +kernel
theorem dX6_spades_52 : decode cX6_spades 52 = .ok (.getfield 338, 3) := by decide +kernel
theorem dX6_spades_55 : decode cX6_spades 55 = .ok (.if_icmp .ge 7, 3) := by decide +kernel
theorem dX6_spades_58 : decode cX6_spades 58 = .ok (.iconst (-1), 1) := by decide +kernel
theorem dX6_spades_59 : decode cX6_spades 59 = .ok (.goto 7, 3) := by decide +kernel
theorem dX6_spades_62 : decode cX6_spades 62 = .ok (.aload_n 0, 1) := by decide +kernel
theorem dX6_spades_63 : decode cX6_spades 63 = .ok (.getfield 335, 3) := by decide +kernel
theorem dX6_spades_66 : decode cX6_spades 66 = .ok (.ireturn, 1) := by decide +kernel
theorem dX6_found_0 : decode cX6_found 0 = .ok (.iload_n 1, 1) := by decide +kernel
theorem dX6_found_1 : decode cX6_found 1 = .ok (.invokestatic 267, 3) := by decide +kernel
theorem dX6_found_4 : decode cX6_found 4 = .ok (.ifCond .ne 7, 3) := by decide +kernel
theorem dX6_found_7 : decode cX6_found 7 = .ok (.ldc_w 266, 3) := by decide +kernel
theorem dX6_found_10 : decode cX6_found 10 = .ok (.ireturn, 1) := by decide +kernel
theorem dX6_found_11 : decode cX6_found 11 = .ok (.aload_n 0, 1) := by decide +kernel
theorem dX6_found_12 : decode cX6_found 12 = .ok (.getfield 120, 3) := by decide +kernel
theorem dX6_found_15 : decode cX6_found 15 = .ok (.istore_n 2, 1) := by decide +kernel
theorem dX6_found_16 : decode cX6_found 16 = .ok (.aload_n 0, 1) := by decide +kernel
theorem dX6_found_17 : decode cX6_found 17 = .ok (.iconst 0, 1) := by decide +kernel
theorem dX6_found_18 : decode cX6_found 18 = .ok (.putfield 120, 3) := by decide +kernel
theorem dX6_found_21 : decode cX6_found 21 = .ok (.iconst 0, 1) := by decide +kernel
theorem dX6_found_22 : decode cX6_found 22 = .ok (.istore_n 3, 1) := by decide +kernel
theorem dX6_found_23 : decode cX6_found 23 = .ok (.iload_n 3, 1) := by decide +kernel
theorem dX6_found_24 : decode cX6_found 24 = .ok (.bipush 6, 2) := by decide +kernel
theorem dX6_found_26 : decode cX6_found 26 = .ok (.if_icmp .ge 52, 3) := by decide +kernel
theorem dX6_found_29 : decode cX6_found 29 = .ok (.aload_n 0, 1) := by decide +kernel
theorem dX6_found_30 : decode cX6_found 30 = .ok (.getfield 90, 3) := by decide +kernel
theorem dX6_found_33 : decode cX6_found 33 = .ok (.iload_n 3, 1) := by decide +kernel
theorem dX6_found_34 : decode cX6_found 34 = .ok (.aload_n 0, 1) := by decide +kernel
theorem dX6_found_35 : decode cX6_found 35 = .ok (.getfield 32, 3) := by decide +kernel
theorem dX6_found_38 : decode cX6_found 38 = .ok (.bipush 6, 2) := by decide +kernel
theorem dX6_found_40 : decode cX6_found 40 = .ok (.iload_n 1, 1) := by decide +kernel
theorem dX6_found_41 : decode cX6_found 41 = .ok (.imul, 1) := by decide +kernel
theorem dX6_found_42 : decode cX6_found 42 = .ok (.iload_n 3, 1) := by decide +kernel
theorem dX6_found_43 : decode cX6_found 43 = .ok (.iadd, 1) := by decide +kernel
theorem dX6_found_44 : decode cX6_found 44 = .ok (.iaload, 1) := by decide +kernel
theorem dX6_found_45 : decode cX6_found 45 = .ok (.iastore, 1) := by decide +kernel
theorem dX6_found_46 : decode cX6_found 46 = .ok (.aload_n 0, 1) := by decide +kernel
theorem dX6_found_47 : decode cX6_found 47 = .ok (.getfield 32, 3) := by decide +kernel
theorem dX6_found_50 : decode cX6_found 50 = .ok (.bipush 6, 2) := by decide +kernel
theorem dX6_found_52 : decode cX6_found 52 = .ok (.iload_n 1, 1) := by decide +kernel
theorem dX6_found_53 : decode cX6_found 53 = .ok (.imul, 1) := by decide +kernel
theorem dX6_found_54 : decode cX6_found 54 = .ok (.iload_n 3, 1) := by decide +kernel
theorem dX6_found_55 : decode cX6_found 55 = .ok (.iadd, 1) := by decide +kernel
theorem dX6_found_56 : decode cX6_found 56 = .ok (.iload_n 3, 1) := by decide +kernel
theorem dX6_found_57 : decode cX6_found 57 = .ok (.iload_n 1, 1) := by decide +kernel
theorem dX6_found_58 : decode cX6_found 58 = .ok (.if_icmp .ne 12, 3) := by decide +kernel
theorem dX6_found_61 : decode cX6_found 61 = .ok (.aload_n 0, 1) := by decide +kernel
theorem dX6_found_62 : decode cX6_found 62 = .ok (.getfield 90, 3) := by decide +kernel
theorem dX6_found_65 : decode cX6_found 65 = .ok (.iload_n 3, 1) := by decide +kernel
theorem dX6_found_66 : decode cX6_found 66 = .ok (.iaload, 1) := by decide +kernel
theorem dX6_found_67 : decode cX6_found 67 = .ok (.goto 4, 3) := by decide +kernel
theorem dX6_found_70 : decode cX6_found 70 = .ok (.iconst 0, 1) := by decide +kernel
theorem dX6_found_71 : decode cX6_found 71 = .ok (.iastore, 1) := by decide +kernel
theorem dX6_found_72 : decode cX6_found 72 = .ok (.iinc 3 1, 3) := by decide +kernel
theorem dX6_found_75 : decode cX6_found 75 = .ok (.goto (-52), 3) := by decide +kernel
theorem dX6_found_78 : decode cX6_found 78 = .ok (.iconst 0, 1) := by decide +kernel
theorem dX6_found_79 : decode cX6_found 79 = .ok (.istore_n 3, 1) := by decide +kernel
theorem dX6_found_80 : decode cX6_found 80 = .ok (.aload_n 0, 1) := by decide +kernel
theorem dX6_found_81 : decode cX6_found 81 = .ok (.iload_n 1, 1) := by decide +kernel
theorem dX6_found_82 : decode cX6_found 82 = .ok (.invokevirtual 330, 3) := by decide +kernel
theorem dX6_found_85 : decode cX6_found 85 = .ok (.iconst 1, 1) := by decide +kernel
theorem dX6_found_86 : decode cX6_found 86 = .ok (.if_icmp .ne 7, 3) := by decide +kernel
theorem dX6_found_89 : decode cX6_found 89 = .ok (.iconst 0, 1) := by decide +kernel
theorem dX6_found_90 : decode cX6_found 90 = .ok (.goto 4, 3) := by decide +kernel
theorem dX6_found_93 : decode cX6_found 93 = .ok (.iconst (-1), 1) := by decide +kernel
theorem dX6_found_94 : decode cX6_found 94 = .ok (.istore 4, 2) := by decide +kernel
theorem dX6_found_96 : decode cX6_found 96 = .ok (.iconst 0, 1) := by decide +kernel
theorem dX6_found_97 : decode cX6_found 97 = .ok (.istore 5, 2) := by decide +kernel
theorem dX6_found_99 : decode cX6_found 99 = .ok (.iload 5, 2) := by decide +kernel
theorem dX6_found_101 : decode cX6_found 101 = .ok (.bipush 54, 2) := by decide +kernel
theorem dX6_found_103 : decode cX6_found 103 = .ok (.if_icmp .ge 81, 3) := by decide +kernel
theorem dX6_found_106 : decode cX6_found 106 = .ok (.iload 4, 2) := by decide +kernel
theorem dX6_found_108 : decode cX6_found 108 = .ok (.ifCond .ge 76, 3) := by decide +kernel
theorem dX6_found_111 : decode cX6_found 111 = .ok (.iload 5, 2) := by decide +kernel
theorem dX6_found_113 : decode cX6_found 113 = .ok (.bipush 9, 2) := by decide +kernel
theorem dX6_found_115 : decode cX6_found 115 = .ok (.idiv, 1) := by decide +kernel
theorem dX6_found_116 : decode cX6_found 116 = .ok (.istore 6, 2) := by decide +kernel
theorem dX6_found_118 : decode cX6_found 118 = .ok (.iload 5, 2) := by decide +kernel
theorem dX6_found_120 : decode cX6_found 120 = .ok (.bipush 9, 2) := by decide +kernel
theorem dX6_found_122 : decode cX6_found 122 = .ok (.irem, 1) := by decide +kernel
theorem dX6_found_123 : decode cX6_found 123 = .ok (.istore 7, 2) := by decide +kernel
theorem dX6_found_125 : decode cX6_found 125 = .ok (.iload 6, 2) := by decide +kernel
theorem dX6_found_127 : decode cX6_found 127 = .ok (.iload_n 1, 1) := by decide +kernel
theorem dX6_found_128 : decode cX6_found 128 = .ok (.if_icmp .eq 50, 3) := by decide +kernel
theorem dX6_found_131 : decode cX6_found 131 = .ok (.iload 7, 2) := by decide +kernel
theorem dX6_found_133 : decode cX6_found 133 = .ok (.aload_n 0, 1) := by decide +kernel
theorem dX6_found_134 : decode cX6_found 134 = .ok (.getfield 111, 3) := by decide +kernel
theorem dX6_found_137 : decode cX6_found 137 = .ok (.if_icmp .ge 41, 3) := by decide +kernel
theorem dX6_found_140 : decode cX6_found 140 = .ok (.aload_n 0, 1) := by decide +kernel
theorem dX6_found_141 : decode cX6_found 141 = .ok (.getfield 32, 3) := by decide +kernel
theorem dX6_found_144 : decode cX6_found 144 = .ok (.bipush 6, 2) := by decide +kernel
theorem dX6_found_146 : decode cX6_found 146 = .ok (.iload_n 1, 1) := by decide +kernel
theorem dX6_found_147 : decode cX6_found 147 = .ok (.imul, 1) := by decide +kernel
theorem dX6_found_148 : decode cX6_found 148 = .ok (.iload 6, 2) := by decide +kernel
theorem dX6_found_150 : decode cX6_found 150 = .ok (.iadd, 1) := by decide +kernel
theorem dX6_found_151 : decode cX6_found 151 = .ok (.dup2, 1) := by decide +kernel
theorem dX6_found_152 : decode cX6_found 152 = .ok (.iaload, 1) := by decide +kernel
theorem dX6_found_153 : decode cX6_found 153 = .ok (.iconst 1, 1) := by decide +kernel
theorem dX6_found_154 : decode cX6_found 154 = .ok (.iload 7, 2) := by decide +kernel
theorem dX6_found_156 : decode cX6_found 156 = .ok (.ishl, 1) := by decide +kernel
theorem dX6_found_157 : decode cX6_found 157 = .ok (.ior, 1) := by decide +kernel
theorem dX6_found_158 : decode cX6_found 158 = .ok (.iastore, 1) := by decide +kernel
theorem dX6_found_159 : decode cX6_found 159 = .ok (.iinc 3 1, 3) := by decide +kernel
theorem dX6_found_162 : decode cX6_found 162 = .ok (.aload_n 0, 1) := by decide +kernel
theorem dX6_found_163 : decode cX6_found 163 = .ok (.iload_n 1, 1) := by decide +kernel
theorem dX6_found_164 : decode cX6_found 164 = .ok (.invokevirtual 330, 3) := by decide +kernel
theorem dX6_found_167 : decode cX6_found 167 = .ok (.iconst 1, 1) := by decide +kernel
theorem dX6_found_168 : decode cX6_found 168 = .ok (.if_icmp .ne 7, 3) := by decide +kernel
theorem dX6_found_171 : decode cX6_found 171 = .ok (.iload_n 3, 1) := by decide +kernel
theorem dX6_found_172 : decode cX6_found 172 = .ok (.goto 4, 3) := by decide +kernel
theorem dX6_found_175 : decode cX6_found 175 = .ok (.iconst (-1), 1) := by decide +kernel
theorem dX6_found_176 : decode cX6_found 176 = .ok (.istore 4, 2) := by decide +kernel
theorem dX6_found_178 : decode cX6_found 178 = .ok (.iinc 5 1, 3) := by decide +kernel
theorem dX6_found_181 : decode cX6_found 181 = .ok (.goto (-82), 3) := by decide +kernel
theorem dX6_found_184 : decode cX6_found 184 = .ok (.iconst 0, 1) := by decide +kernel
theorem dX6_found_185 : decode cX6_found 185 = .ok (.istore 5, 2) := by decide +kernel
theorem dX6_found_187 : decode cX6_found 187 = .ok (.iload 5, 2) := by decide +kernel
theorem dX6_found_189 : decode cX6_found 189 = .ok (.bipush 6, 2) := by decide +kernel
theorem dX6_found_191 : decode cX6_found 191 = .ok (.if_icmp .ge 28, 3) := by decide +kernel
theorem dX6_found_194 : decode cX6_found 194 = .ok (.aload_n 0, 1) := by decide +kernel
theorem dX6_found_195 : decode cX6_found 195 = .ok (.getfield 32, 3) := by decide +kernel
theorem dX6_found_198 : decode cX6_found 198 = .ok (.bipush 6, 2) := by decide +kernel
theorem dX6_found_200 : decode cX6_found 200 = .ok (.iload_n 1, 1) := by decide +kernel
theorem dX6_found_201 : decode cX6_found 201 = .ok (.imul, 1) := by decide +kernel
theorem dX6_found_202 : decode cX6_found 202 = .ok (.iload 5, 2) := by decide +kernel
theorem dX6_found_204 : decode cX6_found 204 = .ok (.iadd, 1) := by decide +kernel
theorem dX6_found_205 : decode cX6_found 205 = .ok (.aload_n 0, 1) := by decide +kernel
theorem dX6_found_206 : decode cX6_found 206 = .ok (.getfield 90, 3) := by decide +kernel
theorem dX6_found_209 : decode cX6_found 209 = .ok (.iload 5, 2) := by decide +kernel
theorem dX6_found_211 : decode cX6_found 211 = .ok (.iaload, 1) := by decide +kernel
theorem dX6_found_212 : decode cX6_found 212 = .ok (.iastore, 1) := by decide +kernel
theorem dX6_found_213 : decode cX6_found 213 = .ok (.iinc 5 1, 3) := by decide +kernel
theorem dX6_found_216 : decode cX6_found 216 = .ok (.goto (-29), 3) := by decide +kernel
theorem dX6_found_219 : decode cX6_found 219 = .ok (.aload_n 0, 1) := by decide +kernel
theorem dX6_found_220 : decode cX6_found 220 = .ok (.iload_n 2, 1) := by decide +kernel
theorem dX6_found_221 : decode cX6_found 221 = .ok (.putfield 120, 3) := by decide +kernel
theorem dX6_found_224 : decode cX6_found 224 = .ok (.iload 4, 2) := by decide +kernel
theorem dX6_found_226 : decode cX6_found 226 = .ok (.ireturn, 1) := by decide +kernel
theorem dX6_say_0 : decode cX6_say 0 = .ok (.iload_n 1, 1) := by decide +kernel
theorem dX6_say_1 : decode cX6_say 1 = .ok (.invokestatic 267, 3) := by decide +kernel
theorem dX6_say_4 : decode cX6_say 4 = .ok (.ifCond .eq 10, 3) := by decide +kernel
theorem dX6_say_7 : decode cX6_say 7 = .ok (.iload_n 2, 1) := by decide +kernel
theorem dX6_say_8 : decode cX6_say 8 = .ok (.invokestatic 267, 3) := by decide +kernel
theorem dX6_say_11 : decode cX6_say 11 = .ok (.ifCond .ne 7, 3) := by decide +kernel
theorem dX6_say_14 : decode cX6_say 14 = .ok (.ldc_w 266, 3) := by decide +kernel
theorem dX6_say_17 : decode cX6_say 17 = .ok (.ireturn, 1) := by decide +kernel
theorem dX6_say_18 : decode cX6_say 18 = .ok (.aload_n 0, 1) := by decide +kernel
theorem dX6_say_19 : decode cX6_say 19 = .ok (.getfield 259, 3) := by decide +kernel
theorem dX6_say_22 : decode cX6_say 22 = .ok (.bipush 20, 2) := by decide +kernel
theorem dX6_say_24 : decode cX6_say 24 = .ok (.if_icmp .ne 6, 3) := by decide +kernel
theorem dX6_say_27 : decode cX6_say 27 = .ok (.ldc 129, 2) := by decide +kernel
theorem dX6_say_29 : decode cX6_say 29 = .ok (.ireturn, 1) := by decide +kernel
theorem dX6_say_30 : decode cX6_say 30 = .ok (.aload_n 0, 1) := by decide +kernel
theorem dX6_say_31 : decode cX6_say 31 = .ok (.getfield 93, 3) := by decide +kernel
theorem dX6_say_34 : decode cX6_say 34 = .ok (.aload_n 0, 1) := by decide +kernel
theorem dX6_say_35 : decode cX6_say 35 = .ok (.getfield 259, 3) := by decide +kernel
theorem dX6_say_38 : decode cX6_say 38 = .ok (.iload_n 1, 1) := by decide +kernel
theorem dX6_say_39 : decode cX6_say 39 = .ok (.iastore, 1) := by decide +kernel
theorem dX6_say_40 : decode cX6_say 40 = .ok (.aload_n 0, 1) := by decide +kernel
theorem dX6_say_41 : decode cX6_say 41 = .ok (.getfield 96, 3) := by decide +kernel
theorem dX6_say_44 : decode cX6_say 44 = .ok (.aload_n 0, 1) := by decide +kernel
theorem dX6_say_45 : decode cX6_say 45 = .ok (.getfield 259, 3) := by decide +kernel
theorem dX6_say_48 : decode cX6_say 48 = .ok (.iload_n 2, 1) := by decide +kernel
theorem dX6_say_49 : decode cX6_say 49 = .ok (.iastore, 1) := by decide +kernel
theorem dX6_say_50 : decode cX6_say 50 = .ok (.aload_n 0, 1) := by decide +kernel
theorem dX6_say_51 : decode cX6_say 51 = .ok (.getfield 99, 3) := by decide +kernel
theorem dX6_say_54 : decode cX6_say 54 = .ok (.aload_n 0, 1) := by decide +kernel
theorem dX6_say_55 : decode cX6_say 55 = .ok (.getfield 259, 3) := by decide +kernel
theorem dX6_say_58 : decode cX6_say 58 = .ok (.iload_n 3, 1) := by decide +kernel
theorem dX6_say_59 : decode cX6_say 59 = .ok (.bastore, 1) := by decide +kernel
theorem dX6_say_60 : decode cX6_say 60 = .ok (.aload_n 0, 1) := by decide +kernel
theorem dX6_say_61 : decode cX6_say 61 = .ok (.dup, 1) := by decide +kernel
theorem dX6_say_62 : decode cX6_say 62 = .ok (.getfield 259, 3) := by decide +kernel
theorem dX6_say_65 : decode cX6_say 65 = .ok (.iconst 1, 1) := by decide +kernel
theorem dX6_say_66 : decode cX6_say 66 = .ok (.iadd, 1) := by decide +kernel
theorem dX6_say_67 : decode cX6_say 67 = .ok (.putfield 259, 3) := by decide +kernel
theorem dX6_say_70 : decode cX6_say 70 = .ok (.aload_n 0, 1) := by decide +kernel
theorem dX6_say_71 : decode cX6_say 71 = .ok (.getfield 259, 3) := by decide +kernel
theorem dX6_say_74 : decode cX6_say 74 = .ok (.iconst 1, 1) := by decide +kernel
theorem dX6_say_75 : decode cX6_say 75 = .ok (.isub, 1) := by decide +kernel
theorem dX6_say_76 : decode cX6_say 76 = .ok (.ireturn, 1) := by decide +kernel
theorem dX6_forget_0 : decode cX6_forget 0 = .ok (.aload_n 0, 1) := by decide +kernel
theorem dX6_forget_1 : decode cX6_forget 1 = .ok (.getfield 259, 3) := by decide +kernel
theorem dX6_forget_4 : decode cX6_forget 4 = .ok (.istore_n 1, 1) := by decide +kernel
theorem dX6_forget_5 : decode cX6_forget 5 = .ok (.aload_n 0, 1) := by decide +kernel
theorem dX6_forget_6 : decode cX6_forget 6 = .ok (.iconst 0, 1) := by decide +kernel
theorem dX6_forget_7 : decode cX6_forget 7 = .ok (.putfield 259, 3) := by decide +kernel
theorem dX6_forget_10 : decode cX6_forget 10 = .ok (.iload_n 1, 1) := by decide +kernel
theorem dX6_forget_11 : decode cX6_forget 11 = .ok (.ireturn, 1) := by decide +kernel
theorem dX6_isTrue_0 : decode cX6_isTrue 0 = .ok (.aload_n 0, 1) := by decide +kernel
theorem dX6_isTrue_1 : decode cX6_isTrue 1 = .ok (.getfield 253, 3) := by decide +kernel
theorem dX6_isTrue_4 : decode cX6_isTrue 4 = .ok (.aload_n 0, 1) := by decide +kernel
theorem dX6_isTrue_5 : decode cX6_isTrue 5 = .ok (.getfield 96, 3) := by decide +kernel
theorem dX6_isTrue_8 : decode cX6_isTrue 8 = .ok (.iload_n 1, 1) := by decide +kernel
theorem dX6_isTrue_9 : decode cX6_isTrue 9 = .ok (.iaload, 1) := by decide +kernel
theorem dX6_isTrue_10 : decode cX6_isTrue 10 = .ok (.invokestatic 182, 3) := by decide +kernel
theorem dX6_isTrue_13 : decode cX6_isTrue 13 = .ok (.aload_n 0, 1) := by decide +kernel
theorem dX6_isTrue_14 : decode cX6_isTrue 14 = .ok (.getfield 99, 3) := by decide +kernel
theorem dX6_isTrue_17 : decode cX6_isTrue 17 = .ok (.iload_n 1, 1) := by decide +kernel
theorem dX6_isTrue_18 : decode cX6_isTrue 18 = .ok (.baload, 1) := by decide +kernel
theorem dX6_isTrue_19 : decode cX6_isTrue 19 = .ok (.if_icmp .ne 7, 3) := by decide +kernel
theorem dX6_isTrue_22 : decode cX6_isTrue 22 = .ok (.iconst 1, 1) := by decide +kernel
theorem dX6_isTrue_23 : decode cX6_isTrue 23 = .ok (.goto 4, 3) := by decide +kernel
theorem dX6_isTrue_26 : decode cX6_isTrue 26 = .ok (.iconst 0, 1) := by decide +kernel
theorem dX6_isTrue_27 : decode cX6_isTrue 27 = .ok (.ireturn, 1) := by decide +kernel
theorem dX6_saying_0 : decode cX6_saying 0 = .ok (.iload_n 1, 1) := by decide +kernel
theorem dX6_saying_1 : decode cX6_saying 1 = .ok (.i2l, 1) := by decide +kernel
theorem dX6_saying_2 : decode cX6_saying 2 = .ok (.lconst 0, 1) := by decide +kernel
theorem dX6_saying_3 : decode cX6_saying 3 = .ok (.aload_n 0, 1) := by decide +kernel
theorem dX6_saying_4 : decode cX6_saying 4 = .ok (.getfield 259, 3) := by decide +kernel
theorem dX6_saying_7 : decode cX6_saying 7 = .ok (.iconst 1, 1) := by decide +kernel
theorem dX6_saying_8 : decode cX6_saying 8 = .ok (.isub, 1) := by decide +kernel
theorem dX6_saying_9 : decode cX6_saying 9 = .ok (.i2l, 1) := by decide +kernel
theorem dX6_saying_10 : decode cX6_saying 10 = .ok (.invokestatic 114, 3) := by decide +kernel
theorem dX6_saying_13 : decode cX6_saying 13 = .ok (.ifCond .ne 7, 3) := by decide +kernel
theorem dX6_saying_16 : decode cX6_saying 16 = .ok (.ldc_w 266, 3) := by decide +kernel
theorem dX6_saying_19 : decode cX6_saying 19 = .ok (.ireturn, 1) := by decide +kernel
theorem dX6_saying_20 : decode cX6_saying 20 = .ok (.iload_n 2, 1) := by decide +kernel
theorem dX6_saying_21 : decode cX6_saying 21 = .ok (.i2l, 1) := by decide +kernel
theorem dX6_saying_22 : decode cX6_saying 22 = .ok (.lconst 0, 1) := by decide +kernel
theorem dX6_saying_23 : decode cX6_saying 23 = .ok (.lconst 1, 1) := by decide +kernel
theorem dX6_saying_24 : decode cX6_saying 24 = .ok (.invokestatic 114, 3) := by decide +kernel
theorem dX6_saying_27 : decode cX6_saying 27 = .ok (.ifCond .ne 6, 3) := by decide +kernel
theorem dX6_saying_30 : decode cX6_saying 30 = .ok (.ldc 125, 2) := by decide +kernel
theorem dX6_saying_32 : decode cX6_saying 32 = .ok (.ireturn, 1) := by decide +kernel
theorem dX6_saying_33 : decode cX6_saying 33 = .ok (.iload_n 2, 1) := by decide +kernel
theorem dX6_saying_34 : decode cX6_saying 34 = .ok (.ifCond .ne 17, 3) := by decide +kernel
theorem dX6_saying_37 : decode cX6_saying 37 = .ok (.aload_n 0, 1) := by decide +kernel
theorem dX6_saying_38 : decode cX6_saying 38 = .ok (.iload_n 1, 1) := by decide +kernel
theorem dX6_saying_39 : decode cX6_saying 39 = .ok (.invokevirtual 359, 3) := by decide +kernel
theorem dX6_saying_42 : decode cX6_saying 42 = .ok (.ifCond .eq 7, 3) := by decide +kernel
theorem dX6_saying_45 : decode cX6_saying 45 = .ok (.iconst 1, 1) := by decide +kernel
theorem dX6_saying_46 : decode cX6_saying 46 = .ok (.goto 4, 3) := by decide +kernel
theorem dX6_saying_49 : decode cX6_saying 49 = .ok (.iconst 0, 1) := by decide +kernel
theorem dX6_saying_50 : decode cX6_saying 50 = .ok (.ireturn, 1) := by decide +kernel
theorem dX6_saying_51 : decode cX6_saying 51 = .ok (.iconst 0, 1) := by decide +kernel
theorem dX6_saying_52 : decode cX6_saying 52 = .ok (.istore_n 3, 1) := by decide +kernel
theorem dX6_saying_53 : decode cX6_saying 53 = .ok (.iconst 0, 1) := by decide +kernel
theorem dX6_saying_54 : decode cX6_saying 54 = .ok (.istore 4, 2) := by decide +kernel
theorem dX6_saying_56 : decode cX6_saying 56 = .ok (.iconst 0, 1) := by decide +kernel
theorem dX6_saying_57 : decode cX6_saying 57 = .ok (.istore 5, 2) := by decide +kernel
theorem dX6_saying_59 : decode cX6_saying 59 = .ok (.iload 5, 2) := by decide +kernel
theorem dX6_saying_61 : decode cX6_saying 61 = .ok (.bipush 64, 2) := by decide +kernel
theorem dX6_saying_63 : decode cX6_saying 63 = .ok (.if_icmp .ge 67, 3) := by decide +kernel
theorem dX6_saying_66 : decode cX6_saying 66 = .ok (.iload 5, 2) := by decide +kernel
theorem dX6_saying_68 : decode cX6_saying 68 = .ok (.invokestatic 306, 3) := by decide +kernel
theorem dX6_saying_71 : decode cX6_saying 71 = .ok (.aload_n 0, 1) := by decide +kernel
