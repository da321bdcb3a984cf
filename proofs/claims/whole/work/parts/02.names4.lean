theorem dX6_saying_72 : decode cX6_saying 72 = .ok (.getfield 250, 3) := by decide +kernel
theorem dX6_saying_75 : decode cX6_saying 75 = .ok (.if_icmp .ne 49, 3) := by decide +kernel
theorem dX6_saying_78 : decode cX6_saying 78 = .ok (.aload_n 0, 1) := by decide +kernel
theorem dX6_saying_79 : decode cX6_saying 79 = .ok (.aload_n 0, 1) := by decide +kernel
theorem dX6_saying_80 : decode cX6_saying 80 = .ok (.getfield 93, 3) := by decide +kernel
theorem dX6_saying_83 : decode cX6_saying 83 = .ok (.iload_n 1, 1) := by decide +kernel
theorem dX6_saying_84 : decode cX6_saying 84 = .ok (.iaload, 1) := by decide +kernel
theorem dX6_saying_85 : decode cX6_saying 85 = .ok (.iload 5, 2) := by decide +kernel
theorem dX6_saying_87 : decode cX6_saying 87 = .ok (.invokevirtual 309, 3) := by decide +kernel
theorem dX6_saying_90 : decode cX6_saying 90 = .ok (.ifCond .eq 34, 3) := by decide +kernel
theorem dX6_saying_93 : decode cX6_saying 93 = .ok (.iinc 4 1, 3) := by decide +kernel
theorem dX6_saying_96 : decode cX6_saying 96 = .ok (.iload_n 3, 1) := by decide +kernel
theorem dX6_saying_97 : decode cX6_saying 97 = .ok (.iload 5, 2) := by decide +kernel
theorem dX6_saying_99 : decode cX6_saying 99 = .ok (.aload_n 0, 1) := by decide +kernel
theorem dX6_saying_100 : decode cX6_saying 100 = .ok (.getfield 96, 3) := by decide +kernel
theorem dX6_saying_103 : decode cX6_saying 103 = .ok (.iload_n 1, 1) := by decide +kernel
theorem dX6_saying_104 : decode cX6_saying 104 = .ok (.iaload, 1) := by decide +kernel
theorem dX6_saying_105 : decode cX6_saying 105 = .ok (.invokestatic 182, 3) := by decide +kernel
theorem dX6_saying_108 : decode cX6_saying 108 = .ok (.aload_n 0, 1) := by decide +kernel
theorem dX6_saying_109 : decode cX6_saying 109 = .ok (.getfield 99, 3) := by decide +kernel
theorem dX6_saying_112 : decode cX6_saying 112 = .ok (.iload_n 1, 1) := by decide +kernel
theorem dX6_saying_113 : decode cX6_saying 113 = .ok (.baload, 1) := by decide +kernel
theorem dX6_saying_114 : decode cX6_saying 114 = .ok (.if_icmp .ne 7, 3) := by decide +kernel
theorem dX6_saying_117 : decode cX6_saying 117 = .ok (.iconst 1, 1) := by decide +kernel
theorem dX6_saying_118 : decode cX6_saying 118 = .ok (.goto 4, 3) := by decide +kernel
theorem dX6_saying_121 : decode cX6_saying 121 = .ok (.iconst 0, 1) := by decide +kernel
theorem dX6_saying_122 : decode cX6_saying 122 = .ok (.iadd, 1) := by decide +kernel
theorem dX6_saying_123 : decode cX6_saying 123 = .ok (.istore_n 3, 1) := by decide +kernel
theorem dX6_saying_124 : decode cX6_saying 124 = .ok (.iinc 5 1, 3) := by decide +kernel
theorem dX6_saying_127 : decode cX6_saying 127 = .ok (.goto (-68), 3) := by decide +kernel
theorem dX6_saying_130 : decode cX6_saying 130 = .ok (.iload 4, 2) := by decide +kernel
theorem dX6_saying_132 : decode cX6_saying 132 = .ok (.ifCond .ne 7, 3) := by decide +kernel
theorem dX6_saying_135 : decode cX6_saying 135 = .ok (.iconst (-1), 1) := by decide +kernel
theorem dX6_saying_136 : decode cX6_saying 136 = .ok (.goto 10, 3) := by decide +kernel
theorem dX6_saying_139 : decode cX6_saying 139 = .ok (.bipush 100, 2) := by decide +kernel
theorem dX6_saying_141 : decode cX6_saying 141 = .ok (.iload_n 3, 1) := by decide +kernel
theorem dX6_saying_142 : decode cX6_saying 142 = .ok (.imul, 1) := by decide +kernel
theorem dX6_saying_143 : decode cX6_saying 143 = .ok (.iload 4, 2) := by decide +kernel
theorem dX6_saying_145 : decode cX6_saying 145 = .ok (.idiv, 1) := by decide +kernel
theorem dX6_saying_146 : decode cX6_saying 146 = .ok (.ireturn, 1) := by decide +kernel
theorem dX6_loudest_0 : decode cX6_loudest 0 = .ok (.iconst (-1), 1) := by decide +kernel
theorem dX6_loudest_1 : decode cX6_loudest 1 = .ok (.istore_n 1, 1) := by decide +kernel
theorem dX6_loudest_2 : decode cX6_loudest 2 = .ok (.iconst 0, 1) := by decide +kernel
theorem dX6_loudest_3 : decode cX6_loudest 3 = .ok (.istore_n 2, 1) := by decide +kernel
theorem dX6_loudest_4 : decode cX6_loudest 4 = .ok (.iconst 0, 1) := by decide +kernel
theorem dX6_loudest_5 : decode cX6_loudest 5 = .ok (.istore_n 3, 1) := by decide +kernel
theorem dX6_loudest_6 : decode cX6_loudest 6 = .ok (.iload_n 3, 1) := by decide +kernel
theorem dX6_loudest_7 : decode cX6_loudest 7 = .ok (.bipush 6, 2) := by decide +kernel
theorem dX6_loudest_9 : decode cX6_loudest 9 = .ok (.if_icmp .ge 85, 3) := by decide +kernel
theorem dX6_loudest_12 : decode cX6_loudest 12 = .ok (.iconst 0, 1) := by decide +kernel
theorem dX6_loudest_13 : decode cX6_loudest 13 = .ok (.istore 4, 2) := by decide +kernel
theorem dX6_loudest_15 : decode cX6_loudest 15 = .ok (.iconst 0, 1) := by decide +kernel
theorem dX6_loudest_16 : decode cX6_loudest 16 = .ok (.istore 5, 2) := by decide +kernel
theorem dX6_loudest_18 : decode cX6_loudest 18 = .ok (.iload 5, 2) := by decide +kernel
theorem dX6_loudest_20 : decode cX6_loudest 20 = .ok (.aload_n 0, 1) := by decide +kernel
theorem dX6_loudest_21 : decode cX6_loudest 21 = .ok (.getfield 259, 3) := by decide +kernel
theorem dX6_loudest_24 : decode cX6_loudest 24 = .ok (.if_icmp .ge 39, 3) := by decide +kernel
theorem dX6_loudest_27 : decode cX6_loudest 27 = .ok (.iload 4, 2) := by decide +kernel
theorem dX6_loudest_29 : decode cX6_loudest 29 = .ok (.aload_n 0, 1) := by decide +kernel
theorem dX6_loudest_30 : decode cX6_loudest 30 = .ok (.getfield 93, 3) := by decide +kernel
theorem dX6_loudest_33 : decode cX6_loudest 33 = .ok (.iload 5, 2) := by decide +kernel
theorem dX6_loudest_35 : decode cX6_loudest 35 = .ok (.iaload, 1) := by decide +kernel
theorem dX6_loudest_36 : decode cX6_loudest 36 = .ok (.iload_n 3, 1) := by decide +kernel
theorem dX6_loudest_37 : decode cX6_loudest 37 = .ok (.if_icmp .ne 16, 3) := by decide +kernel
theorem dX6_loudest_40 : decode cX6_loudest 40 = .ok (.aload_n 0, 1) := by decide +kernel
theorem dX6_loudest_41 : decode cX6_loudest 41 = .ok (.iload 5, 2) := by decide +kernel
theorem dX6_loudest_43 : decode cX6_loudest 43 = .ok (.invokevirtual 359, 3) := by decide +kernel
theorem dX6_loudest_46 : decode cX6_loudest 46 = .ok (.ifCond .ne 7, 3) := by decide +kernel
theorem dX6_loudest_49 : decode cX6_loudest 49 = .ok (.iconst 1, 1) := by decide +kernel
theorem dX6_loudest_50 : decode cX6_loudest 50 = .ok (.goto 4, 3) := by decide +kernel
theorem dX6_loudest_53 : decode cX6_loudest 53 = .ok (.iconst 0, 1) := by decide +kernel
theorem dX6_loudest_54 : decode cX6_loudest 54 = .ok (.iadd, 1) := by decide +kernel
theorem dX6_loudest_55 : decode cX6_loudest 55 = .ok (.istore 4, 2) := by decide +kernel
theorem dX6_loudest_57 : decode cX6_loudest 57 = .ok (.iinc 5 1, 3) := by decide +kernel
theorem dX6_loudest_60 : decode cX6_loudest 60 = .ok (.goto (-42), 3) := by decide +kernel
theorem dX6_loudest_63 : decode cX6_loudest 63 = .ok (.iload 4, 2) := by decide +kernel
theorem dX6_loudest_65 : decode cX6_loudest 65 = .ok (.iload_n 2, 1) := by decide +kernel
theorem dX6_loudest_66 : decode cX6_loudest 66 = .ok (.if_icmp .le 7, 3) := by decide +kernel
theorem dX6_loudest_69 : decode cX6_loudest 69 = .ok (.iload_n 3, 1) := by decide +kernel
theorem dX6_loudest_70 : decode cX6_loudest 70 = .ok (.goto 4, 3) := by decide +kernel
theorem dX6_loudest_73 : decode cX6_loudest 73 = .ok (.iload_n 1, 1) := by decide +kernel
theorem dX6_loudest_74 : decode cX6_loudest 74 = .ok (.istore_n 1, 1) := by decide +kernel
theorem dX6_loudest_75 : decode cX6_loudest 75 = .ok (.iload 4, 2) := by decide +kernel
theorem dX6_loudest_77 : decode cX6_loudest 77 = .ok (.iload_n 2, 1) := by decide +kernel
theorem dX6_loudest_78 : decode cX6_loudest 78 = .ok (.if_icmp .le 8, 3) := by decide +kernel
theorem dX6_loudest_81 : decode cX6_loudest 81 = .ok (.iload 4, 2) := by decide +kernel
theorem dX6_loudest_83 : decode cX6_loudest 83 = .ok (.goto 4, 3) := by decide +kernel
theorem dX6_loudest_86 : decode cX6_loudest 86 = .ok (.iload_n 2, 1) := by decide +kernel
theorem dX6_loudest_87 : decode cX6_loudest 87 = .ok (.istore_n 2, 1) := by decide +kernel
theorem dX6_loudest_88 : decode cX6_loudest 88 = .ok (.iinc 3 1, 3) := by decide +kernel
theorem dX6_loudest_91 : decode cX6_loudest 91 = .ok (.goto (-85), 3) := by decide +kernel
theorem dX6_loudest_94 : decode cX6_loudest 94 = .ok (.iload_n 1, 1) := by decide +kernel
theorem dX6_loudest_95 : decode cX6_loudest 95 = .ok (.ireturn, 1) := by decide +kernel
theorem dX6_draw_0 : decode cX6_draw 0 = .ok (.aload_n 0, 1) := by decide +kernel
theorem dX6_draw_1 : decode cX6_draw 1 = .ok (.aload_n 0, 1) := by decide +kernel
theorem dX6_draw_2 : decode cX6_draw 2 = .ok (.getfield 362, 3) := by decide +kernel
theorem dX6_draw_5 : decode cX6_draw 5 = .ok (.i2l, 1) := by decide +kernel
theorem dX6_draw_6 : decode cX6_draw 6 = .ok (.ldc2_w 365, 3) := by decide +kernel
theorem dX6_draw_9 : decode cX6_draw 9 = .ok (.lmul, 1) := by decide +kernel
theorem dX6_draw_10 : decode cX6_draw 10 = .ok (.ldc2_w 367, 3) := by decide +kernel
theorem dX6_draw_13 : decode cX6_draw 13 = .ok (.ladd, 1) := by decide +kernel
theorem dX6_draw_14 : decode cX6_draw 14 = .ok (.ldc2_w 369, 3) := by decide +kernel
theorem dX6_draw_17 : decode cX6_draw 17 = .ok (.lrem, 1) := by decide +kernel
theorem dX6_draw_18 : decode cX6_draw 18 = .ok (.l2i, 1) := by decide +kernel
theorem dX6_draw_19 : decode cX6_draw 19 = .ok (.putfield 362, 3) := by decide +kernel
theorem dX6_draw_22 : decode cX6_draw 22 = .ok (.aload_n 0, 1) := by decide +kernel
theorem dX6_draw_23 : decode cX6_draw 23 = .ok (.getfield 362, 3) := by decide +kernel
theorem dX6_draw_26 : decode cX6_draw 26 = .ok (.ldc_w 371, 3) := by decide +kernel
theorem dX6_draw_29 : decode cX6_draw 29 = .ok (.idiv, 1) := by decide +kernel
theorem dX6_draw_30 : decode cX6_draw 30 = .ok (.iload_n 1, 1) := by decide +kernel
theorem dX6_draw_31 : decode cX6_draw 31 = .ok (.irem, 1) := by decide +kernel
theorem dX6_draw_32 : decode cX6_draw 32 = .ok (.ireturn, 1) := by decide +kernel
theorem dX6_bandDay_0 : decode cX6_bandDay 0 = .ok (.aload_n 0, 1) := by decide +kernel
theorem dX6_bandDay_1 : decode cX6_bandDay 1 = .ok (.iload_n 1, 1) := by decide +kernel
theorem dX6_bandDay_2 : decode cX6_bandDay 2 = .ok (.invokevirtual 344, 3) := by decide +kernel
theorem dX6_bandDay_5 : decode cX6_bandDay 5 = .ok (.aload_n 0, 1) := by decide +kernel
theorem dX6_bandDay_6 : decode cX6_bandDay 6 = .ok (.invokevirtual 348, 3) := by decide +kernel
theorem dX6_bandDay_9 : decode cX6_bandDay 9 = .ok (.istore_n 2, 1) := by decide +kernel
theorem dX6_bandDay_10 : decode cX6_bandDay 10 = .ok (.iload_n 2, 1) := by decide +kernel
theorem dX6_bandDay_11 : decode cX6_bandDay 11 = .ok (.ifCond .lt 30, 3) := by decide +kernel
theorem dX6_bandDay_14 : decode cX6_bandDay 14 = .ok (.aload_n 0, 1) := by decide +kernel
theorem dX6_bandDay_15 : decode cX6_bandDay 15 = .ok (.iload_n 2, 1) := by decide +kernel
theorem dX6_bandDay_16 : decode cX6_bandDay 16 = .ok (.invokevirtual 351, 3) := by decide +kernel
theorem dX6_bandDay_19 : decode cX6_bandDay 19 = .ok (.ifCond .le 22, 3) := by decide +kernel
theorem dX6_bandDay_22 : decode cX6_bandDay 22 = .ok (.aload_n 0, 1) := by decide +kernel
theorem dX6_bandDay_23 : decode cX6_bandDay 23 = .ok (.iload_n 1, 1) := by decide +kernel
theorem dX6_bandDay_24 : decode cX6_bandDay 24 = .ok (.aload_n 0, 1) := by decide +kernel
theorem dX6_bandDay_25 : decode cX6_bandDay 25 = .ok (.getfield 81, 3) := by decide +kernel
theorem dX6_bandDay_28 : decode cX6_bandDay 28 = .ok (.iload_n 2, 1) := by decide +kernel
theorem dX6_bandDay_29 : decode cX6_bandDay 29 = .ok (.iaload, 1) := by decide +kernel
theorem dX6_bandDay_30 : decode cX6_bandDay 30 = .ok (.aload_n 0, 1) := by decide +kernel
theorem dX6_bandDay_31 : decode cX6_bandDay 31 = .ok (.getfield 84, 3) := by decide +kernel
theorem dX6_bandDay_34 : decode cX6_bandDay 34 = .ok (.iload_n 2, 1) := by decide +kernel
theorem dX6_bandDay_35 : decode cX6_bandDay 35 = .ok (.iaload, 1) := by decide +kernel
theorem dX6_bandDay_36 : decode cX6_bandDay 36 = .ok (.invokevirtual 326, 3) := by decide +kernel
theorem dX6_bandDay_39 : decode cX6_bandDay 39 = .ok (.istore_n 3, 1) := by decide +kernel
theorem dX6_bandDay_40 : decode cX6_bandDay 40 = .ok (.return_, 1) := by decide +kernel
theorem dX6_bandDay_41 : decode cX6_bandDay 41 = .ok (.aload_n 0, 1) := by decide +kernel
theorem dX6_bandDay_42 : decode cX6_bandDay 42 = .ok (.iconst 5, 1) := by decide +kernel
theorem dX6_bandDay_43 : decode cX6_bandDay 43 = .ok (.invokevirtual 372, 3) := by decide +kernel
theorem dX6_bandDay_46 : decode cX6_bandDay 46 = .ok (.istore_n 3, 1) := by decide +kernel
theorem dX6_bandDay_47 : decode cX6_bandDay 47 = .ok (.iload_n 3, 1) := by decide +kernel
theorem dX6_bandDay_48 : decode cX6_bandDay 48 = .ok (.iload_n 3, 1) := by decide +kernel
theorem dX6_bandDay_49 : decode cX6_bandDay 49 = .ok (.iload_n 1, 1) := by decide +kernel
theorem dX6_bandDay_50 : decode cX6_bandDay 50 = .ok (.if_icmp .lt 7, 3) := by decide +kernel
theorem dX6_bandDay_53 : decode cX6_bandDay 53 = .ok (.iconst 1, 1) := by decide +kernel
theorem dX6_bandDay_54 : decode cX6_bandDay 54 = .ok (.goto 4, 3) := by decide +kernel
theorem dX6_bandDay_57 : decode cX6_bandDay 57 = .ok (.iconst 0, 1) := by decide +kernel
theorem dX6_bandDay_58 : decode cX6_bandDay 58 = .ok (.iadd, 1) := by decide +kernel
theorem dX6_bandDay_59 : decode cX6_bandDay 59 = .ok (.istore_n 3, 1) := by decide +kernel
theorem dX6_bandDay_60 : decode cX6_bandDay 60 = .ok (.aload_n 0, 1) := by decide +kernel
theorem dX6_bandDay_61 : decode cX6_bandDay 61 = .ok (.aload_n 0, 1) := by decide +kernel
theorem dX6_bandDay_62 : decode cX6_bandDay 62 = .ok (.getfield 111, 3) := by decide +kernel
theorem dX6_bandDay_65 : decode cX6_bandDay 65 = .ok (.invokevirtual 372, 3) := by decide +kernel
theorem dX6_bandDay_68 : decode cX6_bandDay 68 = .ok (.istore 4, 2) := by decide +kernel
theorem dX6_bandDay_70 : decode cX6_bandDay 70 = .ok (.aload_n 0, 1) := by decide +kernel
theorem dX6_bandDay_71 : decode cX6_bandDay 71 = .ok (.aload_n 0, 1) := by decide +kernel
theorem dX6_bandDay_72 : decode cX6_bandDay 72 = .ok (.getfield 111, 3) := by decide +kernel
theorem dX6_bandDay_75 : decode cX6_bandDay 75 = .ok (.invokevirtual 372, 3) := by decide +kernel
theorem dX6_bandDay_78 : decode cX6_bandDay 78 = .ok (.istore 5, 2) := by decide +kernel
theorem dX6_bandDay_80 : decode cX6_bandDay 80 = .ok (.aload_n 0, 1) := by decide +kernel
theorem dX6_bandDay_81 : decode cX6_bandDay 81 = .ok (.getfield 32, 3) := by decide +kernel
theorem dX6_bandDay_84 : decode cX6_bandDay 84 = .ok (.bipush 6, 2) := by decide +kernel
theorem dX6_bandDay_86 : decode cX6_bandDay 86 = .ok (.iload_n 3, 1) := by decide +kernel
theorem dX6_bandDay_87 : decode cX6_bandDay 87 = .ok (.imul, 1) := by decide +kernel
theorem dX6_bandDay_88 : decode cX6_bandDay 88 = .ok (.iload_n 1, 1) := by decide +kernel
theorem dX6_bandDay_89 : decode cX6_bandDay 89 = .ok (.iadd, 1) := by decide +kernel
theorem dX6_bandDay_90 : decode cX6_bandDay 90 = .ok (.dup2, 1) := by decide +kernel
theorem dX6_bandDay_91 : decode cX6_bandDay 91 = .ok (.iaload, 1) := by decide +kernel
theorem dX6_bandDay_92 : decode cX6_bandDay 92 = .ok (.iconst 1, 1) := by decide +kernel
theorem dX6_bandDay_93 : decode cX6_bandDay 93 = .ok (.iload 4, 2) := by decide +kernel
theorem dX6_bandDay_95 : decode cX6_bandDay 95 = .ok (.ishl, 1) := by decide +kernel
theorem dX6_bandDay_96 : decode cX6_bandDay 96 = .ok (.ior, 1) := by decide +kernel
theorem dX6_bandDay_97 : decode cX6_bandDay 97 = .ok (.iastore, 1) := by decide +kernel
theorem dX6_bandDay_98 : decode cX6_bandDay 98 = .ok (.aload_n 0, 1) := by decide +kernel
theorem dX6_bandDay_99 : decode cX6_bandDay 99 = .ok (.getfield 32, 3) := by decide +kernel
theorem dX6_bandDay_102 : decode cX6_bandDay 102 = .ok (.bipush 6, 2) := by decide +kernel
theorem dX6_bandDay_104 : decode cX6_bandDay 104 = .ok (.iload_n 1, 1) := by decide +kernel
theorem dX6_bandDay_105 : decode cX6_bandDay 105 = .ok (.imul, 1) := by decide +kernel
theorem dX6_bandDay_106 : decode cX6_bandDay 106 = .ok (.iload_n 3, 1) := by decide +kernel
theorem dX6_bandDay_107 : decode cX6_bandDay 107 = .ok (.iadd, 1) := by decide +kernel
theorem dX6_bandDay_108 : decode cX6_bandDay 108 = .ok (.dup2, 1) := by decide +kernel
theorem dX6_bandDay_109 : decode cX6_bandDay 109 = .ok (.iaload, 1) := by decide +kernel
theorem dX6_bandDay_110 : decode cX6_bandDay 110 = .ok (.iconst 1, 1) := by decide +kernel
theorem dX6_bandDay_111 : decode cX6_bandDay 111 = .ok (.iload 5, 2) := by decide +kernel
theorem dX6_bandDay_113 : decode cX6_bandDay 113 = .ok (.ishl, 1) := by decide +kernel
theorem dX6_bandDay_114 : decode cX6_bandDay 114 = .ok (.ior, 1) := by decide +kernel
theorem dX6_bandDay_115 : decode cX6_bandDay 115 = .ok (.iastore, 1) := by decide +kernel
theorem dX6_bandDay_116 : decode cX6_bandDay 116 = .ok (.return_, 1) := by decide +kernel
theorem dX6_hunt_0 : decode cX6_hunt 0 = .ok (.iload_n 1, 1) := by decide +kernel
theorem dX6_hunt_1 : decode cX6_hunt 1 = .ok (.i2l, 1) := by decide +kernel
theorem dX6_hunt_2 : decode cX6_hunt 2 = .ok (.lconst 1, 1) := by decide +kernel
theorem dX6_hunt_3 : decode cX6_hunt 3 = .ok (.ldc2_w 375, 3) := by decide +kernel
theorem dX6_hunt_6 : decode cX6_hunt 6 = .ok (.invokestatic 114, 3) := by decide +kernel
theorem dX6_hunt_9 : decode cX6_hunt 9 = .ok (.ifCond .ne 6, 3) := by decide +kernel
theorem dX6_hunt_12 : decode cX6_hunt 12 = .ok (.ldc 125, 2) := by decide +kernel
theorem dX6_hunt_14 : decode cX6_hunt 14 = .ok (.ireturn, 1) := by decide +kernel
theorem dX6_hunt_15 : decode cX6_hunt 15 = .ok (.aload_n 0, 1) := by decide +kernel
theorem dX6_hunt_16 : decode cX6_hunt 16 = .ok (.getfield 44, 3) := by decide +kernel
theorem dX6_hunt_19 : decode cX6_hunt 19 = .ok (.ifCond .ge 10, 3) := by decide +kernel
theorem dX6_hunt_22 : decode cX6_hunt 22 = .ok (.aload_n 0, 1) := by decide +kernel
theorem dX6_hunt_23 : decode cX6_hunt 23 = .ok (.getfield 111, 3) := by decide +kernel
theorem dX6_hunt_26 : decode cX6_hunt 26 = .ok (.ifCond .ne 7, 3) := by decide +kernel
theorem dX6_hunt_29 : decode cX6_hunt 29 = .ok (.ldc_w 317, 3) := by decide +kernel
theorem dX6_hunt_32 : decode cX6_hunt 32 = .ok (.ireturn, 1) := by decide +kernel
theorem dX6_hunt_33 : decode cX6_hunt 33 = .ok (.iconst 0, 1) := by decide +kernel
theorem dX6_hunt_34 : decode cX6_hunt 34 = .ok (.istore_n 2, 1) := by decide +kernel
theorem dX6_hunt_35 : decode cX6_hunt 35 = .ok (.iload_n 2, 1) := by decide +kernel
theorem dX6_hunt_36 : decode cX6_hunt 36 = .ok (.iload_n 1, 1) := by decide +kernel
theorem dX6_hunt_37 : decode cX6_hunt 37 = .ok (.if_icmp .ge 35, 3) := by decide +kernel
theorem dX6_hunt_40 : decode cX6_hunt 40 = .ok (.iconst 0, 1) := by decide +kernel
theorem dX6_hunt_41 : decode cX6_hunt 41 = .ok (.istore_n 3, 1) := by decide +kernel
theorem dX6_hunt_42 : decode cX6_hunt 42 = .ok (.iload_n 3, 1) := by decide +kernel
theorem dX6_hunt_43 : decode cX6_hunt 43 = .ok (.bipush 6, 2) := by decide +kernel
theorem dX6_hunt_45 : decode cX6_hunt 45 = .ok (.if_icmp .ge 21, 3) := by decide +kernel
theorem dX6_hunt_48 : decode cX6_hunt 48 = .ok (.aload_n 0, 1) := by decide +kernel
theorem dX6_hunt_49 : decode cX6_hunt 49 = .ok (.getfield 44, 3) := by decide +kernel
theorem dX6_hunt_52 : decode cX6_hunt 52 = .ok (.ifCond .ge 14, 3) := by decide +kernel
theorem dX6_hunt_55 : decode cX6_hunt 55 = .ok (.aload_n 0, 1) := by decide +kernel
theorem dX6_hunt_56 : decode cX6_hunt 56 = .ok (.iload_n 3, 1) := by decide +kernel
theorem dX6_hunt_57 : decode cX6_hunt 57 = .ok (.invokevirtual 377, 3) := by decide +kernel
theorem dX6_hunt_60 : decode cX6_hunt 60 = .ok (.iinc 3 1, 3) := by decide +kernel
theorem dX6_hunt_63 : decode cX6_hunt 63 = .ok (.goto (-21), 3) := by decide +kernel
theorem dX6_hunt_66 : decode cX6_hunt 66 = .ok (.iinc 2 1, 3) := by decide +kernel
theorem dX6_hunt_69 : decode cX6_hunt 69 = .ok (.goto (-34), 3) := by decide +kernel
theorem dX6_hunt_72 : decode cX6_hunt 72 = .ok (.aload_n 0, 1) := by decide +kernel
theorem dX6_hunt_73 : decode cX6_hunt 73 = .ok (.getfield 44, 3) := by decide +kernel
theorem dX6_hunt_76 : decode cX6_hunt 76 = .ok (.ireturn, 1) := by decide +kernel
theorem dX6_seed_0 : decode cX6_seed 0 = .ok (.iload_n 1, 1) := by decide +kernel
theorem dX6_seed_1 : decode cX6_seed 1 = .ok (.ifCond .ge 6, 3) := by decide +kernel
theorem dX6_seed_4 : decode cX6_seed 4 = .ok (.ldc 125, 2) := by decide +kernel
theorem dX6_seed_6 : decode cX6_seed 6 = .ok (.ireturn, 1) := by decide +kernel
theorem dX6_seed_7 : decode cX6_seed 7 = .ok (.aload_n 0, 1) := by decide +kernel
theorem dX6_seed_8 : decode cX6_seed 8 = .ok (.getfield 362, 3) := by decide +kernel
theorem dX6_seed_11 : decode cX6_seed 11 = .ok (.istore_n 2, 1) := by decide +kernel
theorem dX6_seed_12 : decode cX6_seed 12 = .ok (.aload_n 0, 1) := by decide +kernel
theorem dX6_seed_13 : decode cX6_seed 13 = .ok (.iload_n 1, 1) := by decide +kernel
theorem dX6_seed_14 : decode cX6_seed 14 = .ok (.putfield 362, 3) := by decide +kernel
theorem dX6_seed_17 : decode cX6_seed 17 = .ok (.iload_n 2, 1) := by decide +kernel
theorem dX6_seed_18 : decode cX6_seed 18 = .ok (.ireturn, 1) := by decide +kernel
theorem dX6_keep_0 : decode cX6_keep 0 = .ok (.iload_n 1, 1) := by decide +kernel
theorem dX6_keep_1 : decode cX6_keep 1 = .ok (.i2l, 1) := by decide +kernel
theorem dX6_keep_2 : decode cX6_keep 2 = .ok (.lconst 0, 1) := by decide +kernel
theorem dX6_keep_3 : decode cX6_keep 3 = .ok (.lconst 1, 1) := by decide +kernel
theorem dX6_keep_4 : decode cX6_keep 4 = .ok (.invokestatic 114, 3) := by decide +kernel
theorem dX6_keep_7 : decode cX6_keep 7 = .ok (.ifCond .ne 7, 3) := by decide +kernel
theorem dX6_keep_10 : decode cX6_keep 10 = .ok (.ldc_w 266, 3) := by decide +kernel
theorem dX6_keep_13 : decode cX6_keep 13 = .ok (.ireturn, 1) := by decide +kernel
theorem dX6_keep_14 : decode cX6_keep 14 = .ok (.bipush 100, 2) := by decide +kernel
theorem dX6_keep_16 : decode cX6_keep 16 = .ok (.iload_n 1, 1) := by decide +kernel
theorem dX6_keep_17 : decode cX6_keep 17 = .ok (.imul, 1) := by decide +kernel
theorem dX6_keep_18 : decode cX6_keep 18 = .ok (.istore_n 2, 1) := by decide +kernel
theorem dX6_keep_19 : decode cX6_keep 19 = .ok (.iconst 0, 1) := by decide +kernel
theorem dX6_keep_20 : decode cX6_keep 20 = .ok (.istore_n 3, 1) := by decide +kernel
theorem dX6_keep_21 : decode cX6_keep 21 = .ok (.iload_n 3, 1) := by decide +kernel
theorem dX6_keep_22 : decode cX6_keep 22 = .ok (.bipush 36, 2) := by decide +kernel
theorem dX6_keep_24 : decode cX6_keep 24 = .ok (.if_icmp .ge 23, 3) := by decide +kernel
theorem dX6_keep_27 : decode cX6_keep 27 = .ok (.aload_n 0, 1) := by decide +kernel
theorem dX6_keep_28 : decode cX6_keep 28 = .ok (.getfield 102, 3) := by decide +kernel
theorem dX6_keep_31 : decode cX6_keep 31 = .ok (.iload_n 2, 1) := by decide +kernel
theorem dX6_keep_32 : decode cX6_keep 32 = .ok (.iload_n 3, 1) := by decide +kernel
theorem dX6_keep_33 : decode cX6_keep 33 = .ok (.iadd, 1) := by decide +kernel
theorem dX6_keep_34 : decode cX6_keep 34 = .ok (.aload_n 0, 1) := by decide +kernel
theorem dX6_keep_35 : decode cX6_keep 35 = .ok (.getfield 32, 3) := by decide +kernel
theorem dX6_keep_38 : decode cX6_keep 38 = .ok (.iload_n 3, 1) := by decide +kernel
theorem dX6_keep_39 : decode cX6_keep 39 = .ok (.iaload, 1) := by decide +kernel
theorem dX6_keep_40 : decode cX6_keep 40 = .ok (.iastore, 1) := by decide +kernel
theorem dX6_keep_41 : decode cX6_keep 41 = .ok (.iinc 3 1, 3) := by decide +kernel
theorem dX6_keep_44 : decode cX6_keep 44 = .ok (.goto (-23), 3) := by decide +kernel
theorem dX6_keep_47 : decode cX6_keep 47 = .ok (.iconst 0, 1) := by decide +kernel
theorem dX6_keep_48 : decode cX6_keep 48 = .ok (.istore_n 3, 1) := by decide +kernel
theorem dX6_keep_49 : decode cX6_keep 49 = .ok (.iload_n 3, 1) := by decide +kernel
theorem dX6_keep_50 : decode cX6_keep 50 = .ok (.bipush 6, 2) := by decide +kernel
theorem dX6_keep_52 : decode cX6_keep 52 = .ok (.if_icmp .ge 26, 3) := by decide +kernel
theorem dX6_keep_55 : decode cX6_keep 55 = .ok (.aload_n 0, 1) := by decide +kernel
theorem dX6_keep_56 : decode cX6_keep 56 = .ok (.getfield 102, 3) := by decide +kernel
theorem dX6_keep_59 : decode cX6_keep 59 = .ok (.iload_n 2, 1) := by decide +kernel
theorem dX6_keep_60 : decode cX6_keep 60 = .ok (.bipush 36, 2) := by decide +kernel
theorem dX6_keep_62 : decode cX6_keep 62 = .ok (.iadd, 1) := by decide +kernel
theorem dX6_keep_63 : decode cX6_keep 63 = .ok (.iload_n 3, 1) := by decide +kernel
theorem dX6_keep_64 : decode cX6_keep 64 = .ok (.iadd, 1) := by decide +kernel
theorem dX6_keep_65 : decode cX6_keep 65 = .ok (.aload_n 0, 1) := by decide +kernel
theorem dX6_keep_66 : decode cX6_keep 66 = .ok (.getfield 35, 3) := by decide +kernel
theorem dX6_keep_69 : decode cX6_keep 69 = .ok (.iload_n 3, 1) := by decide +kernel
theorem dX6_keep_70 : decode cX6_keep 70 = .ok (.iaload, 1) := by decide +kernel
theorem dX6_keep_71 : decode cX6_keep 71 = .ok (.iastore, 1) := by decide +kernel
theorem dX6_keep_72 : decode cX6_keep 72 = .ok (.iinc 3 1, 3) := by decide +kernel
theorem dX6_keep_75 : decode cX6_keep 75 = .ok (.goto (-26), 3) := by decide +kernel
theorem dX6_keep_78 : decode cX6_keep 78 = .ok (.iconst 0, 1) := by decide +kernel
theorem dX6_keep_79 : decode cX6_keep 79 = .ok (.istore_n 3, 1) := by decide +kernel
theorem dX6_keep_80 : decode cX6_keep 80 = .ok (.iload_n 3, 1) := by decide +kernel
theorem dX6_keep_81 : decode cX6_keep 81 = .ok (.bipush 20, 2) := by decide +kernel
theorem dX6_keep_83 : decode cX6_keep 83 = .ok (.if_icmp .ge 43, 3) := by decide +kernel
theorem dX6_keep_86 : decode cX6_keep 86 = .ok (.aload_n 0, 1) := by decide +kernel
theorem dX6_keep_87 : decode cX6_keep 87 = .ok (.getfield 102, 3) := by decide +kernel
theorem dX6_keep_90 : decode cX6_keep 90 = .ok (.iload_n 2, 1) := by decide +kernel
theorem dX6_keep_91 : decode cX6_keep 91 = .ok (.bipush 42, 2) := by decide +kernel
theorem dX6_keep_93 : decode cX6_keep 93 = .ok (.iadd, 1) := by decide +kernel
theorem dX6_keep_94 : decode cX6_keep 94 = .ok (.iload_n 3, 1) := by decide +kernel
theorem dX6_keep_95 : decode cX6_keep 95 = .ok (.iadd, 1) := by decide +kernel
theorem dX6_keep_96 : decode cX6_keep 96 = .ok (.aload_n 0, 1) := by decide +kernel
theorem dX6_keep_97 : decode cX6_keep 97 = .ok (.getfield 38, 3) := by decide +kernel
theorem dX6_keep_100 : decode cX6_keep 100 = .ok (.iload_n 3, 1) := by decide +kernel
theorem dX6_keep_101 : decode cX6_keep 101 = .ok (.iaload, 1) := by decide +kernel
theorem dX6_keep_102 : decode cX6_keep 102 = .ok (.iastore, 1) := by decide +kernel
theorem dX6_keep_103 : decode cX6_keep 103 = .ok (.aload_n 0, 1) := by decide +kernel
theorem dX6_keep_104 : decode cX6_keep 104 = .ok (.getfield 102, 3) := by decide +kernel
theorem dX6_keep_107 : decode cX6_keep 107 = .ok (.iload_n 2, 1) := by decide +kernel
theorem dX6_keep_108 : decode cX6_keep 108 = .ok (.bipush 62, 2) := by decide +kernel
theorem dX6_keep_110 : decode cX6_keep 110 = .ok (.iadd, 1) := by decide +kernel
theorem dX6_keep_111 : decode cX6_keep 111 = .ok (.iload_n 3, 1) := by decide +kernel
theorem dX6_keep_112 : decode cX6_keep 112 = .ok (.iadd, 1) := by decide +kernel
theorem dX6_keep_113 : decode cX6_keep 113 = .ok (.aload_n 0, 1) := by decide +kernel
theorem dX6_keep_114 : decode cX6_keep 114 = .ok (.getfield 41, 3) := by decide +kernel
theorem dX6_keep_117 : decode cX6_keep 117 = .ok (.iload_n 3, 1) := by decide +kernel
theorem dX6_keep_118 : decode cX6_keep 118 = .ok (.iaload, 1) := by decide +kernel
theorem dX6_keep_119 : decode cX6_keep 119 = .ok (.iastore, 1) := by decide +kernel
theorem dX6_keep_120 : decode cX6_keep 120 = .ok (.iinc 3 1, 3) := by decide +kernel
theorem dX6_keep_123 : decode cX6_keep 123 = .ok (.goto (-43), 3) := by decide +kernel
theorem dX6_keep_126 : decode cX6_keep 126 = .ok (.aload_n 0, 1) := by decide +kernel
theorem dX6_keep_127 : decode cX6_keep 127 = .ok (.getfield 102, 3) := by decide +kernel
theorem dX6_keep_130 : decode cX6_keep 130 = .ok (.iload_n 2, 1) := by decide +kernel
theorem dX6_keep_131 : decode cX6_keep 131 = .ok (.bipush 82, 2) := by decide +kernel
theorem dX6_keep_133 : decode cX6_keep 133 = .ok (.iadd, 1) := by decide +kernel
theorem dX6_keep_134 : decode cX6_keep 134 = .ok (.aload_n 0, 1) := by decide +kernel
theorem dX6_keep_135 : decode cX6_keep 135 = .ok (.getfield 120, 3) := by decide +kernel
theorem dX6_keep_138 : decode cX6_keep 138 = .ok (.iastore, 1) := by decide +kernel
theorem dX6_keep_139 : decode cX6_keep 139 = .ok (.aload_n 0, 1) := by decide +kernel
theorem dX6_keep_140 : decode cX6_keep 140 = .ok (.getfield 102, 3) := by decide +kernel
theorem dX6_keep_143 : decode cX6_keep 143 = .ok (.iload_n 2, 1) := by decide +kernel
theorem dX6_keep_144 : decode cX6_keep 144 = .ok (.bipush 83, 2) := by decide +kernel
theorem dX6_keep_146 : decode cX6_keep 146 = .ok (.iadd, 1) := by decide +kernel
theorem dX6_keep_147 : decode cX6_keep 147 = .ok (.aload_n 0, 1) := by decide +kernel
theorem dX6_keep_148 : decode cX6_keep 148 = .ok (.getfield 44, 3) := by decide +kernel
theorem dX6_keep_151 : decode cX6_keep 151 = .ok (.iastore, 1) := by decide +kernel
theorem dX6_keep_152 : decode cX6_keep 152 = .ok (.aload_n 0, 1) := by decide +kernel
theorem dX6_keep_153 : decode cX6_keep 153 = .ok (.getfield 102, 3) := by decide +kernel
theorem dX6_keep_156 : decode cX6_keep 156 = .ok (.iload_n 2, 1) := by decide +kernel
theorem dX6_keep_157 : decode cX6_keep 157 = .ok (.bipush 84, 2) := by decide +kernel
theorem dX6_keep_159 : decode cX6_keep 159 = .ok (.iadd, 1) := by decide +kernel
theorem dX6_keep_160 : decode cX6_keep 160 = .ok (.aload_n 0, 1) := by decide +kernel
theorem dX6_keep_161 : decode cX6_keep 161 = .ok (.getfield 362, 3) := by decide +kernel
theorem dX6_keep_164 : decode cX6_keep 164 = .ok (.iastore, 1) := by decide +kernel
theorem dX6_keep_165 : decode cX6_keep 165 = .ok (.aload_n 0, 1) := by decide +kernel
theorem dX6_keep_166 : decode cX6_keep 166 = .ok (.getfield 105, 3) := by decide +kernel
theorem dX6_keep_169 : decode cX6_keep 169 = .ok (.iload_n 1, 1) := by decide +kernel
theorem dX6_keep_170 : decode cX6_keep 170 = .ok (.iconst 1, 1) := by decide +kernel
theorem dX6_keep_171 : decode cX6_keep 171 = .ok (.bastore, 1) := by decide +kernel
theorem dX6_keep_172 : decode cX6_keep 172 = .ok (.iconst 1, 1) := by decide +kernel
theorem dX6_keep_173 : decode cX6_keep 173 = .ok (.ireturn, 1) := by decide +kernel
theorem dX6_goBack_0 : decode cX6_goBack 0 = .ok (.iload_n 1, 1) := by decide +kernel
theorem dX6_goBack_1 : decode cX6_goBack 1 = .ok (.i2l, 1) := by decide +kernel
theorem dX6_goBack_2 : decode cX6_goBack 2 = .ok (.lconst 0, 1) := by decide +kernel
theorem dX6_goBack_3 : decode cX6_goBack 3 = .ok (.lconst 1, 1) := by decide +kernel
theorem dX6_goBack_4 : decode cX6_goBack 4 = .ok (.invokestatic 114, 3) := by decide +kernel
theorem dX6_goBack_7 : decode cX6_goBack 7 = .ok (.ifCond .ne 7, 3) := by decide +kernel
theorem dX6_goBack_10 : decode cX6_goBack 10 = .ok (.ldc_w 266, 3) := by decide +kernel
theorem dX6_goBack_13 : decode cX6_goBack 13 = .ok (.ireturn, 1) := by decide +kernel
theorem dX6_goBack_14 : decode cX6_goBack 14 = .ok (.aload_n 0, 1) := by decide +kernel
theorem dX6_goBack_15 : decode cX6_goBack 15 = .ok (.getfield 105, 3) := by decide +kernel
theorem dX6_goBack_18 : decode cX6_goBack 18 = .ok (.iload_n 1, 1) := by decide +kernel
theorem dX6_goBack_19 : decode cX6_goBack 19 = .ok (.baload, 1) := by decide +kernel
theorem dX6_goBack_20 : decode cX6_goBack 20 = .ok (.ifCond .ne 7, 3) := by decide +kernel
theorem dX6_goBack_23 : decode cX6_goBack 23 = .ok (.ldc_w 317, 3) := by decide +kernel
theorem dX6_goBack_26 : decode cX6_goBack 26 = .ok (.ireturn, 1) := by decide +kernel
theorem dX6_goBack_27 : decode cX6_goBack 27 = .ok (.bipush 100, 2) := by decide +kernel
theorem dX6_goBack_29 : decode cX6_goBack 29 = .ok (.iload_n 1, 1) := by decide +kernel
theorem dX6_goBack_30 : decode cX6_goBack 30 = .ok (.imul, 1) := by decide +kernel
theorem dX6_goBack_31 : decode cX6_goBack 31 = .ok (.istore_n 2, 1) := by decide +kernel
theorem dX6_goBack_32 : decode cX6_goBack 32 = .ok (.iconst 0, 1) := by decide +kernel
theorem dX6_goBack_33 : decode cX6_goBack 33 = .ok (.istore_n 3, 1) := by decide +kernel
theorem dX6_goBack_34 : decode cX6_goBack 34 = .ok (.iload_n 3, 1) := by decide +kernel
theorem dX6_goBack_35 : decode cX6_goBack 35 = .ok (.bipush 36, 2) := by decide +kernel
theorem dX6_goBack_37 : decode cX6_goBack 37 = .ok (.if_icmp .ge 23, 3) := by decide +kernel
theorem dX6_goBack_40 : decode cX6_goBack 40 = .ok (.aload_n 0, 1) := by decide +kernel
theorem dX6_goBack_41 : decode cX6_goBack 41 = .ok (.getfield 32, 3) := by decide +kernel
theorem dX6_goBack_44 : decode cX6_goBack 44 = .ok (.iload_n 3, 1) := by decide +kernel
theorem dX6_goBack_45 : decode cX6_goBack 45 = .ok (.aload_n 0, 1) := by decide +kernel
theorem dX6_goBack_46 : decode cX6_goBack 46 = .ok (.getfield 102, 3) := by decide +kernel
theorem dX6_goBack_49 : decode cX6_goBack 49 = .ok (.iload_n 2, 1) := by decide +kernel
theorem dX6_goBack_50 : decode cX6_goBack 50 = .ok (.iload_n 3, 1) := by decide +kernel
theorem dX6_goBack_51 : decode cX6_goBack 51 = .ok (.iadd, 1) := by decide +kernel
theorem dX6_goBack_52 : decode cX6_goBack 52 = .ok (.iaload, 1) := by decide +kernel
theorem dX6_goBack_53 : decode cX6_goBack 53 = .ok (.iastore, 1) := by decide +kernel
theorem dX6_goBack_54 : decode cX6_goBack 54 = .ok (.iinc 3 1, 3) := by decide +kernel
theorem dX6_goBack_57 : decode cX6_goBack 57 = .ok (.goto (-23), 3) := by decide +kernel
theorem dX6_goBack_60 : decode cX6_goBack 60 = .ok (.iconst 0, 1) := by decide +kernel
theorem dX6_goBack_61 : decode cX6_goBack 61 = .ok (.istore_n 3, 1) := by decide +kernel
theorem dX6_goBack_62 : decode cX6_goBack 62 = .ok (.iload_n 3, 1) := by decide +kernel
theorem dX6_goBack_63 : decode cX6_goBack 63 = .ok (.bipush 6, 2) := by decide +kernel
theorem dX6_goBack_65 : decode cX6_goBack 65 = .ok (.if_icmp .ge 26, 3) := by decide +kernel
theorem dX6_goBack_68 : decode cX6_goBack 68 = .ok (.aload_n 0, 1) := by decide +kernel
theorem dX6_goBack_69 : decode cX6_goBack 69 = .ok (.getfield 35, 3) := by decide +kernel
theorem dX6_goBack_72 : decode cX6_goBack 72 = .ok (.iload_n 3, 1) := by decide +kernel
theorem dX6_goBack_73 : decode cX6_goBack 73 = .ok (.aload_n 0, 1) := by decide +kernel
theorem dX6_goBack_74 : decode cX6_goBack 74 = .ok (.getfield 102, 3) := by decide +kernel
theorem dX6_goBack_77 : decode cX6_goBack 77 = .ok (.iload_n 2, 1) := by decide +kernel
theorem dX6_goBack_78 : decode cX6_goBack 78 = .ok (.bipush 36, 2) := by decide +kernel
theorem dX6_goBack_80 : decode cX6_goBack 80 = .ok (.iadd, 1) := by decide +kernel
theorem dX6_goBack_81 : decode cX6_goBack 81 = .ok (.iload_n 3, 1) := by decide +kernel
theorem dX6_goBack_82 : decode cX6_goBack 82 = .ok (.iadd, 1) := by decide +kernel
theorem dX6_goBack_83 : decode cX6_goBack 83 = .ok (.iaload, 1) := by decide +kernel
theorem dX6_goBack_84 : decode cX6_goBack 84 = .ok (.iastore, 1) := by decide +kernel
theorem dX6_goBack_85 : decode cX6_goBack 85 = .ok (.iinc 3 1, 3) := by decide +kernel
theorem dX6_goBack_88 : decode cX6_goBack 88 = .ok (.goto (-26), 3) := by decide +kernel
theorem dX6_goBack_91 : decode cX6_goBack 91 = .ok (.iconst 0, 1) := by decide +kernel
theorem dX6_goBack_92 : decode cX6_goBack 92 = .ok (.istore_n 3, 1) := by decide +kernel
theorem dX6_goBack_93 : decode cX6_goBack 93 = .ok (.iload_n 3, 1) := by decide +kernel
theorem dX6_goBack_94 : decode cX6_goBack 94 = .ok (.bipush 20, 2) := by decide +kernel
theorem dX6_goBack_96 : decode cX6_goBack 96 = .ok (.if_icmp .ge 43, 3) := by decide +kernel
theorem dX6_goBack_99 : decode cX6_goBack 99 = .ok (.aload_n 0, 1) := by decide +kernel
theorem dX6_goBack_100 : decode cX6_goBack 100 = .ok (.getfield 38, 3) := by decide +kernel
theorem dX6_goBack_103 : decode cX6_goBack 103 = .ok (.iload_n 3, 1) := by decide +kernel
theorem dX6_goBack_104 : decode cX6_goBack 104 = .ok (.aload_n 0, 1) := by decide +kernel
theorem dX6_goBack_105 : decode cX6_goBack 105 = .ok (.getfield 102, 3) := by decide +kernel
theorem dX6_goBack_108 : decode cX6_goBack 108 = .ok (.iload_n 2, 1) := by decide +kernel
theorem dX6_goBack_109 : decode cX6_goBack 109 = .ok (.bipush 42, 2) := by decide +kernel
theorem dX6_goBack_111 : decode cX6_goBack 111 = .ok (.iadd, 1) := by decide +kernel
theorem dX6_goBack_112 : decode cX6_goBack 112 = .ok (.iload_n 3, 1) := by decide +kernel
theorem dX6_goBack_113 : decode cX6_goBack 113 = .ok (.iadd, 1) := by decide +kernel
theorem dX6_goBack_114 : decode cX6_goBack 114 = .ok (.iaload, 1) := by decide +kernel
theorem dX6_goBack_115 : decode cX6_goBack 115 = .ok (.iastore, 1) := by decide +kernel
theorem dX6_goBack_116 : decode cX6_goBack 116 = .ok (.aload_n 0, 1) := by decide +kernel
theorem dX6_goBack_117 : decode cX6_goBack 117 = .ok (.getfield 41, 3) := by decide +kernel
theorem dX6_goBack_120 : decode cX6_goBack 120 = .ok (.iload_n 3, 1) := by decide +kernel
theorem dX6_goBack_121 : decode cX6_goBack 121 = .ok (.aload_n 0, 1) := by decide +kernel
theorem dX6_goBack_122 : decode cX6_goBack 122 = .ok (.getfield 102, 3) := by decide +kernel
theorem dX6_goBack_125 : decode cX6_goBack 125 = .ok (.iload_n 2, 1) := by decide +kernel
theorem dX6_goBack_126 : decode cX6_goBack 126 = .ok (.bipush 62, 2) := by decide +kernel
theorem dX6_goBack_128 : decode cX6_goBack 128 = .ok (.iadd, 1) := by decide +kernel
theorem dX6_goBack_129 : decode cX6_goBack 129 = .ok (.iload_n 3, 1) := by decide +kernel
theorem dX6_goBack_130 : decode cX6_goBack 130 = .ok (.iadd, 1) := by decide +kernel
theorem dX6_goBack_131 : decode cX6_goBack 131 = .ok (.iaload, 1) := by decide +kernel
theorem dX6_goBack_132 : decode cX6_goBack 132 = .ok (.iastore, 1) := by decide +kernel
theorem dX6_goBack_133 : decode cX6_goBack 133 = .ok (.iinc 3 1, 3) := by decide +kernel
theorem dX6_goBack_136 : decode cX6_goBack 136 = .ok (.goto (-43), 3) := by decide +kernel
theorem dX6_goBack_139 : decode cX6_goBack 139 = .ok (.aload_n 0, 1) := by decide +kernel
theorem dX6_goBack_140 : decode cX6_goBack 140 = .ok (.aload_n 0, 1) := by decide +kernel
theorem dX6_goBack_141 : decode cX6_goBack 141 = .ok (.getfield 102, 3) := by decide +kernel
theorem dX6_goBack_144 : decode cX6_goBack 144 = .ok (.iload_n 2, 1) := by decide +kernel
theorem dX6_goBack_145 : decode cX6_goBack 145 = .ok (.bipush 82, 2) := by decide +kernel
theorem dX6_goBack_147 : decode cX6_goBack 147 = .ok (.iadd, 1) := by decide +kernel
theorem dX6_goBack_148 : decode cX6_goBack 148 = .ok (.iaload, 1) := by decide +kernel
theorem dX6_goBack_149 : decode cX6_goBack 149 = .ok (.putfield 120, 3) := by decide +kernel
theorem dX6_goBack_152 : decode cX6_goBack 152 = .ok (.aload_n 0, 1) := by decide +kernel
theorem dX6_goBack_153 : decode cX6_goBack 153 = .ok (.aload_n 0, 1) := by decide +kernel
theorem dX6_goBack_154 : decode cX6_goBack 154 = .ok (.getfield 102, 3) := by decide +kernel
theorem dX6_goBack_157 : decode cX6_goBack 157 = .ok (.iload_n 2, 1) := by decide +kernel
theorem dX6_goBack_158 : decode cX6_goBack 158 = .ok (.bipush 83, 2) := by decide +kernel
theorem dX6_goBack_160 : decode cX6_goBack 160 = .ok (.iadd, 1) := by decide +kernel
theorem dX6_goBack_161 : decode cX6_goBack 161 = .ok (.iaload, 1) := by decide +kernel
theorem dX6_goBack_162 : decode cX6_goBack 162 = .ok (.putfield 44, 3) := by decide +kernel
theorem dX6_goBack_165 : decode cX6_goBack 165 = .ok (.aload_n 0, 1) := by decide +kernel
theorem dX6_goBack_166 : decode cX6_goBack 166 = .ok (.aload_n 0, 1) := by decide +kernel
theorem dX6_goBack_167 : decode cX6_goBack 167 = .ok (.getfield 102, 3) := by decide +kernel
theorem dX6_goBack_170 : decode cX6_goBack 170 = .ok (.iload_n 2, 1) := by decide +kernel
theorem dX6_goBack_171 : decode cX6_goBack 171 = .ok (.bipush 84, 2) := by decide +kernel
theorem dX6_goBack_173 : decode cX6_goBack 173 = .ok (.iadd, 1) := by decide +kernel
theorem dX6_goBack_174 : decode cX6_goBack 174 = .ok (.iaload, 1) := by decide +kernel
theorem dX6_goBack_175 : decode cX6_goBack 175 = .ok (.putfield 362, 3) := by decide +kernel
theorem dX6_goBack_178 : decode cX6_goBack 178 = .ok (.iconst 1, 1) := by decide +kernel
theorem dX6_goBack_179 : decode cX6_goBack 179 = .ok (.ireturn, 1) := by decide +kernel
theorem dJ6_bitCount_0f7a4_0 : decode cJ6_bitCount_0f7a4 0 = .ok (.iload_n 0, 1) := by decide +kernel
theorem dJ6_bitCount_0f7a4_1 : decode cJ6_bitCount_0f7a4 1 = .ok (.iload_n 0, 1) := by decide +kernel
theorem dJ6_bitCount_0f7a4_2 : decode cJ6_bitCount_0f7a4 2 = .ok (.iconst 1, 1) := by decide +kernel
theorem dJ6_bitCount_0f7a4_3 : decode cJ6_bitCount_0f7a4 3 = .ok (.iushr, 1) := by decide +kernel
theorem dJ6_bitCount_0f7a4_4 : decode cJ6_bitCount_0f7a4 4 = .ok (.ldc_w 265, 3) := by decide +kernel
theorem dJ6_bitCount_0f7a4_7 : decode cJ6_bitCount_0f7a4 7 = .ok (.iand, 1) := by decide +kernel
theorem dJ6_bitCount_0f7a4_8 : decode cJ6_bitCount_0f7a4 8 = .ok (.isub, 1) := by decide +kernel
theorem dJ6_bitCount_0f7a4_9 : decode cJ6_bitCount_0f7a4 9 = .ok (.istore_n 0, 1) := by decide +kernel
theorem dJ6_bitCount_0f7a4_10 : decode cJ6_bitCount_0f7a4 10 = .ok (.iload_n 0, 1) := by decide +kernel
theorem dJ6_bitCount_0f7a4_11 : decode cJ6_bitCount_0f7a4 11 = .ok (.ldc_w 266, 3) := by decide +kernel
theorem dJ6_bitCount_0f7a4_14 : decode cJ6_bitCount_0f7a4 14 = .ok (.iand, 1) := by decide +kernel
theorem dJ6_bitCount_0f7a4_15 : decode cJ6_bitCount_0f7a4 15 = .ok (.iload_n 0, 1) := by decide +kernel
theorem dJ6_bitCount_0f7a4_16 : decode cJ6_bitCount_0f7a4 16 = .ok (.iconst 2, 1) := by decide +kernel
theorem dJ6_bitCount_0f7a4_17 : decode cJ6_bitCount_0f7a4 17 = .ok (.iushr, 1) := by decide +kernel
theorem dJ6_bitCount_0f7a4_18 : decode cJ6_bitCount_0f7a4 18 = .ok (.ldc_w 266, 3) := by decide +kernel
theorem dJ6_bitCount_0f7a4_21 : decode cJ6_bitCount_0f7a4 21 = .ok (.iand, 1) := by decide +kernel
theorem dJ6_bitCount_0f7a4_22 : decode cJ6_bitCount_0f7a4 22 = .ok (.iadd, 1) := by decide +kernel
theorem dJ6_bitCount_0f7a4_23 : decode cJ6_bitCount_0f7a4 23 = .ok (.istore_n 0, 1) := by decide +kernel
theorem dJ6_bitCount_0f7a4_24 : decode cJ6_bitCount_0f7a4 24 = .ok (.iload_n 0, 1) := by decide +kernel
theorem dJ6_bitCount_0f7a4_25 : decode cJ6_bitCount_0f7a4 25 = .ok (.iload_n 0, 1) := by decide +kernel
theorem dJ6_bitCount_0f7a4_26 : decode cJ6_bitCount_0f7a4 26 = .ok (.iconst 4, 1) := by decide +kernel
theorem dJ6_bitCount_0f7a4_27 : decode cJ6_bitCount_0f7a4 27 = .ok (.iushr, 1) := by decide +kernel
theorem dJ6_bitCount_0f7a4_28 : decode cJ6_bitCount_0f7a4 28 = .ok (.iadd, 1) := by decide +kernel
theorem dJ6_bitCount_0f7a4_29 : decode cJ6_bitCount_0f7a4 29 = .ok (.ldc_w 267, 3) := by decide +kernel
theorem dJ6_bitCount_0f7a4_32 : decode cJ6_bitCount_0f7a4 32 = .ok (.iand, 1) := by decide +kernel
theorem dJ6_bitCount_0f7a4_33 : decode cJ6_bitCount_0f7a4 33 = .ok (.istore_n 0, 1) := by decide +kernel
theorem dJ6_bitCount_0f7a4_34 : decode cJ6_bitCount_0f7a4 34 = .ok (.iload_n 0, 1) := by decide +kernel
theorem dJ6_bitCount_0f7a4_35 : decode cJ6_bitCount_0f7a4 35 = .ok (.iload_n 0, 1) := by decide +kernel
theorem dJ6_bitCount_0f7a4_36 : decode cJ6_bitCount_0f7a4 36 = .ok (.bipush 8, 2) := by decide +kernel
theorem dJ6_bitCount_0f7a4_38 : decode cJ6_bitCount_0f7a4 38 = .ok (.iushr, 1) := by decide +kernel
theorem dJ6_bitCount_0f7a4_39 : decode cJ6_bitCount_0f7a4 39 = .ok (.iadd, 1) := by decide +kernel
theorem dJ6_bitCount_0f7a4_40 : decode cJ6_bitCount_0f7a4 40 = .ok (.istore_n 0, 1) := by decide +kernel
theorem dJ6_bitCount_0f7a4_41 : decode cJ6_bitCount_0f7a4 41 = .ok (.iload_n 0, 1) := by decide +kernel
theorem dJ6_bitCount_0f7a4_42 : decode cJ6_bitCount_0f7a4 42 = .ok (.iload_n 0, 1) := by decide +kernel
theorem dJ6_bitCount_0f7a4_43 : decode cJ6_bitCount_0f7a4 43 = .ok (.bipush 16, 2) := by decide +kernel
theorem dJ6_bitCount_0f7a4_45 : decode cJ6_bitCount_0f7a4 45 = .ok (.iushr, 1) := by decide +kernel
theorem dJ6_bitCount_0f7a4_46 : decode cJ6_bitCount_0f7a4 46 = .ok (.iadd, 1) := by decide +kernel
theorem dJ6_bitCount_0f7a4_47 : decode cJ6_bitCount_0f7a4 47 = .ok (.istore_n 0, 1) := by decide +kernel
theorem dJ6_bitCount_0f7a4_48 : decode cJ6_bitCount_0f7a4 48 = .ok (.iload_n 0, 1) := by decide +kernel
theorem dJ6_bitCount_0f7a4_49 : decode cJ6_bitCount_0f7a4 49 = .ok (.bipush 63, 2) := by decide +kernel
theorem dJ6_bitCount_0f7a4_51 : decode cJ6_bitCount_0f7a4 51 = .ok (.iand, 1) := by decide +kernel
theorem dJ6_bitCount_0f7a4_52 : decode cJ6_bitCount_0f7a4 52 = .ok (.ireturn, 1) := by decide +kernel
theorem dJ9_abs_0f7a4_0 : decode cJ9_abs_0f7a4 0 = .ok (.iload_n 0, 1) := by decide +kernel
theorem dJ9_abs_0f7a4_1 : decode cJ9_abs_0f7a4 1 = .ok (.ifCond .ge 8, 3) := by decide +kernel
theorem dJ9_abs_0f7a4_4 : decode cJ9_abs_0f7a4 4 = .ok (.iload_n 0, 1) := by decide +kernel
theorem dJ9_abs_0f7a4_5 : decode cJ9_abs_0f7a4 5 = .ok (.ineg, 1) := by decide +kernel
theorem dJ9_abs_0f7a4_6 : decode cJ9_abs_0f7a4 6 = .ok (.goto 4, 3) := by decide +kernel
theorem dJ9_abs_0f7a4_9 : decode cJ9_abs_0f7a4 9 = .ok (.iload_n 0, 1) := by decide +kernel
theorem dJ9_abs_0f7a4_10 : decode cJ9_abs_0f7a4 10 = .ok (.ireturn, 1) := by decide +kernel
theorem dJ9_max_7cf53_0 : decode cJ9_max_7cf53 0 = .ok (.iload_n 0, 1) := by decide +kernel
theorem dJ9_max_7cf53_1 : decode cJ9_max_7cf53 1 = .ok (.iload_n 1, 1) := by decide +kernel
theorem dJ9_max_7cf53_2 : decode cJ9_max_7cf53 2 = .ok (.if_icmp .lt 7, 3) := by decide +kernel
theorem dJ9_max_7cf53_5 : decode cJ9_max_7cf53 5 = .ok (.iload_n 0, 1) := by decide +kernel
theorem dJ9_max_7cf53_6 : decode cJ9_max_7cf53 6 = .ok (.goto 4, 3) := by decide +kernel
theorem dJ9_max_7cf53_9 : decode cJ9_max_7cf53 9 = .ok (.iload_n 1, 1) := by decide +kernel
theorem dJ9_max_7cf53_10 : decode cJ9_max_7cf53 10 = .ok (.ireturn, 1) := by decide +kernel
theorem dJ9_min_7cf53_0 : decode cJ9_min_7cf53 0 = .ok (.iload_n 0, 1) := by decide +kernel
theorem dJ9_min_7cf53_1 : decode cJ9_min_7cf53 1 = .ok (.iload_n 1, 1) := by decide +kernel
theorem dJ9_min_7cf53_2 : decode cJ9_min_7cf53 2 = .ok (.if_icmp .gt 7, 3) := by decide +kernel
theorem dJ9_min_7cf53_5 : decode cJ9_min_7cf53 5 = .ok (.iload_n 0, 1) := by decide +kernel
theorem dJ9_min_7cf53_6 : decode cJ9_min_7cf53 6 = .ok (.goto 4, 3) := by decide +kernel
theorem dJ9_min_7cf53_9 : decode cJ9_min_7cf53 9 = .ok (.iload_n 1, 1) := by decide +kernel
theorem dJ9_min_7cf53_10 : decode cJ9_min_7cf53 10 = .ok (.ireturn, 1) := by decide +kernel
theorem dJ0_length_8abf5_0 : decode cJ0_length_8abf5 0 = .ok (.aload_n 0, 1) := by decide +kernel
theorem dJ0_length_8abf5_1 : decode cJ0_length_8abf5 1 = .ok (.getfield 9, 3) := by decide +kernel
theorem dJ0_length_8abf5_4 : decode cJ0_length_8abf5 4 = .ok (.arraylength, 1) := by decide +kernel
theorem dJ0_length_8abf5_5 : decode cJ0_length_8abf5 5 = .ok (.aload_n 0, 1) := by decide +kernel
theorem dJ0_length_8abf5_6 : decode cJ0_length_8abf5 6 = .ok (.invokevirtual 335, 3) := by decide +kernel
theorem dJ0_length_8abf5_9 : decode cJ0_length_8abf5 9 = .ok (.ishr, 1) := by decide +kernel
theorem dJ0_length_8abf5_10 : decode cJ0_length_8abf5 10 = .ok (.ireturn, 1) := by decide +kernel
theorem dJ0_charAt_5068e_0 : decode cJ0_charAt_5068e 0 = .ok (.aload_n 0, 1) := by decide +kernel
theorem dJ0_charAt_5068e_1 : decode cJ0_charAt_5068e 1 = .ok (.invokevirtual 492, 3) := by decide +kernel
theorem dJ0_charAt_5068e_4 : decode cJ0_charAt_5068e 4 = .ok (.ifCond .eq 12, 3) := by decide +kernel
theorem dJ0_charAt_5068e_7 : decode cJ0_charAt_5068e 7 = .ok (.aload_n 0, 1) := by decide +kernel
theorem dJ0_charAt_5068e_8 : decode cJ0_charAt_5068e 8 = .ok (.getfield 9, 3) := by decide +kernel
theorem dJ0_charAt_5068e_11 : decode cJ0_charAt_5068e 11 = .ok (.iload_n 1, 1) := by decide +kernel
theorem dJ0_charAt_5068e_12 : decode cJ0_charAt_5068e 12 = .ok (.invokestatic 495, 3) := by decide +kernel
theorem dJ0_charAt_5068e_15 : decode cJ0_charAt_5068e 15 = .ok (.ireturn, 1) := by decide +kernel
theorem dJ0_charAt_5068e_16 : decode cJ0_charAt_5068e 16 = .ok (.aload_n 0, 1) := by decide +kernel
theorem dJ0_charAt_5068e_17 : decode cJ0_charAt_5068e 17 = .ok (.getfield 9, 3) := by decide +kernel
theorem dJ0_charAt_5068e_20 : decode cJ0_charAt_5068e 20 = .ok (.iload_n 1, 1) := by decide +kernel
theorem dJ0_charAt_5068e_21 : decode cJ0_charAt_5068e 21 = .ok (.invokestatic 498, 3) := by decide +kernel
theorem dJ0_charAt_5068e_24 : decode cJ0_charAt_5068e 24 = .ok (.ireturn, 1) := by decide +kernel
theorem dJ0_coder_7d493_0 : decode cJ0_coder_7d493 0 = .ok (.getstatic 38, 3) := by decide +kernel
theorem dJ0_coder_7d493_3 : decode cJ0_coder_7d493 3 = .ok (.ifCond .eq 10, 3) := by decide +kernel
theorem dJ0_coder_7d493_6 : decode cJ0_coder_7d493 6 = .ok (.aload_n 0, 1) := by decide +kernel
theorem dJ0_coder_7d493_7 : decode cJ0_coder_7d493 7 = .ok (.getfield 15, 3) := by decide +kernel
theorem dJ0_coder_7d493_10 : decode cJ0_coder_7d493 10 = .ok (.goto 4, 3) := by decide +kernel
theorem dJ0_coder_7d493_13 : decode cJ0_coder_7d493 13 = .ok (.iconst 1, 1) := by decide +kernel
theorem dJ0_coder_7d493_14 : decode cJ0_coder_7d493 14 = .ok (.ireturn, 1) := by decide +kernel
theorem dJ0_isLatin1_aae02_0 : decode cJ0_isLatin1_aae02 0 = .ok (.getstatic 38, 3) := by decide +kernel
theorem dJ0_isLatin1_aae02_3 : decode cJ0_isLatin1_aae02 3 = .ok (.ifCond .eq 14, 3) := by decide +kernel
theorem dJ0_isLatin1_aae02_6 : decode cJ0_isLatin1_aae02 6 = .ok (.aload_n 0, 1) := by decide +kernel
theorem dJ0_isLatin1_aae02_7 : decode cJ0_isLatin1_aae02 7 = .ok (.getfield 15, 3) := by decide +kernel
theorem dJ0_isLatin1_aae02_10 : decode cJ0_isLatin1_aae02 10 = .ok (.ifCond .ne 7, 3) := by decide +kernel
theorem dJ0_isLatin1_aae02_13 : decode cJ0_isLatin1_aae02 13 = .ok (.iconst 1, 1) := by decide +kernel
theorem dJ0_isLatin1_aae02_14 : decode cJ0_isLatin1_aae02 14 = .ok (.goto 4, 3) := by decide +kernel
theorem dJ0_isLatin1_aae02_17 : decode cJ0_isLatin1_aae02 17 = .ok (.iconst 0, 1) := by decide +kernel
theorem dJ0_isLatin1_aae02_18 : decode cJ0_isLatin1_aae02 18 = .ok (.ireturn, 1) := by decide +kernel
theorem dJ0_checkIndex_df160_0 : decode cJ0_checkIndex_df160 0 = .ok (.iload_n 0, 1) := by decide +kernel
theorem dJ0_checkIndex_df160_1 : decode cJ0_checkIndex_df160 1 = .ok (.iload_n 1, 1) := by decide +kernel
theorem dJ0_checkIndex_df160_2 : decode cJ0_checkIndex_df160 2 = .ok (.getstatic 1053, 3) := by decide +kernel
theorem dJ0_checkIndex_df160_5 : decode cJ0_checkIndex_df160 5 = .ok (.invokestatic 1059, 3) := by decide +kernel
theorem dJ0_checkIndex_df160_8 : decode cJ0_checkIndex_df160 8 = .ok (.pop, 1) := by decide +kernel
theorem dJ0_checkIndex_df160_9 : decode cJ0_checkIndex_df160 9 = .ok (.return_, 1) := by decide +kernel
theorem dJ1_charAt_3b067_0 : decode cJ1_charAt_3b067 0 = .ok (.iload_n 1, 1) := by decide +kernel
theorem dJ1_charAt_3b067_1 : decode cJ1_charAt_3b067 1 = .ok (.aload_n 0, 1) := by decide +kernel
theorem dJ1_charAt_3b067_2 : decode cJ1_charAt_3b067 2 = .ok (.arraylength, 1) := by decide +kernel
theorem dJ1_charAt_3b067_3 : decode cJ1_charAt_3b067 3 = .ok (.invokestatic 9, 3) := by decide +kernel
theorem dJ1_charAt_3b067_6 : decode cJ1_charAt_3b067 6 = .ok (.aload_n 0, 1) := by decide +kernel
theorem dJ1_charAt_3b067_7 : decode cJ1_charAt_3b067 7 = .ok (.iload_n 1, 1) := by decide +kernel
theorem dJ1_charAt_3b067_8 : decode cJ1_charAt_3b067 8 = .ok (.baload, 1) := by decide +kernel
theorem dJ1_charAt_3b067_9 : decode cJ1_charAt_3b067 9 = .ok (.sipush 255, 3) := by decide +kernel
theorem dJ1_charAt_3b067_12 : decode cJ1_charAt_3b067 12 = .ok (.iand, 1) := by decide +kernel
theorem dJ1_charAt_3b067_13 : decode cJ1_charAt_3b067 13 = .ok (.i2c, 1) := by decide +kernel
theorem dJ1_charAt_3b067_14 : decode cJ1_charAt_3b067 14 = .ok (.ireturn, 1) := by decide +kernel
theorem dJ2_getChar_3b067_0 : decode cJ2_getChar_3b067 0 = .ok (.getstatic 44, 3) := by decide +kernel
theorem dJ2_getChar_3b067_3 : decode cJ2_getChar_3b067 3 = .ok (.ifCond .ne 25, 3) := by decide +kernel
theorem dJ2_getChar_3b067_6 : decode cJ2_getChar_3b067 6 = .ok (.iload_n 1, 1) := by decide +kernel
theorem dJ2_getChar_3b067_7 : decode cJ2_getChar_3b067 7 = .ok (.ifCond .lt 11, 3) := by decide +kernel
theorem dJ2_getChar_3b067_10 : decode cJ2_getChar_3b067 10 = .ok (.iload_n 1, 1) := by decide +kernel
theorem dJ2_getChar_3b067_11 : decode cJ2_getChar_3b067 11 = .ok (.aload_n 0, 1) := by decide +kernel
theorem dJ2_getChar_3b067_12 : decode cJ2_getChar_3b067 12 = .ok (.invokestatic 48, 3) := by decide +kernel
theorem dJ2_getChar_3b067_15 : decode cJ2_getChar_3b067 15 = .ok (.if_icmp .lt 13, 3) := by decide +kernel
theorem dJ2_getChar_3b067_18 : decode cJ2_getChar_3b067 18 = .ok (.new 52, 3) := by decide +kernel
theorem dJ2_getChar_3b067_21 : decode cJ2_getChar_3b067 21 = .ok (.dup, 1) := by decide +kernel
theorem dJ2_getChar_3b067_22 : decode cJ2_getChar_3b067 22 = .ok (.ldc 54, 2) := by decide +kernel
theorem dJ2_getChar_3b067_24 : decode cJ2_getChar_3b067 24 = .ok (.invokespecial 56, 3) := by decide +kernel
theorem dJ2_getChar_3b067_27 : decode cJ2_getChar_3b067 27 = .ok (.athrow, 1) := by decide +kernel
theorem dJ2_getChar_3b067_28 : decode cJ2_getChar_3b067 28 = .ok (.iload_n 1, 1) := by decide +kernel
theorem dJ2_getChar_3b067_29 : decode cJ2_getChar_3b067 29 = .ok (.iconst 1, 1) := by decide +kernel
theorem dJ2_getChar_3b067_30 : decode cJ2_getChar_3b067 30 = .ok (.ishl, 1) := by decide +kernel
theorem dJ2_getChar_3b067_31 : decode cJ2_getChar_3b067 31 = .ok (.istore_n 1, 1) := by decide +kernel
theorem dJ2_getChar_3b067_32 : decode cJ2_getChar_3b067 32 = .ok (.aload_n 0, 1) := by decide +kernel
theorem dJ2_getChar_3b067_33 : decode cJ2_getChar_3b067 33 = .ok (.iload_n 1, 1) := by decide +kernel
theorem dJ2_getChar_3b067_34 : decode cJ2_getChar_3b067 34 = .ok (.iinc 1 1, 3) := by decide +kernel
theorem dJ2_getChar_3b067_37 : decode cJ2_getChar_3b067 37 = .ok (.baload, 1) := by decide +kernel
theorem dJ2_getChar_3b067_38 : decode cJ2_getChar_3b067 38 = .ok (.sipush 255, 3) := by decide +kernel
theorem dJ2_getChar_3b067_41 : decode cJ2_getChar_3b067 41 = .ok (.iand, 1) := by decide +kernel
theorem dJ2_getChar_3b067_42 : decode cJ2_getChar_3b067 42 = .ok (.getstatic 59, 3) := by decide +kernel
theorem dJ2_getChar_3b067_45 : decode cJ2_getChar_3b067 45 = .ok (.ishl, 1) := by decide +kernel
theorem dJ2_getChar_3b067_46 : decode cJ2_getChar_3b067 46 = .ok (.aload_n 0, 1) := by decide +kernel
theorem dJ2_getChar_3b067_47 : decode cJ2_getChar_3b067 47 = .ok (.iload_n 1, 1) := by decide +kernel
theorem dJ2_getChar_3b067_48 : decode cJ2_getChar_3b067 48 = .ok (.baload, 1) := by decide +kernel
theorem dJ2_getChar_3b067_49 : decode cJ2_getChar_3b067 49 = .ok (.sipush 255, 3) := by decide +kernel
theorem dJ2_getChar_3b067_52 : decode cJ2_getChar_3b067 52 = .ok (.iand, 1) := by decide +kernel
theorem dJ2_getChar_3b067_53 : decode cJ2_getChar_3b067 53 = .ok (.getstatic 63, 3) := by decide +kernel
theorem dJ2_getChar_3b067_56 : decode cJ2_getChar_3b067 56 = .ok (.ishl, 1) := by decide +kernel
theorem dJ2_getChar_3b067_57 : decode cJ2_getChar_3b067 57 = .ok (.ior, 1) := by decide +kernel
theorem dJ2_getChar_3b067_58 : decode cJ2_getChar_3b067 58 = .ok (.i2c, 1) := by decide +kernel
theorem dJ2_getChar_3b067_59 : decode cJ2_getChar_3b067 59 = .ok (.ireturn, 1) := by decide +kernel
theorem dJ2_length_9d52b_0 : decode cJ2_length_9d52b 0 = .ok (.aload_n 0, 1) := by decide +kernel
theorem dJ2_length_9d52b_1 : decode cJ2_length_9d52b 1 = .ok (.arraylength, 1) := by decide +kernel
theorem dJ2_length_9d52b_2 : decode cJ2_length_9d52b 2 = .ok (.iconst 1, 1) := by decide +kernel
theorem dJ2_length_9d52b_3 : decode cJ2_length_9d52b 3 = .ok (.ishr, 1) := by decide +kernel
theorem dJ2_length_9d52b_4 : decode cJ2_length_9d52b 4 = .ok (.ireturn, 1) := by decide +kernel
theorem dJ2_charAt_3b067_0 : decode cJ2_charAt_3b067 0 = .ok (.iload_n 1, 1) := by decide +kernel
theorem dJ2_charAt_3b067_1 : decode cJ2_charAt_3b067 1 = .ok (.aload_n 0, 1) := by decide +kernel
theorem dJ2_charAt_3b067_2 : decode cJ2_charAt_3b067 2 = .ok (.invokestatic 67, 3) := by decide +kernel
theorem dJ2_charAt_3b067_5 : decode cJ2_charAt_3b067 5 = .ok (.aload_n 0, 1) := by decide +kernel
theorem dJ2_charAt_3b067_6 : decode cJ2_charAt_3b067 6 = .ok (.iload_n 1, 1) := by decide +kernel
theorem dJ2_charAt_3b067_7 : decode cJ2_charAt_3b067 7 = .ok (.invokestatic 71, 3) := by decide +kernel
theorem dJ2_charAt_3b067_10 : decode cJ2_charAt_3b067 10 = .ok (.ireturn, 1) := by decide +kernel
theorem dJ2_checkIndex_2214a_0 : decode cJ2_checkIndex_2214a 0 = .ok (.iload_n 0, 1) := by decide +kernel
theorem dJ2_checkIndex_2214a_1 : decode cJ2_checkIndex_2214a 1 = .ok (.aload_n 1, 1) := by decide +kernel
theorem dJ2_checkIndex_2214a_2 : decode cJ2_checkIndex_2214a 2 = .ok (.invokestatic 48, 3) := by decide +kernel
theorem dJ2_checkIndex_2214a_5 : decode cJ2_checkIndex_2214a 5 = .ok (.invokestatic 414, 3) := by decide +kernel
theorem dJ2_checkIndex_2214a_8 : decode cJ2_checkIndex_2214a 8 = .ok (.return_, 1) := by decide +kernel
theorem dJ7_fill_53178_0 : decode cJ7_fill_53178 0 = .ok (.iconst 0, 1) := by decide +kernel
theorem dJ7_fill_53178_1 : decode cJ7_fill_53178 1 = .ok (.istore_n 2, 1) := by decide +kernel
theorem dJ7_fill_53178_2 : decode cJ7_fill_53178 2 = .ok (.aload_n 0, 1) := by decide +kernel
theorem dJ7_fill_53178_3 : decode cJ7_fill_53178 3 = .ok (.arraylength, 1) := by decide +kernel
theorem dJ7_fill_53178_4 : decode cJ7_fill_53178 4 = .ok (.istore_n 3, 1) := by decide +kernel
theorem dJ7_fill_53178_5 : decode cJ7_fill_53178 5 = .ok (.iload_n 2, 1) := by decide +kernel
theorem dJ7_fill_53178_6 : decode cJ7_fill_53178 6 = .ok (.iload_n 3, 1) := by decide +kernel
theorem dJ7_fill_53178_7 : decode cJ7_fill_53178 7 = .ok (.if_icmp .ge 13, 3) := by decide +kernel
theorem dJ7_fill_53178_10 : decode cJ7_fill_53178 10 = .ok (.aload_n 0, 1) := by decide +kernel
theorem dJ7_fill_53178_11 : decode cJ7_fill_53178 11 = .ok (.iload_n 2, 1) := by decide +kernel
theorem dJ7_fill_53178_12 : decode cJ7_fill_53178 12 = .ok (.iload_n 1, 1) := by decide +kernel
theorem dJ7_fill_53178_13 : decode cJ7_fill_53178 13 = .ok (.iastore, 1) := by decide +kernel
theorem dJ7_fill_53178_14 : decode cJ7_fill_53178 14 = .ok (.iinc 2 1, 3) := by decide +kernel
theorem dJ7_fill_53178_17 : decode cJ7_fill_53178 17 = .ok (.goto (-12), 3) := by decide +kernel
theorem dJ7_fill_53178_20 : decode cJ7_fill_53178 20 = .ok (.return_, 1) := by decide +kernel
theorem dJ3_checkIndex_8e157_0 : decode cJ3_checkIndex_8e157 0 = .ok (.iload_n 0, 1) := by decide +kernel
theorem dJ3_checkIndex_8e157_1 : decode cJ3_checkIndex_8e157 1 = .ok (.ifCond .lt 8, 3) := by decide +kernel
theorem dJ3_checkIndex_8e157_4 : decode cJ3_checkIndex_8e157 4 = .ok (.iload_n 0, 1) := by decide +kernel
theorem dJ3_checkIndex_8e157_5 : decode cJ3_checkIndex_8e157 5 = .ok (.iload_n 1, 1) := by decide +kernel
theorem dJ3_checkIndex_8e157_6 : decode cJ3_checkIndex_8e157 6 = .ok (.if_icmp .lt 10, 3) := by decide +kernel
theorem dJ3_checkIndex_8e157_9 : decode cJ3_checkIndex_8e157 9 = .ok (.aload_n 2, 1) := by decide +kernel
theorem dJ3_checkIndex_8e157_10 : decode cJ3_checkIndex_8e157 10 = .ok (.iload_n 0, 1) := by decide +kernel
theorem dJ3_checkIndex_8e157_11 : decode cJ3_checkIndex_8e157 11 = .ok (.iload_n 1, 1) := by decide +kernel
theorem dJ3_checkIndex_8e157_12 : decode cJ3_checkIndex_8e157 12 = .ok (.invokestatic 95, 3) := by decide +kernel
theorem dJ3_checkIndex_8e157_15 : decode cJ3_checkIndex_8e157 15 = .ok (.athrow, 1) := by decide +kernel
theorem dJ3_checkIndex_8e157_16 : decode cJ3_checkIndex_8e157 16 = .ok (.iload_n 0, 1) := by decide +kernel
theorem dJ3_checkIndex_8e157_17 : decode cJ3_checkIndex_8e157 17 = .ok (.ireturn, 1) := by decide +kernel
theorem dL_law_0 : decode cL_law 0 = .ok (.new 7, 3) := by decide +kernel
theorem dL_law_3 : decode cL_law 3 = .ok (.dup, 1) := by decide +kernel
theorem dL_law_4 : decode cL_law 4 = .ok (.invokespecial 9, 3) := by decide +kernel
theorem dL_law_7 : decode cL_law 7 = .ok (.astore_n 1, 1) := by decide +kernel
theorem dL_law_8 : decode cL_law 8 = .ok (.new 10, 3) := by decide +kernel
theorem dL_law_11 : decode cL_law 11 = .ok (.dup, 1) := by decide +kernel
theorem dL_law_12 : decode cL_law 12 = .ok (.invokespecial 12, 3) := by decide +kernel
theorem dL_law_15 : decode cL_law 15 = .ok (.astore_n 2, 1) := by decide +kernel
theorem dL_law_16 : decode cL_law 16 = .ok (.iconst 0, 1) := by decide +kernel
theorem dL_law_17 : decode cL_law 17 = .ok (.istore_n 3, 1) := by decide +kernel
theorem dL_law_18 : decode cL_law 18 = .ok (.iload_n 3, 1) := by decide +kernel
theorem dL_law_19 : decode cL_law 19 = .ok (.aload_n 0, 1) := by decide +kernel
theorem dL_law_20 : decode cL_law 20 = .ok (.arraylength, 1) := by decide +kernel
theorem dL_law_21 : decode cL_law 21 = .ok (.iconst 5, 1) := by decide +kernel
theorem dL_law_22 : decode cL_law 22 = .ok (.isub, 1) := by decide +kernel
theorem dL_law_23 : decode cL_law 23 = .ok (.if_icmp .gt 1033, 3) := by decide +kernel
theorem dL_law_26 : decode cL_law 26 = .ok (.aload_n 0, 1) := by decide +kernel
theorem dL_law_27 : decode cL_law 27 = .ok (.iload_n 3, 1) := by decide +kernel
theorem dL_law_28 : decode cL_law 28 = .ok (.iaload, 1) := by decide +kernel
theorem dL_law_29 : decode cL_law 29 = .ok (.bipush 31, 2) := by decide +kernel
theorem dL_law_31 : decode cL_law 31 = .ok (.iand, 1) := by decide +kernel
theorem dL_law_32 : decode cL_law 32 = .ok (.tableswitch 1018 0 27 #[128, 191, 204, 217, 240, 273, 316, 349, 382, 425, 478, 521, 544, 577, 610, 653, 686, 729, 762, 785, 808, 867, 880, 913, 926, 949, 972, 995], 128) := by decide +kernel
theorem dL_law_160 : decode cL_law 160 = .ok (.aload_n 1, 1) := by decide +kernel
theorem dL_law_161 : decode cL_law 161 = .ok (.aload_n 0, 1) := by decide +kernel
theorem dL_law_162 : decode cL_law 162 = .ok (.iload_n 3, 1) := by decide +kernel
theorem dL_law_163 : decode cL_law 163 = .ok (.iconst 1, 1) := by decide +kernel
theorem dL_law_164 : decode cL_law 164 = .ok (.iadd, 1) := by decide +kernel
theorem dL_law_165 : decode cL_law 165 = .ok (.iaload, 1) := by decide +kernel
theorem dL_law_166 : decode cL_law 166 = .ok (.aload_n 0, 1) := by decide +kernel
theorem dL_law_167 : decode cL_law 167 = .ok (.iload_n 3, 1) := by decide +kernel
theorem dL_law_168 : decode cL_law 168 = .ok (.iconst 2, 1) := by decide +kernel
theorem dL_law_169 : decode cL_law 169 = .ok (.iadd, 1) := by decide +kernel
theorem dL_law_170 : decode cL_law 170 = .ok (.iaload, 1) := by decide +kernel
theorem dL_law_171 : decode cL_law 171 = .ok (.i2l, 1) := by decide +kernel
theorem dL_law_172 : decode cL_law 172 = .ok (.bipush 32, 2) := by decide +kernel
theorem dL_law_174 : decode cL_law 174 = .ok (.lshl, 1) := by decide +kernel
theorem dL_law_175 : decode cL_law 175 = .ok (.aload_n 0, 1) := by decide +kernel
theorem dL_law_176 : decode cL_law 176 = .ok (.iload_n 3, 1) := by decide +kernel
theorem dL_law_177 : decode cL_law 177 = .ok (.iconst 3, 1) := by decide +kernel
theorem dL_law_178 : decode cL_law 178 = .ok (.iadd, 1) := by decide +kernel
theorem dL_law_179 : decode cL_law 179 = .ok (.iaload, 1) := by decide +kernel
theorem dL_law_180 : decode cL_law 180 = .ok (.i2l, 1) := by decide +kernel
theorem dL_law_181 : decode cL_law 181 = .ok (.ldc2_w 13, 3) := by decide +kernel
theorem dL_law_184 : decode cL_law 184 = .ok (.land, 1) := by decide +kernel
theorem dL_law_185 : decode cL_law 185 = .ok (.lor, 1) := by decide +kernel
theorem dL_law_186 : decode cL_law 186 = .ok (.invokevirtual 15, 3) := by decide +kernel
theorem dL_law_189 : decode cL_law 189 = .ok (.aload_n 2, 1) := by decide +kernel
theorem dL_law_190 : decode cL_law 190 = .ok (.aload_n 0, 1) := by decide +kernel
theorem dL_law_191 : decode cL_law 191 = .ok (.iload_n 3, 1) := by decide +kernel
theorem dL_law_192 : decode cL_law 192 = .ok (.iconst 1, 1) := by decide +kernel
theorem dL_law_193 : decode cL_law 193 = .ok (.iadd, 1) := by decide +kernel
theorem dL_law_194 : decode cL_law 194 = .ok (.iaload, 1) := by decide +kernel
theorem dL_law_195 : decode cL_law 195 = .ok (.aload_n 0, 1) := by decide +kernel
theorem dL_law_196 : decode cL_law 196 = .ok (.iload_n 3, 1) := by decide +kernel
theorem dL_law_197 : decode cL_law 197 = .ok (.iconst 2, 1) := by decide +kernel
theorem dL_law_198 : decode cL_law 198 = .ok (.iadd, 1) := by decide +kernel
theorem dL_law_199 : decode cL_law 199 = .ok (.iaload, 1) := by decide +kernel
theorem dL_law_200 : decode cL_law 200 = .ok (.i2l, 1) := by decide +kernel
theorem dL_law_201 : decode cL_law 201 = .ok (.bipush 32, 2) := by decide +kernel
theorem dL_law_203 : decode cL_law 203 = .ok (.lshl, 1) := by decide +kernel
theorem dL_law_204 : decode cL_law 204 = .ok (.aload_n 0, 1) := by decide +kernel
theorem dL_law_205 : decode cL_law 205 = .ok (.iload_n 3, 1) := by decide +kernel
theorem dL_law_206 : decode cL_law 206 = .ok (.iconst 3, 1) := by decide +kernel
theorem dL_law_207 : decode cL_law 207 = .ok (.iadd, 1) := by decide +kernel
theorem dL_law_208 : decode cL_law 208 = .ok (.iaload, 1) := by decide +kernel
theorem dL_law_209 : decode cL_law 209 = .ok (.i2l, 1) := by decide +kernel
theorem dL_law_210 : decode cL_law 210 = .ok (.ldc2_w 13, 3) := by decide +kernel
theorem dL_law_213 : decode cL_law 213 = .ok (.land, 1) := by decide +kernel
theorem dL_law_214 : decode cL_law 214 = .ok (.lor, 1) := by decide +kernel
theorem dL_law_215 : decode cL_law 215 = .ok (.invokevirtual 19, 3) := by decide +kernel
theorem dL_law_218 : decode cL_law 218 = .ok (.if_icmp .eq 832, 3) := by decide +kernel
theorem dL_law_221 : decode cL_law 221 = .ok (.iconst 0, 1) := by decide +kernel
theorem dL_law_222 : decode cL_law 222 = .ok (.ireturn, 1) := by decide +kernel
theorem dL_law_223 : decode cL_law 223 = .ok (.aload_n 1, 1) := by decide +kernel
theorem dL_law_224 : decode cL_law 224 = .ok (.invokevirtual 20, 3) := by decide +kernel
theorem dL_law_227 : decode cL_law 227 = .ok (.aload_n 2, 1) := by decide +kernel
theorem dL_law_228 : decode cL_law 228 = .ok (.invokevirtual 24, 3) := by decide +kernel
theorem dL_law_231 : decode cL_law 231 = .ok (.if_icmp .eq 819, 3) := by decide +kernel
theorem dL_law_234 : decode cL_law 234 = .ok (.iconst 0, 1) := by decide +kernel
theorem dL_law_235 : decode cL_law 235 = .ok (.ireturn, 1) := by decide +kernel
theorem dL_law_236 : decode cL_law 236 = .ok (.aload_n 1, 1) := by decide +kernel
theorem dL_law_237 : decode cL_law 237 = .ok (.invokevirtual 25, 3) := by decide +kernel
theorem dL_law_240 : decode cL_law 240 = .ok (.aload_n 2, 1) := by decide +kernel
theorem dL_law_241 : decode cL_law 241 = .ok (.invokevirtual 28, 3) := by decide +kernel
theorem dL_law_244 : decode cL_law 244 = .ok (.if_icmp .eq 806, 3) := by decide +kernel
theorem dL_law_247 : decode cL_law 247 = .ok (.iconst 0, 1) := by decide +kernel
theorem dL_law_248 : decode cL_law 248 = .ok (.ireturn, 1) := by decide +kernel
theorem dL_law_249 : decode cL_law 249 = .ok (.aload_n 1, 1) := by decide +kernel
theorem dL_law_250 : decode cL_law 250 = .ok (.aload_n 0, 1) := by decide +kernel
theorem dL_law_251 : decode cL_law 251 = .ok (.iload_n 3, 1) := by decide +kernel
theorem dL_law_252 : decode cL_law 252 = .ok (.iconst 1, 1) := by decide +kernel
theorem dL_law_253 : decode cL_law 253 = .ok (.iadd, 1) := by decide +kernel
theorem dL_law_254 : decode cL_law 254 = .ok (.iaload, 1) := by decide +kernel
theorem dL_law_255 : decode cL_law 255 = .ok (.invokevirtual 29, 3) := by decide +kernel
theorem dL_law_258 : decode cL_law 258 = .ok (.aload_n 2, 1) := by decide +kernel
theorem dL_law_259 : decode cL_law 259 = .ok (.aload_n 0, 1) := by decide +kernel
theorem dL_law_260 : decode cL_law 260 = .ok (.iload_n 3, 1) := by decide +kernel
theorem dL_law_261 : decode cL_law 261 = .ok (.iconst 1, 1) := by decide +kernel
theorem dL_law_262 : decode cL_law 262 = .ok (.iadd, 1) := by decide +kernel
theorem dL_law_263 : decode cL_law 263 = .ok (.iaload, 1) := by decide +kernel
theorem dL_law_264 : decode cL_law 264 = .ok (.invokevirtual 33, 3) := by decide +kernel
theorem dL_law_267 : decode cL_law 267 = .ok (.if_icmp .eq 783, 3) := by decide +kernel
theorem dL_law_270 : decode cL_law 270 = .ok (.iconst 0, 1) := by decide +kernel
theorem dL_law_271 : decode cL_law 271 = .ok (.ireturn, 1) := by decide +kernel
theorem dL_law_272 : decode cL_law 272 = .ok (.aload_n 1, 1) := by decide +kernel
theorem dL_law_273 : decode cL_law 273 = .ok (.aload_n 0, 1) := by decide +kernel
theorem dL_law_274 : decode cL_law 274 = .ok (.iload_n 3, 1) := by decide +kernel
theorem dL_law_275 : decode cL_law 275 = .ok (.iconst 1, 1) := by decide +kernel
theorem dL_law_276 : decode cL_law 276 = .ok (.iadd, 1) := by decide +kernel
theorem dL_law_277 : decode cL_law 277 = .ok (.iaload, 1) := by decide +kernel
theorem dL_law_278 : decode cL_law 278 = .ok (.aload_n 0, 1) := by decide +kernel
theorem dL_law_279 : decode cL_law 279 = .ok (.iload_n 3, 1) := by decide +kernel
theorem dL_law_280 : decode cL_law 280 = .ok (.iconst 2, 1) := by decide +kernel
theorem dL_law_281 : decode cL_law 281 = .ok (.iadd, 1) := by decide +kernel
theorem dL_law_282 : decode cL_law 282 = .ok (.iaload, 1) := by decide +kernel
theorem dL_law_283 : decode cL_law 283 = .ok (.invokevirtual 34, 3) := by decide +kernel
theorem dL_law_286 : decode cL_law 286 = .ok (.aload_n 2, 1) := by decide +kernel
theorem dL_law_287 : decode cL_law 287 = .ok (.aload_n 0, 1) := by decide +kernel
theorem dL_law_288 : decode cL_law 288 = .ok (.iload_n 3, 1) := by decide +kernel
theorem dL_law_289 : decode cL_law 289 = .ok (.iconst 1, 1) := by decide +kernel
theorem dL_law_290 : decode cL_law 290 = .ok (.iadd, 1) := by decide +kernel
theorem dL_law_291 : decode cL_law 291 = .ok (.iaload, 1) := by decide +kernel
theorem dL_law_292 : decode cL_law 292 = .ok (.aload_n 0, 1) := by decide +kernel
theorem dL_law_293 : decode cL_law 293 = .ok (.iload_n 3, 1) := by decide +kernel
theorem dL_law_294 : decode cL_law 294 = .ok (.iconst 2, 1) := by decide +kernel
theorem dL_law_295 : decode cL_law 295 = .ok (.iadd, 1) := by decide +kernel
theorem dL_law_296 : decode cL_law 296 = .ok (.iaload, 1) := by decide +kernel
theorem dL_law_297 : decode cL_law 297 = .ok (.invokevirtual 38, 3) := by decide +kernel
theorem dL_law_300 : decode cL_law 300 = .ok (.if_icmp .eq 750, 3) := by decide +kernel
theorem dL_law_303 : decode cL_law 303 = .ok (.iconst 0, 1) := by decide +kernel
theorem dL_law_304 : decode cL_law 304 = .ok (.ireturn, 1) := by decide +kernel
theorem dL_law_305 : decode cL_law 305 = .ok (.aload_n 1, 1) := by decide +kernel
theorem dL_law_306 : decode cL_law 306 = .ok (.aload_n 0, 1) := by decide +kernel
theorem dL_law_307 : decode cL_law 307 = .ok (.iload_n 3, 1) := by decide +kernel
theorem dL_law_308 : decode cL_law 308 = .ok (.iconst 1, 1) := by decide +kernel
theorem dL_law_309 : decode cL_law 309 = .ok (.iadd, 1) := by decide +kernel
theorem dL_law_310 : decode cL_law 310 = .ok (.iaload, 1) := by decide +kernel
theorem dL_law_311 : decode cL_law 311 = .ok (.aload_n 0, 1) := by decide +kernel
theorem dL_law_312 : decode cL_law 312 = .ok (.iload_n 3, 1) := by decide +kernel
theorem dL_law_313 : decode cL_law 313 = .ok (.iconst 2, 1) := by decide +kernel
theorem dL_law_314 : decode cL_law 314 = .ok (.iadd, 1) := by decide +kernel
theorem dL_law_315 : decode cL_law 315 = .ok (.iaload, 1) := by decide +kernel
theorem dL_law_316 : decode cL_law 316 = .ok (.aload_n 0, 1) := by decide +kernel
theorem dL_law_317 : decode cL_law 317 = .ok (.iload_n 3, 1) := by decide +kernel
theorem dL_law_318 : decode cL_law 318 = .ok (.iconst 3, 1) := by decide +kernel
theorem dL_law_319 : decode cL_law 319 = .ok (.iadd, 1) := by decide +kernel
theorem dL_law_320 : decode cL_law 320 = .ok (.iaload, 1) := by decide +kernel
theorem dL_law_321 : decode cL_law 321 = .ok (.invokevirtual 39, 3) := by decide +kernel
theorem dL_law_324 : decode cL_law 324 = .ok (.aload_n 2, 1) := by decide +kernel
theorem dL_law_325 : decode cL_law 325 = .ok (.aload_n 0, 1) := by decide +kernel
theorem dL_law_326 : decode cL_law 326 = .ok (.iload_n 3, 1) := by decide +kernel
theorem dL_law_327 : decode cL_law 327 = .ok (.iconst 1, 1) := by decide +kernel
theorem dL_law_328 : decode cL_law 328 = .ok (.iadd, 1) := by decide +kernel
theorem dL_law_329 : decode cL_law 329 = .ok (.iaload, 1) := by decide +kernel
theorem dL_law_330 : decode cL_law 330 = .ok (.aload_n 0, 1) := by decide +kernel
theorem dL_law_331 : decode cL_law 331 = .ok (.iload_n 3, 1) := by decide +kernel
theorem dL_law_332 : decode cL_law 332 = .ok (.iconst 2, 1) := by decide +kernel
theorem dL_law_333 : decode cL_law 333 = .ok (.iadd, 1) := by decide +kernel
theorem dL_law_334 : decode cL_law 334 = .ok (.iaload, 1) := by decide +kernel
theorem dL_law_335 : decode cL_law 335 = .ok (.aload_n 0, 1) := by decide +kernel
theorem dL_law_336 : decode cL_law 336 = .ok (.iload_n 3, 1) := by decide +kernel
theorem dL_law_337 : decode cL_law 337 = .ok (.iconst 3, 1) := by decide +kernel
theorem dL_law_338 : decode cL_law 338 = .ok (.iadd, 1) := by decide +kernel
theorem dL_law_339 : decode cL_law 339 = .ok (.iaload, 1) := by decide +kernel
theorem dL_law_340 : decode cL_law 340 = .ok (.invokevirtual 43, 3) := by decide +kernel
theorem dL_law_343 : decode cL_law 343 = .ok (.if_icmp .eq 707, 3) := by decide +kernel
theorem dL_law_346 : decode cL_law 346 = .ok (.iconst 0, 1) := by decide +kernel
theorem dL_law_347 : decode cL_law 347 = .ok (.ireturn, 1) := by decide +kernel
theorem dL_law_348 : decode cL_law 348 = .ok (.aload_n 1, 1) := by decide +kernel
theorem dL_law_349 : decode cL_law 349 = .ok (.aload_n 0, 1) := by decide +kernel
theorem dL_law_350 : decode cL_law 350 = .ok (.iload_n 3, 1) := by decide +kernel
theorem dL_law_351 : decode cL_law 351 = .ok (.iconst 1, 1) := by decide +kernel
theorem dL_law_352 : decode cL_law 352 = .ok (.iadd, 1) := by decide +kernel
theorem dL_law_353 : decode cL_law 353 = .ok (.iaload, 1) := by decide +kernel
theorem dL_law_354 : decode cL_law 354 = .ok (.aload_n 0, 1) := by decide +kernel
theorem dL_law_355 : decode cL_law 355 = .ok (.iload_n 3, 1) := by decide +kernel
theorem dL_law_356 : decode cL_law 356 = .ok (.iconst 2, 1) := by decide +kernel
theorem dL_law_357 : decode cL_law 357 = .ok (.iadd, 1) := by decide +kernel
theorem dL_law_358 : decode cL_law 358 = .ok (.iaload, 1) := by decide +kernel
theorem dL_law_359 : decode cL_law 359 = .ok (.invokevirtual 44, 3) := by decide +kernel
theorem dL_law_362 : decode cL_law 362 = .ok (.aload_n 2, 1) := by decide +kernel
theorem dL_law_363 : decode cL_law 363 = .ok (.aload_n 0, 1) := by decide +kernel
theorem dL_law_364 : decode cL_law 364 = .ok (.iload_n 3, 1) := by decide +kernel
theorem dL_law_365 : decode cL_law 365 = .ok (.iconst 1, 1) := by decide +kernel
theorem dL_law_366 : decode cL_law 366 = .ok (.iadd, 1) := by decide +kernel
theorem dL_law_367 : decode cL_law 367 = .ok (.iaload, 1) := by decide +kernel
theorem dL_law_368 : decode cL_law 368 = .ok (.aload_n 0, 1) := by decide +kernel
theorem dL_law_369 : decode cL_law 369 = .ok (.iload_n 3, 1) := by decide +kernel
theorem dL_law_370 : decode cL_law 370 = .ok (.iconst 2, 1) := by decide +kernel
theorem dL_law_371 : decode cL_law 371 = .ok (.iadd, 1) := by decide +kernel
theorem dL_law_372 : decode cL_law 372 = .ok (.iaload, 1) := by decide +kernel
theorem dL_law_373 : decode cL_law 373 = .ok (.invokevirtual 47, 3) := by decide +kernel
theorem dL_law_376 : decode cL_law 376 = .ok (.if_icmp .eq 674, 3) := by decide +kernel
theorem dL_law_379 : decode cL_law 379 = .ok (.iconst 0, 1) := by decide +kernel
theorem dL_law_380 : decode cL_law 380 = .ok (.ireturn, 1) := by decide +kernel
theorem dL_law_381 : decode cL_law 381 = .ok (.aload_n 1, 1) := by decide +kernel
theorem dL_law_382 : decode cL_law 382 = .ok (.aload_n 0, 1) := by decide +kernel
theorem dL_law_383 : decode cL_law 383 = .ok (.iload_n 3, 1) := by decide +kernel
theorem dL_law_384 : decode cL_law 384 = .ok (.iconst 1, 1) := by decide +kernel
theorem dL_law_385 : decode cL_law 385 = .ok (.iadd, 1) := by decide +kernel
theorem dL_law_386 : decode cL_law 386 = .ok (.iaload, 1) := by decide +kernel
theorem dL_law_387 : decode cL_law 387 = .ok (.aload_n 0, 1) := by decide +kernel
theorem dL_law_388 : decode cL_law 388 = .ok (.iload_n 3, 1) := by decide +kernel
theorem dL_law_389 : decode cL_law 389 = .ok (.iconst 2, 1) := by decide +kernel
theorem dL_law_390 : decode cL_law 390 = .ok (.iadd, 1) := by decide +kernel
theorem dL_law_391 : decode cL_law 391 = .ok (.iaload, 1) := by decide +kernel
theorem dL_law_392 : decode cL_law 392 = .ok (.invokevirtual 48, 3) := by decide +kernel
theorem dL_law_395 : decode cL_law 395 = .ok (.aload_n 2, 1) := by decide +kernel
theorem dL_law_396 : decode cL_law 396 = .ok (.aload_n 0, 1) := by decide +kernel
theorem dL_law_397 : decode cL_law 397 = .ok (.iload_n 3, 1) := by decide +kernel
theorem dL_law_398 : decode cL_law 398 = .ok (.iconst 1, 1) := by decide +kernel
theorem dL_law_399 : decode cL_law 399 = .ok (.iadd, 1) := by decide +kernel
theorem dL_law_400 : decode cL_law 400 = .ok (.iaload, 1) := by decide +kernel
theorem dL_law_401 : decode cL_law 401 = .ok (.aload_n 0, 1) := by decide +kernel
theorem dL_law_402 : decode cL_law 402 = .ok (.iload_n 3, 1) := by decide +kernel
theorem dL_law_403 : decode cL_law 403 = .ok (.iconst 2, 1) := by decide +kernel
theorem dL_law_404 : decode cL_law 404 = .ok (.iadd, 1) := by decide +kernel
theorem dL_law_405 : decode cL_law 405 = .ok (.iaload, 1) := by decide +kernel
theorem dL_law_406 : decode cL_law 406 = .ok (.invokevirtual 51, 3) := by decide +kernel
theorem dL_law_409 : decode cL_law 409 = .ok (.if_icmp .eq 641, 3) := by decide +kernel
theorem dL_law_412 : decode cL_law 412 = .ok (.iconst 0, 1) := by decide +kernel
theorem dL_law_413 : decode cL_law 413 = .ok (.ireturn, 1) := by decide +kernel
theorem dL_law_414 : decode cL_law 414 = .ok (.aload_n 1, 1) := by decide +kernel
theorem dL_law_415 : decode cL_law 415 = .ok (.aload_n 0, 1) := by decide +kernel
theorem dL_law_416 : decode cL_law 416 = .ok (.iload_n 3, 1) := by decide +kernel
theorem dL_law_417 : decode cL_law 417 = .ok (.iconst 1, 1) := by decide +kernel
theorem dL_law_418 : decode cL_law 418 = .ok (.iadd, 1) := by decide +kernel
theorem dL_law_419 : decode cL_law 419 = .ok (.iaload, 1) := by decide +kernel
theorem dL_law_420 : decode cL_law 420 = .ok (.aload_n 0, 1) := by decide +kernel
theorem dL_law_421 : decode cL_law 421 = .ok (.iload_n 3, 1) := by decide +kernel
theorem dL_law_422 : decode cL_law 422 = .ok (.iconst 2, 1) := by decide +kernel
theorem dL_law_423 : decode cL_law 423 = .ok (.iadd, 1) := by decide +kernel
theorem dL_law_424 : decode cL_law 424 = .ok (.iaload, 1) := by decide +kernel
theorem dL_law_425 : decode cL_law 425 = .ok (.aload_n 0, 1) := by decide +kernel
theorem dL_law_426 : decode cL_law 426 = .ok (.iload_n 3, 1) := by decide +kernel
theorem dL_law_427 : decode cL_law 427 = .ok (.iconst 3, 1) := by decide +kernel
theorem dL_law_428 : decode cL_law 428 = .ok (.iadd, 1) := by decide +kernel
theorem dL_law_429 : decode cL_law 429 = .ok (.iaload, 1) := by decide +kernel
theorem dL_law_430 : decode cL_law 430 = .ok (.invokevirtual 52, 3) := by decide +kernel
theorem dL_law_433 : decode cL_law 433 = .ok (.aload_n 2, 1) := by decide +kernel
theorem dL_law_434 : decode cL_law 434 = .ok (.aload_n 0, 1) := by decide +kernel
theorem dL_law_435 : decode cL_law 435 = .ok (.iload_n 3, 1) := by decide +kernel
theorem dL_law_436 : decode cL_law 436 = .ok (.iconst 1, 1) := by decide +kernel
theorem dL_law_437 : decode cL_law 437 = .ok (.iadd, 1) := by decide +kernel
theorem dL_law_438 : decode cL_law 438 = .ok (.iaload, 1) := by decide +kernel
theorem dL_law_439 : decode cL_law 439 = .ok (.aload_n 0, 1) := by decide +kernel
theorem dL_law_440 : decode cL_law 440 = .ok (.iload_n 3, 1) := by decide +kernel
theorem dL_law_441 : decode cL_law 441 = .ok (.iconst 2, 1) := by decide +kernel
theorem dL_law_442 : decode cL_law 442 = .ok (.iadd, 1) := by decide +kernel
theorem dL_law_443 : decode cL_law 443 = .ok (.iaload, 1) := by decide +kernel
theorem dL_law_444 : decode cL_law 444 = .ok (.aload_n 0, 1) := by decide +kernel
theorem dL_law_445 : decode cL_law 445 = .ok (.iload_n 3, 1) := by decide +kernel
theorem dL_law_446 : decode cL_law 446 = .ok (.iconst 3, 1) := by decide +kernel
theorem dL_law_447 : decode cL_law 447 = .ok (.iadd, 1) := by decide +kernel
theorem dL_law_448 : decode cL_law 448 = .ok (.iaload, 1) := by decide +kernel
theorem dL_law_449 : decode cL_law 449 = .ok (.invokevirtual 55, 3) := by decide +kernel
theorem dL_law_452 : decode cL_law 452 = .ok (.if_icmp .eq 598, 3) := by decide +kernel
theorem dL_law_455 : decode cL_law 455 = .ok (.iconst 0, 1) := by decide +kernel
theorem dL_law_456 : decode cL_law 456 = .ok (.ireturn, 1) := by decide +kernel
theorem dL_law_457 : decode cL_law 457 = .ok (.aload_n 1, 1) := by decide +kernel
theorem dL_law_458 : decode cL_law 458 = .ok (.aload_n 0, 1) := by decide +kernel
theorem dL_law_459 : decode cL_law 459 = .ok (.iload_n 3, 1) := by decide +kernel
theorem dL_law_460 : decode cL_law 460 = .ok (.iconst 1, 1) := by decide +kernel
theorem dL_law_461 : decode cL_law 461 = .ok (.iadd, 1) := by decide +kernel
theorem dL_law_462 : decode cL_law 462 = .ok (.iaload, 1) := by decide +kernel
theorem dL_law_463 : decode cL_law 463 = .ok (.aload_n 0, 1) := by decide +kernel
theorem dL_law_464 : decode cL_law 464 = .ok (.iload_n 3, 1) := by decide +kernel
theorem dL_law_465 : decode cL_law 465 = .ok (.iconst 2, 1) := by decide +kernel
theorem dL_law_466 : decode cL_law 466 = .ok (.iadd, 1) := by decide +kernel
theorem dL_law_467 : decode cL_law 467 = .ok (.iaload, 1) := by decide +kernel
theorem dL_law_468 : decode cL_law 468 = .ok (.aload_n 0, 1) := by decide +kernel
theorem dL_law_469 : decode cL_law 469 = .ok (.iload_n 3, 1) := by decide +kernel
theorem dL_law_470 : decode cL_law 470 = .ok (.iconst 3, 1) := by decide +kernel
theorem dL_law_471 : decode cL_law 471 = .ok (.iadd, 1) := by decide +kernel
theorem dL_law_472 : decode cL_law 472 = .ok (.iaload, 1) := by decide +kernel
theorem dL_law_473 : decode cL_law 473 = .ok (.aload_n 0, 1) := by decide +kernel
theorem dL_law_474 : decode cL_law 474 = .ok (.iload_n 3, 1) := by decide +kernel
theorem dL_law_475 : decode cL_law 475 = .ok (.iconst 4, 1) := by decide +kernel
theorem dL_law_476 : decode cL_law 476 = .ok (.iadd, 1) := by decide +kernel
theorem dL_law_477 : decode cL_law 477 = .ok (.iaload, 1) := by decide +kernel
theorem dL_law_478 : decode cL_law 478 = .ok (.invokevirtual 56, 3) := by decide +kernel
theorem dL_law_481 : decode cL_law 481 = .ok (.aload_n 2, 1) := by decide +kernel
theorem dL_law_482 : decode cL_law 482 = .ok (.aload_n 0, 1) := by decide +kernel
theorem dL_law_483 : decode cL_law 483 = .ok (.iload_n 3, 1) := by decide +kernel
theorem dL_law_484 : decode cL_law 484 = .ok (.iconst 1, 1) := by decide +kernel
theorem dL_law_485 : decode cL_law 485 = .ok (.iadd, 1) := by decide +kernel
theorem dL_law_486 : decode cL_law 486 = .ok (.iaload, 1) := by decide +kernel
theorem dL_law_487 : decode cL_law 487 = .ok (.aload_n 0, 1) := by decide +kernel
theorem dL_law_488 : decode cL_law 488 = .ok (.iload_n 3, 1) := by decide +kernel
theorem dL_law_489 : decode cL_law 489 = .ok (.iconst 2, 1) := by decide +kernel
theorem dL_law_490 : decode cL_law 490 = .ok (.iadd, 1) := by decide +kernel
theorem dL_law_491 : decode cL_law 491 = .ok (.iaload, 1) := by decide +kernel
theorem dL_law_492 : decode cL_law 492 = .ok (.aload_n 0, 1) := by decide +kernel
theorem dL_law_493 : decode cL_law 493 = .ok (.iload_n 3, 1) := by decide +kernel
theorem dL_law_494 : decode cL_law 494 = .ok (.iconst 3, 1) := by decide +kernel
theorem dL_law_495 : decode cL_law 495 = .ok (.iadd, 1) := by decide +kernel
theorem dL_law_496 : decode cL_law 496 = .ok (.iaload, 1) := by decide +kernel
theorem dL_law_497 : decode cL_law 497 = .ok (.aload_n 0, 1) := by decide +kernel
theorem dL_law_498 : decode cL_law 498 = .ok (.iload_n 3, 1) := by decide +kernel
theorem dL_law_499 : decode cL_law 499 = .ok (.iconst 4, 1) := by decide +kernel
theorem dL_law_500 : decode cL_law 500 = .ok (.iadd, 1) := by decide +kernel
theorem dL_law_501 : decode cL_law 501 = .ok (.iaload, 1) := by decide +kernel
theorem dL_law_502 : decode cL_law 502 = .ok (.invokevirtual 60, 3) := by decide +kernel
theorem dL_law_505 : decode cL_law 505 = .ok (.if_icmp .eq 545, 3) := by decide +kernel
theorem dL_law_508 : decode cL_law 508 = .ok (.iconst 0, 1) := by decide +kernel
theorem dL_law_509 : decode cL_law 509 = .ok (.ireturn, 1) := by decide +kernel
theorem dL_law_510 : decode cL_law 510 = .ok (.aload_n 1, 1) := by decide +kernel
theorem dL_law_511 : decode cL_law 511 = .ok (.aload_n 0, 1) := by decide +kernel
theorem dL_law_512 : decode cL_law 512 = .ok (.iload_n 3, 1) := by decide +kernel
theorem dL_law_513 : decode cL_law 513 = .ok (.iconst 1, 1) := by decide +kernel
theorem dL_law_514 : decode cL_law 514 = .ok (.iadd, 1) := by decide +kernel
theorem dL_law_515 : decode cL_law 515 = .ok (.iaload, 1) := by decide +kernel
theorem dL_law_516 : decode cL_law 516 = .ok (.aload_n 0, 1) := by decide +kernel
theorem dL_law_517 : decode cL_law 517 = .ok (.iload_n 3, 1) := by decide +kernel
theorem dL_law_518 : decode cL_law 518 = .ok (.iconst 2, 1) := by decide +kernel
theorem dL_law_519 : decode cL_law 519 = .ok (.iadd, 1) := by decide +kernel
theorem dL_law_520 : decode cL_law 520 = .ok (.iaload, 1) := by decide +kernel
theorem dL_law_521 : decode cL_law 521 = .ok (.aload_n 0, 1) := by decide +kernel
theorem dL_law_522 : decode cL_law 522 = .ok (.iload_n 3, 1) := by decide +kernel
theorem dL_law_523 : decode cL_law 523 = .ok (.iconst 3, 1) := by decide +kernel
theorem dL_law_524 : decode cL_law 524 = .ok (.iadd, 1) := by decide +kernel
theorem dL_law_525 : decode cL_law 525 = .ok (.iaload, 1) := by decide +kernel
theorem dL_law_526 : decode cL_law 526 = .ok (.invokevirtual 61, 3) := by decide +kernel
theorem dL_law_529 : decode cL_law 529 = .ok (.aload_n 2, 1) := by decide +kernel
theorem dL_law_530 : decode cL_law 530 = .ok (.aload_n 0, 1) := by decide +kernel
theorem dL_law_531 : decode cL_law 531 = .ok (.iload_n 3, 1) := by decide +kernel
theorem dL_law_532 : decode cL_law 532 = .ok (.iconst 1, 1) := by decide +kernel
theorem dL_law_533 : decode cL_law 533 = .ok (.iadd, 1) := by decide +kernel
theorem dL_law_534 : decode cL_law 534 = .ok (.iaload, 1) := by decide +kernel
theorem dL_law_535 : decode cL_law 535 = .ok (.aload_n 0, 1) := by decide +kernel
theorem dL_law_536 : decode cL_law 536 = .ok (.iload_n 3, 1) := by decide +kernel
theorem dL_law_537 : decode cL_law 537 = .ok (.iconst 2, 1) := by decide +kernel
theorem dL_law_538 : decode cL_law 538 = .ok (.iadd, 1) := by decide +kernel
theorem dL_law_539 : decode cL_law 539 = .ok (.iaload, 1) := by decide +kernel
theorem dL_law_540 : decode cL_law 540 = .ok (.aload_n 0, 1) := by decide +kernel
theorem dL_law_541 : decode cL_law 541 = .ok (.iload_n 3, 1) := by decide +kernel
theorem dL_law_542 : decode cL_law 542 = .ok (.iconst 3, 1) := by decide +kernel
theorem dL_law_543 : decode cL_law 543 = .ok (.iadd, 1) := by decide +kernel
theorem dL_law_544 : decode cL_law 544 = .ok (.iaload, 1) := by decide +kernel
theorem dL_law_545 : decode cL_law 545 = .ok (.invokevirtual 64, 3) := by decide +kernel
theorem dL_law_548 : decode cL_law 548 = .ok (.if_icmp .eq 502, 3) := by decide +kernel
theorem dL_law_551 : decode cL_law 551 = .ok (.iconst 0, 1) := by decide +kernel
theorem dL_law_552 : decode cL_law 552 = .ok (.ireturn, 1) := by decide +kernel
theorem dL_law_553 : decode cL_law 553 = .ok (.aload_n 1, 1) := by decide +kernel
theorem dL_law_554 : decode cL_law 554 = .ok (.aload_n 0, 1) := by decide +kernel
theorem dL_law_555 : decode cL_law 555 = .ok (.iload_n 3, 1) := by decide +kernel
theorem dL_law_556 : decode cL_law 556 = .ok (.iconst 1, 1) := by decide +kernel
theorem dL_law_557 : decode cL_law 557 = .ok (.iadd, 1) := by decide +kernel
theorem dL_law_558 : decode cL_law 558 = .ok (.iaload, 1) := by decide +kernel
theorem dL_law_559 : decode cL_law 559 = .ok (.invokevirtual 65, 3) := by decide +kernel
theorem dL_law_562 : decode cL_law 562 = .ok (.aload_n 2, 1) := by decide +kernel
theorem dL_law_563 : decode cL_law 563 = .ok (.aload_n 0, 1) := by decide +kernel
theorem dL_law_564 : decode cL_law 564 = .ok (.iload_n 3, 1) := by decide +kernel
theorem dL_law_565 : decode cL_law 565 = .ok (.iconst 1, 1) := by decide +kernel
theorem dL_law_566 : decode cL_law 566 = .ok (.iadd, 1) := by decide +kernel
theorem dL_law_567 : decode cL_law 567 = .ok (.iaload, 1) := by decide +kernel
theorem dL_law_568 : decode cL_law 568 = .ok (.invokevirtual 68, 3) := by decide +kernel
theorem dL_law_571 : decode cL_law 571 = .ok (.if_icmp .eq 479, 3) := by decide +kernel
theorem dL_law_574 : decode cL_law 574 = .ok (.iconst 0, 1) := by decide +kernel
theorem dL_law_575 : decode cL_law 575 = .ok (.ireturn, 1) := by decide +kernel
theorem dL_law_576 : decode cL_law 576 = .ok (.aload_n 1, 1) := by decide +kernel
theorem dL_law_577 : decode cL_law 577 = .ok (.aload_n 0, 1) := by decide +kernel
theorem dL_law_578 : decode cL_law 578 = .ok (.iload_n 3, 1) := by decide +kernel
theorem dL_law_579 : decode cL_law 579 = .ok (.iconst 1, 1) := by decide +kernel
theorem dL_law_580 : decode cL_law 580 = .ok (.iadd, 1) := by decide +kernel
theorem dL_law_581 : decode cL_law 581 = .ok (.iaload, 1) := by decide +kernel
theorem dL_law_582 : decode cL_law 582 = .ok (.aload_n 0, 1) := by decide +kernel
theorem dL_law_583 : decode cL_law 583 = .ok (.iload_n 3, 1) := by decide +kernel
theorem dL_law_584 : decode cL_law 584 = .ok (.iconst 2, 1) := by decide +kernel
theorem dL_law_585 : decode cL_law 585 = .ok (.iadd, 1) := by decide +kernel
theorem dL_law_586 : decode cL_law 586 = .ok (.iaload, 1) := by decide +kernel
theorem dL_law_587 : decode cL_law 587 = .ok (.invokevirtual 69, 3) := by decide +kernel
theorem dL_law_590 : decode cL_law 590 = .ok (.aload_n 2, 1) := by decide +kernel
theorem dL_law_591 : decode cL_law 591 = .ok (.aload_n 0, 1) := by decide +kernel
theorem dL_law_592 : decode cL_law 592 = .ok (.iload_n 3, 1) := by decide +kernel
theorem dL_law_593 : decode cL_law 593 = .ok (.iconst 1, 1) := by decide +kernel
theorem dL_law_594 : decode cL_law 594 = .ok (.iadd, 1) := by decide +kernel
theorem dL_law_595 : decode cL_law 595 = .ok (.iaload, 1) := by decide +kernel
theorem dL_law_596 : decode cL_law 596 = .ok (.aload_n 0, 1) := by decide +kernel
theorem dL_law_597 : decode cL_law 597 = .ok (.iload_n 3, 1) := by decide +kernel
theorem dL_law_598 : decode cL_law 598 = .ok (.iconst 2, 1) := by decide +kernel
theorem dL_law_599 : decode cL_law 599 = .ok (.iadd, 1) := by decide +kernel
theorem dL_law_600 : decode cL_law 600 = .ok (.iaload, 1) := by decide +kernel
theorem dL_law_601 : decode cL_law 601 = .ok (.invokevirtual 72, 3) := by decide +kernel
theorem dL_law_604 : decode cL_law 604 = .ok (.if_icmp .eq 446, 3) := by decide +kernel
theorem dL_law_607 : decode cL_law 607 = .ok (.iconst 0, 1) := by decide +kernel
theorem dL_law_608 : decode cL_law 608 = .ok (.ireturn, 1) := by decide +kernel
theorem dL_law_609 : decode cL_law 609 = .ok (.aload_n 1, 1) := by decide +kernel
theorem dL_law_610 : decode cL_law 610 = .ok (.aload_n 0, 1) := by decide +kernel
theorem dL_law_611 : decode cL_law 611 = .ok (.iload_n 3, 1) := by decide +kernel
theorem dL_law_612 : decode cL_law 612 = .ok (.iconst 1, 1) := by decide +kernel
theorem dL_law_613 : decode cL_law 613 = .ok (.iadd, 1) := by decide +kernel
theorem dL_law_614 : decode cL_law 614 = .ok (.iaload, 1) := by decide +kernel
theorem dL_law_615 : decode cL_law 615 = .ok (.aload_n 0, 1) := by decide +kernel
theorem dL_law_616 : decode cL_law 616 = .ok (.iload_n 3, 1) := by decide +kernel
theorem dL_law_617 : decode cL_law 617 = .ok (.iconst 2, 1) := by decide +kernel
theorem dL_law_618 : decode cL_law 618 = .ok (.iadd, 1) := by decide +kernel
theorem dL_law_619 : decode cL_law 619 = .ok (.iaload, 1) := by decide +kernel
theorem dL_law_620 : decode cL_law 620 = .ok (.invokevirtual 73, 3) := by decide +kernel
theorem dL_law_623 : decode cL_law 623 = .ok (.aload_n 2, 1) := by decide +kernel
theorem dL_law_624 : decode cL_law 624 = .ok (.aload_n 0, 1) := by decide +kernel
theorem dL_law_625 : decode cL_law 625 = .ok (.iload_n 3, 1) := by decide +kernel
theorem dL_law_626 : decode cL_law 626 = .ok (.iconst 1, 1) := by decide +kernel
theorem dL_law_627 : decode cL_law 627 = .ok (.iadd, 1) := by decide +kernel
theorem dL_law_628 : decode cL_law 628 = .ok (.iaload, 1) := by decide +kernel
theorem dL_law_629 : decode cL_law 629 = .ok (.aload_n 0, 1) := by decide +kernel
theorem dL_law_630 : decode cL_law 630 = .ok (.iload_n 3, 1) := by decide +kernel
theorem dL_law_631 : decode cL_law 631 = .ok (.iconst 2, 1) := by decide +kernel
theorem dL_law_632 : decode cL_law 632 = .ok (.iadd, 1) := by decide +kernel
theorem dL_law_633 : decode cL_law 633 = .ok (.iaload, 1) := by decide +kernel
theorem dL_law_634 : decode cL_law 634 = .ok (.invokevirtual 76, 3) := by decide +kernel
theorem dL_law_637 : decode cL_law 637 = .ok (.if_icmp .eq 413, 3) := by decide +kernel
theorem dL_law_640 : decode cL_law 640 = .ok (.iconst 0, 1) := by decide +kernel
theorem dL_law_641 : decode cL_law 641 = .ok (.ireturn, 1) := by decide +kernel
theorem dL_law_642 : decode cL_law 642 = .ok (.aload_n 1, 1) := by decide +kernel
theorem dL_law_643 : decode cL_law 643 = .ok (.aload_n 0, 1) := by decide +kernel
theorem dL_law_644 : decode cL_law 644 = .ok (.iload_n 3, 1) := by decide +kernel
theorem dL_law_645 : decode cL_law 645 = .ok (.iconst 1, 1) := by decide +kernel
theorem dL_law_646 : decode cL_law 646 = .ok (.iadd, 1) := by decide +kernel
theorem dL_law_647 : decode cL_law 647 = .ok (.iaload, 1) := by decide +kernel
theorem dL_law_648 : decode cL_law 648 = .ok (.aload_n 0, 1) := by decide +kernel
theorem dL_law_649 : decode cL_law 649 = .ok (.iload_n 3, 1) := by decide +kernel
theorem dL_law_650 : decode cL_law 650 = .ok (.iconst 2, 1) := by decide +kernel
theorem dL_law_651 : decode cL_law 651 = .ok (.iadd, 1) := by decide +kernel
theorem dL_law_652 : decode cL_law 652 = .ok (.iaload, 1) := by decide +kernel
theorem dL_law_653 : decode cL_law 653 = .ok (.aload_n 0, 1) := by decide +kernel
theorem dL_law_654 : decode cL_law 654 = .ok (.iload_n 3, 1) := by decide +kernel
theorem dL_law_655 : decode cL_law 655 = .ok (.iconst 3, 1) := by decide +kernel
theorem dL_law_656 : decode cL_law 656 = .ok (.iadd, 1) := by decide +kernel
theorem dL_law_657 : decode cL_law 657 = .ok (.iaload, 1) := by decide +kernel
theorem dL_law_658 : decode cL_law 658 = .ok (.invokevirtual 77, 3) := by decide +kernel
theorem dL_law_661 : decode cL_law 661 = .ok (.aload_n 2, 1) := by decide +kernel
theorem dL_law_662 : decode cL_law 662 = .ok (.aload_n 0, 1) := by decide +kernel
theorem dL_law_663 : decode cL_law 663 = .ok (.iload_n 3, 1) := by decide +kernel
theorem dL_law_664 : decode cL_law 664 = .ok (.iconst 1, 1) := by decide +kernel
theorem dL_law_665 : decode cL_law 665 = .ok (.iadd, 1) := by decide +kernel
theorem dL_law_666 : decode cL_law 666 = .ok (.iaload, 1) := by decide +kernel
theorem dL_law_667 : decode cL_law 667 = .ok (.aload_n 0, 1) := by decide +kernel
theorem dL_law_668 : decode cL_law 668 = .ok (.iload_n 3, 1) := by decide +kernel
theorem dL_law_669 : decode cL_law 669 = .ok (.iconst 2, 1) := by decide +kernel
theorem dL_law_670 : decode cL_law 670 = .ok (.iadd, 1) := by decide +kernel
theorem dL_law_671 : decode cL_law 671 = .ok (.iaload, 1) := by decide +kernel
theorem dL_law_672 : decode cL_law 672 = .ok (.aload_n 0, 1) := by decide +kernel
theorem dL_law_673 : decode cL_law 673 = .ok (.iload_n 3, 1) := by decide +kernel
theorem dL_law_674 : decode cL_law 674 = .ok (.iconst 3, 1) := by decide +kernel
theorem dL_law_675 : decode cL_law 675 = .ok (.iadd, 1) := by decide +kernel
theorem dL_law_676 : decode cL_law 676 = .ok (.iaload, 1) := by decide +kernel
theorem dL_law_677 : decode cL_law 677 = .ok (.invokevirtual 80, 3) := by decide +kernel
theorem dL_law_680 : decode cL_law 680 = .ok (.if_icmp .eq 370, 3) := by decide +kernel
theorem dL_law_683 : decode cL_law 683 = .ok (.iconst 0, 1) := by decide +kernel
theorem dL_law_684 : decode cL_law 684 = .ok (.ireturn, 1) := by decide +kernel
theorem dL_law_685 : decode cL_law 685 = .ok (.aload_n 1, 1) := by decide +kernel
theorem dL_law_686 : decode cL_law 686 = .ok (.aload_n 0, 1) := by decide +kernel
theorem dL_law_687 : decode cL_law 687 = .ok (.iload_n 3, 1) := by decide +kernel
theorem dL_law_688 : decode cL_law 688 = .ok (.iconst 1, 1) := by decide +kernel
theorem dL_law_689 : decode cL_law 689 = .ok (.iadd, 1) := by decide +kernel
theorem dL_law_690 : decode cL_law 690 = .ok (.iaload, 1) := by decide +kernel
theorem dL_law_691 : decode cL_law 691 = .ok (.aload_n 0, 1) := by decide +kernel
theorem dL_law_692 : decode cL_law 692 = .ok (.iload_n 3, 1) := by decide +kernel
theorem dL_law_693 : decode cL_law 693 = .ok (.iconst 2, 1) := by decide +kernel
theorem dL_law_694 : decode cL_law 694 = .ok (.iadd, 1) := by decide +kernel
theorem dL_law_695 : decode cL_law 695 = .ok (.iaload, 1) := by decide +kernel
theorem dL_law_696 : decode cL_law 696 = .ok (.invokevirtual 81, 3) := by decide +kernel
theorem dL_law_699 : decode cL_law 699 = .ok (.aload_n 2, 1) := by decide +kernel
theorem dL_law_700 : decode cL_law 700 = .ok (.aload_n 0, 1) := by decide +kernel
theorem dL_law_701 : decode cL_law 701 = .ok (.iload_n 3, 1) := by decide +kernel
theorem dL_law_702 : decode cL_law 702 = .ok (.iconst 1, 1) := by decide +kernel
theorem dL_law_703 : decode cL_law 703 = .ok (.iadd, 1) := by decide +kernel
theorem dL_law_704 : decode cL_law 704 = .ok (.iaload, 1) := by decide +kernel
theorem dL_law_705 : decode cL_law 705 = .ok (.aload_n 0, 1) := by decide +kernel
theorem dL_law_706 : decode cL_law 706 = .ok (.iload_n 3, 1) := by decide +kernel
theorem dL_law_707 : decode cL_law 707 = .ok (.iconst 2, 1) := by decide +kernel
theorem dL_law_708 : decode cL_law 708 = .ok (.iadd, 1) := by decide +kernel
theorem dL_law_709 : decode cL_law 709 = .ok (.iaload, 1) := by decide +kernel
theorem dL_law_710 : decode cL_law 710 = .ok (.invokevirtual 84, 3) := by decide +kernel
theorem dL_law_713 : decode cL_law 713 = .ok (.if_icmp .eq 337, 3) := by decide +kernel
theorem dL_law_716 : decode cL_law 716 = .ok (.iconst 0, 1) := by decide +kernel
theorem dL_law_717 : decode cL_law 717 = .ok (.ireturn, 1) := by decide +kernel
theorem dL_law_718 : decode cL_law 718 = .ok (.aload_n 1, 1) := by decide +kernel
theorem dL_law_719 : decode cL_law 719 = .ok (.aload_n 0, 1) := by decide +kernel
theorem dL_law_720 : decode cL_law 720 = .ok (.iload_n 3, 1) := by decide +kernel
theorem dL_law_721 : decode cL_law 721 = .ok (.iconst 1, 1) := by decide +kernel
theorem dL_law_722 : decode cL_law 722 = .ok (.iadd, 1) := by decide +kernel
theorem dL_law_723 : decode cL_law 723 = .ok (.iaload, 1) := by decide +kernel
theorem dL_law_724 : decode cL_law 724 = .ok (.aload_n 0, 1) := by decide +kernel
theorem dL_law_725 : decode cL_law 725 = .ok (.iload_n 3, 1) := by decide +kernel
theorem dL_law_726 : decode cL_law 726 = .ok (.iconst 2, 1) := by decide +kernel
theorem dL_law_727 : decode cL_law 727 = .ok (.iadd, 1) := by decide +kernel
theorem dL_law_728 : decode cL_law 728 = .ok (.iaload, 1) := by decide +kernel
theorem dL_law_729 : decode cL_law 729 = .ok (.aload_n 0, 1) := by decide +kernel
theorem dL_law_730 : decode cL_law 730 = .ok (.iload_n 3, 1) := by decide +kernel
theorem dL_law_731 : decode cL_law 731 = .ok (.iconst 3, 1) := by decide +kernel
theorem dL_law_732 : decode cL_law 732 = .ok (.iadd, 1) := by decide +kernel
theorem dL_law_733 : decode cL_law 733 = .ok (.iaload, 1) := by decide +kernel
theorem dL_law_734 : decode cL_law 734 = .ok (.invokevirtual 85, 3) := by decide +kernel
theorem dL_law_737 : decode cL_law 737 = .ok (.aload_n 2, 1) := by decide +kernel
theorem dL_law_738 : decode cL_law 738 = .ok (.aload_n 0, 1) := by decide +kernel
theorem dL_law_739 : decode cL_law 739 = .ok (.iload_n 3, 1) := by decide +kernel
theorem dL_law_740 : decode cL_law 740 = .ok (.iconst 1, 1) := by decide +kernel
theorem dL_law_741 : decode cL_law 741 = .ok (.iadd, 1) := by decide +kernel
theorem dL_law_742 : decode cL_law 742 = .ok (.iaload, 1) := by decide +kernel
theorem dL_law_743 : decode cL_law 743 = .ok (.aload_n 0, 1) := by decide +kernel
theorem dL_law_744 : decode cL_law 744 = .ok (.iload_n 3, 1) := by decide +kernel
theorem dL_law_745 : decode cL_law 745 = .ok (.iconst 2, 1) := by decide +kernel
theorem dL_law_746 : decode cL_law 746 = .ok (.iadd, 1) := by decide +kernel
theorem dL_law_747 : decode cL_law 747 = .ok (.iaload, 1) := by decide +kernel
theorem dL_law_748 : decode cL_law 748 = .ok (.aload_n 0, 1) := by decide +kernel
theorem dL_law_749 : decode cL_law 749 = .ok (.iload_n 3, 1) := by decide +kernel
theorem dL_law_750 : decode cL_law 750 = .ok (.iconst 3, 1) := by decide +kernel
theorem dL_law_751 : decode cL_law 751 = .ok (.iadd, 1) := by decide +kernel
theorem dL_law_752 : decode cL_law 752 = .ok (.iaload, 1) := by decide +kernel
theorem dL_law_753 : decode cL_law 753 = .ok (.invokevirtual 88, 3) := by decide +kernel
theorem dL_law_756 : decode cL_law 756 = .ok (.if_icmp .eq 294, 3) := by decide +kernel
theorem dL_law_759 : decode cL_law 759 = .ok (.iconst 0, 1) := by decide +kernel
theorem dL_law_760 : decode cL_law 760 = .ok (.ireturn, 1) := by decide +kernel
theorem dL_law_761 : decode cL_law 761 = .ok (.aload_n 1, 1) := by decide +kernel
theorem dL_law_762 : decode cL_law 762 = .ok (.aload_n 0, 1) := by decide +kernel
theorem dL_law_763 : decode cL_law 763 = .ok (.iload_n 3, 1) := by decide +kernel
theorem dL_law_764 : decode cL_law 764 = .ok (.iconst 1, 1) := by decide +kernel
theorem dL_law_765 : decode cL_law 765 = .ok (.iadd, 1) := by decide +kernel
theorem dL_law_766 : decode cL_law 766 = .ok (.iaload, 1) := by decide +kernel
theorem dL_law_767 : decode cL_law 767 = .ok (.aload_n 0, 1) := by decide +kernel
theorem dL_law_768 : decode cL_law 768 = .ok (.iload_n 3, 1) := by decide +kernel
theorem dL_law_769 : decode cL_law 769 = .ok (.iconst 2, 1) := by decide +kernel
theorem dL_law_770 : decode cL_law 770 = .ok (.iadd, 1) := by decide +kernel
theorem dL_law_771 : decode cL_law 771 = .ok (.iaload, 1) := by decide +kernel
theorem dL_law_772 : decode cL_law 772 = .ok (.invokevirtual 89, 3) := by decide +kernel
theorem dL_law_775 : decode cL_law 775 = .ok (.aload_n 2, 1) := by decide +kernel
theorem dL_law_776 : decode cL_law 776 = .ok (.aload_n 0, 1) := by decide +kernel
theorem dL_law_777 : decode cL_law 777 = .ok (.iload_n 3, 1) := by decide +kernel
theorem dL_law_778 : decode cL_law 778 = .ok (.iconst 1, 1) := by decide +kernel
theorem dL_law_779 : decode cL_law 779 = .ok (.iadd, 1) := by decide +kernel
theorem dL_law_780 : decode cL_law 780 = .ok (.iaload, 1) := by decide +kernel
theorem dL_law_781 : decode cL_law 781 = .ok (.aload_n 0, 1) := by decide +kernel
theorem dL_law_782 : decode cL_law 782 = .ok (.iload_n 3, 1) := by decide +kernel
theorem dL_law_783 : decode cL_law 783 = .ok (.iconst 2, 1) := by decide +kernel
theorem dL_law_784 : decode cL_law 784 = .ok (.iadd, 1) := by decide +kernel
theorem dL_law_785 : decode cL_law 785 = .ok (.iaload, 1) := by decide +kernel
theorem dL_law_786 : decode cL_law 786 = .ok (.invokevirtual 92, 3) := by decide +kernel
theorem dL_law_789 : decode cL_law 789 = .ok (.if_icmp .eq 261, 3) := by decide +kernel
theorem dL_law_792 : decode cL_law 792 = .ok (.iconst 0, 1) := by decide +kernel
theorem dL_law_793 : decode cL_law 793 = .ok (.ireturn, 1) := by decide +kernel
theorem dL_law_794 : decode cL_law 794 = .ok (.aload_n 1, 1) := by decide +kernel
theorem dL_law_795 : decode cL_law 795 = .ok (.aload_n 0, 1) := by decide +kernel
theorem dL_law_796 : decode cL_law 796 = .ok (.iload_n 3, 1) := by decide +kernel
theorem dL_law_797 : decode cL_law 797 = .ok (.iconst 1, 1) := by decide +kernel
theorem dL_law_798 : decode cL_law 798 = .ok (.iadd, 1) := by decide +kernel
theorem dL_law_799 : decode cL_law 799 = .ok (.iaload, 1) := by decide +kernel
theorem dL_law_800 : decode cL_law 800 = .ok (.invokevirtual 93, 3) := by decide +kernel
theorem dL_law_803 : decode cL_law 803 = .ok (.aload_n 2, 1) := by decide +kernel
theorem dL_law_804 : decode cL_law 804 = .ok (.aload_n 0, 1) := by decide +kernel
theorem dL_law_805 : decode cL_law 805 = .ok (.iload_n 3, 1) := by decide +kernel
theorem dL_law_806 : decode cL_law 806 = .ok (.iconst 1, 1) := by decide +kernel
theorem dL_law_807 : decode cL_law 807 = .ok (.iadd, 1) := by decide +kernel
theorem dL_law_808 : decode cL_law 808 = .ok (.iaload, 1) := by decide +kernel
theorem dL_law_809 : decode cL_law 809 = .ok (.invokevirtual 96, 3) := by decide +kernel
theorem dL_law_812 : decode cL_law 812 = .ok (.if_icmp .eq 238, 3) := by decide +kernel
theorem dL_law_815 : decode cL_law 815 = .ok (.iconst 0, 1) := by decide +kernel
theorem dL_law_816 : decode cL_law 816 = .ok (.ireturn, 1) := by decide +kernel
theorem dL_law_817 : decode cL_law 817 = .ok (.aload_n 1, 1) := by decide +kernel
theorem dL_law_818 : decode cL_law 818 = .ok (.aload_n 0, 1) := by decide +kernel
theorem dL_law_819 : decode cL_law 819 = .ok (.iload_n 3, 1) := by decide +kernel
theorem dL_law_820 : decode cL_law 820 = .ok (.iconst 1, 1) := by decide +kernel
theorem dL_law_821 : decode cL_law 821 = .ok (.iadd, 1) := by decide +kernel
theorem dL_law_822 : decode cL_law 822 = .ok (.iaload, 1) := by decide +kernel
theorem dL_law_823 : decode cL_law 823 = .ok (.invokevirtual 97, 3) := by decide +kernel
theorem dL_law_826 : decode cL_law 826 = .ok (.aload_n 2, 1) := by decide +kernel
theorem dL_law_827 : decode cL_law 827 = .ok (.aload_n 0, 1) := by decide +kernel
theorem dL_law_828 : decode cL_law 828 = .ok (.iload_n 3, 1) := by decide +kernel
theorem dL_law_829 : decode cL_law 829 = .ok (.iconst 1, 1) := by decide +kernel
theorem dL_law_830 : decode cL_law 830 = .ok (.iadd, 1) := by decide +kernel
theorem dL_law_831 : decode cL_law 831 = .ok (.iaload, 1) := by decide +kernel
theorem dL_law_832 : decode cL_law 832 = .ok (.invokevirtual 100, 3) := by decide +kernel
theorem dL_law_835 : decode cL_law 835 = .ok (.if_icmp .eq 215, 3) := by decide +kernel
theorem dL_law_838 : decode cL_law 838 = .ok (.iconst 0, 1) := by decide +kernel
theorem dL_law_839 : decode cL_law 839 = .ok (.ireturn, 1) := by decide +kernel
theorem dL_law_840 : decode cL_law 840 = .ok (.aload_n 1, 1) := by decide +kernel
theorem dL_law_841 : decode cL_law 841 = .ok (.aload_n 0, 1) := by decide +kernel
theorem dL_law_842 : decode cL_law 842 = .ok (.iload_n 3, 1) := by decide +kernel
theorem dL_law_843 : decode cL_law 843 = .ok (.iconst 1, 1) := by decide +kernel
theorem dL_law_844 : decode cL_law 844 = .ok (.iadd, 1) := by decide +kernel
theorem dL_law_845 : decode cL_law 845 = .ok (.iaload, 1) := by decide +kernel
theorem dL_law_846 : decode cL_law 846 = .ok (.aload_n 0, 1) := by decide +kernel
theorem dL_law_847 : decode cL_law 847 = .ok (.iload_n 3, 1) := by decide +kernel
theorem dL_law_848 : decode cL_law 848 = .ok (.iconst 2, 1) := by decide +kernel
theorem dL_law_849 : decode cL_law 849 = .ok (.iadd, 1) := by decide +kernel
theorem dL_law_850 : decode cL_law 850 = .ok (.iaload, 1) := by decide +kernel
theorem dL_law_851 : decode cL_law 851 = .ok (.aload_n 0, 1) := by decide +kernel
theorem dL_law_852 : decode cL_law 852 = .ok (.iload_n 3, 1) := by decide +kernel
theorem dL_law_853 : decode cL_law 853 = .ok (.iconst 3, 1) := by decide +kernel
theorem dL_law_854 : decode cL_law 854 = .ok (.iadd, 1) := by decide +kernel
theorem dL_law_855 : decode cL_law 855 = .ok (.iaload, 1) := by decide +kernel
theorem dL_law_856 : decode cL_law 856 = .ok (.ifCond .eq 7, 3) := by decide +kernel
theorem dL_law_859 : decode cL_law 859 = .ok (.iconst 1, 1) := by decide +kernel
theorem dL_law_860 : decode cL_law 860 = .ok (.goto 4, 3) := by decide +kernel
theorem dL_law_863 : decode cL_law 863 = .ok (.iconst 0, 1) := by decide +kernel
theorem dL_law_864 : decode cL_law 864 = .ok (.invokevirtual 101, 3) := by decide +kernel
theorem dL_law_867 : decode cL_law 867 = .ok (.aload_n 2, 1) := by decide +kernel
theorem dL_law_868 : decode cL_law 868 = .ok (.aload_n 0, 1) := by decide +kernel
theorem dL_law_869 : decode cL_law 869 = .ok (.iload_n 3, 1) := by decide +kernel
theorem dL_law_870 : decode cL_law 870 = .ok (.iconst 1, 1) := by decide +kernel
theorem dL_law_871 : decode cL_law 871 = .ok (.iadd, 1) := by decide +kernel
theorem dL_law_872 : decode cL_law 872 = .ok (.iaload, 1) := by decide +kernel
theorem dL_law_873 : decode cL_law 873 = .ok (.aload_n 0, 1) := by decide +kernel
theorem dL_law_874 : decode cL_law 874 = .ok (.iload_n 3, 1) := by decide +kernel
theorem dL_law_875 : decode cL_law 875 = .ok (.iconst 2, 1) := by decide +kernel
theorem dL_law_876 : decode cL_law 876 = .ok (.iadd, 1) := by decide +kernel
theorem dL_law_877 : decode cL_law 877 = .ok (.iaload, 1) := by decide +kernel
theorem dL_law_878 : decode cL_law 878 = .ok (.aload_n 0, 1) := by decide +kernel
theorem dL_law_879 : decode cL_law 879 = .ok (.iload_n 3, 1) := by decide +kernel
theorem dL_law_880 : decode cL_law 880 = .ok (.iconst 3, 1) := by decide +kernel
theorem dL_law_881 : decode cL_law 881 = .ok (.iadd, 1) := by decide +kernel
theorem dL_law_882 : decode cL_law 882 = .ok (.iaload, 1) := by decide +kernel
theorem dL_law_883 : decode cL_law 883 = .ok (.ifCond .eq 7, 3) := by decide +kernel
theorem dL_law_886 : decode cL_law 886 = .ok (.iconst 1, 1) := by decide +kernel
theorem dL_law_887 : decode cL_law 887 = .ok (.goto 4, 3) := by decide +kernel
theorem dL_law_890 : decode cL_law 890 = .ok (.iconst 0, 1) := by decide +kernel
theorem dL_law_891 : decode cL_law 891 = .ok (.invokevirtual 105, 3) := by decide +kernel
theorem dL_law_894 : decode cL_law 894 = .ok (.if_icmp .eq 156, 3) := by decide +kernel
theorem dL_law_897 : decode cL_law 897 = .ok (.iconst 0, 1) := by decide +kernel
theorem dL_law_898 : decode cL_law 898 = .ok (.ireturn, 1) := by decide +kernel
theorem dL_law_899 : decode cL_law 899 = .ok (.aload_n 1, 1) := by decide +kernel
theorem dL_law_900 : decode cL_law 900 = .ok (.invokevirtual 106, 3) := by decide +kernel
theorem dL_law_903 : decode cL_law 903 = .ok (.aload_n 2, 1) := by decide +kernel
theorem dL_law_904 : decode cL_law 904 = .ok (.invokevirtual 109, 3) := by decide +kernel
theorem dL_law_907 : decode cL_law 907 = .ok (.if_icmp .eq 143, 3) := by decide +kernel
theorem dL_law_910 : decode cL_law 910 = .ok (.iconst 0, 1) := by decide +kernel
theorem dL_law_911 : decode cL_law 911 = .ok (.ireturn, 1) := by decide +kernel
theorem dL_law_912 : decode cL_law 912 = .ok (.aload_n 1, 1) := by decide +kernel
theorem dL_law_913 : decode cL_law 913 = .ok (.aload_n 0, 1) := by decide +kernel
theorem dL_law_914 : decode cL_law 914 = .ok (.iload_n 3, 1) := by decide +kernel
theorem dL_law_915 : decode cL_law 915 = .ok (.iconst 1, 1) := by decide +kernel
theorem dL_law_916 : decode cL_law 916 = .ok (.iadd, 1) := by decide +kernel
theorem dL_law_917 : decode cL_law 917 = .ok (.iaload, 1) := by decide +kernel
theorem dL_law_918 : decode cL_law 918 = .ok (.aload_n 0, 1) := by decide +kernel
theorem dL_law_919 : decode cL_law 919 = .ok (.iload_n 3, 1) := by decide +kernel
theorem dL_law_920 : decode cL_law 920 = .ok (.iconst 2, 1) := by decide +kernel
theorem dL_law_921 : decode cL_law 921 = .ok (.iadd, 1) := by decide +kernel
theorem dL_law_922 : decode cL_law 922 = .ok (.iaload, 1) := by decide +kernel
theorem dL_law_923 : decode cL_law 923 = .ok (.invokevirtual 110, 3) := by decide +kernel
theorem dL_law_926 : decode cL_law 926 = .ok (.aload_n 2, 1) := by decide +kernel
theorem dL_law_927 : decode cL_law 927 = .ok (.aload_n 0, 1) := by decide +kernel
theorem dL_law_928 : decode cL_law 928 = .ok (.iload_n 3, 1) := by decide +kernel
theorem dL_law_929 : decode cL_law 929 = .ok (.iconst 1, 1) := by decide +kernel
theorem dL_law_930 : decode cL_law 930 = .ok (.iadd, 1) := by decide +kernel
theorem dL_law_931 : decode cL_law 931 = .ok (.iaload, 1) := by decide +kernel
theorem dL_law_932 : decode cL_law 932 = .ok (.aload_n 0, 1) := by decide +kernel
theorem dL_law_933 : decode cL_law 933 = .ok (.iload_n 3, 1) := by decide +kernel
theorem dL_law_934 : decode cL_law 934 = .ok (.iconst 2, 1) := by decide +kernel
theorem dL_law_935 : decode cL_law 935 = .ok (.iadd, 1) := by decide +kernel
theorem dL_law_936 : decode cL_law 936 = .ok (.iaload, 1) := by decide +kernel
theorem dL_law_937 : decode cL_law 937 = .ok (.invokevirtual 113, 3) := by decide +kernel
theorem dL_law_940 : decode cL_law 940 = .ok (.if_icmp .eq 110, 3) := by decide +kernel
theorem dL_law_943 : decode cL_law 943 = .ok (.iconst 0, 1) := by decide +kernel
theorem dL_law_944 : decode cL_law 944 = .ok (.ireturn, 1) := by decide +kernel
theorem dL_law_945 : decode cL_law 945 = .ok (.aload_n 1, 1) := by decide +kernel
theorem dL_law_946 : decode cL_law 946 = .ok (.invokevirtual 114, 3) := by decide +kernel
theorem dL_law_949 : decode cL_law 949 = .ok (.aload_n 2, 1) := by decide +kernel
theorem dL_law_950 : decode cL_law 950 = .ok (.invokevirtual 117, 3) := by decide +kernel
theorem dL_law_953 : decode cL_law 953 = .ok (.if_icmp .eq 97, 3) := by decide +kernel
theorem dL_law_956 : decode cL_law 956 = .ok (.iconst 0, 1) := by decide +kernel
theorem dL_law_957 : decode cL_law 957 = .ok (.ireturn, 1) := by decide +kernel
theorem dL_law_958 : decode cL_law 958 = .ok (.aload_n 1, 1) := by decide +kernel
theorem dL_law_959 : decode cL_law 959 = .ok (.aload_n 0, 1) := by decide +kernel
theorem dL_law_960 : decode cL_law 960 = .ok (.iload_n 3, 1) := by decide +kernel
theorem dL_law_961 : decode cL_law 961 = .ok (.iconst 1, 1) := by decide +kernel
theorem dL_law_962 : decode cL_law 962 = .ok (.iadd, 1) := by decide +kernel
theorem dL_law_963 : decode cL_law 963 = .ok (.iaload, 1) := by decide +kernel
theorem dL_law_964 : decode cL_law 964 = .ok (.invokevirtual 118, 3) := by decide +kernel
theorem dL_law_967 : decode cL_law 967 = .ok (.aload_n 2, 1) := by decide +kernel
theorem dL_law_968 : decode cL_law 968 = .ok (.aload_n 0, 1) := by decide +kernel
theorem dL_law_969 : decode cL_law 969 = .ok (.iload_n 3, 1) := by decide +kernel
theorem dL_law_970 : decode cL_law 970 = .ok (.iconst 1, 1) := by decide +kernel
theorem dL_law_971 : decode cL_law 971 = .ok (.iadd, 1) := by decide +kernel
theorem dL_law_972 : decode cL_law 972 = .ok (.iaload, 1) := by decide +kernel
theorem dL_law_973 : decode cL_law 973 = .ok (.invokevirtual 121, 3) := by decide +kernel
theorem dL_law_976 : decode cL_law 976 = .ok (.if_icmp .eq 74, 3) := by decide +kernel
theorem dL_law_979 : decode cL_law 979 = .ok (.iconst 0, 1) := by decide +kernel
theorem dL_law_980 : decode cL_law 980 = .ok (.ireturn, 1) := by decide +kernel
theorem dL_law_981 : decode cL_law 981 = .ok (.aload_n 1, 1) := by decide +kernel
theorem dL_law_982 : decode cL_law 982 = .ok (.aload_n 0, 1) := by decide +kernel
theorem dL_law_983 : decode cL_law 983 = .ok (.iload_n 3, 1) := by decide +kernel
theorem dL_law_984 : decode cL_law 984 = .ok (.iconst 1, 1) := by decide +kernel
theorem dL_law_985 : decode cL_law 985 = .ok (.iadd, 1) := by decide +kernel
theorem dL_law_986 : decode cL_law 986 = .ok (.iaload, 1) := by decide +kernel
theorem dL_law_987 : decode cL_law 987 = .ok (.invokevirtual 122, 3) := by decide +kernel
theorem dL_law_990 : decode cL_law 990 = .ok (.aload_n 2, 1) := by decide +kernel
theorem dL_law_991 : decode cL_law 991 = .ok (.aload_n 0, 1) := by decide +kernel
theorem dL_law_992 : decode cL_law 992 = .ok (.iload_n 3, 1) := by decide +kernel
theorem dL_law_993 : decode cL_law 993 = .ok (.iconst 1, 1) := by decide +kernel
theorem dL_law_994 : decode cL_law 994 = .ok (.iadd, 1) := by decide +kernel
theorem dL_law_995 : decode cL_law 995 = .ok (.iaload, 1) := by decide +kernel
theorem dL_law_996 : decode cL_law 996 = .ok (.invokevirtual 125, 3) := by decide +kernel
theorem dL_law_999 : decode cL_law 999 = .ok (.if_icmp .eq 51, 3) := by decide +kernel
theorem dL_law_1002 : decode cL_law 1002 = .ok (.iconst 0, 1) := by decide +kernel
theorem dL_law_1003 : decode cL_law 1003 = .ok (.ireturn, 1) := by decide +kernel
theorem dL_law_1004 : decode cL_law 1004 = .ok (.aload_n 1, 1) := by decide +kernel
theorem dL_law_1005 : decode cL_law 1005 = .ok (.aload_n 0, 1) := by decide +kernel
theorem dL_law_1006 : decode cL_law 1006 = .ok (.iload_n 3, 1) := by decide +kernel
theorem dL_law_1007 : decode cL_law 1007 = .ok (.iconst 1, 1) := by decide +kernel
theorem dL_law_1008 : decode cL_law 1008 = .ok (.iadd, 1) := by decide +kernel
theorem dL_law_1009 : decode cL_law 1009 = .ok (.iaload, 1) := by decide +kernel
theorem dL_law_1010 : decode cL_law 1010 = .ok (.invokevirtual 126, 3) := by decide +kernel
theorem dL_law_1013 : decode cL_law 1013 = .ok (.aload_n 2, 1) := by decide +kernel
theorem dL_law_1014 : decode cL_law 1014 = .ok (.aload_n 0, 1) := by decide +kernel
theorem dL_law_1015 : decode cL_law 1015 = .ok (.iload_n 3, 1) := by decide +kernel
theorem dL_law_1016 : decode cL_law 1016 = .ok (.iconst 1, 1) := by decide +kernel
theorem dL_law_1017 : decode cL_law 1017 = .ok (.iadd, 1) := by decide +kernel
theorem dL_law_1018 : decode cL_law 1018 = .ok (.iaload, 1) := by decide +kernel
theorem dL_law_1019 : decode cL_law 1019 = .ok (.invokevirtual 129, 3) := by decide +kernel
theorem dL_law_1022 : decode cL_law 1022 = .ok (.if_icmp .eq 28, 3) := by decide +kernel
theorem dL_law_1025 : decode cL_law 1025 = .ok (.iconst 0, 1) := by decide +kernel
theorem dL_law_1026 : decode cL_law 1026 = .ok (.ireturn, 1) := by decide +kernel
theorem dL_law_1027 : decode cL_law 1027 = .ok (.aload_n 1, 1) := by decide +kernel
theorem dL_law_1028 : decode cL_law 1028 = .ok (.aload_n 0, 1) := by decide +kernel
theorem dL_law_1029 : decode cL_law 1029 = .ok (.iload_n 3, 1) := by decide +kernel
theorem dL_law_1030 : decode cL_law 1030 = .ok (.iconst 1, 1) := by decide +kernel
theorem dL_law_1031 : decode cL_law 1031 = .ok (.iadd, 1) := by decide +kernel
theorem dL_law_1032 : decode cL_law 1032 = .ok (.iaload, 1) := by decide +kernel
theorem dL_law_1033 : decode cL_law 1033 = .ok (.invokevirtual 130, 3) := by decide +kernel
theorem dL_law_1036 : decode cL_law 1036 = .ok (.aload_n 2, 1) := by decide +kernel
theorem dL_law_1037 : decode cL_law 1037 = .ok (.aload_n 0, 1) := by decide +kernel
theorem dL_law_1038 : decode cL_law 1038 = .ok (.iload_n 3, 1) := by decide +kernel
theorem dL_law_1039 : decode cL_law 1039 = .ok (.iconst 1, 1) := by decide +kernel
theorem dL_law_1040 : decode cL_law 1040 = .ok (.iadd, 1) := by decide +kernel
theorem dL_law_1041 : decode cL_law 1041 = .ok (.iaload, 1) := by decide +kernel
theorem dL_law_1042 : decode cL_law 1042 = .ok (.invokevirtual 133, 3) := by decide +kernel
theorem dL_law_1045 : decode cL_law 1045 = .ok (.if_icmp .eq 5, 3) := by decide +kernel
theorem dL_law_1048 : decode cL_law 1048 = .ok (.iconst 0, 1) := by decide +kernel
theorem dL_law_1049 : decode cL_law 1049 = .ok (.ireturn, 1) := by decide +kernel
theorem dL_law_1050 : decode cL_law 1050 = .ok (.iinc 3 5, 3) := by decide +kernel
theorem dL_law_1053 : decode cL_law 1053 = .ok (.goto (-1035), 3) := by decide +kernel
theorem dL_law_1056 : decode cL_law 1056 = .ok (.iconst 1, 1) := by decide +kernel
theorem dL_law_1057 : decode cL_law 1057 = .ok (.ireturn, 1) := by decide +kernel
