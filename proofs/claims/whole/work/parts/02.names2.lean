theorem dX4_draw_10 : decode cX4_draw 10 = .ok (.ldc2_w 52, 3) := by decide +kernel
theorem dX4_draw_13 : decode cX4_draw 13 = .ok (.ladd, 1) := by decide +kernel
theorem dX4_draw_14 : decode cX4_draw 14 = .ok (.ldc2_w 54, 3) := by decide +kernel
theorem dX4_draw_17 : decode cX4_draw 17 = .ok (.land, 1) := by decide +kernel
theorem dX4_draw_18 : decode cX4_draw 18 = .ok (.l2i, 1) := by decide +kernel
theorem dX4_draw_19 : decode cX4_draw 19 = .ok (.putfield 31, 3) := by decide +kernel
theorem dX4_draw_22 : decode cX4_draw 22 = .ok (.iload_n 1, 1) := by decide +kernel
theorem dX4_draw_23 : decode cX4_draw 23 = .ok (.iconst 1, 1) := by decide +kernel
theorem dX4_draw_24 : decode cX4_draw 24 = .ok (.if_icmp .ge 7, 3) := by decide +kernel
theorem dX4_draw_27 : decode cX4_draw 27 = .ok (.iconst 0, 1) := by decide +kernel
theorem dX4_draw_28 : decode cX4_draw 28 = .ok (.goto 12, 3) := by decide +kernel
theorem dX4_draw_31 : decode cX4_draw 31 = .ok (.aload_n 0, 1) := by decide +kernel
theorem dX4_draw_32 : decode cX4_draw 32 = .ok (.getfield 31, 3) := by decide +kernel
theorem dX4_draw_35 : decode cX4_draw 35 = .ok (.ldc 56, 2) := by decide +kernel
theorem dX4_draw_37 : decode cX4_draw 37 = .ok (.idiv, 1) := by decide +kernel
theorem dX4_draw_38 : decode cX4_draw 38 = .ok (.iload_n 1, 1) := by decide +kernel
theorem dX4_draw_39 : decode cX4_draw 39 = .ok (.irem, 1) := by decide +kernel
theorem dX4_draw_40 : decode cX4_draw 40 = .ok (.ireturn, 1) := by decide +kernel
theorem dX5_init_0 : decode cX5_init 0 = .ok (.aload_n 0, 1) := by decide +kernel
theorem dX5_init_1 : decode cX5_init 1 = .ok (.invokespecial 1, 3) := by decide +kernel
theorem dX5_init_4 : decode cX5_init 4 = .ok (.aload_n 0, 1) := by decide +kernel
theorem dX5_init_5 : decode cX5_init 5 = .ok (.sipush 400, 3) := by decide +kernel
theorem dX5_init_8 : decode cX5_init 8 = .ok (.newarray .byte, 2) := by decide +kernel
theorem dX5_init_10 : decode cX5_init 10 = .ok (.putfield 9, 3) := by decide +kernel
theorem dX5_init_13 : decode cX5_init 13 = .ok (.aload_n 0, 1) := by decide +kernel
theorem dX5_init_14 : decode cX5_init 14 = .ok (.iconst 0, 1) := by decide +kernel
theorem dX5_init_15 : decode cX5_init 15 = .ok (.putfield 13, 3) := by decide +kernel
theorem dX5_init_18 : decode cX5_init 18 = .ok (.aload_n 0, 1) := by decide +kernel
theorem dX5_init_19 : decode cX5_init 19 = .ok (.iconst (-1), 1) := by decide +kernel
theorem dX5_init_20 : decode cX5_init 20 = .ok (.putfield 17, 3) := by decide +kernel
theorem dX5_init_23 : decode cX5_init 23 = .ok (.aload_n 0, 1) := by decide +kernel
theorem dX5_init_24 : decode cX5_init 24 = .ok (.new 20, 3) := by decide +kernel
theorem dX5_init_27 : decode cX5_init 27 = .ok (.dup, 1) := by decide +kernel
theorem dX5_init_28 : decode cX5_init 28 = .ok (.invokespecial 22, 3) := by decide +kernel
theorem dX5_init_31 : decode cX5_init 31 = .ok (.putfield 23, 3) := by decide +kernel
theorem dX5_init_34 : decode cX5_init 34 = .ok (.aload_n 0, 1) := by decide +kernel
theorem dX5_init_35 : decode cX5_init 35 = .ok (.new 20, 3) := by decide +kernel
theorem dX5_init_38 : decode cX5_init 38 = .ok (.dup, 1) := by decide +kernel
theorem dX5_init_39 : decode cX5_init 39 = .ok (.invokespecial 22, 3) := by decide +kernel
theorem dX5_init_42 : decode cX5_init 42 = .ok (.putfield 27, 3) := by decide +kernel
theorem dX5_init_45 : decode cX5_init 45 = .ok (.aload_n 0, 1) := by decide +kernel
theorem dX5_init_46 : decode cX5_init 46 = .ok (.new 30, 3) := by decide +kernel
theorem dX5_init_49 : decode cX5_init 49 = .ok (.dup, 1) := by decide +kernel
theorem dX5_init_50 : decode cX5_init 50 = .ok (.invokespecial 32, 3) := by decide +kernel
theorem dX5_init_53 : decode cX5_init 53 = .ok (.putfield 33, 3) := by decide +kernel
theorem dX5_init_56 : decode cX5_init 56 = .ok (.aload_n 0, 1) := by decide +kernel
theorem dX5_init_57 : decode cX5_init 57 = .ok (.new 37, 3) := by decide +kernel
theorem dX5_init_60 : decode cX5_init 60 = .ok (.dup, 1) := by decide +kernel
theorem dX5_init_61 : decode cX5_init 61 = .ok (.invokespecial 39, 3) := by decide +kernel
theorem dX5_init_64 : decode cX5_init 64 = .ok (.putfield 40, 3) := by decide +kernel
theorem dX5_init_67 : decode cX5_init 67 = .ok (.aload_n 0, 1) := by decide +kernel
theorem dX5_init_68 : decode cX5_init 68 = .ok (.iconst 2, 1) := by decide +kernel
theorem dX5_init_69 : decode cX5_init 69 = .ok (.anewarray 37, 3) := by decide +kernel
theorem dX5_init_72 : decode cX5_init 72 = .ok (.dup, 1) := by decide +kernel
theorem dX5_init_73 : decode cX5_init 73 = .ok (.iconst 0, 1) := by decide +kernel
theorem dX5_init_74 : decode cX5_init 74 = .ok (.new 37, 3) := by decide +kernel
theorem dX5_init_77 : decode cX5_init 77 = .ok (.dup, 1) := by decide +kernel
theorem dX5_init_78 : decode cX5_init 78 = .ok (.invokespecial 39, 3) := by decide +kernel
theorem dX5_init_81 : decode cX5_init 81 = .ok (.aastore, 1) := by decide +kernel
theorem dX5_init_82 : decode cX5_init 82 = .ok (.dup, 1) := by decide +kernel
theorem dX5_init_83 : decode cX5_init 83 = .ok (.iconst 1, 1) := by decide +kernel
theorem dX5_init_84 : decode cX5_init 84 = .ok (.new 37, 3) := by decide +kernel
theorem dX5_init_87 : decode cX5_init 87 = .ok (.dup, 1) := by decide +kernel
theorem dX5_init_88 : decode cX5_init 88 = .ok (.invokespecial 39, 3) := by decide +kernel
theorem dX5_init_91 : decode cX5_init 91 = .ok (.aastore, 1) := by decide +kernel
theorem dX5_init_92 : decode cX5_init 92 = .ok (.putfield 44, 3) := by decide +kernel
theorem dX5_init_95 : decode cX5_init 95 = .ok (.aload_n 0, 1) := by decide +kernel
theorem dX5_init_96 : decode cX5_init 96 = .ok (.iconst 2, 1) := by decide +kernel
theorem dX5_init_97 : decode cX5_init 97 = .ok (.newarray .boolean, 2) := by decide +kernel
theorem dX5_init_99 : decode cX5_init 99 = .ok (.putfield 48, 3) := by decide +kernel
theorem dX5_init_102 : decode cX5_init 102 = .ok (.aload_n 0, 1) := by decide +kernel
theorem dX5_init_103 : decode cX5_init 103 = .ok (.new 52, 3) := by decide +kernel
theorem dX5_init_106 : decode cX5_init 106 = .ok (.dup, 1) := by decide +kernel
theorem dX5_init_107 : decode cX5_init 107 = .ok (.invokespecial 54, 3) := by decide +kernel
theorem dX5_init_110 : decode cX5_init 110 = .ok (.putfield 55, 3) := by decide +kernel
theorem dX5_init_113 : decode cX5_init 113 = .ok (.aload_n 0, 1) := by decide +kernel
theorem dX5_init_114 : decode cX5_init 114 = .ok (.new 59, 3) := by decide +kernel
theorem dX5_init_117 : decode cX5_init 117 = .ok (.dup, 1) := by decide +kernel
theorem dX5_init_118 : decode cX5_init 118 = .ok (.invokespecial 61, 3) := by decide +kernel
theorem dX5_init_121 : decode cX5_init 121 = .ok (.putfield 62, 3) := by decide +kernel
theorem dX5_init_124 : decode cX5_init 124 = .ok (.return_, 1) := by decide +kernel
theorem dX5_feed_0 : decode cX5_feed 0 = .ok (.iload_n 1, 1) := by decide +kernel
theorem dX5_feed_1 : decode cX5_feed 1 = .ok (.iconst 1, 1) := by decide +kernel
theorem dX5_feed_2 : decode cX5_feed 2 = .ok (.if_icmp .lt 9, 3) := by decide +kernel
theorem dX5_feed_5 : decode cX5_feed 5 = .ok (.iload_n 1, 1) := by decide +kernel
theorem dX5_feed_6 : decode cX5_feed 6 = .ok (.bipush 8, 2) := by decide +kernel
theorem dX5_feed_8 : decode cX5_feed 8 = .ok (.if_icmp .le 6, 3) := by decide +kernel
theorem dX5_feed_11 : decode cX5_feed 11 = .ok (.ldc 66, 2) := by decide +kernel
theorem dX5_feed_13 : decode cX5_feed 13 = .ok (.ireturn, 1) := by decide +kernel
theorem dX5_feed_14 : decode cX5_feed 14 = .ok (.aload_n 0, 1) := by decide +kernel
theorem dX5_feed_15 : decode cX5_feed 15 = .ok (.getfield 13, 3) := by decide +kernel
theorem dX5_feed_18 : decode cX5_feed 18 = .ok (.iload_n 1, 1) := by decide +kernel
theorem dX5_feed_19 : decode cX5_feed 19 = .ok (.iadd, 1) := by decide +kernel
theorem dX5_feed_20 : decode cX5_feed 20 = .ok (.sipush 400, 3) := by decide +kernel
theorem dX5_feed_23 : decode cX5_feed 23 = .ok (.if_icmp .le 6, 3) := by decide +kernel
theorem dX5_feed_26 : decode cX5_feed 26 = .ok (.ldc 67, 2) := by decide +kernel
theorem dX5_feed_28 : decode cX5_feed 28 = .ok (.ireturn, 1) := by decide +kernel
theorem dX5_feed_29 : decode cX5_feed 29 = .ok (.iload_n 1, 1) := by decide +kernel
theorem dX5_feed_30 : decode cX5_feed 30 = .ok (.iconst 1, 1) := by decide +kernel
theorem dX5_feed_31 : decode cX5_feed 31 = .ok (.isub, 1) := by decide +kernel
theorem dX5_feed_32 : decode cX5_feed 32 = .ok (.istore 4, 2) := by decide +kernel
theorem dX5_feed_34 : decode cX5_feed 34 = .ok (.iload 4, 2) := by decide +kernel
theorem dX5_feed_36 : decode cX5_feed 36 = .ok (.ifCond .lt 37, 3) := by decide +kernel
theorem dX5_feed_39 : decode cX5_feed 39 = .ok (.aload_n 0, 1) := by decide +kernel
theorem dX5_feed_40 : decode cX5_feed 40 = .ok (.getfield 9, 3) := by decide +kernel
theorem dX5_feed_43 : decode cX5_feed 43 = .ok (.aload_n 0, 1) := by decide +kernel
theorem dX5_feed_44 : decode cX5_feed 44 = .ok (.getfield 13, 3) := by decide +kernel
theorem dX5_feed_47 : decode cX5_feed 47 = .ok (.lload_n 2, 1) := by decide +kernel
theorem dX5_feed_48 : decode cX5_feed 48 = .ok (.bipush 8, 2) := by decide +kernel
theorem dX5_feed_50 : decode cX5_feed 50 = .ok (.iload 4, 2) := by decide +kernel
theorem dX5_feed_52 : decode cX5_feed 52 = .ok (.imul, 1) := by decide +kernel
theorem dX5_feed_53 : decode cX5_feed 53 = .ok (.lushr, 1) := by decide +kernel
theorem dX5_feed_54 : decode cX5_feed 54 = .ok (.l2i, 1) := by decide +kernel
theorem dX5_feed_55 : decode cX5_feed 55 = .ok (.i2b, 1) := by decide +kernel
theorem dX5_feed_56 : decode cX5_feed 56 = .ok (.bastore, 1) := by decide +kernel
theorem dX5_feed_57 : decode cX5_feed 57 = .ok (.aload_n 0, 1) := by decide +kernel
theorem dX5_feed_58 : decode cX5_feed 58 = .ok (.dup, 1) := by decide +kernel
theorem dX5_feed_59 : decode cX5_feed 59 = .ok (.getfield 13, 3) := by decide +kernel
theorem dX5_feed_62 : decode cX5_feed 62 = .ok (.iconst 1, 1) := by decide +kernel
theorem dX5_feed_63 : decode cX5_feed 63 = .ok (.iadd, 1) := by decide +kernel
theorem dX5_feed_64 : decode cX5_feed 64 = .ok (.putfield 13, 3) := by decide +kernel
theorem dX5_feed_67 : decode cX5_feed 67 = .ok (.iinc 4 (-1), 3) := by decide +kernel
theorem dX5_feed_70 : decode cX5_feed 70 = .ok (.goto (-36), 3) := by decide +kernel
theorem dX5_feed_73 : decode cX5_feed 73 = .ok (.aload_n 0, 1) := by decide +kernel
theorem dX5_feed_74 : decode cX5_feed 74 = .ok (.getfield 13, 3) := by decide +kernel
theorem dX5_feed_77 : decode cX5_feed 77 = .ok (.ireturn, 1) := by decide +kernel
theorem dX5_island_0 : decode cX5_island 0 = .ok (.aload_n 0, 1) := by decide +kernel
theorem dX5_island_1 : decode cX5_island 1 = .ok (.getfield 33, 3) := by decide +kernel
theorem dX5_island_4 : decode cX5_island 4 = .ok (.aload_n 0, 1) := by decide +kernel
theorem dX5_island_5 : decode cX5_island 5 = .ok (.getfield 9, 3) := by decide +kernel
theorem dX5_island_8 : decode cX5_island 8 = .ok (.aload_n 0, 1) := by decide +kernel
theorem dX5_island_9 : decode cX5_island 9 = .ok (.getfield 13, 3) := by decide +kernel
theorem dX5_island_12 : decode cX5_island 12 = .ok (.aload_n 0, 1) := by decide +kernel
theorem dX5_island_13 : decode cX5_island 13 = .ok (.getfield 27, 3) := by decide +kernel
theorem dX5_island_16 : decode cX5_island 16 = .ok (.invokevirtual 68, 3) := by decide +kernel
theorem dX5_island_19 : decode cX5_island 19 = .ok (.istore_n 1, 1) := by decide +kernel
theorem dX5_island_20 : decode cX5_island 20 = .ok (.aload_n 0, 1) := by decide +kernel
theorem dX5_island_21 : decode cX5_island 21 = .ok (.iconst 0, 1) := by decide +kernel
theorem dX5_island_22 : decode cX5_island 22 = .ok (.putfield 13, 3) := by decide +kernel
theorem dX5_island_25 : decode cX5_island 25 = .ok (.iload_n 1, 1) := by decide +kernel
theorem dX5_island_26 : decode cX5_island 26 = .ok (.ifCond .eq 19, 3) := by decide +kernel
theorem dX5_island_29 : decode cX5_island 29 = .ok (.aload_n 0, 1) := by decide +kernel
theorem dX5_island_30 : decode cX5_island 30 = .ok (.aload_n 0, 1) := by decide +kernel
theorem dX5_island_31 : decode cX5_island 31 = .ok (.getfield 33, 3) := by decide +kernel
theorem dX5_island_34 : decode cX5_island 34 = .ok (.getfield 72, 3) := by decide +kernel
theorem dX5_island_37 : decode cX5_island 37 = .ok (.putfield 17, 3) := by decide +kernel
theorem dX5_island_40 : decode cX5_island 40 = .ok (.bipush (-10), 2) := by decide +kernel
theorem dX5_island_42 : decode cX5_island 42 = .ok (.iload_n 1, 1) := by decide +kernel
theorem dX5_island_43 : decode cX5_island 43 = .ok (.isub, 1) := by decide +kernel
theorem dX5_island_44 : decode cX5_island 44 = .ok (.ireturn, 1) := by decide +kernel
theorem dX5_island_45 : decode cX5_island 45 = .ok (.aload_n 0, 1) := by decide +kernel
theorem dX5_island_46 : decode cX5_island 46 = .ok (.iconst (-1), 1) := by decide +kernel
theorem dX5_island_47 : decode cX5_island 47 = .ok (.putfield 17, 3) := by decide +kernel
theorem dX5_island_50 : decode cX5_island 50 = .ok (.aload_n 0, 1) := by decide +kernel
theorem dX5_island_51 : decode cX5_island 51 = .ok (.getfield 27, 3) := by decide +kernel
theorem dX5_island_54 : decode cX5_island 54 = .ok (.astore_n 2, 1) := by decide +kernel
theorem dX5_island_55 : decode cX5_island 55 = .ok (.aload_n 0, 1) := by decide +kernel
theorem dX5_island_56 : decode cX5_island 56 = .ok (.aload_n 0, 1) := by decide +kernel
theorem dX5_island_57 : decode cX5_island 57 = .ok (.getfield 23, 3) := by decide +kernel
theorem dX5_island_60 : decode cX5_island 60 = .ok (.putfield 27, 3) := by decide +kernel
theorem dX5_island_63 : decode cX5_island 63 = .ok (.aload_n 0, 1) := by decide +kernel
theorem dX5_island_64 : decode cX5_island 64 = .ok (.aload_n 2, 1) := by decide +kernel
theorem dX5_island_65 : decode cX5_island 65 = .ok (.putfield 23, 3) := by decide +kernel
theorem dX5_island_68 : decode cX5_island 68 = .ok (.aload_n 0, 1) := by decide +kernel
theorem dX5_island_69 : decode cX5_island 69 = .ok (.getfield 40, 3) := by decide +kernel
theorem dX5_island_72 : decode cX5_island 72 = .ok (.aload_n 0, 1) := by decide +kernel
theorem dX5_island_73 : decode cX5_island 73 = .ok (.getfield 23, 3) := by decide +kernel
theorem dX5_island_76 : decode cX5_island 76 = .ok (.getfield 75, 3) := by decide +kernel
theorem dX5_island_79 : decode cX5_island 79 = .ok (.invokevirtual 78, 3) := by decide +kernel
theorem dX5_island_82 : decode cX5_island 82 = .ok (.aload_n 0, 1) := by decide +kernel
theorem dX5_island_83 : decode cX5_island 83 = .ok (.getfield 55, 3) := by decide +kernel
theorem dX5_island_86 : decode cX5_island 86 = .ok (.iconst 0, 1) := by decide +kernel
theorem dX5_island_87 : decode cX5_island 87 = .ok (.putfield 82, 3) := by decide +kernel
theorem dX5_island_90 : decode cX5_island 90 = .ok (.iconst 0, 1) := by decide +kernel
theorem dX5_island_91 : decode cX5_island 91 = .ok (.istore_n 3, 1) := by decide +kernel
theorem dX5_island_92 : decode cX5_island 92 = .ok (.iload_n 3, 1) := by decide +kernel
theorem dX5_island_93 : decode cX5_island 93 = .ok (.iconst 2, 1) := by decide +kernel
theorem dX5_island_94 : decode cX5_island 94 = .ok (.if_icmp .ge 16, 3) := by decide +kernel
theorem dX5_island_97 : decode cX5_island 97 = .ok (.aload_n 0, 1) := by decide +kernel
theorem dX5_island_98 : decode cX5_island 98 = .ok (.getfield 48, 3) := by decide +kernel
theorem dX5_island_101 : decode cX5_island 101 = .ok (.iload_n 3, 1) := by decide +kernel
theorem dX5_island_102 : decode cX5_island 102 = .ok (.iconst 0, 1) := by decide +kernel
theorem dX5_island_103 : decode cX5_island 103 = .ok (.bastore, 1) := by decide +kernel
theorem dX5_island_104 : decode cX5_island 104 = .ok (.iinc 3 1, 3) := by decide +kernel
theorem dX5_island_107 : decode cX5_island 107 = .ok (.goto (-15), 3) := by decide +kernel
theorem dX5_island_110 : decode cX5_island 110 = .ok (.aload_n 0, 1) := by decide +kernel
theorem dX5_island_111 : decode cX5_island 111 = .ok (.getfield 23, 3) := by decide +kernel
theorem dX5_island_114 : decode cX5_island 114 = .ok (.getfield 75, 3) := by decide +kernel
theorem dX5_island_117 : decode cX5_island 117 = .ok (.ireturn, 1) := by decide +kernel
theorem dX5_fault_0 : decode cX5_fault 0 = .ok (.aload_n 0, 1) := by decide +kernel
theorem dX5_fault_1 : decode cX5_fault 1 = .ok (.getfield 17, 3) := by decide +kernel
theorem dX5_fault_4 : decode cX5_fault 4 = .ok (.ireturn, 1) := by decide +kernel
theorem dX5_told_0 : decode cX5_told 0 = .ok (.iload_n 1, 1) := by decide +kernel
theorem dX5_told_1 : decode cX5_told 1 = .ok (.tableswitch 156 0 11 #[63, 71, 79, 87, 95, 103, 111, 119, 127, 132, 140, 148], 63) := by decide +kernel
theorem dX5_told_64 : decode cX5_told 64 = .ok (.aload_n 0, 1) := by decide +kernel
theorem dX5_told_65 : decode cX5_told 65 = .ok (.getfield 23, 3) := by decide +kernel
theorem dX5_told_68 : decode cX5_told 68 = .ok (.getfield 75, 3) := by decide +kernel
theorem dX5_told_71 : decode cX5_told 71 = .ok (.ireturn, 1) := by decide +kernel
theorem dX5_told_72 : decode cX5_told 72 = .ok (.aload_n 0, 1) := by decide +kernel
theorem dX5_told_73 : decode cX5_told 73 = .ok (.getfield 23, 3) := by decide +kernel
theorem dX5_told_76 : decode cX5_told 76 = .ok (.getfield 85, 3) := by decide +kernel
theorem dX5_told_79 : decode cX5_told 79 = .ok (.ireturn, 1) := by decide +kernel
theorem dX5_told_80 : decode cX5_told 80 = .ok (.aload_n 0, 1) := by decide +kernel
theorem dX5_told_81 : decode cX5_told 81 = .ok (.getfield 23, 3) := by decide +kernel
theorem dX5_told_84 : decode cX5_told 84 = .ok (.getfield 88, 3) := by decide +kernel
theorem dX5_told_87 : decode cX5_told 87 = .ok (.ireturn, 1) := by decide +kernel
theorem dX5_told_88 : decode cX5_told 88 = .ok (.aload_n 0, 1) := by decide +kernel
theorem dX5_told_89 : decode cX5_told 89 = .ok (.getfield 23, 3) := by decide +kernel
theorem dX5_told_92 : decode cX5_told 92 = .ok (.getfield 91, 3) := by decide +kernel
theorem dX5_told_95 : decode cX5_told 95 = .ok (.ireturn, 1) := by decide +kernel
theorem dX5_told_96 : decode cX5_told 96 = .ok (.aload_n 0, 1) := by decide +kernel
theorem dX5_told_97 : decode cX5_told 97 = .ok (.getfield 23, 3) := by decide +kernel
theorem dX5_told_100 : decode cX5_told 100 = .ok (.getfield 94, 3) := by decide +kernel
theorem dX5_told_103 : decode cX5_told 103 = .ok (.ireturn, 1) := by decide +kernel
theorem dX5_told_104 : decode cX5_told 104 = .ok (.aload_n 0, 1) := by decide +kernel
theorem dX5_told_105 : decode cX5_told 105 = .ok (.getfield 23, 3) := by decide +kernel
theorem dX5_told_108 : decode cX5_told 108 = .ok (.getfield 97, 3) := by decide +kernel
theorem dX5_told_111 : decode cX5_told 111 = .ok (.ireturn, 1) := by decide +kernel
theorem dX5_told_112 : decode cX5_told 112 = .ok (.aload_n 0, 1) := by decide +kernel
theorem dX5_told_113 : decode cX5_told 113 = .ok (.getfield 23, 3) := by decide +kernel
theorem dX5_told_116 : decode cX5_told 116 = .ok (.getfield 100, 3) := by decide +kernel
theorem dX5_told_119 : decode cX5_told 119 = .ok (.ireturn, 1) := by decide +kernel
theorem dX5_told_120 : decode cX5_told 120 = .ok (.aload_n 0, 1) := by decide +kernel
theorem dX5_told_121 : decode cX5_told 121 = .ok (.getfield 23, 3) := by decide +kernel
theorem dX5_told_124 : decode cX5_told 124 = .ok (.getfield 103, 3) := by decide +kernel
theorem dX5_told_127 : decode cX5_told 127 = .ok (.ireturn, 1) := by decide +kernel
theorem dX5_told_128 : decode cX5_told 128 = .ok (.aload_n 0, 1) := by decide +kernel
theorem dX5_told_129 : decode cX5_told 129 = .ok (.getfield 13, 3) := by decide +kernel
theorem dX5_told_132 : decode cX5_told 132 = .ok (.ireturn, 1) := by decide +kernel
theorem dX5_told_133 : decode cX5_told 133 = .ok (.aload_n 0, 1) := by decide +kernel
theorem dX5_told_134 : decode cX5_told 134 = .ok (.getfield 40, 3) := by decide +kernel
theorem dX5_told_137 : decode cX5_told 137 = .ok (.getfield 106, 3) := by decide +kernel
theorem dX5_told_140 : decode cX5_told 140 = .ok (.ireturn, 1) := by decide +kernel
theorem dX5_told_141 : decode cX5_told 141 = .ok (.aload_n 0, 1) := by decide +kernel
theorem dX5_told_142 : decode cX5_told 142 = .ok (.getfield 55, 3) := by decide +kernel
theorem dX5_told_145 : decode cX5_told 145 = .ok (.getfield 82, 3) := by decide +kernel
theorem dX5_told_148 : decode cX5_told 148 = .ok (.ireturn, 1) := by decide +kernel
theorem dX5_told_149 : decode cX5_told 149 = .ok (.aload_n 0, 1) := by decide +kernel
theorem dX5_told_150 : decode cX5_told 150 = .ok (.getfield 40, 3) := by decide +kernel
theorem dX5_told_153 : decode cX5_told 153 = .ok (.getfield 109, 3) := by decide +kernel
theorem dX5_told_156 : decode cX5_told 156 = .ok (.ireturn, 1) := by decide +kernel
theorem dX5_told_157 : decode cX5_told 157 = .ok (.ldc 66, 2) := by decide +kernel
theorem dX5_told_159 : decode cX5_told 159 = .ok (.ireturn, 1) := by decide +kernel
theorem dX5_mark_0 : decode cX5_mark 0 = .ok (.aload_n 0, 1) := by decide +kernel
theorem dX5_mark_1 : decode cX5_mark 1 = .ok (.iload_n 1, 1) := by decide +kernel
theorem dX5_mark_2 : decode cX5_mark 2 = .ok (.invokevirtual 112, 3) := by decide +kernel
theorem dX5_mark_5 : decode cX5_mark 5 = .ok (.ifCond .ne 6, 3) := by decide +kernel
theorem dX5_mark_8 : decode cX5_mark 8 = .ok (.ldc 116, 2) := by decide +kernel
theorem dX5_mark_10 : decode cX5_mark 10 = .ok (.ireturn, 1) := by decide +kernel
theorem dX5_mark_11 : decode cX5_mark 11 = .ok (.iload_n 2, 1) := by decide +kernel
theorem dX5_mark_12 : decode cX5_mark 12 = .ok (.ifCond .lt 8, 3) := by decide +kernel
theorem dX5_mark_15 : decode cX5_mark 15 = .ok (.iload_n 2, 1) := by decide +kernel
theorem dX5_mark_16 : decode cX5_mark 16 = .ok (.iconst 1, 1) := by decide +kernel
theorem dX5_mark_17 : decode cX5_mark 17 = .ok (.if_icmp .le 6, 3) := by decide +kernel
theorem dX5_mark_20 : decode cX5_mark 20 = .ok (.ldc 66, 2) := by decide +kernel
theorem dX5_mark_22 : decode cX5_mark 22 = .ok (.ireturn, 1) := by decide +kernel
theorem dX5_mark_23 : decode cX5_mark 23 = .ok (.iload_n 2, 1) := by decide +kernel
theorem dX5_mark_24 : decode cX5_mark 24 = .ok (.ifCond .ne 15, 3) := by decide +kernel
theorem dX5_mark_27 : decode cX5_mark 27 = .ok (.aload_n 0, 1) := by decide +kernel
theorem dX5_mark_28 : decode cX5_mark 28 = .ok (.getfield 23, 3) := by decide +kernel
theorem dX5_mark_31 : decode cX5_mark 31 = .ok (.getfield 117, 3) := by decide +kernel
theorem dX5_mark_34 : decode cX5_mark 34 = .ok (.iload_n 1, 1) := by decide +kernel
theorem dX5_mark_35 : decode cX5_mark 35 = .ok (.iaload, 1) := by decide +kernel
theorem dX5_mark_36 : decode cX5_mark 36 = .ok (.goto 12, 3) := by decide +kernel
theorem dX5_mark_39 : decode cX5_mark 39 = .ok (.aload_n 0, 1) := by decide +kernel
theorem dX5_mark_40 : decode cX5_mark 40 = .ok (.getfield 23, 3) := by decide +kernel
theorem dX5_mark_43 : decode cX5_mark 43 = .ok (.getfield 121, 3) := by decide +kernel
theorem dX5_mark_46 : decode cX5_mark 46 = .ok (.iload_n 1, 1) := by decide +kernel
theorem dX5_mark_47 : decode cX5_mark 47 = .ok (.iaload, 1) := by decide +kernel
theorem dX5_mark_48 : decode cX5_mark 48 = .ok (.ireturn, 1) := by decide +kernel
theorem dX5_map_0 : decode cX5_map 0 = .ok (.iload_n 1, 1) := by decide +kernel
theorem dX5_map_1 : decode cX5_map 1 = .ok (.invokestatic 124, 3) := by decide +kernel
theorem dX5_map_4 : decode cX5_map 4 = .ok (.ifCond .eq 11, 3) := by decide +kernel
theorem dX5_map_7 : decode cX5_map 7 = .ok (.aload_n 0, 1) := by decide +kernel
theorem dX5_map_8 : decode cX5_map 8 = .ok (.iload_n 2, 1) := by decide +kernel
theorem dX5_map_9 : decode cX5_map 9 = .ok (.invokevirtual 112, 3) := by decide +kernel
theorem dX5_map_12 : decode cX5_map 12 = .ok (.ifCond .ne 6, 3) := by decide +kernel
theorem dX5_map_15 : decode cX5_map 15 = .ok (.ldc 116, 2) := by decide +kernel
theorem dX5_map_17 : decode cX5_map 17 = .ok (.ireturn, 1) := by decide +kernel
theorem dX5_map_18 : decode cX5_map 18 = .ok (.iload_n 3, 1) := by decide +kernel
theorem dX5_map_19 : decode cX5_map 19 = .ok (.ifCond .lt 8, 3) := by decide +kernel
theorem dX5_map_22 : decode cX5_map 22 = .ok (.iload_n 3, 1) := by decide +kernel
theorem dX5_map_23 : decode cX5_map 23 = .ok (.iconst 1, 1) := by decide +kernel
theorem dX5_map_24 : decode cX5_map 24 = .ok (.if_icmp .le 6, 3) := by decide +kernel
theorem dX5_map_27 : decode cX5_map 27 = .ok (.ldc 66, 2) := by decide +kernel
theorem dX5_map_29 : decode cX5_map 29 = .ok (.ireturn, 1) := by decide +kernel
theorem dX5_map_30 : decode cX5_map 30 = .ok (.iload_n 3, 1) := by decide +kernel
theorem dX5_map_31 : decode cX5_map 31 = .ok (.ifCond .ne 20, 3) := by decide +kernel
theorem dX5_map_34 : decode cX5_map 34 = .ok (.aload_n 0, 1) := by decide +kernel
theorem dX5_map_35 : decode cX5_map 35 = .ok (.getfield 23, 3) := by decide +kernel
theorem dX5_map_38 : decode cX5_map 38 = .ok (.getfield 127, 3) := by decide +kernel
theorem dX5_map_41 : decode cX5_map 41 = .ok (.iload_n 1, 1) := by decide +kernel
theorem dX5_map_42 : decode cX5_map 42 = .ok (.bipush 9, 2) := by decide +kernel
theorem dX5_map_44 : decode cX5_map 44 = .ok (.imul, 1) := by decide +kernel
theorem dX5_map_45 : decode cX5_map 45 = .ok (.iload_n 2, 1) := by decide +kernel
theorem dX5_map_46 : decode cX5_map 46 = .ok (.iadd, 1) := by decide +kernel
theorem dX5_map_47 : decode cX5_map 47 = .ok (.iaload, 1) := by decide +kernel
theorem dX5_map_48 : decode cX5_map 48 = .ok (.goto 17, 3) := by decide +kernel
theorem dX5_map_51 : decode cX5_map 51 = .ok (.aload_n 0, 1) := by decide +kernel
theorem dX5_map_52 : decode cX5_map 52 = .ok (.getfield 23, 3) := by decide +kernel
theorem dX5_map_55 : decode cX5_map 55 = .ok (.getfield 130, 3) := by decide +kernel
theorem dX5_map_58 : decode cX5_map 58 = .ok (.iload_n 1, 1) := by decide +kernel
theorem dX5_map_59 : decode cX5_map 59 = .ok (.bipush 9, 2) := by decide +kernel
theorem dX5_map_61 : decode cX5_map 61 = .ok (.imul, 1) := by decide +kernel
theorem dX5_map_62 : decode cX5_map 62 = .ok (.iload_n 2, 1) := by decide +kernel
theorem dX5_map_63 : decode cX5_map 63 = .ok (.iadd, 1) := by decide +kernel
theorem dX5_map_64 : decode cX5_map 64 = .ok (.iaload, 1) := by decide +kernel
theorem dX5_map_65 : decode cX5_map 65 = .ok (.ireturn, 1) := by decide +kernel
theorem dX5_leads_0 : decode cX5_leads 0 = .ok (.iload_n 1, 1) := by decide +kernel
theorem dX5_leads_1 : decode cX5_leads 1 = .ok (.invokestatic 124, 3) := by decide +kernel
theorem dX5_leads_4 : decode cX5_leads 4 = .ok (.ifCond .ne 6, 3) := by decide +kernel
theorem dX5_leads_7 : decode cX5_leads 7 = .ok (.ldc 116, 2) := by decide +kernel
theorem dX5_leads_9 : decode cX5_leads 9 = .ok (.ireturn, 1) := by decide +kernel
theorem dX5_leads_10 : decode cX5_leads 10 = .ok (.iload_n 2, 1) := by decide +kernel
theorem dX5_leads_11 : decode cX5_leads 11 = .ok (.ifCond .lt 8, 3) := by decide +kernel
theorem dX5_leads_14 : decode cX5_leads 14 = .ok (.iload_n 2, 1) := by decide +kernel
theorem dX5_leads_15 : decode cX5_leads 15 = .ok (.iconst 4, 1) := by decide +kernel
theorem dX5_leads_16 : decode cX5_leads 16 = .ok (.if_icmp .lt 6, 3) := by decide +kernel
theorem dX5_leads_19 : decode cX5_leads 19 = .ok (.ldc 66, 2) := by decide +kernel
theorem dX5_leads_21 : decode cX5_leads 21 = .ok (.ireturn, 1) := by decide +kernel
theorem dX5_leads_22 : decode cX5_leads 22 = .ok (.aload_n 0, 1) := by decide +kernel
theorem dX5_leads_23 : decode cX5_leads 23 = .ok (.getfield 23, 3) := by decide +kernel
theorem dX5_leads_26 : decode cX5_leads 26 = .ok (.getfield 75, 3) := by decide +kernel
theorem dX5_leads_29 : decode cX5_leads 29 = .ok (.ifCond .ne 6, 3) := by decide +kernel
theorem dX5_leads_32 : decode cX5_leads 32 = .ok (.ldc 133, 2) := by decide +kernel
theorem dX5_leads_34 : decode cX5_leads 34 = .ok (.ireturn, 1) := by decide +kernel
theorem dX5_leads_35 : decode cX5_leads 35 = .ok (.iload_n 2, 1) := by decide +kernel
theorem dX5_leads_36 : decode cX5_leads 36 = .ok (.iconst 2, 1) := by decide +kernel
theorem dX5_leads_37 : decode cX5_leads 37 = .ok (.if_icmp .ge 13, 3) := by decide +kernel
theorem dX5_leads_40 : decode cX5_leads 40 = .ok (.aload_n 0, 1) := by decide +kernel
theorem dX5_leads_41 : decode cX5_leads 41 = .ok (.getfield 23, 3) := by decide +kernel
theorem dX5_leads_44 : decode cX5_leads 44 = .ok (.getfield 127, 3) := by decide +kernel
theorem dX5_leads_47 : decode cX5_leads 47 = .ok (.goto 10, 3) := by decide +kernel
theorem dX5_leads_50 : decode cX5_leads 50 = .ok (.aload_n 0, 1) := by decide +kernel
theorem dX5_leads_51 : decode cX5_leads 51 = .ok (.getfield 23, 3) := by decide +kernel
theorem dX5_leads_54 : decode cX5_leads 54 = .ok (.getfield 130, 3) := by decide +kernel
theorem dX5_leads_57 : decode cX5_leads 57 = .ok (.astore_n 3, 1) := by decide +kernel
theorem dX5_leads_58 : decode cX5_leads 58 = .ok (.aload_n 3, 1) := by decide +kernel
theorem dX5_leads_59 : decode cX5_leads 59 = .ok (.iload_n 1, 1) := by decide +kernel
theorem dX5_leads_60 : decode cX5_leads 60 = .ok (.bipush 9, 2) := by decide +kernel
theorem dX5_leads_62 : decode cX5_leads 62 = .ok (.imul, 1) := by decide +kernel
theorem dX5_leads_63 : decode cX5_leads 63 = .ok (.aload_n 0, 1) := by decide +kernel
theorem dX5_leads_64 : decode cX5_leads 64 = .ok (.getfield 23, 3) := by decide +kernel
theorem dX5_leads_67 : decode cX5_leads 67 = .ok (.getfield 91, 3) := by decide +kernel
theorem dX5_leads_70 : decode cX5_leads 70 = .ok (.iadd, 1) := by decide +kernel
theorem dX5_leads_71 : decode cX5_leads 71 = .ok (.iaload, 1) := by decide +kernel
theorem dX5_leads_72 : decode cX5_leads 72 = .ok (.aload_n 3, 1) := by decide +kernel
theorem dX5_leads_73 : decode cX5_leads 73 = .ok (.iload_n 1, 1) := by decide +kernel
theorem dX5_leads_74 : decode cX5_leads 74 = .ok (.bipush 9, 2) := by decide +kernel
theorem dX5_leads_76 : decode cX5_leads 76 = .ok (.imul, 1) := by decide +kernel
theorem dX5_leads_77 : decode cX5_leads 77 = .ok (.aload_n 0, 1) := by decide +kernel
theorem dX5_leads_78 : decode cX5_leads 78 = .ok (.getfield 23, 3) := by decide +kernel
theorem dX5_leads_81 : decode cX5_leads 81 = .ok (.getfield 94, 3) := by decide +kernel
theorem dX5_leads_84 : decode cX5_leads 84 = .ok (.iadd, 1) := by decide +kernel
theorem dX5_leads_85 : decode cX5_leads 85 = .ok (.iaload, 1) := by decide +kernel
theorem dX5_leads_86 : decode cX5_leads 86 = .ok (.iadd, 1) := by decide +kernel
theorem dX5_leads_87 : decode cX5_leads 87 = .ok (.aload_n 3, 1) := by decide +kernel
theorem dX5_leads_88 : decode cX5_leads 88 = .ok (.iload_n 1, 1) := by decide +kernel
theorem dX5_leads_89 : decode cX5_leads 89 = .ok (.bipush 9, 2) := by decide +kernel
theorem dX5_leads_91 : decode cX5_leads 91 = .ok (.imul, 1) := by decide +kernel
theorem dX5_leads_92 : decode cX5_leads 92 = .ok (.aload_n 0, 1) := by decide +kernel
theorem dX5_leads_93 : decode cX5_leads 93 = .ok (.getfield 23, 3) := by decide +kernel
theorem dX5_leads_96 : decode cX5_leads 96 = .ok (.getfield 97, 3) := by decide +kernel
theorem dX5_leads_99 : decode cX5_leads 99 = .ok (.iadd, 1) := by decide +kernel
theorem dX5_leads_100 : decode cX5_leads 100 = .ok (.iaload, 1) := by decide +kernel
theorem dX5_leads_101 : decode cX5_leads 101 = .ok (.isub, 1) := by decide +kernel
theorem dX5_leads_102 : decode cX5_leads 102 = .ok (.istore 4, 2) := by decide +kernel
theorem dX5_leads_104 : decode cX5_leads 104 = .ok (.iconst 3, 1) := by decide +kernel
theorem dX5_leads_105 : decode cX5_leads 105 = .ok (.aload_n 0, 1) := by decide +kernel
theorem dX5_leads_106 : decode cX5_leads 106 = .ok (.getfield 23, 3) := by decide +kernel
theorem dX5_leads_109 : decode cX5_leads 109 = .ok (.getfield 88, 3) := by decide +kernel
theorem dX5_leads_112 : decode cX5_leads 112 = .ok (.imul, 1) := by decide +kernel
theorem dX5_leads_113 : decode cX5_leads 113 = .ok (.istore 5, 2) := by decide +kernel
theorem dX5_leads_115 : decode cX5_leads 115 = .ok (.iload_n 2, 1) := by decide +kernel
theorem dX5_leads_116 : decode cX5_leads 116 = .ok (.iconst 2, 1) := by decide +kernel
theorem dX5_leads_117 : decode cX5_leads 117 = .ok (.irem, 1) := by decide +kernel
theorem dX5_leads_118 : decode cX5_leads 118 = .ok (.ifCond .ne 11, 3) := by decide +kernel
theorem dX5_leads_121 : decode cX5_leads 121 = .ok (.iload 4, 2) := by decide +kernel
theorem dX5_leads_123 : decode cX5_leads 123 = .ok (.iload 5, 2) := by decide +kernel
theorem dX5_leads_125 : decode cX5_leads 125 = .ok (.isub, 1) := by decide +kernel
theorem dX5_leads_126 : decode cX5_leads 126 = .ok (.goto 8, 3) := by decide +kernel
theorem dX5_leads_129 : decode cX5_leads 129 = .ok (.iload 4, 2) := by decide +kernel
theorem dX5_leads_131 : decode cX5_leads 131 = .ok (.iload 5, 2) := by decide +kernel
theorem dX5_leads_133 : decode cX5_leads 133 = .ok (.iadd, 1) := by decide +kernel
theorem dX5_leads_134 : decode cX5_leads 134 = .ok (.ireturn, 1) := by decide +kernel
theorem dX5_knows_0 : decode cX5_knows 0 = .ok (.iload_n 1, 1) := by decide +kernel
theorem dX5_knows_1 : decode cX5_knows 1 = .ok (.invokestatic 124, 3) := by decide +kernel
theorem dX5_knows_4 : decode cX5_knows 4 = .ok (.ifCond .eq 27, 3) := by decide +kernel
theorem dX5_knows_7 : decode cX5_knows 7 = .ok (.iload_n 2, 1) := by decide +kernel
theorem dX5_knows_8 : decode cX5_knows 8 = .ok (.invokestatic 124, 3) := by decide +kernel
theorem dX5_knows_11 : decode cX5_knows 11 = .ok (.ifCond .eq 20, 3) := by decide +kernel
theorem dX5_knows_14 : decode cX5_knows 14 = .ok (.aload_n 0, 1) := by decide +kernel
theorem dX5_knows_15 : decode cX5_knows 15 = .ok (.getfield 40, 3) := by decide +kernel
theorem dX5_knows_18 : decode cX5_knows 18 = .ok (.getfield 134, 3) := by decide +kernel
theorem dX5_knows_21 : decode cX5_knows 21 = .ok (.iload_n 1, 1) := by decide +kernel
theorem dX5_knows_22 : decode cX5_knows 22 = .ok (.bipush 6, 2) := by decide +kernel
theorem dX5_knows_24 : decode cX5_knows 24 = .ok (.imul, 1) := by decide +kernel
theorem dX5_knows_25 : decode cX5_knows 25 = .ok (.iload_n 2, 1) := by decide +kernel
theorem dX5_knows_26 : decode cX5_knows 26 = .ok (.iadd, 1) := by decide +kernel
theorem dX5_knows_27 : decode cX5_knows 27 = .ok (.iaload, 1) := by decide +kernel
theorem dX5_knows_28 : decode cX5_knows 28 = .ok (.goto 5, 3) := by decide +kernel
theorem dX5_knows_31 : decode cX5_knows 31 = .ok (.ldc 116, 2) := by decide +kernel
theorem dX5_knows_33 : decode cX5_knows 33 = .ok (.ireturn, 1) := by decide +kernel
theorem dX5_show_0 : decode cX5_show 0 = .ok (.iload_n 1, 1) := by decide +kernel
theorem dX5_show_1 : decode cX5_show 1 = .ok (.iload_n 2, 1) := by decide +kernel
theorem dX5_show_2 : decode cX5_show 2 = .ok (.invokestatic 137, 3) := by decide +kernel
theorem dX5_show_5 : decode cX5_show 5 = .ok (.ifCond .eq 11, 3) := by decide +kernel
theorem dX5_show_8 : decode cX5_show 8 = .ok (.aload_n 0, 1) := by decide +kernel
theorem dX5_show_9 : decode cX5_show 9 = .ok (.iload_n 3, 1) := by decide +kernel
theorem dX5_show_10 : decode cX5_show 10 = .ok (.invokevirtual 112, 3) := by decide +kernel
theorem dX5_show_13 : decode cX5_show 13 = .ok (.ifCond .ne 6, 3) := by decide +kernel
theorem dX5_show_16 : decode cX5_show 16 = .ok (.ldc 116, 2) := by decide +kernel
theorem dX5_show_18 : decode cX5_show 18 = .ok (.ireturn, 1) := by decide +kernel
theorem dX5_show_19 : decode cX5_show 19 = .ok (.aload_n 0, 1) := by decide +kernel
theorem dX5_show_20 : decode cX5_show 20 = .ok (.getfield 40, 3) := by decide +kernel
theorem dX5_show_23 : decode cX5_show 23 = .ok (.iload_n 2, 1) := by decide +kernel
theorem dX5_show_24 : decode cX5_show 24 = .ok (.iload_n 1, 1) := by decide +kernel
theorem dX5_show_25 : decode cX5_show 25 = .ok (.iload_n 3, 1) := by decide +kernel
theorem dX5_show_26 : decode cX5_show 26 = .ok (.invokevirtual 141, 3) := by decide +kernel
theorem dX5_show_29 : decode cX5_show 29 = .ok (.ifCond .eq 6, 3) := by decide +kernel
theorem dX5_show_32 : decode cX5_show 32 = .ok (.ldc 133, 2) := by decide +kernel
theorem dX5_show_34 : decode cX5_show 34 = .ok (.ireturn, 1) := by decide +kernel
theorem dX5_show_35 : decode cX5_show 35 = .ok (.aload_n 0, 1) := by decide +kernel
theorem dX5_show_36 : decode cX5_show 36 = .ok (.getfield 40, 3) := by decide +kernel
theorem dX5_show_39 : decode cX5_show 39 = .ok (.iload_n 2, 1) := by decide +kernel
theorem dX5_show_40 : decode cX5_show 40 = .ok (.iload_n 1, 1) := by decide +kernel
theorem dX5_show_41 : decode cX5_show 41 = .ok (.iload_n 3, 1) := by decide +kernel
theorem dX5_show_42 : decode cX5_show 42 = .ok (.invokevirtual 145, 3) := by decide +kernel
theorem dX5_show_45 : decode cX5_show 45 = .ok (.aload_n 0, 1) := by decide +kernel
theorem dX5_show_46 : decode cX5_show 46 = .ok (.getfield 40, 3) := by decide +kernel
theorem dX5_show_49 : decode cX5_show 49 = .ok (.getfield 134, 3) := by decide +kernel
theorem dX5_show_52 : decode cX5_show 52 = .ok (.iload_n 2, 1) := by decide +kernel
theorem dX5_show_53 : decode cX5_show 53 = .ok (.bipush 6, 2) := by decide +kernel
theorem dX5_show_55 : decode cX5_show 55 = .ok (.imul, 1) := by decide +kernel
theorem dX5_show_56 : decode cX5_show 56 = .ok (.iload_n 1, 1) := by decide +kernel
theorem dX5_show_57 : decode cX5_show 57 = .ok (.iadd, 1) := by decide +kernel
theorem dX5_show_58 : decode cX5_show 58 = .ok (.iaload, 1) := by decide +kernel
theorem dX5_show_59 : decode cX5_show 59 = .ok (.invokestatic 149, 3) := by decide +kernel
theorem dX5_show_62 : decode cX5_show 62 = .ok (.ireturn, 1) := by decide +kernel
theorem dX5_trade_0 : decode cX5_trade 0 = .ok (.iload_n 1, 1) := by decide +kernel
theorem dX5_trade_1 : decode cX5_trade 1 = .ok (.iload_n 3, 1) := by decide +kernel
theorem dX5_trade_2 : decode cX5_trade 2 = .ok (.invokestatic 137, 3) := by decide +kernel
theorem dX5_trade_5 : decode cX5_trade 5 = .ok (.ifCond .eq 20, 3) := by decide +kernel
theorem dX5_trade_8 : decode cX5_trade 8 = .ok (.aload_n 0, 1) := by decide +kernel
theorem dX5_trade_9 : decode cX5_trade 9 = .ok (.iload_n 2, 1) := by decide +kernel
theorem dX5_trade_10 : decode cX5_trade 10 = .ok (.invokevirtual 112, 3) := by decide +kernel
theorem dX5_trade_13 : decode cX5_trade 13 = .ok (.ifCond .eq 12, 3) := by decide +kernel
theorem dX5_trade_16 : decode cX5_trade 16 = .ok (.aload_n 0, 1) := by decide +kernel
theorem dX5_trade_17 : decode cX5_trade 17 = .ok (.iload 4, 2) := by decide +kernel
theorem dX5_trade_19 : decode cX5_trade 19 = .ok (.invokevirtual 112, 3) := by decide +kernel
theorem dX5_trade_22 : decode cX5_trade 22 = .ok (.ifCond .ne 6, 3) := by decide +kernel
theorem dX5_trade_25 : decode cX5_trade 25 = .ok (.ldc 116, 2) := by decide +kernel
theorem dX5_trade_27 : decode cX5_trade 27 = .ok (.ireturn, 1) := by decide +kernel
theorem dX5_trade_28 : decode cX5_trade 28 = .ok (.aload_n 0, 1) := by decide +kernel
theorem dX5_trade_29 : decode cX5_trade 29 = .ok (.getfield 40, 3) := by decide +kernel
theorem dX5_trade_32 : decode cX5_trade 32 = .ok (.iload_n 3, 1) := by decide +kernel
theorem dX5_trade_33 : decode cX5_trade 33 = .ok (.iload_n 1, 1) := by decide +kernel
theorem dX5_trade_34 : decode cX5_trade 34 = .ok (.iload_n 2, 1) := by decide +kernel
theorem dX5_trade_35 : decode cX5_trade 35 = .ok (.invokevirtual 141, 3) := by decide +kernel
theorem dX5_trade_38 : decode cX5_trade 38 = .ok (.ifCond .ne 17, 3) := by decide +kernel
theorem dX5_trade_41 : decode cX5_trade 41 = .ok (.aload_n 0, 1) := by decide +kernel
theorem dX5_trade_42 : decode cX5_trade 42 = .ok (.getfield 40, 3) := by decide +kernel
theorem dX5_trade_45 : decode cX5_trade 45 = .ok (.iload_n 1, 1) := by decide +kernel
theorem dX5_trade_46 : decode cX5_trade 46 = .ok (.iload_n 3, 1) := by decide +kernel
theorem dX5_trade_47 : decode cX5_trade 47 = .ok (.iload 4, 2) := by decide +kernel
theorem dX5_trade_49 : decode cX5_trade 49 = .ok (.invokevirtual 141, 3) := by decide +kernel
theorem dX5_trade_52 : decode cX5_trade 52 = .ok (.ifCond .eq 6, 3) := by decide +kernel
theorem dX5_trade_55 : decode cX5_trade 55 = .ok (.ldc 133, 2) := by decide +kernel
theorem dX5_trade_57 : decode cX5_trade 57 = .ok (.ireturn, 1) := by decide +kernel
theorem dX5_trade_58 : decode cX5_trade 58 = .ok (.aload_n 0, 1) := by decide +kernel
theorem dX5_trade_59 : decode cX5_trade 59 = .ok (.getfield 40, 3) := by decide +kernel
theorem dX5_trade_62 : decode cX5_trade 62 = .ok (.iload_n 3, 1) := by decide +kernel
theorem dX5_trade_63 : decode cX5_trade 63 = .ok (.iload_n 1, 1) := by decide +kernel
theorem dX5_trade_64 : decode cX5_trade 64 = .ok (.iload_n 2, 1) := by decide +kernel
theorem dX5_trade_65 : decode cX5_trade 65 = .ok (.invokevirtual 145, 3) := by decide +kernel
theorem dX5_trade_68 : decode cX5_trade 68 = .ok (.aload_n 0, 1) := by decide +kernel
theorem dX5_trade_69 : decode cX5_trade 69 = .ok (.getfield 40, 3) := by decide +kernel
theorem dX5_trade_72 : decode cX5_trade 72 = .ok (.iload_n 1, 1) := by decide +kernel
theorem dX5_trade_73 : decode cX5_trade 73 = .ok (.iload_n 3, 1) := by decide +kernel
theorem dX5_trade_74 : decode cX5_trade 74 = .ok (.iload 4, 2) := by decide +kernel
theorem dX5_trade_76 : decode cX5_trade 76 = .ok (.invokevirtual 145, 3) := by decide +kernel
theorem dX5_trade_79 : decode cX5_trade 79 = .ok (.iconst 1, 1) := by decide +kernel
theorem dX5_trade_80 : decode cX5_trade 80 = .ok (.ireturn, 1) := by decide +kernel
theorem dX5_dig_0 : decode cX5_dig 0 = .ok (.iload_n 1, 1) := by decide +kernel
theorem dX5_dig_1 : decode cX5_dig 1 = .ok (.invokestatic 124, 3) := by decide +kernel
theorem dX5_dig_4 : decode cX5_dig 4 = .ok (.ifCond .ne 6, 3) := by decide +kernel
theorem dX5_dig_7 : decode cX5_dig 7 = .ok (.ldc 116, 2) := by decide +kernel
theorem dX5_dig_9 : decode cX5_dig 9 = .ok (.ireturn, 1) := by decide +kernel
theorem dX5_dig_10 : decode cX5_dig 10 = .ok (.iload_n 2, 1) := by decide +kernel
theorem dX5_dig_11 : decode cX5_dig 11 = .ok (.ifCond .lt 19, 3) := by decide +kernel
theorem dX5_dig_14 : decode cX5_dig 14 = .ok (.iload_n 2, 1) := by decide +kernel
theorem dX5_dig_15 : decode cX5_dig 15 = .ok (.bipush 99, 2) := by decide +kernel
theorem dX5_dig_17 : decode cX5_dig 17 = .ok (.if_icmp .gt 13, 3) := by decide +kernel
theorem dX5_dig_20 : decode cX5_dig 20 = .ok (.iload_n 3, 1) := by decide +kernel
theorem dX5_dig_21 : decode cX5_dig 21 = .ok (.ifCond .lt 9, 3) := by decide +kernel
theorem dX5_dig_24 : decode cX5_dig 24 = .ok (.iload_n 3, 1) := by decide +kernel
theorem dX5_dig_25 : decode cX5_dig 25 = .ok (.bipush 99, 2) := by decide +kernel
theorem dX5_dig_27 : decode cX5_dig 27 = .ok (.if_icmp .le 6, 3) := by decide +kernel
theorem dX5_dig_30 : decode cX5_dig 30 = .ok (.ldc 66, 2) := by decide +kernel
theorem dX5_dig_32 : decode cX5_dig 32 = .ok (.ireturn, 1) := by decide +kernel
theorem dX5_dig_33 : decode cX5_dig 33 = .ok (.aload_n 0, 1) := by decide +kernel
theorem dX5_dig_34 : decode cX5_dig 34 = .ok (.getfield 23, 3) := by decide +kernel
theorem dX5_dig_37 : decode cX5_dig 37 = .ok (.getfield 75, 3) := by decide +kernel
theorem dX5_dig_40 : decode cX5_dig 40 = .ok (.ifCond .eq 14, 3) := by decide +kernel
theorem dX5_dig_43 : decode cX5_dig 43 = .ok (.aload_n 0, 1) := by decide +kernel
theorem dX5_dig_44 : decode cX5_dig 44 = .ok (.getfield 40, 3) := by decide +kernel
theorem dX5_dig_47 : decode cX5_dig 47 = .ok (.getfield 109, 3) := by decide +kernel
theorem dX5_dig_50 : decode cX5_dig 50 = .ok (.iconst (-1), 1) := by decide +kernel
theorem dX5_dig_51 : decode cX5_dig 51 = .ok (.if_icmp .eq 6, 3) := by decide +kernel
theorem dX5_dig_54 : decode cX5_dig 54 = .ok (.ldc 133, 2) := by decide +kernel
theorem dX5_dig_56 : decode cX5_dig 56 = .ok (.ireturn, 1) := by decide +kernel
theorem dX5_dig_57 : decode cX5_dig 57 = .ok (.aload_n 0, 1) := by decide +kernel
theorem dX5_dig_58 : decode cX5_dig 58 = .ok (.getfield 40, 3) := by decide +kernel
theorem dX5_dig_61 : decode cX5_dig 61 = .ok (.getfield 106, 3) := by decide +kernel
theorem dX5_dig_64 : decode cX5_dig 64 = .ok (.bipush 20, 2) := by decide +kernel
theorem dX5_dig_66 : decode cX5_dig 66 = .ok (.if_icmp .lt 6, 3) := by decide +kernel
theorem dX5_dig_69 : decode cX5_dig 69 = .ok (.ldc 67, 2) := by decide +kernel
theorem dX5_dig_71 : decode cX5_dig 71 = .ok (.ireturn, 1) := by decide +kernel
theorem dX5_dig_72 : decode cX5_dig 72 = .ok (.aload_n 0, 1) := by decide +kernel
theorem dX5_dig_73 : decode cX5_dig 73 = .ok (.iload_n 1, 1) := by decide +kernel
theorem dX5_dig_74 : decode cX5_dig 74 = .ok (.iload_n 2, 1) := by decide +kernel
theorem dX5_dig_75 : decode cX5_dig 75 = .ok (.iload_n 3, 1) := by decide +kernel
theorem dX5_dig_76 : decode cX5_dig 76 = .ok (.invokevirtual 155, 3) := by decide +kernel
theorem dX5_dig_79 : decode cX5_dig 79 = .ok (.aload_n 0, 1) := by decide +kernel
theorem dX5_dig_80 : decode cX5_dig 80 = .ok (.getfield 40, 3) := by decide +kernel
theorem dX5_dig_83 : decode cX5_dig 83 = .ok (.getfield 109, 3) := by decide +kernel
theorem dX5_dig_86 : decode cX5_dig 86 = .ok (.iconst (-1), 1) := by decide +kernel
theorem dX5_dig_87 : decode cX5_dig 87 = .ok (.if_icmp .ne 7, 3) := by decide +kernel
theorem dX5_dig_90 : decode cX5_dig 90 = .ok (.iconst 0, 1) := by decide +kernel
theorem dX5_dig_91 : decode cX5_dig 91 = .ok (.goto 4, 3) := by decide +kernel
theorem dX5_dig_94 : decode cX5_dig 94 = .ok (.iconst 1, 1) := by decide +kernel
theorem dX5_dig_95 : decode cX5_dig 95 = .ok (.ireturn, 1) := by decide +kernel
theorem dX5_purse_0 : decode cX5_purse 0 = .ok (.iload_n 1, 1) := by decide +kernel
theorem dX5_purse_1 : decode cX5_purse 1 = .ok (.invokestatic 124, 3) := by decide +kernel
theorem dX5_purse_4 : decode cX5_purse 4 = .ok (.ifCond .eq 15, 3) := by decide +kernel
theorem dX5_purse_7 : decode cX5_purse 7 = .ok (.aload_n 0, 1) := by decide +kernel
theorem dX5_purse_8 : decode cX5_purse 8 = .ok (.getfield 40, 3) := by decide +kernel
theorem dX5_purse_11 : decode cX5_purse 11 = .ok (.getfield 158, 3) := by decide +kernel
theorem dX5_purse_14 : decode cX5_purse 14 = .ok (.iload_n 1, 1) := by decide +kernel
theorem dX5_purse_15 : decode cX5_purse 15 = .ok (.iaload, 1) := by decide +kernel
theorem dX5_purse_16 : decode cX5_purse 16 = .ok (.goto 5, 3) := by decide +kernel
theorem dX5_purse_19 : decode cX5_purse 19 = .ok (.ldc 116, 2) := by decide +kernel
theorem dX5_purse_21 : decode cX5_purse 21 = .ok (.ireturn, 1) := by decide +kernel
theorem dX5_may_0 : decode cX5_may 0 = .ok (.iload_n 1, 1) := by decide +kernel
theorem dX5_may_1 : decode cX5_may 1 = .ok (.invokestatic 124, 3) := by decide +kernel
theorem dX5_may_4 : decode cX5_may 4 = .ok (.ifCond .ne 6, 3) := by decide +kernel
theorem dX5_may_7 : decode cX5_may 7 = .ok (.ldc 116, 2) := by decide +kernel
theorem dX5_may_9 : decode cX5_may 9 = .ok (.ireturn, 1) := by decide +kernel
theorem dX5_may_10 : decode cX5_may 10 = .ok (.aload_n 0, 1) := by decide +kernel
theorem dX5_may_11 : decode cX5_may 11 = .ok (.getfield 62, 3) := by decide +kernel
theorem dX5_may_14 : decode cX5_may 14 = .ok (.aload_n 0, 1) := by decide +kernel
theorem dX5_may_15 : decode cX5_may 15 = .ok (.getfield 23, 3) := by decide +kernel
theorem dX5_may_18 : decode cX5_may 18 = .ok (.aload_n 0, 1) := by decide +kernel
theorem dX5_may_19 : decode cX5_may 19 = .ok (.getfield 40, 3) := by decide +kernel
theorem dX5_may_22 : decode cX5_may 22 = .ok (.iload_n 1, 1) := by decide +kernel
theorem dX5_may_23 : decode cX5_may 23 = .ok (.invokevirtual 161, 3) := by decide +kernel
theorem dX5_may_26 : decode cX5_may 26 = .ok (.iload_n 2, 1) := by decide +kernel
theorem dX5_may_27 : decode cX5_may 27 = .ok (.iconst (-1), 1) := by decide +kernel
theorem dX5_may_28 : decode cX5_may 28 = .ok (.if_icmp .ne 11, 3) := by decide +kernel
theorem dX5_may_31 : decode cX5_may 31 = .ok (.aload_n 0, 1) := by decide +kernel
theorem dX5_may_32 : decode cX5_may 32 = .ok (.getfield 62, 3) := by decide +kernel
theorem dX5_may_35 : decode cX5_may 35 = .ok (.getfield 165, 3) := by decide +kernel
theorem dX5_may_38 : decode cX5_may 38 = .ok (.ireturn, 1) := by decide +kernel
theorem dX5_may_39 : decode cX5_may 39 = .ok (.iload_n 2, 1) := by decide +kernel
theorem dX5_may_40 : decode cX5_may 40 = .ok (.ifCond .lt 14, 3) := by decide +kernel
theorem dX5_may_43 : decode cX5_may 43 = .ok (.iload_n 2, 1) := by decide +kernel
theorem dX5_may_44 : decode cX5_may 44 = .ok (.aload_n 0, 1) := by decide +kernel
theorem dX5_may_45 : decode cX5_may 45 = .ok (.getfield 62, 3) := by decide +kernel
theorem dX5_may_48 : decode cX5_may 48 = .ok (.getfield 165, 3) := by decide +kernel
theorem dX5_may_51 : decode cX5_may 51 = .ok (.if_icmp .lt 7, 3) := by decide +kernel
theorem dX5_may_54 : decode cX5_may 54 = .ok (.iconst (-1), 1) := by decide +kernel
theorem dX5_may_55 : decode cX5_may 55 = .ok (.goto 12, 3) := by decide +kernel
theorem dX5_may_58 : decode cX5_may 58 = .ok (.aload_n 0, 1) := by decide +kernel
theorem dX5_may_59 : decode cX5_may 59 = .ok (.getfield 62, 3) := by decide +kernel
theorem dX5_may_62 : decode cX5_may 62 = .ok (.getfield 166, 3) := by decide +kernel
theorem dX5_may_65 : decode cX5_may 65 = .ok (.iload_n 2, 1) := by decide +kernel
theorem dX5_may_66 : decode cX5_may 66 = .ok (.iaload, 1) := by decide +kernel
theorem dX5_may_67 : decode cX5_may 67 = .ok (.ireturn, 1) := by decide +kernel
theorem dX5_sure_0 : decode cX5_sure 0 = .ok (.iload_n 1, 1) := by decide +kernel
theorem dX5_sure_1 : decode cX5_sure 1 = .ok (.invokestatic 124, 3) := by decide +kernel
theorem dX5_sure_4 : decode cX5_sure 4 = .ok (.ifCond .ne 6, 3) := by decide +kernel
theorem dX5_sure_7 : decode cX5_sure 7 = .ok (.ldc 116, 2) := by decide +kernel
theorem dX5_sure_9 : decode cX5_sure 9 = .ok (.ireturn, 1) := by decide +kernel
theorem dX5_sure_10 : decode cX5_sure 10 = .ok (.iload_n 2, 1) := by decide +kernel
theorem dX5_sure_11 : decode cX5_sure 11 = .ok (.ifCond .lt 8, 3) := by decide +kernel
theorem dX5_sure_14 : decode cX5_sure 14 = .ok (.iload_n 2, 1) := by decide +kernel
theorem dX5_sure_15 : decode cX5_sure 15 = .ok (.iconst 1, 1) := by decide +kernel
theorem dX5_sure_16 : decode cX5_sure 16 = .ok (.if_icmp .le 6, 3) := by decide +kernel
theorem dX5_sure_19 : decode cX5_sure 19 = .ok (.ldc 66, 2) := by decide +kernel
theorem dX5_sure_21 : decode cX5_sure 21 = .ok (.ireturn, 1) := by decide +kernel
theorem dX5_sure_22 : decode cX5_sure 22 = .ok (.aload_n 0, 1) := by decide +kernel
theorem dX5_sure_23 : decode cX5_sure 23 = .ok (.getfield 62, 3) := by decide +kernel
theorem dX5_sure_26 : decode cX5_sure 26 = .ok (.aload_n 0, 1) := by decide +kernel
theorem dX5_sure_27 : decode cX5_sure 27 = .ok (.getfield 23, 3) := by decide +kernel
theorem dX5_sure_30 : decode cX5_sure 30 = .ok (.aload_n 0, 1) := by decide +kernel
theorem dX5_sure_31 : decode cX5_sure 31 = .ok (.getfield 40, 3) := by decide +kernel
theorem dX5_sure_34 : decode cX5_sure 34 = .ok (.iload_n 1, 1) := by decide +kernel
theorem dX5_sure_35 : decode cX5_sure 35 = .ok (.invokevirtual 161, 3) := by decide +kernel
theorem dX5_sure_38 : decode cX5_sure 38 = .ok (.aload_n 0, 1) := by decide +kernel
theorem dX5_sure_39 : decode cX5_sure 39 = .ok (.getfield 62, 3) := by decide +kernel
theorem dX5_sure_42 : decode cX5_sure 42 = .ok (.getfield 165, 3) := by decide +kernel
theorem dX5_sure_45 : decode cX5_sure 45 = .ok (.ifCond .ne 5, 3) := by decide +kernel
theorem dX5_sure_48 : decode cX5_sure 48 = .ok (.iconst (-1), 1) := by decide +kernel
theorem dX5_sure_49 : decode cX5_sure 49 = .ok (.ireturn, 1) := by decide +kernel
theorem dX5_sure_50 : decode cX5_sure 50 = .ok (.iload_n 2, 1) := by decide +kernel
theorem dX5_sure_51 : decode cX5_sure 51 = .ok (.ifCond .ne 13, 3) := by decide +kernel
theorem dX5_sure_54 : decode cX5_sure 54 = .ok (.aload_n 0, 1) := by decide +kernel
theorem dX5_sure_55 : decode cX5_sure 55 = .ok (.getfield 62, 3) := by decide +kernel
theorem dX5_sure_58 : decode cX5_sure 58 = .ok (.invokevirtual 169, 3) := by decide +kernel
theorem dX5_sure_61 : decode cX5_sure 61 = .ok (.goto 10, 3) := by decide +kernel
theorem dX5_sure_64 : decode cX5_sure 64 = .ok (.aload_n 0, 1) := by decide +kernel
theorem dX5_sure_65 : decode cX5_sure 65 = .ok (.getfield 62, 3) := by decide +kernel
theorem dX5_sure_68 : decode cX5_sure 68 = .ok (.invokevirtual 173, 3) := by decide +kernel
theorem dX5_sure_71 : decode cX5_sure 71 = .ok (.ireturn, 1) := by decide +kernel
theorem dX5_area_0 : decode cX5_area 0 = .ok (.iload_n 1, 1) := by decide +kernel
theorem dX5_area_1 : decode cX5_area 1 = .ok (.invokestatic 124, 3) := by decide +kernel
theorem dX5_area_4 : decode cX5_area 4 = .ok (.ifCond .ne 6, 3) := by decide +kernel
theorem dX5_area_7 : decode cX5_area 7 = .ok (.ldc 116, 2) := by decide +kernel
theorem dX5_area_9 : decode cX5_area 9 = .ok (.ireturn, 1) := by decide +kernel
theorem dX5_area_10 : decode cX5_area 10 = .ok (.iload_n 2, 1) := by decide +kernel
theorem dX5_area_11 : decode cX5_area 11 = .ok (.ifCond .lt 18, 3) := by decide +kernel
theorem dX5_area_14 : decode cX5_area 14 = .ok (.iload_n 2, 1) := by decide +kernel
theorem dX5_area_15 : decode cX5_area 15 = .ok (.bipush 63, 2) := by decide +kernel
theorem dX5_area_17 : decode cX5_area 17 = .ok (.if_icmp .gt 12, 3) := by decide +kernel
theorem dX5_area_20 : decode cX5_area 20 = .ok (.iload_n 3, 1) := by decide +kernel
theorem dX5_area_21 : decode cX5_area 21 = .ok (.ifCond .lt 8, 3) := by decide +kernel
theorem dX5_area_24 : decode cX5_area 24 = .ok (.iload_n 3, 1) := by decide +kernel
theorem dX5_area_25 : decode cX5_area 25 = .ok (.iconst 4, 1) := by decide +kernel
theorem dX5_area_26 : decode cX5_area 26 = .ok (.if_icmp .lt 6, 3) := by decide +kernel
theorem dX5_area_29 : decode cX5_area 29 = .ok (.ldc 66, 2) := by decide +kernel
theorem dX5_area_31 : decode cX5_area 31 = .ok (.ireturn, 1) := by decide +kernel
theorem dX5_area_32 : decode cX5_area 32 = .ok (.aload_n 0, 1) := by decide +kernel
theorem dX5_area_33 : decode cX5_area 33 = .ok (.getfield 23, 3) := by decide +kernel
theorem dX5_area_36 : decode cX5_area 36 = .ok (.getfield 75, 3) := by decide +kernel
theorem dX5_area_39 : decode cX5_area 39 = .ok (.ifCond .ne 6, 3) := by decide +kernel
theorem dX5_area_42 : decode cX5_area 42 = .ok (.ldc 133, 2) := by decide +kernel
theorem dX5_area_44 : decode cX5_area 44 = .ok (.ireturn, 1) := by decide +kernel
theorem dX5_area_45 : decode cX5_area 45 = .ok (.aload_n 0, 1) := by decide +kernel
theorem dX5_area_46 : decode cX5_area 46 = .ok (.getfield 62, 3) := by decide +kernel
theorem dX5_area_49 : decode cX5_area 49 = .ok (.aload_n 0, 1) := by decide +kernel
theorem dX5_area_50 : decode cX5_area 50 = .ok (.getfield 23, 3) := by decide +kernel
theorem dX5_area_53 : decode cX5_area 53 = .ok (.aload_n 0, 1) := by decide +kernel
theorem dX5_area_54 : decode cX5_area 54 = .ok (.getfield 40, 3) := by decide +kernel
theorem dX5_area_57 : decode cX5_area 57 = .ok (.iload_n 1, 1) := by decide +kernel
theorem dX5_area_58 : decode cX5_area 58 = .ok (.invokevirtual 161, 3) := by decide +kernel
theorem dX5_area_61 : decode cX5_area 61 = .ok (.aload_n 0, 1) := by decide +kernel
theorem dX5_area_62 : decode cX5_area 62 = .ok (.getfield 62, 3) := by decide +kernel
theorem dX5_area_65 : decode cX5_area 65 = .ok (.iload_n 2, 1) := by decide +kernel
theorem dX5_area_66 : decode cX5_area 66 = .ok (.invokevirtual 176, 3) := by decide +kernel
theorem dX5_area_69 : decode cX5_area 69 = .ok (.istore 4, 2) := by decide +kernel
theorem dX5_area_71 : decode cX5_area 71 = .ok (.iload 4, 2) := by decide +kernel
theorem dX5_area_73 : decode cX5_area 73 = .ok (.iconst (-1), 1) := by decide +kernel
theorem dX5_area_74 : decode cX5_area 74 = .ok (.if_icmp .ne 8, 3) := by decide +kernel
theorem dX5_area_77 : decode cX5_area 77 = .ok (.ldc 133, 2) := by decide +kernel
theorem dX5_area_79 : decode cX5_area 79 = .ok (.goto 17, 3) := by decide +kernel
theorem dX5_area_82 : decode cX5_area 82 = .ok (.aload_n 0, 1) := by decide +kernel
theorem dX5_area_83 : decode cX5_area 83 = .ok (.getfield 62, 3) := by decide +kernel
theorem dX5_area_86 : decode cX5_area 86 = .ok (.getfield 179, 3) := by decide +kernel
theorem dX5_area_89 : decode cX5_area 89 = .ok (.iload 4, 2) := by decide +kernel
theorem dX5_area_91 : decode cX5_area 91 = .ok (.iconst 4, 1) := by decide +kernel
theorem dX5_area_92 : decode cX5_area 92 = .ok (.imul, 1) := by decide +kernel
theorem dX5_area_93 : decode cX5_area 93 = .ok (.iload_n 3, 1) := by decide +kernel
theorem dX5_area_94 : decode cX5_area 94 = .ok (.iadd, 1) := by decide +kernel
theorem dX5_area_95 : decode cX5_area 95 = .ok (.iaload, 1) := by decide +kernel
theorem dX5_area_96 : decode cX5_area 96 = .ok (.ireturn, 1) := by decide +kernel
theorem dX5_best_0 : decode cX5_best 0 = .ok (.iload_n 1, 1) := by decide +kernel
theorem dX5_best_1 : decode cX5_best 1 = .ok (.invokestatic 124, 3) := by decide +kernel
theorem dX5_best_4 : decode cX5_best 4 = .ok (.ifCond .ne 6, 3) := by decide +kernel
theorem dX5_best_7 : decode cX5_best 7 = .ok (.ldc 116, 2) := by decide +kernel
theorem dX5_best_9 : decode cX5_best 9 = .ok (.ireturn, 1) := by decide +kernel
theorem dX5_best_10 : decode cX5_best 10 = .ok (.iload_n 2, 1) := by decide +kernel
theorem dX5_best_11 : decode cX5_best 11 = .ok (.ifCond .lt 8, 3) := by decide +kernel
theorem dX5_best_14 : decode cX5_best 14 = .ok (.iload_n 2, 1) := by decide +kernel
theorem dX5_best_15 : decode cX5_best 15 = .ok (.iconst 3, 1) := by decide +kernel
theorem dX5_best_16 : decode cX5_best 16 = .ok (.if_icmp .le 6, 3) := by decide +kernel
theorem dX5_best_19 : decode cX5_best 19 = .ok (.ldc 66, 2) := by decide +kernel
theorem dX5_best_21 : decode cX5_best 21 = .ok (.ireturn, 1) := by decide +kernel
theorem dX5_best_22 : decode cX5_best 22 = .ok (.aload_n 0, 1) := by decide +kernel
theorem dX5_best_23 : decode cX5_best 23 = .ok (.getfield 62, 3) := by decide +kernel
theorem dX5_best_26 : decode cX5_best 26 = .ok (.aload_n 0, 1) := by decide +kernel
theorem dX5_best_27 : decode cX5_best 27 = .ok (.getfield 23, 3) := by decide +kernel
theorem dX5_best_30 : decode cX5_best 30 = .ok (.aload_n 0, 1) := by decide +kernel
theorem dX5_best_31 : decode cX5_best 31 = .ok (.getfield 40, 3) := by decide +kernel
theorem dX5_best_34 : decode cX5_best 34 = .ok (.iload_n 1, 1) := by decide +kernel
theorem dX5_best_35 : decode cX5_best 35 = .ok (.invokevirtual 161, 3) := by decide +kernel
theorem dX5_best_38 : decode cX5_best 38 = .ok (.aload_n 0, 1) := by decide +kernel
theorem dX5_best_39 : decode cX5_best 39 = .ok (.getfield 62, 3) := by decide +kernel
theorem dX5_best_42 : decode cX5_best 42 = .ok (.invokevirtual 182, 3) := by decide +kernel
theorem dX5_best_45 : decode cX5_best 45 = .ok (.aload_n 0, 1) := by decide +kernel
theorem dX5_best_46 : decode cX5_best 46 = .ok (.getfield 62, 3) := by decide +kernel
theorem dX5_best_49 : decode cX5_best 49 = .ok (.getfield 185, 3) := by decide +kernel
theorem dX5_best_52 : decode cX5_best 52 = .ok (.iconst (-1), 1) := by decide +kernel
theorem dX5_best_53 : decode cX5_best 53 = .ok (.if_icmp .ne 5, 3) := by decide +kernel
theorem dX5_best_56 : decode cX5_best 56 = .ok (.iconst (-1), 1) := by decide +kernel
theorem dX5_best_57 : decode cX5_best 57 = .ok (.ireturn, 1) := by decide +kernel
theorem dX5_best_58 : decode cX5_best 58 = .ok (.iload_n 2, 1) := by decide +kernel
theorem dX5_best_59 : decode cX5_best 59 = .ok (.tableswitch 63 0 2 #[25, 40, 55], 25) := by decide +kernel
theorem dX5_best_84 : decode cX5_best 84 = .ok (.aload_n 0, 1) := by decide +kernel
theorem dX5_best_85 : decode cX5_best 85 = .ok (.getfield 62, 3) := by decide +kernel
theorem dX5_best_88 : decode cX5_best 88 = .ok (.aload_n 0, 1) := by decide +kernel
theorem dX5_best_89 : decode cX5_best 89 = .ok (.getfield 62, 3) := by decide +kernel
theorem dX5_best_92 : decode cX5_best 92 = .ok (.getfield 185, 3) := by decide +kernel
theorem dX5_best_95 : decode cX5_best 95 = .ok (.invokevirtual 188, 3) := by decide +kernel
theorem dX5_best_98 : decode cX5_best 98 = .ok (.ireturn, 1) := by decide +kernel
theorem dX5_best_99 : decode cX5_best 99 = .ok (.aload_n 0, 1) := by decide +kernel
theorem dX5_best_100 : decode cX5_best 100 = .ok (.getfield 62, 3) := by decide +kernel
theorem dX5_best_103 : decode cX5_best 103 = .ok (.aload_n 0, 1) := by decide +kernel
theorem dX5_best_104 : decode cX5_best 104 = .ok (.getfield 62, 3) := by decide +kernel
theorem dX5_best_107 : decode cX5_best 107 = .ok (.getfield 185, 3) := by decide +kernel
theorem dX5_best_110 : decode cX5_best 110 = .ok (.invokevirtual 191, 3) := by decide +kernel
theorem dX5_best_113 : decode cX5_best 113 = .ok (.ireturn, 1) := by decide +kernel
theorem dX5_best_114 : decode cX5_best 114 = .ok (.aload_n 0, 1) := by decide +kernel
theorem dX5_best_115 : decode cX5_best 115 = .ok (.getfield 62, 3) := by decide +kernel
theorem dX5_best_118 : decode cX5_best 118 = .ok (.getfield 194, 3) := by decide +kernel
theorem dX5_best_121 : decode cX5_best 121 = .ok (.ireturn, 1) := by decide +kernel
theorem dX5_best_122 : decode cX5_best 122 = .ok (.aload_n 0, 1) := by decide +kernel
theorem dX5_best_123 : decode cX5_best 123 = .ok (.getfield 62, 3) := by decide +kernel
theorem dX5_best_126 : decode cX5_best 126 = .ok (.invokevirtual 197, 3) := by decide +kernel
theorem dX5_best_129 : decode cX5_best 129 = .ok (.ireturn, 1) := by decide +kernel
theorem dX5_corner_0 : decode cX5_corner 0 = .ok (.iload_n 1, 1) := by decide +kernel
theorem dX5_corner_1 : decode cX5_corner 1 = .ok (.iload_n 2, 1) := by decide +kernel
theorem dX5_corner_2 : decode cX5_corner 2 = .ok (.invokestatic 137, 3) := by decide +kernel
theorem dX5_corner_5 : decode cX5_corner 5 = .ok (.ifCond .eq 11, 3) := by decide +kernel
theorem dX5_corner_8 : decode cX5_corner 8 = .ok (.aload_n 0, 1) := by decide +kernel
theorem dX5_corner_9 : decode cX5_corner 9 = .ok (.iload_n 3, 1) := by decide +kernel
theorem dX5_corner_10 : decode cX5_corner 10 = .ok (.invokevirtual 112, 3) := by decide +kernel
theorem dX5_corner_13 : decode cX5_corner 13 = .ok (.ifCond .ne 6, 3) := by decide +kernel
theorem dX5_corner_16 : decode cX5_corner 16 = .ok (.ldc 116, 2) := by decide +kernel
theorem dX5_corner_18 : decode cX5_corner 18 = .ok (.ireturn, 1) := by decide +kernel
theorem dX5_corner_19 : decode cX5_corner 19 = .ok (.aload_n 0, 1) := by decide +kernel
theorem dX5_corner_20 : decode cX5_corner 20 = .ok (.getfield 40, 3) := by decide +kernel
theorem dX5_corner_23 : decode cX5_corner 23 = .ok (.iload_n 1, 1) := by decide +kernel
theorem dX5_corner_24 : decode cX5_corner 24 = .ok (.iload_n 2, 1) := by decide +kernel
theorem dX5_corner_25 : decode cX5_corner 25 = .ok (.iload_n 3, 1) := by decide +kernel
theorem dX5_corner_26 : decode cX5_corner 26 = .ok (.invokevirtual 141, 3) := by decide +kernel
theorem dX5_corner_29 : decode cX5_corner 29 = .ok (.ifCond .eq 6, 3) := by decide +kernel
theorem dX5_corner_32 : decode cX5_corner 32 = .ok (.ldc 133, 2) := by decide +kernel
theorem dX5_corner_34 : decode cX5_corner 34 = .ok (.ireturn, 1) := by decide +kernel
theorem dX5_corner_35 : decode cX5_corner 35 = .ok (.aload_n 0, 1) := by decide +kernel
theorem dX5_corner_36 : decode cX5_corner 36 = .ok (.getfield 62, 3) := by decide +kernel
theorem dX5_corner_39 : decode cX5_corner 39 = .ok (.aload_n 0, 1) := by decide +kernel
theorem dX5_corner_40 : decode cX5_corner 40 = .ok (.getfield 23, 3) := by decide +kernel
theorem dX5_corner_43 : decode cX5_corner 43 = .ok (.aload_n 0, 1) := by decide +kernel
theorem dX5_corner_44 : decode cX5_corner 44 = .ok (.getfield 40, 3) := by decide +kernel
theorem dX5_corner_47 : decode cX5_corner 47 = .ok (.iload_n 1, 1) := by decide +kernel
theorem dX5_corner_48 : decode cX5_corner 48 = .ok (.invokevirtual 161, 3) := by decide +kernel
theorem dX5_corner_51 : decode cX5_corner 51 = .ok (.aload_n 0, 1) := by decide +kernel
theorem dX5_corner_52 : decode cX5_corner 52 = .ok (.getfield 62, 3) := by decide +kernel
theorem dX5_corner_55 : decode cX5_corner 55 = .ok (.getfield 165, 3) := by decide +kernel
theorem dX5_corner_58 : decode cX5_corner 58 = .ok (.ifCond .ne 8, 3) := by decide +kernel
theorem dX5_corner_61 : decode cX5_corner 61 = .ok (.ldc 133, 2) := by decide +kernel
theorem dX5_corner_63 : decode cX5_corner 63 = .ok (.goto 12, 3) := by decide +kernel
theorem dX5_corner_66 : decode cX5_corner 66 = .ok (.aload_n 0, 1) := by decide +kernel
theorem dX5_corner_67 : decode cX5_corner 67 = .ok (.getfield 62, 3) := by decide +kernel
theorem dX5_corner_70 : decode cX5_corner 70 = .ok (.iload_n 2, 1) := by decide +kernel
theorem dX5_corner_71 : decode cX5_corner 71 = .ok (.iload_n 3, 1) := by decide +kernel
theorem dX5_corner_72 : decode cX5_corner 72 = .ok (.invokevirtual 200, 3) := by decide +kernel
theorem dX5_corner_75 : decode cX5_corner 75 = .ok (.ireturn, 1) := by decide +kernel
theorem dX5_bestCorner_0 : decode cX5_bestCorner 0 = .ok (.iload_n 1, 1) := by decide +kernel
theorem dX5_bestCorner_1 : decode cX5_bestCorner 1 = .ok (.invokestatic 124, 3) := by decide +kernel
theorem dX5_bestCorner_4 : decode cX5_bestCorner 4 = .ok (.ifCond .ne 6, 3) := by decide +kernel
theorem dX5_bestCorner_7 : decode cX5_bestCorner 7 = .ok (.ldc 116, 2) := by decide +kernel
theorem dX5_bestCorner_9 : decode cX5_bestCorner 9 = .ok (.ireturn, 1) := by decide +kernel
theorem dX5_bestCorner_10 : decode cX5_bestCorner 10 = .ok (.iload_n 2, 1) := by decide +kernel
theorem dX5_bestCorner_11 : decode cX5_bestCorner 11 = .ok (.ifCond .lt 8, 3) := by decide +kernel
theorem dX5_bestCorner_14 : decode cX5_bestCorner 14 = .ok (.iload_n 2, 1) := by decide +kernel
theorem dX5_bestCorner_15 : decode cX5_bestCorner 15 = .ok (.iconst 2, 1) := by decide +kernel
theorem dX5_bestCorner_16 : decode cX5_bestCorner 16 = .ok (.if_icmp .le 6, 3) := by decide +kernel
theorem dX5_bestCorner_19 : decode cX5_bestCorner 19 = .ok (.ldc 66, 2) := by decide +kernel
theorem dX5_bestCorner_21 : decode cX5_bestCorner 21 = .ok (.ireturn, 1) := by decide +kernel
theorem dX5_bestCorner_22 : decode cX5_bestCorner 22 = .ok (.aload_n 0, 1) := by decide +kernel
theorem dX5_bestCorner_23 : decode cX5_bestCorner 23 = .ok (.getfield 62, 3) := by decide +kernel
theorem dX5_bestCorner_26 : decode cX5_bestCorner 26 = .ok (.aload_n 0, 1) := by decide +kernel
theorem dX5_bestCorner_27 : decode cX5_bestCorner 27 = .ok (.getfield 23, 3) := by decide +kernel
theorem dX5_bestCorner_30 : decode cX5_bestCorner 30 = .ok (.aload_n 0, 1) := by decide +kernel
theorem dX5_bestCorner_31 : decode cX5_bestCorner 31 = .ok (.getfield 40, 3) := by decide +kernel
theorem dX5_bestCorner_34 : decode cX5_bestCorner 34 = .ok (.iload_n 1, 1) := by decide +kernel
theorem dX5_bestCorner_35 : decode cX5_bestCorner 35 = .ok (.invokevirtual 161, 3) := by decide +kernel
theorem dX5_bestCorner_38 : decode cX5_bestCorner 38 = .ok (.aload_n 0, 1) := by decide +kernel
theorem dX5_bestCorner_39 : decode cX5_bestCorner 39 = .ok (.getfield 62, 3) := by decide +kernel
theorem dX5_bestCorner_42 : decode cX5_bestCorner 42 = .ok (.getfield 165, 3) := by decide +kernel
theorem dX5_bestCorner_45 : decode cX5_bestCorner 45 = .ok (.ifCond .ne 5, 3) := by decide +kernel
theorem dX5_bestCorner_48 : decode cX5_bestCorner 48 = .ok (.iconst (-1), 1) := by decide +kernel
theorem dX5_bestCorner_49 : decode cX5_bestCorner 49 = .ok (.ireturn, 1) := by decide +kernel
theorem dX5_bestCorner_50 : decode cX5_bestCorner 50 = .ok (.iconst (-1), 1) := by decide +kernel
theorem dX5_bestCorner_51 : decode cX5_bestCorner 51 = .ok (.istore_n 3, 1) := by decide +kernel
theorem dX5_bestCorner_52 : decode cX5_bestCorner 52 = .ok (.iconst (-1), 1) := by decide +kernel
theorem dX5_bestCorner_53 : decode cX5_bestCorner 53 = .ok (.istore 4, 2) := by decide +kernel
theorem dX5_bestCorner_55 : decode cX5_bestCorner 55 = .ok (.iconst (-1), 1) := by decide +kernel
theorem dX5_bestCorner_56 : decode cX5_bestCorner 56 = .ok (.istore 5, 2) := by decide +kernel
theorem dX5_bestCorner_58 : decode cX5_bestCorner 58 = .ok (.iconst 0, 1) := by decide +kernel
theorem dX5_bestCorner_59 : decode cX5_bestCorner 59 = .ok (.istore 6, 2) := by decide +kernel
theorem dX5_bestCorner_61 : decode cX5_bestCorner 61 = .ok (.iload 6, 2) := by decide +kernel
theorem dX5_bestCorner_63 : decode cX5_bestCorner 63 = .ok (.bipush 6, 2) := by decide +kernel
theorem dX5_bestCorner_65 : decode cX5_bestCorner 65 = .ok (.if_icmp .ge 85, 3) := by decide +kernel
theorem dX5_bestCorner_68 : decode cX5_bestCorner 68 = .ok (.iconst 0, 1) := by decide +kernel
theorem dX5_bestCorner_69 : decode cX5_bestCorner 69 = .ok (.istore 7, 2) := by decide +kernel
theorem dX5_bestCorner_71 : decode cX5_bestCorner 71 = .ok (.iload 7, 2) := by decide +kernel
theorem dX5_bestCorner_73 : decode cX5_bestCorner 73 = .ok (.aload_n 0, 1) := by decide +kernel
theorem dX5_bestCorner_74 : decode cX5_bestCorner 74 = .ok (.getfield 23, 3) := by decide +kernel
theorem dX5_bestCorner_77 : decode cX5_bestCorner 77 = .ok (.getfield 75, 3) := by decide +kernel
theorem dX5_bestCorner_80 : decode cX5_bestCorner 80 = .ok (.if_icmp .ge 64, 3) := by decide +kernel
theorem dX5_bestCorner_83 : decode cX5_bestCorner 83 = .ok (.aload_n 0, 1) := by decide +kernel
theorem dX5_bestCorner_84 : decode cX5_bestCorner 84 = .ok (.getfield 40, 3) := by decide +kernel
theorem dX5_bestCorner_87 : decode cX5_bestCorner 87 = .ok (.iload_n 1, 1) := by decide +kernel
theorem dX5_bestCorner_88 : decode cX5_bestCorner 88 = .ok (.iload 6, 2) := by decide +kernel
theorem dX5_bestCorner_90 : decode cX5_bestCorner 90 = .ok (.iload 7, 2) := by decide +kernel
theorem dX5_bestCorner_92 : decode cX5_bestCorner 92 = .ok (.invokevirtual 141, 3) := by decide +kernel
theorem dX5_bestCorner_95 : decode cX5_bestCorner 95 = .ok (.ifCond .eq 6, 3) := by decide +kernel
theorem dX5_bestCorner_98 : decode cX5_bestCorner 98 = .ok (.goto 40, 3) := by decide +kernel
theorem dX5_bestCorner_101 : decode cX5_bestCorner 101 = .ok (.aload_n 0, 1) := by decide +kernel
theorem dX5_bestCorner_102 : decode cX5_bestCorner 102 = .ok (.getfield 62, 3) := by decide +kernel
theorem dX5_bestCorner_105 : decode cX5_bestCorner 105 = .ok (.iload 6, 2) := by decide +kernel
theorem dX5_bestCorner_107 : decode cX5_bestCorner 107 = .ok (.iload 7, 2) := by decide +kernel
theorem dX5_bestCorner_109 : decode cX5_bestCorner 109 = .ok (.invokevirtual 200, 3) := by decide +kernel
theorem dX5_bestCorner_112 : decode cX5_bestCorner 112 = .ok (.istore 8, 2) := by decide +kernel
theorem dX5_bestCorner_114 : decode cX5_bestCorner 114 = .ok (.iload 5, 2) := by decide +kernel
theorem dX5_bestCorner_116 : decode cX5_bestCorner 116 = .ok (.iconst (-1), 1) := by decide +kernel
theorem dX5_bestCorner_117 : decode cX5_bestCorner 117 = .ok (.if_icmp .eq 10, 3) := by decide +kernel
theorem dX5_bestCorner_120 : decode cX5_bestCorner 120 = .ok (.iload 8, 2) := by decide +kernel
theorem dX5_bestCorner_122 : decode cX5_bestCorner 122 = .ok (.iload 5, 2) := by decide +kernel
theorem dX5_bestCorner_124 : decode cX5_bestCorner 124 = .ok (.if_icmp .ge 14, 3) := by decide +kernel
theorem dX5_bestCorner_127 : decode cX5_bestCorner 127 = .ok (.iload 8, 2) := by decide +kernel
theorem dX5_bestCorner_129 : decode cX5_bestCorner 129 = .ok (.istore 5, 2) := by decide +kernel
theorem dX5_bestCorner_131 : decode cX5_bestCorner 131 = .ok (.iload 6, 2) := by decide +kernel
theorem dX5_bestCorner_133 : decode cX5_bestCorner 133 = .ok (.istore_n 3, 1) := by decide +kernel
theorem dX5_bestCorner_134 : decode cX5_bestCorner 134 = .ok (.iload 7, 2) := by decide +kernel
theorem dX5_bestCorner_136 : decode cX5_bestCorner 136 = .ok (.istore 4, 2) := by decide +kernel
theorem dX5_bestCorner_138 : decode cX5_bestCorner 138 = .ok (.iinc 7 1, 3) := by decide +kernel
theorem dX5_bestCorner_141 : decode cX5_bestCorner 141 = .ok (.goto (-70), 3) := by decide +kernel
theorem dX5_bestCorner_144 : decode cX5_bestCorner 144 = .ok (.iinc 6 1, 3) := by decide +kernel
theorem dX5_bestCorner_147 : decode cX5_bestCorner 147 = .ok (.goto (-86), 3) := by decide +kernel
theorem dX5_bestCorner_150 : decode cX5_bestCorner 150 = .ok (.iload_n 2, 1) := by decide +kernel
theorem dX5_bestCorner_151 : decode cX5_bestCorner 151 = .ok (.ifCond .ne 7, 3) := by decide +kernel
theorem dX5_bestCorner_154 : decode cX5_bestCorner 154 = .ok (.iload_n 3, 1) := by decide +kernel
theorem dX5_bestCorner_155 : decode cX5_bestCorner 155 = .ok (.goto 15, 3) := by decide +kernel
theorem dX5_bestCorner_158 : decode cX5_bestCorner 158 = .ok (.iload_n 2, 1) := by decide +kernel
theorem dX5_bestCorner_159 : decode cX5_bestCorner 159 = .ok (.iconst 1, 1) := by decide +kernel
theorem dX5_bestCorner_160 : decode cX5_bestCorner 160 = .ok (.if_icmp .ne 8, 3) := by decide +kernel
theorem dX5_bestCorner_163 : decode cX5_bestCorner 163 = .ok (.iload 4, 2) := by decide +kernel
theorem dX5_bestCorner_165 : decode cX5_bestCorner 165 = .ok (.goto 5, 3) := by decide +kernel
theorem dX5_bestCorner_168 : decode cX5_bestCorner 168 = .ok (.iload 5, 2) := by decide +kernel
theorem dX5_bestCorner_170 : decode cX5_bestCorner 170 = .ok (.ireturn, 1) := by decide +kernel
theorem dX5_spades_0 : decode cX5_spades 0 = .ok (.iload_n 1, 1) := by decide +kernel
theorem dX5_spades_1 : decode cX5_spades 1 = .ok (.invokestatic 124, 3) := by decide +kernel
theorem dX5_spades_4 : decode cX5_spades 4 = .ok (.ifCond .ne 6, 3) := by decide +kernel
theorem dX5_spades_7 : decode cX5_spades 7 = .ok (.ldc 116, 2) := by decide +kernel
theorem dX5_spades_9 : decode cX5_spades 9 = .ok (.ireturn, 1) := by decide +kernel
theorem dX5_spades_10 : decode cX5_spades 10 = .ok (.aload_n 0, 1) := by decide +kernel
theorem dX5_spades_11 : decode cX5_spades 11 = .ok (.getfield 62, 3) := by decide +kernel
theorem dX5_spades_14 : decode cX5_spades 14 = .ok (.aload_n 0, 1) := by decide +kernel
theorem dX5_spades_15 : decode cX5_spades 15 = .ok (.getfield 23, 3) := by decide +kernel
theorem dX5_spades_18 : decode cX5_spades 18 = .ok (.aload_n 0, 1) := by decide +kernel
theorem dX5_spades_19 : decode cX5_spades 19 = .ok (.getfield 40, 3) := by decide +kernel
theorem dX5_spades_22 : decode cX5_spades 22 = .ok (.iload_n 1, 1) := by decide +kernel
theorem dX5_spades_23 : decode cX5_spades 23 = .ok (.invokevirtual 161, 3) := by decide +kernel
theorem dX5_spades_26 : decode cX5_spades 26 = .ok (.aload_n 0, 1) := by decide +kernel
theorem dX5_spades_27 : decode cX5_spades 27 = .ok (.getfield 62, 3) := by decide +kernel
theorem dX5_spades_30 : decode cX5_spades 30 = .ok (.invokevirtual 204, 3) := by decide +kernel
theorem dX5_spades_33 : decode cX5_spades 33 = .ok (.ireturn, 1) := by decide +kernel
theorem dX5_found_0 : decode cX5_found 0 = .ok (.iload_n 1, 1) := by decide +kernel
theorem dX5_found_1 : decode cX5_found 1 = .ok (.invokestatic 124, 3) := by decide +kernel
theorem dX5_found_4 : decode cX5_found 4 = .ok (.ifCond .ne 6, 3) := by decide +kernel
theorem dX5_found_7 : decode cX5_found 7 = .ok (.ldc 116, 2) := by decide +kernel
theorem dX5_found_9 : decode cX5_found 9 = .ok (.ireturn, 1) := by decide +kernel
theorem dX5_found_10 : decode cX5_found 10 = .ok (.aload_n 0, 1) := by decide +kernel
theorem dX5_found_11 : decode cX5_found 11 = .ok (.getfield 62, 3) := by decide +kernel
theorem dX5_found_14 : decode cX5_found 14 = .ok (.aload_n 0, 1) := by decide +kernel
theorem dX5_found_15 : decode cX5_found 15 = .ok (.getfield 23, 3) := by decide +kernel
theorem dX5_found_18 : decode cX5_found 18 = .ok (.iload_n 1, 1) := by decide +kernel
theorem dX5_found_19 : decode cX5_found 19 = .ok (.invokevirtual 207, 3) := by decide +kernel
theorem dX5_found_22 : decode cX5_found 22 = .ok (.aload_n 0, 1) := by decide +kernel
theorem dX5_found_23 : decode cX5_found 23 = .ok (.getfield 62, 3) := by decide +kernel
theorem dX5_found_26 : decode cX5_found 26 = .ok (.getfield 165, 3) := by decide +kernel
theorem dX5_found_29 : decode cX5_found 29 = .ok (.iconst 1, 1) := by decide +kernel
theorem dX5_found_30 : decode cX5_found 30 = .ok (.if_icmp .ne 5, 3) := by decide +kernel
theorem dX5_found_33 : decode cX5_found 33 = .ok (.iconst 0, 1) := by decide +kernel
theorem dX5_found_34 : decode cX5_found 34 = .ok (.ireturn, 1) := by decide +kernel
theorem dX5_found_35 : decode cX5_found 35 = .ok (.iconst 0, 1) := by decide +kernel
theorem dX5_found_36 : decode cX5_found 36 = .ok (.istore_n 2, 1) := by decide +kernel
theorem dX5_found_37 : decode cX5_found 37 = .ok (.iconst 0, 1) := by decide +kernel
theorem dX5_found_38 : decode cX5_found 38 = .ok (.istore_n 3, 1) := by decide +kernel
theorem dX5_found_39 : decode cX5_found 39 = .ok (.iload_n 3, 1) := by decide +kernel
theorem dX5_found_40 : decode cX5_found 40 = .ok (.bipush 6, 2) := by decide +kernel
theorem dX5_found_42 : decode cX5_found 42 = .ok (.if_icmp .ge 66, 3) := by decide +kernel
theorem dX5_found_45 : decode cX5_found 45 = .ok (.iconst 0, 1) := by decide +kernel
theorem dX5_found_46 : decode cX5_found 46 = .ok (.istore 4, 2) := by decide +kernel
theorem dX5_found_48 : decode cX5_found 48 = .ok (.iload 4, 2) := by decide +kernel
theorem dX5_found_50 : decode cX5_found 50 = .ok (.aload_n 0, 1) := by decide +kernel
theorem dX5_found_51 : decode cX5_found 51 = .ok (.getfield 23, 3) := by decide +kernel
theorem dX5_found_54 : decode cX5_found 54 = .ok (.getfield 75, 3) := by decide +kernel
theorem dX5_found_57 : decode cX5_found 57 = .ok (.if_icmp .ge 45, 3) := by decide +kernel
theorem dX5_found_60 : decode cX5_found 60 = .ok (.iload_n 3, 1) := by decide +kernel
theorem dX5_found_61 : decode cX5_found 61 = .ok (.iload_n 1, 1) := by decide +kernel
theorem dX5_found_62 : decode cX5_found 62 = .ok (.if_icmp .ne 6, 3) := by decide +kernel
theorem dX5_found_65 : decode cX5_found 65 = .ok (.goto 31, 3) := by decide +kernel
theorem dX5_found_68 : decode cX5_found 68 = .ok (.iinc 2 1, 3) := by decide +kernel
theorem dX5_found_71 : decode cX5_found 71 = .ok (.aload_n 0, 1) := by decide +kernel
theorem dX5_found_72 : decode cX5_found 72 = .ok (.getfield 62, 3) := by decide +kernel
theorem dX5_found_75 : decode cX5_found 75 = .ok (.iload_n 3, 1) := by decide +kernel
theorem dX5_found_76 : decode cX5_found 76 = .ok (.iconst 1, 1) := by decide +kernel
theorem dX5_found_77 : decode cX5_found 77 = .ok (.iload 4, 2) := by decide +kernel
theorem dX5_found_79 : decode cX5_found 79 = .ok (.ishl, 1) := by decide +kernel
theorem dX5_found_80 : decode cX5_found 80 = .ok (.invokevirtual 211, 3) := by decide +kernel
theorem dX5_found_83 : decode cX5_found 83 = .ok (.aload_n 0, 1) := by decide +kernel
theorem dX5_found_84 : decode cX5_found 84 = .ok (.getfield 62, 3) := by decide +kernel
theorem dX5_found_87 : decode cX5_found 87 = .ok (.getfield 165, 3) := by decide +kernel
theorem dX5_found_90 : decode cX5_found 90 = .ok (.iconst 1, 1) := by decide +kernel
theorem dX5_found_91 : decode cX5_found 91 = .ok (.if_icmp .ne 5, 3) := by decide +kernel
theorem dX5_found_94 : decode cX5_found 94 = .ok (.iload_n 2, 1) := by decide +kernel
theorem dX5_found_95 : decode cX5_found 95 = .ok (.ireturn, 1) := by decide +kernel
theorem dX5_found_96 : decode cX5_found 96 = .ok (.iinc 4 1, 3) := by decide +kernel
theorem dX5_found_99 : decode cX5_found 99 = .ok (.goto (-51), 3) := by decide +kernel
theorem dX5_found_102 : decode cX5_found 102 = .ok (.iinc 3 1, 3) := by decide +kernel
theorem dX5_found_105 : decode cX5_found 105 = .ok (.goto (-66), 3) := by decide +kernel
theorem dX5_found_108 : decode cX5_found 108 = .ok (.iconst (-1), 1) := by decide +kernel
theorem dX5_found_109 : decode cX5_found 109 = .ok (.ireturn, 1) := by decide +kernel
theorem dX5_say_0 : decode cX5_say 0 = .ok (.iload_n 1, 1) := by decide +kernel
theorem dX5_say_1 : decode cX5_say 1 = .ok (.invokestatic 124, 3) := by decide +kernel
theorem dX5_say_4 : decode cX5_say 4 = .ok (.ifCond .eq 10, 3) := by decide +kernel
theorem dX5_say_7 : decode cX5_say 7 = .ok (.iload_n 2, 1) := by decide +kernel
theorem dX5_say_8 : decode cX5_say 8 = .ok (.invokestatic 124, 3) := by decide +kernel
theorem dX5_say_11 : decode cX5_say 11 = .ok (.ifCond .ne 6, 3) := by decide +kernel
theorem dX5_say_14 : decode cX5_say 14 = .ok (.ldc 116, 2) := by decide +kernel
theorem dX5_say_16 : decode cX5_say 16 = .ok (.ireturn, 1) := by decide +kernel
theorem dX5_say_17 : decode cX5_say 17 = .ok (.aload_n 0, 1) := by decide +kernel
theorem dX5_say_18 : decode cX5_say 18 = .ok (.getfield 55, 3) := by decide +kernel
theorem dX5_say_21 : decode cX5_say 21 = .ok (.getfield 82, 3) := by decide +kernel
theorem dX5_say_24 : decode cX5_say 24 = .ok (.bipush 20, 2) := by decide +kernel
theorem dX5_say_26 : decode cX5_say 26 = .ok (.if_icmp .lt 6, 3) := by decide +kernel
theorem dX5_say_29 : decode cX5_say 29 = .ok (.ldc 67, 2) := by decide +kernel
theorem dX5_say_31 : decode cX5_say 31 = .ok (.ireturn, 1) := by decide +kernel
theorem dX5_say_32 : decode cX5_say 32 = .ok (.aload_n 0, 1) := by decide +kernel
theorem dX5_say_33 : decode cX5_say 33 = .ok (.getfield 55, 3) := by decide +kernel
theorem dX5_say_36 : decode cX5_say 36 = .ok (.iload_n 1, 1) := by decide +kernel
theorem dX5_say_37 : decode cX5_say 37 = .ok (.iload_n 2, 1) := by decide +kernel
theorem dX5_say_38 : decode cX5_say 38 = .ok (.iload_n 3, 1) := by decide +kernel
theorem dX5_say_39 : decode cX5_say 39 = .ok (.invokevirtual 215, 3) := by decide +kernel
theorem dX5_say_42 : decode cX5_say 42 = .ok (.ireturn, 1) := by decide +kernel
theorem dX5_forget_0 : decode cX5_forget 0 = .ok (.aload_n 0, 1) := by decide +kernel
theorem dX5_forget_1 : decode cX5_forget 1 = .ok (.getfield 55, 3) := by decide +kernel
theorem dX5_forget_4 : decode cX5_forget 4 = .ok (.getfield 82, 3) := by decide +kernel
theorem dX5_forget_7 : decode cX5_forget 7 = .ok (.istore_n 1, 1) := by decide +kernel
theorem dX5_forget_8 : decode cX5_forget 8 = .ok (.aload_n 0, 1) := by decide +kernel
theorem dX5_forget_9 : decode cX5_forget 9 = .ok (.getfield 55, 3) := by decide +kernel
theorem dX5_forget_12 : decode cX5_forget 12 = .ok (.iconst 0, 1) := by decide +kernel
theorem dX5_forget_13 : decode cX5_forget 13 = .ok (.putfield 82, 3) := by decide +kernel
theorem dX5_forget_16 : decode cX5_forget 16 = .ok (.iload_n 1, 1) := by decide +kernel
theorem dX5_forget_17 : decode cX5_forget 17 = .ok (.ireturn, 1) := by decide +kernel
theorem dX5_saying_0 : decode cX5_saying 0 = .ok (.iload_n 1, 1) := by decide +kernel
theorem dX5_saying_1 : decode cX5_saying 1 = .ok (.ifCond .lt 14, 3) := by decide +kernel
theorem dX5_saying_4 : decode cX5_saying 4 = .ok (.iload_n 1, 1) := by decide +kernel
theorem dX5_saying_5 : decode cX5_saying 5 = .ok (.aload_n 0, 1) := by decide +kernel
theorem dX5_saying_6 : decode cX5_saying 6 = .ok (.getfield 55, 3) := by decide +kernel
theorem dX5_saying_9 : decode cX5_saying 9 = .ok (.getfield 82, 3) := by decide +kernel
theorem dX5_saying_12 : decode cX5_saying 12 = .ok (.if_icmp .lt 6, 3) := by decide +kernel
theorem dX5_saying_15 : decode cX5_saying 15 = .ok (.ldc 116, 2) := by decide +kernel
theorem dX5_saying_17 : decode cX5_saying 17 = .ok (.ireturn, 1) := by decide +kernel
theorem dX5_saying_18 : decode cX5_saying 18 = .ok (.iload_n 2, 1) := by decide +kernel
theorem dX5_saying_19 : decode cX5_saying 19 = .ok (.ifCond .lt 8, 3) := by decide +kernel
theorem dX5_saying_22 : decode cX5_saying 22 = .ok (.iload_n 2, 1) := by decide +kernel
theorem dX5_saying_23 : decode cX5_saying 23 = .ok (.iconst 1, 1) := by decide +kernel
theorem dX5_saying_24 : decode cX5_saying 24 = .ok (.if_icmp .le 6, 3) := by decide +kernel
theorem dX5_saying_27 : decode cX5_saying 27 = .ok (.ldc 66, 2) := by decide +kernel
theorem dX5_saying_29 : decode cX5_saying 29 = .ok (.ireturn, 1) := by decide +kernel
theorem dX5_saying_30 : decode cX5_saying 30 = .ok (.iload_n 2, 1) := by decide +kernel
theorem dX5_saying_31 : decode cX5_saying 31 = .ok (.ifCond .ne 27, 3) := by decide +kernel
theorem dX5_saying_34 : decode cX5_saying 34 = .ok (.aload_n 0, 1) := by decide +kernel
theorem dX5_saying_35 : decode cX5_saying 35 = .ok (.getfield 55, 3) := by decide +kernel
theorem dX5_saying_38 : decode cX5_saying 38 = .ok (.iload_n 1, 1) := by decide +kernel
theorem dX5_saying_39 : decode cX5_saying 39 = .ok (.aload_n 0, 1) := by decide +kernel
theorem dX5_saying_40 : decode cX5_saying 40 = .ok (.getfield 23, 3) := by decide +kernel
theorem dX5_saying_43 : decode cX5_saying 43 = .ok (.getfield 219, 3) := by decide +kernel
theorem dX5_saying_46 : decode cX5_saying 46 = .ok (.invokevirtual 222, 3) := by decide +kernel
theorem dX5_saying_49 : decode cX5_saying 49 = .ok (.ifCond .eq 7, 3) := by decide +kernel
theorem dX5_saying_52 : decode cX5_saying 52 = .ok (.iconst 1, 1) := by decide +kernel
theorem dX5_saying_53 : decode cX5_saying 53 = .ok (.goto 4, 3) := by decide +kernel
theorem dX5_saying_56 : decode cX5_saying 56 = .ok (.iconst 0, 1) := by decide +kernel
theorem dX5_saying_57 : decode cX5_saying 57 = .ok (.ireturn, 1) := by decide +kernel
theorem dX5_saying_58 : decode cX5_saying 58 = .ok (.aload_n 0, 1) := by decide +kernel
theorem dX5_saying_59 : decode cX5_saying 59 = .ok (.getfield 62, 3) := by decide +kernel
theorem dX5_saying_62 : decode cX5_saying 62 = .ok (.aload_n 0, 1) := by decide +kernel
theorem dX5_saying_63 : decode cX5_saying 63 = .ok (.getfield 23, 3) := by decide +kernel
theorem dX5_saying_66 : decode cX5_saying 66 = .ok (.aload_n 0, 1) := by decide +kernel
theorem dX5_saying_67 : decode cX5_saying 67 = .ok (.getfield 40, 3) := by decide +kernel
theorem dX5_saying_70 : decode cX5_saying 70 = .ok (.aload_n 0, 1) := by decide +kernel
theorem dX5_saying_71 : decode cX5_saying 71 = .ok (.getfield 55, 3) := by decide +kernel
theorem dX5_saying_74 : decode cX5_saying 74 = .ok (.getfield 225, 3) := by decide +kernel
theorem dX5_saying_77 : decode cX5_saying 77 = .ok (.iload_n 1, 1) := by decide +kernel
theorem dX5_saying_78 : decode cX5_saying 78 = .ok (.iaload, 1) := by decide +kernel
theorem dX5_saying_79 : decode cX5_saying 79 = .ok (.invokevirtual 161, 3) := by decide +kernel
theorem dX5_saying_82 : decode cX5_saying 82 = .ok (.aload_n 0, 1) := by decide +kernel
theorem dX5_saying_83 : decode cX5_saying 83 = .ok (.getfield 62, 3) := by decide +kernel
theorem dX5_saying_86 : decode cX5_saying 86 = .ok (.aload_n 0, 1) := by decide +kernel
theorem dX5_saying_87 : decode cX5_saying 87 = .ok (.getfield 55, 3) := by decide +kernel
theorem dX5_saying_90 : decode cX5_saying 90 = .ok (.getfield 228, 3) := by decide +kernel
theorem dX5_saying_93 : decode cX5_saying 93 = .ok (.iload_n 1, 1) := by decide +kernel
theorem dX5_saying_94 : decode cX5_saying 94 = .ok (.iaload, 1) := by decide +kernel
theorem dX5_saying_95 : decode cX5_saying 95 = .ok (.aload_n 0, 1) := by decide +kernel
theorem dX5_saying_96 : decode cX5_saying 96 = .ok (.getfield 55, 3) := by decide +kernel
theorem dX5_saying_99 : decode cX5_saying 99 = .ok (.getfield 231, 3) := by decide +kernel
theorem dX5_saying_102 : decode cX5_saying 102 = .ok (.iload_n 1, 1) := by decide +kernel
theorem dX5_saying_103 : decode cX5_saying 103 = .ok (.baload, 1) := by decide +kernel
theorem dX5_saying_104 : decode cX5_saying 104 = .ok (.invokevirtual 233, 3) := by decide +kernel
theorem dX5_saying_107 : decode cX5_saying 107 = .ok (.ireturn, 1) := by decide +kernel
theorem dX5_loudest_0 : decode cX5_loudest 0 = .ok (.aload_n 0, 1) := by decide +kernel
theorem dX5_loudest_1 : decode cX5_loudest 1 = .ok (.getfield 55, 3) := by decide +kernel
theorem dX5_loudest_4 : decode cX5_loudest 4 = .ok (.aload_n 0, 1) := by decide +kernel
theorem dX5_loudest_5 : decode cX5_loudest 5 = .ok (.getfield 23, 3) := by decide +kernel
theorem dX5_loudest_8 : decode cX5_loudest 8 = .ok (.getfield 219, 3) := by decide +kernel
theorem dX5_loudest_11 : decode cX5_loudest 11 = .ok (.invokevirtual 237, 3) := by decide +kernel
theorem dX5_loudest_14 : decode cX5_loudest 14 = .ok (.ireturn, 1) := by decide +kernel
theorem dX5_hunt_0 : decode cX5_hunt 0 = .ok (.iload_n 1, 1) := by decide +kernel
theorem dX5_hunt_1 : decode cX5_hunt 1 = .ok (.iconst 1, 1) := by decide +kernel
theorem dX5_hunt_2 : decode cX5_hunt 2 = .ok (.if_icmp .lt 9, 3) := by decide +kernel
theorem dX5_hunt_5 : decode cX5_hunt 5 = .ok (.iload_n 1, 1) := by decide +kernel
theorem dX5_hunt_6 : decode cX5_hunt 6 = .ok (.bipush 20, 2) := by decide +kernel
theorem dX5_hunt_8 : decode cX5_hunt 8 = .ok (.if_icmp .le 6, 3) := by decide +kernel
theorem dX5_hunt_11 : decode cX5_hunt 11 = .ok (.ldc 66, 2) := by decide +kernel
theorem dX5_hunt_13 : decode cX5_hunt 13 = .ok (.ireturn, 1) := by decide +kernel
theorem dX5_hunt_14 : decode cX5_hunt 14 = .ok (.aload_n 0, 1) := by decide +kernel
theorem dX5_hunt_15 : decode cX5_hunt 15 = .ok (.getfield 23, 3) := by decide +kernel
theorem dX5_hunt_18 : decode cX5_hunt 18 = .ok (.getfield 75, 3) := by decide +kernel
theorem dX5_hunt_21 : decode cX5_hunt 21 = .ok (.ifCond .eq 14, 3) := by decide +kernel
theorem dX5_hunt_24 : decode cX5_hunt 24 = .ok (.aload_n 0, 1) := by decide +kernel
theorem dX5_hunt_25 : decode cX5_hunt 25 = .ok (.getfield 40, 3) := by decide +kernel
theorem dX5_hunt_28 : decode cX5_hunt 28 = .ok (.getfield 109, 3) := by decide +kernel
theorem dX5_hunt_31 : decode cX5_hunt 31 = .ok (.iconst (-1), 1) := by decide +kernel
theorem dX5_hunt_32 : decode cX5_hunt 32 = .ok (.if_icmp .eq 6, 3) := by decide +kernel
theorem dX5_hunt_35 : decode cX5_hunt 35 = .ok (.ldc 133, 2) := by decide +kernel
theorem dX5_hunt_37 : decode cX5_hunt 37 = .ok (.ireturn, 1) := by decide +kernel
theorem dX5_hunt_38 : decode cX5_hunt 38 = .ok (.iconst 0, 1) := by decide +kernel
theorem dX5_hunt_39 : decode cX5_hunt 39 = .ok (.istore_n 2, 1) := by decide +kernel
theorem dX5_hunt_40 : decode cX5_hunt 40 = .ok (.iload_n 2, 1) := by decide +kernel
theorem dX5_hunt_41 : decode cX5_hunt 41 = .ok (.iload_n 1, 1) := by decide +kernel
theorem dX5_hunt_42 : decode cX5_hunt 42 = .ok (.if_icmp .ge 50, 3) := by decide +kernel
theorem dX5_hunt_45 : decode cX5_hunt 45 = .ok (.aload_n 0, 1) := by decide +kernel
theorem dX5_hunt_46 : decode cX5_hunt 46 = .ok (.getfield 40, 3) := by decide +kernel
theorem dX5_hunt_49 : decode cX5_hunt 49 = .ok (.getfield 109, 3) := by decide +kernel
theorem dX5_hunt_52 : decode cX5_hunt 52 = .ok (.iconst (-1), 1) := by decide +kernel
theorem dX5_hunt_53 : decode cX5_hunt 53 = .ok (.if_icmp .ne 39, 3) := by decide +kernel
theorem dX5_hunt_56 : decode cX5_hunt 56 = .ok (.iconst 0, 1) := by decide +kernel
theorem dX5_hunt_57 : decode cX5_hunt 57 = .ok (.istore_n 3, 1) := by decide +kernel
theorem dX5_hunt_58 : decode cX5_hunt 58 = .ok (.iload_n 3, 1) := by decide +kernel
theorem dX5_hunt_59 : decode cX5_hunt 59 = .ok (.bipush 6, 2) := by decide +kernel
theorem dX5_hunt_61 : decode cX5_hunt 61 = .ok (.if_icmp .ge 25, 3) := by decide +kernel
theorem dX5_hunt_64 : decode cX5_hunt 64 = .ok (.aload_n 0, 1) := by decide +kernel
theorem dX5_hunt_65 : decode cX5_hunt 65 = .ok (.getfield 40, 3) := by decide +kernel
theorem dX5_hunt_68 : decode cX5_hunt 68 = .ok (.getfield 109, 3) := by decide +kernel
theorem dX5_hunt_71 : decode cX5_hunt 71 = .ok (.iconst (-1), 1) := by decide +kernel
theorem dX5_hunt_72 : decode cX5_hunt 72 = .ok (.if_icmp .ne 14, 3) := by decide +kernel
theorem dX5_hunt_75 : decode cX5_hunt 75 = .ok (.aload_n 0, 1) := by decide +kernel
theorem dX5_hunt_76 : decode cX5_hunt 76 = .ok (.iload_n 3, 1) := by decide +kernel
theorem dX5_hunt_77 : decode cX5_hunt 77 = .ok (.invokevirtual 240, 3) := by decide +kernel
theorem dX5_hunt_80 : decode cX5_hunt 80 = .ok (.iinc 3 1, 3) := by decide +kernel
theorem dX5_hunt_83 : decode cX5_hunt 83 = .ok (.goto (-25), 3) := by decide +kernel
theorem dX5_hunt_86 : decode cX5_hunt 86 = .ok (.iinc 2 1, 3) := by decide +kernel
theorem dX5_hunt_89 : decode cX5_hunt 89 = .ok (.goto (-49), 3) := by decide +kernel
theorem dX5_hunt_92 : decode cX5_hunt 92 = .ok (.aload_n 0, 1) := by decide +kernel
theorem dX5_hunt_93 : decode cX5_hunt 93 = .ok (.getfield 40, 3) := by decide +kernel
theorem dX5_hunt_96 : decode cX5_hunt 96 = .ok (.getfield 109, 3) := by decide +kernel
theorem dX5_hunt_99 : decode cX5_hunt 99 = .ok (.ireturn, 1) := by decide +kernel
theorem dX5_seed_0 : decode cX5_seed 0 = .ok (.iload_n 1, 1) := by decide +kernel
theorem dX5_seed_1 : decode cX5_seed 1 = .ok (.ifCond .ge 6, 3) := by decide +kernel
theorem dX5_seed_4 : decode cX5_seed 4 = .ok (.ldc 66, 2) := by decide +kernel
theorem dX5_seed_6 : decode cX5_seed 6 = .ok (.ireturn, 1) := by decide +kernel
theorem dX5_seed_7 : decode cX5_seed 7 = .ok (.aload_n 0, 1) := by decide +kernel
theorem dX5_seed_8 : decode cX5_seed 8 = .ok (.getfield 40, 3) := by decide +kernel
theorem dX5_seed_11 : decode cX5_seed 11 = .ok (.getfield 243, 3) := by decide +kernel
theorem dX5_seed_14 : decode cX5_seed 14 = .ok (.istore_n 2, 1) := by decide +kernel
theorem dX5_seed_15 : decode cX5_seed 15 = .ok (.aload_n 0, 1) := by decide +kernel
theorem dX5_seed_16 : decode cX5_seed 16 = .ok (.getfield 40, 3) := by decide +kernel
theorem dX5_seed_19 : decode cX5_seed 19 = .ok (.iload_n 1, 1) := by decide +kernel
theorem dX5_seed_20 : decode cX5_seed 20 = .ok (.putfield 243, 3) := by decide +kernel
theorem dX5_seed_23 : decode cX5_seed 23 = .ok (.iload_n 2, 1) := by decide +kernel
theorem dX5_seed_24 : decode cX5_seed 24 = .ok (.ireturn, 1) := by decide +kernel
theorem dX5_keep_0 : decode cX5_keep 0 = .ok (.iload_n 1, 1) := by decide +kernel
theorem dX5_keep_1 : decode cX5_keep 1 = .ok (.ifCond .lt 8, 3) := by decide +kernel
theorem dX5_keep_4 : decode cX5_keep 4 = .ok (.iload_n 1, 1) := by decide +kernel
theorem dX5_keep_5 : decode cX5_keep 5 = .ok (.iconst 2, 1) := by decide +kernel
theorem dX5_keep_6 : decode cX5_keep 6 = .ok (.if_icmp .lt 6, 3) := by decide +kernel
theorem dX5_keep_9 : decode cX5_keep 9 = .ok (.ldc 116, 2) := by decide +kernel
theorem dX5_keep_11 : decode cX5_keep 11 = .ok (.ireturn, 1) := by decide +kernel
theorem dX5_keep_12 : decode cX5_keep 12 = .ok (.aload_n 0, 1) := by decide +kernel
theorem dX5_keep_13 : decode cX5_keep 13 = .ok (.getfield 44, 3) := by decide +kernel
theorem dX5_keep_16 : decode cX5_keep 16 = .ok (.iload_n 1, 1) := by decide +kernel
theorem dX5_keep_17 : decode cX5_keep 17 = .ok (.aaload, 1) := by decide +kernel
theorem dX5_keep_18 : decode cX5_keep 18 = .ok (.aload_n 0, 1) := by decide +kernel
theorem dX5_keep_19 : decode cX5_keep 19 = .ok (.getfield 40, 3) := by decide +kernel
theorem dX5_keep_22 : decode cX5_keep 22 = .ok (.invokevirtual 246, 3) := by decide +kernel
theorem dX5_keep_25 : decode cX5_keep 25 = .ok (.aload_n 0, 1) := by decide +kernel
theorem dX5_keep_26 : decode cX5_keep 26 = .ok (.getfield 48, 3) := by decide +kernel
theorem dX5_keep_29 : decode cX5_keep 29 = .ok (.iload_n 1, 1) := by decide +kernel
theorem dX5_keep_30 : decode cX5_keep 30 = .ok (.iconst 1, 1) := by decide +kernel
theorem dX5_keep_31 : decode cX5_keep 31 = .ok (.bastore, 1) := by decide +kernel
theorem dX5_keep_32 : decode cX5_keep 32 = .ok (.iconst 1, 1) := by decide +kernel
theorem dX5_keep_33 : decode cX5_keep 33 = .ok (.ireturn, 1) := by decide +kernel
theorem dX5_goBack_0 : decode cX5_goBack 0 = .ok (.iload_n 1, 1) := by decide +kernel
theorem dX5_goBack_1 : decode cX5_goBack 1 = .ok (.ifCond .lt 8, 3) := by decide +kernel
theorem dX5_goBack_4 : decode cX5_goBack 4 = .ok (.iload_n 1, 1) := by decide +kernel
theorem dX5_goBack_5 : decode cX5_goBack 5 = .ok (.iconst 2, 1) := by decide +kernel
theorem dX5_goBack_6 : decode cX5_goBack 6 = .ok (.if_icmp .lt 6, 3) := by decide +kernel
theorem dX5_goBack_9 : decode cX5_goBack 9 = .ok (.ldc 116, 2) := by decide +kernel
theorem dX5_goBack_11 : decode cX5_goBack 11 = .ok (.ireturn, 1) := by decide +kernel
theorem dX5_goBack_12 : decode cX5_goBack 12 = .ok (.aload_n 0, 1) := by decide +kernel
theorem dX5_goBack_13 : decode cX5_goBack 13 = .ok (.getfield 48, 3) := by decide +kernel
theorem dX5_goBack_16 : decode cX5_goBack 16 = .ok (.iload_n 1, 1) := by decide +kernel
theorem dX5_goBack_17 : decode cX5_goBack 17 = .ok (.baload, 1) := by decide +kernel
theorem dX5_goBack_18 : decode cX5_goBack 18 = .ok (.ifCond .ne 6, 3) := by decide +kernel
theorem dX5_goBack_21 : decode cX5_goBack 21 = .ok (.ldc 133, 2) := by decide +kernel
theorem dX5_goBack_23 : decode cX5_goBack 23 = .ok (.ireturn, 1) := by decide +kernel
theorem dX5_goBack_24 : decode cX5_goBack 24 = .ok (.aload_n 0, 1) := by decide +kernel
theorem dX5_goBack_25 : decode cX5_goBack 25 = .ok (.getfield 40, 3) := by decide +kernel
theorem dX5_goBack_28 : decode cX5_goBack 28 = .ok (.aload_n 0, 1) := by decide +kernel
theorem dX5_goBack_29 : decode cX5_goBack 29 = .ok (.getfield 44, 3) := by decide +kernel
theorem dX5_goBack_32 : decode cX5_goBack 32 = .ok (.iload_n 1, 1) := by decide +kernel
theorem dX5_goBack_33 : decode cX5_goBack 33 = .ok (.aaload, 1) := by decide +kernel
theorem dX5_goBack_34 : decode cX5_goBack 34 = .ok (.invokevirtual 246, 3) := by decide +kernel
theorem dX5_goBack_37 : decode cX5_goBack 37 = .ok (.iconst 1, 1) := by decide +kernel
theorem dX5_goBack_38 : decode cX5_goBack 38 = .ok (.ireturn, 1) := by decide +kernel
theorem dX5_isBand_0 : decode cX5_isBand 0 = .ok (.iload_n 0, 1) := by decide +kernel
theorem dX5_isBand_1 : decode cX5_isBand 1 = .ok (.ifCond .lt 13, 3) := by decide +kernel
theorem dX5_isBand_4 : decode cX5_isBand 4 = .ok (.iload_n 0, 1) := by decide +kernel
theorem dX5_isBand_5 : decode cX5_isBand 5 = .ok (.bipush 6, 2) := by decide +kernel
theorem dX5_isBand_7 : decode cX5_isBand 7 = .ok (.if_icmp .ge 7, 3) := by decide +kernel
theorem dX5_isBand_10 : decode cX5_isBand 10 = .ok (.iconst 1, 1) := by decide +kernel
theorem dX5_isBand_11 : decode cX5_isBand 11 = .ok (.goto 4, 3) := by decide +kernel
theorem dX5_isBand_14 : decode cX5_isBand 14 = .ok (.iconst 0, 1) := by decide +kernel
theorem dX5_isBand_15 : decode cX5_isBand 15 = .ok (.ireturn, 1) := by decide +kernel
theorem dX5_areTwoBands_0 : decode cX5_areTwoBands 0 = .ok (.iload_n 0, 1) := by decide +kernel
theorem dX5_areTwoBands_1 : decode cX5_areTwoBands 1 = .ok (.invokestatic 124, 3) := by decide +kernel
theorem dX5_areTwoBands_4 : decode cX5_areTwoBands 4 = .ok (.ifCond .eq 19, 3) := by decide +kernel
theorem dX5_areTwoBands_7 : decode cX5_areTwoBands 7 = .ok (.iload_n 1, 1) := by decide +kernel
theorem dX5_areTwoBands_8 : decode cX5_areTwoBands 8 = .ok (.invokestatic 124, 3) := by decide +kernel
theorem dX5_areTwoBands_11 : decode cX5_areTwoBands 11 = .ok (.ifCond .eq 12, 3) := by decide +kernel
theorem dX5_areTwoBands_14 : decode cX5_areTwoBands 14 = .ok (.iload_n 0, 1) := by decide +kernel
theorem dX5_areTwoBands_15 : decode cX5_areTwoBands 15 = .ok (.iload_n 1, 1) := by decide +kernel
theorem dX5_areTwoBands_16 : decode cX5_areTwoBands 16 = .ok (.if_icmp .eq 7, 3) := by decide +kernel
theorem dX5_areTwoBands_19 : decode cX5_areTwoBands 19 = .ok (.iconst 1, 1) := by decide +kernel
theorem dX5_areTwoBands_20 : decode cX5_areTwoBands 20 = .ok (.goto 4, 3) := by decide +kernel
theorem dX5_areTwoBands_23 : decode cX5_areTwoBands 23 = .ok (.iconst 0, 1) := by decide +kernel
theorem dX5_areTwoBands_24 : decode cX5_areTwoBands 24 = .ok (.ireturn, 1) := by decide +kernel
theorem dX5_isMark_0 : decode cX5_isMark 0 = .ok (.iload_n 1, 1) := by decide +kernel
theorem dX5_isMark_1 : decode cX5_isMark 1 = .ok (.ifCond .lt 18, 3) := by decide +kernel
theorem dX5_isMark_4 : decode cX5_isMark 4 = .ok (.iload_n 1, 1) := by decide +kernel
theorem dX5_isMark_5 : decode cX5_isMark 5 = .ok (.aload_n 0, 1) := by decide +kernel
theorem dX5_isMark_6 : decode cX5_isMark 6 = .ok (.getfield 23, 3) := by decide +kernel
theorem dX5_isMark_9 : decode cX5_isMark 9 = .ok (.getfield 75, 3) := by decide +kernel
theorem dX5_isMark_12 : decode cX5_isMark 12 = .ok (.if_icmp .ge 7, 3) := by decide +kernel
theorem dX5_isMark_15 : decode cX5_isMark 15 = .ok (.iconst 1, 1) := by decide +kernel
theorem dX5_isMark_16 : decode cX5_isMark 16 = .ok (.goto 4, 3) := by decide +kernel
theorem dX5_isMark_19 : decode cX5_isMark 19 = .ok (.iconst 0, 1) := by decide +kernel
theorem dX5_isMark_20 : decode cX5_isMark 20 = .ok (.ireturn, 1) := by decide +kernel
theorem dX5_isIn_0 : decode cX5_isIn 0 = .ok (.iload_n 0, 1) := by decide +kernel
theorem dX5_isIn_1 : decode cX5_isIn 1 = .ok (.iload_n 1, 1) := by decide +kernel
theorem dX5_isIn_2 : decode cX5_isIn 2 = .ok (.ishr, 1) := by decide +kernel
theorem dX5_isIn_3 : decode cX5_isIn 3 = .ok (.iconst 1, 1) := by decide +kernel
theorem dX5_isIn_4 : decode cX5_isIn 4 = .ok (.iand, 1) := by decide +kernel
theorem dX5_isIn_5 : decode cX5_isIn 5 = .ok (.ifCond .eq 7, 3) := by decide +kernel
theorem dX5_isIn_8 : decode cX5_isIn 8 = .ok (.iconst 1, 1) := by decide +kernel
theorem dX5_isIn_9 : decode cX5_isIn 9 = .ok (.goto 4, 3) := by decide +kernel
theorem dX5_isIn_12 : decode cX5_isIn 12 = .ok (.iconst 0, 1) := by decide +kernel
theorem dX5_isIn_13 : decode cX5_isIn 13 = .ok (.ireturn, 1) := by decide +kernel
theorem dX5_digAt_0 : decode cX5_digAt 0 = .ok (.aload_n 0, 1) := by decide +kernel
theorem dX5_digAt_1 : decode cX5_digAt 1 = .ok (.getfield 40, 3) := by decide +kernel
theorem dX5_digAt_4 : decode cX5_digAt 4 = .ok (.getfield 158, 3) := by decide +kernel
theorem dX5_digAt_7 : decode cX5_digAt 7 = .ok (.iload_n 1, 1) := by decide +kernel
theorem dX5_digAt_8 : decode cX5_digAt 8 = .ok (.dup2, 1) := by decide +kernel
theorem dX5_digAt_9 : decode cX5_digAt 9 = .ok (.iaload, 1) := by decide +kernel
theorem dX5_digAt_10 : decode cX5_digAt 10 = .ok (.aload_n 0, 1) := by decide +kernel
theorem dX5_digAt_11 : decode cX5_digAt 11 = .ok (.getfield 23, 3) := by decide +kernel
theorem dX5_digAt_14 : decode cX5_digAt 14 = .ok (.getfield 100, 3) := by decide +kernel
theorem dX5_digAt_17 : decode cX5_digAt 17 = .ok (.isub, 1) := by decide +kernel
theorem dX5_digAt_18 : decode cX5_digAt 18 = .ok (.iastore, 1) := by decide +kernel
theorem dX5_digAt_19 : decode cX5_digAt 19 = .ok (.iload_n 2, 1) := by decide +kernel
theorem dX5_digAt_20 : decode cX5_digAt 20 = .ok (.aload_n 0, 1) := by decide +kernel
theorem dX5_digAt_21 : decode cX5_digAt 21 = .ok (.getfield 23, 3) := by decide +kernel
theorem dX5_digAt_24 : decode cX5_digAt 24 = .ok (.invokevirtual 250, 3) := by decide +kernel
theorem dX5_digAt_27 : decode cX5_digAt 27 = .ok (.if_icmp .ne 44, 3) := by decide +kernel
theorem dX5_digAt_30 : decode cX5_digAt 30 = .ok (.iload_n 3, 1) := by decide +kernel
theorem dX5_digAt_31 : decode cX5_digAt 31 = .ok (.aload_n 0, 1) := by decide +kernel
theorem dX5_digAt_32 : decode cX5_digAt 32 = .ok (.getfield 23, 3) := by decide +kernel
theorem dX5_digAt_35 : decode cX5_digAt 35 = .ok (.invokevirtual 253, 3) := by decide +kernel
theorem dX5_digAt_38 : decode cX5_digAt 38 = .ok (.if_icmp .ne 33, 3) := by decide +kernel
theorem dX5_digAt_41 : decode cX5_digAt 41 = .ok (.aload_n 0, 1) := by decide +kernel
theorem dX5_digAt_42 : decode cX5_digAt 42 = .ok (.getfield 40, 3) := by decide +kernel
theorem dX5_digAt_45 : decode cX5_digAt 45 = .ok (.getfield 158, 3) := by decide +kernel
theorem dX5_digAt_48 : decode cX5_digAt 48 = .ok (.iload_n 1, 1) := by decide +kernel
theorem dX5_digAt_49 : decode cX5_digAt 49 = .ok (.dup2, 1) := by decide +kernel
theorem dX5_digAt_50 : decode cX5_digAt 50 = .ok (.iaload, 1) := by decide +kernel
theorem dX5_digAt_51 : decode cX5_digAt 51 = .ok (.aload_n 0, 1) := by decide +kernel
theorem dX5_digAt_52 : decode cX5_digAt 52 = .ok (.getfield 23, 3) := by decide +kernel
theorem dX5_digAt_55 : decode cX5_digAt 55 = .ok (.getfield 103, 3) := by decide +kernel
theorem dX5_digAt_58 : decode cX5_digAt 58 = .ok (.iadd, 1) := by decide +kernel
theorem dX5_digAt_59 : decode cX5_digAt 59 = .ok (.iastore, 1) := by decide +kernel
theorem dX5_digAt_60 : decode cX5_digAt 60 = .ok (.aload_n 0, 1) := by decide +kernel
theorem dX5_digAt_61 : decode cX5_digAt 61 = .ok (.getfield 40, 3) := by decide +kernel
theorem dX5_digAt_64 : decode cX5_digAt 64 = .ok (.iload_n 1, 1) := by decide +kernel
theorem dX5_digAt_65 : decode cX5_digAt 65 = .ok (.putfield 109, 3) := by decide +kernel
theorem dX5_digAt_68 : decode cX5_digAt 68 = .ok (.goto 60, 3) := by decide +kernel
theorem dX5_digAt_71 : decode cX5_digAt 71 = .ok (.aload_n 0, 1) := by decide +kernel
theorem dX5_digAt_72 : decode cX5_digAt 72 = .ok (.getfield 40, 3) := by decide +kernel
theorem dX5_digAt_75 : decode cX5_digAt 75 = .ok (.getfield 106, 3) := by decide +kernel
theorem dX5_digAt_78 : decode cX5_digAt 78 = .ok (.bipush 20, 2) := by decide +kernel
theorem dX5_digAt_80 : decode cX5_digAt 80 = .ok (.if_icmp .ge 48, 3) := by decide +kernel
theorem dX5_digAt_83 : decode cX5_digAt 83 = .ok (.aload_n 0, 1) := by decide +kernel
theorem dX5_digAt_84 : decode cX5_digAt 84 = .ok (.getfield 40, 3) := by decide +kernel
theorem dX5_digAt_87 : decode cX5_digAt 87 = .ok (.getfield 256, 3) := by decide +kernel
theorem dX5_digAt_90 : decode cX5_digAt 90 = .ok (.aload_n 0, 1) := by decide +kernel
theorem dX5_digAt_91 : decode cX5_digAt 91 = .ok (.getfield 40, 3) := by decide +kernel
theorem dX5_digAt_94 : decode cX5_digAt 94 = .ok (.getfield 106, 3) := by decide +kernel
theorem dX5_digAt_97 : decode cX5_digAt 97 = .ok (.iload_n 2, 1) := by decide +kernel
theorem dX5_digAt_98 : decode cX5_digAt 98 = .ok (.iastore, 1) := by decide +kernel
theorem dX5_digAt_99 : decode cX5_digAt 99 = .ok (.aload_n 0, 1) := by decide +kernel
theorem dX5_digAt_100 : decode cX5_digAt 100 = .ok (.getfield 40, 3) := by decide +kernel
theorem dX5_digAt_103 : decode cX5_digAt 103 = .ok (.getfield 259, 3) := by decide +kernel
theorem dX5_digAt_106 : decode cX5_digAt 106 = .ok (.aload_n 0, 1) := by decide +kernel
theorem dX5_digAt_107 : decode cX5_digAt 107 = .ok (.getfield 40, 3) := by decide +kernel
theorem dX5_digAt_110 : decode cX5_digAt 110 = .ok (.getfield 106, 3) := by decide +kernel
theorem dX5_digAt_113 : decode cX5_digAt 113 = .ok (.iload_n 3, 1) := by decide +kernel
theorem dX5_digAt_114 : decode cX5_digAt 114 = .ok (.iastore, 1) := by decide +kernel
theorem dX5_digAt_115 : decode cX5_digAt 115 = .ok (.aload_n 0, 1) := by decide +kernel
theorem dX5_digAt_116 : decode cX5_digAt 116 = .ok (.getfield 40, 3) := by decide +kernel
theorem dX5_digAt_119 : decode cX5_digAt 119 = .ok (.dup, 1) := by decide +kernel
theorem dX5_digAt_120 : decode cX5_digAt 120 = .ok (.getfield 106, 3) := by decide +kernel
theorem dX5_digAt_123 : decode cX5_digAt 123 = .ok (.iconst 1, 1) := by decide +kernel
theorem dX5_digAt_124 : decode cX5_digAt 124 = .ok (.iadd, 1) := by decide +kernel
theorem dX5_digAt_125 : decode cX5_digAt 125 = .ok (.putfield 106, 3) := by decide +kernel
theorem dX5_digAt_128 : decode cX5_digAt 128 = .ok (.return_, 1) := by decide +kernel
theorem dX5_takeTurn_0 : decode cX5_takeTurn 0 = .ok (.aload_n 0, 1) := by decide +kernel
theorem dX5_takeTurn_1 : decode cX5_takeTurn 1 = .ok (.getfield 62, 3) := by decide +kernel
theorem dX5_takeTurn_4 : decode cX5_takeTurn 4 = .ok (.aload_n 0, 1) := by decide +kernel
theorem dX5_takeTurn_5 : decode cX5_takeTurn 5 = .ok (.getfield 23, 3) := by decide +kernel
theorem dX5_takeTurn_8 : decode cX5_takeTurn 8 = .ok (.aload_n 0, 1) := by decide +kernel
theorem dX5_takeTurn_9 : decode cX5_takeTurn 9 = .ok (.getfield 40, 3) := by decide +kernel
theorem dX5_takeTurn_12 : decode cX5_takeTurn 12 = .ok (.iload_n 1, 1) := by decide +kernel
theorem dX5_takeTurn_13 : decode cX5_takeTurn 13 = .ok (.invokevirtual 161, 3) := by decide +kernel
theorem dX5_takeTurn_16 : decode cX5_takeTurn 16 = .ok (.aload_n 0, 1) := by decide +kernel
theorem dX5_takeTurn_17 : decode cX5_takeTurn 17 = .ok (.getfield 62, 3) := by decide +kernel
theorem dX5_takeTurn_20 : decode cX5_takeTurn 20 = .ok (.invokevirtual 182, 3) := by decide +kernel
theorem dX5_takeTurn_23 : decode cX5_takeTurn 23 = .ok (.aload_n 0, 1) := by decide +kernel
theorem dX5_takeTurn_24 : decode cX5_takeTurn 24 = .ok (.getfield 62, 3) := by decide +kernel
theorem dX5_takeTurn_27 : decode cX5_takeTurn 27 = .ok (.getfield 185, 3) := by decide +kernel
theorem dX5_takeTurn_30 : decode cX5_takeTurn 30 = .ok (.iconst (-1), 1) := by decide +kernel
theorem dX5_takeTurn_31 : decode cX5_takeTurn 31 = .ok (.if_icmp .eq 49, 3) := by decide +kernel
theorem dX5_takeTurn_34 : decode cX5_takeTurn 34 = .ok (.aload_n 0, 1) := by decide +kernel
theorem dX5_takeTurn_35 : decode cX5_takeTurn 35 = .ok (.getfield 62, 3) := by decide +kernel
theorem dX5_takeTurn_38 : decode cX5_takeTurn 38 = .ok (.invokevirtual 197, 3) := by decide +kernel
theorem dX5_takeTurn_41 : decode cX5_takeTurn 41 = .ok (.ifCond .le 39, 3) := by decide +kernel
theorem dX5_takeTurn_44 : decode cX5_takeTurn 44 = .ok (.aload_n 0, 1) := by decide +kernel
theorem dX5_takeTurn_45 : decode cX5_takeTurn 45 = .ok (.iload_n 1, 1) := by decide +kernel
theorem dX5_takeTurn_46 : decode cX5_takeTurn 46 = .ok (.aload_n 0, 1) := by decide +kernel
theorem dX5_takeTurn_47 : decode cX5_takeTurn 47 = .ok (.getfield 62, 3) := by decide +kernel
theorem dX5_takeTurn_50 : decode cX5_takeTurn 50 = .ok (.aload_n 0, 1) := by decide +kernel
theorem dX5_takeTurn_51 : decode cX5_takeTurn 51 = .ok (.getfield 62, 3) := by decide +kernel
theorem dX5_takeTurn_54 : decode cX5_takeTurn 54 = .ok (.getfield 185, 3) := by decide +kernel
theorem dX5_takeTurn_57 : decode cX5_takeTurn 57 = .ok (.invokevirtual 188, 3) := by decide +kernel
theorem dX5_takeTurn_60 : decode cX5_takeTurn 60 = .ok (.aload_n 0, 1) := by decide +kernel
theorem dX5_takeTurn_61 : decode cX5_takeTurn 61 = .ok (.getfield 62, 3) := by decide +kernel
theorem dX5_takeTurn_64 : decode cX5_takeTurn 64 = .ok (.aload_n 0, 1) := by decide +kernel
theorem dX5_takeTurn_65 : decode cX5_takeTurn 65 = .ok (.getfield 62, 3) := by decide +kernel
theorem dX5_takeTurn_68 : decode cX5_takeTurn 68 = .ok (.getfield 185, 3) := by decide +kernel
theorem dX5_takeTurn_71 : decode cX5_takeTurn 71 = .ok (.invokevirtual 191, 3) := by decide +kernel
theorem dX5_takeTurn_74 : decode cX5_takeTurn 74 = .ok (.invokevirtual 155, 3) := by decide +kernel
theorem dX5_takeTurn_77 : decode cX5_takeTurn 77 = .ok (.goto 8, 3) := by decide +kernel
theorem dX5_takeTurn_80 : decode cX5_takeTurn 80 = .ok (.aload_n 0, 1) := by decide +kernel
theorem dX5_takeTurn_81 : decode cX5_takeTurn 81 = .ok (.iload_n 1, 1) := by decide +kernel
theorem dX5_takeTurn_82 : decode cX5_takeTurn 82 = .ok (.invokevirtual 262, 3) := by decide +kernel
theorem dX5_takeTurn_85 : decode cX5_takeTurn 85 = .ok (.return_, 1) := by decide +kernel
theorem dX5_tradeByDraws_0 : decode cX5_tradeByDraws 0 = .ok (.aload_n 0, 1) := by decide +kernel
theorem dX5_tradeByDraws_1 : decode cX5_tradeByDraws 1 = .ok (.getfield 40, 3) := by decide +kernel
theorem dX5_tradeByDraws_4 : decode cX5_tradeByDraws 4 = .ok (.iconst 5, 1) := by decide +kernel
theorem dX5_tradeByDraws_5 : decode cX5_tradeByDraws 5 = .ok (.invokevirtual 265, 3) := by decide +kernel
theorem dX5_tradeByDraws_8 : decode cX5_tradeByDraws 8 = .ok (.istore_n 2, 1) := by decide +kernel
theorem dX5_tradeByDraws_9 : decode cX5_tradeByDraws 9 = .ok (.iload_n 2, 1) := by decide +kernel
theorem dX5_tradeByDraws_10 : decode cX5_tradeByDraws 10 = .ok (.iload_n 1, 1) := by decide +kernel
theorem dX5_tradeByDraws_11 : decode cX5_tradeByDraws 11 = .ok (.if_icmp .lt 6, 3) := by decide +kernel
theorem dX5_tradeByDraws_14 : decode cX5_tradeByDraws 14 = .ok (.iinc 2 1, 3) := by decide +kernel
theorem dX5_tradeByDraws_17 : decode cX5_tradeByDraws 17 = .ok (.aload_n 0, 1) := by decide +kernel
theorem dX5_tradeByDraws_18 : decode cX5_tradeByDraws 18 = .ok (.getfield 40, 3) := by decide +kernel
theorem dX5_tradeByDraws_21 : decode cX5_tradeByDraws 21 = .ok (.aload_n 0, 1) := by decide +kernel
theorem dX5_tradeByDraws_22 : decode cX5_tradeByDraws 22 = .ok (.getfield 23, 3) := by decide +kernel
theorem dX5_tradeByDraws_25 : decode cX5_tradeByDraws 25 = .ok (.getfield 75, 3) := by decide +kernel
theorem dX5_tradeByDraws_28 : decode cX5_tradeByDraws 28 = .ok (.invokevirtual 265, 3) := by decide +kernel
theorem dX5_tradeByDraws_31 : decode cX5_tradeByDraws 31 = .ok (.istore_n 3, 1) := by decide +kernel
theorem dX5_tradeByDraws_32 : decode cX5_tradeByDraws 32 = .ok (.aload_n 0, 1) := by decide +kernel
theorem dX5_tradeByDraws_33 : decode cX5_tradeByDraws 33 = .ok (.getfield 40, 3) := by decide +kernel
theorem dX5_tradeByDraws_36 : decode cX5_tradeByDraws 36 = .ok (.aload_n 0, 1) := by decide +kernel
theorem dX5_tradeByDraws_37 : decode cX5_tradeByDraws 37 = .ok (.getfield 23, 3) := by decide +kernel
theorem dX5_tradeByDraws_40 : decode cX5_tradeByDraws 40 = .ok (.getfield 75, 3) := by decide +kernel
theorem dX5_tradeByDraws_43 : decode cX5_tradeByDraws 43 = .ok (.invokevirtual 265, 3) := by decide +kernel
theorem dX5_tradeByDraws_46 : decode cX5_tradeByDraws 46 = .ok (.istore 4, 2) := by decide +kernel
theorem dX5_tradeByDraws_48 : decode cX5_tradeByDraws 48 = .ok (.aload_n 0, 1) := by decide +kernel
theorem dX5_tradeByDraws_49 : decode cX5_tradeByDraws 49 = .ok (.getfield 40, 3) := by decide +kernel
theorem dX5_tradeByDraws_52 : decode cX5_tradeByDraws 52 = .ok (.iload_n 2, 1) := by decide +kernel
theorem dX5_tradeByDraws_53 : decode cX5_tradeByDraws 53 = .ok (.iload_n 1, 1) := by decide +kernel
theorem dX5_tradeByDraws_54 : decode cX5_tradeByDraws 54 = .ok (.iload_n 3, 1) := by decide +kernel
theorem dX5_tradeByDraws_55 : decode cX5_tradeByDraws 55 = .ok (.invokevirtual 145, 3) := by decide +kernel
theorem dX5_tradeByDraws_58 : decode cX5_tradeByDraws 58 = .ok (.aload_n 0, 1) := by decide +kernel
theorem dX5_tradeByDraws_59 : decode cX5_tradeByDraws 59 = .ok (.getfield 40, 3) := by decide +kernel
theorem dX5_tradeByDraws_62 : decode cX5_tradeByDraws 62 = .ok (.iload_n 1, 1) := by decide +kernel
theorem dX5_tradeByDraws_63 : decode cX5_tradeByDraws 63 = .ok (.iload_n 2, 1) := by decide +kernel
theorem dX5_tradeByDraws_64 : decode cX5_tradeByDraws 64 = .ok (.iload 4, 2) := by decide +kernel
theorem dX5_tradeByDraws_66 : decode cX5_tradeByDraws 66 = .ok (.invokevirtual 145, 3) := by decide +kernel
theorem dX5_tradeByDraws_69 : decode cX5_tradeByDraws 69 = .ok (.return_, 1) := by decide +kernel
theorem dX6_init_0 : decode cX6_init 0 = .ok (.aload_n 0, 1) := by decide +kernel
theorem dX6_init_1 : decode cX6_init 1 = .ok (.invokespecial 1, 3) := by decide +kernel
theorem dX6_init_4 : decode cX6_init 4 = .ok (.aload_n 0, 1) := by decide +kernel
theorem dX6_init_5 : decode cX6_init 5 = .ok (.bipush 9, 2) := by decide +kernel
theorem dX6_init_7 : decode cX6_init 7 = .ok (.newarray .int, 2) := by decide +kernel
theorem dX6_init_9 : decode cX6_init 9 = .ok (.putfield 7, 3) := by decide +kernel
theorem dX6_init_12 : decode cX6_init 12 = .ok (.aload_n 0, 1) := by decide +kernel
theorem dX6_init_13 : decode cX6_init 13 = .ok (.bipush 9, 2) := by decide +kernel
theorem dX6_init_15 : decode cX6_init 15 = .ok (.newarray .int, 2) := by decide +kernel
theorem dX6_init_17 : decode cX6_init 17 = .ok (.putfield 13, 3) := by decide +kernel
theorem dX6_init_20 : decode cX6_init 20 = .ok (.aload_n 0, 1) := by decide +kernel
theorem dX6_init_21 : decode cX6_init 21 = .ok (.bipush 54, 2) := by decide +kernel
theorem dX6_init_23 : decode cX6_init 23 = .ok (.newarray .int, 2) := by decide +kernel
theorem dX6_init_25 : decode cX6_init 25 = .ok (.putfield 16, 3) := by decide +kernel
theorem dX6_init_28 : decode cX6_init 28 = .ok (.aload_n 0, 1) := by decide +kernel
theorem dX6_init_29 : decode cX6_init 29 = .ok (.bipush 54, 2) := by decide +kernel
theorem dX6_init_31 : decode cX6_init 31 = .ok (.newarray .int, 2) := by decide +kernel
theorem dX6_init_33 : decode cX6_init 33 = .ok (.putfield 19, 3) := by decide +kernel
theorem dX6_init_36 : decode cX6_init 36 = .ok (.aload_n 0, 1) := by decide +kernel
theorem dX6_init_37 : decode cX6_init 37 = .ok (.iconst 3, 1) := by decide +kernel
theorem dX6_init_38 : decode cX6_init 38 = .ok (.newarray .int, 2) := by decide +kernel
theorem dX6_init_40 : decode cX6_init 40 = .ok (.putfield 22, 3) := by decide +kernel
theorem dX6_init_43 : decode cX6_init 43 = .ok (.aload_n 0, 1) := by decide +kernel
theorem dX6_init_44 : decode cX6_init 44 = .ok (.bipush 10, 2) := by decide +kernel
theorem dX6_init_46 : decode cX6_init 46 = .ok (.putfield 25, 3) := by decide +kernel
theorem dX6_init_49 : decode cX6_init 49 = .ok (.aload_n 0, 1) := by decide +kernel
theorem dX6_init_50 : decode cX6_init 50 = .ok (.bipush 100, 2) := by decide +kernel
theorem dX6_init_52 : decode cX6_init 52 = .ok (.putfield 29, 3) := by decide +kernel
theorem dX6_init_55 : decode cX6_init 55 = .ok (.aload_n 0, 1) := by decide +kernel
theorem dX6_init_56 : decode cX6_init 56 = .ok (.bipush 36, 2) := by decide +kernel
theorem dX6_init_58 : decode cX6_init 58 = .ok (.newarray .int, 2) := by decide +kernel
theorem dX6_init_60 : decode cX6_init 60 = .ok (.putfield 32, 3) := by decide +kernel
theorem dX6_init_63 : decode cX6_init 63 = .ok (.aload_n 0, 1) := by decide +kernel
theorem dX6_init_64 : decode cX6_init 64 = .ok (.bipush 6, 2) := by decide +kernel
theorem dX6_init_66 : decode cX6_init 66 = .ok (.newarray .int, 2) := by decide +kernel
theorem dX6_init_68 : decode cX6_init 68 = .ok (.putfield 35, 3) := by decide +kernel
theorem dX6_init_71 : decode cX6_init 71 = .ok (.aload_n 0, 1) := by decide +kernel
theorem dX6_init_72 : decode cX6_init 72 = .ok (.bipush 20, 2) := by decide +kernel
theorem dX6_init_74 : decode cX6_init 74 = .ok (.newarray .int, 2) := by decide +kernel
theorem dX6_init_76 : decode cX6_init 76 = .ok (.putfield 38, 3) := by decide +kernel
theorem dX6_init_79 : decode cX6_init 79 = .ok (.aload_n 0, 1) := by decide +kernel
theorem dX6_init_80 : decode cX6_init 80 = .ok (.bipush 20, 2) := by decide +kernel
theorem dX6_init_82 : decode cX6_init 82 = .ok (.newarray .int, 2) := by decide +kernel
theorem dX6_init_84 : decode cX6_init 84 = .ok (.putfield 41, 3) := by decide +kernel
theorem dX6_init_87 : decode cX6_init 87 = .ok (.aload_n 0, 1) := by decide +kernel
theorem dX6_init_88 : decode cX6_init 88 = .ok (.iconst (-1), 1) := by decide +kernel
theorem dX6_init_89 : decode cX6_init 89 = .ok (.putfield 44, 3) := by decide +kernel
theorem dX6_init_92 : decode cX6_init 92 = .ok (.aload_n 0, 1) := by decide +kernel
theorem dX6_init_93 : decode cX6_init 93 = .ok (.sipush 400, 3) := by decide +kernel
theorem dX6_init_96 : decode cX6_init 96 = .ok (.newarray .int, 2) := by decide +kernel
theorem dX6_init_98 : decode cX6_init 98 = .ok (.putfield 47, 3) := by decide +kernel
theorem dX6_init_101 : decode cX6_init 101 = .ok (.aload_n 0, 1) := by decide +kernel
theorem dX6_init_102 : decode cX6_init 102 = .ok (.iconst (-1), 1) := by decide +kernel
theorem dX6_init_103 : decode cX6_init 103 = .ok (.putfield 50, 3) := by decide +kernel
theorem dX6_init_106 : decode cX6_init 106 = .ok (.aload_n 0, 1) := by decide +kernel
theorem dX6_init_107 : decode cX6_init 107 = .ok (.bipush 9, 2) := by decide +kernel
theorem dX6_init_109 : decode cX6_init 109 = .ok (.newarray .int, 2) := by decide +kernel
theorem dX6_init_111 : decode cX6_init 111 = .ok (.putfield 53, 3) := by decide +kernel
theorem dX6_init_114 : decode cX6_init 114 = .ok (.aload_n 0, 1) := by decide +kernel
theorem dX6_init_115 : decode cX6_init 115 = .ok (.bipush 9, 2) := by decide +kernel
theorem dX6_init_117 : decode cX6_init 117 = .ok (.newarray .int, 2) := by decide +kernel
theorem dX6_init_119 : decode cX6_init 119 = .ok (.putfield 56, 3) := by decide +kernel
theorem dX6_init_122 : decode cX6_init 122 = .ok (.aload_n 0, 1) := by decide +kernel
theorem dX6_init_123 : decode cX6_init 123 = .ok (.bipush 54, 2) := by decide +kernel
theorem dX6_init_125 : decode cX6_init 125 = .ok (.newarray .int, 2) := by decide +kernel
theorem dX6_init_127 : decode cX6_init 127 = .ok (.putfield 59, 3) := by decide +kernel
theorem dX6_init_130 : decode cX6_init 130 = .ok (.aload_n 0, 1) := by decide +kernel
theorem dX6_init_131 : decode cX6_init 131 = .ok (.bipush 54, 2) := by decide +kernel
theorem dX6_init_133 : decode cX6_init 133 = .ok (.newarray .int, 2) := by decide +kernel
theorem dX6_init_135 : decode cX6_init 135 = .ok (.putfield 62, 3) := by decide +kernel
theorem dX6_init_138 : decode cX6_init 138 = .ok (.aload_n 0, 1) := by decide +kernel
theorem dX6_init_139 : decode cX6_init 139 = .ok (.bipush 54, 2) := by decide +kernel
theorem dX6_init_141 : decode cX6_init 141 = .ok (.newarray .boolean, 2) := by decide +kernel
theorem dX6_init_143 : decode cX6_init 143 = .ok (.putfield 65, 3) := by decide +kernel
theorem dX6_init_146 : decode cX6_init 146 = .ok (.aload_n 0, 1) := by decide +kernel
theorem dX6_init_147 : decode cX6_init 147 = .ok (.iconst 3, 1) := by decide +kernel
theorem dX6_init_148 : decode cX6_init 148 = .ok (.newarray .int, 2) := by decide +kernel
theorem dX6_init_150 : decode cX6_init 150 = .ok (.putfield 69, 3) := by decide +kernel
theorem dX6_init_153 : decode cX6_init 153 = .ok (.aload_n 0, 1) := by decide +kernel
theorem dX6_init_154 : decode cX6_init 154 = .ok (.bipush 9, 2) := by decide +kernel
theorem dX6_init_156 : decode cX6_init 156 = .ok (.newarray .boolean, 2) := by decide +kernel
theorem dX6_init_158 : decode cX6_init 158 = .ok (.putfield 72, 3) := by decide +kernel
theorem dX6_init_161 : decode cX6_init 161 = .ok (.aload_n 0, 1) := by decide +kernel
theorem dX6_init_162 : decode cX6_init 162 = .ok (.bipush 36, 2) := by decide +kernel
theorem dX6_init_164 : decode cX6_init 164 = .ok (.newarray .int, 2) := by decide +kernel
theorem dX6_init_166 : decode cX6_init 166 = .ok (.putfield 75, 3) := by decide +kernel
theorem dX6_init_169 : decode cX6_init 169 = .ok (.aload_n 0, 1) := by decide +kernel
theorem dX6_init_170 : decode cX6_init 170 = .ok (.iconst 4, 1) := by decide +kernel
theorem dX6_init_171 : decode cX6_init 171 = .ok (.newarray .int, 2) := by decide +kernel
theorem dX6_init_173 : decode cX6_init 173 = .ok (.putfield 78, 3) := by decide +kernel
theorem dX6_init_176 : decode cX6_init 176 = .ok (.aload_n 0, 1) := by decide +kernel
theorem dX6_init_177 : decode cX6_init 177 = .ok (.bipush 15, 2) := by decide +kernel
theorem dX6_init_179 : decode cX6_init 179 = .ok (.newarray .int, 2) := by decide +kernel
theorem dX6_init_181 : decode cX6_init 181 = .ok (.putfield 81, 3) := by decide +kernel
theorem dX6_init_184 : decode cX6_init 184 = .ok (.aload_n 0, 1) := by decide +kernel
theorem dX6_init_185 : decode cX6_init 185 = .ok (.bipush 15, 2) := by decide +kernel
theorem dX6_init_187 : decode cX6_init 187 = .ok (.newarray .int, 2) := by decide +kernel
theorem dX6_init_189 : decode cX6_init 189 = .ok (.putfield 84, 3) := by decide +kernel
theorem dX6_init_192 : decode cX6_init 192 = .ok (.aload_n 0, 1) := by decide +kernel
theorem dX6_init_193 : decode cX6_init 193 = .ok (.bipush 15, 2) := by decide +kernel
theorem dX6_init_195 : decode cX6_init 195 = .ok (.newarray .int, 2) := by decide +kernel
theorem dX6_init_197 : decode cX6_init 197 = .ok (.putfield 87, 3) := by decide +kernel
theorem dX6_init_200 : decode cX6_init 200 = .ok (.aload_n 0, 1) := by decide +kernel
theorem dX6_init_201 : decode cX6_init 201 = .ok (.bipush 6, 2) := by decide +kernel
theorem dX6_init_203 : decode cX6_init 203 = .ok (.newarray .int, 2) := by decide +kernel
theorem dX6_init_205 : decode cX6_init 205 = .ok (.putfield 90, 3) := by decide +kernel
theorem dX6_init_208 : decode cX6_init 208 = .ok (.aload_n 0, 1) := by decide +kernel
theorem dX6_init_209 : decode cX6_init 209 = .ok (.bipush 20, 2) := by decide +kernel
theorem dX6_init_211 : decode cX6_init 211 = .ok (.newarray .int, 2) := by decide +kernel
theorem dX6_init_213 : decode cX6_init 213 = .ok (.putfield 93, 3) := by decide +kernel
theorem dX6_init_216 : decode cX6_init 216 = .ok (.aload_n 0, 1) := by decide +kernel
theorem dX6_init_217 : decode cX6_init 217 = .ok (.bipush 20, 2) := by decide +kernel
theorem dX6_init_219 : decode cX6_init 219 = .ok (.newarray .int, 2) := by decide +kernel
theorem dX6_init_221 : decode cX6_init 221 = .ok (.putfield 96, 3) := by decide +kernel
theorem dX6_init_224 : decode cX6_init 224 = .ok (.aload_n 0, 1) := by decide +kernel
theorem dX6_init_225 : decode cX6_init 225 = .ok (.bipush 20, 2) := by decide +kernel
theorem dX6_init_227 : decode cX6_init 227 = .ok (.newarray .boolean, 2) := by decide +kernel
theorem dX6_init_229 : decode cX6_init 229 = .ok (.putfield 99, 3) := by decide +kernel
theorem dX6_init_232 : decode cX6_init 232 = .ok (.aload_n 0, 1) := by decide +kernel
theorem dX6_init_233 : decode cX6_init 233 = .ok (.sipush 200, 3) := by decide +kernel
theorem dX6_init_236 : decode cX6_init 236 = .ok (.newarray .int, 2) := by decide +kernel
theorem dX6_init_238 : decode cX6_init 238 = .ok (.putfield 102, 3) := by decide +kernel
theorem dX6_init_241 : decode cX6_init 241 = .ok (.aload_n 0, 1) := by decide +kernel
theorem dX6_init_242 : decode cX6_init 242 = .ok (.iconst 2, 1) := by decide +kernel
theorem dX6_init_243 : decode cX6_init 243 = .ok (.newarray .boolean, 2) := by decide +kernel
theorem dX6_init_245 : decode cX6_init 245 = .ok (.putfield 105, 3) := by decide +kernel
theorem dX6_init_248 : decode cX6_init 248 = .ok (.aload_n 0, 1) := by decide +kernel
theorem dX6_init_249 : decode cX6_init 249 = .ok (.invokevirtual 108, 3) := by decide +kernel
theorem dX6_init_252 : decode cX6_init 252 = .ok (.return_, 1) := by decide +kernel
theorem dX6_in_0 : decode cX6_in 0 = .ok (.lload_n 0, 1) := by decide +kernel
theorem dX6_in_1 : decode cX6_in 1 = .ok (.lload_n 2, 1) := by decide +kernel
theorem dX6_in_2 : decode cX6_in 2 = .ok (.lcmp, 1) := by decide +kernel
theorem dX6_in_3 : decode cX6_in 3 = .ok (.ifCond .lt 14, 3) := by decide +kernel
theorem dX6_in_6 : decode cX6_in 6 = .ok (.lload_n 0, 1) := by decide +kernel
theorem dX6_in_7 : decode cX6_in 7 = .ok (.lload 4, 2) := by decide +kernel
theorem dX6_in_9 : decode cX6_in 9 = .ok (.lcmp, 1) := by decide +kernel
theorem dX6_in_10 : decode cX6_in 10 = .ok (.ifCond .gt 7, 3) := by decide +kernel
theorem dX6_in_13 : decode cX6_in 13 = .ok (.iconst 1, 1) := by decide +kernel
theorem dX6_in_14 : decode cX6_in 14 = .ok (.goto 4, 3) := by decide +kernel
theorem dX6_in_17 : decode cX6_in 17 = .ok (.iconst 0, 1) := by decide +kernel
theorem dX6_in_18 : decode cX6_in 18 = .ok (.ireturn, 1) := by decide +kernel
theorem dX6_has_0 : decode cX6_has 0 = .ok (.iload_n 0, 1) := by decide +kernel
theorem dX6_has_1 : decode cX6_has 1 = .ok (.iload_n 1, 1) := by decide +kernel
theorem dX6_has_2 : decode cX6_has 2 = .ok (.ishr, 1) := by decide +kernel
theorem dX6_has_3 : decode cX6_has 3 = .ok (.iconst 1, 1) := by decide +kernel
theorem dX6_has_4 : decode cX6_has 4 = .ok (.iand, 1) := by decide +kernel
theorem dX6_has_5 : decode cX6_has 5 = .ok (.iconst 1, 1) := by decide +kernel
theorem dX6_has_6 : decode cX6_has 6 = .ok (.if_icmp .ne 7, 3) := by decide +kernel
theorem dX6_has_9 : decode cX6_has 9 = .ok (.iconst 1, 1) := by decide +kernel
theorem dX6_has_10 : decode cX6_has 10 = .ok (.goto 4, 3) := by decide +kernel
theorem dX6_has_13 : decode cX6_has 13 = .ok (.iconst 0, 1) := by decide +kernel
theorem dX6_has_14 : decode cX6_has 14 = .ok (.ireturn, 1) := by decide +kernel
theorem dX6_bits_0 : decode cX6_bits 0 = .ok (.iconst 0, 1) := by decide +kernel
theorem dX6_bits_1 : decode cX6_bits 1 = .ok (.istore_n 1, 1) := by decide +kernel
theorem dX6_bits_2 : decode cX6_bits 2 = .ok (.iconst 0, 1) := by decide +kernel
theorem dX6_bits_3 : decode cX6_bits 3 = .ok (.istore_n 2, 1) := by decide +kernel
theorem dX6_bits_4 : decode cX6_bits 4 = .ok (.iload_n 2, 1) := by decide +kernel
theorem dX6_bits_5 : decode cX6_bits 5 = .ok (.bipush 9, 2) := by decide +kernel
theorem dX6_bits_7 : decode cX6_bits 7 = .ok (.if_icmp .ge 17, 3) := by decide +kernel
theorem dX6_bits_10 : decode cX6_bits 10 = .ok (.iload_n 1, 1) := by decide +kernel
theorem dX6_bits_11 : decode cX6_bits 11 = .ok (.iload_n 0, 1) := by decide +kernel
theorem dX6_bits_12 : decode cX6_bits 12 = .ok (.iload_n 2, 1) := by decide +kernel
theorem dX6_bits_13 : decode cX6_bits 13 = .ok (.ishr, 1) := by decide +kernel
theorem dX6_bits_14 : decode cX6_bits 14 = .ok (.iconst 1, 1) := by decide +kernel
theorem dX6_bits_15 : decode cX6_bits 15 = .ok (.iand, 1) := by decide +kernel
theorem dX6_bits_16 : decode cX6_bits 16 = .ok (.iadd, 1) := by decide +kernel
theorem dX6_bits_17 : decode cX6_bits 17 = .ok (.istore_n 1, 1) := by decide +kernel
theorem dX6_bits_18 : decode cX6_bits 18 = .ok (.iinc 2 1, 3) := by decide +kernel
theorem dX6_bits_21 : decode cX6_bits 21 = .ok (.goto (-17), 3) := by decide +kernel
theorem dX6_bits_24 : decode cX6_bits 24 = .ok (.iload_n 1, 1) := by decide +kernel
theorem dX6_bits_25 : decode cX6_bits 25 = .ok (.ireturn, 1) := by decide +kernel
theorem dX6_isMark_0 : decode cX6_isMark 0 = .ok (.iload_n 1, 1) := by decide +kernel
theorem dX6_isMark_1 : decode cX6_isMark 1 = .ok (.i2l, 1) := by decide +kernel
theorem dX6_isMark_2 : decode cX6_isMark 2 = .ok (.lconst 0, 1) := by decide +kernel
theorem dX6_isMark_3 : decode cX6_isMark 3 = .ok (.aload_n 0, 1) := by decide +kernel
theorem dX6_isMark_4 : decode cX6_isMark 4 = .ok (.getfield 111, 3) := by decide +kernel
theorem dX6_isMark_7 : decode cX6_isMark 7 = .ok (.iconst 1, 1) := by decide +kernel
theorem dX6_isMark_8 : decode cX6_isMark 8 = .ok (.isub, 1) := by decide +kernel
theorem dX6_isMark_9 : decode cX6_isMark 9 = .ok (.i2l, 1) := by decide +kernel
theorem dX6_isMark_10 : decode cX6_isMark 10 = .ok (.invokestatic 114, 3) := by decide +kernel
theorem dX6_isMark_13 : decode cX6_isMark 13 = .ok (.ireturn, 1) := by decide +kernel
theorem dX6_isBand_0 : decode cX6_isBand 0 = .ok (.iload_n 0, 1) := by decide +kernel
theorem dX6_isBand_1 : decode cX6_isBand 1 = .ok (.i2l, 1) := by decide +kernel
theorem dX6_isBand_2 : decode cX6_isBand 2 = .ok (.lconst 0, 1) := by decide +kernel
theorem dX6_isBand_3 : decode cX6_isBand 3 = .ok (.ldc2_w 118, 3) := by decide +kernel
theorem dX6_isBand_6 : decode cX6_isBand 6 = .ok (.invokestatic 114, 3) := by decide +kernel
theorem dX6_isBand_9 : decode cX6_isBand 9 = .ok (.ireturn, 1) := by decide +kernel
theorem dX6_bare_0 : decode cX6_bare 0 = .ok (.iconst 0, 1) := by decide +kernel
theorem dX6_bare_1 : decode cX6_bare 1 = .ok (.istore_n 1, 1) := by decide +kernel
theorem dX6_bare_2 : decode cX6_bare 2 = .ok (.iload_n 1, 1) := by decide +kernel
theorem dX6_bare_3 : decode cX6_bare 3 = .ok (.bipush 6, 2) := by decide +kernel
theorem dX6_bare_5 : decode cX6_bare 5 = .ok (.if_icmp .ge 58, 3) := by decide +kernel
theorem dX6_bare_8 : decode cX6_bare 8 = .ok (.aload_n 0, 1) := by decide +kernel
theorem dX6_bare_9 : decode cX6_bare 9 = .ok (.getfield 35, 3) := by decide +kernel
theorem dX6_bare_12 : decode cX6_bare 12 = .ok (.iload_n 1, 1) := by decide +kernel
theorem dX6_bare_13 : decode cX6_bare 13 = .ok (.iconst 0, 1) := by decide +kernel
theorem dX6_bare_14 : decode cX6_bare 14 = .ok (.iastore, 1) := by decide +kernel
theorem dX6_bare_15 : decode cX6_bare 15 = .ok (.iconst 0, 1) := by decide +kernel
theorem dX6_bare_16 : decode cX6_bare 16 = .ok (.istore_n 2, 1) := by decide +kernel
theorem dX6_bare_17 : decode cX6_bare 17 = .ok (.iload_n 2, 1) := by decide +kernel
theorem dX6_bare_18 : decode cX6_bare 18 = .ok (.bipush 6, 2) := by decide +kernel
theorem dX6_bare_20 : decode cX6_bare 20 = .ok (.if_icmp .ge 37, 3) := by decide +kernel
theorem dX6_bare_23 : decode cX6_bare 23 = .ok (.aload_n 0, 1) := by decide +kernel
theorem dX6_bare_24 : decode cX6_bare 24 = .ok (.getfield 32, 3) := by decide +kernel
theorem dX6_bare_27 : decode cX6_bare 27 = .ok (.bipush 6, 2) := by decide +kernel
theorem dX6_bare_29 : decode cX6_bare 29 = .ok (.iload_n 1, 1) := by decide +kernel
theorem dX6_bare_30 : decode cX6_bare 30 = .ok (.imul, 1) := by decide +kernel
theorem dX6_bare_31 : decode cX6_bare 31 = .ok (.iload_n 2, 1) := by decide +kernel
theorem dX6_bare_32 : decode cX6_bare 32 = .ok (.iadd, 1) := by decide +kernel
theorem dX6_bare_33 : decode cX6_bare 33 = .ok (.iload_n 2, 1) := by decide +kernel
theorem dX6_bare_34 : decode cX6_bare 34 = .ok (.iload_n 1, 1) := by decide +kernel
theorem dX6_bare_35 : decode cX6_bare 35 = .ok (.if_icmp .ne 14, 3) := by decide +kernel
theorem dX6_bare_38 : decode cX6_bare 38 = .ok (.iconst 1, 1) := by decide +kernel
theorem dX6_bare_39 : decode cX6_bare 39 = .ok (.aload_n 0, 1) := by decide +kernel
theorem dX6_bare_40 : decode cX6_bare 40 = .ok (.getfield 111, 3) := by decide +kernel
theorem dX6_bare_43 : decode cX6_bare 43 = .ok (.ishl, 1) := by decide +kernel
theorem dX6_bare_44 : decode cX6_bare 44 = .ok (.iconst 1, 1) := by decide +kernel
theorem dX6_bare_45 : decode cX6_bare 45 = .ok (.isub, 1) := by decide +kernel
theorem dX6_bare_46 : decode cX6_bare 46 = .ok (.goto 4, 3) := by decide +kernel
theorem dX6_bare_49 : decode cX6_bare 49 = .ok (.iconst 0, 1) := by decide +kernel
theorem dX6_bare_50 : decode cX6_bare 50 = .ok (.iastore, 1) := by decide +kernel
theorem dX6_bare_51 : decode cX6_bare 51 = .ok (.iinc 2 1, 3) := by decide +kernel
theorem dX6_bare_54 : decode cX6_bare 54 = .ok (.goto (-37), 3) := by decide +kernel
theorem dX6_bare_57 : decode cX6_bare 57 = .ok (.iinc 1 1, 3) := by decide +kernel
theorem dX6_bare_60 : decode cX6_bare 60 = .ok (.goto (-58), 3) := by decide +kernel
theorem dX6_bare_63 : decode cX6_bare 63 = .ok (.aload_n 0, 1) := by decide +kernel
theorem dX6_bare_64 : decode cX6_bare 64 = .ok (.iconst 0, 1) := by decide +kernel
theorem dX6_bare_65 : decode cX6_bare 65 = .ok (.putfield 120, 3) := by decide +kernel
theorem dX6_bare_68 : decode cX6_bare 68 = .ok (.aload_n 0, 1) := by decide +kernel
theorem dX6_bare_69 : decode cX6_bare 69 = .ok (.iconst (-1), 1) := by decide +kernel
theorem dX6_bare_70 : decode cX6_bare 70 = .ok (.putfield 44, 3) := by decide +kernel
theorem dX6_bare_73 : decode cX6_bare 73 = .ok (.return_, 1) := by decide +kernel
theorem dX6_feed_0 : decode cX6_feed 0 = .ok (.iload_n 1, 1) := by decide +kernel
theorem dX6_feed_1 : decode cX6_feed 1 = .ok (.i2l, 1) := by decide +kernel
theorem dX6_feed_2 : decode cX6_feed 2 = .ok (.lconst 1, 1) := by decide +kernel
theorem dX6_feed_3 : decode cX6_feed 3 = .ok (.ldc2_w 123, 3) := by decide +kernel
theorem dX6_feed_6 : decode cX6_feed 6 = .ok (.invokestatic 114, 3) := by decide +kernel
theorem dX6_feed_9 : decode cX6_feed 9 = .ok (.ifCond .ne 6, 3) := by decide +kernel
theorem dX6_feed_12 : decode cX6_feed 12 = .ok (.ldc 125, 2) := by decide +kernel
theorem dX6_feed_14 : decode cX6_feed 14 = .ok (.ireturn, 1) := by decide +kernel
theorem dX6_feed_15 : decode cX6_feed 15 = .ok (.aload_n 0, 1) := by decide +kernel
theorem dX6_feed_16 : decode cX6_feed 16 = .ok (.getfield 126, 3) := by decide +kernel
theorem dX6_feed_19 : decode cX6_feed 19 = .ok (.iload_n 1, 1) := by decide +kernel
theorem dX6_feed_20 : decode cX6_feed 20 = .ok (.iadd, 1) := by decide +kernel
theorem dX6_feed_21 : decode cX6_feed 21 = .ok (.sipush 400, 3) := by decide +kernel
theorem dX6_feed_24 : decode cX6_feed 24 = .ok (.if_icmp .le 6, 3) := by decide +kernel
theorem dX6_feed_27 : decode cX6_feed 27 = .ok (.ldc 129, 2) := by decide +kernel
theorem dX6_feed_29 : decode cX6_feed 29 = .ok (.ireturn, 1) := by decide +kernel
theorem dX6_feed_30 : decode cX6_feed 30 = .ok (.iload_n 1, 1) := by decide +kernel
theorem dX6_feed_31 : decode cX6_feed 31 = .ok (.iconst 1, 1) := by decide +kernel
theorem dX6_feed_32 : decode cX6_feed 32 = .ok (.isub, 1) := by decide +kernel
theorem dX6_feed_33 : decode cX6_feed 33 = .ok (.istore 4, 2) := by decide +kernel
theorem dX6_feed_35 : decode cX6_feed 35 = .ok (.iload 4, 2) := by decide +kernel
theorem dX6_feed_37 : decode cX6_feed 37 = .ok (.ifCond .lt 40, 3) := by decide +kernel
theorem dX6_feed_40 : decode cX6_feed 40 = .ok (.aload_n 0, 1) := by decide +kernel
theorem dX6_feed_41 : decode cX6_feed 41 = .ok (.getfield 47, 3) := by decide +kernel
theorem dX6_feed_44 : decode cX6_feed 44 = .ok (.aload_n 0, 1) := by decide +kernel
theorem dX6_feed_45 : decode cX6_feed 45 = .ok (.getfield 126, 3) := by decide +kernel
theorem dX6_feed_48 : decode cX6_feed 48 = .ok (.lload_n 2, 1) := by decide +kernel
theorem dX6_feed_49 : decode cX6_feed 49 = .ok (.bipush 8, 2) := by decide +kernel
theorem dX6_feed_51 : decode cX6_feed 51 = .ok (.iload 4, 2) := by decide +kernel
theorem dX6_feed_53 : decode cX6_feed 53 = .ok (.imul, 1) := by decide +kernel
theorem dX6_feed_54 : decode cX6_feed 54 = .ok (.lshr, 1) := by decide +kernel
theorem dX6_feed_55 : decode cX6_feed 55 = .ok (.ldc2_w 130, 3) := by decide +kernel
theorem dX6_feed_58 : decode cX6_feed 58 = .ok (.land, 1) := by decide +kernel
theorem dX6_feed_59 : decode cX6_feed 59 = .ok (.l2i, 1) := by decide +kernel
theorem dX6_feed_60 : decode cX6_feed 60 = .ok (.iastore, 1) := by decide +kernel
theorem dX6_feed_61 : decode cX6_feed 61 = .ok (.aload_n 0, 1) := by decide +kernel
theorem dX6_feed_62 : decode cX6_feed 62 = .ok (.dup, 1) := by decide +kernel
theorem dX6_feed_63 : decode cX6_feed 63 = .ok (.getfield 126, 3) := by decide +kernel
theorem dX6_feed_66 : decode cX6_feed 66 = .ok (.iconst 1, 1) := by decide +kernel
theorem dX6_feed_67 : decode cX6_feed 67 = .ok (.iadd, 1) := by decide +kernel
theorem dX6_feed_68 : decode cX6_feed 68 = .ok (.putfield 126, 3) := by decide +kernel
theorem dX6_feed_71 : decode cX6_feed 71 = .ok (.iinc 4 (-1), 3) := by decide +kernel
theorem dX6_feed_74 : decode cX6_feed 74 = .ok (.goto (-39), 3) := by decide +kernel
theorem dX6_feed_77 : decode cX6_feed 77 = .ok (.aload_n 0, 1) := by decide +kernel
theorem dX6_feed_78 : decode cX6_feed 78 = .ok (.getfield 126, 3) := by decide +kernel
theorem dX6_feed_81 : decode cX6_feed 81 = .ok (.ireturn, 1) := by decide +kernel
theorem dX6_here_0 : decode cX6_here 0 = .ok (.aload_n 0, 1) := by decide +kernel
theorem dX6_here_1 : decode cX6_here 1 = .ok (.getfield 132, 3) := by decide +kernel
theorem dX6_here_4 : decode cX6_here 4 = .ok (.aload_n 0, 1) := by decide +kernel
theorem dX6_here_5 : decode cX6_here 5 = .ok (.getfield 126, 3) := by decide +kernel
theorem dX6_here_8 : decode cX6_here 8 = .ok (.if_icmp .ge 30, 3) := by decide +kernel
theorem dX6_here_11 : decode cX6_here 11 = .ok (.aload_n 0, 1) := by decide +kernel
theorem dX6_here_12 : decode cX6_here 12 = .ok (.getfield 47, 3) := by decide +kernel
theorem dX6_here_15 : decode cX6_here 15 = .ok (.aload_n 0, 1) := by decide +kernel
theorem dX6_here_16 : decode cX6_here 16 = .ok (.getfield 132, 3) := by decide +kernel
theorem dX6_here_19 : decode cX6_here 19 = .ok (.iaload, 1) := by decide +kernel
theorem dX6_here_20 : decode cX6_here 20 = .ok (.bipush 32, 2) := by decide +kernel
theorem dX6_here_22 : decode cX6_here 22 = .ok (.if_icmp .ne 16, 3) := by decide +kernel
theorem dX6_here_25 : decode cX6_here 25 = .ok (.aload_n 0, 1) := by decide +kernel
theorem dX6_here_26 : decode cX6_here 26 = .ok (.dup, 1) := by decide +kernel
theorem dX6_here_27 : decode cX6_here 27 = .ok (.getfield 132, 3) := by decide +kernel
theorem dX6_here_30 : decode cX6_here 30 = .ok (.iconst 1, 1) := by decide +kernel
theorem dX6_here_31 : decode cX6_here 31 = .ok (.iadd, 1) := by decide +kernel
theorem dX6_here_32 : decode cX6_here 32 = .ok (.putfield 132, 3) := by decide +kernel
theorem dX6_here_35 : decode cX6_here 35 = .ok (.goto (-35), 3) := by decide +kernel
theorem dX6_here_38 : decode cX6_here 38 = .ok (.aload_n 0, 1) := by decide +kernel
theorem dX6_here_39 : decode cX6_here 39 = .ok (.getfield 132, 3) := by decide +kernel
theorem dX6_here_42 : decode cX6_here 42 = .ok (.aload_n 0, 1) := by decide +kernel
theorem dX6_here_43 : decode cX6_here 43 = .ok (.getfield 126, 3) := by decide +kernel
theorem dX6_here_46 : decode cX6_here 46 = .ok (.if_icmp .ge 15, 3) := by decide +kernel
theorem dX6_here_49 : decode cX6_here 49 = .ok (.aload_n 0, 1) := by decide +kernel
theorem dX6_here_50 : decode cX6_here 50 = .ok (.getfield 47, 3) := by decide +kernel
theorem dX6_here_53 : decode cX6_here 53 = .ok (.aload_n 0, 1) := by decide +kernel
theorem dX6_here_54 : decode cX6_here 54 = .ok (.getfield 132, 3) := by decide +kernel
theorem dX6_here_57 : decode cX6_here 57 = .ok (.iaload, 1) := by decide +kernel
theorem dX6_here_58 : decode cX6_here 58 = .ok (.goto 4, 3) := by decide +kernel
theorem dX6_here_61 : decode cX6_here 61 = .ok (.iconst (-1), 1) := by decide +kernel
theorem dX6_here_62 : decode cX6_here 62 = .ok (.ireturn, 1) := by decide +kernel
theorem dX6_fails_0 : decode cX6_fails 0 = .ok (.aload_n 0, 1) := by decide +kernel
theorem dX6_fails_1 : decode cX6_fails 1 = .ok (.iload_n 2, 1) := by decide +kernel
theorem dX6_fails_2 : decode cX6_fails 2 = .ok (.putfield 50, 3) := by decide +kernel
theorem dX6_fails_5 : decode cX6_fails 5 = .ok (.iload_n 1, 1) := by decide +kernel
theorem dX6_fails_6 : decode cX6_fails 6 = .ok (.ireturn, 1) := by decide +kernel
theorem dX6_readWord_0 : decode cX6_readWord 0 = .ok (.aload_n 0, 1) := by decide +kernel
theorem dX6_readWord_1 : decode cX6_readWord 1 = .ok (.invokevirtual 135, 3) := by decide +kernel
theorem dX6_readWord_4 : decode cX6_readWord 4 = .ok (.istore_n 1, 1) := by decide +kernel
theorem dX6_readWord_5 : decode cX6_readWord 5 = .ok (.aload_n 0, 1) := by decide +kernel
theorem dX6_readWord_6 : decode cX6_readWord 6 = .ok (.lconst 0, 1) := by decide +kernel
theorem dX6_readWord_7 : decode cX6_readWord 7 = .ok (.putfield 139, 3) := by decide +kernel
theorem dX6_readWord_10 : decode cX6_readWord 10 = .ok (.aload_n 0, 1) := by decide +kernel
theorem dX6_readWord_11 : decode cX6_readWord 11 = .ok (.aload_n 0, 1) := by decide +kernel
theorem dX6_readWord_12 : decode cX6_readWord 12 = .ok (.getfield 132, 3) := by decide +kernel
theorem dX6_readWord_15 : decode cX6_readWord 15 = .ok (.putfield 143, 3) := by decide +kernel
theorem dX6_readWord_18 : decode cX6_readWord 18 = .ok (.aload_n 0, 1) := by decide +kernel
theorem dX6_readWord_19 : decode cX6_readWord 19 = .ok (.getfield 143, 3) := by decide +kernel
theorem dX6_readWord_22 : decode cX6_readWord 22 = .ok (.aload_n 0, 1) := by decide +kernel
theorem dX6_readWord_23 : decode cX6_readWord 23 = .ok (.getfield 126, 3) := by decide +kernel
theorem dX6_readWord_26 : decode cX6_readWord 26 = .ok (.if_icmp .ge 82, 3) := by decide +kernel
theorem dX6_readWord_29 : decode cX6_readWord 29 = .ok (.aload_n 0, 1) := by decide +kernel
theorem dX6_readWord_30 : decode cX6_readWord 30 = .ok (.getfield 47, 3) := by decide +kernel
theorem dX6_readWord_33 : decode cX6_readWord 33 = .ok (.aload_n 0, 1) := by decide +kernel
theorem dX6_readWord_34 : decode cX6_readWord 34 = .ok (.getfield 143, 3) := by decide +kernel
theorem dX6_readWord_37 : decode cX6_readWord 37 = .ok (.iaload, 1) := by decide +kernel
theorem dX6_readWord_38 : decode cX6_readWord 38 = .ok (.i2l, 1) := by decide +kernel
theorem dX6_readWord_39 : decode cX6_readWord 39 = .ok (.ldc2_w 146, 3) := by decide +kernel
theorem dX6_readWord_42 : decode cX6_readWord 42 = .ok (.ldc2_w 148, 3) := by decide +kernel
theorem dX6_readWord_45 : decode cX6_readWord 45 = .ok (.invokestatic 114, 3) := by decide +kernel
theorem dX6_readWord_48 : decode cX6_readWord 48 = .ok (.ifCond .eq 60, 3) := by decide +kernel
theorem dX6_readWord_51 : decode cX6_readWord 51 = .ok (.aload_n 0, 1) := by decide +kernel
theorem dX6_readWord_52 : decode cX6_readWord 52 = .ok (.aload_n 0, 1) := by decide +kernel
theorem dX6_readWord_53 : decode cX6_readWord 53 = .ok (.getfield 139, 3) := by decide +kernel
theorem dX6_readWord_56 : decode cX6_readWord 56 = .ok (.ldc2_w 150, 3) := by decide +kernel
theorem dX6_readWord_59 : decode cX6_readWord 59 = .ok (.lcmp, 1) := by decide +kernel
theorem dX6_readWord_60 : decode cX6_readWord 60 = .ok (.ifCond .le 9, 3) := by decide +kernel
theorem dX6_readWord_63 : decode cX6_readWord 63 = .ok (.ldc2_w 152, 3) := by decide +kernel
theorem dX6_readWord_66 : decode cX6_readWord 66 = .ok (.goto 26, 3) := by decide +kernel
theorem dX6_readWord_69 : decode cX6_readWord 69 = .ok (.ldc2_w 154, 3) := by decide +kernel
theorem dX6_readWord_72 : decode cX6_readWord 72 = .ok (.aload_n 0, 1) := by decide +kernel
theorem dX6_readWord_73 : decode cX6_readWord 73 = .ok (.getfield 139, 3) := by decide +kernel
theorem dX6_readWord_76 : decode cX6_readWord 76 = .ok (.lmul, 1) := by decide +kernel
theorem dX6_readWord_77 : decode cX6_readWord 77 = .ok (.aload_n 0, 1) := by decide +kernel
theorem dX6_readWord_78 : decode cX6_readWord 78 = .ok (.getfield 47, 3) := by decide +kernel
theorem dX6_readWord_81 : decode cX6_readWord 81 = .ok (.aload_n 0, 1) := by decide +kernel
theorem dX6_readWord_82 : decode cX6_readWord 82 = .ok (.getfield 143, 3) := by decide +kernel
theorem dX6_readWord_85 : decode cX6_readWord 85 = .ok (.iaload, 1) := by decide +kernel
theorem dX6_readWord_86 : decode cX6_readWord 86 = .ok (.i2l, 1) := by decide +kernel
theorem dX6_readWord_87 : decode cX6_readWord 87 = .ok (.ladd, 1) := by decide +kernel
theorem dX6_readWord_88 : decode cX6_readWord 88 = .ok (.ldc2_w 156, 3) := by decide +kernel
theorem dX6_readWord_91 : decode cX6_readWord 91 = .ok (.lsub, 1) := by decide +kernel
theorem dX6_readWord_92 : decode cX6_readWord 92 = .ok (.putfield 139, 3) := by decide +kernel
theorem dX6_readWord_95 : decode cX6_readWord 95 = .ok (.aload_n 0, 1) := by decide +kernel
theorem dX6_readWord_96 : decode cX6_readWord 96 = .ok (.dup, 1) := by decide +kernel
theorem dX6_readWord_97 : decode cX6_readWord 97 = .ok (.getfield 143, 3) := by decide +kernel
theorem dX6_readWord_100 : decode cX6_readWord 100 = .ok (.iconst 1, 1) := by decide +kernel
theorem dX6_readWord_101 : decode cX6_readWord 101 = .ok (.iadd, 1) := by decide +kernel
theorem dX6_readWord_102 : decode cX6_readWord 102 = .ok (.putfield 143, 3) := by decide +kernel
theorem dX6_readWord_105 : decode cX6_readWord 105 = .ok (.goto (-87), 3) := by decide +kernel
theorem dX6_readWord_108 : decode cX6_readWord 108 = .ok (.return_, 1) := by decide +kernel
theorem dX6_code_0 : decode cX6_code 0 = .ok (.ldc2_w 154, 3) := by decide +kernel
theorem dX6_code_3 : decode cX6_code 3 = .ok (.ldc2_w 154, 3) := by decide +kernel
theorem dX6_code_6 : decode cX6_code 6 = .ok (.iload_n 0, 1) := by decide +kernel
theorem dX6_code_7 : decode cX6_code 7 = .ok (.i2l, 1) := by decide +kernel
theorem dX6_code_8 : decode cX6_code 8 = .ok (.ldc2_w 156, 3) := by decide +kernel
theorem dX6_code_11 : decode cX6_code 11 = .ok (.lsub, 1) := by decide +kernel
theorem dX6_code_12 : decode cX6_code 12 = .ok (.lmul, 1) := by decide +kernel
theorem dX6_code_13 : decode cX6_code 13 = .ok (.iload_n 1, 1) := by decide +kernel
theorem dX6_code_14 : decode cX6_code 14 = .ok (.i2l, 1) := by decide +kernel
theorem dX6_code_15 : decode cX6_code 15 = .ok (.ladd, 1) := by decide +kernel
theorem dX6_code_16 : decode cX6_code 16 = .ok (.ldc2_w 156, 3) := by decide +kernel
theorem dX6_code_19 : decode cX6_code 19 = .ok (.lsub, 1) := by decide +kernel
theorem dX6_code_20 : decode cX6_code 20 = .ok (.lmul, 1) := by decide +kernel
theorem dX6_code_21 : decode cX6_code 21 = .ok (.iload_n 2, 1) := by decide +kernel
theorem dX6_code_22 : decode cX6_code 22 = .ok (.i2l, 1) := by decide +kernel
theorem dX6_code_23 : decode cX6_code 23 = .ok (.ladd, 1) := by decide +kernel
theorem dX6_code_24 : decode cX6_code 24 = .ok (.ldc2_w 156, 3) := by decide +kernel
theorem dX6_code_27 : decode cX6_code 27 = .ok (.lsub, 1) := by decide +kernel
theorem dX6_code_28 : decode cX6_code 28 = .ok (.lreturn, 1) := by decide +kernel
theorem dX6_longer_0 : decode cX6_longer 0 = .ok (.iload_n 3, 1) := by decide +kernel
theorem dX6_longer_1 : decode cX6_longer 1 = .ok (.ifCond .ne 18, 3) := by decide +kernel
theorem dX6_longer_4 : decode cX6_longer 4 = .ok (.ldc2_w 154, 3) := by decide +kernel
theorem dX6_longer_7 : decode cX6_longer 7 = .ok (.lload_n 0, 1) := by decide +kernel
theorem dX6_longer_8 : decode cX6_longer 8 = .ok (.lmul, 1) := by decide +kernel
theorem dX6_longer_9 : decode cX6_longer 9 = .ok (.iload_n 2, 1) := by decide +kernel
theorem dX6_longer_10 : decode cX6_longer 10 = .ok (.i2l, 1) := by decide +kernel
theorem dX6_longer_11 : decode cX6_longer 11 = .ok (.ladd, 1) := by decide +kernel
theorem dX6_longer_12 : decode cX6_longer 12 = .ok (.ldc2_w 156, 3) := by decide +kernel
theorem dX6_longer_15 : decode cX6_longer 15 = .ok (.lsub, 1) := by decide +kernel
theorem dX6_longer_16 : decode cX6_longer 16 = .ok (.goto 26, 3) := by decide +kernel
theorem dX6_longer_19 : decode cX6_longer 19 = .ok (.ldc2_w 154, 3) := by decide +kernel
theorem dX6_longer_22 : decode cX6_longer 22 = .ok (.ldc2_w 154, 3) := by decide +kernel
theorem dX6_longer_25 : decode cX6_longer 25 = .ok (.lload_n 0, 1) := by decide +kernel
theorem dX6_longer_26 : decode cX6_longer 26 = .ok (.lmul, 1) := by decide +kernel
theorem dX6_longer_27 : decode cX6_longer 27 = .ok (.iload_n 2, 1) := by decide +kernel
theorem dX6_longer_28 : decode cX6_longer 28 = .ok (.i2l, 1) := by decide +kernel
theorem dX6_longer_29 : decode cX6_longer 29 = .ok (.ladd, 1) := by decide +kernel
theorem dX6_longer_30 : decode cX6_longer 30 = .ok (.ldc2_w 156, 3) := by decide +kernel
theorem dX6_longer_33 : decode cX6_longer 33 = .ok (.lsub, 1) := by decide +kernel
theorem dX6_longer_34 : decode cX6_longer 34 = .ok (.lmul, 1) := by decide +kernel
theorem dX6_longer_35 : decode cX6_longer 35 = .ok (.iload_n 3, 1) := by decide +kernel
theorem dX6_longer_36 : decode cX6_longer 36 = .ok (.i2l, 1) := by decide +kernel
theorem dX6_longer_37 : decode cX6_longer 37 = .ok (.ladd, 1) := by decide +kernel
theorem dX6_longer_38 : decode cX6_longer 38 = .ok (.ldc2_w 156, 3) := by decide +kernel
theorem dX6_longer_41 : decode cX6_longer 41 = .ok (.lsub, 1) := by decide +kernel
theorem dX6_longer_42 : decode cX6_longer 42 = .ok (.lreturn, 1) := by decide +kernel
theorem dX6_takeNumber_0 : decode cX6_takeNumber 0 = .ok (.aload_n 0, 1) := by decide +kernel
theorem dX6_takeNumber_1 : decode cX6_takeNumber 1 = .ok (.invokevirtual 135, 3) := by decide +kernel
theorem dX6_takeNumber_4 : decode cX6_takeNumber 4 = .ok (.istore_n 3, 1) := by decide +kernel
theorem dX6_takeNumber_5 : decode cX6_takeNumber 5 = .ok (.iload_n 3, 1) := by decide +kernel
theorem dX6_takeNumber_6 : decode cX6_takeNumber 6 = .ok (.i2l, 1) := by decide +kernel
theorem dX6_takeNumber_7 : decode cX6_takeNumber 7 = .ok (.ldc2_w 158, 3) := by decide +kernel
theorem dX6_takeNumber_10 : decode cX6_takeNumber 10 = .ok (.ldc2_w 160, 3) := by decide +kernel
theorem dX6_takeNumber_13 : decode cX6_takeNumber 13 = .ok (.invokestatic 114, 3) := by decide +kernel
theorem dX6_takeNumber_16 : decode cX6_takeNumber 16 = .ok (.ifCond .ne 13, 3) := by decide +kernel
theorem dX6_takeNumber_19 : decode cX6_takeNumber 19 = .ok (.aload_n 0, 1) := by decide +kernel
theorem dX6_takeNumber_20 : decode cX6_takeNumber 20 = .ok (.iconst 1, 1) := by decide +kernel
theorem dX6_takeNumber_21 : decode cX6_takeNumber 21 = .ok (.aload_n 0, 1) := by decide +kernel
theorem dX6_takeNumber_22 : decode cX6_takeNumber 22 = .ok (.getfield 132, 3) := by decide +kernel
theorem dX6_takeNumber_25 : decode cX6_takeNumber 25 = .ok (.invokevirtual 162, 3) := by decide +kernel
theorem dX6_takeNumber_28 : decode cX6_takeNumber 28 = .ok (.ireturn, 1) := by decide +kernel
theorem dX6_takeNumber_29 : decode cX6_takeNumber 29 = .ok (.aload_n 0, 1) := by decide +kernel
theorem dX6_takeNumber_30 : decode cX6_takeNumber 30 = .ok (.aload_n 0, 1) := by decide +kernel
theorem dX6_takeNumber_31 : decode cX6_takeNumber 31 = .ok (.getfield 132, 3) := by decide +kernel
theorem dX6_takeNumber_34 : decode cX6_takeNumber 34 = .ok (.putfield 166, 3) := by decide +kernel
theorem dX6_takeNumber_37 : decode cX6_takeNumber 37 = .ok (.aload_n 0, 1) := by decide +kernel
theorem dX6_takeNumber_38 : decode cX6_takeNumber 38 = .ok (.iconst 0, 1) := by decide +kernel
theorem dX6_takeNumber_39 : decode cX6_takeNumber 39 = .ok (.putfield 169, 3) := by decide +kernel
theorem dX6_takeNumber_42 : decode cX6_takeNumber 42 = .ok (.aload_n 0, 1) := by decide +kernel
theorem dX6_takeNumber_43 : decode cX6_takeNumber 43 = .ok (.getfield 132, 3) := by decide +kernel
theorem dX6_takeNumber_46 : decode cX6_takeNumber 46 = .ok (.aload_n 0, 1) := by decide +kernel
theorem dX6_takeNumber_47 : decode cX6_takeNumber 47 = .ok (.getfield 126, 3) := by decide +kernel
theorem dX6_takeNumber_50 : decode cX6_takeNumber 50 = .ok (.if_icmp .ge 78, 3) := by decide +kernel
theorem dX6_takeNumber_53 : decode cX6_takeNumber 53 = .ok (.aload_n 0, 1) := by decide +kernel
theorem dX6_takeNumber_54 : decode cX6_takeNumber 54 = .ok (.getfield 47, 3) := by decide +kernel
theorem dX6_takeNumber_57 : decode cX6_takeNumber 57 = .ok (.aload_n 0, 1) := by decide +kernel
theorem dX6_takeNumber_58 : decode cX6_takeNumber 58 = .ok (.getfield 132, 3) := by decide +kernel
theorem dX6_takeNumber_61 : decode cX6_takeNumber 61 = .ok (.iaload, 1) := by decide +kernel
theorem dX6_takeNumber_62 : decode cX6_takeNumber 62 = .ok (.i2l, 1) := by decide +kernel
theorem dX6_takeNumber_63 : decode cX6_takeNumber 63 = .ok (.ldc2_w 158, 3) := by decide +kernel
theorem dX6_takeNumber_66 : decode cX6_takeNumber 66 = .ok (.ldc2_w 160, 3) := by decide +kernel
theorem dX6_takeNumber_69 : decode cX6_takeNumber 69 = .ok (.invokestatic 114, 3) := by decide +kernel
theorem dX6_takeNumber_72 : decode cX6_takeNumber 72 = .ok (.ifCond .eq 56, 3) := by decide +kernel
theorem dX6_takeNumber_75 : decode cX6_takeNumber 75 = .ok (.aload_n 0, 1) := by decide +kernel
theorem dX6_takeNumber_76 : decode cX6_takeNumber 76 = .ok (.aload_n 0, 1) := by decide +kernel
theorem dX6_takeNumber_77 : decode cX6_takeNumber 77 = .ok (.getfield 169, 3) := by decide +kernel
theorem dX6_takeNumber_80 : decode cX6_takeNumber 80 = .ok (.ldc 172, 2) := by decide +kernel
theorem dX6_takeNumber_82 : decode cX6_takeNumber 82 = .ok (.if_icmp .le 10, 3) := by decide +kernel
theorem dX6_takeNumber_85 : decode cX6_takeNumber 85 = .ok (.aload_n 0, 1) := by decide +kernel
theorem dX6_takeNumber_86 : decode cX6_takeNumber 86 = .ok (.getfield 169, 3) := by decide +kernel
theorem dX6_takeNumber_89 : decode cX6_takeNumber 89 = .ok (.goto 23, 3) := by decide +kernel
theorem dX6_takeNumber_92 : decode cX6_takeNumber 92 = .ok (.bipush 10, 2) := by decide +kernel
theorem dX6_takeNumber_94 : decode cX6_takeNumber 94 = .ok (.aload_n 0, 1) := by decide +kernel
theorem dX6_takeNumber_95 : decode cX6_takeNumber 95 = .ok (.getfield 169, 3) := by decide +kernel
theorem dX6_takeNumber_98 : decode cX6_takeNumber 98 = .ok (.imul, 1) := by decide +kernel
theorem dX6_takeNumber_99 : decode cX6_takeNumber 99 = .ok (.aload_n 0, 1) := by decide +kernel
theorem dX6_takeNumber_100 : decode cX6_takeNumber 100 = .ok (.getfield 47, 3) := by decide +kernel
theorem dX6_takeNumber_103 : decode cX6_takeNumber 103 = .ok (.aload_n 0, 1) := by decide +kernel
theorem dX6_takeNumber_104 : decode cX6_takeNumber 104 = .ok (.getfield 132, 3) := by decide +kernel
theorem dX6_takeNumber_107 : decode cX6_takeNumber 107 = .ok (.iaload, 1) := by decide +kernel
theorem dX6_takeNumber_108 : decode cX6_takeNumber 108 = .ok (.iadd, 1) := by decide +kernel
theorem dX6_takeNumber_109 : decode cX6_takeNumber 109 = .ok (.bipush 48, 2) := by decide +kernel
theorem dX6_takeNumber_111 : decode cX6_takeNumber 111 = .ok (.isub, 1) := by decide +kernel
theorem dX6_takeNumber_112 : decode cX6_takeNumber 112 = .ok (.putfield 169, 3) := by decide +kernel
theorem dX6_takeNumber_115 : decode cX6_takeNumber 115 = .ok (.aload_n 0, 1) := by decide +kernel
theorem dX6_takeNumber_116 : decode cX6_takeNumber 116 = .ok (.dup, 1) := by decide +kernel
theorem dX6_takeNumber_117 : decode cX6_takeNumber 117 = .ok (.getfield 132, 3) := by decide +kernel
theorem dX6_takeNumber_120 : decode cX6_takeNumber 120 = .ok (.iconst 1, 1) := by decide +kernel
theorem dX6_takeNumber_121 : decode cX6_takeNumber 121 = .ok (.iadd, 1) := by decide +kernel
theorem dX6_takeNumber_122 : decode cX6_takeNumber 122 = .ok (.putfield 132, 3) := by decide +kernel
theorem dX6_takeNumber_125 : decode cX6_takeNumber 125 = .ok (.goto (-83), 3) := by decide +kernel
theorem dX6_takeNumber_128 : decode cX6_takeNumber 128 = .ok (.aload_n 0, 1) := by decide +kernel
theorem dX6_takeNumber_129 : decode cX6_takeNumber 129 = .ok (.getfield 132, 3) := by decide +kernel
theorem dX6_takeNumber_132 : decode cX6_takeNumber 132 = .ok (.aload_n 0, 1) := by decide +kernel
theorem dX6_takeNumber_133 : decode cX6_takeNumber 133 = .ok (.getfield 166, 3) := by decide +kernel
theorem dX6_takeNumber_136 : decode cX6_takeNumber 136 = .ok (.isub, 1) := by decide +kernel
theorem dX6_takeNumber_137 : decode cX6_takeNumber 137 = .ok (.iconst 4, 1) := by decide +kernel
theorem dX6_takeNumber_138 : decode cX6_takeNumber 138 = .ok (.if_icmp .gt 18, 3) := by decide +kernel
theorem dX6_takeNumber_141 : decode cX6_takeNumber 141 = .ok (.aload_n 0, 1) := by decide +kernel
theorem dX6_takeNumber_142 : decode cX6_takeNumber 142 = .ok (.getfield 169, 3) := by decide +kernel
theorem dX6_takeNumber_145 : decode cX6_takeNumber 145 = .ok (.i2l, 1) := by decide +kernel
theorem dX6_takeNumber_146 : decode cX6_takeNumber 146 = .ok (.iload_n 1, 1) := by decide +kernel
theorem dX6_takeNumber_147 : decode cX6_takeNumber 147 = .ok (.i2l, 1) := by decide +kernel
theorem dX6_takeNumber_148 : decode cX6_takeNumber 148 = .ok (.iload_n 2, 1) := by decide +kernel
theorem dX6_takeNumber_149 : decode cX6_takeNumber 149 = .ok (.i2l, 1) := by decide +kernel
theorem dX6_takeNumber_150 : decode cX6_takeNumber 150 = .ok (.invokestatic 114, 3) := by decide +kernel
theorem dX6_takeNumber_153 : decode cX6_takeNumber 153 = .ok (.ifCond .ne 15, 3) := by decide +kernel
theorem dX6_takeNumber_156 : decode cX6_takeNumber 156 = .ok (.aload_n 0, 1) := by decide +kernel
theorem dX6_takeNumber_157 : decode cX6_takeNumber 157 = .ok (.iconst 2, 1) := by decide +kernel
theorem dX6_takeNumber_158 : decode cX6_takeNumber 158 = .ok (.aload_n 0, 1) := by decide +kernel
theorem dX6_takeNumber_159 : decode cX6_takeNumber 159 = .ok (.getfield 166, 3) := by decide +kernel
theorem dX6_takeNumber_162 : decode cX6_takeNumber 162 = .ok (.invokevirtual 162, 3) := by decide +kernel
theorem dX6_takeNumber_165 : decode cX6_takeNumber 165 = .ok (.goto 4, 3) := by decide +kernel
theorem dX6_takeNumber_168 : decode cX6_takeNumber 168 = .ok (.iconst 0, 1) := by decide +kernel
theorem dX6_takeNumber_169 : decode cX6_takeNumber 169 = .ok (.ireturn, 1) := by decide +kernel
theorem dX6_takeMark_0 : decode cX6_takeMark 0 = .ok (.aload_n 0, 1) := by decide +kernel
theorem dX6_takeMark_1 : decode cX6_takeMark 1 = .ok (.iconst 0, 1) := by decide +kernel
theorem dX6_takeMark_2 : decode cX6_takeMark 2 = .ok (.bipush 99, 2) := by decide +kernel
theorem dX6_takeMark_4 : decode cX6_takeMark 4 = .ok (.invokevirtual 173, 3) := by decide +kernel
theorem dX6_takeMark_7 : decode cX6_takeMark 7 = .ok (.istore_n 1, 1) := by decide +kernel
theorem dX6_takeMark_8 : decode cX6_takeMark 8 = .ok (.aload_n 0, 1) := by decide +kernel
theorem dX6_takeMark_9 : decode cX6_takeMark 9 = .ok (.getfield 53, 3) := by decide +kernel
theorem dX6_takeMark_12 : decode cX6_takeMark 12 = .ok (.aload_n 0, 1) := by decide +kernel
theorem dX6_takeMark_13 : decode cX6_takeMark 13 = .ok (.getfield 176, 3) := by decide +kernel
theorem dX6_takeMark_16 : decode cX6_takeMark 16 = .ok (.aload_n 0, 1) := by decide +kernel
theorem dX6_takeMark_17 : decode cX6_takeMark 17 = .ok (.getfield 169, 3) := by decide +kernel
theorem dX6_takeMark_20 : decode cX6_takeMark 20 = .ok (.iastore, 1) := by decide +kernel
theorem dX6_takeMark_21 : decode cX6_takeMark 21 = .ok (.iload_n 1, 1) := by decide +kernel
theorem dX6_takeMark_22 : decode cX6_takeMark 22 = .ok (.ifCond .le 7, 3) := by decide +kernel
theorem dX6_takeMark_25 : decode cX6_takeMark 25 = .ok (.iload_n 1, 1) := by decide +kernel
theorem dX6_takeMark_26 : decode cX6_takeMark 26 = .ok (.goto 10, 3) := by decide +kernel
theorem dX6_takeMark_29 : decode cX6_takeMark 29 = .ok (.aload_n 0, 1) := by decide +kernel
theorem dX6_takeMark_30 : decode cX6_takeMark 30 = .ok (.iconst 0, 1) := by decide +kernel
theorem dX6_takeMark_31 : decode cX6_takeMark 31 = .ok (.bipush 99, 2) := by decide +kernel
theorem dX6_takeMark_33 : decode cX6_takeMark 33 = .ok (.invokevirtual 173, 3) := by decide +kernel
theorem dX6_takeMark_36 : decode cX6_takeMark 36 = .ok (.istore_n 1, 1) := by decide +kernel
theorem dX6_takeMark_37 : decode cX6_takeMark 37 = .ok (.aload_n 0, 1) := by decide +kernel
theorem dX6_takeMark_38 : decode cX6_takeMark 38 = .ok (.getfield 56, 3) := by decide +kernel
theorem dX6_takeMark_41 : decode cX6_takeMark 41 = .ok (.aload_n 0, 1) := by decide +kernel
theorem dX6_takeMark_42 : decode cX6_takeMark 42 = .ok (.getfield 176, 3) := by decide +kernel
theorem dX6_takeMark_45 : decode cX6_takeMark 45 = .ok (.aload_n 0, 1) := by decide +kernel
theorem dX6_takeMark_46 : decode cX6_takeMark 46 = .ok (.getfield 169, 3) := by decide +kernel
theorem dX6_takeMark_49 : decode cX6_takeMark 49 = .ok (.iastore, 1) := by decide +kernel
theorem dX6_takeMark_50 : decode cX6_takeMark 50 = .ok (.iconst 0, 1) := by decide +kernel
theorem dX6_takeMark_51 : decode cX6_takeMark 51 = .ok (.istore_n 2, 1) := by decide +kernel
theorem dX6_takeMark_52 : decode cX6_takeMark 52 = .ok (.iload_n 2, 1) := by decide +kernel
theorem dX6_takeMark_53 : decode cX6_takeMark 53 = .ok (.bipush 6, 2) := by decide +kernel
theorem dX6_takeMark_55 : decode cX6_takeMark 55 = .ok (.if_icmp .ge 24, 3) := by decide +kernel
theorem dX6_takeMark_58 : decode cX6_takeMark 58 = .ok (.aload_n 0, 1) := by decide +kernel
theorem dX6_takeMark_59 : decode cX6_takeMark 59 = .ok (.getfield 65, 3) := by decide +kernel
theorem dX6_takeMark_62 : decode cX6_takeMark 62 = .ok (.bipush 9, 2) := by decide +kernel
theorem dX6_takeMark_64 : decode cX6_takeMark 64 = .ok (.iload_n 2, 1) := by decide +kernel
theorem dX6_takeMark_65 : decode cX6_takeMark 65 = .ok (.imul, 1) := by decide +kernel
theorem dX6_takeMark_66 : decode cX6_takeMark 66 = .ok (.aload_n 0, 1) := by decide +kernel
theorem dX6_takeMark_67 : decode cX6_takeMark 67 = .ok (.getfield 176, 3) := by decide +kernel
theorem dX6_takeMark_70 : decode cX6_takeMark 70 = .ok (.iadd, 1) := by decide +kernel
theorem dX6_takeMark_71 : decode cX6_takeMark 71 = .ok (.iconst 0, 1) := by decide +kernel
theorem dX6_takeMark_72 : decode cX6_takeMark 72 = .ok (.bastore, 1) := by decide +kernel
theorem dX6_takeMark_73 : decode cX6_takeMark 73 = .ok (.iinc 2 1, 3) := by decide +kernel
theorem dX6_takeMark_76 : decode cX6_takeMark 76 = .ok (.goto (-24), 3) := by decide +kernel
theorem dX6_takeMark_79 : decode cX6_takeMark 79 = .ok (.aload_n 0, 1) := by decide +kernel
theorem dX6_takeMark_80 : decode cX6_takeMark 80 = .ok (.dup, 1) := by decide +kernel
theorem dX6_takeMark_81 : decode cX6_takeMark 81 = .ok (.getfield 176, 3) := by decide +kernel
theorem dX6_takeMark_84 : decode cX6_takeMark 84 = .ok (.iconst 1, 1) := by decide +kernel
theorem dX6_takeMark_85 : decode cX6_takeMark 85 = .ok (.iadd, 1) := by decide +kernel
theorem dX6_takeMark_86 : decode cX6_takeMark 86 = .ok (.putfield 176, 3) := by decide +kernel
theorem dX6_takeMark_89 : decode cX6_takeMark 89 = .ok (.iload_n 1, 1) := by decide +kernel
theorem dX6_takeMark_90 : decode cX6_takeMark 90 = .ok (.ireturn, 1) := by decide +kernel
theorem dX6_takeGoal_0 : decode cX6_takeGoal 0 = .ok (.iconst 0, 1) := by decide +kernel
theorem dX6_takeGoal_1 : decode cX6_takeGoal 1 = .ok (.istore_n 1, 1) := by decide +kernel
theorem dX6_takeGoal_2 : decode cX6_takeGoal 2 = .ok (.iconst 0, 1) := by decide +kernel
theorem dX6_takeGoal_3 : decode cX6_takeGoal 3 = .ok (.istore_n 2, 1) := by decide +kernel
theorem dX6_takeGoal_4 : decode cX6_takeGoal 4 = .ok (.iload_n 2, 1) := by decide +kernel
theorem dX6_takeGoal_5 : decode cX6_takeGoal 5 = .ok (.iconst 3, 1) := by decide +kernel
theorem dX6_takeGoal_6 : decode cX6_takeGoal 6 = .ok (.if_icmp .ge 35, 3) := by decide +kernel
theorem dX6_takeGoal_9 : decode cX6_takeGoal 9 = .ok (.iload_n 1, 1) := by decide +kernel
theorem dX6_takeGoal_10 : decode cX6_takeGoal 10 = .ok (.ifCond .ne 31, 3) := by decide +kernel
theorem dX6_takeGoal_13 : decode cX6_takeGoal 13 = .ok (.aload_n 0, 1) := by decide +kernel
theorem dX6_takeGoal_14 : decode cX6_takeGoal 14 = .ok (.iconst 0, 1) := by decide +kernel
theorem dX6_takeGoal_15 : decode cX6_takeGoal 15 = .ok (.aload_n 0, 1) := by decide +kernel
theorem dX6_takeGoal_16 : decode cX6_takeGoal 16 = .ok (.getfield 176, 3) := by decide +kernel
theorem dX6_takeGoal_19 : decode cX6_takeGoal 19 = .ok (.iconst 1, 1) := by decide +kernel
theorem dX6_takeGoal_20 : decode cX6_takeGoal 20 = .ok (.isub, 1) := by decide +kernel
theorem dX6_takeGoal_21 : decode cX6_takeGoal 21 = .ok (.invokevirtual 173, 3) := by decide +kernel
theorem dX6_takeGoal_24 : decode cX6_takeGoal 24 = .ok (.istore_n 1, 1) := by decide +kernel
theorem dX6_takeGoal_25 : decode cX6_takeGoal 25 = .ok (.aload_n 0, 1) := by decide +kernel
theorem dX6_takeGoal_26 : decode cX6_takeGoal 26 = .ok (.getfield 69, 3) := by decide +kernel
theorem dX6_takeGoal_29 : decode cX6_takeGoal 29 = .ok (.iload_n 2, 1) := by decide +kernel
theorem dX6_takeGoal_30 : decode cX6_takeGoal 30 = .ok (.aload_n 0, 1) := by decide +kernel
theorem dX6_takeGoal_31 : decode cX6_takeGoal 31 = .ok (.getfield 169, 3) := by decide +kernel
theorem dX6_takeGoal_34 : decode cX6_takeGoal 34 = .ok (.iastore, 1) := by decide +kernel
theorem dX6_takeGoal_35 : decode cX6_takeGoal 35 = .ok (.iinc 2 1, 3) := by decide +kernel
theorem dX6_takeGoal_38 : decode cX6_takeGoal 38 = .ok (.goto (-34), 3) := by decide +kernel
theorem dX6_takeGoal_41 : decode cX6_takeGoal 41 = .ok (.iload_n 1, 1) := by decide +kernel
theorem dX6_takeGoal_42 : decode cX6_takeGoal 42 = .ok (.ireturn, 1) := by decide +kernel
theorem dX6_size_0 : decode cX6_size 0 = .ok (.iload_n 0, 1) := by decide +kernel
theorem dX6_size_1 : decode cX6_size 1 = .ok (.ifCond .ge 8, 3) := by decide +kernel
theorem dX6_size_4 : decode cX6_size 4 = .ok (.iload_n 0, 1) := by decide +kernel
theorem dX6_size_5 : decode cX6_size 5 = .ok (.ineg, 1) := by decide +kernel
theorem dX6_size_6 : decode cX6_size 6 = .ok (.goto 4, 3) := by decide +kernel
theorem dX6_size_9 : decode cX6_size 9 = .ok (.iload_n 0, 1) := by decide +kernel
theorem dX6_size_10 : decode cX6_size 10 = .ok (.ireturn, 1) := by decide +kernel
theorem dX6_takeCorner_0 : decode cX6_takeCorner 0 = .ok (.aload_n 0, 1) := by decide +kernel
theorem dX6_takeCorner_1 : decode cX6_takeCorner 1 = .ok (.iconst 0, 1) := by decide +kernel
theorem dX6_takeCorner_2 : decode cX6_takeCorner 2 = .ok (.iconst 5, 1) := by decide +kernel
theorem dX6_takeCorner_3 : decode cX6_takeCorner 3 = .ok (.invokevirtual 173, 3) := by decide +kernel
theorem dX6_takeCorner_6 : decode cX6_takeCorner 6 = .ok (.istore_n 2, 1) := by decide +kernel
theorem dX6_takeCorner_7 : decode cX6_takeCorner 7 = .ok (.iload_n 2, 1) := by decide +kernel
theorem dX6_takeCorner_8 : decode cX6_takeCorner 8 = .ok (.ifCond .le 5, 3) := by decide +kernel
theorem dX6_takeCorner_11 : decode cX6_takeCorner 11 = .ok (.iload_n 2, 1) := by decide +kernel
theorem dX6_takeCorner_12 : decode cX6_takeCorner 12 = .ok (.ireturn, 1) := by decide +kernel
theorem dX6_takeCorner_13 : decode cX6_takeCorner 13 = .ok (.aload_n 0, 1) := by decide +kernel
theorem dX6_takeCorner_14 : decode cX6_takeCorner 14 = .ok (.getfield 169, 3) := by decide +kernel
theorem dX6_takeCorner_17 : decode cX6_takeCorner 17 = .ok (.istore_n 3, 1) := by decide +kernel
theorem dX6_takeCorner_18 : decode cX6_takeCorner 18 = .ok (.iload_n 1, 1) := by decide +kernel
theorem dX6_takeCorner_19 : decode cX6_takeCorner 19 = .ok (.ifCond .eq 24, 3) := by decide +kernel
theorem dX6_takeCorner_22 : decode cX6_takeCorner 22 = .ok (.aload_n 0, 1) := by decide +kernel
theorem dX6_takeCorner_23 : decode cX6_takeCorner 23 = .ok (.getfield 179, 3) := by decide +kernel
theorem dX6_takeCorner_26 : decode cX6_takeCorner 26 = .ok (.iload_n 3, 1) := by decide +kernel
theorem dX6_takeCorner_27 : decode cX6_takeCorner 27 = .ok (.invokestatic 182, 3) := by decide +kernel
theorem dX6_takeCorner_30 : decode cX6_takeCorner 30 = .ok (.ifCond .eq 13, 3) := by decide +kernel
theorem dX6_takeCorner_33 : decode cX6_takeCorner 33 = .ok (.aload_n 0, 1) := by decide +kernel
theorem dX6_takeCorner_34 : decode cX6_takeCorner 34 = .ok (.iconst 4, 1) := by decide +kernel
theorem dX6_takeCorner_35 : decode cX6_takeCorner 35 = .ok (.aload_n 0, 1) := by decide +kernel
theorem dX6_takeCorner_36 : decode cX6_takeCorner 36 = .ok (.getfield 166, 3) := by decide +kernel
theorem dX6_takeCorner_39 : decode cX6_takeCorner 39 = .ok (.invokevirtual 162, 3) := by decide +kernel
theorem dX6_takeCorner_42 : decode cX6_takeCorner 42 = .ok (.ireturn, 1) := by decide +kernel
theorem dX6_takeCorner_43 : decode cX6_takeCorner 43 = .ok (.aload_n 0, 1) := by decide +kernel
theorem dX6_takeCorner_44 : decode cX6_takeCorner 44 = .ok (.iconst 0, 1) := by decide +kernel
theorem dX6_takeCorner_45 : decode cX6_takeCorner 45 = .ok (.aload_n 0, 1) := by decide +kernel
theorem dX6_takeCorner_46 : decode cX6_takeCorner 46 = .ok (.getfield 176, 3) := by decide +kernel
theorem dX6_takeCorner_49 : decode cX6_takeCorner 49 = .ok (.iconst 1, 1) := by decide +kernel
theorem dX6_takeCorner_50 : decode cX6_takeCorner 50 = .ok (.isub, 1) := by decide +kernel
theorem dX6_takeCorner_51 : decode cX6_takeCorner 51 = .ok (.invokevirtual 173, 3) := by decide +kernel
theorem dX6_takeCorner_54 : decode cX6_takeCorner 54 = .ok (.istore_n 2, 1) := by decide +kernel
theorem dX6_takeCorner_55 : decode cX6_takeCorner 55 = .ok (.iload_n 2, 1) := by decide +kernel
theorem dX6_takeCorner_56 : decode cX6_takeCorner 56 = .ok (.ifCond .le 5, 3) := by decide +kernel
theorem dX6_takeCorner_59 : decode cX6_takeCorner 59 = .ok (.iload_n 2, 1) := by decide +kernel
theorem dX6_takeCorner_60 : decode cX6_takeCorner 60 = .ok (.ireturn, 1) := by decide +kernel
theorem dX6_takeCorner_61 : decode cX6_takeCorner 61 = .ok (.aload_n 0, 1) := by decide +kernel
theorem dX6_takeCorner_62 : decode cX6_takeCorner 62 = .ok (.bipush 9, 2) := by decide +kernel
theorem dX6_takeCorner_64 : decode cX6_takeCorner 64 = .ok (.iload_n 3, 1) := by decide +kernel
theorem dX6_takeCorner_65 : decode cX6_takeCorner 65 = .ok (.imul, 1) := by decide +kernel
theorem dX6_takeCorner_66 : decode cX6_takeCorner 66 = .ok (.aload_n 0, 1) := by decide +kernel
theorem dX6_takeCorner_67 : decode cX6_takeCorner 67 = .ok (.getfield 169, 3) := by decide +kernel
theorem dX6_takeCorner_70 : decode cX6_takeCorner 70 = .ok (.iadd, 1) := by decide +kernel
theorem dX6_takeCorner_71 : decode cX6_takeCorner 71 = .ok (.putfield 186, 3) := by decide +kernel
theorem dX6_takeCorner_74 : decode cX6_takeCorner 74 = .ok (.aload_n 0, 1) := by decide +kernel
theorem dX6_takeCorner_75 : decode cX6_takeCorner 75 = .ok (.getfield 65, 3) := by decide +kernel
theorem dX6_takeCorner_78 : decode cX6_takeCorner 78 = .ok (.aload_n 0, 1) := by decide +kernel
theorem dX6_takeCorner_79 : decode cX6_takeCorner 79 = .ok (.getfield 186, 3) := by decide +kernel
theorem dX6_takeCorner_82 : decode cX6_takeCorner 82 = .ok (.baload, 1) := by decide +kernel
theorem dX6_takeCorner_83 : decode cX6_takeCorner 83 = .ok (.ifCond .eq 15, 3) := by decide +kernel
theorem dX6_takeCorner_86 : decode cX6_takeCorner 86 = .ok (.aload_n 0, 1) := by decide +kernel
theorem dX6_takeCorner_87 : decode cX6_takeCorner 87 = .ok (.iconst 4, 1) := by decide +kernel
theorem dX6_takeCorner_88 : decode cX6_takeCorner 88 = .ok (.aload_n 0, 1) := by decide +kernel
theorem dX6_takeCorner_89 : decode cX6_takeCorner 89 = .ok (.getfield 166, 3) := by decide +kernel
theorem dX6_takeCorner_92 : decode cX6_takeCorner 92 = .ok (.invokevirtual 162, 3) := by decide +kernel
theorem dX6_takeCorner_95 : decode cX6_takeCorner 95 = .ok (.goto 4, 3) := by decide +kernel
theorem dX6_takeCorner_98 : decode cX6_takeCorner 98 = .ok (.iconst 0, 1) := by decide +kernel
theorem dX6_takeCorner_99 : decode cX6_takeCorner 99 = .ok (.ireturn, 1) := by decide +kernel
theorem dX6_takeLie_0 : decode cX6_takeLie 0 = .ok (.aload_n 0, 1) := by decide +kernel
theorem dX6_takeLie_1 : decode cX6_takeLie 1 = .ok (.iconst 1, 1) := by decide +kernel
theorem dX6_takeLie_2 : decode cX6_takeLie 2 = .ok (.invokevirtual 189, 3) := by decide +kernel
theorem dX6_takeLie_5 : decode cX6_takeLie 5 = .ok (.istore_n 1, 1) := by decide +kernel
theorem dX6_takeLie_6 : decode cX6_takeLie 6 = .ok (.iload_n 1, 1) := by decide +kernel
theorem dX6_takeLie_7 : decode cX6_takeLie 7 = .ok (.ifCond .le 7, 3) := by decide +kernel
theorem dX6_takeLie_10 : decode cX6_takeLie 10 = .ok (.iload_n 1, 1) := by decide +kernel
theorem dX6_takeLie_11 : decode cX6_takeLie 11 = .ok (.goto 10, 3) := by decide +kernel
theorem dX6_takeLie_14 : decode cX6_takeLie 14 = .ok (.aload_n 0, 1) := by decide +kernel
theorem dX6_takeLie_15 : decode cX6_takeLie 15 = .ok (.iconst 0, 1) := by decide +kernel
theorem dX6_takeLie_16 : decode cX6_takeLie 16 = .ok (.bipush 99, 2) := by decide +kernel
theorem dX6_takeLie_18 : decode cX6_takeLie 18 = .ok (.invokevirtual 173, 3) := by decide +kernel
theorem dX6_takeLie_21 : decode cX6_takeLie 21 = .ok (.istore_n 1, 1) := by decide +kernel
theorem dX6_takeLie_22 : decode cX6_takeLie 22 = .ok (.aload_n 0, 1) := by decide +kernel
theorem dX6_takeLie_23 : decode cX6_takeLie 23 = .ok (.getfield 169, 3) := by decide +kernel
theorem dX6_takeLie_26 : decode cX6_takeLie 26 = .ok (.istore_n 2, 1) := by decide +kernel
theorem dX6_takeLie_27 : decode cX6_takeLie 27 = .ok (.iload_n 1, 1) := by decide +kernel
theorem dX6_takeLie_28 : decode cX6_takeLie 28 = .ok (.ifCond .le 7, 3) := by decide +kernel
theorem dX6_takeLie_31 : decode cX6_takeLie 31 = .ok (.iload_n 1, 1) := by decide +kernel
theorem dX6_takeLie_32 : decode cX6_takeLie 32 = .ok (.goto 10, 3) := by decide +kernel
theorem dX6_takeLie_35 : decode cX6_takeLie 35 = .ok (.aload_n 0, 1) := by decide +kernel
theorem dX6_takeLie_36 : decode cX6_takeLie 36 = .ok (.iconst 0, 1) := by decide +kernel
theorem dX6_takeLie_37 : decode cX6_takeLie 37 = .ok (.bipush 99, 2) := by decide +kernel
theorem dX6_takeLie_39 : decode cX6_takeLie 39 = .ok (.invokevirtual 173, 3) := by decide +kernel
theorem dX6_takeLie_42 : decode cX6_takeLie 42 = .ok (.istore_n 1, 1) := by decide +kernel
theorem dX6_takeLie_43 : decode cX6_takeLie 43 = .ok (.iload_n 1, 1) := by decide +kernel
theorem dX6_takeLie_44 : decode cX6_takeLie 44 = .ok (.ifCond .le 5, 3) := by decide +kernel
theorem dX6_takeLie_47 : decode cX6_takeLie 47 = .ok (.iload_n 1, 1) := by decide +kernel
theorem dX6_takeLie_48 : decode cX6_takeLie 48 = .ok (.ireturn, 1) := by decide +kernel
theorem dX6_takeLie_49 : decode cX6_takeLie 49 = .ok (.aload_n 0, 1) := by decide +kernel
theorem dX6_takeLie_50 : decode cX6_takeLie 50 = .ok (.getfield 186, 3) := by decide +kernel
theorem dX6_takeLie_53 : decode cX6_takeLie 53 = .ok (.bipush 9, 2) := by decide +kernel
theorem dX6_takeLie_55 : decode cX6_takeLie 55 = .ok (.irem, 1) := by decide +kernel
theorem dX6_takeLie_56 : decode cX6_takeLie 56 = .ok (.istore_n 3, 1) := by decide +kernel
theorem dX6_takeLie_57 : decode cX6_takeLie 57 = .ok (.iload_n 2, 1) := by decide +kernel
theorem dX6_takeLie_58 : decode cX6_takeLie 58 = .ok (.aload_n 0, 1) := by decide +kernel
theorem dX6_takeLie_59 : decode cX6_takeLie 59 = .ok (.getfield 53, 3) := by decide +kernel
theorem dX6_takeLie_62 : decode cX6_takeLie 62 = .ok (.iload_n 3, 1) := by decide +kernel
theorem dX6_takeLie_63 : decode cX6_takeLie 63 = .ok (.iaload, 1) := by decide +kernel
theorem dX6_takeLie_64 : decode cX6_takeLie 64 = .ok (.isub, 1) := by decide +kernel
theorem dX6_takeLie_65 : decode cX6_takeLie 65 = .ok (.invokestatic 193, 3) := by decide +kernel
theorem dX6_takeLie_68 : decode cX6_takeLie 68 = .ok (.iconst 2, 1) := by decide +kernel
theorem dX6_takeLie_69 : decode cX6_takeLie 69 = .ok (.aload_n 0, 1) := by decide +kernel
theorem dX6_takeLie_70 : decode cX6_takeLie 70 = .ok (.getfield 197, 3) := by decide +kernel
theorem dX6_takeLie_73 : decode cX6_takeLie 73 = .ok (.imul, 1) := by decide +kernel
theorem dX6_takeLie_74 : decode cX6_takeLie 74 = .ok (.if_icmp .gt 36, 3) := by decide +kernel
theorem dX6_takeLie_77 : decode cX6_takeLie 77 = .ok (.aload_n 0, 1) := by decide +kernel
theorem dX6_takeLie_78 : decode cX6_takeLie 78 = .ok (.getfield 169, 3) := by decide +kernel
theorem dX6_takeLie_81 : decode cX6_takeLie 81 = .ok (.aload_n 0, 1) := by decide +kernel
theorem dX6_takeLie_82 : decode cX6_takeLie 82 = .ok (.getfield 56, 3) := by decide +kernel
theorem dX6_takeLie_85 : decode cX6_takeLie 85 = .ok (.iload_n 3, 1) := by decide +kernel
theorem dX6_takeLie_86 : decode cX6_takeLie 86 = .ok (.iaload, 1) := by decide +kernel
theorem dX6_takeLie_87 : decode cX6_takeLie 87 = .ok (.isub, 1) := by decide +kernel
theorem dX6_takeLie_88 : decode cX6_takeLie 88 = .ok (.invokestatic 193, 3) := by decide +kernel
theorem dX6_takeLie_91 : decode cX6_takeLie 91 = .ok (.iconst 2, 1) := by decide +kernel
theorem dX6_takeLie_92 : decode cX6_takeLie 92 = .ok (.aload_n 0, 1) := by decide +kernel
theorem dX6_takeLie_93 : decode cX6_takeLie 93 = .ok (.getfield 197, 3) := by decide +kernel
theorem dX6_takeLie_96 : decode cX6_takeLie 96 = .ok (.imul, 1) := by decide +kernel
theorem dX6_takeLie_97 : decode cX6_takeLie 97 = .ok (.if_icmp .gt 13, 3) := by decide +kernel
theorem dX6_takeLie_100 : decode cX6_takeLie 100 = .ok (.aload_n 0, 1) := by decide +kernel
theorem dX6_takeLie_101 : decode cX6_takeLie 101 = .ok (.iconst 4, 1) := by decide +kernel
theorem dX6_takeLie_102 : decode cX6_takeLie 102 = .ok (.aload_n 0, 1) := by decide +kernel
theorem dX6_takeLie_103 : decode cX6_takeLie 103 = .ok (.getfield 166, 3) := by decide +kernel
theorem dX6_takeLie_106 : decode cX6_takeLie 106 = .ok (.invokevirtual 162, 3) := by decide +kernel
theorem dX6_takeLie_109 : decode cX6_takeLie 109 = .ok (.ireturn, 1) := by decide +kernel
theorem dX6_takeLie_110 : decode cX6_takeLie 110 = .ok (.aload_n 0, 1) := by decide +kernel
theorem dX6_takeLie_111 : decode cX6_takeLie 111 = .ok (.getfield 59, 3) := by decide +kernel
theorem dX6_takeLie_114 : decode cX6_takeLie 114 = .ok (.aload_n 0, 1) := by decide +kernel
theorem dX6_takeLie_115 : decode cX6_takeLie 115 = .ok (.getfield 186, 3) := by decide +kernel
theorem dX6_takeLie_118 : decode cX6_takeLie 118 = .ok (.iload_n 2, 1) := by decide +kernel
theorem dX6_takeLie_119 : decode cX6_takeLie 119 = .ok (.iastore, 1) := by decide +kernel
theorem dX6_takeLie_120 : decode cX6_takeLie 120 = .ok (.aload_n 0, 1) := by decide +kernel
theorem dX6_takeLie_121 : decode cX6_takeLie 121 = .ok (.getfield 62, 3) := by decide +kernel
theorem dX6_takeLie_124 : decode cX6_takeLie 124 = .ok (.aload_n 0, 1) := by decide +kernel
theorem dX6_takeLie_125 : decode cX6_takeLie 125 = .ok (.getfield 186, 3) := by decide +kernel
theorem dX6_takeLie_128 : decode cX6_takeLie 128 = .ok (.aload_n 0, 1) := by decide +kernel
theorem dX6_takeLie_129 : decode cX6_takeLie 129 = .ok (.getfield 169, 3) := by decide +kernel
theorem dX6_takeLie_132 : decode cX6_takeLie 132 = .ok (.iastore, 1) := by decide +kernel
theorem dX6_takeLie_133 : decode cX6_takeLie 133 = .ok (.aload_n 0, 1) := by decide +kernel
theorem dX6_takeLie_134 : decode cX6_takeLie 134 = .ok (.getfield 65, 3) := by decide +kernel
theorem dX6_takeLie_137 : decode cX6_takeLie 137 = .ok (.aload_n 0, 1) := by decide +kernel
theorem dX6_takeLie_138 : decode cX6_takeLie 138 = .ok (.getfield 186, 3) := by decide +kernel
theorem dX6_takeLie_141 : decode cX6_takeLie 141 = .ok (.iconst 1, 1) := by decide +kernel
theorem dX6_takeLie_142 : decode cX6_takeLie 142 = .ok (.bastore, 1) := by decide +kernel
theorem dX6_takeLie_143 : decode cX6_takeLie 143 = .ok (.aload_n 0, 1) := by decide +kernel
theorem dX6_takeLie_144 : decode cX6_takeLie 144 = .ok (.dup, 1) := by decide +kernel
theorem dX6_takeLie_145 : decode cX6_takeLie 145 = .ok (.getfield 179, 3) := by decide +kernel
theorem dX6_takeLie_148 : decode cX6_takeLie 148 = .ok (.iconst 1, 1) := by decide +kernel
theorem dX6_takeLie_149 : decode cX6_takeLie 149 = .ok (.aload_n 0, 1) := by decide +kernel
theorem dX6_takeLie_150 : decode cX6_takeLie 150 = .ok (.getfield 186, 3) := by decide +kernel
theorem dX6_takeLie_153 : decode cX6_takeLie 153 = .ok (.bipush 9, 2) := by decide +kernel
theorem dX6_takeLie_155 : decode cX6_takeLie 155 = .ok (.idiv, 1) := by decide +kernel
theorem dX6_takeLie_156 : decode cX6_takeLie 156 = .ok (.ishl, 1) := by decide +kernel
theorem dX6_takeLie_157 : decode cX6_takeLie 157 = .ok (.ior, 1) := by decide +kernel
theorem dX6_takeLie_158 : decode cX6_takeLie 158 = .ok (.putfield 179, 3) := by decide +kernel
theorem dX6_takeLie_161 : decode cX6_takeLie 161 = .ok (.aload_n 0, 1) := by decide +kernel
theorem dX6_takeLie_162 : decode cX6_takeLie 162 = .ok (.dup, 1) := by decide +kernel
theorem dX6_takeLie_163 : decode cX6_takeLie 163 = .ok (.getfield 200, 3) := by decide +kernel
theorem dX6_takeLie_166 : decode cX6_takeLie 166 = .ok (.iconst 1, 1) := by decide +kernel
theorem dX6_takeLie_167 : decode cX6_takeLie 167 = .ok (.iadd, 1) := by decide +kernel
theorem dX6_takeLie_168 : decode cX6_takeLie 168 = .ok (.putfield 200, 3) := by decide +kernel
theorem dX6_takeLie_171 : decode cX6_takeLie 171 = .ok (.iconst 0, 1) := by decide +kernel
theorem dX6_takeLie_172 : decode cX6_takeLie 172 = .ok (.ireturn, 1) := by decide +kernel
theorem dX6_takeErr_0 : decode cX6_takeErr 0 = .ok (.aload_n 0, 1) := by decide +kernel
theorem dX6_takeErr_1 : decode cX6_takeErr 1 = .ok (.iconst 0, 1) := by decide +kernel
theorem dX6_takeErr_2 : decode cX6_takeErr 2 = .ok (.invokevirtual 189, 3) := by decide +kernel
theorem dX6_takeErr_5 : decode cX6_takeErr 5 = .ok (.istore_n 1, 1) := by decide +kernel
theorem dX6_takeErr_6 : decode cX6_takeErr 6 = .ok (.iload_n 1, 1) := by decide +kernel
theorem dX6_takeErr_7 : decode cX6_takeErr 7 = .ok (.ifCond .le 7, 3) := by decide +kernel
theorem dX6_takeErr_10 : decode cX6_takeErr 10 = .ok (.iload_n 1, 1) := by decide +kernel
theorem dX6_takeErr_11 : decode cX6_takeErr 11 = .ok (.goto 21, 3) := by decide +kernel
theorem dX6_takeErr_14 : decode cX6_takeErr 14 = .ok (.aload_n 0, 1) := by decide +kernel
theorem dX6_takeErr_15 : decode cX6_takeErr 15 = .ok (.bipush 9, 2) := by decide +kernel
theorem dX6_takeErr_17 : decode cX6_takeErr 17 = .ok (.aload_n 0, 1) := by decide +kernel
theorem dX6_takeErr_18 : decode cX6_takeErr 18 = .ok (.getfield 197, 3) := by decide +kernel
theorem dX6_takeErr_21 : decode cX6_takeErr 21 = .ok (.isub, 1) := by decide +kernel
theorem dX6_takeErr_22 : decode cX6_takeErr 22 = .ok (.bipush 9, 2) := by decide +kernel
theorem dX6_takeErr_24 : decode cX6_takeErr 24 = .ok (.aload_n 0, 1) := by decide +kernel
theorem dX6_takeErr_25 : decode cX6_takeErr 25 = .ok (.getfield 197, 3) := by decide +kernel
theorem dX6_takeErr_28 : decode cX6_takeErr 28 = .ok (.iadd, 1) := by decide +kernel
theorem dX6_takeErr_29 : decode cX6_takeErr 29 = .ok (.invokevirtual 173, 3) := by decide +kernel
theorem dX6_takeErr_32 : decode cX6_takeErr 32 = .ok (.istore_n 1, 1) := by decide +kernel
theorem dX6_takeErr_33 : decode cX6_takeErr 33 = .ok (.aload_n 0, 1) := by decide +kernel
theorem dX6_takeErr_34 : decode cX6_takeErr 34 = .ok (.getfield 169, 3) := by decide +kernel
theorem dX6_takeErr_37 : decode cX6_takeErr 37 = .ok (.istore_n 2, 1) := by decide +kernel
theorem dX6_takeErr_38 : decode cX6_takeErr 38 = .ok (.iload_n 1, 1) := by decide +kernel
theorem dX6_takeErr_39 : decode cX6_takeErr 39 = .ok (.ifCond .le 7, 3) := by decide +kernel
theorem dX6_takeErr_42 : decode cX6_takeErr 42 = .ok (.iload_n 1, 1) := by decide +kernel
theorem dX6_takeErr_43 : decode cX6_takeErr 43 = .ok (.goto 21, 3) := by decide +kernel
theorem dX6_takeErr_46 : decode cX6_takeErr 46 = .ok (.aload_n 0, 1) := by decide +kernel
theorem dX6_takeErr_47 : decode cX6_takeErr 47 = .ok (.bipush 9, 2) := by decide +kernel
theorem dX6_takeErr_49 : decode cX6_takeErr 49 = .ok (.aload_n 0, 1) := by decide +kernel
theorem dX6_takeErr_50 : decode cX6_takeErr 50 = .ok (.getfield 197, 3) := by decide +kernel
theorem dX6_takeErr_53 : decode cX6_takeErr 53 = .ok (.isub, 1) := by decide +kernel
theorem dX6_takeErr_54 : decode cX6_takeErr 54 = .ok (.bipush 9, 2) := by decide +kernel
theorem dX6_takeErr_56 : decode cX6_takeErr 56 = .ok (.aload_n 0, 1) := by decide +kernel
theorem dX6_takeErr_57 : decode cX6_takeErr 57 = .ok (.getfield 197, 3) := by decide +kernel
theorem dX6_takeErr_60 : decode cX6_takeErr 60 = .ok (.iadd, 1) := by decide +kernel
theorem dX6_takeErr_61 : decode cX6_takeErr 61 = .ok (.invokevirtual 173, 3) := by decide +kernel
theorem dX6_takeErr_64 : decode cX6_takeErr 64 = .ok (.istore_n 1, 1) := by decide +kernel
theorem dX6_takeErr_65 : decode cX6_takeErr 65 = .ok (.iload_n 1, 1) := by decide +kernel
theorem dX6_takeErr_66 : decode cX6_takeErr 66 = .ok (.ifCond .le 5, 3) := by decide +kernel
theorem dX6_takeErr_69 : decode cX6_takeErr 69 = .ok (.iload_n 1, 1) := by decide +kernel
theorem dX6_takeErr_70 : decode cX6_takeErr 70 = .ok (.ireturn, 1) := by decide +kernel
theorem dX6_takeErr_71 : decode cX6_takeErr 71 = .ok (.aload_n 0, 1) := by decide +kernel
theorem dX6_takeErr_72 : decode cX6_takeErr 72 = .ok (.getfield 59, 3) := by decide +kernel
theorem dX6_takeErr_75 : decode cX6_takeErr 75 = .ok (.aload_n 0, 1) := by decide +kernel
theorem dX6_takeErr_76 : decode cX6_takeErr 76 = .ok (.getfield 186, 3) := by decide +kernel
theorem dX6_takeErr_79 : decode cX6_takeErr 79 = .ok (.aload_n 0, 1) := by decide +kernel
theorem dX6_takeErr_80 : decode cX6_takeErr 80 = .ok (.getfield 53, 3) := by decide +kernel
theorem dX6_takeErr_83 : decode cX6_takeErr 83 = .ok (.aload_n 0, 1) := by decide +kernel
theorem dX6_takeErr_84 : decode cX6_takeErr 84 = .ok (.getfield 186, 3) := by decide +kernel
theorem dX6_takeErr_87 : decode cX6_takeErr 87 = .ok (.bipush 9, 2) := by decide +kernel
theorem dX6_takeErr_89 : decode cX6_takeErr 89 = .ok (.irem, 1) := by decide +kernel
theorem dX6_takeErr_90 : decode cX6_takeErr 90 = .ok (.iaload, 1) := by decide +kernel
theorem dX6_takeErr_91 : decode cX6_takeErr 91 = .ok (.iload_n 2, 1) := by decide +kernel
theorem dX6_takeErr_92 : decode cX6_takeErr 92 = .ok (.iadd, 1) := by decide +kernel
theorem dX6_takeErr_93 : decode cX6_takeErr 93 = .ok (.bipush 9, 2) := by decide +kernel
theorem dX6_takeErr_95 : decode cX6_takeErr 95 = .ok (.isub, 1) := by decide +kernel
theorem dX6_takeErr_96 : decode cX6_takeErr 96 = .ok (.iastore, 1) := by decide +kernel
theorem dX6_takeErr_97 : decode cX6_takeErr 97 = .ok (.aload_n 0, 1) := by decide +kernel
theorem dX6_takeErr_98 : decode cX6_takeErr 98 = .ok (.getfield 62, 3) := by decide +kernel
theorem dX6_takeErr_101 : decode cX6_takeErr 101 = .ok (.aload_n 0, 1) := by decide +kernel
theorem dX6_takeErr_102 : decode cX6_takeErr 102 = .ok (.getfield 186, 3) := by decide +kernel
theorem dX6_takeErr_105 : decode cX6_takeErr 105 = .ok (.aload_n 0, 1) := by decide +kernel
theorem dX6_takeErr_106 : decode cX6_takeErr 106 = .ok (.getfield 56, 3) := by decide +kernel
theorem dX6_takeErr_109 : decode cX6_takeErr 109 = .ok (.aload_n 0, 1) := by decide +kernel
theorem dX6_takeErr_110 : decode cX6_takeErr 110 = .ok (.getfield 186, 3) := by decide +kernel
theorem dX6_takeErr_113 : decode cX6_takeErr 113 = .ok (.bipush 9, 2) := by decide +kernel
theorem dX6_takeErr_115 : decode cX6_takeErr 115 = .ok (.irem, 1) := by decide +kernel
theorem dX6_takeErr_116 : decode cX6_takeErr 116 = .ok (.iaload, 1) := by decide +kernel
theorem dX6_takeErr_117 : decode cX6_takeErr 117 = .ok (.aload_n 0, 1) := by decide +kernel
theorem dX6_takeErr_118 : decode cX6_takeErr 118 = .ok (.getfield 169, 3) := by decide +kernel
theorem dX6_takeErr_121 : decode cX6_takeErr 121 = .ok (.iadd, 1) := by decide +kernel
theorem dX6_takeErr_122 : decode cX6_takeErr 122 = .ok (.bipush 9, 2) := by decide +kernel
theorem dX6_takeErr_124 : decode cX6_takeErr 124 = .ok (.isub, 1) := by decide +kernel
theorem dX6_takeErr_125 : decode cX6_takeErr 125 = .ok (.iastore, 1) := by decide +kernel
theorem dX6_takeErr_126 : decode cX6_takeErr 126 = .ok (.aload_n 0, 1) := by decide +kernel
theorem dX6_takeErr_127 : decode cX6_takeErr 127 = .ok (.getfield 65, 3) := by decide +kernel
theorem dX6_takeErr_130 : decode cX6_takeErr 130 = .ok (.aload_n 0, 1) := by decide +kernel
theorem dX6_takeErr_131 : decode cX6_takeErr 131 = .ok (.getfield 186, 3) := by decide +kernel
theorem dX6_takeErr_134 : decode cX6_takeErr 134 = .ok (.iconst 1, 1) := by decide +kernel
theorem dX6_takeErr_135 : decode cX6_takeErr 135 = .ok (.bastore, 1) := by decide +kernel
theorem dX6_takeErr_136 : decode cX6_takeErr 136 = .ok (.aload_n 0, 1) := by decide +kernel
theorem dX6_takeErr_137 : decode cX6_takeErr 137 = .ok (.dup, 1) := by decide +kernel
theorem dX6_takeErr_138 : decode cX6_takeErr 138 = .ok (.getfield 203, 3) := by decide +kernel
theorem dX6_takeErr_141 : decode cX6_takeErr 141 = .ok (.iconst 1, 1) := by decide +kernel
theorem dX6_takeErr_142 : decode cX6_takeErr 142 = .ok (.iadd, 1) := by decide +kernel
theorem dX6_takeErr_143 : decode cX6_takeErr 143 = .ok (.putfield 203, 3) := by decide +kernel
theorem dX6_takeErr_146 : decode cX6_takeErr 146 = .ok (.iconst 0, 1) := by decide +kernel
theorem dX6_takeErr_147 : decode cX6_takeErr 147 = .ok (.ireturn, 1) := by decide +kernel
theorem dX6_clauseOf_0 : decode cX6_clauseOf 0 = .ok (.aload_n 0, 1) := by decide +kernel
theorem dX6_clauseOf_1 : decode cX6_clauseOf 1 = .ok (.getfield 139, 3) := by decide +kernel
theorem dX6_clauseOf_4 : decode cX6_clauseOf 4 = .ok (.bipush 109, 2) := by decide +kernel
theorem dX6_clauseOf_6 : decode cX6_clauseOf 6 = .ok (.bipush 97, 2) := by decide +kernel
theorem dX6_clauseOf_8 : decode cX6_clauseOf 8 = .ok (.bipush 114, 2) := by decide +kernel
theorem dX6_clauseOf_10 : decode cX6_clauseOf 10 = .ok (.invokestatic 206, 3) := by decide +kernel
theorem dX6_clauseOf_13 : decode cX6_clauseOf 13 = .ok (.bipush 107, 2) := by decide +kernel
theorem dX6_clauseOf_15 : decode cX6_clauseOf 15 = .ok (.iconst 0, 1) := by decide +kernel
theorem dX6_clauseOf_16 : decode cX6_clauseOf 16 = .ok (.invokestatic 210, 3) := by decide +kernel
theorem dX6_clauseOf_19 : decode cX6_clauseOf 19 = .ok (.lcmp, 1) := by decide +kernel
theorem dX6_clauseOf_20 : decode cX6_clauseOf 20 = .ok (.ifCond .ne 7, 3) := by decide +kernel
theorem dX6_clauseOf_23 : decode cX6_clauseOf 23 = .ok (.iconst 0, 1) := by decide +kernel
theorem dX6_clauseOf_24 : decode cX6_clauseOf 24 = .ok (.goto 65, 3) := by decide +kernel
theorem dX6_clauseOf_27 : decode cX6_clauseOf 27 = .ok (.aload_n 0, 1) := by decide +kernel
theorem dX6_clauseOf_28 : decode cX6_clauseOf 28 = .ok (.getfield 139, 3) := by decide +kernel
theorem dX6_clauseOf_31 : decode cX6_clauseOf 31 = .ok (.bipush 103, 2) := by decide +kernel
theorem dX6_clauseOf_33 : decode cX6_clauseOf 33 = .ok (.bipush 111, 2) := by decide +kernel
theorem dX6_clauseOf_35 : decode cX6_clauseOf 35 = .ok (.bipush 97, 2) := by decide +kernel
theorem dX6_clauseOf_37 : decode cX6_clauseOf 37 = .ok (.invokestatic 206, 3) := by decide +kernel
theorem dX6_clauseOf_40 : decode cX6_clauseOf 40 = .ok (.bipush 108, 2) := by decide +kernel
theorem dX6_clauseOf_42 : decode cX6_clauseOf 42 = .ok (.iconst 0, 1) := by decide +kernel
theorem dX6_clauseOf_43 : decode cX6_clauseOf 43 = .ok (.invokestatic 210, 3) := by decide +kernel
theorem dX6_clauseOf_46 : decode cX6_clauseOf 46 = .ok (.lcmp, 1) := by decide +kernel
theorem dX6_clauseOf_47 : decode cX6_clauseOf 47 = .ok (.ifCond .ne 7, 3) := by decide +kernel
theorem dX6_clauseOf_50 : decode cX6_clauseOf 50 = .ok (.iconst 1, 1) := by decide +kernel
theorem dX6_clauseOf_51 : decode cX6_clauseOf 51 = .ok (.goto 38, 3) := by decide +kernel
theorem dX6_clauseOf_54 : decode cX6_clauseOf 54 = .ok (.aload_n 0, 1) := by decide +kernel
theorem dX6_clauseOf_55 : decode cX6_clauseOf 55 = .ok (.getfield 139, 3) := by decide +kernel
theorem dX6_clauseOf_58 : decode cX6_clauseOf 58 = .ok (.bipush 119, 2) := by decide +kernel
theorem dX6_clauseOf_60 : decode cX6_clauseOf 60 = .ok (.bipush 105, 2) := by decide +kernel
theorem dX6_clauseOf_62 : decode cX6_clauseOf 62 = .ok (.bipush 116, 2) := by decide +kernel
theorem dX6_clauseOf_64 : decode cX6_clauseOf 64 = .ok (.invokestatic 206, 3) := by decide +kernel
theorem dX6_clauseOf_67 : decode cX6_clauseOf 67 = .ok (.bipush 104, 2) := by decide +kernel
theorem dX6_clauseOf_69 : decode cX6_clauseOf 69 = .ok (.bipush 105, 2) := by decide +kernel
theorem dX6_clauseOf_71 : decode cX6_clauseOf 71 = .ok (.invokestatic 210, 3) := by decide +kernel
theorem dX6_clauseOf_74 : decode cX6_clauseOf 74 = .ok (.bipush 110, 2) := by decide +kernel
theorem dX6_clauseOf_76 : decode cX6_clauseOf 76 = .ok (.iconst 0, 1) := by decide +kernel
theorem dX6_clauseOf_77 : decode cX6_clauseOf 77 = .ok (.invokestatic 210, 3) := by decide +kernel
theorem dX6_clauseOf_80 : decode cX6_clauseOf 80 = .ok (.lcmp, 1) := by decide +kernel
theorem dX6_clauseOf_81 : decode cX6_clauseOf 81 = .ok (.ifCond .ne 7, 3) := by decide +kernel
theorem dX6_clauseOf_84 : decode cX6_clauseOf 84 = .ok (.iconst 2, 1) := by decide +kernel
theorem dX6_clauseOf_85 : decode cX6_clauseOf 85 = .ok (.goto 4, 3) := by decide +kernel
theorem dX6_clauseOf_88 : decode cX6_clauseOf 88 = .ok (.iconst (-1), 1) := by decide +kernel
theorem dX6_clauseOf_89 : decode cX6_clauseOf 89 = .ok (.istore_n 1, 1) := by decide +kernel
theorem dX6_clauseOf_90 : decode cX6_clauseOf 90 = .ok (.aload_n 0, 1) := by decide +kernel
theorem dX6_clauseOf_91 : decode cX6_clauseOf 91 = .ok (.getfield 139, 3) := by decide +kernel
theorem dX6_clauseOf_94 : decode cX6_clauseOf 94 = .ok (.bipush 108, 2) := by decide +kernel
theorem dX6_clauseOf_96 : decode cX6_clauseOf 96 = .ok (.bipush 105, 2) := by decide +kernel
theorem dX6_clauseOf_98 : decode cX6_clauseOf 98 = .ok (.bipush 101, 2) := by decide +kernel
theorem dX6_clauseOf_100 : decode cX6_clauseOf 100 = .ok (.invokestatic 206, 3) := by decide +kernel
theorem dX6_clauseOf_103 : decode cX6_clauseOf 103 = .ok (.lcmp, 1) := by decide +kernel
theorem dX6_clauseOf_104 : decode cX6_clauseOf 104 = .ok (.ifCond .ne 7, 3) := by decide +kernel
theorem dX6_clauseOf_107 : decode cX6_clauseOf 107 = .ok (.iconst 3, 1) := by decide +kernel
theorem dX6_clauseOf_108 : decode cX6_clauseOf 108 = .ok (.goto 82, 3) := by decide +kernel
theorem dX6_clauseOf_111 : decode cX6_clauseOf 111 = .ok (.aload_n 0, 1) := by decide +kernel
theorem dX6_clauseOf_112 : decode cX6_clauseOf 112 = .ok (.getfield 139, 3) := by decide +kernel
theorem dX6_clauseOf_115 : decode cX6_clauseOf 115 = .ok (.bipush 101, 2) := by decide +kernel
theorem dX6_clauseOf_117 : decode cX6_clauseOf 117 = .ok (.bipush 114, 2) := by decide +kernel
theorem dX6_clauseOf_119 : decode cX6_clauseOf 119 = .ok (.bipush 114, 2) := by decide +kernel
theorem dX6_clauseOf_121 : decode cX6_clauseOf 121 = .ok (.invokestatic 206, 3) := by decide +kernel
theorem dX6_clauseOf_124 : decode cX6_clauseOf 124 = .ok (.lcmp, 1) := by decide +kernel
theorem dX6_clauseOf_125 : decode cX6_clauseOf 125 = .ok (.ifCond .ne 7, 3) := by decide +kernel
theorem dX6_clauseOf_128 : decode cX6_clauseOf 128 = .ok (.iconst 4, 1) := by decide +kernel
theorem dX6_clauseOf_129 : decode cX6_clauseOf 129 = .ok (.goto 61, 3) := by decide +kernel
theorem dX6_clauseOf_132 : decode cX6_clauseOf 132 = .ok (.aload_n 0, 1) := by decide +kernel
theorem dX6_clauseOf_133 : decode cX6_clauseOf 133 = .ok (.getfield 139, 3) := by decide +kernel
theorem dX6_clauseOf_136 : decode cX6_clauseOf 136 = .ok (.bipush 115, 2) := by decide +kernel
theorem dX6_clauseOf_138 : decode cX6_clauseOf 138 = .ok (.bipush 112, 2) := by decide +kernel
theorem dX6_clauseOf_140 : decode cX6_clauseOf 140 = .ok (.bipush 97, 2) := by decide +kernel
theorem dX6_clauseOf_142 : decode cX6_clauseOf 142 = .ok (.invokestatic 206, 3) := by decide +kernel
theorem dX6_clauseOf_145 : decode cX6_clauseOf 145 = .ok (.bipush 100, 2) := by decide +kernel
theorem dX6_clauseOf_147 : decode cX6_clauseOf 147 = .ok (.bipush 101, 2) := by decide +kernel
theorem dX6_clauseOf_149 : decode cX6_clauseOf 149 = .ok (.invokestatic 210, 3) := by decide +kernel
theorem dX6_clauseOf_152 : decode cX6_clauseOf 152 = .ok (.lcmp, 1) := by decide +kernel
theorem dX6_clauseOf_153 : decode cX6_clauseOf 153 = .ok (.ifCond .ne 7, 3) := by decide +kernel
theorem dX6_clauseOf_156 : decode cX6_clauseOf 156 = .ok (.iconst 5, 1) := by decide +kernel
theorem dX6_clauseOf_157 : decode cX6_clauseOf 157 = .ok (.goto 33, 3) := by decide +kernel
theorem dX6_clauseOf_160 : decode cX6_clauseOf 160 = .ok (.aload_n 0, 1) := by decide +kernel
theorem dX6_clauseOf_161 : decode cX6_clauseOf 161 = .ok (.getfield 139, 3) := by decide +kernel
theorem dX6_clauseOf_164 : decode cX6_clauseOf 164 = .ok (.bipush 112, 2) := by decide +kernel
theorem dX6_clauseOf_166 : decode cX6_clauseOf 166 = .ok (.bipush 114, 2) := by decide +kernel
theorem dX6_clauseOf_168 : decode cX6_clauseOf 168 = .ok (.bipush 105, 2) := by decide +kernel
theorem dX6_clauseOf_170 : decode cX6_clauseOf 170 = .ok (.invokestatic 206, 3) := by decide +kernel
theorem dX6_clauseOf_173 : decode cX6_clauseOf 173 = .ok (.bipush 122, 2) := by decide +kernel
theorem dX6_clauseOf_175 : decode cX6_clauseOf 175 = .ok (.bipush 101, 2) := by decide +kernel
theorem dX6_clauseOf_177 : decode cX6_clauseOf 177 = .ok (.invokestatic 210, 3) := by decide +kernel
theorem dX6_clauseOf_180 : decode cX6_clauseOf 180 = .ok (.lcmp, 1) := by decide +kernel
theorem dX6_clauseOf_181 : decode cX6_clauseOf 181 = .ok (.ifCond .ne 8, 3) := by decide +kernel
theorem dX6_clauseOf_184 : decode cX6_clauseOf 184 = .ok (.bipush 6, 2) := by decide +kernel
theorem dX6_clauseOf_186 : decode cX6_clauseOf 186 = .ok (.goto 4, 3) := by decide +kernel
theorem dX6_clauseOf_189 : decode cX6_clauseOf 189 = .ok (.iconst (-1), 1) := by decide +kernel
theorem dX6_clauseOf_190 : decode cX6_clauseOf 190 = .ok (.istore_n 2, 1) := by decide +kernel
theorem dX6_clauseOf_191 : decode cX6_clauseOf 191 = .ok (.iload_n 1, 1) := by decide +kernel
theorem dX6_clauseOf_192 : decode cX6_clauseOf 192 = .ok (.ifCond .lt 7, 3) := by decide +kernel
theorem dX6_clauseOf_195 : decode cX6_clauseOf 195 = .ok (.iload_n 1, 1) := by decide +kernel
theorem dX6_clauseOf_196 : decode cX6_clauseOf 196 = .ok (.goto 4, 3) := by decide +kernel
theorem dX6_clauseOf_199 : decode cX6_clauseOf 199 = .ok (.iload_n 2, 1) := by decide +kernel
theorem dX6_clauseOf_200 : decode cX6_clauseOf 200 = .ok (.ireturn, 1) := by decide +kernel
theorem dX6_takeOf_0 : decode cX6_takeOf 0 = .ok (.iconst 0, 1) := by decide +kernel
theorem dX6_takeOf_1 : decode cX6_takeOf 1 = .ok (.istore_n 2, 1) := by decide +kernel
theorem dX6_takeOf_2 : decode cX6_takeOf 2 = .ok (.iload_n 1, 1) := by decide +kernel
theorem dX6_takeOf_3 : decode cX6_takeOf 3 = .ok (.tableswitch 94 0 5 #[37, 42, 47, 65, 70, 75], 37) := by decide +kernel
theorem dX6_takeOf_40 : decode cX6_takeOf 40 = .ok (.aload_n 0, 1) := by decide +kernel
theorem dX6_takeOf_41 : decode cX6_takeOf 41 = .ok (.invokevirtual 214, 3) := by decide +kernel
theorem dX6_takeOf_44 : decode cX6_takeOf 44 = .ok (.ireturn, 1) := by decide +kernel
theorem dX6_takeOf_45 : decode cX6_takeOf 45 = .ok (.aload_n 0, 1) := by decide +kernel
theorem dX6_takeOf_46 : decode cX6_takeOf 46 = .ok (.invokevirtual 217, 3) := by decide +kernel
theorem dX6_takeOf_49 : decode cX6_takeOf 49 = .ok (.ireturn, 1) := by decide +kernel
theorem dX6_takeOf_50 : decode cX6_takeOf 50 = .ok (.aload_n 0, 1) := by decide +kernel
theorem dX6_takeOf_51 : decode cX6_takeOf 51 = .ok (.iconst 0, 1) := by decide +kernel
theorem dX6_takeOf_52 : decode cX6_takeOf 52 = .ok (.bipush 9, 2) := by decide +kernel
theorem dX6_takeOf_54 : decode cX6_takeOf 54 = .ok (.invokevirtual 173, 3) := by decide +kernel
theorem dX6_takeOf_57 : decode cX6_takeOf 57 = .ok (.istore_n 2, 1) := by decide +kernel
theorem dX6_takeOf_58 : decode cX6_takeOf 58 = .ok (.aload_n 0, 1) := by decide +kernel
theorem dX6_takeOf_59 : decode cX6_takeOf 59 = .ok (.aload_n 0, 1) := by decide +kernel
theorem dX6_takeOf_60 : decode cX6_takeOf 60 = .ok (.getfield 169, 3) := by decide +kernel
theorem dX6_takeOf_63 : decode cX6_takeOf 63 = .ok (.putfield 197, 3) := by decide +kernel
theorem dX6_takeOf_66 : decode cX6_takeOf 66 = .ok (.iload_n 2, 1) := by decide +kernel
theorem dX6_takeOf_67 : decode cX6_takeOf 67 = .ok (.ireturn, 1) := by decide +kernel
theorem dX6_takeOf_68 : decode cX6_takeOf 68 = .ok (.aload_n 0, 1) := by decide +kernel
theorem dX6_takeOf_69 : decode cX6_takeOf 69 = .ok (.invokevirtual 220, 3) := by decide +kernel
theorem dX6_takeOf_72 : decode cX6_takeOf 72 = .ok (.ireturn, 1) := by decide +kernel
theorem dX6_takeOf_73 : decode cX6_takeOf 73 = .ok (.aload_n 0, 1) := by decide +kernel
theorem dX6_takeOf_74 : decode cX6_takeOf 74 = .ok (.invokevirtual 223, 3) := by decide +kernel
theorem dX6_takeOf_77 : decode cX6_takeOf 77 = .ok (.ireturn, 1) := by decide +kernel
theorem dX6_takeOf_78 : decode cX6_takeOf 78 = .ok (.aload_n 0, 1) := by decide +kernel
theorem dX6_takeOf_79 : decode cX6_takeOf 79 = .ok (.iconst 0, 1) := by decide +kernel
theorem dX6_takeOf_80 : decode cX6_takeOf 80 = .ok (.sipush 999, 3) := by decide +kernel
theorem dX6_takeOf_83 : decode cX6_takeOf 83 = .ok (.invokevirtual 173, 3) := by decide +kernel
theorem dX6_takeOf_86 : decode cX6_takeOf 86 = .ok (.istore_n 2, 1) := by decide +kernel
theorem dX6_takeOf_87 : decode cX6_takeOf 87 = .ok (.aload_n 0, 1) := by decide +kernel
theorem dX6_takeOf_88 : decode cX6_takeOf 88 = .ok (.aload_n 0, 1) := by decide +kernel
theorem dX6_takeOf_89 : decode cX6_takeOf 89 = .ok (.getfield 169, 3) := by decide +kernel
theorem dX6_takeOf_92 : decode cX6_takeOf 92 = .ok (.putfield 226, 3) := by decide +kernel
theorem dX6_takeOf_95 : decode cX6_takeOf 95 = .ok (.iload_n 2, 1) := by decide +kernel
theorem dX6_takeOf_96 : decode cX6_takeOf 96 = .ok (.ireturn, 1) := by decide +kernel
theorem dX6_takeOf_97 : decode cX6_takeOf 97 = .ok (.aload_n 0, 1) := by decide +kernel
theorem dX6_takeOf_98 : decode cX6_takeOf 98 = .ok (.iconst 0, 1) := by decide +kernel
theorem dX6_takeOf_99 : decode cX6_takeOf 99 = .ok (.sipush 9999, 3) := by decide +kernel
theorem dX6_takeOf_102 : decode cX6_takeOf 102 = .ok (.invokevirtual 173, 3) := by decide +kernel
theorem dX6_takeOf_105 : decode cX6_takeOf 105 = .ok (.istore_n 2, 1) := by decide +kernel
theorem dX6_takeOf_106 : decode cX6_takeOf 106 = .ok (.aload_n 0, 1) := by decide +kernel
theorem dX6_takeOf_107 : decode cX6_takeOf 107 = .ok (.aload_n 0, 1) := by decide +kernel
theorem dX6_takeOf_108 : decode cX6_takeOf 108 = .ok (.getfield 169, 3) := by decide +kernel
theorem dX6_takeOf_111 : decode cX6_takeOf 111 = .ok (.putfield 229, 3) := by decide +kernel
theorem dX6_takeOf_114 : decode cX6_takeOf 114 = .ok (.iload_n 2, 1) := by decide +kernel
theorem dX6_takeOf_115 : decode cX6_takeOf 115 = .ok (.ireturn, 1) := by decide +kernel
theorem dX6_takeClause_0 : decode cX6_takeClause 0 = .ok (.aload_n 0, 1) := by decide +kernel
theorem dX6_takeClause_1 : decode cX6_takeClause 1 = .ok (.invokevirtual 232, 3) := by decide +kernel
theorem dX6_takeClause_4 : decode cX6_takeClause 4 = .ok (.aload_n 0, 1) := by decide +kernel
theorem dX6_takeClause_5 : decode cX6_takeClause 5 = .ok (.invokevirtual 235, 3) := by decide +kernel
theorem dX6_takeClause_8 : decode cX6_takeClause 8 = .ok (.istore_n 1, 1) := by decide +kernel
theorem dX6_takeClause_9 : decode cX6_takeClause 9 = .ok (.iload_n 1, 1) := by decide +kernel
theorem dX6_takeClause_10 : decode cX6_takeClause 10 = .ok (.ifCond .ne 13, 3) := by decide +kernel
theorem dX6_takeClause_13 : decode cX6_takeClause 13 = .ok (.aload_n 0, 1) := by decide +kernel
theorem dX6_takeClause_14 : decode cX6_takeClause 14 = .ok (.getfield 238, 3) := by decide +kernel
theorem dX6_takeClause_17 : decode cX6_takeClause 17 = .ok (.bipush 26, 2) := by decide +kernel
theorem dX6_takeClause_19 : decode cX6_takeClause 19 = .ok (.iand, 1) := by decide +kernel
theorem dX6_takeClause_20 : decode cX6_takeClause 20 = .ok (.ifCond .ne 18, 3) := by decide +kernel
theorem dX6_takeClause_23 : decode cX6_takeClause 23 = .ok (.iload_n 1, 1) := by decide +kernel
theorem dX6_takeClause_24 : decode cX6_takeClause 24 = .ok (.iconst 2, 1) := by decide +kernel
theorem dX6_takeClause_25 : decode cX6_takeClause 25 = .ok (.if_icmp .ne 17, 3) := by decide +kernel
theorem dX6_takeClause_28 : decode cX6_takeClause 28 = .ok (.aload_n 0, 1) := by decide +kernel
theorem dX6_takeClause_29 : decode cX6_takeClause 29 = .ok (.getfield 238, 3) := by decide +kernel
theorem dX6_takeClause_32 : decode cX6_takeClause 32 = .ok (.bipush 24, 2) := by decide +kernel
theorem dX6_takeClause_34 : decode cX6_takeClause 34 = .ok (.iand, 1) := by decide +kernel
theorem dX6_takeClause_35 : decode cX6_takeClause 35 = .ok (.ifCond .eq 7, 3) := by decide +kernel
theorem dX6_takeClause_38 : decode cX6_takeClause 38 = .ok (.iconst 1, 1) := by decide +kernel
theorem dX6_takeClause_39 : decode cX6_takeClause 39 = .ok (.goto 4, 3) := by decide +kernel
theorem dX6_takeClause_42 : decode cX6_takeClause 42 = .ok (.iconst 0, 1) := by decide +kernel
theorem dX6_takeClause_43 : decode cX6_takeClause 43 = .ok (.istore_n 2, 1) := by decide +kernel
theorem dX6_takeClause_44 : decode cX6_takeClause 44 = .ok (.iload_n 1, 1) := by decide +kernel
theorem dX6_takeClause_45 : decode cX6_takeClause 45 = .ok (.ifCond .lt 7, 3) := by decide +kernel
theorem dX6_takeClause_48 : decode cX6_takeClause 48 = .ok (.iload_n 2, 1) := by decide +kernel
theorem dX6_takeClause_49 : decode cX6_takeClause 49 = .ok (.ifCond .eq 13, 3) := by decide +kernel
theorem dX6_takeClause_52 : decode cX6_takeClause 52 = .ok (.aload_n 0, 1) := by decide +kernel
theorem dX6_takeClause_53 : decode cX6_takeClause 53 = .ok (.iconst 1, 1) := by decide +kernel
theorem dX6_takeClause_54 : decode cX6_takeClause 54 = .ok (.aload_n 0, 1) := by decide +kernel
theorem dX6_takeClause_55 : decode cX6_takeClause 55 = .ok (.getfield 132, 3) := by decide +kernel
theorem dX6_takeClause_58 : decode cX6_takeClause 58 = .ok (.invokevirtual 162, 3) := by decide +kernel
theorem dX6_takeClause_61 : decode cX6_takeClause 61 = .ok (.ireturn, 1) := by decide +kernel
theorem dX6_takeClause_62 : decode cX6_takeClause 62 = .ok (.iload_n 1, 1) := by decide +kernel
theorem dX6_takeClause_63 : decode cX6_takeClause 63 = .ok (.ifCond .ne 20, 3) := by decide +kernel
theorem dX6_takeClause_66 : decode cX6_takeClause 66 = .ok (.aload_n 0, 1) := by decide +kernel
theorem dX6_takeClause_67 : decode cX6_takeClause 67 = .ok (.getfield 176, 3) := by decide +kernel
theorem dX6_takeClause_70 : decode cX6_takeClause 70 = .ok (.bipush 9, 2) := by decide +kernel
theorem dX6_takeClause_72 : decode cX6_takeClause 72 = .ok (.if_icmp .ne 7, 3) := by decide +kernel
theorem dX6_takeClause_75 : decode cX6_takeClause 75 = .ok (.iconst 1, 1) := by decide +kernel
theorem dX6_takeClause_76 : decode cX6_takeClause 76 = .ok (.goto 58, 3) := by decide +kernel
theorem dX6_takeClause_79 : decode cX6_takeClause 79 = .ok (.iconst 0, 1) := by decide +kernel
theorem dX6_takeClause_80 : decode cX6_takeClause 80 = .ok (.goto 54, 3) := by decide +kernel
theorem dX6_takeClause_83 : decode cX6_takeClause 83 = .ok (.iload_n 1, 1) := by decide +kernel
theorem dX6_takeClause_84 : decode cX6_takeClause 84 = .ok (.iconst 3, 1) := by decide +kernel
theorem dX6_takeClause_85 : decode cX6_takeClause 85 = .ok (.if_icmp .ne 19, 3) := by decide +kernel
theorem dX6_takeClause_88 : decode cX6_takeClause 88 = .ok (.aload_n 0, 1) := by decide +kernel
theorem dX6_takeClause_89 : decode cX6_takeClause 89 = .ok (.getfield 200, 3) := by decide +kernel
theorem dX6_takeClause_92 : decode cX6_takeClause 92 = .ok (.iconst 2, 1) := by decide +kernel
theorem dX6_takeClause_93 : decode cX6_takeClause 93 = .ok (.if_icmp .ne 7, 3) := by decide +kernel
theorem dX6_takeClause_96 : decode cX6_takeClause 96 = .ok (.iconst 1, 1) := by decide +kernel
theorem dX6_takeClause_97 : decode cX6_takeClause 97 = .ok (.goto 37, 3) := by decide +kernel
theorem dX6_takeClause_100 : decode cX6_takeClause 100 = .ok (.iconst 0, 1) := by decide +kernel
theorem dX6_takeClause_101 : decode cX6_takeClause 101 = .ok (.goto 33, 3) := by decide +kernel
theorem dX6_takeClause_104 : decode cX6_takeClause 104 = .ok (.iload_n 1, 1) := by decide +kernel
theorem dX6_takeClause_105 : decode cX6_takeClause 105 = .ok (.iconst 4, 1) := by decide +kernel
theorem dX6_takeClause_106 : decode cX6_takeClause 106 = .ok (.if_icmp .ne 20, 3) := by decide +kernel
theorem dX6_takeClause_109 : decode cX6_takeClause 109 = .ok (.aload_n 0, 1) := by decide +kernel
theorem dX6_takeClause_110 : decode cX6_takeClause 110 = .ok (.getfield 203, 3) := by decide +kernel
theorem dX6_takeClause_113 : decode cX6_takeClause 113 = .ok (.bipush 30, 2) := by decide +kernel
theorem dX6_takeClause_115 : decode cX6_takeClause 115 = .ok (.if_icmp .ne 7, 3) := by decide +kernel
theorem dX6_takeClause_118 : decode cX6_takeClause 118 = .ok (.iconst 1, 1) := by decide +kernel
theorem dX6_takeClause_119 : decode cX6_takeClause 119 = .ok (.goto 15, 3) := by decide +kernel
theorem dX6_takeClause_122 : decode cX6_takeClause 122 = .ok (.iconst 0, 1) := by decide +kernel
theorem dX6_takeClause_123 : decode cX6_takeClause 123 = .ok (.goto 11, 3) := by decide +kernel
theorem dX6_takeClause_126 : decode cX6_takeClause 126 = .ok (.aload_n 0, 1) := by decide +kernel
theorem dX6_takeClause_127 : decode cX6_takeClause 127 = .ok (.getfield 238, 3) := by decide +kernel
theorem dX6_takeClause_130 : decode cX6_takeClause 130 = .ok (.iload_n 1, 1) := by decide +kernel
theorem dX6_takeClause_131 : decode cX6_takeClause 131 = .ok (.invokestatic 182, 3) := by decide +kernel
theorem dX6_takeClause_134 : decode cX6_takeClause 134 = .ok (.istore_n 3, 1) := by decide +kernel
theorem dX6_takeClause_135 : decode cX6_takeClause 135 = .ok (.iload_n 3, 1) := by decide +kernel
theorem dX6_takeClause_136 : decode cX6_takeClause 136 = .ok (.ifCond .eq 13, 3) := by decide +kernel
theorem dX6_takeClause_139 : decode cX6_takeClause 139 = .ok (.aload_n 0, 1) := by decide +kernel
theorem dX6_takeClause_140 : decode cX6_takeClause 140 = .ok (.iconst 3, 1) := by decide +kernel
theorem dX6_takeClause_141 : decode cX6_takeClause 141 = .ok (.aload_n 0, 1) := by decide +kernel
theorem dX6_takeClause_142 : decode cX6_takeClause 142 = .ok (.getfield 132, 3) := by decide +kernel
theorem dX6_takeClause_145 : decode cX6_takeClause 145 = .ok (.invokevirtual 162, 3) := by decide +kernel
theorem dX6_takeClause_148 : decode cX6_takeClause 148 = .ok (.ireturn, 1) := by decide +kernel
theorem dX6_takeClause_149 : decode cX6_takeClause 149 = .ok (.aload_n 0, 1) := by decide +kernel
theorem dX6_takeClause_150 : decode cX6_takeClause 150 = .ok (.aload_n 0, 1) := by decide +kernel
theorem dX6_takeClause_151 : decode cX6_takeClause 151 = .ok (.getfield 143, 3) := by decide +kernel
theorem dX6_takeClause_154 : decode cX6_takeClause 154 = .ok (.putfield 132, 3) := by decide +kernel
theorem dX6_takeClause_157 : decode cX6_takeClause 157 = .ok (.aload_n 0, 1) := by decide +kernel
theorem dX6_takeClause_158 : decode cX6_takeClause 158 = .ok (.dup, 1) := by decide +kernel
theorem dX6_takeClause_159 : decode cX6_takeClause 159 = .ok (.getfield 238, 3) := by decide +kernel
theorem dX6_takeClause_162 : decode cX6_takeClause 162 = .ok (.iconst 1, 1) := by decide +kernel
theorem dX6_takeClause_163 : decode cX6_takeClause 163 = .ok (.iload_n 1, 1) := by decide +kernel
theorem dX6_takeClause_164 : decode cX6_takeClause 164 = .ok (.ishl, 1) := by decide +kernel
theorem dX6_takeClause_165 : decode cX6_takeClause 165 = .ok (.ior, 1) := by decide +kernel
theorem dX6_takeClause_166 : decode cX6_takeClause 166 = .ok (.putfield 238, 3) := by decide +kernel
theorem dX6_takeClause_169 : decode cX6_takeClause 169 = .ok (.aload_n 0, 1) := by decide +kernel
theorem dX6_takeClause_170 : decode cX6_takeClause 170 = .ok (.iload_n 1, 1) := by decide +kernel
theorem dX6_takeClause_171 : decode cX6_takeClause 171 = .ok (.invokevirtual 241, 3) := by decide +kernel
theorem dX6_takeClause_174 : decode cX6_takeClause 174 = .ok (.istore 4, 2) := by decide +kernel
theorem dX6_takeClause_176 : decode cX6_takeClause 176 = .ok (.iload 4, 2) := by decide +kernel
theorem dX6_takeClause_178 : decode cX6_takeClause 178 = .ok (.ifCond .ne 22, 3) := by decide +kernel
theorem dX6_takeClause_181 : decode cX6_takeClause 181 = .ok (.aload_n 0, 1) := by decide +kernel
theorem dX6_takeClause_182 : decode cX6_takeClause 182 = .ok (.invokevirtual 135, 3) := by decide +kernel
theorem dX6_takeClause_185 : decode cX6_takeClause 185 = .ok (.bipush 59, 2) := by decide +kernel
theorem dX6_takeClause_187 : decode cX6_takeClause 187 = .ok (.if_icmp .eq 13, 3) := by decide +kernel
theorem dX6_takeClause_190 : decode cX6_takeClause 190 = .ok (.aload_n 0, 1) := by decide +kernel
theorem dX6_takeClause_191 : decode cX6_takeClause 191 = .ok (.iconst 1, 1) := by decide +kernel
theorem dX6_takeClause_192 : decode cX6_takeClause 192 = .ok (.aload_n 0, 1) := by decide +kernel
theorem dX6_takeClause_193 : decode cX6_takeClause 193 = .ok (.getfield 132, 3) := by decide +kernel
theorem dX6_takeClause_196 : decode cX6_takeClause 196 = .ok (.invokevirtual 162, 3) := by decide +kernel
theorem dX6_takeClause_199 : decode cX6_takeClause 199 = .ok (.ireturn, 1) := by decide +kernel
theorem dX6_takeClause_200 : decode cX6_takeClause 200 = .ok (.aload_n 0, 1) := by decide +kernel
theorem dX6_takeClause_201 : decode cX6_takeClause 201 = .ok (.dup, 1) := by decide +kernel
theorem dX6_takeClause_202 : decode cX6_takeClause 202 = .ok (.getfield 132, 3) := by decide +kernel
theorem dX6_takeClause_205 : decode cX6_takeClause 205 = .ok (.iconst 1, 1) := by decide +kernel
theorem dX6_takeClause_206 : decode cX6_takeClause 206 = .ok (.iadd, 1) := by decide +kernel
theorem dX6_takeClause_207 : decode cX6_takeClause 207 = .ok (.putfield 132, 3) := by decide +kernel
theorem dX6_takeClause_210 : decode cX6_takeClause 210 = .ok (.iload 4, 2) := by decide +kernel
theorem dX6_takeClause_212 : decode cX6_takeClause 212 = .ok (.ireturn, 1) := by decide +kernel
theorem dX6_island_0 : decode cX6_island 0 = .ok (.aload_n 0, 1) := by decide +kernel
theorem dX6_island_1 : decode cX6_island 1 = .ok (.iconst (-1), 1) := by decide +kernel
theorem dX6_island_2 : decode cX6_island 2 = .ok (.putfield 50, 3) := by decide +kernel
theorem dX6_island_5 : decode cX6_island 5 = .ok (.aload_n 0, 1) := by decide +kernel
theorem dX6_island_6 : decode cX6_island 6 = .ok (.iconst 0, 1) := by decide +kernel
theorem dX6_island_7 : decode cX6_island 7 = .ok (.putfield 132, 3) := by decide +kernel
theorem dX6_island_10 : decode cX6_island 10 = .ok (.aload_n 0, 1) := by decide +kernel
theorem dX6_island_11 : decode cX6_island 11 = .ok (.iconst 0, 1) := by decide +kernel
theorem dX6_island_12 : decode cX6_island 12 = .ok (.putfield 176, 3) := by decide +kernel
theorem dX6_island_15 : decode cX6_island 15 = .ok (.aload_n 0, 1) := by decide +kernel
theorem dX6_island_16 : decode cX6_island 16 = .ok (.iconst 0, 1) := by decide +kernel
theorem dX6_island_17 : decode cX6_island 17 = .ok (.putfield 200, 3) := by decide +kernel
theorem dX6_island_20 : decode cX6_island 20 = .ok (.aload_n 0, 1) := by decide +kernel
theorem dX6_island_21 : decode cX6_island 21 = .ok (.iconst 0, 1) := by decide +kernel
theorem dX6_island_22 : decode cX6_island 22 = .ok (.putfield 179, 3) := by decide +kernel
theorem dX6_island_25 : decode cX6_island 25 = .ok (.aload_n 0, 1) := by decide +kernel
theorem dX6_island_26 : decode cX6_island 26 = .ok (.iconst 0, 1) := by decide +kernel
theorem dX6_island_27 : decode cX6_island 27 = .ok (.putfield 203, 3) := by decide +kernel
theorem dX6_island_30 : decode cX6_island 30 = .ok (.aload_n 0, 1) := by decide +kernel
theorem dX6_island_31 : decode cX6_island 31 = .ok (.iconst 0, 1) := by decide +kernel
theorem dX6_island_32 : decode cX6_island 32 = .ok (.putfield 197, 3) := by decide +kernel
theorem dX6_island_35 : decode cX6_island 35 = .ok (.aload_n 0, 1) := by decide +kernel
theorem dX6_island_36 : decode cX6_island 36 = .ok (.bipush 10, 2) := by decide +kernel
theorem dX6_island_38 : decode cX6_island 38 = .ok (.putfield 226, 3) := by decide +kernel
theorem dX6_island_41 : decode cX6_island 41 = .ok (.aload_n 0, 1) := by decide +kernel
theorem dX6_island_42 : decode cX6_island 42 = .ok (.bipush 100, 2) := by decide +kernel
theorem dX6_island_44 : decode cX6_island 44 = .ok (.putfield 229, 3) := by decide +kernel
theorem dX6_island_47 : decode cX6_island 47 = .ok (.aload_n 0, 1) := by decide +kernel
theorem dX6_island_48 : decode cX6_island 48 = .ok (.iconst 0, 1) := by decide +kernel
theorem dX6_island_49 : decode cX6_island 49 = .ok (.putfield 238, 3) := by decide +kernel
theorem dX6_island_52 : decode cX6_island 52 = .ok (.iconst 0, 1) := by decide +kernel
theorem dX6_island_53 : decode cX6_island 53 = .ok (.istore_n 1, 1) := by decide +kernel
theorem dX6_island_54 : decode cX6_island 54 = .ok (.iload_n 1, 1) := by decide +kernel
theorem dX6_island_55 : decode cX6_island 55 = .ok (.iconst 3, 1) := by decide +kernel
theorem dX6_island_56 : decode cX6_island 56 = .ok (.if_icmp .ge 16, 3) := by decide +kernel
theorem dX6_island_59 : decode cX6_island 59 = .ok (.aload_n 0, 1) := by decide +kernel
theorem dX6_island_60 : decode cX6_island 60 = .ok (.getfield 69, 3) := by decide +kernel
theorem dX6_island_63 : decode cX6_island 63 = .ok (.iload_n 1, 1) := by decide +kernel
theorem dX6_island_64 : decode cX6_island 64 = .ok (.iconst 0, 1) := by decide +kernel
theorem dX6_island_65 : decode cX6_island 65 = .ok (.iastore, 1) := by decide +kernel
theorem dX6_island_66 : decode cX6_island 66 = .ok (.iinc 1 1, 3) := by decide +kernel
theorem dX6_island_69 : decode cX6_island 69 = .ok (.goto (-15), 3) := by decide +kernel
theorem dX6_island_72 : decode cX6_island 72 = .ok (.iconst 0, 1) := by decide +kernel
theorem dX6_island_73 : decode cX6_island 73 = .ok (.istore_n 1, 1) := by decide +kernel
theorem dX6_island_74 : decode cX6_island 74 = .ok (.iload_n 1, 1) := by decide +kernel
theorem dX6_island_75 : decode cX6_island 75 = .ok (.ifCond .ne 18, 3) := by decide +kernel
theorem dX6_island_78 : decode cX6_island 78 = .ok (.aload_n 0, 1) := by decide +kernel
theorem dX6_island_79 : decode cX6_island 79 = .ok (.invokevirtual 135, 3) := by decide +kernel
theorem dX6_island_82 : decode cX6_island 82 = .ok (.ifCond .lt 11, 3) := by decide +kernel
theorem dX6_island_85 : decode cX6_island 85 = .ok (.aload_n 0, 1) := by decide +kernel
theorem dX6_island_86 : decode cX6_island 86 = .ok (.invokevirtual 244, 3) := by decide +kernel
theorem dX6_island_89 : decode cX6_island 89 = .ok (.istore_n 1, 1) := by decide +kernel
theorem dX6_island_90 : decode cX6_island 90 = .ok (.goto (-16), 3) := by decide +kernel
theorem dX6_island_93 : decode cX6_island 93 = .ok (.aload_n 0, 1) := by decide +kernel
theorem dX6_island_94 : decode cX6_island 94 = .ok (.iconst 0, 1) := by decide +kernel
theorem dX6_island_95 : decode cX6_island 95 = .ok (.putfield 126, 3) := by decide +kernel
theorem dX6_island_98 : decode cX6_island 98 = .ok (.iload_n 1, 1) := by decide +kernel
theorem dX6_island_99 : decode cX6_island 99 = .ok (.ifCond .le 8, 3) := by decide +kernel
theorem dX6_island_102 : decode cX6_island 102 = .ok (.bipush (-10), 2) := by decide +kernel
theorem dX6_island_104 : decode cX6_island 104 = .ok (.iload_n 1, 1) := by decide +kernel
theorem dX6_island_105 : decode cX6_island 105 = .ok (.isub, 1) := by decide +kernel
theorem dX6_island_106 : decode cX6_island 106 = .ok (.ireturn, 1) := by decide +kernel
theorem dX6_island_107 : decode cX6_island 107 = .ok (.aload_n 0, 1) := by decide +kernel
theorem dX6_island_108 : decode cX6_island 108 = .ok (.invokevirtual 247, 3) := by decide +kernel
theorem dX6_island_111 : decode cX6_island 111 = .ok (.aload_n 0, 1) := by decide +kernel
theorem dX6_island_112 : decode cX6_island 112 = .ok (.getfield 111, 3) := by decide +kernel
theorem dX6_island_115 : decode cX6_island 115 = .ok (.ireturn, 1) := by decide +kernel
theorem dX6_takeIsland_0 : decode cX6_takeIsland 0 = .ok (.aload_n 0, 1) := by decide +kernel
theorem dX6_takeIsland_1 : decode cX6_takeIsland 1 = .ok (.aload_n 0, 1) := by decide +kernel
theorem dX6_takeIsland_2 : decode cX6_takeIsland 2 = .ok (.getfield 176, 3) := by decide +kernel
theorem dX6_takeIsland_5 : decode cX6_takeIsland 5 = .ok (.putfield 111, 3) := by decide +kernel
theorem dX6_takeIsland_8 : decode cX6_takeIsland 8 = .ok (.iconst 0, 1) := by decide +kernel
theorem dX6_takeIsland_9 : decode cX6_takeIsland 9 = .ok (.istore_n 1, 1) := by decide +kernel
theorem dX6_takeIsland_10 : decode cX6_takeIsland 10 = .ok (.iload_n 1, 1) := by decide +kernel
theorem dX6_takeIsland_11 : decode cX6_takeIsland 11 = .ok (.aload_n 0, 1) := by decide +kernel
theorem dX6_takeIsland_12 : decode cX6_takeIsland 12 = .ok (.getfield 111, 3) := by decide +kernel
theorem dX6_takeIsland_15 : decode cX6_takeIsland 15 = .ok (.if_icmp .ge 137, 3) := by decide +kernel
theorem dX6_takeIsland_18 : decode cX6_takeIsland 18 = .ok (.aload_n 0, 1) := by decide +kernel
theorem dX6_takeIsland_19 : decode cX6_takeIsland 19 = .ok (.getfield 7, 3) := by decide +kernel
theorem dX6_takeIsland_22 : decode cX6_takeIsland 22 = .ok (.iload_n 1, 1) := by decide +kernel
theorem dX6_takeIsland_23 : decode cX6_takeIsland 23 = .ok (.aload_n 0, 1) := by decide +kernel
theorem dX6_takeIsland_24 : decode cX6_takeIsland 24 = .ok (.getfield 53, 3) := by decide +kernel
theorem dX6_takeIsland_27 : decode cX6_takeIsland 27 = .ok (.iload_n 1, 1) := by decide +kernel
theorem dX6_takeIsland_28 : decode cX6_takeIsland 28 = .ok (.iaload, 1) := by decide +kernel
theorem dX6_takeIsland_29 : decode cX6_takeIsland 29 = .ok (.iastore, 1) := by decide +kernel
theorem dX6_takeIsland_30 : decode cX6_takeIsland 30 = .ok (.aload_n 0, 1) := by decide +kernel
theorem dX6_takeIsland_31 : decode cX6_takeIsland 31 = .ok (.getfield 13, 3) := by decide +kernel
theorem dX6_takeIsland_34 : decode cX6_takeIsland 34 = .ok (.iload_n 1, 1) := by decide +kernel
theorem dX6_takeIsland_35 : decode cX6_takeIsland 35 = .ok (.aload_n 0, 1) := by decide +kernel
theorem dX6_takeIsland_36 : decode cX6_takeIsland 36 = .ok (.getfield 56, 3) := by decide +kernel
theorem dX6_takeIsland_39 : decode cX6_takeIsland 39 = .ok (.iload_n 1, 1) := by decide +kernel
