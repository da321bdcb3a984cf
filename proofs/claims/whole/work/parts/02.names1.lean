theorem dX0_init_0 : decode cX0_init 0 = .ok (.aload_n 0, 1) := by decide +kernel
theorem dX0_init_1 : decode cX0_init 1 = .ok (.invokespecial 3, 3) := by decide +kernel
theorem dX0_init_4 : decode cX0_init 4 = .ok (.aload_n 0, 1) := by decide +kernel
theorem dX0_init_5 : decode cX0_init 5 = .ok (.bipush 9, 2) := by decide +kernel
theorem dX0_init_7 : decode cX0_init 7 = .ok (.newarray .int, 2) := by decide +kernel
theorem dX0_init_9 : decode cX0_init 9 = .ok (.putfield 9, 3) := by decide +kernel
theorem dX0_init_12 : decode cX0_init 12 = .ok (.aload_n 0, 1) := by decide +kernel
theorem dX0_init_13 : decode cX0_init 13 = .ok (.bipush 9, 2) := by decide +kernel
theorem dX0_init_15 : decode cX0_init 15 = .ok (.newarray .int, 2) := by decide +kernel
theorem dX0_init_17 : decode cX0_init 17 = .ok (.putfield 15, 3) := by decide +kernel
theorem dX0_init_20 : decode cX0_init 20 = .ok (.aload_n 0, 1) := by decide +kernel
theorem dX0_init_21 : decode cX0_init 21 = .ok (.bipush 54, 2) := by decide +kernel
theorem dX0_init_23 : decode cX0_init 23 = .ok (.newarray .int, 2) := by decide +kernel
theorem dX0_init_25 : decode cX0_init 25 = .ok (.putfield 18, 3) := by decide +kernel
theorem dX0_init_28 : decode cX0_init 28 = .ok (.aload_n 0, 1) := by decide +kernel
theorem dX0_init_29 : decode cX0_init 29 = .ok (.bipush 54, 2) := by decide +kernel
theorem dX0_init_31 : decode cX0_init 31 = .ok (.newarray .int, 2) := by decide +kernel
theorem dX0_init_33 : decode cX0_init 33 = .ok (.putfield 21, 3) := by decide +kernel
theorem dX0_init_36 : decode cX0_init 36 = .ok (.aload_n 0, 1) := by decide +kernel
theorem dX0_init_37 : decode cX0_init 37 = .ok (.iconst 0, 1) := by decide +kernel
theorem dX0_init_38 : decode cX0_init 38 = .ok (.putfield 24, 3) := by decide +kernel
theorem dX0_init_41 : decode cX0_init 41 = .ok (.aload_n 0, 1) := by decide +kernel
theorem dX0_init_42 : decode cX0_init 42 = .ok (.iconst 0, 1) := by decide +kernel
theorem dX0_init_43 : decode cX0_init 43 = .ok (.putfield 28, 3) := by decide +kernel
theorem dX0_init_46 : decode cX0_init 46 = .ok (.aload_n 0, 1) := by decide +kernel
theorem dX0_init_47 : decode cX0_init 47 = .ok (.iconst 0, 1) := by decide +kernel
theorem dX0_init_48 : decode cX0_init 48 = .ok (.putfield 31, 3) := by decide +kernel
theorem dX0_init_51 : decode cX0_init 51 = .ok (.aload_n 0, 1) := by decide +kernel
theorem dX0_init_52 : decode cX0_init 52 = .ok (.iconst 0, 1) := by decide +kernel
theorem dX0_init_53 : decode cX0_init 53 = .ok (.putfield 34, 3) := by decide +kernel
theorem dX0_init_56 : decode cX0_init 56 = .ok (.aload_n 0, 1) := by decide +kernel
theorem dX0_init_57 : decode cX0_init 57 = .ok (.iconst 0, 1) := by decide +kernel
theorem dX0_init_58 : decode cX0_init 58 = .ok (.putfield 37, 3) := by decide +kernel
theorem dX0_init_61 : decode cX0_init 61 = .ok (.aload_n 0, 1) := by decide +kernel
theorem dX0_init_62 : decode cX0_init 62 = .ok (.iconst 0, 1) := by decide +kernel
theorem dX0_init_63 : decode cX0_init 63 = .ok (.putfield 40, 3) := by decide +kernel
theorem dX0_init_66 : decode cX0_init 66 = .ok (.aload_n 0, 1) := by decide +kernel
theorem dX0_init_67 : decode cX0_init 67 = .ok (.iconst 0, 1) := by decide +kernel
theorem dX0_init_68 : decode cX0_init 68 = .ok (.putfield 43, 3) := by decide +kernel
theorem dX0_init_71 : decode cX0_init 71 = .ok (.aload_n 0, 1) := by decide +kernel
theorem dX0_init_72 : decode cX0_init 72 = .ok (.bipush 10, 2) := by decide +kernel
theorem dX0_init_74 : decode cX0_init 74 = .ok (.putfield 46, 3) := by decide +kernel
theorem dX0_init_77 : decode cX0_init 77 = .ok (.aload_n 0, 1) := by decide +kernel
theorem dX0_init_78 : decode cX0_init 78 = .ok (.bipush 100, 2) := by decide +kernel
theorem dX0_init_80 : decode cX0_init 80 = .ok (.putfield 49, 3) := by decide +kernel
theorem dX0_init_83 : decode cX0_init 83 = .ok (.return_, 1) := by decide +kernel
theorem dX0_clear_0 : decode cX0_clear 0 = .ok (.aload_n 0, 1) := by decide +kernel
theorem dX0_clear_1 : decode cX0_clear 1 = .ok (.iconst 0, 1) := by decide +kernel
theorem dX0_clear_2 : decode cX0_clear 2 = .ok (.putfield 24, 3) := by decide +kernel
theorem dX0_clear_5 : decode cX0_clear 5 = .ok (.aload_n 0, 1) := by decide +kernel
theorem dX0_clear_6 : decode cX0_clear 6 = .ok (.iconst 0, 1) := by decide +kernel
theorem dX0_clear_7 : decode cX0_clear 7 = .ok (.putfield 28, 3) := by decide +kernel
theorem dX0_clear_10 : decode cX0_clear 10 = .ok (.aload_n 0, 1) := by decide +kernel
theorem dX0_clear_11 : decode cX0_clear 11 = .ok (.iconst 0, 1) := by decide +kernel
theorem dX0_clear_12 : decode cX0_clear 12 = .ok (.putfield 31, 3) := by decide +kernel
theorem dX0_clear_15 : decode cX0_clear 15 = .ok (.aload_n 0, 1) := by decide +kernel
theorem dX0_clear_16 : decode cX0_clear 16 = .ok (.iconst 0, 1) := by decide +kernel
theorem dX0_clear_17 : decode cX0_clear 17 = .ok (.putfield 34, 3) := by decide +kernel
theorem dX0_clear_20 : decode cX0_clear 20 = .ok (.aload_n 0, 1) := by decide +kernel
theorem dX0_clear_21 : decode cX0_clear 21 = .ok (.iconst 0, 1) := by decide +kernel
theorem dX0_clear_22 : decode cX0_clear 22 = .ok (.putfield 37, 3) := by decide +kernel
theorem dX0_clear_25 : decode cX0_clear 25 = .ok (.aload_n 0, 1) := by decide +kernel
theorem dX0_clear_26 : decode cX0_clear 26 = .ok (.iconst 0, 1) := by decide +kernel
theorem dX0_clear_27 : decode cX0_clear 27 = .ok (.putfield 40, 3) := by decide +kernel
theorem dX0_clear_30 : decode cX0_clear 30 = .ok (.aload_n 0, 1) := by decide +kernel
theorem dX0_clear_31 : decode cX0_clear 31 = .ok (.iconst 0, 1) := by decide +kernel
theorem dX0_clear_32 : decode cX0_clear 32 = .ok (.putfield 43, 3) := by decide +kernel
theorem dX0_clear_35 : decode cX0_clear 35 = .ok (.aload_n 0, 1) := by decide +kernel
theorem dX0_clear_36 : decode cX0_clear 36 = .ok (.bipush 10, 2) := by decide +kernel
theorem dX0_clear_38 : decode cX0_clear 38 = .ok (.putfield 46, 3) := by decide +kernel
theorem dX0_clear_41 : decode cX0_clear 41 = .ok (.aload_n 0, 1) := by decide +kernel
theorem dX0_clear_42 : decode cX0_clear 42 = .ok (.bipush 100, 2) := by decide +kernel
theorem dX0_clear_44 : decode cX0_clear 44 = .ok (.putfield 49, 3) := by decide +kernel
theorem dX0_clear_47 : decode cX0_clear 47 = .ok (.return_, 1) := by decide +kernel
theorem dX0_addMark_0 : decode cX0_addMark 0 = .ok (.aload_n 0, 1) := by decide +kernel
theorem dX0_addMark_1 : decode cX0_addMark 1 = .ok (.getfield 24, 3) := by decide +kernel
theorem dX0_addMark_4 : decode cX0_addMark 4 = .ok (.bipush 9, 2) := by decide +kernel
theorem dX0_addMark_6 : decode cX0_addMark 6 = .ok (.if_icmp .lt 4, 3) := by decide +kernel
theorem dX0_addMark_9 : decode cX0_addMark 9 = .ok (.return_, 1) := by decide +kernel
theorem dX0_addMark_10 : decode cX0_addMark 10 = .ok (.aload_n 0, 1) := by decide +kernel
theorem dX0_addMark_11 : decode cX0_addMark 11 = .ok (.getfield 9, 3) := by decide +kernel
theorem dX0_addMark_14 : decode cX0_addMark 14 = .ok (.aload_n 0, 1) := by decide +kernel
theorem dX0_addMark_15 : decode cX0_addMark 15 = .ok (.getfield 24, 3) := by decide +kernel
theorem dX0_addMark_18 : decode cX0_addMark 18 = .ok (.iload_n 1, 1) := by decide +kernel
theorem dX0_addMark_19 : decode cX0_addMark 19 = .ok (.iastore, 1) := by decide +kernel
theorem dX0_addMark_20 : decode cX0_addMark 20 = .ok (.aload_n 0, 1) := by decide +kernel
theorem dX0_addMark_21 : decode cX0_addMark 21 = .ok (.getfield 15, 3) := by decide +kernel
theorem dX0_addMark_24 : decode cX0_addMark 24 = .ok (.aload_n 0, 1) := by decide +kernel
theorem dX0_addMark_25 : decode cX0_addMark 25 = .ok (.getfield 24, 3) := by decide +kernel
theorem dX0_addMark_28 : decode cX0_addMark 28 = .ok (.iload_n 2, 1) := by decide +kernel
theorem dX0_addMark_29 : decode cX0_addMark 29 = .ok (.iastore, 1) := by decide +kernel
theorem dX0_addMark_30 : decode cX0_addMark 30 = .ok (.iconst 0, 1) := by decide +kernel
theorem dX0_addMark_31 : decode cX0_addMark 31 = .ok (.istore_n 3, 1) := by decide +kernel
theorem dX0_addMark_32 : decode cX0_addMark 32 = .ok (.iload_n 3, 1) := by decide +kernel
theorem dX0_addMark_33 : decode cX0_addMark 33 = .ok (.bipush 6, 2) := by decide +kernel
theorem dX0_addMark_35 : decode cX0_addMark 35 = .ok (.if_icmp .ge 20, 3) := by decide +kernel
theorem dX0_addMark_38 : decode cX0_addMark 38 = .ok (.aload_n 0, 1) := by decide +kernel
theorem dX0_addMark_39 : decode cX0_addMark 39 = .ok (.iload_n 3, 1) := by decide +kernel
theorem dX0_addMark_40 : decode cX0_addMark 40 = .ok (.aload_n 0, 1) := by decide +kernel
theorem dX0_addMark_41 : decode cX0_addMark 41 = .ok (.getfield 24, 3) := by decide +kernel
theorem dX0_addMark_44 : decode cX0_addMark 44 = .ok (.iload_n 1, 1) := by decide +kernel
theorem dX0_addMark_45 : decode cX0_addMark 45 = .ok (.iload_n 2, 1) := by decide +kernel
theorem dX0_addMark_46 : decode cX0_addMark 46 = .ok (.invokevirtual 52, 3) := by decide +kernel
theorem dX0_addMark_49 : decode cX0_addMark 49 = .ok (.iinc 3 1, 3) := by decide +kernel
theorem dX0_addMark_52 : decode cX0_addMark 52 = .ok (.goto (-20), 3) := by decide +kernel
theorem dX0_addMark_55 : decode cX0_addMark 55 = .ok (.aload_n 0, 1) := by decide +kernel
theorem dX0_addMark_56 : decode cX0_addMark 56 = .ok (.dup, 1) := by decide +kernel
theorem dX0_addMark_57 : decode cX0_addMark 57 = .ok (.getfield 24, 3) := by decide +kernel
theorem dX0_addMark_60 : decode cX0_addMark 60 = .ok (.iconst 1, 1) := by decide +kernel
theorem dX0_addMark_61 : decode cX0_addMark 61 = .ok (.iadd, 1) := by decide +kernel
theorem dX0_addMark_62 : decode cX0_addMark 62 = .ok (.putfield 24, 3) := by decide +kernel
theorem dX0_addMark_65 : decode cX0_addMark 65 = .ok (.return_, 1) := by decide +kernel
theorem dX0_addLie_0 : decode cX0_addLie 0 = .ok (.aload_n 0, 1) := by decide +kernel
theorem dX0_addLie_1 : decode cX0_addLie 1 = .ok (.iload_n 1, 1) := by decide +kernel
theorem dX0_addLie_2 : decode cX0_addLie 2 = .ok (.iload_n 2, 1) := by decide +kernel
theorem dX0_addLie_3 : decode cX0_addLie 3 = .ok (.iload_n 3, 1) := by decide +kernel
theorem dX0_addLie_4 : decode cX0_addLie 4 = .ok (.iload 4, 2) := by decide +kernel
theorem dX0_addLie_6 : decode cX0_addLie 6 = .ok (.invokevirtual 52, 3) := by decide +kernel
theorem dX0_addLie_9 : decode cX0_addLie 9 = .ok (.aload_n 0, 1) := by decide +kernel
theorem dX0_addLie_10 : decode cX0_addLie 10 = .ok (.dup, 1) := by decide +kernel
theorem dX0_addLie_11 : decode cX0_addLie 11 = .ok (.getfield 28, 3) := by decide +kernel
theorem dX0_addLie_14 : decode cX0_addLie 14 = .ok (.iconst 1, 1) := by decide +kernel
theorem dX0_addLie_15 : decode cX0_addLie 15 = .ok (.iload_n 1, 1) := by decide +kernel
theorem dX0_addLie_16 : decode cX0_addLie 16 = .ok (.ishl, 1) := by decide +kernel
theorem dX0_addLie_17 : decode cX0_addLie 17 = .ok (.ior, 1) := by decide +kernel
theorem dX0_addLie_18 : decode cX0_addLie 18 = .ok (.putfield 28, 3) := by decide +kernel
theorem dX0_addLie_21 : decode cX0_addLie 21 = .ok (.aload_n 0, 1) := by decide +kernel
theorem dX0_addLie_22 : decode cX0_addLie 22 = .ok (.dup, 1) := by decide +kernel
theorem dX0_addLie_23 : decode cX0_addLie 23 = .ok (.getfield 31, 3) := by decide +kernel
theorem dX0_addLie_26 : decode cX0_addLie 26 = .ok (.iconst 1, 1) := by decide +kernel
theorem dX0_addLie_27 : decode cX0_addLie 27 = .ok (.iadd, 1) := by decide +kernel
theorem dX0_addLie_28 : decode cX0_addLie 28 = .ok (.putfield 31, 3) := by decide +kernel
theorem dX0_addLie_31 : decode cX0_addLie 31 = .ok (.return_, 1) := by decide +kernel
theorem dX0_put_0 : decode cX0_put 0 = .ok (.aload_n 0, 1) := by decide +kernel
theorem dX0_put_1 : decode cX0_put 1 = .ok (.getfield 18, 3) := by decide +kernel
theorem dX0_put_4 : decode cX0_put 4 = .ok (.iload_n 1, 1) := by decide +kernel
theorem dX0_put_5 : decode cX0_put 5 = .ok (.bipush 9, 2) := by decide +kernel
theorem dX0_put_7 : decode cX0_put 7 = .ok (.imul, 1) := by decide +kernel
theorem dX0_put_8 : decode cX0_put 8 = .ok (.iload_n 2, 1) := by decide +kernel
theorem dX0_put_9 : decode cX0_put 9 = .ok (.iadd, 1) := by decide +kernel
theorem dX0_put_10 : decode cX0_put 10 = .ok (.iload_n 3, 1) := by decide +kernel
theorem dX0_put_11 : decode cX0_put 11 = .ok (.iastore, 1) := by decide +kernel
theorem dX0_put_12 : decode cX0_put 12 = .ok (.aload_n 0, 1) := by decide +kernel
theorem dX0_put_13 : decode cX0_put 13 = .ok (.getfield 21, 3) := by decide +kernel
theorem dX0_put_16 : decode cX0_put 16 = .ok (.iload_n 1, 1) := by decide +kernel
theorem dX0_put_17 : decode cX0_put 17 = .ok (.bipush 9, 2) := by decide +kernel
theorem dX0_put_19 : decode cX0_put 19 = .ok (.imul, 1) := by decide +kernel
theorem dX0_put_20 : decode cX0_put 20 = .ok (.iload_n 2, 1) := by decide +kernel
theorem dX0_put_21 : decode cX0_put 21 = .ok (.iadd, 1) := by decide +kernel
theorem dX0_put_22 : decode cX0_put 22 = .ok (.iload 4, 2) := by decide +kernel
theorem dX0_put_24 : decode cX0_put 24 = .ok (.iastore, 1) := by decide +kernel
theorem dX0_put_25 : decode cX0_put 25 = .ok (.return_, 1) := by decide +kernel
theorem dX0_soughtX_0 : decode cX0_soughtX 0 = .ok (.aload_n 0, 1) := by decide +kernel
theorem dX0_soughtX_1 : decode cX0_soughtX 1 = .ok (.getfield 9, 3) := by decide +kernel
theorem dX0_soughtX_4 : decode cX0_soughtX 4 = .ok (.aload_n 0, 1) := by decide +kernel
theorem dX0_soughtX_5 : decode cX0_soughtX 5 = .ok (.getfield 37, 3) := by decide +kernel
theorem dX0_soughtX_8 : decode cX0_soughtX 8 = .ok (.iaload, 1) := by decide +kernel
theorem dX0_soughtX_9 : decode cX0_soughtX 9 = .ok (.aload_n 0, 1) := by decide +kernel
theorem dX0_soughtX_10 : decode cX0_soughtX 10 = .ok (.getfield 9, 3) := by decide +kernel
theorem dX0_soughtX_13 : decode cX0_soughtX 13 = .ok (.aload_n 0, 1) := by decide +kernel
theorem dX0_soughtX_14 : decode cX0_soughtX 14 = .ok (.getfield 40, 3) := by decide +kernel
theorem dX0_soughtX_17 : decode cX0_soughtX 17 = .ok (.iaload, 1) := by decide +kernel
theorem dX0_soughtX_18 : decode cX0_soughtX 18 = .ok (.iadd, 1) := by decide +kernel
theorem dX0_soughtX_19 : decode cX0_soughtX 19 = .ok (.aload_n 0, 1) := by decide +kernel
theorem dX0_soughtX_20 : decode cX0_soughtX 20 = .ok (.getfield 9, 3) := by decide +kernel
theorem dX0_soughtX_23 : decode cX0_soughtX 23 = .ok (.aload_n 0, 1) := by decide +kernel
theorem dX0_soughtX_24 : decode cX0_soughtX 24 = .ok (.getfield 43, 3) := by decide +kernel
theorem dX0_soughtX_27 : decode cX0_soughtX 27 = .ok (.iaload, 1) := by decide +kernel
theorem dX0_soughtX_28 : decode cX0_soughtX 28 = .ok (.isub, 1) := by decide +kernel
theorem dX0_soughtX_29 : decode cX0_soughtX 29 = .ok (.ireturn, 1) := by decide +kernel
theorem dX0_soughtY_0 : decode cX0_soughtY 0 = .ok (.aload_n 0, 1) := by decide +kernel
theorem dX0_soughtY_1 : decode cX0_soughtY 1 = .ok (.getfield 15, 3) := by decide +kernel
theorem dX0_soughtY_4 : decode cX0_soughtY 4 = .ok (.aload_n 0, 1) := by decide +kernel
theorem dX0_soughtY_5 : decode cX0_soughtY 5 = .ok (.getfield 37, 3) := by decide +kernel
theorem dX0_soughtY_8 : decode cX0_soughtY 8 = .ok (.iaload, 1) := by decide +kernel
theorem dX0_soughtY_9 : decode cX0_soughtY 9 = .ok (.aload_n 0, 1) := by decide +kernel
theorem dX0_soughtY_10 : decode cX0_soughtY 10 = .ok (.getfield 15, 3) := by decide +kernel
theorem dX0_soughtY_13 : decode cX0_soughtY 13 = .ok (.aload_n 0, 1) := by decide +kernel
theorem dX0_soughtY_14 : decode cX0_soughtY 14 = .ok (.getfield 40, 3) := by decide +kernel
theorem dX0_soughtY_17 : decode cX0_soughtY 17 = .ok (.iaload, 1) := by decide +kernel
theorem dX0_soughtY_18 : decode cX0_soughtY 18 = .ok (.iadd, 1) := by decide +kernel
theorem dX0_soughtY_19 : decode cX0_soughtY 19 = .ok (.aload_n 0, 1) := by decide +kernel
theorem dX0_soughtY_20 : decode cX0_soughtY 20 = .ok (.getfield 15, 3) := by decide +kernel
theorem dX0_soughtY_23 : decode cX0_soughtY 23 = .ok (.aload_n 0, 1) := by decide +kernel
theorem dX0_soughtY_24 : decode cX0_soughtY 24 = .ok (.getfield 43, 3) := by decide +kernel
theorem dX0_soughtY_27 : decode cX0_soughtY 27 = .ok (.iaload, 1) := by decide +kernel
theorem dX0_soughtY_28 : decode cX0_soughtY 28 = .ok (.isub, 1) := by decide +kernel
theorem dX0_soughtY_29 : decode cX0_soughtY 29 = .ok (.ireturn, 1) := by decide +kernel
theorem dX1_init_0 : decode cX1_init 0 = .ok (.aload_n 0, 1) := by decide +kernel
theorem dX1_init_1 : decode cX1_init 1 = .ok (.invokespecial 3, 3) := by decide +kernel
theorem dX1_init_4 : decode cX1_init 4 = .ok (.aload_n 0, 1) := by decide +kernel
theorem dX1_init_5 : decode cX1_init 5 = .ok (.bipush 6, 2) := by decide +kernel
theorem dX1_init_7 : decode cX1_init 7 = .ok (.newarray .int, 2) := by decide +kernel
theorem dX1_init_9 : decode cX1_init 9 = .ok (.putfield 9, 3) := by decide +kernel
theorem dX1_init_12 : decode cX1_init 12 = .ok (.aload_n 0, 1) := by decide +kernel
theorem dX1_init_13 : decode cX1_init 13 = .ok (.bipush 54, 2) := by decide +kernel
theorem dX1_init_15 : decode cX1_init 15 = .ok (.newarray .int, 2) := by decide +kernel
theorem dX1_init_17 : decode cX1_init 17 = .ok (.putfield 15, 3) := by decide +kernel
theorem dX1_init_20 : decode cX1_init 20 = .ok (.aload_n 0, 1) := by decide +kernel
theorem dX1_init_21 : decode cX1_init 21 = .ok (.bipush 54, 2) := by decide +kernel
theorem dX1_init_23 : decode cX1_init 23 = .ok (.newarray .int, 2) := by decide +kernel
theorem dX1_init_25 : decode cX1_init 25 = .ok (.putfield 18, 3) := by decide +kernel
theorem dX1_init_28 : decode cX1_init 28 = .ok (.aload_n 0, 1) := by decide +kernel
theorem dX1_init_29 : decode cX1_init 29 = .ok (.bipush 9, 2) := by decide +kernel
theorem dX1_init_31 : decode cX1_init 31 = .ok (.newarray .int, 2) := by decide +kernel
theorem dX1_init_33 : decode cX1_init 33 = .ok (.putfield 21, 3) := by decide +kernel
theorem dX1_init_36 : decode cX1_init 36 = .ok (.aload_n 0, 1) := by decide +kernel
theorem dX1_init_37 : decode cX1_init 37 = .ok (.bipush 9, 2) := by decide +kernel
theorem dX1_init_39 : decode cX1_init 39 = .ok (.newarray .int, 2) := by decide +kernel
theorem dX1_init_41 : decode cX1_init 41 = .ok (.putfield 24, 3) := by decide +kernel
theorem dX1_init_44 : decode cX1_init 44 = .ok (.aload_n 0, 1) := by decide +kernel
theorem dX1_init_45 : decode cX1_init 45 = .ok (.bipush 9, 2) := by decide +kernel
theorem dX1_init_47 : decode cX1_init 47 = .ok (.newarray .int, 2) := by decide +kernel
theorem dX1_init_49 : decode cX1_init 49 = .ok (.putfield 27, 3) := by decide +kernel
theorem dX1_init_52 : decode cX1_init 52 = .ok (.aload_n 0, 1) := by decide +kernel
theorem dX1_init_53 : decode cX1_init 53 = .ok (.bipush 9, 2) := by decide +kernel
theorem dX1_init_55 : decode cX1_init 55 = .ok (.newarray .int, 2) := by decide +kernel
theorem dX1_init_57 : decode cX1_init 57 = .ok (.putfield 30, 3) := by decide +kernel
theorem dX1_init_60 : decode cX1_init 60 = .ok (.aload_n 0, 1) := by decide +kernel
theorem dX1_init_61 : decode cX1_init 61 = .ok (.bipush 15, 2) := by decide +kernel
theorem dX1_init_63 : decode cX1_init 63 = .ok (.newarray .int, 2) := by decide +kernel
theorem dX1_init_65 : decode cX1_init 65 = .ok (.putfield 33, 3) := by decide +kernel
theorem dX1_init_68 : decode cX1_init 68 = .ok (.aload_n 0, 1) := by decide +kernel
theorem dX1_init_69 : decode cX1_init 69 = .ok (.bipush 60, 2) := by decide +kernel
theorem dX1_init_71 : decode cX1_init 71 = .ok (.newarray .int, 2) := by decide +kernel
theorem dX1_init_73 : decode cX1_init 73 = .ok (.putfield 36, 3) := by decide +kernel
theorem dX1_init_76 : decode cX1_init 76 = .ok (.aload_n 0, 1) := by decide +kernel
theorem dX1_init_77 : decode cX1_init 77 = .ok (.new 39, 3) := by decide +kernel
theorem dX1_init_80 : decode cX1_init 80 = .ok (.dup, 1) := by decide +kernel
theorem dX1_init_81 : decode cX1_init 81 = .ok (.invokespecial 41, 3) := by decide +kernel
theorem dX1_init_84 : decode cX1_init 84 = .ok (.putfield 42, 3) := by decide +kernel
theorem dX1_init_87 : decode cX1_init 87 = .ok (.aload_n 0, 1) := by decide +kernel
theorem dX1_init_88 : decode cX1_init 88 = .ok (.new 46, 3) := by decide +kernel
theorem dX1_init_91 : decode cX1_init 91 = .ok (.dup, 1) := by decide +kernel
theorem dX1_init_92 : decode cX1_init 92 = .ok (.invokespecial 48, 3) := by decide +kernel
theorem dX1_init_95 : decode cX1_init 95 = .ok (.putfield 49, 3) := by decide +kernel
theorem dX1_init_98 : decode cX1_init 98 = .ok (.aload_n 0, 1) := by decide +kernel
theorem dX1_init_99 : decode cX1_init 99 = .ok (.iconst 0, 1) := by decide +kernel
theorem dX1_init_100 : decode cX1_init 100 = .ok (.putfield 53, 3) := by decide +kernel
theorem dX1_init_103 : decode cX1_init 103 = .ok (.aload_n 0, 1) := by decide +kernel
theorem dX1_init_104 : decode cX1_init 104 = .ok (.iconst 0, 1) := by decide +kernel
theorem dX1_init_105 : decode cX1_init 105 = .ok (.putfield 57, 3) := by decide +kernel
theorem dX1_init_108 : decode cX1_init 108 = .ok (.aload_n 0, 1) := by decide +kernel
theorem dX1_init_109 : decode cX1_init 109 = .ok (.iconst 0, 1) := by decide +kernel
theorem dX1_init_110 : decode cX1_init 110 = .ok (.putfield 60, 3) := by decide +kernel
theorem dX1_init_113 : decode cX1_init 113 = .ok (.aload_n 0, 1) := by decide +kernel
theorem dX1_init_114 : decode cX1_init 114 = .ok (.iconst (-1), 1) := by decide +kernel
theorem dX1_init_115 : decode cX1_init 115 = .ok (.putfield 63, 3) := by decide +kernel
theorem dX1_init_118 : decode cX1_init 118 = .ok (.aload_n 0, 1) := by decide +kernel
theorem dX1_init_119 : decode cX1_init 119 = .ok (.iconst 0, 1) := by decide +kernel
theorem dX1_init_120 : decode cX1_init 120 = .ok (.putfield 66, 3) := by decide +kernel
theorem dX1_init_123 : decode cX1_init 123 = .ok (.return_, 1) := by decide +kernel
theorem dX1_weigh_0 : decode cX1_weigh 0 = .ok (.aload_n 0, 1) := by decide +kernel
theorem dX1_weigh_1 : decode cX1_weigh 1 = .ok (.aload_n 1, 1) := by decide +kernel
theorem dX1_weigh_2 : decode cX1_weigh 2 = .ok (.invokevirtual 69, 3) := by decide +kernel
theorem dX1_weigh_5 : decode cX1_weigh 5 = .ok (.aload_n 0, 1) := by decide +kernel
theorem dX1_weigh_6 : decode cX1_weigh 6 = .ok (.aload_n 2, 1) := by decide +kernel
theorem dX1_weigh_7 : decode cX1_weigh 7 = .ok (.putfield 49, 3) := by decide +kernel
theorem dX1_weigh_10 : decode cX1_weigh 10 = .ok (.aload_n 0, 1) := by decide +kernel
theorem dX1_weigh_11 : decode cX1_weigh 11 = .ok (.aload_n 2, 1) := by decide +kernel
theorem dX1_weigh_12 : decode cX1_weigh 12 = .ok (.getfield 73, 3) := by decide +kernel
theorem dX1_weigh_15 : decode cX1_weigh 15 = .ok (.putfield 53, 3) := by decide +kernel
theorem dX1_weigh_18 : decode cX1_weigh 18 = .ok (.aload_n 2, 1) := by decide +kernel
theorem dX1_weigh_19 : decode cX1_weigh 19 = .ok (.getfield 76, 3) := by decide +kernel
theorem dX1_weigh_22 : decode cX1_weigh 22 = .ok (.iload_n 3, 1) := by decide +kernel
theorem dX1_weigh_23 : decode cX1_weigh 23 = .ok (.bipush 6, 2) := by decide +kernel
theorem dX1_weigh_25 : decode cX1_weigh 25 = .ok (.imul, 1) := by decide +kernel
theorem dX1_weigh_26 : decode cX1_weigh 26 = .ok (.aload_n 0, 1) := by decide +kernel
theorem dX1_weigh_27 : decode cX1_weigh 27 = .ok (.getfield 9, 3) := by decide +kernel
theorem dX1_weigh_30 : decode cX1_weigh 30 = .ok (.iconst 0, 1) := by decide +kernel
theorem dX1_weigh_31 : decode cX1_weigh 31 = .ok (.bipush 6, 2) := by decide +kernel
theorem dX1_weigh_33 : decode cX1_weigh 33 = .ok (.invokestatic 77, 3) := by decide +kernel
theorem dX1_weigh_36 : decode cX1_weigh 36 = .ok (.aload_n 0, 1) := by decide +kernel
theorem dX1_weigh_37 : decode cX1_weigh 37 = .ok (.invokevirtual 83, 3) := by decide +kernel
theorem dX1_weigh_40 : decode cX1_weigh 40 = .ok (.return_, 1) := by decide +kernel
theorem dX1_weighOwnAlone_0 : decode cX1_weighOwnAlone 0 = .ok (.aload_n 0, 1) := by decide +kernel
theorem dX1_weighOwnAlone_1 : decode cX1_weighOwnAlone 1 = .ok (.aload_n 1, 1) := by decide +kernel
theorem dX1_weighOwnAlone_2 : decode cX1_weighOwnAlone 2 = .ok (.invokevirtual 69, 3) := by decide +kernel
theorem dX1_weighOwnAlone_5 : decode cX1_weighOwnAlone 5 = .ok (.aload_n 0, 1) := by decide +kernel
theorem dX1_weighOwnAlone_6 : decode cX1_weighOwnAlone 6 = .ok (.iconst 0, 1) := by decide +kernel
theorem dX1_weighOwnAlone_7 : decode cX1_weighOwnAlone 7 = .ok (.putfield 53, 3) := by decide +kernel
theorem dX1_weighOwnAlone_10 : decode cX1_weighOwnAlone 10 = .ok (.aload_n 0, 1) := by decide +kernel
theorem dX1_weighOwnAlone_11 : decode cX1_weighOwnAlone 11 = .ok (.getfield 9, 3) := by decide +kernel
theorem dX1_weighOwnAlone_14 : decode cX1_weighOwnAlone 14 = .ok (.iconst 0, 1) := by decide +kernel
theorem dX1_weighOwnAlone_15 : decode cX1_weighOwnAlone 15 = .ok (.invokestatic 86, 3) := by decide +kernel
theorem dX1_weighOwnAlone_18 : decode cX1_weighOwnAlone 18 = .ok (.aload_n 0, 1) := by decide +kernel
theorem dX1_weighOwnAlone_19 : decode cX1_weighOwnAlone 19 = .ok (.iload_n 2, 1) := by decide +kernel
theorem dX1_weighOwnAlone_20 : decode cX1_weighOwnAlone 20 = .ok (.iconst 1, 1) := by decide +kernel
theorem dX1_weighOwnAlone_21 : decode cX1_weighOwnAlone 21 = .ok (.aload_n 0, 1) := by decide +kernel
theorem dX1_weighOwnAlone_22 : decode cX1_weighOwnAlone 22 = .ok (.getfield 42, 3) := by decide +kernel
theorem dX1_weighOwnAlone_25 : decode cX1_weighOwnAlone 25 = .ok (.getfield 92, 3) := by decide +kernel
theorem dX1_weighOwnAlone_28 : decode cX1_weighOwnAlone 28 = .ok (.ishl, 1) := by decide +kernel
theorem dX1_weighOwnAlone_29 : decode cX1_weighOwnAlone 29 = .ok (.iconst 1, 1) := by decide +kernel
theorem dX1_weighOwnAlone_30 : decode cX1_weighOwnAlone 30 = .ok (.isub, 1) := by decide +kernel
theorem dX1_weighOwnAlone_31 : decode cX1_weighOwnAlone 31 = .ok (.invokevirtual 95, 3) := by decide +kernel
theorem dX1_weighOwnAlone_34 : decode cX1_weighOwnAlone 34 = .ok (.return_, 1) := by decide +kernel
theorem dX1_takeMaps_0 : decode cX1_takeMaps 0 = .ok (.aload_n 0, 1) := by decide +kernel
theorem dX1_takeMaps_1 : decode cX1_takeMaps 1 = .ok (.aload_n 1, 1) := by decide +kernel
theorem dX1_takeMaps_2 : decode cX1_takeMaps 2 = .ok (.putfield 42, 3) := by decide +kernel
theorem dX1_takeMaps_5 : decode cX1_takeMaps 5 = .ok (.aload_n 1, 1) := by decide +kernel
theorem dX1_takeMaps_6 : decode cX1_takeMaps 6 = .ok (.getfield 99, 3) := by decide +kernel
theorem dX1_takeMaps_9 : decode cX1_takeMaps 9 = .ok (.iconst 0, 1) := by decide +kernel
theorem dX1_takeMaps_10 : decode cX1_takeMaps 10 = .ok (.aload_n 0, 1) := by decide +kernel
theorem dX1_takeMaps_11 : decode cX1_takeMaps 11 = .ok (.getfield 15, 3) := by decide +kernel
theorem dX1_takeMaps_14 : decode cX1_takeMaps 14 = .ok (.iconst 0, 1) := by decide +kernel
theorem dX1_takeMaps_15 : decode cX1_takeMaps 15 = .ok (.aload_n 0, 1) := by decide +kernel
theorem dX1_takeMaps_16 : decode cX1_takeMaps 16 = .ok (.getfield 15, 3) := by decide +kernel
theorem dX1_takeMaps_19 : decode cX1_takeMaps 19 = .ok (.arraylength, 1) := by decide +kernel
theorem dX1_takeMaps_20 : decode cX1_takeMaps 20 = .ok (.invokestatic 77, 3) := by decide +kernel
theorem dX1_takeMaps_23 : decode cX1_takeMaps 23 = .ok (.aload_n 1, 1) := by decide +kernel
theorem dX1_takeMaps_24 : decode cX1_takeMaps 24 = .ok (.getfield 100, 3) := by decide +kernel
theorem dX1_takeMaps_27 : decode cX1_takeMaps 27 = .ok (.iconst 0, 1) := by decide +kernel
theorem dX1_takeMaps_28 : decode cX1_takeMaps 28 = .ok (.aload_n 0, 1) := by decide +kernel
theorem dX1_takeMaps_29 : decode cX1_takeMaps 29 = .ok (.getfield 18, 3) := by decide +kernel
theorem dX1_takeMaps_32 : decode cX1_takeMaps 32 = .ok (.iconst 0, 1) := by decide +kernel
theorem dX1_takeMaps_33 : decode cX1_takeMaps 33 = .ok (.aload_n 0, 1) := by decide +kernel
theorem dX1_takeMaps_34 : decode cX1_takeMaps 34 = .ok (.getfield 18, 3) := by decide +kernel
theorem dX1_takeMaps_37 : decode cX1_takeMaps 37 = .ok (.arraylength, 1) := by decide +kernel
theorem dX1_takeMaps_38 : decode cX1_takeMaps 38 = .ok (.invokestatic 77, 3) := by decide +kernel
theorem dX1_takeMaps_41 : decode cX1_takeMaps 41 = .ok (.return_, 1) := by decide +kernel
theorem dX1_hear_0 : decode cX1_hear 0 = .ok (.aload_n 0, 1) := by decide +kernel
theorem dX1_hear_1 : decode cX1_hear 1 = .ok (.getfield 9, 3) := by decide +kernel
theorem dX1_hear_4 : decode cX1_hear 4 = .ok (.iload_n 1, 1) := by decide +kernel
theorem dX1_hear_5 : decode cX1_hear 5 = .ok (.dup2, 1) := by decide +kernel
theorem dX1_hear_6 : decode cX1_hear 6 = .ok (.iaload, 1) := by decide +kernel
theorem dX1_hear_7 : decode cX1_hear 7 = .ok (.iload_n 2, 1) := by decide +kernel
theorem dX1_hear_8 : decode cX1_hear 8 = .ok (.ior, 1) := by decide +kernel
theorem dX1_hear_9 : decode cX1_hear 9 = .ok (.iastore, 1) := by decide +kernel
theorem dX1_hear_10 : decode cX1_hear 10 = .ok (.aload_n 0, 1) := by decide +kernel
theorem dX1_hear_11 : decode cX1_hear 11 = .ok (.invokevirtual 83, 3) := by decide +kernel
theorem dX1_hear_14 : decode cX1_hear 14 = .ok (.return_, 1) := by decide +kernel
theorem dX1_leftAtWorst_0 : decode cX1_leftAtWorst 0 = .ok (.aload_n 0, 1) := by decide +kernel
theorem dX1_leftAtWorst_1 : decode cX1_leftAtWorst 1 = .ok (.getfield 9, 3) := by decide +kernel
theorem dX1_leftAtWorst_4 : decode cX1_leftAtWorst 4 = .ok (.iload_n 1, 1) := by decide +kernel
theorem dX1_leftAtWorst_5 : decode cX1_leftAtWorst 5 = .ok (.iaload, 1) := by decide +kernel
theorem dX1_leftAtWorst_6 : decode cX1_leftAtWorst 6 = .ok (.istore_n 3, 1) := by decide +kernel
theorem dX1_leftAtWorst_7 : decode cX1_leftAtWorst 7 = .ok (.aload_n 0, 1) := by decide +kernel
theorem dX1_leftAtWorst_8 : decode cX1_leftAtWorst 8 = .ok (.iload_n 1, 1) := by decide +kernel
theorem dX1_leftAtWorst_9 : decode cX1_leftAtWorst 9 = .ok (.iload_n 2, 1) := by decide +kernel
theorem dX1_leftAtWorst_10 : decode cX1_leftAtWorst 10 = .ok (.sipush 2000, 3) := by decide +kernel
theorem dX1_leftAtWorst_13 : decode cX1_leftAtWorst 13 = .ok (.sipush 2000, 3) := by decide +kernel
theorem dX1_leftAtWorst_16 : decode cX1_leftAtWorst 16 = .ok (.invokevirtual 101, 3) := by decide +kernel
theorem dX1_leftAtWorst_19 : decode cX1_leftAtWorst 19 = .ok (.istore 4, 2) := by decide +kernel
theorem dX1_leftAtWorst_21 : decode cX1_leftAtWorst 21 = .ok (.iconst 0, 1) := by decide +kernel
theorem dX1_leftAtWorst_22 : decode cX1_leftAtWorst 22 = .ok (.istore 5, 2) := by decide +kernel
theorem dX1_leftAtWorst_24 : decode cX1_leftAtWorst 24 = .ok (.iload 5, 2) := by decide +kernel
theorem dX1_leftAtWorst_26 : decode cX1_leftAtWorst 26 = .ok (.bipush 6, 2) := by decide +kernel
theorem dX1_leftAtWorst_28 : decode cX1_leftAtWorst 28 = .ok (.if_icmp .ge 76, 3) := by decide +kernel
theorem dX1_leftAtWorst_31 : decode cX1_leftAtWorst 31 = .ok (.iload 5, 2) := by decide +kernel
theorem dX1_leftAtWorst_33 : decode cX1_leftAtWorst 33 = .ok (.iload_n 1, 1) := by decide +kernel
theorem dX1_leftAtWorst_34 : decode cX1_leftAtWorst 34 = .ok (.if_icmp .eq 64, 3) := by decide +kernel
theorem dX1_leftAtWorst_37 : decode cX1_leftAtWorst 37 = .ok (.aload_n 0, 1) := by decide +kernel
theorem dX1_leftAtWorst_38 : decode cX1_leftAtWorst 38 = .ok (.getfield 9, 3) := by decide +kernel
theorem dX1_leftAtWorst_41 : decode cX1_leftAtWorst 41 = .ok (.iload 5, 2) := by decide +kernel
theorem dX1_leftAtWorst_43 : decode cX1_leftAtWorst 43 = .ok (.iaload, 1) := by decide +kernel
theorem dX1_leftAtWorst_44 : decode cX1_leftAtWorst 44 = .ok (.iload_n 2, 1) := by decide +kernel
theorem dX1_leftAtWorst_45 : decode cX1_leftAtWorst 45 = .ok (.invokestatic 105, 3) := by decide +kernel
theorem dX1_leftAtWorst_48 : decode cX1_leftAtWorst 48 = .ok (.ifCond .eq 50, 3) := by decide +kernel
theorem dX1_leftAtWorst_51 : decode cX1_leftAtWorst 51 = .ok (.aload_n 0, 1) := by decide +kernel
theorem dX1_leftAtWorst_52 : decode cX1_leftAtWorst 52 = .ok (.iload 5, 2) := by decide +kernel
theorem dX1_leftAtWorst_54 : decode cX1_leftAtWorst 54 = .ok (.iload_n 1, 1) := by decide +kernel
theorem dX1_leftAtWorst_55 : decode cX1_leftAtWorst 55 = .ok (.iload_n 2, 1) := by decide +kernel
theorem dX1_leftAtWorst_56 : decode cX1_leftAtWorst 56 = .ok (.invokevirtual 109, 3) := by decide +kernel
theorem dX1_leftAtWorst_59 : decode cX1_leftAtWorst 59 = .ok (.ifCond .ne 39, 3) := by decide +kernel
theorem dX1_leftAtWorst_62 : decode cX1_leftAtWorst 62 = .ok (.iload 5, 2) := by decide +kernel
theorem dX1_leftAtWorst_64 : decode cX1_leftAtWorst 64 = .ok (.bipush 9, 2) := by decide +kernel
theorem dX1_leftAtWorst_66 : decode cX1_leftAtWorst 66 = .ok (.imul, 1) := by decide +kernel
theorem dX1_leftAtWorst_67 : decode cX1_leftAtWorst 67 = .ok (.iload_n 2, 1) := by decide +kernel
theorem dX1_leftAtWorst_68 : decode cX1_leftAtWorst 68 = .ok (.iadd, 1) := by decide +kernel
theorem dX1_leftAtWorst_69 : decode cX1_leftAtWorst 69 = .ok (.istore 6, 2) := by decide +kernel
theorem dX1_leftAtWorst_71 : decode cX1_leftAtWorst 71 = .ok (.iload 4, 2) := by decide +kernel
theorem dX1_leftAtWorst_73 : decode cX1_leftAtWorst 73 = .ok (.aload_n 0, 1) := by decide +kernel
theorem dX1_leftAtWorst_74 : decode cX1_leftAtWorst 74 = .ok (.iload_n 1, 1) := by decide +kernel
theorem dX1_leftAtWorst_75 : decode cX1_leftAtWorst 75 = .ok (.iload_n 2, 1) := by decide +kernel
theorem dX1_leftAtWorst_76 : decode cX1_leftAtWorst 76 = .ok (.aload_n 0, 1) := by decide +kernel
theorem dX1_leftAtWorst_77 : decode cX1_leftAtWorst 77 = .ok (.getfield 15, 3) := by decide +kernel
theorem dX1_leftAtWorst_80 : decode cX1_leftAtWorst 80 = .ok (.iload 6, 2) := by decide +kernel
theorem dX1_leftAtWorst_82 : decode cX1_leftAtWorst 82 = .ok (.iaload, 1) := by decide +kernel
theorem dX1_leftAtWorst_83 : decode cX1_leftAtWorst 83 = .ok (.aload_n 0, 1) := by decide +kernel
theorem dX1_leftAtWorst_84 : decode cX1_leftAtWorst 84 = .ok (.getfield 18, 3) := by decide +kernel
theorem dX1_leftAtWorst_87 : decode cX1_leftAtWorst 87 = .ok (.iload 6, 2) := by decide +kernel
theorem dX1_leftAtWorst_89 : decode cX1_leftAtWorst 89 = .ok (.iaload, 1) := by decide +kernel
theorem dX1_leftAtWorst_90 : decode cX1_leftAtWorst 90 = .ok (.invokevirtual 101, 3) := by decide +kernel
theorem dX1_leftAtWorst_93 : decode cX1_leftAtWorst 93 = .ok (.invokestatic 113, 3) := by decide +kernel
theorem dX1_leftAtWorst_96 : decode cX1_leftAtWorst 96 = .ok (.istore 4, 2) := by decide +kernel
theorem dX1_leftAtWorst_98 : decode cX1_leftAtWorst 98 = .ok (.iinc 5 1, 3) := by decide +kernel
theorem dX1_leftAtWorst_101 : decode cX1_leftAtWorst 101 = .ok (.goto (-77), 3) := by decide +kernel
theorem dX1_leftAtWorst_104 : decode cX1_leftAtWorst 104 = .ok (.aload_n 0, 1) := by decide +kernel
theorem dX1_leftAtWorst_105 : decode cX1_leftAtWorst 105 = .ok (.getfield 9, 3) := by decide +kernel
theorem dX1_leftAtWorst_108 : decode cX1_leftAtWorst 108 = .ok (.iload_n 1, 1) := by decide +kernel
theorem dX1_leftAtWorst_109 : decode cX1_leftAtWorst 109 = .ok (.iload_n 3, 1) := by decide +kernel
theorem dX1_leftAtWorst_110 : decode cX1_leftAtWorst 110 = .ok (.iastore, 1) := by decide +kernel
theorem dX1_leftAtWorst_111 : decode cX1_leftAtWorst 111 = .ok (.iload 4, 2) := by decide +kernel
theorem dX1_leftAtWorst_113 : decode cX1_leftAtWorst 113 = .ok (.ireturn, 1) := by decide +kernel
theorem dX1_isTriedAlready_0 : decode cX1_isTriedAlready 0 = .ok (.iload_n 1, 1) := by decide +kernel
theorem dX1_isTriedAlready_1 : decode cX1_isTriedAlready 1 = .ok (.bipush 9, 2) := by decide +kernel
theorem dX1_isTriedAlready_3 : decode cX1_isTriedAlready 3 = .ok (.imul, 1) := by decide +kernel
theorem dX1_isTriedAlready_4 : decode cX1_isTriedAlready 4 = .ok (.iload_n 3, 1) := by decide +kernel
theorem dX1_isTriedAlready_5 : decode cX1_isTriedAlready 5 = .ok (.iadd, 1) := by decide +kernel
theorem dX1_isTriedAlready_6 : decode cX1_isTriedAlready 6 = .ok (.istore 4, 2) := by decide +kernel
theorem dX1_isTriedAlready_8 : decode cX1_isTriedAlready 8 = .ok (.iconst 0, 1) := by decide +kernel
theorem dX1_isTriedAlready_9 : decode cX1_isTriedAlready 9 = .ok (.istore 5, 2) := by decide +kernel
theorem dX1_isTriedAlready_11 : decode cX1_isTriedAlready 11 = .ok (.iload 5, 2) := by decide +kernel
theorem dX1_isTriedAlready_13 : decode cX1_isTriedAlready 13 = .ok (.iload_n 1, 1) := by decide +kernel
theorem dX1_isTriedAlready_14 : decode cX1_isTriedAlready 14 = .ok (.if_icmp .ge 74, 3) := by decide +kernel
theorem dX1_isTriedAlready_17 : decode cX1_isTriedAlready 17 = .ok (.iload 5, 2) := by decide +kernel
theorem dX1_isTriedAlready_19 : decode cX1_isTriedAlready 19 = .ok (.bipush 9, 2) := by decide +kernel
theorem dX1_isTriedAlready_21 : decode cX1_isTriedAlready 21 = .ok (.imul, 1) := by decide +kernel
theorem dX1_isTriedAlready_22 : decode cX1_isTriedAlready 22 = .ok (.iload_n 3, 1) := by decide +kernel
theorem dX1_isTriedAlready_23 : decode cX1_isTriedAlready 23 = .ok (.iadd, 1) := by decide +kernel
theorem dX1_isTriedAlready_24 : decode cX1_isTriedAlready 24 = .ok (.istore 6, 2) := by decide +kernel
theorem dX1_isTriedAlready_26 : decode cX1_isTriedAlready 26 = .ok (.iload 5, 2) := by decide +kernel
theorem dX1_isTriedAlready_28 : decode cX1_isTriedAlready 28 = .ok (.iload_n 2, 1) := by decide +kernel
theorem dX1_isTriedAlready_29 : decode cX1_isTriedAlready 29 = .ok (.if_icmp .eq 53, 3) := by decide +kernel
theorem dX1_isTriedAlready_32 : decode cX1_isTriedAlready 32 = .ok (.aload_n 0, 1) := by decide +kernel
theorem dX1_isTriedAlready_33 : decode cX1_isTriedAlready 33 = .ok (.getfield 9, 3) := by decide +kernel
theorem dX1_isTriedAlready_36 : decode cX1_isTriedAlready 36 = .ok (.iload 5, 2) := by decide +kernel
theorem dX1_isTriedAlready_38 : decode cX1_isTriedAlready 38 = .ok (.iaload, 1) := by decide +kernel
theorem dX1_isTriedAlready_39 : decode cX1_isTriedAlready 39 = .ok (.iload_n 3, 1) := by decide +kernel
theorem dX1_isTriedAlready_40 : decode cX1_isTriedAlready 40 = .ok (.invokestatic 105, 3) := by decide +kernel
theorem dX1_isTriedAlready_43 : decode cX1_isTriedAlready 43 = .ok (.ifCond .eq 39, 3) := by decide +kernel
theorem dX1_isTriedAlready_46 : decode cX1_isTriedAlready 46 = .ok (.aload_n 0, 1) := by decide +kernel
theorem dX1_isTriedAlready_47 : decode cX1_isTriedAlready 47 = .ok (.getfield 15, 3) := by decide +kernel
theorem dX1_isTriedAlready_50 : decode cX1_isTriedAlready 50 = .ok (.iload 4, 2) := by decide +kernel
theorem dX1_isTriedAlready_52 : decode cX1_isTriedAlready 52 = .ok (.iaload, 1) := by decide +kernel
theorem dX1_isTriedAlready_53 : decode cX1_isTriedAlready 53 = .ok (.aload_n 0, 1) := by decide +kernel
theorem dX1_isTriedAlready_54 : decode cX1_isTriedAlready 54 = .ok (.getfield 15, 3) := by decide +kernel
theorem dX1_isTriedAlready_57 : decode cX1_isTriedAlready 57 = .ok (.iload 6, 2) := by decide +kernel
theorem dX1_isTriedAlready_59 : decode cX1_isTriedAlready 59 = .ok (.iaload, 1) := by decide +kernel
theorem dX1_isTriedAlready_60 : decode cX1_isTriedAlready 60 = .ok (.if_icmp .ne 22, 3) := by decide +kernel
theorem dX1_isTriedAlready_63 : decode cX1_isTriedAlready 63 = .ok (.aload_n 0, 1) := by decide +kernel
theorem dX1_isTriedAlready_64 : decode cX1_isTriedAlready 64 = .ok (.getfield 18, 3) := by decide +kernel
theorem dX1_isTriedAlready_67 : decode cX1_isTriedAlready 67 = .ok (.iload 4, 2) := by decide +kernel
theorem dX1_isTriedAlready_69 : decode cX1_isTriedAlready 69 = .ok (.iaload, 1) := by decide +kernel
theorem dX1_isTriedAlready_70 : decode cX1_isTriedAlready 70 = .ok (.aload_n 0, 1) := by decide +kernel
theorem dX1_isTriedAlready_71 : decode cX1_isTriedAlready 71 = .ok (.getfield 18, 3) := by decide +kernel
theorem dX1_isTriedAlready_74 : decode cX1_isTriedAlready 74 = .ok (.iload 6, 2) := by decide +kernel
theorem dX1_isTriedAlready_76 : decode cX1_isTriedAlready 76 = .ok (.iaload, 1) := by decide +kernel
theorem dX1_isTriedAlready_77 : decode cX1_isTriedAlready 77 = .ok (.if_icmp .ne 5, 3) := by decide +kernel
theorem dX1_isTriedAlready_80 : decode cX1_isTriedAlready 80 = .ok (.iconst 1, 1) := by decide +kernel
theorem dX1_isTriedAlready_81 : decode cX1_isTriedAlready 81 = .ok (.ireturn, 1) := by decide +kernel
theorem dX1_isTriedAlready_82 : decode cX1_isTriedAlready 82 = .ok (.iinc 5 1, 3) := by decide +kernel
theorem dX1_isTriedAlready_85 : decode cX1_isTriedAlready 85 = .ok (.goto (-74), 3) := by decide +kernel
theorem dX1_isTriedAlready_88 : decode cX1_isTriedAlready 88 = .ok (.iconst 0, 1) := by decide +kernel
theorem dX1_isTriedAlready_89 : decode cX1_isTriedAlready 89 = .ok (.ireturn, 1) := by decide +kernel
theorem dX1_leftWith_0 : decode cX1_leftWith 0 = .ok (.aload_n 0, 1) := by decide +kernel
theorem dX1_leftWith_1 : decode cX1_leftWith 1 = .ok (.getfield 15, 3) := by decide +kernel
theorem dX1_leftWith_4 : decode cX1_leftWith 4 = .ok (.iload_n 1, 1) := by decide +kernel
theorem dX1_leftWith_5 : decode cX1_leftWith 5 = .ok (.bipush 9, 2) := by decide +kernel
theorem dX1_leftWith_7 : decode cX1_leftWith 7 = .ok (.imul, 1) := by decide +kernel
theorem dX1_leftWith_8 : decode cX1_leftWith 8 = .ok (.iload_n 2, 1) := by decide +kernel
theorem dX1_leftWith_9 : decode cX1_leftWith 9 = .ok (.iadd, 1) := by decide +kernel
theorem dX1_leftWith_10 : decode cX1_leftWith 10 = .ok (.iload_n 3, 1) := by decide +kernel
theorem dX1_leftWith_11 : decode cX1_leftWith 11 = .ok (.iastore, 1) := by decide +kernel
theorem dX1_leftWith_12 : decode cX1_leftWith 12 = .ok (.aload_n 0, 1) := by decide +kernel
theorem dX1_leftWith_13 : decode cX1_leftWith 13 = .ok (.getfield 18, 3) := by decide +kernel
theorem dX1_leftWith_16 : decode cX1_leftWith 16 = .ok (.iload_n 1, 1) := by decide +kernel
theorem dX1_leftWith_17 : decode cX1_leftWith 17 = .ok (.bipush 9, 2) := by decide +kernel
theorem dX1_leftWith_19 : decode cX1_leftWith 19 = .ok (.imul, 1) := by decide +kernel
theorem dX1_leftWith_20 : decode cX1_leftWith 20 = .ok (.iload_n 2, 1) := by decide +kernel
theorem dX1_leftWith_21 : decode cX1_leftWith 21 = .ok (.iadd, 1) := by decide +kernel
theorem dX1_leftWith_22 : decode cX1_leftWith 22 = .ok (.iload 4, 2) := by decide +kernel
theorem dX1_leftWith_24 : decode cX1_leftWith 24 = .ok (.iastore, 1) := by decide +kernel
theorem dX1_leftWith_25 : decode cX1_leftWith 25 = .ok (.aload_n 0, 1) := by decide +kernel
theorem dX1_leftWith_26 : decode cX1_leftWith 26 = .ok (.getfield 9, 3) := by decide +kernel
theorem dX1_leftWith_29 : decode cX1_leftWith 29 = .ok (.iload_n 1, 1) := by decide +kernel
theorem dX1_leftWith_30 : decode cX1_leftWith 30 = .ok (.dup2, 1) := by decide +kernel
theorem dX1_leftWith_31 : decode cX1_leftWith 31 = .ok (.iaload, 1) := by decide +kernel
theorem dX1_leftWith_32 : decode cX1_leftWith 32 = .ok (.iconst 1, 1) := by decide +kernel
theorem dX1_leftWith_33 : decode cX1_leftWith 33 = .ok (.iload_n 2, 1) := by decide +kernel
theorem dX1_leftWith_34 : decode cX1_leftWith 34 = .ok (.ishl, 1) := by decide +kernel
theorem dX1_leftWith_35 : decode cX1_leftWith 35 = .ok (.ior, 1) := by decide +kernel
theorem dX1_leftWith_36 : decode cX1_leftWith 36 = .ok (.iastore, 1) := by decide +kernel
theorem dX1_leftWith_37 : decode cX1_leftWith 37 = .ok (.aload_n 0, 1) := by decide +kernel
theorem dX1_leftWith_38 : decode cX1_leftWith 38 = .ok (.invokevirtual 83, 3) := by decide +kernel
theorem dX1_leftWith_41 : decode cX1_leftWith 41 = .ok (.aload_n 0, 1) := by decide +kernel
theorem dX1_leftWith_42 : decode cX1_leftWith 42 = .ok (.getfield 57, 3) := by decide +kernel
theorem dX1_leftWith_45 : decode cX1_leftWith 45 = .ok (.ireturn, 1) := by decide +kernel
theorem dX1_collect_0 : decode cX1_collect 0 = .ok (.aload_n 0, 1) := by decide +kernel
theorem dX1_collect_1 : decode cX1_collect 1 = .ok (.iconst 0, 1) := by decide +kernel
theorem dX1_collect_2 : decode cX1_collect 2 = .ok (.putfield 57, 3) := by decide +kernel
theorem dX1_collect_5 : decode cX1_collect 5 = .ok (.iconst 0, 1) := by decide +kernel
theorem dX1_collect_6 : decode cX1_collect 6 = .ok (.istore_n 1, 1) := by decide +kernel
theorem dX1_collect_7 : decode cX1_collect 7 = .ok (.iload_n 1, 1) := by decide +kernel
theorem dX1_collect_8 : decode cX1_collect 8 = .ok (.bipush 63, 2) := by decide +kernel
theorem dX1_collect_10 : decode cX1_collect 10 = .ok (.if_icmp .gt 70, 3) := by decide +kernel
theorem dX1_collect_13 : decode cX1_collect 13 = .ok (.iload_n 1, 1) := by decide +kernel
theorem dX1_collect_14 : decode cX1_collect 14 = .ok (.invokestatic 119, 3) := by decide +kernel
theorem dX1_collect_17 : decode cX1_collect 17 = .ok (.aload_n 0, 1) := by decide +kernel
theorem dX1_collect_18 : decode cX1_collect 18 = .ok (.getfield 42, 3) := by decide +kernel
theorem dX1_collect_21 : decode cX1_collect 21 = .ok (.getfield 125, 3) := by decide +kernel
theorem dX1_collect_24 : decode cX1_collect 24 = .ok (.if_icmp .ne 50, 3) := by decide +kernel
theorem dX1_collect_27 : decode cX1_collect 27 = .ok (.aload_n 0, 1) := by decide +kernel
theorem dX1_collect_28 : decode cX1_collect 28 = .ok (.getfield 57, 3) := by decide +kernel
theorem dX1_collect_31 : decode cX1_collect 31 = .ok (.bipush 15, 2) := by decide +kernel
theorem dX1_collect_33 : decode cX1_collect 33 = .ok (.if_icmp .ge 41, 3) := by decide +kernel
theorem dX1_collect_36 : decode cX1_collect 36 = .ok (.aload_n 0, 1) := by decide +kernel
theorem dX1_collect_37 : decode cX1_collect 37 = .ok (.iload_n 1, 1) := by decide +kernel
theorem dX1_collect_38 : decode cX1_collect 38 = .ok (.invokevirtual 128, 3) := by decide +kernel
theorem dX1_collect_41 : decode cX1_collect 41 = .ok (.ifCond .eq 33, 3) := by decide +kernel
theorem dX1_collect_44 : decode cX1_collect 44 = .ok (.aload_n 0, 1) := by decide +kernel
theorem dX1_collect_45 : decode cX1_collect 45 = .ok (.getfield 33, 3) := by decide +kernel
theorem dX1_collect_48 : decode cX1_collect 48 = .ok (.aload_n 0, 1) := by decide +kernel
theorem dX1_collect_49 : decode cX1_collect 49 = .ok (.getfield 57, 3) := by decide +kernel
theorem dX1_collect_52 : decode cX1_collect 52 = .ok (.iload_n 1, 1) := by decide +kernel
theorem dX1_collect_53 : decode cX1_collect 53 = .ok (.iastore, 1) := by decide +kernel
theorem dX1_collect_54 : decode cX1_collect 54 = .ok (.aload_n 0, 1) := by decide +kernel
theorem dX1_collect_55 : decode cX1_collect 55 = .ok (.aload_n 0, 1) := by decide +kernel
theorem dX1_collect_56 : decode cX1_collect 56 = .ok (.getfield 57, 3) := by decide +kernel
theorem dX1_collect_59 : decode cX1_collect 59 = .ok (.iconst 4, 1) := by decide +kernel
theorem dX1_collect_60 : decode cX1_collect 60 = .ok (.imul, 1) := by decide +kernel
theorem dX1_collect_61 : decode cX1_collect 61 = .ok (.invokevirtual 132, 3) := by decide +kernel
theorem dX1_collect_64 : decode cX1_collect 64 = .ok (.aload_n 0, 1) := by decide +kernel
theorem dX1_collect_65 : decode cX1_collect 65 = .ok (.dup, 1) := by decide +kernel
theorem dX1_collect_66 : decode cX1_collect 66 = .ok (.getfield 57, 3) := by decide +kernel
theorem dX1_collect_69 : decode cX1_collect 69 = .ok (.iconst 1, 1) := by decide +kernel
theorem dX1_collect_70 : decode cX1_collect 70 = .ok (.iadd, 1) := by decide +kernel
theorem dX1_collect_71 : decode cX1_collect 71 = .ok (.putfield 57, 3) := by decide +kernel
theorem dX1_collect_74 : decode cX1_collect 74 = .ok (.iinc 1 1, 3) := by decide +kernel
theorem dX1_collect_77 : decode cX1_collect 77 = .ok (.goto (-70), 3) := by decide +kernel
theorem dX1_collect_80 : decode cX1_collect 80 = .ok (.return_, 1) := by decide +kernel
theorem dX1_mayLie_0 : decode cX1_mayLie 0 = .ok (.aload_n 0, 1) := by decide +kernel
theorem dX1_mayLie_1 : decode cX1_mayLie 1 = .ok (.iload_n 1, 1) := by decide +kernel
theorem dX1_mayLie_2 : decode cX1_mayLie 2 = .ok (.invokevirtual 136, 3) := by decide +kernel
theorem dX1_mayLie_5 : decode cX1_mayLie 5 = .ok (.ifCond .ne 5, 3) := by decide +kernel
theorem dX1_mayLie_8 : decode cX1_mayLie 8 = .ok (.iconst 0, 1) := by decide +kernel
theorem dX1_mayLie_9 : decode cX1_mayLie 9 = .ok (.ireturn, 1) := by decide +kernel
theorem dX1_mayLie_10 : decode cX1_mayLie 10 = .ok (.iload_n 1, 1) := by decide +kernel
theorem dX1_mayLie_11 : decode cX1_mayLie 11 = .ok (.istore_n 2, 1) := by decide +kernel
theorem dX1_mayLie_12 : decode cX1_mayLie 12 = .ok (.iconst 0, 1) := by decide +kernel
theorem dX1_mayLie_13 : decode cX1_mayLie 13 = .ok (.istore_n 3, 1) := by decide +kernel
theorem dX1_mayLie_14 : decode cX1_mayLie 14 = .ok (.iload_n 3, 1) := by decide +kernel
theorem dX1_mayLie_15 : decode cX1_mayLie 15 = .ok (.bipush 6, 2) := by decide +kernel
theorem dX1_mayLie_17 : decode cX1_mayLie 17 = .ok (.if_icmp .ge 50, 3) := by decide +kernel
theorem dX1_mayLie_20 : decode cX1_mayLie 20 = .ok (.iload_n 1, 1) := by decide +kernel
theorem dX1_mayLie_21 : decode cX1_mayLie 21 = .ok (.iload_n 3, 1) := by decide +kernel
theorem dX1_mayLie_22 : decode cX1_mayLie 22 = .ok (.invokestatic 105, 3) := by decide +kernel
theorem dX1_mayLie_25 : decode cX1_mayLie 25 = .ok (.ifCond .eq 11, 3) := by decide +kernel
theorem dX1_mayLie_28 : decode cX1_mayLie 28 = .ok (.aload_n 0, 1) := by decide +kernel
theorem dX1_mayLie_29 : decode cX1_mayLie 29 = .ok (.iload_n 3, 1) := by decide +kernel
theorem dX1_mayLie_30 : decode cX1_mayLie 30 = .ok (.invokevirtual 139, 3) := by decide +kernel
theorem dX1_mayLie_33 : decode cX1_mayLie 33 = .ok (.goto 4, 3) := by decide +kernel
theorem dX1_mayLie_36 : decode cX1_mayLie 36 = .ok (.iconst 0, 1) := by decide +kernel
theorem dX1_mayLie_37 : decode cX1_mayLie 37 = .ok (.istore 4, 2) := by decide +kernel
theorem dX1_mayLie_39 : decode cX1_mayLie 39 = .ok (.iload 4, 2) := by decide +kernel
theorem dX1_mayLie_41 : decode cX1_mayLie 41 = .ok (.iconst 1, 1) := by decide +kernel
theorem dX1_mayLie_42 : decode cX1_mayLie 42 = .ok (.if_icmp .le 5, 3) := by decide +kernel
theorem dX1_mayLie_45 : decode cX1_mayLie 45 = .ok (.iconst 0, 1) := by decide +kernel
theorem dX1_mayLie_46 : decode cX1_mayLie 46 = .ok (.ireturn, 1) := by decide +kernel
theorem dX1_mayLie_47 : decode cX1_mayLie 47 = .ok (.iload 4, 2) := by decide +kernel
theorem dX1_mayLie_49 : decode cX1_mayLie 49 = .ok (.iconst 1, 1) := by decide +kernel
theorem dX1_mayLie_50 : decode cX1_mayLie 50 = .ok (.if_icmp .ne 11, 3) := by decide +kernel
theorem dX1_mayLie_53 : decode cX1_mayLie 53 = .ok (.iload_n 2, 1) := by decide +kernel
theorem dX1_mayLie_54 : decode cX1_mayLie 54 = .ok (.iconst 1, 1) := by decide +kernel
theorem dX1_mayLie_55 : decode cX1_mayLie 55 = .ok (.iload_n 3, 1) := by decide +kernel
theorem dX1_mayLie_56 : decode cX1_mayLie 56 = .ok (.ishl, 1) := by decide +kernel
theorem dX1_mayLie_57 : decode cX1_mayLie 57 = .ok (.iconst (-1), 1) := by decide +kernel
theorem dX1_mayLie_58 : decode cX1_mayLie 58 = .ok (.ixor, 1) := by decide +kernel
theorem dX1_mayLie_59 : decode cX1_mayLie 59 = .ok (.iand, 1) := by decide +kernel
theorem dX1_mayLie_60 : decode cX1_mayLie 60 = .ok (.istore_n 2, 1) := by decide +kernel
theorem dX1_mayLie_61 : decode cX1_mayLie 61 = .ok (.iinc 3 1, 3) := by decide +kernel
theorem dX1_mayLie_64 : decode cX1_mayLie 64 = .ok (.goto (-50), 3) := by decide +kernel
theorem dX1_mayLie_67 : decode cX1_mayLie 67 = .ok (.aload_n 0, 1) := by decide +kernel
theorem dX1_mayLie_68 : decode cX1_mayLie 68 = .ok (.iload_n 1, 1) := by decide +kernel
theorem dX1_mayLie_69 : decode cX1_mayLie 69 = .ok (.invokevirtual 142, 3) := by decide +kernel
theorem dX1_mayLie_72 : decode cX1_mayLie 72 = .ok (.iload_n 2, 1) := by decide +kernel
theorem dX1_mayLie_73 : decode cX1_mayLie 73 = .ok (.invokestatic 119, 3) := by decide +kernel
theorem dX1_mayLie_76 : decode cX1_mayLie 76 = .ok (.if_icmp .le 5, 3) := by decide +kernel
theorem dX1_mayLie_79 : decode cX1_mayLie 79 = .ok (.iconst 0, 1) := by decide +kernel
theorem dX1_mayLie_80 : decode cX1_mayLie 80 = .ok (.ireturn, 1) := by decide +kernel
theorem dX1_mayLie_81 : decode cX1_mayLie 81 = .ok (.iconst 0, 1) := by decide +kernel
theorem dX1_mayLie_82 : decode cX1_mayLie 82 = .ok (.istore_n 3, 1) := by decide +kernel
theorem dX1_mayLie_83 : decode cX1_mayLie 83 = .ok (.iload_n 3, 1) := by decide +kernel
theorem dX1_mayLie_84 : decode cX1_mayLie 84 = .ok (.bipush 6, 2) := by decide +kernel
theorem dX1_mayLie_86 : decode cX1_mayLie 86 = .ok (.if_icmp .ge 27, 3) := by decide +kernel
theorem dX1_mayLie_89 : decode cX1_mayLie 89 = .ok (.iload_n 2, 1) := by decide +kernel
theorem dX1_mayLie_90 : decode cX1_mayLie 90 = .ok (.iload_n 3, 1) := by decide +kernel
theorem dX1_mayLie_91 : decode cX1_mayLie 91 = .ok (.invokestatic 105, 3) := by decide +kernel
theorem dX1_mayLie_94 : decode cX1_mayLie 94 = .ok (.ifCond .eq 13, 3) := by decide +kernel
theorem dX1_mayLie_97 : decode cX1_mayLie 97 = .ok (.aload_n 0, 1) := by decide +kernel
theorem dX1_mayLie_98 : decode cX1_mayLie 98 = .ok (.iload_n 3, 1) := by decide +kernel
theorem dX1_mayLie_99 : decode cX1_mayLie 99 = .ok (.invokevirtual 145, 3) := by decide +kernel
theorem dX1_mayLie_102 : decode cX1_mayLie 102 = .ok (.ifCond .ne 5, 3) := by decide +kernel
theorem dX1_mayLie_105 : decode cX1_mayLie 105 = .ok (.iconst 0, 1) := by decide +kernel
theorem dX1_mayLie_106 : decode cX1_mayLie 106 = .ok (.ireturn, 1) := by decide +kernel
theorem dX1_mayLie_107 : decode cX1_mayLie 107 = .ok (.iinc 3 1, 3) := by decide +kernel
theorem dX1_mayLie_110 : decode cX1_mayLie 110 = .ok (.goto (-27), 3) := by decide +kernel
theorem dX1_mayLie_113 : decode cX1_mayLie 113 = .ok (.aload_n 0, 1) := by decide +kernel
theorem dX1_mayLie_114 : decode cX1_mayLie 114 = .ok (.invokevirtual 148, 3) := by decide +kernel
theorem dX1_mayLie_117 : decode cX1_mayLie 117 = .ok (.ifCond .ne 7, 3) := by decide +kernel
theorem dX1_mayLie_120 : decode cX1_mayLie 120 = .ok (.iconst 1, 1) := by decide +kernel
theorem dX1_mayLie_121 : decode cX1_mayLie 121 = .ok (.goto 4, 3) := by decide +kernel
theorem dX1_mayLie_124 : decode cX1_mayLie 124 = .ok (.iconst 0, 1) := by decide +kernel
theorem dX1_mayLie_125 : decode cX1_mayLie 125 = .ok (.ireturn, 1) := by decide +kernel
theorem dX1_arePlacesLeft_0 : decode cX1_arePlacesLeft 0 = .ok (.aload_n 0, 1) := by decide +kernel
theorem dX1_arePlacesLeft_1 : decode cX1_arePlacesLeft 1 = .ok (.iconst 0, 1) := by decide +kernel
theorem dX1_arePlacesLeft_2 : decode cX1_arePlacesLeft 2 = .ok (.putfield 60, 3) := by decide +kernel
theorem dX1_arePlacesLeft_5 : decode cX1_arePlacesLeft 5 = .ok (.iconst 0, 1) := by decide +kernel
theorem dX1_arePlacesLeft_6 : decode cX1_arePlacesLeft 6 = .ok (.istore_n 2, 1) := by decide +kernel
theorem dX1_arePlacesLeft_7 : decode cX1_arePlacesLeft 7 = .ok (.iload_n 2, 1) := by decide +kernel
theorem dX1_arePlacesLeft_8 : decode cX1_arePlacesLeft 8 = .ok (.aload_n 0, 1) := by decide +kernel
theorem dX1_arePlacesLeft_9 : decode cX1_arePlacesLeft 9 = .ok (.getfield 42, 3) := by decide +kernel
theorem dX1_arePlacesLeft_12 : decode cX1_arePlacesLeft 12 = .ok (.getfield 92, 3) := by decide +kernel
theorem dX1_arePlacesLeft_15 : decode cX1_arePlacesLeft 15 = .ok (.if_icmp .ge 114, 3) := by decide +kernel
theorem dX1_arePlacesLeft_18 : decode cX1_arePlacesLeft 18 = .ok (.aload_n 0, 1) := by decide +kernel
theorem dX1_arePlacesLeft_19 : decode cX1_arePlacesLeft 19 = .ok (.getfield 21, 3) := by decide +kernel
theorem dX1_arePlacesLeft_22 : decode cX1_arePlacesLeft 22 = .ok (.iload_n 2, 1) := by decide +kernel
theorem dX1_arePlacesLeft_23 : decode cX1_arePlacesLeft 23 = .ok (.ldc 152, 2) := by decide +kernel
theorem dX1_arePlacesLeft_25 : decode cX1_arePlacesLeft 25 = .ok (.iastore, 1) := by decide +kernel
theorem dX1_arePlacesLeft_26 : decode cX1_arePlacesLeft 26 = .ok (.aload_n 0, 1) := by decide +kernel
theorem dX1_arePlacesLeft_27 : decode cX1_arePlacesLeft 27 = .ok (.getfield 24, 3) := by decide +kernel
theorem dX1_arePlacesLeft_30 : decode cX1_arePlacesLeft 30 = .ok (.iload_n 2, 1) := by decide +kernel
theorem dX1_arePlacesLeft_31 : decode cX1_arePlacesLeft 31 = .ok (.ldc 153, 2) := by decide +kernel
theorem dX1_arePlacesLeft_33 : decode cX1_arePlacesLeft 33 = .ok (.iastore, 1) := by decide +kernel
theorem dX1_arePlacesLeft_34 : decode cX1_arePlacesLeft 34 = .ok (.aload_n 0, 1) := by decide +kernel
theorem dX1_arePlacesLeft_35 : decode cX1_arePlacesLeft 35 = .ok (.getfield 27, 3) := by decide +kernel
theorem dX1_arePlacesLeft_38 : decode cX1_arePlacesLeft 38 = .ok (.iload_n 2, 1) := by decide +kernel
theorem dX1_arePlacesLeft_39 : decode cX1_arePlacesLeft 39 = .ok (.ldc 152, 2) := by decide +kernel
theorem dX1_arePlacesLeft_41 : decode cX1_arePlacesLeft 41 = .ok (.iastore, 1) := by decide +kernel
theorem dX1_arePlacesLeft_42 : decode cX1_arePlacesLeft 42 = .ok (.aload_n 0, 1) := by decide +kernel
theorem dX1_arePlacesLeft_43 : decode cX1_arePlacesLeft 43 = .ok (.getfield 30, 3) := by decide +kernel
theorem dX1_arePlacesLeft_46 : decode cX1_arePlacesLeft 46 = .ok (.iload_n 2, 1) := by decide +kernel
theorem dX1_arePlacesLeft_47 : decode cX1_arePlacesLeft 47 = .ok (.ldc 153, 2) := by decide +kernel
theorem dX1_arePlacesLeft_49 : decode cX1_arePlacesLeft 49 = .ok (.iastore, 1) := by decide +kernel
theorem dX1_arePlacesLeft_50 : decode cX1_arePlacesLeft 50 = .ok (.iconst 0, 1) := by decide +kernel
theorem dX1_arePlacesLeft_51 : decode cX1_arePlacesLeft 51 = .ok (.istore_n 3, 1) := by decide +kernel
theorem dX1_arePlacesLeft_52 : decode cX1_arePlacesLeft 52 = .ok (.iload_n 3, 1) := by decide +kernel
theorem dX1_arePlacesLeft_53 : decode cX1_arePlacesLeft 53 = .ok (.bipush 6, 2) := by decide +kernel
theorem dX1_arePlacesLeft_55 : decode cX1_arePlacesLeft 55 = .ok (.if_icmp .ge 36, 3) := by decide +kernel
theorem dX1_arePlacesLeft_58 : decode cX1_arePlacesLeft 58 = .ok (.iload_n 1, 1) := by decide +kernel
theorem dX1_arePlacesLeft_59 : decode cX1_arePlacesLeft 59 = .ok (.iload_n 3, 1) := by decide +kernel
theorem dX1_arePlacesLeft_60 : decode cX1_arePlacesLeft 60 = .ok (.invokestatic 105, 3) := by decide +kernel
theorem dX1_arePlacesLeft_63 : decode cX1_arePlacesLeft 63 = .ok (.ifCond .ne 22, 3) := by decide +kernel
theorem dX1_arePlacesLeft_66 : decode cX1_arePlacesLeft 66 = .ok (.aload_n 0, 1) := by decide +kernel
theorem dX1_arePlacesLeft_67 : decode cX1_arePlacesLeft 67 = .ok (.getfield 9, 3) := by decide +kernel
theorem dX1_arePlacesLeft_70 : decode cX1_arePlacesLeft 70 = .ok (.iload_n 3, 1) := by decide +kernel
theorem dX1_arePlacesLeft_71 : decode cX1_arePlacesLeft 71 = .ok (.iaload, 1) := by decide +kernel
theorem dX1_arePlacesLeft_72 : decode cX1_arePlacesLeft 72 = .ok (.iload_n 2, 1) := by decide +kernel
theorem dX1_arePlacesLeft_73 : decode cX1_arePlacesLeft 73 = .ok (.invokestatic 105, 3) := by decide +kernel
theorem dX1_arePlacesLeft_76 : decode cX1_arePlacesLeft 76 = .ok (.ifCond .eq 9, 3) := by decide +kernel
theorem dX1_arePlacesLeft_79 : decode cX1_arePlacesLeft 79 = .ok (.aload_n 0, 1) := by decide +kernel
theorem dX1_arePlacesLeft_80 : decode cX1_arePlacesLeft 80 = .ok (.iload_n 3, 1) := by decide +kernel
theorem dX1_arePlacesLeft_81 : decode cX1_arePlacesLeft 81 = .ok (.iload_n 2, 1) := by decide +kernel
theorem dX1_arePlacesLeft_82 : decode cX1_arePlacesLeft 82 = .ok (.invokevirtual 154, 3) := by decide +kernel
theorem dX1_arePlacesLeft_85 : decode cX1_arePlacesLeft 85 = .ok (.iinc 3 1, 3) := by decide +kernel
theorem dX1_arePlacesLeft_88 : decode cX1_arePlacesLeft 88 = .ok (.goto (-36), 3) := by decide +kernel
theorem dX1_arePlacesLeft_91 : decode cX1_arePlacesLeft 91 = .ok (.aload_n 0, 1) := by decide +kernel
theorem dX1_arePlacesLeft_92 : decode cX1_arePlacesLeft 92 = .ok (.getfield 21, 3) := by decide +kernel
theorem dX1_arePlacesLeft_95 : decode cX1_arePlacesLeft 95 = .ok (.iload_n 2, 1) := by decide +kernel
theorem dX1_arePlacesLeft_96 : decode cX1_arePlacesLeft 96 = .ok (.iaload, 1) := by decide +kernel
theorem dX1_arePlacesLeft_97 : decode cX1_arePlacesLeft 97 = .ok (.aload_n 0, 1) := by decide +kernel
theorem dX1_arePlacesLeft_98 : decode cX1_arePlacesLeft 98 = .ok (.getfield 24, 3) := by decide +kernel
theorem dX1_arePlacesLeft_101 : decode cX1_arePlacesLeft 101 = .ok (.iload_n 2, 1) := by decide +kernel
theorem dX1_arePlacesLeft_102 : decode cX1_arePlacesLeft 102 = .ok (.iaload, 1) := by decide +kernel
theorem dX1_arePlacesLeft_103 : decode cX1_arePlacesLeft 103 = .ok (.if_icmp .gt 18, 3) := by decide +kernel
theorem dX1_arePlacesLeft_106 : decode cX1_arePlacesLeft 106 = .ok (.aload_n 0, 1) := by decide +kernel
theorem dX1_arePlacesLeft_107 : decode cX1_arePlacesLeft 107 = .ok (.getfield 27, 3) := by decide +kernel
theorem dX1_arePlacesLeft_110 : decode cX1_arePlacesLeft 110 = .ok (.iload_n 2, 1) := by decide +kernel
theorem dX1_arePlacesLeft_111 : decode cX1_arePlacesLeft 111 = .ok (.iaload, 1) := by decide +kernel
theorem dX1_arePlacesLeft_112 : decode cX1_arePlacesLeft 112 = .ok (.aload_n 0, 1) := by decide +kernel
theorem dX1_arePlacesLeft_113 : decode cX1_arePlacesLeft 113 = .ok (.getfield 30, 3) := by decide +kernel
theorem dX1_arePlacesLeft_116 : decode cX1_arePlacesLeft 116 = .ok (.iload_n 2, 1) := by decide +kernel
theorem dX1_arePlacesLeft_117 : decode cX1_arePlacesLeft 117 = .ok (.iaload, 1) := by decide +kernel
theorem dX1_arePlacesLeft_118 : decode cX1_arePlacesLeft 118 = .ok (.if_icmp .le 5, 3) := by decide +kernel
theorem dX1_arePlacesLeft_121 : decode cX1_arePlacesLeft 121 = .ok (.iconst 0, 1) := by decide +kernel
theorem dX1_arePlacesLeft_122 : decode cX1_arePlacesLeft 122 = .ok (.ireturn, 1) := by decide +kernel
theorem dX1_arePlacesLeft_123 : decode cX1_arePlacesLeft 123 = .ok (.iinc 2 1, 3) := by decide +kernel
theorem dX1_arePlacesLeft_126 : decode cX1_arePlacesLeft 126 = .ok (.goto (-119), 3) := by decide +kernel
theorem dX1_arePlacesLeft_129 : decode cX1_arePlacesLeft 129 = .ok (.iconst 1, 1) := by decide +kernel
theorem dX1_arePlacesLeft_130 : decode cX1_arePlacesLeft 130 = .ok (.ireturn, 1) := by decide +kernel
theorem dX1_narrow_0 : decode cX1_narrow 0 = .ok (.aload_n 0, 1) := by decide +kernel
theorem dX1_narrow_1 : decode cX1_narrow 1 = .ok (.getfield 15, 3) := by decide +kernel
theorem dX1_narrow_4 : decode cX1_narrow 4 = .ok (.iload_n 1, 1) := by decide +kernel
theorem dX1_narrow_5 : decode cX1_narrow 5 = .ok (.bipush 9, 2) := by decide +kernel
theorem dX1_narrow_7 : decode cX1_narrow 7 = .ok (.imul, 1) := by decide +kernel
theorem dX1_narrow_8 : decode cX1_narrow 8 = .ok (.iload_n 2, 1) := by decide +kernel
theorem dX1_narrow_9 : decode cX1_narrow 9 = .ok (.iadd, 1) := by decide +kernel
theorem dX1_narrow_10 : decode cX1_narrow 10 = .ok (.iaload, 1) := by decide +kernel
theorem dX1_narrow_11 : decode cX1_narrow 11 = .ok (.istore_n 3, 1) := by decide +kernel
theorem dX1_narrow_12 : decode cX1_narrow 12 = .ok (.aload_n 0, 1) := by decide +kernel
theorem dX1_narrow_13 : decode cX1_narrow 13 = .ok (.getfield 18, 3) := by decide +kernel
theorem dX1_narrow_16 : decode cX1_narrow 16 = .ok (.iload_n 1, 1) := by decide +kernel
theorem dX1_narrow_17 : decode cX1_narrow 17 = .ok (.bipush 9, 2) := by decide +kernel
theorem dX1_narrow_19 : decode cX1_narrow 19 = .ok (.imul, 1) := by decide +kernel
theorem dX1_narrow_20 : decode cX1_narrow 20 = .ok (.iload_n 2, 1) := by decide +kernel
theorem dX1_narrow_21 : decode cX1_narrow 21 = .ok (.iadd, 1) := by decide +kernel
theorem dX1_narrow_22 : decode cX1_narrow 22 = .ok (.iaload, 1) := by decide +kernel
theorem dX1_narrow_23 : decode cX1_narrow 23 = .ok (.istore 4, 2) := by decide +kernel
theorem dX1_narrow_25 : decode cX1_narrow 25 = .ok (.aload_n 0, 1) := by decide +kernel
theorem dX1_narrow_26 : decode cX1_narrow 26 = .ok (.getfield 21, 3) := by decide +kernel
theorem dX1_narrow_29 : decode cX1_narrow 29 = .ok (.iload_n 2, 1) := by decide +kernel
theorem dX1_narrow_30 : decode cX1_narrow 30 = .ok (.aload_n 0, 1) := by decide +kernel
theorem dX1_narrow_31 : decode cX1_narrow 31 = .ok (.getfield 21, 3) := by decide +kernel
theorem dX1_narrow_34 : decode cX1_narrow 34 = .ok (.iload_n 2, 1) := by decide +kernel
theorem dX1_narrow_35 : decode cX1_narrow 35 = .ok (.iaload, 1) := by decide +kernel
theorem dX1_narrow_36 : decode cX1_narrow 36 = .ok (.iload_n 3, 1) := by decide +kernel
theorem dX1_narrow_37 : decode cX1_narrow 37 = .ok (.aload_n 0, 1) := by decide +kernel
theorem dX1_narrow_38 : decode cX1_narrow 38 = .ok (.getfield 42, 3) := by decide +kernel
theorem dX1_narrow_41 : decode cX1_narrow 41 = .ok (.getfield 157, 3) := by decide +kernel
theorem dX1_narrow_44 : decode cX1_narrow 44 = .ok (.isub, 1) := by decide +kernel
theorem dX1_narrow_45 : decode cX1_narrow 45 = .ok (.invokestatic 113, 3) := by decide +kernel
theorem dX1_narrow_48 : decode cX1_narrow 48 = .ok (.iastore, 1) := by decide +kernel
theorem dX1_narrow_49 : decode cX1_narrow 49 = .ok (.aload_n 0, 1) := by decide +kernel
theorem dX1_narrow_50 : decode cX1_narrow 50 = .ok (.getfield 24, 3) := by decide +kernel
theorem dX1_narrow_53 : decode cX1_narrow 53 = .ok (.iload_n 2, 1) := by decide +kernel
theorem dX1_narrow_54 : decode cX1_narrow 54 = .ok (.aload_n 0, 1) := by decide +kernel
theorem dX1_narrow_55 : decode cX1_narrow 55 = .ok (.getfield 24, 3) := by decide +kernel
theorem dX1_narrow_58 : decode cX1_narrow 58 = .ok (.iload_n 2, 1) := by decide +kernel
theorem dX1_narrow_59 : decode cX1_narrow 59 = .ok (.iaload, 1) := by decide +kernel
theorem dX1_narrow_60 : decode cX1_narrow 60 = .ok (.iload_n 3, 1) := by decide +kernel
theorem dX1_narrow_61 : decode cX1_narrow 61 = .ok (.aload_n 0, 1) := by decide +kernel
theorem dX1_narrow_62 : decode cX1_narrow 62 = .ok (.getfield 42, 3) := by decide +kernel
theorem dX1_narrow_65 : decode cX1_narrow 65 = .ok (.getfield 157, 3) := by decide +kernel
theorem dX1_narrow_68 : decode cX1_narrow 68 = .ok (.iadd, 1) := by decide +kernel
theorem dX1_narrow_69 : decode cX1_narrow 69 = .ok (.invokestatic 160, 3) := by decide +kernel
theorem dX1_narrow_72 : decode cX1_narrow 72 = .ok (.iastore, 1) := by decide +kernel
theorem dX1_narrow_73 : decode cX1_narrow 73 = .ok (.aload_n 0, 1) := by decide +kernel
theorem dX1_narrow_74 : decode cX1_narrow 74 = .ok (.getfield 27, 3) := by decide +kernel
theorem dX1_narrow_77 : decode cX1_narrow 77 = .ok (.iload_n 2, 1) := by decide +kernel
theorem dX1_narrow_78 : decode cX1_narrow 78 = .ok (.aload_n 0, 1) := by decide +kernel
theorem dX1_narrow_79 : decode cX1_narrow 79 = .ok (.getfield 27, 3) := by decide +kernel
theorem dX1_narrow_82 : decode cX1_narrow 82 = .ok (.iload_n 2, 1) := by decide +kernel
theorem dX1_narrow_83 : decode cX1_narrow 83 = .ok (.iaload, 1) := by decide +kernel
theorem dX1_narrow_84 : decode cX1_narrow 84 = .ok (.iload 4, 2) := by decide +kernel
theorem dX1_narrow_86 : decode cX1_narrow 86 = .ok (.aload_n 0, 1) := by decide +kernel
theorem dX1_narrow_87 : decode cX1_narrow 87 = .ok (.getfield 42, 3) := by decide +kernel
theorem dX1_narrow_90 : decode cX1_narrow 90 = .ok (.getfield 157, 3) := by decide +kernel
theorem dX1_narrow_93 : decode cX1_narrow 93 = .ok (.isub, 1) := by decide +kernel
theorem dX1_narrow_94 : decode cX1_narrow 94 = .ok (.invokestatic 113, 3) := by decide +kernel
theorem dX1_narrow_97 : decode cX1_narrow 97 = .ok (.iastore, 1) := by decide +kernel
theorem dX1_narrow_98 : decode cX1_narrow 98 = .ok (.aload_n 0, 1) := by decide +kernel
theorem dX1_narrow_99 : decode cX1_narrow 99 = .ok (.getfield 30, 3) := by decide +kernel
theorem dX1_narrow_102 : decode cX1_narrow 102 = .ok (.iload_n 2, 1) := by decide +kernel
theorem dX1_narrow_103 : decode cX1_narrow 103 = .ok (.aload_n 0, 1) := by decide +kernel
theorem dX1_narrow_104 : decode cX1_narrow 104 = .ok (.getfield 30, 3) := by decide +kernel
theorem dX1_narrow_107 : decode cX1_narrow 107 = .ok (.iload_n 2, 1) := by decide +kernel
theorem dX1_narrow_108 : decode cX1_narrow 108 = .ok (.iaload, 1) := by decide +kernel
theorem dX1_narrow_109 : decode cX1_narrow 109 = .ok (.iload 4, 2) := by decide +kernel
theorem dX1_narrow_111 : decode cX1_narrow 111 = .ok (.aload_n 0, 1) := by decide +kernel
theorem dX1_narrow_112 : decode cX1_narrow 112 = .ok (.getfield 42, 3) := by decide +kernel
theorem dX1_narrow_115 : decode cX1_narrow 115 = .ok (.getfield 157, 3) := by decide +kernel
theorem dX1_narrow_118 : decode cX1_narrow 118 = .ok (.iadd, 1) := by decide +kernel
theorem dX1_narrow_119 : decode cX1_narrow 119 = .ok (.invokestatic 160, 3) := by decide +kernel
theorem dX1_narrow_122 : decode cX1_narrow 122 = .ok (.iastore, 1) := by decide +kernel
theorem dX1_narrow_123 : decode cX1_narrow 123 = .ok (.aload_n 0, 1) := by decide +kernel
theorem dX1_narrow_124 : decode cX1_narrow 124 = .ok (.dup, 1) := by decide +kernel
theorem dX1_narrow_125 : decode cX1_narrow 125 = .ok (.getfield 60, 3) := by decide +kernel
theorem dX1_narrow_128 : decode cX1_narrow 128 = .ok (.iconst 1, 1) := by decide +kernel
theorem dX1_narrow_129 : decode cX1_narrow 129 = .ok (.iload_n 2, 1) := by decide +kernel
theorem dX1_narrow_130 : decode cX1_narrow 130 = .ok (.ishl, 1) := by decide +kernel
theorem dX1_narrow_131 : decode cX1_narrow 131 = .ok (.ior, 1) := by decide +kernel
theorem dX1_narrow_132 : decode cX1_narrow 132 = .ok (.putfield 60, 3) := by decide +kernel
theorem dX1_narrow_135 : decode cX1_narrow 135 = .ok (.return_, 1) := by decide +kernel
theorem dX1_timesOff_0 : decode cX1_timesOff 0 = .ok (.iconst 0, 1) := by decide +kernel
theorem dX1_timesOff_1 : decode cX1_timesOff 1 = .ok (.istore_n 2, 1) := by decide +kernel
theorem dX1_timesOff_2 : decode cX1_timesOff 2 = .ok (.iconst 0, 1) := by decide +kernel
theorem dX1_timesOff_3 : decode cX1_timesOff 3 = .ok (.istore_n 3, 1) := by decide +kernel
theorem dX1_timesOff_4 : decode cX1_timesOff 4 = .ok (.iload_n 3, 1) := by decide +kernel
theorem dX1_timesOff_5 : decode cX1_timesOff 5 = .ok (.aload_n 0, 1) := by decide +kernel
theorem dX1_timesOff_6 : decode cX1_timesOff 6 = .ok (.getfield 42, 3) := by decide +kernel
theorem dX1_timesOff_9 : decode cX1_timesOff 9 = .ok (.getfield 92, 3) := by decide +kernel
theorem dX1_timesOff_12 : decode cX1_timesOff 12 = .ok (.if_icmp .ge 34, 3) := by decide +kernel
theorem dX1_timesOff_15 : decode cX1_timesOff 15 = .ok (.aload_n 0, 1) := by decide +kernel
theorem dX1_timesOff_16 : decode cX1_timesOff 16 = .ok (.getfield 9, 3) := by decide +kernel
theorem dX1_timesOff_19 : decode cX1_timesOff 19 = .ok (.iload_n 1, 1) := by decide +kernel
theorem dX1_timesOff_20 : decode cX1_timesOff 20 = .ok (.iaload, 1) := by decide +kernel
theorem dX1_timesOff_21 : decode cX1_timesOff 21 = .ok (.iload_n 3, 1) := by decide +kernel
theorem dX1_timesOff_22 : decode cX1_timesOff 22 = .ok (.invokestatic 105, 3) := by decide +kernel
theorem dX1_timesOff_25 : decode cX1_timesOff 25 = .ok (.ifCond .eq 15, 3) := by decide +kernel
theorem dX1_timesOff_28 : decode cX1_timesOff 28 = .ok (.aload_n 0, 1) := by decide +kernel
theorem dX1_timesOff_29 : decode cX1_timesOff 29 = .ok (.iload_n 1, 1) := by decide +kernel
theorem dX1_timesOff_30 : decode cX1_timesOff 30 = .ok (.iload_n 3, 1) := by decide +kernel
theorem dX1_timesOff_31 : decode cX1_timesOff 31 = .ok (.invokevirtual 163, 3) := by decide +kernel
theorem dX1_timesOff_34 : decode cX1_timesOff 34 = .ok (.ifCond .eq 6, 3) := by decide +kernel
theorem dX1_timesOff_37 : decode cX1_timesOff 37 = .ok (.iinc 2 1, 3) := by decide +kernel
theorem dX1_timesOff_40 : decode cX1_timesOff 40 = .ok (.iinc 3 1, 3) := by decide +kernel
theorem dX1_timesOff_43 : decode cX1_timesOff 43 = .ok (.goto (-39), 3) := by decide +kernel
theorem dX1_timesOff_46 : decode cX1_timesOff 46 = .ok (.iload_n 2, 1) := by decide +kernel
theorem dX1_timesOff_47 : decode cX1_timesOff 47 = .ok (.ireturn, 1) := by decide +kernel
theorem dX1_hasNoPlaceLeft_0 : decode cX1_hasNoPlaceLeft 0 = .ok (.aload_n 0, 1) := by decide +kernel
theorem dX1_hasNoPlaceLeft_1 : decode cX1_hasNoPlaceLeft 1 = .ok (.getfield 15, 3) := by decide +kernel
theorem dX1_hasNoPlaceLeft_4 : decode cX1_hasNoPlaceLeft 4 = .ok (.iload_n 1, 1) := by decide +kernel
theorem dX1_hasNoPlaceLeft_5 : decode cX1_hasNoPlaceLeft 5 = .ok (.bipush 9, 2) := by decide +kernel
theorem dX1_hasNoPlaceLeft_7 : decode cX1_hasNoPlaceLeft 7 = .ok (.imul, 1) := by decide +kernel
theorem dX1_hasNoPlaceLeft_8 : decode cX1_hasNoPlaceLeft 8 = .ok (.iload_n 2, 1) := by decide +kernel
theorem dX1_hasNoPlaceLeft_9 : decode cX1_hasNoPlaceLeft 9 = .ok (.iadd, 1) := by decide +kernel
theorem dX1_hasNoPlaceLeft_10 : decode cX1_hasNoPlaceLeft 10 = .ok (.iaload, 1) := by decide +kernel
theorem dX1_hasNoPlaceLeft_11 : decode cX1_hasNoPlaceLeft 11 = .ok (.istore_n 3, 1) := by decide +kernel
theorem dX1_hasNoPlaceLeft_12 : decode cX1_hasNoPlaceLeft 12 = .ok (.aload_n 0, 1) := by decide +kernel
theorem dX1_hasNoPlaceLeft_13 : decode cX1_hasNoPlaceLeft 13 = .ok (.getfield 18, 3) := by decide +kernel
theorem dX1_hasNoPlaceLeft_16 : decode cX1_hasNoPlaceLeft 16 = .ok (.iload_n 1, 1) := by decide +kernel
theorem dX1_hasNoPlaceLeft_17 : decode cX1_hasNoPlaceLeft 17 = .ok (.bipush 9, 2) := by decide +kernel
theorem dX1_hasNoPlaceLeft_19 : decode cX1_hasNoPlaceLeft 19 = .ok (.imul, 1) := by decide +kernel
theorem dX1_hasNoPlaceLeft_20 : decode cX1_hasNoPlaceLeft 20 = .ok (.iload_n 2, 1) := by decide +kernel
theorem dX1_hasNoPlaceLeft_21 : decode cX1_hasNoPlaceLeft 21 = .ok (.iadd, 1) := by decide +kernel
theorem dX1_hasNoPlaceLeft_22 : decode cX1_hasNoPlaceLeft 22 = .ok (.iaload, 1) := by decide +kernel
theorem dX1_hasNoPlaceLeft_23 : decode cX1_hasNoPlaceLeft 23 = .ok (.istore 4, 2) := by decide +kernel
theorem dX1_hasNoPlaceLeft_25 : decode cX1_hasNoPlaceLeft 25 = .ok (.iload_n 3, 1) := by decide +kernel
theorem dX1_hasNoPlaceLeft_26 : decode cX1_hasNoPlaceLeft 26 = .ok (.aload_n 0, 1) := by decide +kernel
theorem dX1_hasNoPlaceLeft_27 : decode cX1_hasNoPlaceLeft 27 = .ok (.getfield 42, 3) := by decide +kernel
theorem dX1_hasNoPlaceLeft_30 : decode cX1_hasNoPlaceLeft 30 = .ok (.getfield 157, 3) := by decide +kernel
theorem dX1_hasNoPlaceLeft_33 : decode cX1_hasNoPlaceLeft 33 = .ok (.iadd, 1) := by decide +kernel
theorem dX1_hasNoPlaceLeft_34 : decode cX1_hasNoPlaceLeft 34 = .ok (.aload_n 0, 1) := by decide +kernel
theorem dX1_hasNoPlaceLeft_35 : decode cX1_hasNoPlaceLeft 35 = .ok (.getfield 21, 3) := by decide +kernel
theorem dX1_hasNoPlaceLeft_38 : decode cX1_hasNoPlaceLeft 38 = .ok (.iload_n 2, 1) := by decide +kernel
theorem dX1_hasNoPlaceLeft_39 : decode cX1_hasNoPlaceLeft 39 = .ok (.iaload, 1) := by decide +kernel
theorem dX1_hasNoPlaceLeft_40 : decode cX1_hasNoPlaceLeft 40 = .ok (.if_icmp .lt 59, 3) := by decide +kernel
theorem dX1_hasNoPlaceLeft_43 : decode cX1_hasNoPlaceLeft 43 = .ok (.iload_n 3, 1) := by decide +kernel
theorem dX1_hasNoPlaceLeft_44 : decode cX1_hasNoPlaceLeft 44 = .ok (.aload_n 0, 1) := by decide +kernel
theorem dX1_hasNoPlaceLeft_45 : decode cX1_hasNoPlaceLeft 45 = .ok (.getfield 42, 3) := by decide +kernel
theorem dX1_hasNoPlaceLeft_48 : decode cX1_hasNoPlaceLeft 48 = .ok (.getfield 157, 3) := by decide +kernel
theorem dX1_hasNoPlaceLeft_51 : decode cX1_hasNoPlaceLeft 51 = .ok (.isub, 1) := by decide +kernel
theorem dX1_hasNoPlaceLeft_52 : decode cX1_hasNoPlaceLeft 52 = .ok (.aload_n 0, 1) := by decide +kernel
theorem dX1_hasNoPlaceLeft_53 : decode cX1_hasNoPlaceLeft 53 = .ok (.getfield 24, 3) := by decide +kernel
theorem dX1_hasNoPlaceLeft_56 : decode cX1_hasNoPlaceLeft 56 = .ok (.iload_n 2, 1) := by decide +kernel
theorem dX1_hasNoPlaceLeft_57 : decode cX1_hasNoPlaceLeft 57 = .ok (.iaload, 1) := by decide +kernel
theorem dX1_hasNoPlaceLeft_58 : decode cX1_hasNoPlaceLeft 58 = .ok (.if_icmp .gt 41, 3) := by decide +kernel
theorem dX1_hasNoPlaceLeft_61 : decode cX1_hasNoPlaceLeft 61 = .ok (.iload 4, 2) := by decide +kernel
theorem dX1_hasNoPlaceLeft_63 : decode cX1_hasNoPlaceLeft 63 = .ok (.aload_n 0, 1) := by decide +kernel
theorem dX1_hasNoPlaceLeft_64 : decode cX1_hasNoPlaceLeft 64 = .ok (.getfield 42, 3) := by decide +kernel
theorem dX1_hasNoPlaceLeft_67 : decode cX1_hasNoPlaceLeft 67 = .ok (.getfield 157, 3) := by decide +kernel
theorem dX1_hasNoPlaceLeft_70 : decode cX1_hasNoPlaceLeft 70 = .ok (.iadd, 1) := by decide +kernel
theorem dX1_hasNoPlaceLeft_71 : decode cX1_hasNoPlaceLeft 71 = .ok (.aload_n 0, 1) := by decide +kernel
theorem dX1_hasNoPlaceLeft_72 : decode cX1_hasNoPlaceLeft 72 = .ok (.getfield 27, 3) := by decide +kernel
theorem dX1_hasNoPlaceLeft_75 : decode cX1_hasNoPlaceLeft 75 = .ok (.iload_n 2, 1) := by decide +kernel
theorem dX1_hasNoPlaceLeft_76 : decode cX1_hasNoPlaceLeft 76 = .ok (.iaload, 1) := by decide +kernel
theorem dX1_hasNoPlaceLeft_77 : decode cX1_hasNoPlaceLeft 77 = .ok (.if_icmp .lt 22, 3) := by decide +kernel
theorem dX1_hasNoPlaceLeft_80 : decode cX1_hasNoPlaceLeft 80 = .ok (.iload 4, 2) := by decide +kernel
theorem dX1_hasNoPlaceLeft_82 : decode cX1_hasNoPlaceLeft 82 = .ok (.aload_n 0, 1) := by decide +kernel
theorem dX1_hasNoPlaceLeft_83 : decode cX1_hasNoPlaceLeft 83 = .ok (.getfield 42, 3) := by decide +kernel
theorem dX1_hasNoPlaceLeft_86 : decode cX1_hasNoPlaceLeft 86 = .ok (.getfield 157, 3) := by decide +kernel
theorem dX1_hasNoPlaceLeft_89 : decode cX1_hasNoPlaceLeft 89 = .ok (.isub, 1) := by decide +kernel
theorem dX1_hasNoPlaceLeft_90 : decode cX1_hasNoPlaceLeft 90 = .ok (.aload_n 0, 1) := by decide +kernel
theorem dX1_hasNoPlaceLeft_91 : decode cX1_hasNoPlaceLeft 91 = .ok (.getfield 30, 3) := by decide +kernel
theorem dX1_hasNoPlaceLeft_94 : decode cX1_hasNoPlaceLeft 94 = .ok (.iload_n 2, 1) := by decide +kernel
theorem dX1_hasNoPlaceLeft_95 : decode cX1_hasNoPlaceLeft 95 = .ok (.iaload, 1) := by decide +kernel
theorem dX1_hasNoPlaceLeft_96 : decode cX1_hasNoPlaceLeft 96 = .ok (.if_icmp .le 7, 3) := by decide +kernel
theorem dX1_hasNoPlaceLeft_99 : decode cX1_hasNoPlaceLeft 99 = .ok (.iconst 1, 1) := by decide +kernel
theorem dX1_hasNoPlaceLeft_100 : decode cX1_hasNoPlaceLeft 100 = .ok (.goto 4, 3) := by decide +kernel
theorem dX1_hasNoPlaceLeft_103 : decode cX1_hasNoPlaceLeft 103 = .ok (.iconst 0, 1) := by decide +kernel
theorem dX1_hasNoPlaceLeft_104 : decode cX1_hasNoPlaceLeft 104 = .ok (.ireturn, 1) := by decide +kernel
theorem dX1_quarrels_0 : decode cX1_quarrels 0 = .ok (.iload_n 1, 1) := by decide +kernel
theorem dX1_quarrels_1 : decode cX1_quarrels 1 = .ok (.invokestatic 119, 3) := by decide +kernel
theorem dX1_quarrels_4 : decode cX1_quarrels 4 = .ok (.iconst 2, 1) := by decide +kernel
theorem dX1_quarrels_5 : decode cX1_quarrels 5 = .ok (.if_icmp .ge 5, 3) := by decide +kernel
theorem dX1_quarrels_8 : decode cX1_quarrels 8 = .ok (.iconst 0, 1) := by decide +kernel
theorem dX1_quarrels_9 : decode cX1_quarrels 9 = .ok (.ireturn, 1) := by decide +kernel
theorem dX1_quarrels_10 : decode cX1_quarrels 10 = .ok (.iload_n 1, 1) := by decide +kernel
theorem dX1_quarrels_11 : decode cX1_quarrels 11 = .ok (.invokestatic 166, 3) := by decide +kernel
theorem dX1_quarrels_14 : decode cX1_quarrels 14 = .ok (.istore_n 2, 1) := by decide +kernel
theorem dX1_quarrels_15 : decode cX1_quarrels 15 = .ok (.iload_n 1, 1) := by decide +kernel
theorem dX1_quarrels_16 : decode cX1_quarrels 16 = .ok (.iconst 1, 1) := by decide +kernel
theorem dX1_quarrels_17 : decode cX1_quarrels 17 = .ok (.iload_n 2, 1) := by decide +kernel
theorem dX1_quarrels_18 : decode cX1_quarrels 18 = .ok (.ishl, 1) := by decide +kernel
theorem dX1_quarrels_19 : decode cX1_quarrels 19 = .ok (.iconst (-1), 1) := by decide +kernel
theorem dX1_quarrels_20 : decode cX1_quarrels 20 = .ok (.ixor, 1) := by decide +kernel
theorem dX1_quarrels_21 : decode cX1_quarrels 21 = .ok (.iand, 1) := by decide +kernel
theorem dX1_quarrels_22 : decode cX1_quarrels 22 = .ok (.invokestatic 166, 3) := by decide +kernel
theorem dX1_quarrels_25 : decode cX1_quarrels 25 = .ok (.istore_n 3, 1) := by decide +kernel
theorem dX1_quarrels_26 : decode cX1_quarrels 26 = .ok (.iconst 0, 1) := by decide +kernel
theorem dX1_quarrels_27 : decode cX1_quarrels 27 = .ok (.istore 4, 2) := by decide +kernel
theorem dX1_quarrels_29 : decode cX1_quarrels 29 = .ok (.iconst 0, 1) := by decide +kernel
theorem dX1_quarrels_30 : decode cX1_quarrels 30 = .ok (.istore 5, 2) := by decide +kernel
theorem dX1_quarrels_32 : decode cX1_quarrels 32 = .ok (.iload 5, 2) := by decide +kernel
theorem dX1_quarrels_34 : decode cX1_quarrels 34 = .ok (.aload_n 0, 1) := by decide +kernel
theorem dX1_quarrels_35 : decode cX1_quarrels 35 = .ok (.getfield 42, 3) := by decide +kernel
theorem dX1_quarrels_38 : decode cX1_quarrels 38 = .ok (.getfield 92, 3) := by decide +kernel
theorem dX1_quarrels_41 : decode cX1_quarrels 41 = .ok (.if_icmp .ge 63, 3) := by decide +kernel
theorem dX1_quarrels_44 : decode cX1_quarrels 44 = .ok (.aload_n 0, 1) := by decide +kernel
theorem dX1_quarrels_45 : decode cX1_quarrels 45 = .ok (.getfield 60, 3) := by decide +kernel
theorem dX1_quarrels_48 : decode cX1_quarrels 48 = .ok (.iload 5, 2) := by decide +kernel
theorem dX1_quarrels_50 : decode cX1_quarrels 50 = .ok (.invokestatic 105, 3) := by decide +kernel
theorem dX1_quarrels_53 : decode cX1_quarrels 53 = .ok (.ifCond .ne 45, 3) := by decide +kernel
theorem dX1_quarrels_56 : decode cX1_quarrels 56 = .ok (.aload_n 0, 1) := by decide +kernel
theorem dX1_quarrels_57 : decode cX1_quarrels 57 = .ok (.getfield 9, 3) := by decide +kernel
theorem dX1_quarrels_60 : decode cX1_quarrels 60 = .ok (.iload_n 2, 1) := by decide +kernel
theorem dX1_quarrels_61 : decode cX1_quarrels 61 = .ok (.iaload, 1) := by decide +kernel
theorem dX1_quarrels_62 : decode cX1_quarrels 62 = .ok (.iload 5, 2) := by decide +kernel
theorem dX1_quarrels_64 : decode cX1_quarrels 64 = .ok (.invokestatic 105, 3) := by decide +kernel
theorem dX1_quarrels_67 : decode cX1_quarrels 67 = .ok (.ifCond .eq 31, 3) := by decide +kernel
theorem dX1_quarrels_70 : decode cX1_quarrels 70 = .ok (.aload_n 0, 1) := by decide +kernel
theorem dX1_quarrels_71 : decode cX1_quarrels 71 = .ok (.getfield 9, 3) := by decide +kernel
theorem dX1_quarrels_74 : decode cX1_quarrels 74 = .ok (.iload_n 3, 1) := by decide +kernel
theorem dX1_quarrels_75 : decode cX1_quarrels 75 = .ok (.iaload, 1) := by decide +kernel
theorem dX1_quarrels_76 : decode cX1_quarrels 76 = .ok (.iload 5, 2) := by decide +kernel
theorem dX1_quarrels_78 : decode cX1_quarrels 78 = .ok (.invokestatic 105, 3) := by decide +kernel
theorem dX1_quarrels_81 : decode cX1_quarrels 81 = .ok (.ifCond .eq 17, 3) := by decide +kernel
theorem dX1_quarrels_84 : decode cX1_quarrels 84 = .ok (.aload_n 0, 1) := by decide +kernel
theorem dX1_quarrels_85 : decode cX1_quarrels 85 = .ok (.iload_n 2, 1) := by decide +kernel
theorem dX1_quarrels_86 : decode cX1_quarrels 86 = .ok (.iload_n 3, 1) := by decide +kernel
theorem dX1_quarrels_87 : decode cX1_quarrels 87 = .ok (.iload 5, 2) := by decide +kernel
theorem dX1_quarrels_89 : decode cX1_quarrels 89 = .ok (.invokevirtual 169, 3) := by decide +kernel
theorem dX1_quarrels_92 : decode cX1_quarrels 92 = .ok (.ifCond .eq 6, 3) := by decide +kernel
theorem dX1_quarrels_95 : decode cX1_quarrels 95 = .ok (.iinc 4 1, 3) := by decide +kernel
theorem dX1_quarrels_98 : decode cX1_quarrels 98 = .ok (.iinc 5 1, 3) := by decide +kernel
theorem dX1_quarrels_101 : decode cX1_quarrels 101 = .ok (.goto (-69), 3) := by decide +kernel
theorem dX1_quarrels_104 : decode cX1_quarrels 104 = .ok (.iload 4, 2) := by decide +kernel
theorem dX1_quarrels_106 : decode cX1_quarrels 106 = .ok (.ireturn, 1) := by decide +kernel
theorem dX1_lowestOf_0 : decode cX1_lowestOf 0 = .ok (.iload_n 0, 1) := by decide +kernel
theorem dX1_lowestOf_1 : decode cX1_lowestOf 1 = .ok (.iload_n 0, 1) := by decide +kernel
theorem dX1_lowestOf_2 : decode cX1_lowestOf 2 = .ok (.ineg, 1) := by decide +kernel
theorem dX1_lowestOf_3 : decode cX1_lowestOf 3 = .ok (.iand, 1) := by decide +kernel
theorem dX1_lowestOf_4 : decode cX1_lowestOf 4 = .ok (.iconst 1, 1) := by decide +kernel
theorem dX1_lowestOf_5 : decode cX1_lowestOf 5 = .ok (.isub, 1) := by decide +kernel
theorem dX1_lowestOf_6 : decode cX1_lowestOf 6 = .ok (.invokestatic 119, 3) := by decide +kernel
theorem dX1_lowestOf_9 : decode cX1_lowestOf 9 = .ok (.ireturn, 1) := by decide +kernel
theorem dX1_areApart_0 : decode cX1_areApart 0 = .ok (.iload_n 1, 1) := by decide +kernel
theorem dX1_areApart_1 : decode cX1_areApart 1 = .ok (.bipush 9, 2) := by decide +kernel
theorem dX1_areApart_3 : decode cX1_areApart 3 = .ok (.imul, 1) := by decide +kernel
theorem dX1_areApart_4 : decode cX1_areApart 4 = .ok (.iload_n 3, 1) := by decide +kernel
theorem dX1_areApart_5 : decode cX1_areApart 5 = .ok (.iadd, 1) := by decide +kernel
theorem dX1_areApart_6 : decode cX1_areApart 6 = .ok (.istore 4, 2) := by decide +kernel
theorem dX1_areApart_8 : decode cX1_areApart 8 = .ok (.iload_n 2, 1) := by decide +kernel
theorem dX1_areApart_9 : decode cX1_areApart 9 = .ok (.bipush 9, 2) := by decide +kernel
theorem dX1_areApart_11 : decode cX1_areApart 11 = .ok (.imul, 1) := by decide +kernel
theorem dX1_areApart_12 : decode cX1_areApart 12 = .ok (.iload_n 3, 1) := by decide +kernel
theorem dX1_areApart_13 : decode cX1_areApart 13 = .ok (.iadd, 1) := by decide +kernel
theorem dX1_areApart_14 : decode cX1_areApart 14 = .ok (.istore 5, 2) := by decide +kernel
theorem dX1_areApart_16 : decode cX1_areApart 16 = .ok (.iconst 2, 1) := by decide +kernel
theorem dX1_areApart_17 : decode cX1_areApart 17 = .ok (.aload_n 0, 1) := by decide +kernel
theorem dX1_areApart_18 : decode cX1_areApart 18 = .ok (.getfield 42, 3) := by decide +kernel
theorem dX1_areApart_21 : decode cX1_areApart 21 = .ok (.getfield 157, 3) := by decide +kernel
theorem dX1_areApart_24 : decode cX1_areApart 24 = .ok (.imul, 1) := by decide +kernel
theorem dX1_areApart_25 : decode cX1_areApart 25 = .ok (.istore 6, 2) := by decide +kernel
theorem dX1_areApart_27 : decode cX1_areApart 27 = .ok (.aload_n 0, 1) := by decide +kernel
theorem dX1_areApart_28 : decode cX1_areApart 28 = .ok (.getfield 15, 3) := by decide +kernel
theorem dX1_areApart_31 : decode cX1_areApart 31 = .ok (.iload 4, 2) := by decide +kernel
theorem dX1_areApart_33 : decode cX1_areApart 33 = .ok (.iaload, 1) := by decide +kernel
theorem dX1_areApart_34 : decode cX1_areApart 34 = .ok (.aload_n 0, 1) := by decide +kernel
theorem dX1_areApart_35 : decode cX1_areApart 35 = .ok (.getfield 15, 3) := by decide +kernel
theorem dX1_areApart_38 : decode cX1_areApart 38 = .ok (.iload 5, 2) := by decide +kernel
theorem dX1_areApart_40 : decode cX1_areApart 40 = .ok (.iaload, 1) := by decide +kernel
theorem dX1_areApart_41 : decode cX1_areApart 41 = .ok (.isub, 1) := by decide +kernel
theorem dX1_areApart_42 : decode cX1_areApart 42 = .ok (.invokestatic 172, 3) := by decide +kernel
theorem dX1_areApart_45 : decode cX1_areApart 45 = .ok (.iload 6, 2) := by decide +kernel
theorem dX1_areApart_47 : decode cX1_areApart 47 = .ok (.if_icmp .gt 26, 3) := by decide +kernel
theorem dX1_areApart_50 : decode cX1_areApart 50 = .ok (.aload_n 0, 1) := by decide +kernel
theorem dX1_areApart_51 : decode cX1_areApart 51 = .ok (.getfield 18, 3) := by decide +kernel
theorem dX1_areApart_54 : decode cX1_areApart 54 = .ok (.iload 4, 2) := by decide +kernel
theorem dX1_areApart_56 : decode cX1_areApart 56 = .ok (.iaload, 1) := by decide +kernel
theorem dX1_areApart_57 : decode cX1_areApart 57 = .ok (.aload_n 0, 1) := by decide +kernel
theorem dX1_areApart_58 : decode cX1_areApart 58 = .ok (.getfield 18, 3) := by decide +kernel
theorem dX1_areApart_61 : decode cX1_areApart 61 = .ok (.iload 5, 2) := by decide +kernel
theorem dX1_areApart_63 : decode cX1_areApart 63 = .ok (.iaload, 1) := by decide +kernel
theorem dX1_areApart_64 : decode cX1_areApart 64 = .ok (.isub, 1) := by decide +kernel
theorem dX1_areApart_65 : decode cX1_areApart 65 = .ok (.invokestatic 172, 3) := by decide +kernel
theorem dX1_areApart_68 : decode cX1_areApart 68 = .ok (.iload 6, 2) := by decide +kernel
theorem dX1_areApart_70 : decode cX1_areApart 70 = .ok (.if_icmp .le 7, 3) := by decide +kernel
theorem dX1_areApart_73 : decode cX1_areApart 73 = .ok (.iconst 1, 1) := by decide +kernel
theorem dX1_areApart_74 : decode cX1_areApart 74 = .ok (.goto 4, 3) := by decide +kernel
theorem dX1_areApart_77 : decode cX1_areApart 77 = .ok (.iconst 0, 1) := by decide +kernel
theorem dX1_areApart_78 : decode cX1_areApart 78 = .ok (.ireturn, 1) := by decide +kernel
theorem dX1_couldBeOff_0 : decode cX1_couldBeOff 0 = .ok (.iconst 0, 1) := by decide +kernel
theorem dX1_couldBeOff_1 : decode cX1_couldBeOff 1 = .ok (.istore_n 2, 1) := by decide +kernel
theorem dX1_couldBeOff_2 : decode cX1_couldBeOff 2 = .ok (.iload_n 2, 1) := by decide +kernel
theorem dX1_couldBeOff_3 : decode cX1_couldBeOff 3 = .ok (.aload_n 0, 1) := by decide +kernel
theorem dX1_couldBeOff_4 : decode cX1_couldBeOff 4 = .ok (.getfield 42, 3) := by decide +kernel
theorem dX1_couldBeOff_7 : decode cX1_couldBeOff 7 = .ok (.getfield 92, 3) := by decide +kernel
theorem dX1_couldBeOff_10 : decode cX1_couldBeOff 10 = .ok (.if_icmp .ge 33, 3) := by decide +kernel
theorem dX1_couldBeOff_13 : decode cX1_couldBeOff 13 = .ok (.aload_n 0, 1) := by decide +kernel
theorem dX1_couldBeOff_14 : decode cX1_couldBeOff 14 = .ok (.getfield 9, 3) := by decide +kernel
theorem dX1_couldBeOff_17 : decode cX1_couldBeOff 17 = .ok (.iload_n 1, 1) := by decide +kernel
theorem dX1_couldBeOff_18 : decode cX1_couldBeOff 18 = .ok (.iaload, 1) := by decide +kernel
theorem dX1_couldBeOff_19 : decode cX1_couldBeOff 19 = .ok (.iload_n 2, 1) := by decide +kernel
theorem dX1_couldBeOff_20 : decode cX1_couldBeOff 20 = .ok (.invokestatic 105, 3) := by decide +kernel
theorem dX1_couldBeOff_23 : decode cX1_couldBeOff 23 = .ok (.ifCond .eq 12, 3) := by decide +kernel
theorem dX1_couldBeOff_26 : decode cX1_couldBeOff 26 = .ok (.aload_n 0, 1) := by decide +kernel
theorem dX1_couldBeOff_27 : decode cX1_couldBeOff 27 = .ok (.iload_n 1, 1) := by decide +kernel
theorem dX1_couldBeOff_28 : decode cX1_couldBeOff 28 = .ok (.iload_n 2, 1) := by decide +kernel
theorem dX1_couldBeOff_29 : decode cX1_couldBeOff 29 = .ok (.invokevirtual 175, 3) := by decide +kernel
theorem dX1_couldBeOff_32 : decode cX1_couldBeOff 32 = .ok (.ifCond .ne 5, 3) := by decide +kernel
theorem dX1_couldBeOff_35 : decode cX1_couldBeOff 35 = .ok (.iconst 1, 1) := by decide +kernel
theorem dX1_couldBeOff_36 : decode cX1_couldBeOff 36 = .ok (.ireturn, 1) := by decide +kernel
theorem dX1_couldBeOff_37 : decode cX1_couldBeOff 37 = .ok (.iinc 2 1, 3) := by decide +kernel
theorem dX1_couldBeOff_40 : decode cX1_couldBeOff 40 = .ok (.goto (-38), 3) := by decide +kernel
theorem dX1_couldBeOff_43 : decode cX1_couldBeOff 43 = .ok (.iconst 0, 1) := by decide +kernel
theorem dX1_couldBeOff_44 : decode cX1_couldBeOff 44 = .ok (.ireturn, 1) := by decide +kernel
theorem dX1_hasAllPlacesLeft_0 : decode cX1_hasAllPlacesLeft 0 = .ok (.aload_n 0, 1) := by decide +kernel
theorem dX1_hasAllPlacesLeft_1 : decode cX1_hasAllPlacesLeft 1 = .ok (.getfield 15, 3) := by decide +kernel
theorem dX1_hasAllPlacesLeft_4 : decode cX1_hasAllPlacesLeft 4 = .ok (.iload_n 1, 1) := by decide +kernel
theorem dX1_hasAllPlacesLeft_5 : decode cX1_hasAllPlacesLeft 5 = .ok (.bipush 9, 2) := by decide +kernel
theorem dX1_hasAllPlacesLeft_7 : decode cX1_hasAllPlacesLeft 7 = .ok (.imul, 1) := by decide +kernel
theorem dX1_hasAllPlacesLeft_8 : decode cX1_hasAllPlacesLeft 8 = .ok (.iload_n 2, 1) := by decide +kernel
theorem dX1_hasAllPlacesLeft_9 : decode cX1_hasAllPlacesLeft 9 = .ok (.iadd, 1) := by decide +kernel
theorem dX1_hasAllPlacesLeft_10 : decode cX1_hasAllPlacesLeft 10 = .ok (.iaload, 1) := by decide +kernel
theorem dX1_hasAllPlacesLeft_11 : decode cX1_hasAllPlacesLeft 11 = .ok (.istore_n 3, 1) := by decide +kernel
theorem dX1_hasAllPlacesLeft_12 : decode cX1_hasAllPlacesLeft 12 = .ok (.aload_n 0, 1) := by decide +kernel
theorem dX1_hasAllPlacesLeft_13 : decode cX1_hasAllPlacesLeft 13 = .ok (.getfield 18, 3) := by decide +kernel
theorem dX1_hasAllPlacesLeft_16 : decode cX1_hasAllPlacesLeft 16 = .ok (.iload_n 1, 1) := by decide +kernel
theorem dX1_hasAllPlacesLeft_17 : decode cX1_hasAllPlacesLeft 17 = .ok (.bipush 9, 2) := by decide +kernel
theorem dX1_hasAllPlacesLeft_19 : decode cX1_hasAllPlacesLeft 19 = .ok (.imul, 1) := by decide +kernel
theorem dX1_hasAllPlacesLeft_20 : decode cX1_hasAllPlacesLeft 20 = .ok (.iload_n 2, 1) := by decide +kernel
theorem dX1_hasAllPlacesLeft_21 : decode cX1_hasAllPlacesLeft 21 = .ok (.iadd, 1) := by decide +kernel
theorem dX1_hasAllPlacesLeft_22 : decode cX1_hasAllPlacesLeft 22 = .ok (.iaload, 1) := by decide +kernel
theorem dX1_hasAllPlacesLeft_23 : decode cX1_hasAllPlacesLeft 23 = .ok (.istore 4, 2) := by decide +kernel
theorem dX1_hasAllPlacesLeft_25 : decode cX1_hasAllPlacesLeft 25 = .ok (.iload_n 3, 1) := by decide +kernel
theorem dX1_hasAllPlacesLeft_26 : decode cX1_hasAllPlacesLeft 26 = .ok (.aload_n 0, 1) := by decide +kernel
theorem dX1_hasAllPlacesLeft_27 : decode cX1_hasAllPlacesLeft 27 = .ok (.getfield 42, 3) := by decide +kernel
theorem dX1_hasAllPlacesLeft_30 : decode cX1_hasAllPlacesLeft 30 = .ok (.getfield 157, 3) := by decide +kernel
theorem dX1_hasAllPlacesLeft_33 : decode cX1_hasAllPlacesLeft 33 = .ok (.isub, 1) := by decide +kernel
theorem dX1_hasAllPlacesLeft_34 : decode cX1_hasAllPlacesLeft 34 = .ok (.aload_n 0, 1) := by decide +kernel
theorem dX1_hasAllPlacesLeft_35 : decode cX1_hasAllPlacesLeft 35 = .ok (.getfield 21, 3) := by decide +kernel
theorem dX1_hasAllPlacesLeft_38 : decode cX1_hasAllPlacesLeft 38 = .ok (.iload_n 2, 1) := by decide +kernel
theorem dX1_hasAllPlacesLeft_39 : decode cX1_hasAllPlacesLeft 39 = .ok (.iaload, 1) := by decide +kernel
theorem dX1_hasAllPlacesLeft_40 : decode cX1_hasAllPlacesLeft 40 = .ok (.if_icmp .gt 63, 3) := by decide +kernel
theorem dX1_hasAllPlacesLeft_43 : decode cX1_hasAllPlacesLeft 43 = .ok (.aload_n 0, 1) := by decide +kernel
theorem dX1_hasAllPlacesLeft_44 : decode cX1_hasAllPlacesLeft 44 = .ok (.getfield 24, 3) := by decide +kernel
theorem dX1_hasAllPlacesLeft_47 : decode cX1_hasAllPlacesLeft 47 = .ok (.iload_n 2, 1) := by decide +kernel
theorem dX1_hasAllPlacesLeft_48 : decode cX1_hasAllPlacesLeft 48 = .ok (.iaload, 1) := by decide +kernel
theorem dX1_hasAllPlacesLeft_49 : decode cX1_hasAllPlacesLeft 49 = .ok (.iload_n 3, 1) := by decide +kernel
theorem dX1_hasAllPlacesLeft_50 : decode cX1_hasAllPlacesLeft 50 = .ok (.aload_n 0, 1) := by decide +kernel
theorem dX1_hasAllPlacesLeft_51 : decode cX1_hasAllPlacesLeft 51 = .ok (.getfield 42, 3) := by decide +kernel
theorem dX1_hasAllPlacesLeft_54 : decode cX1_hasAllPlacesLeft 54 = .ok (.getfield 157, 3) := by decide +kernel
theorem dX1_hasAllPlacesLeft_57 : decode cX1_hasAllPlacesLeft 57 = .ok (.iadd, 1) := by decide +kernel
theorem dX1_hasAllPlacesLeft_58 : decode cX1_hasAllPlacesLeft 58 = .ok (.if_icmp .gt 45, 3) := by decide +kernel
theorem dX1_hasAllPlacesLeft_61 : decode cX1_hasAllPlacesLeft 61 = .ok (.iload 4, 2) := by decide +kernel
theorem dX1_hasAllPlacesLeft_63 : decode cX1_hasAllPlacesLeft 63 = .ok (.aload_n 0, 1) := by decide +kernel
theorem dX1_hasAllPlacesLeft_64 : decode cX1_hasAllPlacesLeft 64 = .ok (.getfield 42, 3) := by decide +kernel
theorem dX1_hasAllPlacesLeft_67 : decode cX1_hasAllPlacesLeft 67 = .ok (.getfield 157, 3) := by decide +kernel
theorem dX1_hasAllPlacesLeft_70 : decode cX1_hasAllPlacesLeft 70 = .ok (.isub, 1) := by decide +kernel
theorem dX1_hasAllPlacesLeft_71 : decode cX1_hasAllPlacesLeft 71 = .ok (.aload_n 0, 1) := by decide +kernel
theorem dX1_hasAllPlacesLeft_72 : decode cX1_hasAllPlacesLeft 72 = .ok (.getfield 27, 3) := by decide +kernel
theorem dX1_hasAllPlacesLeft_75 : decode cX1_hasAllPlacesLeft 75 = .ok (.iload_n 2, 1) := by decide +kernel
theorem dX1_hasAllPlacesLeft_76 : decode cX1_hasAllPlacesLeft 76 = .ok (.iaload, 1) := by decide +kernel
theorem dX1_hasAllPlacesLeft_77 : decode cX1_hasAllPlacesLeft 77 = .ok (.if_icmp .gt 26, 3) := by decide +kernel
theorem dX1_hasAllPlacesLeft_80 : decode cX1_hasAllPlacesLeft 80 = .ok (.aload_n 0, 1) := by decide +kernel
theorem dX1_hasAllPlacesLeft_81 : decode cX1_hasAllPlacesLeft 81 = .ok (.getfield 30, 3) := by decide +kernel
theorem dX1_hasAllPlacesLeft_84 : decode cX1_hasAllPlacesLeft 84 = .ok (.iload_n 2, 1) := by decide +kernel
theorem dX1_hasAllPlacesLeft_85 : decode cX1_hasAllPlacesLeft 85 = .ok (.iaload, 1) := by decide +kernel
theorem dX1_hasAllPlacesLeft_86 : decode cX1_hasAllPlacesLeft 86 = .ok (.iload 4, 2) := by decide +kernel
theorem dX1_hasAllPlacesLeft_88 : decode cX1_hasAllPlacesLeft 88 = .ok (.aload_n 0, 1) := by decide +kernel
theorem dX1_hasAllPlacesLeft_89 : decode cX1_hasAllPlacesLeft 89 = .ok (.getfield 42, 3) := by decide +kernel
theorem dX1_hasAllPlacesLeft_92 : decode cX1_hasAllPlacesLeft 92 = .ok (.getfield 157, 3) := by decide +kernel
theorem dX1_hasAllPlacesLeft_95 : decode cX1_hasAllPlacesLeft 95 = .ok (.iadd, 1) := by decide +kernel
theorem dX1_hasAllPlacesLeft_96 : decode cX1_hasAllPlacesLeft 96 = .ok (.if_icmp .gt 7, 3) := by decide +kernel
theorem dX1_hasAllPlacesLeft_99 : decode cX1_hasAllPlacesLeft 99 = .ok (.iconst 1, 1) := by decide +kernel
theorem dX1_hasAllPlacesLeft_100 : decode cX1_hasAllPlacesLeft 100 = .ok (.goto 4, 3) := by decide +kernel
theorem dX1_hasAllPlacesLeft_103 : decode cX1_hasAllPlacesLeft 103 = .ok (.iconst 0, 1) := by decide +kernel
theorem dX1_hasAllPlacesLeft_104 : decode cX1_hasAllPlacesLeft 104 = .ok (.ireturn, 1) := by decide +kernel
theorem dX1_isFelled_0 : decode cX1_isFelled 0 = .ok (.aload_n 0, 1) := by decide +kernel
theorem dX1_isFelled_1 : decode cX1_isFelled 1 = .ok (.aload_n 0, 1) := by decide +kernel
theorem dX1_isFelled_2 : decode cX1_isFelled 2 = .ok (.getfield 42, 3) := by decide +kernel
theorem dX1_isFelled_5 : decode cX1_isFelled 5 = .ok (.getfield 178, 3) := by decide +kernel
theorem dX1_isFelled_8 : decode cX1_isFelled 8 = .ok (.invokevirtual 181, 3) := by decide +kernel
theorem dX1_isFelled_11 : decode cX1_isFelled 11 = .ok (.ifCond .eq 31, 3) := by decide +kernel
theorem dX1_isFelled_14 : decode cX1_isFelled 14 = .ok (.aload_n 0, 1) := by decide +kernel
theorem dX1_isFelled_15 : decode cX1_isFelled 15 = .ok (.aload_n 0, 1) := by decide +kernel
theorem dX1_isFelled_16 : decode cX1_isFelled 16 = .ok (.getfield 42, 3) := by decide +kernel
theorem dX1_isFelled_19 : decode cX1_isFelled 19 = .ok (.getfield 184, 3) := by decide +kernel
theorem dX1_isFelled_22 : decode cX1_isFelled 22 = .ok (.invokevirtual 181, 3) := by decide +kernel
theorem dX1_isFelled_25 : decode cX1_isFelled 25 = .ok (.ifCond .eq 17, 3) := by decide +kernel
theorem dX1_isFelled_28 : decode cX1_isFelled 28 = .ok (.aload_n 0, 1) := by decide +kernel
theorem dX1_isFelled_29 : decode cX1_isFelled 29 = .ok (.aload_n 0, 1) := by decide +kernel
theorem dX1_isFelled_30 : decode cX1_isFelled 30 = .ok (.getfield 42, 3) := by decide +kernel
theorem dX1_isFelled_33 : decode cX1_isFelled 33 = .ok (.getfield 187, 3) := by decide +kernel
theorem dX1_isFelled_36 : decode cX1_isFelled 36 = .ok (.invokevirtual 181, 3) := by decide +kernel
theorem dX1_isFelled_39 : decode cX1_isFelled 39 = .ok (.ifCond .ne 5, 3) := by decide +kernel
theorem dX1_isFelled_42 : decode cX1_isFelled 42 = .ok (.iconst 0, 1) := by decide +kernel
theorem dX1_isFelled_43 : decode cX1_isFelled 43 = .ok (.ireturn, 1) := by decide +kernel
theorem dX1_isFelled_44 : decode cX1_isFelled 44 = .ok (.aload_n 0, 1) := by decide +kernel
theorem dX1_isFelled_45 : decode cX1_isFelled 45 = .ok (.getfield 21, 3) := by decide +kernel
theorem dX1_isFelled_48 : decode cX1_isFelled 48 = .ok (.aload_n 0, 1) := by decide +kernel
theorem dX1_isFelled_49 : decode cX1_isFelled 49 = .ok (.getfield 42, 3) := by decide +kernel
theorem dX1_isFelled_52 : decode cX1_isFelled 52 = .ok (.getfield 178, 3) := by decide +kernel
theorem dX1_isFelled_55 : decode cX1_isFelled 55 = .ok (.iaload, 1) := by decide +kernel
theorem dX1_isFelled_56 : decode cX1_isFelled 56 = .ok (.aload_n 0, 1) := by decide +kernel
theorem dX1_isFelled_57 : decode cX1_isFelled 57 = .ok (.getfield 21, 3) := by decide +kernel
theorem dX1_isFelled_60 : decode cX1_isFelled 60 = .ok (.aload_n 0, 1) := by decide +kernel
theorem dX1_isFelled_61 : decode cX1_isFelled 61 = .ok (.getfield 42, 3) := by decide +kernel
theorem dX1_isFelled_64 : decode cX1_isFelled 64 = .ok (.getfield 184, 3) := by decide +kernel
theorem dX1_isFelled_67 : decode cX1_isFelled 67 = .ok (.iaload, 1) := by decide +kernel
theorem dX1_isFelled_68 : decode cX1_isFelled 68 = .ok (.iadd, 1) := by decide +kernel
theorem dX1_isFelled_69 : decode cX1_isFelled 69 = .ok (.aload_n 0, 1) := by decide +kernel
theorem dX1_isFelled_70 : decode cX1_isFelled 70 = .ok (.getfield 21, 3) := by decide +kernel
theorem dX1_isFelled_73 : decode cX1_isFelled 73 = .ok (.aload_n 0, 1) := by decide +kernel
theorem dX1_isFelled_74 : decode cX1_isFelled 74 = .ok (.getfield 42, 3) := by decide +kernel
theorem dX1_isFelled_77 : decode cX1_isFelled 77 = .ok (.getfield 187, 3) := by decide +kernel
theorem dX1_isFelled_80 : decode cX1_isFelled 80 = .ok (.iaload, 1) := by decide +kernel
theorem dX1_isFelled_81 : decode cX1_isFelled 81 = .ok (.isub, 1) := by decide +kernel
theorem dX1_isFelled_82 : decode cX1_isFelled 82 = .ok (.istore_n 1, 1) := by decide +kernel
theorem dX1_isFelled_83 : decode cX1_isFelled 83 = .ok (.aload_n 0, 1) := by decide +kernel
theorem dX1_isFelled_84 : decode cX1_isFelled 84 = .ok (.getfield 27, 3) := by decide +kernel
theorem dX1_isFelled_87 : decode cX1_isFelled 87 = .ok (.aload_n 0, 1) := by decide +kernel
theorem dX1_isFelled_88 : decode cX1_isFelled 88 = .ok (.getfield 42, 3) := by decide +kernel
theorem dX1_isFelled_91 : decode cX1_isFelled 91 = .ok (.getfield 178, 3) := by decide +kernel
theorem dX1_isFelled_94 : decode cX1_isFelled 94 = .ok (.iaload, 1) := by decide +kernel
theorem dX1_isFelled_95 : decode cX1_isFelled 95 = .ok (.aload_n 0, 1) := by decide +kernel
theorem dX1_isFelled_96 : decode cX1_isFelled 96 = .ok (.getfield 27, 3) := by decide +kernel
theorem dX1_isFelled_99 : decode cX1_isFelled 99 = .ok (.aload_n 0, 1) := by decide +kernel
theorem dX1_isFelled_100 : decode cX1_isFelled 100 = .ok (.getfield 42, 3) := by decide +kernel
theorem dX1_isFelled_103 : decode cX1_isFelled 103 = .ok (.getfield 184, 3) := by decide +kernel
theorem dX1_isFelled_106 : decode cX1_isFelled 106 = .ok (.iaload, 1) := by decide +kernel
theorem dX1_isFelled_107 : decode cX1_isFelled 107 = .ok (.iadd, 1) := by decide +kernel
theorem dX1_isFelled_108 : decode cX1_isFelled 108 = .ok (.aload_n 0, 1) := by decide +kernel
theorem dX1_isFelled_109 : decode cX1_isFelled 109 = .ok (.getfield 27, 3) := by decide +kernel
theorem dX1_isFelled_112 : decode cX1_isFelled 112 = .ok (.aload_n 0, 1) := by decide +kernel
theorem dX1_isFelled_113 : decode cX1_isFelled 113 = .ok (.getfield 42, 3) := by decide +kernel
theorem dX1_isFelled_116 : decode cX1_isFelled 116 = .ok (.getfield 187, 3) := by decide +kernel
theorem dX1_isFelled_119 : decode cX1_isFelled 119 = .ok (.iaload, 1) := by decide +kernel
theorem dX1_isFelled_120 : decode cX1_isFelled 120 = .ok (.isub, 1) := by decide +kernel
theorem dX1_isFelled_121 : decode cX1_isFelled 121 = .ok (.istore_n 2, 1) := by decide +kernel
theorem dX1_isFelled_122 : decode cX1_isFelled 122 = .ok (.iconst 0, 1) := by decide +kernel
theorem dX1_isFelled_123 : decode cX1_isFelled 123 = .ok (.istore_n 3, 1) := by decide +kernel
theorem dX1_isFelled_124 : decode cX1_isFelled 124 = .ok (.iload_n 3, 1) := by decide +kernel
theorem dX1_isFelled_125 : decode cX1_isFelled 125 = .ok (.aload_n 0, 1) := by decide +kernel
theorem dX1_isFelled_126 : decode cX1_isFelled 126 = .ok (.getfield 53, 3) := by decide +kernel
theorem dX1_isFelled_129 : decode cX1_isFelled 129 = .ok (.if_icmp .ge 37, 3) := by decide +kernel
theorem dX1_isFelled_132 : decode cX1_isFelled 132 = .ok (.aload_n 0, 1) := by decide +kernel
theorem dX1_isFelled_133 : decode cX1_isFelled 133 = .ok (.getfield 49, 3) := by decide +kernel
theorem dX1_isFelled_136 : decode cX1_isFelled 136 = .ok (.getfield 190, 3) := by decide +kernel
theorem dX1_isFelled_139 : decode cX1_isFelled 139 = .ok (.iload_n 3, 1) := by decide +kernel
theorem dX1_isFelled_140 : decode cX1_isFelled 140 = .ok (.iaload, 1) := by decide +kernel
theorem dX1_isFelled_141 : decode cX1_isFelled 141 = .ok (.iload_n 1, 1) := by decide +kernel
theorem dX1_isFelled_142 : decode cX1_isFelled 142 = .ok (.if_icmp .ne 18, 3) := by decide +kernel
theorem dX1_isFelled_145 : decode cX1_isFelled 145 = .ok (.aload_n 0, 1) := by decide +kernel
theorem dX1_isFelled_146 : decode cX1_isFelled 146 = .ok (.getfield 49, 3) := by decide +kernel
theorem dX1_isFelled_149 : decode cX1_isFelled 149 = .ok (.getfield 193, 3) := by decide +kernel
theorem dX1_isFelled_152 : decode cX1_isFelled 152 = .ok (.iload_n 3, 1) := by decide +kernel
theorem dX1_isFelled_153 : decode cX1_isFelled 153 = .ok (.iaload, 1) := by decide +kernel
theorem dX1_isFelled_154 : decode cX1_isFelled 154 = .ok (.iload_n 2, 1) := by decide +kernel
theorem dX1_isFelled_155 : decode cX1_isFelled 155 = .ok (.if_icmp .ne 5, 3) := by decide +kernel
theorem dX1_isFelled_158 : decode cX1_isFelled 158 = .ok (.iconst 1, 1) := by decide +kernel
theorem dX1_isFelled_159 : decode cX1_isFelled 159 = .ok (.ireturn, 1) := by decide +kernel
theorem dX1_isFelled_160 : decode cX1_isFelled 160 = .ok (.iinc 3 1, 3) := by decide +kernel
theorem dX1_isFelled_163 : decode cX1_isFelled 163 = .ok (.goto (-39), 3) := by decide +kernel
theorem dX1_isFelled_166 : decode cX1_isFelled 166 = .ok (.iconst 0, 1) := by decide +kernel
theorem dX1_isFelled_167 : decode cX1_isFelled 167 = .ok (.ireturn, 1) := by decide +kernel
theorem dX1_isOnePlace_0 : decode cX1_isOnePlace 0 = .ok (.aload_n 0, 1) := by decide +kernel
theorem dX1_isOnePlace_1 : decode cX1_isOnePlace 1 = .ok (.getfield 60, 3) := by decide +kernel
theorem dX1_isOnePlace_4 : decode cX1_isOnePlace 4 = .ok (.iload_n 1, 1) := by decide +kernel
theorem dX1_isOnePlace_5 : decode cX1_isOnePlace 5 = .ok (.invokestatic 105, 3) := by decide +kernel
theorem dX1_isOnePlace_8 : decode cX1_isOnePlace 8 = .ok (.ifCond .eq 37, 3) := by decide +kernel
theorem dX1_isOnePlace_11 : decode cX1_isOnePlace 11 = .ok (.aload_n 0, 1) := by decide +kernel
theorem dX1_isOnePlace_12 : decode cX1_isOnePlace 12 = .ok (.getfield 21, 3) := by decide +kernel
theorem dX1_isOnePlace_15 : decode cX1_isOnePlace 15 = .ok (.iload_n 1, 1) := by decide +kernel
theorem dX1_isOnePlace_16 : decode cX1_isOnePlace 16 = .ok (.iaload, 1) := by decide +kernel
theorem dX1_isOnePlace_17 : decode cX1_isOnePlace 17 = .ok (.aload_n 0, 1) := by decide +kernel
theorem dX1_isOnePlace_18 : decode cX1_isOnePlace 18 = .ok (.getfield 24, 3) := by decide +kernel
theorem dX1_isOnePlace_21 : decode cX1_isOnePlace 21 = .ok (.iload_n 1, 1) := by decide +kernel
theorem dX1_isOnePlace_22 : decode cX1_isOnePlace 22 = .ok (.iaload, 1) := by decide +kernel
theorem dX1_isOnePlace_23 : decode cX1_isOnePlace 23 = .ok (.if_icmp .ne 22, 3) := by decide +kernel
theorem dX1_isOnePlace_26 : decode cX1_isOnePlace 26 = .ok (.aload_n 0, 1) := by decide +kernel
theorem dX1_isOnePlace_27 : decode cX1_isOnePlace 27 = .ok (.getfield 27, 3) := by decide +kernel
theorem dX1_isOnePlace_30 : decode cX1_isOnePlace 30 = .ok (.iload_n 1, 1) := by decide +kernel
theorem dX1_isOnePlace_31 : decode cX1_isOnePlace 31 = .ok (.iaload, 1) := by decide +kernel
theorem dX1_isOnePlace_32 : decode cX1_isOnePlace 32 = .ok (.aload_n 0, 1) := by decide +kernel
theorem dX1_isOnePlace_33 : decode cX1_isOnePlace 33 = .ok (.getfield 30, 3) := by decide +kernel
theorem dX1_isOnePlace_36 : decode cX1_isOnePlace 36 = .ok (.iload_n 1, 1) := by decide +kernel
theorem dX1_isOnePlace_37 : decode cX1_isOnePlace 37 = .ok (.iaload, 1) := by decide +kernel
theorem dX1_isOnePlace_38 : decode cX1_isOnePlace 38 = .ok (.if_icmp .ne 7, 3) := by decide +kernel
theorem dX1_isOnePlace_41 : decode cX1_isOnePlace 41 = .ok (.iconst 1, 1) := by decide +kernel
theorem dX1_isOnePlace_42 : decode cX1_isOnePlace 42 = .ok (.goto 4, 3) := by decide +kernel
theorem dX1_isOnePlace_45 : decode cX1_isOnePlace 45 = .ok (.iconst 0, 1) := by decide +kernel
theorem dX1_isOnePlace_46 : decode cX1_isOnePlace 46 = .ok (.ireturn, 1) := by decide +kernel
theorem dX1_noteArea_0 : decode cX1_noteArea 0 = .ok (.aload_n 0, 1) := by decide +kernel
theorem dX1_noteArea_1 : decode cX1_noteArea 1 = .ok (.getfield 42, 3) := by decide +kernel
theorem dX1_noteArea_4 : decode cX1_noteArea 4 = .ok (.getfield 178, 3) := by decide +kernel
theorem dX1_noteArea_7 : decode cX1_noteArea 7 = .ok (.istore_n 2, 1) := by decide +kernel
theorem dX1_noteArea_8 : decode cX1_noteArea 8 = .ok (.aload_n 0, 1) := by decide +kernel
theorem dX1_noteArea_9 : decode cX1_noteArea 9 = .ok (.getfield 42, 3) := by decide +kernel
theorem dX1_noteArea_12 : decode cX1_noteArea 12 = .ok (.getfield 184, 3) := by decide +kernel
theorem dX1_noteArea_15 : decode cX1_noteArea 15 = .ok (.istore_n 3, 1) := by decide +kernel
theorem dX1_noteArea_16 : decode cX1_noteArea 16 = .ok (.aload_n 0, 1) := by decide +kernel
theorem dX1_noteArea_17 : decode cX1_noteArea 17 = .ok (.getfield 42, 3) := by decide +kernel
theorem dX1_noteArea_20 : decode cX1_noteArea 20 = .ok (.getfield 187, 3) := by decide +kernel
theorem dX1_noteArea_23 : decode cX1_noteArea 23 = .ok (.istore 4, 2) := by decide +kernel
theorem dX1_noteArea_25 : decode cX1_noteArea 25 = .ok (.aload_n 0, 1) := by decide +kernel
theorem dX1_noteArea_26 : decode cX1_noteArea 26 = .ok (.getfield 36, 3) := by decide +kernel
theorem dX1_noteArea_29 : decode cX1_noteArea 29 = .ok (.iload_n 1, 1) := by decide +kernel
theorem dX1_noteArea_30 : decode cX1_noteArea 30 = .ok (.aload_n 0, 1) := by decide +kernel
theorem dX1_noteArea_31 : decode cX1_noteArea 31 = .ok (.aload_n 0, 1) := by decide +kernel
theorem dX1_noteArea_32 : decode cX1_noteArea 32 = .ok (.getfield 21, 3) := by decide +kernel
theorem dX1_noteArea_35 : decode cX1_noteArea 35 = .ok (.iload_n 2, 1) := by decide +kernel
theorem dX1_noteArea_36 : decode cX1_noteArea 36 = .ok (.invokevirtual 196, 3) := by decide +kernel
theorem dX1_noteArea_39 : decode cX1_noteArea 39 = .ok (.aload_n 0, 1) := by decide +kernel
theorem dX1_noteArea_40 : decode cX1_noteArea 40 = .ok (.aload_n 0, 1) := by decide +kernel
theorem dX1_noteArea_41 : decode cX1_noteArea 41 = .ok (.getfield 21, 3) := by decide +kernel
theorem dX1_noteArea_44 : decode cX1_noteArea 44 = .ok (.iload_n 3, 1) := by decide +kernel
theorem dX1_noteArea_45 : decode cX1_noteArea 45 = .ok (.invokevirtual 196, 3) := by decide +kernel
theorem dX1_noteArea_48 : decode cX1_noteArea 48 = .ok (.iadd, 1) := by decide +kernel
theorem dX1_noteArea_49 : decode cX1_noteArea 49 = .ok (.aload_n 0, 1) := by decide +kernel
theorem dX1_noteArea_50 : decode cX1_noteArea 50 = .ok (.aload_n 0, 1) := by decide +kernel
theorem dX1_noteArea_51 : decode cX1_noteArea 51 = .ok (.getfield 24, 3) := by decide +kernel
theorem dX1_noteArea_54 : decode cX1_noteArea 54 = .ok (.iload 4, 2) := by decide +kernel
theorem dX1_noteArea_56 : decode cX1_noteArea 56 = .ok (.invokevirtual 200, 3) := by decide +kernel
theorem dX1_noteArea_59 : decode cX1_noteArea 59 = .ok (.isub, 1) := by decide +kernel
theorem dX1_noteArea_60 : decode cX1_noteArea 60 = .ok (.iastore, 1) := by decide +kernel
theorem dX1_noteArea_61 : decode cX1_noteArea 61 = .ok (.aload_n 0, 1) := by decide +kernel
theorem dX1_noteArea_62 : decode cX1_noteArea 62 = .ok (.getfield 36, 3) := by decide +kernel
theorem dX1_noteArea_65 : decode cX1_noteArea 65 = .ok (.iload_n 1, 1) := by decide +kernel
theorem dX1_noteArea_66 : decode cX1_noteArea 66 = .ok (.iconst 1, 1) := by decide +kernel
theorem dX1_noteArea_67 : decode cX1_noteArea 67 = .ok (.iadd, 1) := by decide +kernel
theorem dX1_noteArea_68 : decode cX1_noteArea 68 = .ok (.aload_n 0, 1) := by decide +kernel
theorem dX1_noteArea_69 : decode cX1_noteArea 69 = .ok (.aload_n 0, 1) := by decide +kernel
theorem dX1_noteArea_70 : decode cX1_noteArea 70 = .ok (.getfield 24, 3) := by decide +kernel
theorem dX1_noteArea_73 : decode cX1_noteArea 73 = .ok (.iload_n 2, 1) := by decide +kernel
theorem dX1_noteArea_74 : decode cX1_noteArea 74 = .ok (.invokevirtual 200, 3) := by decide +kernel
theorem dX1_noteArea_77 : decode cX1_noteArea 77 = .ok (.aload_n 0, 1) := by decide +kernel
theorem dX1_noteArea_78 : decode cX1_noteArea 78 = .ok (.aload_n 0, 1) := by decide +kernel
theorem dX1_noteArea_79 : decode cX1_noteArea 79 = .ok (.getfield 24, 3) := by decide +kernel
theorem dX1_noteArea_82 : decode cX1_noteArea 82 = .ok (.iload_n 3, 1) := by decide +kernel
theorem dX1_noteArea_83 : decode cX1_noteArea 83 = .ok (.invokevirtual 200, 3) := by decide +kernel
theorem dX1_noteArea_86 : decode cX1_noteArea 86 = .ok (.iadd, 1) := by decide +kernel
theorem dX1_noteArea_87 : decode cX1_noteArea 87 = .ok (.aload_n 0, 1) := by decide +kernel
theorem dX1_noteArea_88 : decode cX1_noteArea 88 = .ok (.aload_n 0, 1) := by decide +kernel
theorem dX1_noteArea_89 : decode cX1_noteArea 89 = .ok (.getfield 21, 3) := by decide +kernel
theorem dX1_noteArea_92 : decode cX1_noteArea 92 = .ok (.iload 4, 2) := by decide +kernel
theorem dX1_noteArea_94 : decode cX1_noteArea 94 = .ok (.invokevirtual 196, 3) := by decide +kernel
theorem dX1_noteArea_97 : decode cX1_noteArea 97 = .ok (.isub, 1) := by decide +kernel
theorem dX1_noteArea_98 : decode cX1_noteArea 98 = .ok (.iastore, 1) := by decide +kernel
theorem dX1_noteArea_99 : decode cX1_noteArea 99 = .ok (.aload_n 0, 1) := by decide +kernel
theorem dX1_noteArea_100 : decode cX1_noteArea 100 = .ok (.getfield 36, 3) := by decide +kernel
theorem dX1_noteArea_103 : decode cX1_noteArea 103 = .ok (.iload_n 1, 1) := by decide +kernel
theorem dX1_noteArea_104 : decode cX1_noteArea 104 = .ok (.iconst 2, 1) := by decide +kernel
theorem dX1_noteArea_105 : decode cX1_noteArea 105 = .ok (.iadd, 1) := by decide +kernel
theorem dX1_noteArea_106 : decode cX1_noteArea 106 = .ok (.aload_n 0, 1) := by decide +kernel
theorem dX1_noteArea_107 : decode cX1_noteArea 107 = .ok (.aload_n 0, 1) := by decide +kernel
theorem dX1_noteArea_108 : decode cX1_noteArea 108 = .ok (.getfield 27, 3) := by decide +kernel
theorem dX1_noteArea_111 : decode cX1_noteArea 111 = .ok (.iload_n 2, 1) := by decide +kernel
theorem dX1_noteArea_112 : decode cX1_noteArea 112 = .ok (.invokevirtual 196, 3) := by decide +kernel
theorem dX1_noteArea_115 : decode cX1_noteArea 115 = .ok (.aload_n 0, 1) := by decide +kernel
theorem dX1_noteArea_116 : decode cX1_noteArea 116 = .ok (.aload_n 0, 1) := by decide +kernel
theorem dX1_noteArea_117 : decode cX1_noteArea 117 = .ok (.getfield 27, 3) := by decide +kernel
theorem dX1_noteArea_120 : decode cX1_noteArea 120 = .ok (.iload_n 3, 1) := by decide +kernel
theorem dX1_noteArea_121 : decode cX1_noteArea 121 = .ok (.invokevirtual 196, 3) := by decide +kernel
theorem dX1_noteArea_124 : decode cX1_noteArea 124 = .ok (.iadd, 1) := by decide +kernel
theorem dX1_noteArea_125 : decode cX1_noteArea 125 = .ok (.aload_n 0, 1) := by decide +kernel
theorem dX1_noteArea_126 : decode cX1_noteArea 126 = .ok (.aload_n 0, 1) := by decide +kernel
theorem dX1_noteArea_127 : decode cX1_noteArea 127 = .ok (.getfield 30, 3) := by decide +kernel
theorem dX1_noteArea_130 : decode cX1_noteArea 130 = .ok (.iload 4, 2) := by decide +kernel
theorem dX1_noteArea_132 : decode cX1_noteArea 132 = .ok (.invokevirtual 200, 3) := by decide +kernel
theorem dX1_noteArea_135 : decode cX1_noteArea 135 = .ok (.isub, 1) := by decide +kernel
theorem dX1_noteArea_136 : decode cX1_noteArea 136 = .ok (.iastore, 1) := by decide +kernel
theorem dX1_noteArea_137 : decode cX1_noteArea 137 = .ok (.aload_n 0, 1) := by decide +kernel
theorem dX1_noteArea_138 : decode cX1_noteArea 138 = .ok (.getfield 36, 3) := by decide +kernel
theorem dX1_noteArea_141 : decode cX1_noteArea 141 = .ok (.iload_n 1, 1) := by decide +kernel
theorem dX1_noteArea_142 : decode cX1_noteArea 142 = .ok (.iconst 3, 1) := by decide +kernel
theorem dX1_noteArea_143 : decode cX1_noteArea 143 = .ok (.iadd, 1) := by decide +kernel
theorem dX1_noteArea_144 : decode cX1_noteArea 144 = .ok (.aload_n 0, 1) := by decide +kernel
theorem dX1_noteArea_145 : decode cX1_noteArea 145 = .ok (.aload_n 0, 1) := by decide +kernel
theorem dX1_noteArea_146 : decode cX1_noteArea 146 = .ok (.getfield 30, 3) := by decide +kernel
theorem dX1_noteArea_149 : decode cX1_noteArea 149 = .ok (.iload_n 2, 1) := by decide +kernel
theorem dX1_noteArea_150 : decode cX1_noteArea 150 = .ok (.invokevirtual 200, 3) := by decide +kernel
theorem dX1_noteArea_153 : decode cX1_noteArea 153 = .ok (.aload_n 0, 1) := by decide +kernel
theorem dX1_noteArea_154 : decode cX1_noteArea 154 = .ok (.aload_n 0, 1) := by decide +kernel
theorem dX1_noteArea_155 : decode cX1_noteArea 155 = .ok (.getfield 30, 3) := by decide +kernel
theorem dX1_noteArea_158 : decode cX1_noteArea 158 = .ok (.iload_n 3, 1) := by decide +kernel
theorem dX1_noteArea_159 : decode cX1_noteArea 159 = .ok (.invokevirtual 200, 3) := by decide +kernel
theorem dX1_noteArea_162 : decode cX1_noteArea 162 = .ok (.iadd, 1) := by decide +kernel
theorem dX1_noteArea_163 : decode cX1_noteArea 163 = .ok (.aload_n 0, 1) := by decide +kernel
theorem dX1_noteArea_164 : decode cX1_noteArea 164 = .ok (.aload_n 0, 1) := by decide +kernel
theorem dX1_noteArea_165 : decode cX1_noteArea 165 = .ok (.getfield 27, 3) := by decide +kernel
theorem dX1_noteArea_168 : decode cX1_noteArea 168 = .ok (.iload 4, 2) := by decide +kernel
theorem dX1_noteArea_170 : decode cX1_noteArea 170 = .ok (.invokevirtual 196, 3) := by decide +kernel
theorem dX1_noteArea_173 : decode cX1_noteArea 173 = .ok (.isub, 1) := by decide +kernel
theorem dX1_noteArea_174 : decode cX1_noteArea 174 = .ok (.iastore, 1) := by decide +kernel
theorem dX1_noteArea_175 : decode cX1_noteArea 175 = .ok (.return_, 1) := by decide +kernel
theorem dX1_least_0 : decode cX1_least 0 = .ok (.aload_n 0, 1) := by decide +kernel
theorem dX1_least_1 : decode cX1_least 1 = .ok (.getfield 60, 3) := by decide +kernel
theorem dX1_least_4 : decode cX1_least 4 = .ok (.iload_n 2, 1) := by decide +kernel
theorem dX1_least_5 : decode cX1_least 5 = .ok (.invokestatic 105, 3) := by decide +kernel
theorem dX1_least_8 : decode cX1_least 8 = .ok (.ifCond .eq 9, 3) := by decide +kernel
theorem dX1_least_11 : decode cX1_least 11 = .ok (.aload_n 1, 1) := by decide +kernel
theorem dX1_least_12 : decode cX1_least 12 = .ok (.iload_n 2, 1) := by decide +kernel
theorem dX1_least_13 : decode cX1_least 13 = .ok (.iaload, 1) := by decide +kernel
theorem dX1_least_14 : decode cX1_least 14 = .ok (.goto 4, 3) := by decide +kernel
theorem dX1_least_17 : decode cX1_least 17 = .ok (.iconst 0, 1) := by decide +kernel
theorem dX1_least_18 : decode cX1_least 18 = .ok (.ireturn, 1) := by decide +kernel
theorem dX1_most_0 : decode cX1_most 0 = .ok (.aload_n 0, 1) := by decide +kernel
theorem dX1_most_1 : decode cX1_most 1 = .ok (.getfield 60, 3) := by decide +kernel
theorem dX1_most_4 : decode cX1_most 4 = .ok (.iload_n 2, 1) := by decide +kernel
theorem dX1_most_5 : decode cX1_most 5 = .ok (.invokestatic 105, 3) := by decide +kernel
theorem dX1_most_8 : decode cX1_most 8 = .ok (.ifCond .eq 9, 3) := by decide +kernel
theorem dX1_most_11 : decode cX1_most 11 = .ok (.aload_n 1, 1) := by decide +kernel
theorem dX1_most_12 : decode cX1_most 12 = .ok (.iload_n 2, 1) := by decide +kernel
theorem dX1_most_13 : decode cX1_most 13 = .ok (.iaload, 1) := by decide +kernel
theorem dX1_most_14 : decode cX1_most 14 = .ok (.goto 5, 3) := by decide +kernel
theorem dX1_most_17 : decode cX1_most 17 = .ok (.bipush 99, 2) := by decide +kernel
theorem dX1_most_19 : decode cX1_most 19 = .ok (.ireturn, 1) := by decide +kernel
theorem dX1_inAll_0 : decode cX1_inAll 0 = .ok (.bipush 63, 2) := by decide +kernel
theorem dX1_inAll_2 : decode cX1_inAll 2 = .ok (.istore_n 1, 1) := by decide +kernel
theorem dX1_inAll_3 : decode cX1_inAll 3 = .ok (.iconst 0, 1) := by decide +kernel
theorem dX1_inAll_4 : decode cX1_inAll 4 = .ok (.istore_n 2, 1) := by decide +kernel
theorem dX1_inAll_5 : decode cX1_inAll 5 = .ok (.iload_n 2, 1) := by decide +kernel
theorem dX1_inAll_6 : decode cX1_inAll 6 = .ok (.aload_n 0, 1) := by decide +kernel
theorem dX1_inAll_7 : decode cX1_inAll 7 = .ok (.getfield 57, 3) := by decide +kernel
theorem dX1_inAll_10 : decode cX1_inAll 10 = .ok (.if_icmp .ge 18, 3) := by decide +kernel
theorem dX1_inAll_13 : decode cX1_inAll 13 = .ok (.iload_n 1, 1) := by decide +kernel
theorem dX1_inAll_14 : decode cX1_inAll 14 = .ok (.aload_n 0, 1) := by decide +kernel
theorem dX1_inAll_15 : decode cX1_inAll 15 = .ok (.getfield 33, 3) := by decide +kernel
theorem dX1_inAll_18 : decode cX1_inAll 18 = .ok (.iload_n 2, 1) := by decide +kernel
theorem dX1_inAll_19 : decode cX1_inAll 19 = .ok (.iaload, 1) := by decide +kernel
theorem dX1_inAll_20 : decode cX1_inAll 20 = .ok (.iand, 1) := by decide +kernel
theorem dX1_inAll_21 : decode cX1_inAll 21 = .ok (.istore_n 1, 1) := by decide +kernel
theorem dX1_inAll_22 : decode cX1_inAll 22 = .ok (.iinc 2 1, 3) := by decide +kernel
theorem dX1_inAll_25 : decode cX1_inAll 25 = .ok (.goto (-20), 3) := by decide +kernel
theorem dX1_inAll_28 : decode cX1_inAll 28 = .ok (.iload_n 1, 1) := by decide +kernel
theorem dX1_inAll_29 : decode cX1_inAll 29 = .ok (.ireturn, 1) := by decide +kernel
theorem dX1_inNone_0 : decode cX1_inNone 0 = .ok (.bipush 63, 2) := by decide +kernel
theorem dX1_inNone_2 : decode cX1_inNone 2 = .ok (.istore_n 1, 1) := by decide +kernel
theorem dX1_inNone_3 : decode cX1_inNone 3 = .ok (.iconst 0, 1) := by decide +kernel
theorem dX1_inNone_4 : decode cX1_inNone 4 = .ok (.istore_n 2, 1) := by decide +kernel
theorem dX1_inNone_5 : decode cX1_inNone 5 = .ok (.iload_n 2, 1) := by decide +kernel
theorem dX1_inNone_6 : decode cX1_inNone 6 = .ok (.aload_n 0, 1) := by decide +kernel
theorem dX1_inNone_7 : decode cX1_inNone 7 = .ok (.getfield 57, 3) := by decide +kernel
theorem dX1_inNone_10 : decode cX1_inNone 10 = .ok (.if_icmp .ge 20, 3) := by decide +kernel
theorem dX1_inNone_13 : decode cX1_inNone 13 = .ok (.iload_n 1, 1) := by decide +kernel
theorem dX1_inNone_14 : decode cX1_inNone 14 = .ok (.aload_n 0, 1) := by decide +kernel
theorem dX1_inNone_15 : decode cX1_inNone 15 = .ok (.getfield 33, 3) := by decide +kernel
theorem dX1_inNone_18 : decode cX1_inNone 18 = .ok (.iload_n 2, 1) := by decide +kernel
theorem dX1_inNone_19 : decode cX1_inNone 19 = .ok (.iaload, 1) := by decide +kernel
theorem dX1_inNone_20 : decode cX1_inNone 20 = .ok (.iconst (-1), 1) := by decide +kernel
theorem dX1_inNone_21 : decode cX1_inNone 21 = .ok (.ixor, 1) := by decide +kernel
theorem dX1_inNone_22 : decode cX1_inNone 22 = .ok (.iand, 1) := by decide +kernel
theorem dX1_inNone_23 : decode cX1_inNone 23 = .ok (.istore_n 1, 1) := by decide +kernel
theorem dX1_inNone_24 : decode cX1_inNone 24 = .ok (.iinc 2 1, 3) := by decide +kernel
theorem dX1_inNone_27 : decode cX1_inNone 27 = .ok (.goto (-22), 3) := by decide +kernel
theorem dX1_inNone_30 : decode cX1_inNone 30 = .ok (.iload_n 1, 1) := by decide +kernel
theorem dX1_inNone_31 : decode cX1_inNone 31 = .ok (.ireturn, 1) := by decide +kernel
theorem dX1_indexOf_0 : decode cX1_indexOf 0 = .ok (.iconst 0, 1) := by decide +kernel
theorem dX1_indexOf_1 : decode cX1_indexOf 1 = .ok (.istore_n 2, 1) := by decide +kernel
theorem dX1_indexOf_2 : decode cX1_indexOf 2 = .ok (.iload_n 2, 1) := by decide +kernel
theorem dX1_indexOf_3 : decode cX1_indexOf 3 = .ok (.aload_n 0, 1) := by decide +kernel
theorem dX1_indexOf_4 : decode cX1_indexOf 4 = .ok (.getfield 57, 3) := by decide +kernel
theorem dX1_indexOf_7 : decode cX1_indexOf 7 = .ok (.if_icmp .ge 21, 3) := by decide +kernel
theorem dX1_indexOf_10 : decode cX1_indexOf 10 = .ok (.aload_n 0, 1) := by decide +kernel
theorem dX1_indexOf_11 : decode cX1_indexOf 11 = .ok (.getfield 33, 3) := by decide +kernel
theorem dX1_indexOf_14 : decode cX1_indexOf 14 = .ok (.iload_n 2, 1) := by decide +kernel
theorem dX1_indexOf_15 : decode cX1_indexOf 15 = .ok (.iaload, 1) := by decide +kernel
theorem dX1_indexOf_16 : decode cX1_indexOf 16 = .ok (.iload_n 1, 1) := by decide +kernel
theorem dX1_indexOf_17 : decode cX1_indexOf 17 = .ok (.if_icmp .ne 5, 3) := by decide +kernel
theorem dX1_indexOf_20 : decode cX1_indexOf 20 = .ok (.iload_n 2, 1) := by decide +kernel
theorem dX1_indexOf_21 : decode cX1_indexOf 21 = .ok (.ireturn, 1) := by decide +kernel
theorem dX1_indexOf_22 : decode cX1_indexOf 22 = .ok (.iinc 2 1, 3) := by decide +kernel
theorem dX1_indexOf_25 : decode cX1_indexOf 25 = .ok (.goto (-23), 3) := by decide +kernel
theorem dX1_indexOf_28 : decode cX1_indexOf 28 = .ok (.iconst (-1), 1) := by decide +kernel
theorem dX1_indexOf_29 : decode cX1_indexOf 29 = .ok (.ireturn, 1) := by decide +kernel
theorem dX1_isPlace_0 : decode cX1_isPlace 0 = .ok (.aload_n 0, 1) := by decide +kernel
theorem dX1_isPlace_1 : decode cX1_isPlace 1 = .ok (.getfield 36, 3) := by decide +kernel
theorem dX1_isPlace_4 : decode cX1_isPlace 4 = .ok (.iload_n 1, 1) := by decide +kernel
theorem dX1_isPlace_5 : decode cX1_isPlace 5 = .ok (.iconst 4, 1) := by decide +kernel
theorem dX1_isPlace_6 : decode cX1_isPlace 6 = .ok (.imul, 1) := by decide +kernel
theorem dX1_isPlace_7 : decode cX1_isPlace 7 = .ok (.iaload, 1) := by decide +kernel
theorem dX1_isPlace_8 : decode cX1_isPlace 8 = .ok (.aload_n 0, 1) := by decide +kernel
theorem dX1_isPlace_9 : decode cX1_isPlace 9 = .ok (.getfield 36, 3) := by decide +kernel
theorem dX1_isPlace_12 : decode cX1_isPlace 12 = .ok (.iload_n 1, 1) := by decide +kernel
theorem dX1_isPlace_13 : decode cX1_isPlace 13 = .ok (.iconst 4, 1) := by decide +kernel
theorem dX1_isPlace_14 : decode cX1_isPlace 14 = .ok (.imul, 1) := by decide +kernel
theorem dX1_isPlace_15 : decode cX1_isPlace 15 = .ok (.iconst 1, 1) := by decide +kernel
theorem dX1_isPlace_16 : decode cX1_isPlace 16 = .ok (.iadd, 1) := by decide +kernel
theorem dX1_isPlace_17 : decode cX1_isPlace 17 = .ok (.iaload, 1) := by decide +kernel
theorem dX1_isPlace_18 : decode cX1_isPlace 18 = .ok (.if_icmp .ne 30, 3) := by decide +kernel
theorem dX1_isPlace_21 : decode cX1_isPlace 21 = .ok (.aload_n 0, 1) := by decide +kernel
theorem dX1_isPlace_22 : decode cX1_isPlace 22 = .ok (.getfield 36, 3) := by decide +kernel
theorem dX1_isPlace_25 : decode cX1_isPlace 25 = .ok (.iload_n 1, 1) := by decide +kernel
theorem dX1_isPlace_26 : decode cX1_isPlace 26 = .ok (.iconst 4, 1) := by decide +kernel
theorem dX1_isPlace_27 : decode cX1_isPlace 27 = .ok (.imul, 1) := by decide +kernel
theorem dX1_isPlace_28 : decode cX1_isPlace 28 = .ok (.iconst 2, 1) := by decide +kernel
theorem dX1_isPlace_29 : decode cX1_isPlace 29 = .ok (.iadd, 1) := by decide +kernel
theorem dX1_isPlace_30 : decode cX1_isPlace 30 = .ok (.iaload, 1) := by decide +kernel
theorem dX1_isPlace_31 : decode cX1_isPlace 31 = .ok (.aload_n 0, 1) := by decide +kernel
theorem dX1_isPlace_32 : decode cX1_isPlace 32 = .ok (.getfield 36, 3) := by decide +kernel
theorem dX1_isPlace_35 : decode cX1_isPlace 35 = .ok (.iload_n 1, 1) := by decide +kernel
theorem dX1_isPlace_36 : decode cX1_isPlace 36 = .ok (.iconst 4, 1) := by decide +kernel
theorem dX1_isPlace_37 : decode cX1_isPlace 37 = .ok (.imul, 1) := by decide +kernel
theorem dX1_isPlace_38 : decode cX1_isPlace 38 = .ok (.iconst 3, 1) := by decide +kernel
theorem dX1_isPlace_39 : decode cX1_isPlace 39 = .ok (.iadd, 1) := by decide +kernel
theorem dX1_isPlace_40 : decode cX1_isPlace 40 = .ok (.iaload, 1) := by decide +kernel
theorem dX1_isPlace_41 : decode cX1_isPlace 41 = .ok (.if_icmp .ne 7, 3) := by decide +kernel
theorem dX1_isPlace_44 : decode cX1_isPlace 44 = .ok (.iconst 1, 1) := by decide +kernel
theorem dX1_isPlace_45 : decode cX1_isPlace 45 = .ok (.goto 4, 3) := by decide +kernel
theorem dX1_isPlace_48 : decode cX1_isPlace 48 = .ok (.iconst 0, 1) := by decide +kernel
theorem dX1_isPlace_49 : decode cX1_isPlace 49 = .ok (.ireturn, 1) := by decide +kernel
theorem dX1_placeX_0 : decode cX1_placeX 0 = .ok (.aload_n 0, 1) := by decide +kernel
theorem dX1_placeX_1 : decode cX1_placeX 1 = .ok (.getfield 36, 3) := by decide +kernel
theorem dX1_placeX_4 : decode cX1_placeX 4 = .ok (.iload_n 1, 1) := by decide +kernel
theorem dX1_placeX_5 : decode cX1_placeX 5 = .ok (.iconst 4, 1) := by decide +kernel
theorem dX1_placeX_6 : decode cX1_placeX 6 = .ok (.imul, 1) := by decide +kernel
theorem dX1_placeX_7 : decode cX1_placeX 7 = .ok (.iaload, 1) := by decide +kernel
theorem dX1_placeX_8 : decode cX1_placeX 8 = .ok (.ireturn, 1) := by decide +kernel
theorem dX1_placeY_0 : decode cX1_placeY 0 = .ok (.aload_n 0, 1) := by decide +kernel
theorem dX1_placeY_1 : decode cX1_placeY 1 = .ok (.getfield 36, 3) := by decide +kernel
theorem dX1_placeY_4 : decode cX1_placeY 4 = .ok (.iload_n 1, 1) := by decide +kernel
theorem dX1_placeY_5 : decode cX1_placeY 5 = .ok (.iconst 4, 1) := by decide +kernel
theorem dX1_placeY_6 : decode cX1_placeY 6 = .ok (.imul, 1) := by decide +kernel
theorem dX1_placeY_7 : decode cX1_placeY 7 = .ok (.iconst 2, 1) := by decide +kernel
theorem dX1_placeY_8 : decode cX1_placeY 8 = .ok (.iadd, 1) := by decide +kernel
theorem dX1_placeY_9 : decode cX1_placeY 9 = .ok (.iaload, 1) := by decide +kernel
theorem dX1_placeY_10 : decode cX1_placeY 10 = .ok (.ireturn, 1) := by decide +kernel
theorem dX1_areSamePlace_0 : decode cX1_areSamePlace 0 = .ok (.aload_n 0, 1) := by decide +kernel
theorem dX1_areSamePlace_1 : decode cX1_areSamePlace 1 = .ok (.iload_n 1, 1) := by decide +kernel
theorem dX1_areSamePlace_2 : decode cX1_areSamePlace 2 = .ok (.invokevirtual 203, 3) := by decide +kernel
theorem dX1_areSamePlace_5 : decode cX1_areSamePlace 5 = .ok (.ifCond .eq 41, 3) := by decide +kernel
theorem dX1_areSamePlace_8 : decode cX1_areSamePlace 8 = .ok (.aload_n 0, 1) := by decide +kernel
theorem dX1_areSamePlace_9 : decode cX1_areSamePlace 9 = .ok (.iload_n 2, 1) := by decide +kernel
theorem dX1_areSamePlace_10 : decode cX1_areSamePlace 10 = .ok (.invokevirtual 203, 3) := by decide +kernel
theorem dX1_areSamePlace_13 : decode cX1_areSamePlace 13 = .ok (.ifCond .eq 33, 3) := by decide +kernel
theorem dX1_areSamePlace_16 : decode cX1_areSamePlace 16 = .ok (.aload_n 0, 1) := by decide +kernel
theorem dX1_areSamePlace_17 : decode cX1_areSamePlace 17 = .ok (.iload_n 1, 1) := by decide +kernel
theorem dX1_areSamePlace_18 : decode cX1_areSamePlace 18 = .ok (.invokevirtual 206, 3) := by decide +kernel
theorem dX1_areSamePlace_21 : decode cX1_areSamePlace 21 = .ok (.aload_n 0, 1) := by decide +kernel
theorem dX1_areSamePlace_22 : decode cX1_areSamePlace 22 = .ok (.iload_n 2, 1) := by decide +kernel
theorem dX1_areSamePlace_23 : decode cX1_areSamePlace 23 = .ok (.invokevirtual 206, 3) := by decide +kernel
theorem dX1_areSamePlace_26 : decode cX1_areSamePlace 26 = .ok (.if_icmp .ne 20, 3) := by decide +kernel
theorem dX1_areSamePlace_29 : decode cX1_areSamePlace 29 = .ok (.aload_n 0, 1) := by decide +kernel
theorem dX1_areSamePlace_30 : decode cX1_areSamePlace 30 = .ok (.iload_n 1, 1) := by decide +kernel
theorem dX1_areSamePlace_31 : decode cX1_areSamePlace 31 = .ok (.invokevirtual 209, 3) := by decide +kernel
theorem dX1_areSamePlace_34 : decode cX1_areSamePlace 34 = .ok (.aload_n 0, 1) := by decide +kernel
theorem dX1_areSamePlace_35 : decode cX1_areSamePlace 35 = .ok (.iload_n 2, 1) := by decide +kernel
theorem dX1_areSamePlace_36 : decode cX1_areSamePlace 36 = .ok (.invokevirtual 209, 3) := by decide +kernel
theorem dX1_areSamePlace_39 : decode cX1_areSamePlace 39 = .ok (.if_icmp .ne 7, 3) := by decide +kernel
theorem dX1_areSamePlace_42 : decode cX1_areSamePlace 42 = .ok (.iconst 1, 1) := by decide +kernel
theorem dX1_areSamePlace_43 : decode cX1_areSamePlace 43 = .ok (.goto 4, 3) := by decide +kernel
theorem dX1_areSamePlace_46 : decode cX1_areSamePlace 46 = .ok (.iconst 0, 1) := by decide +kernel
theorem dX1_areSamePlace_47 : decode cX1_areSamePlace 47 = .ok (.ireturn, 1) := by decide +kernel
theorem dX1_choosePlace_0 : decode cX1_choosePlace 0 = .ok (.aload_n 0, 1) := by decide +kernel
theorem dX1_choosePlace_1 : decode cX1_choosePlace 1 = .ok (.iconst (-1), 1) := by decide +kernel
theorem dX1_choosePlace_2 : decode cX1_choosePlace 2 = .ok (.putfield 63, 3) := by decide +kernel
theorem dX1_choosePlace_5 : decode cX1_choosePlace 5 = .ok (.aload_n 0, 1) := by decide +kernel
theorem dX1_choosePlace_6 : decode cX1_choosePlace 6 = .ok (.iconst 0, 1) := by decide +kernel
theorem dX1_choosePlace_7 : decode cX1_choosePlace 7 = .ok (.putfield 66, 3) := by decide +kernel
theorem dX1_choosePlace_10 : decode cX1_choosePlace 10 = .ok (.iconst 0, 1) := by decide +kernel
theorem dX1_choosePlace_11 : decode cX1_choosePlace 11 = .ok (.istore_n 1, 1) := by decide +kernel
theorem dX1_choosePlace_12 : decode cX1_choosePlace 12 = .ok (.iload_n 1, 1) := by decide +kernel
theorem dX1_choosePlace_13 : decode cX1_choosePlace 13 = .ok (.aload_n 0, 1) := by decide +kernel
theorem dX1_choosePlace_14 : decode cX1_choosePlace 14 = .ok (.getfield 57, 3) := by decide +kernel
theorem dX1_choosePlace_17 : decode cX1_choosePlace 17 = .ok (.if_icmp .ge 81, 3) := by decide +kernel
theorem dX1_choosePlace_20 : decode cX1_choosePlace 20 = .ok (.iconst 0, 1) := by decide +kernel
theorem dX1_choosePlace_21 : decode cX1_choosePlace 21 = .ok (.istore_n 2, 1) := by decide +kernel
theorem dX1_choosePlace_22 : decode cX1_choosePlace 22 = .ok (.iconst 0, 1) := by decide +kernel
theorem dX1_choosePlace_23 : decode cX1_choosePlace 23 = .ok (.istore_n 3, 1) := by decide +kernel
theorem dX1_choosePlace_24 : decode cX1_choosePlace 24 = .ok (.iload_n 3, 1) := by decide +kernel
theorem dX1_choosePlace_25 : decode cX1_choosePlace 25 = .ok (.aload_n 0, 1) := by decide +kernel
theorem dX1_choosePlace_26 : decode cX1_choosePlace 26 = .ok (.getfield 57, 3) := by decide +kernel
theorem dX1_choosePlace_29 : decode cX1_choosePlace 29 = .ok (.if_icmp .ge 21, 3) := by decide +kernel
theorem dX1_choosePlace_32 : decode cX1_choosePlace 32 = .ok (.aload_n 0, 1) := by decide +kernel
theorem dX1_choosePlace_33 : decode cX1_choosePlace 33 = .ok (.iload_n 1, 1) := by decide +kernel
theorem dX1_choosePlace_34 : decode cX1_choosePlace 34 = .ok (.iload_n 3, 1) := by decide +kernel
theorem dX1_choosePlace_35 : decode cX1_choosePlace 35 = .ok (.invokevirtual 212, 3) := by decide +kernel
theorem dX1_choosePlace_38 : decode cX1_choosePlace 38 = .ok (.ifCond .eq 6, 3) := by decide +kernel
theorem dX1_choosePlace_41 : decode cX1_choosePlace 41 = .ok (.iinc 2 1, 3) := by decide +kernel
theorem dX1_choosePlace_44 : decode cX1_choosePlace 44 = .ok (.iinc 3 1, 3) := by decide +kernel
theorem dX1_choosePlace_47 : decode cX1_choosePlace 47 = .ok (.goto (-23), 3) := by decide +kernel
theorem dX1_choosePlace_50 : decode cX1_choosePlace 50 = .ok (.iload_n 2, 1) := by decide +kernel
theorem dX1_choosePlace_51 : decode cX1_choosePlace 51 = .ok (.aload_n 0, 1) := by decide +kernel
theorem dX1_choosePlace_52 : decode cX1_choosePlace 52 = .ok (.getfield 66, 3) := by decide +kernel
theorem dX1_choosePlace_55 : decode cX1_choosePlace 55 = .ok (.if_icmp .gt 27, 3) := by decide +kernel
theorem dX1_choosePlace_58 : decode cX1_choosePlace 58 = .ok (.iload_n 2, 1) := by decide +kernel
theorem dX1_choosePlace_59 : decode cX1_choosePlace 59 = .ok (.ifCond .le 33, 3) := by decide +kernel
theorem dX1_choosePlace_62 : decode cX1_choosePlace 62 = .ok (.iload_n 2, 1) := by decide +kernel
theorem dX1_choosePlace_63 : decode cX1_choosePlace 63 = .ok (.aload_n 0, 1) := by decide +kernel
theorem dX1_choosePlace_64 : decode cX1_choosePlace 64 = .ok (.getfield 66, 3) := by decide +kernel
theorem dX1_choosePlace_67 : decode cX1_choosePlace 67 = .ok (.if_icmp .ne 25, 3) := by decide +kernel
theorem dX1_choosePlace_70 : decode cX1_choosePlace 70 = .ok (.aload_n 0, 1) := by decide +kernel
theorem dX1_choosePlace_71 : decode cX1_choosePlace 71 = .ok (.iload_n 1, 1) := by decide +kernel
theorem dX1_choosePlace_72 : decode cX1_choosePlace 72 = .ok (.aload_n 0, 1) := by decide +kernel
theorem dX1_choosePlace_73 : decode cX1_choosePlace 73 = .ok (.getfield 63, 3) := by decide +kernel
theorem dX1_choosePlace_76 : decode cX1_choosePlace 76 = .ok (.invokevirtual 215, 3) := by decide +kernel
theorem dX1_choosePlace_79 : decode cX1_choosePlace 79 = .ok (.ifCond .eq 13, 3) := by decide +kernel
theorem dX1_choosePlace_82 : decode cX1_choosePlace 82 = .ok (.aload_n 0, 1) := by decide +kernel
theorem dX1_choosePlace_83 : decode cX1_choosePlace 83 = .ok (.iload_n 1, 1) := by decide +kernel
theorem dX1_choosePlace_84 : decode cX1_choosePlace 84 = .ok (.putfield 63, 3) := by decide +kernel
theorem dX1_choosePlace_87 : decode cX1_choosePlace 87 = .ok (.aload_n 0, 1) := by decide +kernel
theorem dX1_choosePlace_88 : decode cX1_choosePlace 88 = .ok (.iload_n 2, 1) := by decide +kernel
theorem dX1_choosePlace_89 : decode cX1_choosePlace 89 = .ok (.putfield 66, 3) := by decide +kernel
theorem dX1_choosePlace_92 : decode cX1_choosePlace 92 = .ok (.iinc 1 1, 3) := by decide +kernel
theorem dX1_choosePlace_95 : decode cX1_choosePlace 95 = .ok (.goto (-83), 3) := by decide +kernel
theorem dX1_choosePlace_98 : decode cX1_choosePlace 98 = .ok (.return_, 1) := by decide +kernel
theorem dX1_comesAhead_0 : decode cX1_comesAhead 0 = .ok (.aload_n 0, 1) := by decide +kernel
theorem dX1_comesAhead_1 : decode cX1_comesAhead 1 = .ok (.iload_n 1, 1) := by decide +kernel
theorem dX1_comesAhead_2 : decode cX1_comesAhead 2 = .ok (.invokevirtual 206, 3) := by decide +kernel
theorem dX1_comesAhead_5 : decode cX1_comesAhead 5 = .ok (.aload_n 0, 1) := by decide +kernel
theorem dX1_comesAhead_6 : decode cX1_comesAhead 6 = .ok (.iload_n 2, 1) := by decide +kernel
theorem dX1_comesAhead_7 : decode cX1_comesAhead 7 = .ok (.invokevirtual 206, 3) := by decide +kernel
theorem dX1_comesAhead_10 : decode cX1_comesAhead 10 = .ok (.if_icmp .eq 22, 3) := by decide +kernel
theorem dX1_comesAhead_13 : decode cX1_comesAhead 13 = .ok (.aload_n 0, 1) := by decide +kernel
theorem dX1_comesAhead_14 : decode cX1_comesAhead 14 = .ok (.iload_n 1, 1) := by decide +kernel
theorem dX1_comesAhead_15 : decode cX1_comesAhead 15 = .ok (.invokevirtual 206, 3) := by decide +kernel
theorem dX1_comesAhead_18 : decode cX1_comesAhead 18 = .ok (.aload_n 0, 1) := by decide +kernel
theorem dX1_comesAhead_19 : decode cX1_comesAhead 19 = .ok (.iload_n 2, 1) := by decide +kernel
theorem dX1_comesAhead_20 : decode cX1_comesAhead 20 = .ok (.invokevirtual 206, 3) := by decide +kernel
theorem dX1_comesAhead_23 : decode cX1_comesAhead 23 = .ok (.if_icmp .ge 7, 3) := by decide +kernel
theorem dX1_comesAhead_26 : decode cX1_comesAhead 26 = .ok (.iconst 1, 1) := by decide +kernel
theorem dX1_comesAhead_27 : decode cX1_comesAhead 27 = .ok (.goto 4, 3) := by decide +kernel
theorem dX1_comesAhead_30 : decode cX1_comesAhead 30 = .ok (.iconst 0, 1) := by decide +kernel
theorem dX1_comesAhead_31 : decode cX1_comesAhead 31 = .ok (.ireturn, 1) := by decide +kernel
theorem dX1_comesAhead_32 : decode cX1_comesAhead 32 = .ok (.aload_n 0, 1) := by decide +kernel
theorem dX1_comesAhead_33 : decode cX1_comesAhead 33 = .ok (.iload_n 1, 1) := by decide +kernel
theorem dX1_comesAhead_34 : decode cX1_comesAhead 34 = .ok (.invokevirtual 209, 3) := by decide +kernel
theorem dX1_comesAhead_37 : decode cX1_comesAhead 37 = .ok (.aload_n 0, 1) := by decide +kernel
theorem dX1_comesAhead_38 : decode cX1_comesAhead 38 = .ok (.iload_n 2, 1) := by decide +kernel
theorem dX1_comesAhead_39 : decode cX1_comesAhead 39 = .ok (.invokevirtual 209, 3) := by decide +kernel
theorem dX1_comesAhead_42 : decode cX1_comesAhead 42 = .ok (.if_icmp .ge 7, 3) := by decide +kernel
theorem dX1_comesAhead_45 : decode cX1_comesAhead 45 = .ok (.iconst 1, 1) := by decide +kernel
theorem dX1_comesAhead_46 : decode cX1_comesAhead 46 = .ok (.goto 4, 3) := by decide +kernel
theorem dX1_comesAhead_49 : decode cX1_comesAhead 49 = .ok (.iconst 0, 1) := by decide +kernel
theorem dX1_comesAhead_50 : decode cX1_comesAhead 50 = .ok (.ireturn, 1) := by decide +kernel
theorem dX1_worth_0 : decode cX1_worth 0 = .ok (.aload_n 0, 1) := by decide +kernel
theorem dX1_worth_1 : decode cX1_worth 1 = .ok (.getfield 57, 3) := by decide +kernel
theorem dX1_worth_4 : decode cX1_worth 4 = .ok (.ifCond .ne 7, 3) := by decide +kernel
theorem dX1_worth_7 : decode cX1_worth 7 = .ok (.iconst (-1), 1) := by decide +kernel
theorem dX1_worth_8 : decode cX1_worth 8 = .ok (.goto 28, 3) := by decide +kernel
theorem dX1_worth_11 : decode cX1_worth 11 = .ok (.aload_n 0, 1) := by decide +kernel
theorem dX1_worth_12 : decode cX1_worth 12 = .ok (.getfield 42, 3) := by decide +kernel
theorem dX1_worth_15 : decode cX1_worth 15 = .ok (.getfield 218, 3) := by decide +kernel
theorem dX1_worth_18 : decode cX1_worth 18 = .ok (.aload_n 0, 1) := by decide +kernel
theorem dX1_worth_19 : decode cX1_worth 19 = .ok (.getfield 66, 3) := by decide +kernel
theorem dX1_worth_22 : decode cX1_worth 22 = .ok (.imul, 1) := by decide +kernel
theorem dX1_worth_23 : decode cX1_worth 23 = .ok (.aload_n 0, 1) := by decide +kernel
theorem dX1_worth_24 : decode cX1_worth 24 = .ok (.getfield 57, 3) := by decide +kernel
theorem dX1_worth_27 : decode cX1_worth 27 = .ok (.idiv, 1) := by decide +kernel
theorem dX1_worth_28 : decode cX1_worth 28 = .ok (.aload_n 0, 1) := by decide +kernel
theorem dX1_worth_29 : decode cX1_worth 29 = .ok (.getfield 42, 3) := by decide +kernel
theorem dX1_worth_32 : decode cX1_worth 32 = .ok (.getfield 221, 3) := by decide +kernel
theorem dX1_worth_35 : decode cX1_worth 35 = .ok (.isub, 1) := by decide +kernel
theorem dX1_worth_36 : decode cX1_worth 36 = .ok (.ireturn, 1) := by decide +kernel
theorem dX1_unlikePlaces_0 : decode cX1_unlikePlaces 0 = .ok (.iconst 0, 1) := by decide +kernel
theorem dX1_unlikePlaces_1 : decode cX1_unlikePlaces 1 = .ok (.istore_n 1, 1) := by decide +kernel
theorem dX1_unlikePlaces_2 : decode cX1_unlikePlaces 2 = .ok (.iconst 0, 1) := by decide +kernel
theorem dX1_unlikePlaces_3 : decode cX1_unlikePlaces 3 = .ok (.istore_n 2, 1) := by decide +kernel
theorem dX1_unlikePlaces_4 : decode cX1_unlikePlaces 4 = .ok (.iload_n 2, 1) := by decide +kernel
theorem dX1_unlikePlaces_5 : decode cX1_unlikePlaces 5 = .ok (.aload_n 0, 1) := by decide +kernel
theorem dX1_unlikePlaces_6 : decode cX1_unlikePlaces 6 = .ok (.getfield 57, 3) := by decide +kernel
theorem dX1_unlikePlaces_9 : decode cX1_unlikePlaces 9 = .ok (.if_icmp .ge 68, 3) := by decide +kernel
theorem dX1_unlikePlaces_12 : decode cX1_unlikePlaces 12 = .ok (.aload_n 0, 1) := by decide +kernel
theorem dX1_unlikePlaces_13 : decode cX1_unlikePlaces 13 = .ok (.iload_n 2, 1) := by decide +kernel
theorem dX1_unlikePlaces_14 : decode cX1_unlikePlaces 14 = .ok (.invokevirtual 203, 3) := by decide +kernel
theorem dX1_unlikePlaces_17 : decode cX1_unlikePlaces 17 = .ok (.ifCond .ne 5, 3) := by decide +kernel
theorem dX1_unlikePlaces_20 : decode cX1_unlikePlaces 20 = .ok (.iconst (-1), 1) := by decide +kernel
theorem dX1_unlikePlaces_21 : decode cX1_unlikePlaces 21 = .ok (.ireturn, 1) := by decide +kernel
theorem dX1_unlikePlaces_22 : decode cX1_unlikePlaces 22 = .ok (.iconst 1, 1) := by decide +kernel
theorem dX1_unlikePlaces_23 : decode cX1_unlikePlaces 23 = .ok (.istore_n 3, 1) := by decide +kernel
theorem dX1_unlikePlaces_24 : decode cX1_unlikePlaces 24 = .ok (.iconst 0, 1) := by decide +kernel
theorem dX1_unlikePlaces_25 : decode cX1_unlikePlaces 25 = .ok (.istore 4, 2) := by decide +kernel
theorem dX1_unlikePlaces_27 : decode cX1_unlikePlaces 27 = .ok (.iload 4, 2) := by decide +kernel
theorem dX1_unlikePlaces_29 : decode cX1_unlikePlaces 29 = .ok (.iload_n 2, 1) := by decide +kernel
theorem dX1_unlikePlaces_30 : decode cX1_unlikePlaces 30 = .ok (.if_icmp .ge 29, 3) := by decide +kernel
theorem dX1_unlikePlaces_33 : decode cX1_unlikePlaces 33 = .ok (.iload_n 3, 1) := by decide +kernel
theorem dX1_unlikePlaces_34 : decode cX1_unlikePlaces 34 = .ok (.ifCond .eq 17, 3) := by decide +kernel
theorem dX1_unlikePlaces_37 : decode cX1_unlikePlaces 37 = .ok (.aload_n 0, 1) := by decide +kernel
theorem dX1_unlikePlaces_38 : decode cX1_unlikePlaces 38 = .ok (.iload_n 2, 1) := by decide +kernel
theorem dX1_unlikePlaces_39 : decode cX1_unlikePlaces 39 = .ok (.iload 4, 2) := by decide +kernel
theorem dX1_unlikePlaces_41 : decode cX1_unlikePlaces 41 = .ok (.invokevirtual 212, 3) := by decide +kernel
theorem dX1_unlikePlaces_44 : decode cX1_unlikePlaces 44 = .ok (.ifCond .ne 7, 3) := by decide +kernel
theorem dX1_unlikePlaces_47 : decode cX1_unlikePlaces 47 = .ok (.iconst 1, 1) := by decide +kernel
theorem dX1_unlikePlaces_48 : decode cX1_unlikePlaces 48 = .ok (.goto 4, 3) := by decide +kernel
theorem dX1_unlikePlaces_51 : decode cX1_unlikePlaces 51 = .ok (.iconst 0, 1) := by decide +kernel
theorem dX1_unlikePlaces_52 : decode cX1_unlikePlaces 52 = .ok (.istore_n 3, 1) := by decide +kernel
theorem dX1_unlikePlaces_53 : decode cX1_unlikePlaces 53 = .ok (.iinc 4 1, 3) := by decide +kernel
theorem dX1_unlikePlaces_56 : decode cX1_unlikePlaces 56 = .ok (.goto (-29), 3) := by decide +kernel
theorem dX1_unlikePlaces_59 : decode cX1_unlikePlaces 59 = .ok (.iload_n 1, 1) := by decide +kernel
theorem dX1_unlikePlaces_60 : decode cX1_unlikePlaces 60 = .ok (.iload_n 3, 1) := by decide +kernel
theorem dX1_unlikePlaces_61 : decode cX1_unlikePlaces 61 = .ok (.ifCond .eq 7, 3) := by decide +kernel
theorem dX1_unlikePlaces_64 : decode cX1_unlikePlaces 64 = .ok (.iconst 1, 1) := by decide +kernel
theorem dX1_unlikePlaces_65 : decode cX1_unlikePlaces 65 = .ok (.goto 4, 3) := by decide +kernel
theorem dX1_unlikePlaces_68 : decode cX1_unlikePlaces 68 = .ok (.iconst 0, 1) := by decide +kernel
theorem dX1_unlikePlaces_69 : decode cX1_unlikePlaces 69 = .ok (.iadd, 1) := by decide +kernel
theorem dX1_unlikePlaces_70 : decode cX1_unlikePlaces 70 = .ok (.istore_n 1, 1) := by decide +kernel
theorem dX1_unlikePlaces_71 : decode cX1_unlikePlaces 71 = .ok (.iinc 2 1, 3) := by decide +kernel
theorem dX1_unlikePlaces_74 : decode cX1_unlikePlaces 74 = .ok (.goto (-70), 3) := by decide +kernel
theorem dX1_unlikePlaces_77 : decode cX1_unlikePlaces 77 = .ok (.aload_n 0, 1) := by decide +kernel
theorem dX1_unlikePlaces_78 : decode cX1_unlikePlaces 78 = .ok (.getfield 57, 3) := by decide +kernel
theorem dX1_unlikePlaces_81 : decode cX1_unlikePlaces 81 = .ok (.ifCond .ne 7, 3) := by decide +kernel
theorem dX1_unlikePlaces_84 : decode cX1_unlikePlaces 84 = .ok (.iconst (-1), 1) := by decide +kernel
theorem dX1_unlikePlaces_85 : decode cX1_unlikePlaces 85 = .ok (.goto 4, 3) := by decide +kernel
theorem dX1_unlikePlaces_88 : decode cX1_unlikePlaces 88 = .ok (.iload_n 1, 1) := by decide +kernel
theorem dX1_unlikePlaces_89 : decode cX1_unlikePlaces 89 = .ok (.ireturn, 1) := by decide +kernel
theorem dX1_ofHundred_0 : decode cX1_ofHundred 0 = .ok (.aload_n 0, 1) := by decide +kernel
theorem dX1_ofHundred_1 : decode cX1_ofHundred 1 = .ok (.getfield 57, 3) := by decide +kernel
theorem dX1_ofHundred_4 : decode cX1_ofHundred 4 = .ok (.ifCond .ne 5, 3) := by decide +kernel
theorem dX1_ofHundred_7 : decode cX1_ofHundred 7 = .ok (.iconst (-1), 1) := by decide +kernel
theorem dX1_ofHundred_8 : decode cX1_ofHundred 8 = .ok (.ireturn, 1) := by decide +kernel
theorem dX1_ofHundred_9 : decode cX1_ofHundred 9 = .ok (.iconst 0, 1) := by decide +kernel
theorem dX1_ofHundred_10 : decode cX1_ofHundred 10 = .ok (.istore_n 3, 1) := by decide +kernel
theorem dX1_ofHundred_11 : decode cX1_ofHundred 11 = .ok (.iconst 0, 1) := by decide +kernel
theorem dX1_ofHundred_12 : decode cX1_ofHundred 12 = .ok (.istore 4, 2) := by decide +kernel
theorem dX1_ofHundred_14 : decode cX1_ofHundred 14 = .ok (.iload 4, 2) := by decide +kernel
theorem dX1_ofHundred_16 : decode cX1_ofHundred 16 = .ok (.aload_n 0, 1) := by decide +kernel
theorem dX1_ofHundred_17 : decode cX1_ofHundred 17 = .ok (.getfield 57, 3) := by decide +kernel
theorem dX1_ofHundred_20 : decode cX1_ofHundred 20 = .ok (.if_icmp .ge 27, 3) := by decide +kernel
theorem dX1_ofHundred_23 : decode cX1_ofHundred 23 = .ok (.aload_n 0, 1) := by decide +kernel
theorem dX1_ofHundred_24 : decode cX1_ofHundred 24 = .ok (.getfield 33, 3) := by decide +kernel
theorem dX1_ofHundred_27 : decode cX1_ofHundred 27 = .ok (.iload 4, 2) := by decide +kernel
theorem dX1_ofHundred_29 : decode cX1_ofHundred 29 = .ok (.iaload, 1) := by decide +kernel
theorem dX1_ofHundred_30 : decode cX1_ofHundred 30 = .ok (.iload_n 1, 1) := by decide +kernel
theorem dX1_ofHundred_31 : decode cX1_ofHundred 31 = .ok (.invokestatic 105, 3) := by decide +kernel
theorem dX1_ofHundred_34 : decode cX1_ofHundred 34 = .ok (.iload_n 2, 1) := by decide +kernel
theorem dX1_ofHundred_35 : decode cX1_ofHundred 35 = .ok (.if_icmp .ne 6, 3) := by decide +kernel
theorem dX1_ofHundred_38 : decode cX1_ofHundred 38 = .ok (.iinc 3 1, 3) := by decide +kernel
theorem dX1_ofHundred_41 : decode cX1_ofHundred 41 = .ok (.iinc 4 1, 3) := by decide +kernel
theorem dX1_ofHundred_44 : decode cX1_ofHundred 44 = .ok (.goto (-30), 3) := by decide +kernel
theorem dX1_ofHundred_47 : decode cX1_ofHundred 47 = .ok (.bipush 100, 2) := by decide +kernel
theorem dX1_ofHundred_49 : decode cX1_ofHundred 49 = .ok (.iload_n 3, 1) := by decide +kernel
theorem dX1_ofHundred_50 : decode cX1_ofHundred 50 = .ok (.imul, 1) := by decide +kernel
theorem dX1_ofHundred_51 : decode cX1_ofHundred 51 = .ok (.aload_n 0, 1) := by decide +kernel
theorem dX1_ofHundred_52 : decode cX1_ofHundred 52 = .ok (.getfield 57, 3) := by decide +kernel
theorem dX1_ofHundred_55 : decode cX1_ofHundred 55 = .ok (.idiv, 1) := by decide +kernel
theorem dX1_ofHundred_56 : decode cX1_ofHundred 56 = .ok (.ireturn, 1) := by decide +kernel
theorem dX2_init_0 : decode cX2_init 0 = .ok (.aload_n 0, 1) := by decide +kernel
theorem dX2_init_1 : decode cX2_init 1 = .ok (.invokespecial 3, 3) := by decide +kernel
theorem dX2_init_4 : decode cX2_init 4 = .ok (.aload_n 0, 1) := by decide +kernel
theorem dX2_init_5 : decode cX2_init 5 = .ok (.bipush 7, 2) := by decide +kernel
theorem dX2_init_7 : decode cX2_init 7 = .ok (.newarray .int, 2) := by decide +kernel
theorem dX2_init_9 : decode cX2_init 9 = .ok (.putfield 11, 3) := by decide +kernel
theorem dX2_init_12 : decode cX2_init 12 = .ok (.aload_n 0, 1) := by decide +kernel
theorem dX2_init_13 : decode cX2_init 13 = .ok (.iconst 4, 1) := by decide +kernel
theorem dX2_init_14 : decode cX2_init 14 = .ok (.newarray .int, 2) := by decide +kernel
theorem dX2_init_16 : decode cX2_init 16 = .ok (.putfield 15, 3) := by decide +kernel
theorem dX2_init_19 : decode cX2_init 19 = .ok (.aload_n 0, 1) := by decide +kernel
theorem dX2_init_20 : decode cX2_init 20 = .ok (.bipush 6, 2) := by decide +kernel
theorem dX2_init_22 : decode cX2_init 22 = .ok (.newarray .int, 2) := by decide +kernel
theorem dX2_init_24 : decode cX2_init 24 = .ok (.putfield 18, 3) := by decide +kernel
theorem dX2_init_27 : decode cX2_init 27 = .ok (.aload_n 0, 1) := by decide +kernel
theorem dX2_init_28 : decode cX2_init 28 = .ok (.iconst 0, 1) := by decide +kernel
theorem dX2_init_29 : decode cX2_init 29 = .ok (.newarray .byte, 2) := by decide +kernel
theorem dX2_init_31 : decode cX2_init 31 = .ok (.putfield 21, 3) := by decide +kernel
theorem dX2_init_34 : decode cX2_init 34 = .ok (.aload_n 0, 1) := by decide +kernel
theorem dX2_init_35 : decode cX2_init 35 = .ok (.iconst 0, 1) := by decide +kernel
theorem dX2_init_36 : decode cX2_init 36 = .ok (.putfield 25, 3) := by decide +kernel
theorem dX2_init_39 : decode cX2_init 39 = .ok (.aload_n 0, 1) := by decide +kernel
theorem dX2_init_40 : decode cX2_init 40 = .ok (.iconst 0, 1) := by decide +kernel
theorem dX2_init_41 : decode cX2_init 41 = .ok (.putfield 29, 3) := by decide +kernel
theorem dX2_init_44 : decode cX2_init 44 = .ok (.aload_n 0, 1) := by decide +kernel
theorem dX2_init_45 : decode cX2_init 45 = .ok (.iconst 0, 1) := by decide +kernel
theorem dX2_init_46 : decode cX2_init 46 = .ok (.putfield 32, 3) := by decide +kernel
theorem dX2_init_49 : decode cX2_init 49 = .ok (.return_, 1) := by decide +kernel
theorem dX2_read_0 : decode cX2_read 0 = .ok (.aload_n 0, 1) := by decide +kernel
theorem dX2_read_1 : decode cX2_read 1 = .ok (.aload_n 1, 1) := by decide +kernel
theorem dX2_read_2 : decode cX2_read 2 = .ok (.putfield 21, 3) := by decide +kernel
theorem dX2_read_5 : decode cX2_read 5 = .ok (.aload_n 0, 1) := by decide +kernel
theorem dX2_read_6 : decode cX2_read 6 = .ok (.iload_n 2, 1) := by decide +kernel
theorem dX2_read_7 : decode cX2_read 7 = .ok (.aload_n 1, 1) := by decide +kernel
theorem dX2_read_8 : decode cX2_read 8 = .ok (.arraylength, 1) := by decide +kernel
theorem dX2_read_9 : decode cX2_read 9 = .ok (.invokestatic 35, 3) := by decide +kernel
theorem dX2_read_12 : decode cX2_read 12 = .ok (.putfield 25, 3) := by decide +kernel
theorem dX2_read_15 : decode cX2_read 15 = .ok (.aload_n 0, 1) := by decide +kernel
theorem dX2_read_16 : decode cX2_read 16 = .ok (.iconst 0, 1) := by decide +kernel
theorem dX2_read_17 : decode cX2_read 17 = .ok (.putfield 29, 3) := by decide +kernel
theorem dX2_read_20 : decode cX2_read 20 = .ok (.aload_n 0, 1) := by decide +kernel
theorem dX2_read_21 : decode cX2_read 21 = .ok (.getfield 11, 3) := by decide +kernel
theorem dX2_read_24 : decode cX2_read 24 = .ok (.iconst 0, 1) := by decide +kernel
theorem dX2_read_25 : decode cX2_read 25 = .ok (.invokestatic 41, 3) := by decide +kernel
theorem dX2_read_28 : decode cX2_read 28 = .ok (.aload_n 0, 1) := by decide +kernel
theorem dX2_read_29 : decode cX2_read 29 = .ok (.getfield 18, 3) := by decide +kernel
theorem dX2_read_32 : decode cX2_read 32 = .ok (.iconst 0, 1) := by decide +kernel
theorem dX2_read_33 : decode cX2_read 33 = .ok (.invokestatic 41, 3) := by decide +kernel
theorem dX2_read_36 : decode cX2_read 36 = .ok (.aload_n 3, 1) := by decide +kernel
theorem dX2_read_37 : decode cX2_read 37 = .ok (.invokevirtual 47, 3) := by decide +kernel
theorem dX2_read_40 : decode cX2_read 40 = .ok (.aload_n 0, 1) := by decide +kernel
theorem dX2_read_41 : decode cX2_read 41 = .ok (.invokevirtual 52, 3) := by decide +kernel
theorem dX2_read_44 : decode cX2_read 44 = .ok (.iconst 0, 1) := by decide +kernel
theorem dX2_read_45 : decode cX2_read 45 = .ok (.istore 4, 2) := by decide +kernel
theorem dX2_read_47 : decode cX2_read 47 = .ok (.iload 4, 2) := by decide +kernel
theorem dX2_read_49 : decode cX2_read 49 = .ok (.sipush 400, 3) := by decide +kernel
theorem dX2_read_52 : decode cX2_read 52 = .ok (.if_icmp .ge 39, 3) := by decide +kernel
theorem dX2_read_55 : decode cX2_read 55 = .ok (.aload_n 0, 1) := by decide +kernel
theorem dX2_read_56 : decode cX2_read 56 = .ok (.getfield 29, 3) := by decide +kernel
theorem dX2_read_59 : decode cX2_read 59 = .ok (.aload_n 0, 1) := by decide +kernel
theorem dX2_read_60 : decode cX2_read 60 = .ok (.getfield 25, 3) := by decide +kernel
theorem dX2_read_63 : decode cX2_read 63 = .ok (.if_icmp .ge 28, 3) := by decide +kernel
theorem dX2_read_66 : decode cX2_read 66 = .ok (.aload_n 0, 1) := by decide +kernel
theorem dX2_read_67 : decode cX2_read 67 = .ok (.aload_n 3, 1) := by decide +kernel
theorem dX2_read_68 : decode cX2_read 68 = .ok (.invokevirtual 55, 3) := by decide +kernel
theorem dX2_read_71 : decode cX2_read 71 = .ok (.istore 5, 2) := by decide +kernel
theorem dX2_read_73 : decode cX2_read 73 = .ok (.iload 5, 2) := by decide +kernel
theorem dX2_read_75 : decode cX2_read 75 = .ok (.ifCond .eq 6, 3) := by decide +kernel
theorem dX2_read_78 : decode cX2_read 78 = .ok (.iload 5, 2) := by decide +kernel
theorem dX2_read_80 : decode cX2_read 80 = .ok (.ireturn, 1) := by decide +kernel
theorem dX2_read_81 : decode cX2_read 81 = .ok (.aload_n 0, 1) := by decide +kernel
theorem dX2_read_82 : decode cX2_read 82 = .ok (.invokevirtual 52, 3) := by decide +kernel
theorem dX2_read_85 : decode cX2_read 85 = .ok (.iinc 4 1, 3) := by decide +kernel
theorem dX2_read_88 : decode cX2_read 88 = .ok (.goto (-41), 3) := by decide +kernel
theorem dX2_read_91 : decode cX2_read 91 = .ok (.iconst 0, 1) := by decide +kernel
theorem dX2_read_92 : decode cX2_read 92 = .ok (.ireturn, 1) := by decide +kernel
theorem dX2_toNext_0 : decode cX2_toNext 0 = .ok (.aload_n 0, 1) := by decide +kernel
theorem dX2_toNext_1 : decode cX2_toNext 1 = .ok (.getfield 29, 3) := by decide +kernel
theorem dX2_toNext_4 : decode cX2_toNext 4 = .ok (.aload_n 0, 1) := by decide +kernel
theorem dX2_toNext_5 : decode cX2_toNext 5 = .ok (.getfield 25, 3) := by decide +kernel
theorem dX2_toNext_8 : decode cX2_toNext 8 = .ok (.if_icmp .ge 30, 3) := by decide +kernel
theorem dX2_toNext_11 : decode cX2_toNext 11 = .ok (.aload_n 0, 1) := by decide +kernel
theorem dX2_toNext_12 : decode cX2_toNext 12 = .ok (.getfield 21, 3) := by decide +kernel
theorem dX2_toNext_15 : decode cX2_toNext 15 = .ok (.aload_n 0, 1) := by decide +kernel
theorem dX2_toNext_16 : decode cX2_toNext 16 = .ok (.getfield 29, 3) := by decide +kernel
theorem dX2_toNext_19 : decode cX2_toNext 19 = .ok (.baload, 1) := by decide +kernel
theorem dX2_toNext_20 : decode cX2_toNext 20 = .ok (.bipush 32, 2) := by decide +kernel
theorem dX2_toNext_22 : decode cX2_toNext 22 = .ok (.if_icmp .ne 16, 3) := by decide +kernel
theorem dX2_toNext_25 : decode cX2_toNext 25 = .ok (.aload_n 0, 1) := by decide +kernel
theorem dX2_toNext_26 : decode cX2_toNext 26 = .ok (.dup, 1) := by decide +kernel
theorem dX2_toNext_27 : decode cX2_toNext 27 = .ok (.getfield 29, 3) := by decide +kernel
theorem dX2_toNext_30 : decode cX2_toNext 30 = .ok (.iconst 1, 1) := by decide +kernel
theorem dX2_toNext_31 : decode cX2_toNext 31 = .ok (.iadd, 1) := by decide +kernel
theorem dX2_toNext_32 : decode cX2_toNext 32 = .ok (.putfield 29, 3) := by decide +kernel
theorem dX2_toNext_35 : decode cX2_toNext 35 = .ok (.goto (-35), 3) := by decide +kernel
theorem dX2_toNext_38 : decode cX2_toNext 38 = .ok (.aload_n 0, 1) := by decide +kernel
theorem dX2_toNext_39 : decode cX2_toNext 39 = .ok (.aload_n 0, 1) := by decide +kernel
theorem dX2_toNext_40 : decode cX2_toNext 40 = .ok (.getfield 29, 3) := by decide +kernel
theorem dX2_toNext_43 : decode cX2_toNext 43 = .ok (.putfield 32, 3) := by decide +kernel
theorem dX2_toNext_46 : decode cX2_toNext 46 = .ok (.return_, 1) := by decide +kernel
theorem dX2_readClause_0 : decode cX2_readClause 0 = .ok (.aload_n 0, 1) := by decide +kernel
theorem dX2_readClause_1 : decode cX2_readClause 1 = .ok (.invokevirtual 59, 3) := by decide +kernel
theorem dX2_readClause_4 : decode cX2_readClause 4 = .ok (.istore_n 2, 1) := by decide +kernel
theorem dX2_readClause_5 : decode cX2_readClause 5 = .ok (.iload_n 2, 1) := by decide +kernel
theorem dX2_readClause_6 : decode cX2_readClause 6 = .ok (.iconst (-1), 1) := by decide +kernel
theorem dX2_readClause_7 : decode cX2_readClause 7 = .ok (.if_icmp .eq 11, 3) := by decide +kernel
theorem dX2_readClause_10 : decode cX2_readClause 10 = .ok (.aload_n 0, 1) := by decide +kernel
theorem dX2_readClause_11 : decode cX2_readClause 11 = .ok (.iload_n 2, 1) := by decide +kernel
theorem dX2_readClause_12 : decode cX2_readClause 12 = .ok (.invokevirtual 63, 3) := by decide +kernel
theorem dX2_readClause_15 : decode cX2_readClause 15 = .ok (.ifCond .eq 5, 3) := by decide +kernel
theorem dX2_readClause_18 : decode cX2_readClause 18 = .ok (.iconst 1, 1) := by decide +kernel
theorem dX2_readClause_19 : decode cX2_readClause 19 = .ok (.ireturn, 1) := by decide +kernel
theorem dX2_readClause_20 : decode cX2_readClause 20 = .ok (.aload_n 0, 1) := by decide +kernel
theorem dX2_readClause_21 : decode cX2_readClause 21 = .ok (.getfield 11, 3) := by decide +kernel
theorem dX2_readClause_24 : decode cX2_readClause 24 = .ok (.iload_n 2, 1) := by decide +kernel
theorem dX2_readClause_25 : decode cX2_readClause 25 = .ok (.iaload, 1) := by decide +kernel
theorem dX2_readClause_26 : decode cX2_readClause 26 = .ok (.getstatic 67, 3) := by decide +kernel
theorem dX2_readClause_29 : decode cX2_readClause 29 = .ok (.iload_n 2, 1) := by decide +kernel
theorem dX2_readClause_30 : decode cX2_readClause 30 = .ok (.iaload, 1) := by decide +kernel
theorem dX2_readClause_31 : decode cX2_readClause 31 = .ok (.if_icmp .lt 5, 3) := by decide +kernel
theorem dX2_readClause_34 : decode cX2_readClause 34 = .ok (.iconst 3, 1) := by decide +kernel
theorem dX2_readClause_35 : decode cX2_readClause 35 = .ok (.ireturn, 1) := by decide +kernel
theorem dX2_readClause_36 : decode cX2_readClause 36 = .ok (.aload_n 0, 1) := by decide +kernel
theorem dX2_readClause_37 : decode cX2_readClause 37 = .ok (.getfield 11, 3) := by decide +kernel
theorem dX2_readClause_40 : decode cX2_readClause 40 = .ok (.iload_n 2, 1) := by decide +kernel
theorem dX2_readClause_41 : decode cX2_readClause 41 = .ok (.dup2, 1) := by decide +kernel
theorem dX2_readClause_42 : decode cX2_readClause 42 = .ok (.iaload, 1) := by decide +kernel
theorem dX2_readClause_43 : decode cX2_readClause 43 = .ok (.iconst 1, 1) := by decide +kernel
theorem dX2_readClause_44 : decode cX2_readClause 44 = .ok (.iadd, 1) := by decide +kernel
theorem dX2_readClause_45 : decode cX2_readClause 45 = .ok (.iastore, 1) := by decide +kernel
theorem dX2_readClause_46 : decode cX2_readClause 46 = .ok (.iconst 0, 1) := by decide +kernel
theorem dX2_readClause_47 : decode cX2_readClause 47 = .ok (.istore_n 3, 1) := by decide +kernel
theorem dX2_readClause_48 : decode cX2_readClause 48 = .ok (.iload_n 3, 1) := by decide +kernel
theorem dX2_readClause_49 : decode cX2_readClause 49 = .ok (.getstatic 70, 3) := by decide +kernel
theorem dX2_readClause_52 : decode cX2_readClause 52 = .ok (.iload_n 2, 1) := by decide +kernel
theorem dX2_readClause_53 : decode cX2_readClause 53 = .ok (.iaload, 1) := by decide +kernel
theorem dX2_readClause_54 : decode cX2_readClause 54 = .ok (.if_icmp .ge 54, 3) := by decide +kernel
theorem dX2_readClause_57 : decode cX2_readClause 57 = .ok (.aload_n 0, 1) := by decide +kernel
theorem dX2_readClause_58 : decode cX2_readClause 58 = .ok (.invokevirtual 52, 3) := by decide +kernel
theorem dX2_readClause_61 : decode cX2_readClause 61 = .ok (.aload_n 0, 1) := by decide +kernel
theorem dX2_readClause_62 : decode cX2_readClause 62 = .ok (.invokevirtual 73, 3) := by decide +kernel
theorem dX2_readClause_65 : decode cX2_readClause 65 = .ok (.istore 4, 2) := by decide +kernel
theorem dX2_readClause_67 : decode cX2_readClause 67 = .ok (.iload 4, 2) := by decide +kernel
theorem dX2_readClause_69 : decode cX2_readClause 69 = .ok (.iconst (-1), 1) := by decide +kernel
theorem dX2_readClause_70 : decode cX2_readClause 70 = .ok (.if_icmp .ne 5, 3) := by decide +kernel
theorem dX2_readClause_73 : decode cX2_readClause 73 = .ok (.iconst 1, 1) := by decide +kernel
theorem dX2_readClause_74 : decode cX2_readClause 74 = .ok (.ireturn, 1) := by decide +kernel
theorem dX2_readClause_75 : decode cX2_readClause 75 = .ok (.aload_n 0, 1) := by decide +kernel
theorem dX2_readClause_76 : decode cX2_readClause 76 = .ok (.iload_n 2, 1) := by decide +kernel
theorem dX2_readClause_77 : decode cX2_readClause 77 = .ok (.iload_n 3, 1) := by decide +kernel
theorem dX2_readClause_78 : decode cX2_readClause 78 = .ok (.iload 4, 2) := by decide +kernel
theorem dX2_readClause_80 : decode cX2_readClause 80 = .ok (.aload_n 1, 1) := by decide +kernel
theorem dX2_readClause_81 : decode cX2_readClause 81 = .ok (.invokevirtual 76, 3) := by decide +kernel
theorem dX2_readClause_84 : decode cX2_readClause 84 = .ok (.istore 5, 2) := by decide +kernel
theorem dX2_readClause_86 : decode cX2_readClause 86 = .ok (.iload 5, 2) := by decide +kernel
theorem dX2_readClause_88 : decode cX2_readClause 88 = .ok (.ifCond .eq 6, 3) := by decide +kernel
theorem dX2_readClause_91 : decode cX2_readClause 91 = .ok (.iload 5, 2) := by decide +kernel
theorem dX2_readClause_93 : decode cX2_readClause 93 = .ok (.ireturn, 1) := by decide +kernel
theorem dX2_readClause_94 : decode cX2_readClause 94 = .ok (.aload_n 0, 1) := by decide +kernel
theorem dX2_readClause_95 : decode cX2_readClause 95 = .ok (.getfield 15, 3) := by decide +kernel
theorem dX2_readClause_98 : decode cX2_readClause 98 = .ok (.iload_n 3, 1) := by decide +kernel
theorem dX2_readClause_99 : decode cX2_readClause 99 = .ok (.iload 4, 2) := by decide +kernel
theorem dX2_readClause_101 : decode cX2_readClause 101 = .ok (.iastore, 1) := by decide +kernel
theorem dX2_readClause_102 : decode cX2_readClause 102 = .ok (.iinc 3 1, 3) := by decide +kernel
theorem dX2_readClause_105 : decode cX2_readClause 105 = .ok (.goto (-57), 3) := by decide +kernel
theorem dX2_readClause_108 : decode cX2_readClause 108 = .ok (.aload_n 0, 1) := by decide +kernel
theorem dX2_readClause_109 : decode cX2_readClause 109 = .ok (.invokevirtual 52, 3) := by decide +kernel
theorem dX2_readClause_112 : decode cX2_readClause 112 = .ok (.aload_n 0, 1) := by decide +kernel
theorem dX2_readClause_113 : decode cX2_readClause 113 = .ok (.getfield 29, 3) := by decide +kernel
theorem dX2_readClause_116 : decode cX2_readClause 116 = .ok (.aload_n 0, 1) := by decide +kernel
theorem dX2_readClause_117 : decode cX2_readClause 117 = .ok (.getfield 25, 3) := by decide +kernel
theorem dX2_readClause_120 : decode cX2_readClause 120 = .ok (.if_icmp .ge 17, 3) := by decide +kernel
theorem dX2_readClause_123 : decode cX2_readClause 123 = .ok (.aload_n 0, 1) := by decide +kernel
theorem dX2_readClause_124 : decode cX2_readClause 124 = .ok (.getfield 21, 3) := by decide +kernel
theorem dX2_readClause_127 : decode cX2_readClause 127 = .ok (.aload_n 0, 1) := by decide +kernel
theorem dX2_readClause_128 : decode cX2_readClause 128 = .ok (.getfield 29, 3) := by decide +kernel
theorem dX2_readClause_131 : decode cX2_readClause 131 = .ok (.baload, 1) := by decide +kernel
theorem dX2_readClause_132 : decode cX2_readClause 132 = .ok (.bipush 59, 2) := by decide +kernel
theorem dX2_readClause_134 : decode cX2_readClause 134 = .ok (.if_icmp .eq 5, 3) := by decide +kernel
theorem dX2_readClause_137 : decode cX2_readClause 137 = .ok (.iconst 1, 1) := by decide +kernel
theorem dX2_readClause_138 : decode cX2_readClause 138 = .ok (.ireturn, 1) := by decide +kernel
theorem dX2_readClause_139 : decode cX2_readClause 139 = .ok (.aload_n 0, 1) := by decide +kernel
theorem dX2_readClause_140 : decode cX2_readClause 140 = .ok (.dup, 1) := by decide +kernel
theorem dX2_readClause_141 : decode cX2_readClause 141 = .ok (.getfield 29, 3) := by decide +kernel
theorem dX2_readClause_144 : decode cX2_readClause 144 = .ok (.iconst 1, 1) := by decide +kernel
theorem dX2_readClause_145 : decode cX2_readClause 145 = .ok (.iadd, 1) := by decide +kernel
theorem dX2_readClause_146 : decode cX2_readClause 146 = .ok (.putfield 29, 3) := by decide +kernel
theorem dX2_readClause_149 : decode cX2_readClause 149 = .ok (.aload_n 0, 1) := by decide +kernel
theorem dX2_readClause_150 : decode cX2_readClause 150 = .ok (.iload_n 2, 1) := by decide +kernel
theorem dX2_readClause_151 : decode cX2_readClause 151 = .ok (.aload_n 1, 1) := by decide +kernel
theorem dX2_readClause_152 : decode cX2_readClause 152 = .ok (.invokevirtual 80, 3) := by decide +kernel
theorem dX2_readClause_155 : decode cX2_readClause 155 = .ok (.iconst 0, 1) := by decide +kernel
theorem dX2_readClause_156 : decode cX2_readClause 156 = .ok (.ireturn, 1) := by decide +kernel
theorem dX2_readWord_0 : decode cX2_readWord 0 = .ok (.aload_n 0, 1) := by decide +kernel
theorem dX2_readWord_1 : decode cX2_readWord 1 = .ok (.getfield 29, 3) := by decide +kernel
theorem dX2_readWord_4 : decode cX2_readWord 4 = .ok (.aload_n 0, 1) := by decide +kernel
theorem dX2_readWord_5 : decode cX2_readWord 5 = .ok (.getfield 25, 3) := by decide +kernel
theorem dX2_readWord_8 : decode cX2_readWord 8 = .ok (.if_icmp .ge 44, 3) := by decide +kernel
theorem dX2_readWord_11 : decode cX2_readWord 11 = .ok (.aload_n 0, 1) := by decide +kernel
theorem dX2_readWord_12 : decode cX2_readWord 12 = .ok (.getfield 21, 3) := by decide +kernel
theorem dX2_readWord_15 : decode cX2_readWord 15 = .ok (.aload_n 0, 1) := by decide +kernel
theorem dX2_readWord_16 : decode cX2_readWord 16 = .ok (.getfield 29, 3) := by decide +kernel
theorem dX2_readWord_19 : decode cX2_readWord 19 = .ok (.baload, 1) := by decide +kernel
theorem dX2_readWord_20 : decode cX2_readWord 20 = .ok (.bipush 97, 2) := by decide +kernel
theorem dX2_readWord_22 : decode cX2_readWord 22 = .ok (.if_icmp .lt 30, 3) := by decide +kernel
theorem dX2_readWord_25 : decode cX2_readWord 25 = .ok (.aload_n 0, 1) := by decide +kernel
theorem dX2_readWord_26 : decode cX2_readWord 26 = .ok (.getfield 21, 3) := by decide +kernel
theorem dX2_readWord_29 : decode cX2_readWord 29 = .ok (.aload_n 0, 1) := by decide +kernel
theorem dX2_readWord_30 : decode cX2_readWord 30 = .ok (.getfield 29, 3) := by decide +kernel
theorem dX2_readWord_33 : decode cX2_readWord 33 = .ok (.baload, 1) := by decide +kernel
theorem dX2_readWord_34 : decode cX2_readWord 34 = .ok (.bipush 122, 2) := by decide +kernel
theorem dX2_readWord_36 : decode cX2_readWord 36 = .ok (.if_icmp .gt 16, 3) := by decide +kernel
theorem dX2_readWord_39 : decode cX2_readWord 39 = .ok (.aload_n 0, 1) := by decide +kernel
theorem dX2_readWord_40 : decode cX2_readWord 40 = .ok (.dup, 1) := by decide +kernel
theorem dX2_readWord_41 : decode cX2_readWord 41 = .ok (.getfield 29, 3) := by decide +kernel
theorem dX2_readWord_44 : decode cX2_readWord 44 = .ok (.iconst 1, 1) := by decide +kernel
theorem dX2_readWord_45 : decode cX2_readWord 45 = .ok (.iadd, 1) := by decide +kernel
theorem dX2_readWord_46 : decode cX2_readWord 46 = .ok (.putfield 29, 3) := by decide +kernel
theorem dX2_readWord_49 : decode cX2_readWord 49 = .ok (.goto (-49), 3) := by decide +kernel
theorem dX2_readWord_52 : decode cX2_readWord 52 = .ok (.iconst 0, 1) := by decide +kernel
theorem dX2_readWord_53 : decode cX2_readWord 53 = .ok (.istore_n 1, 1) := by decide +kernel
theorem dX2_readWord_54 : decode cX2_readWord 54 = .ok (.iload_n 1, 1) := by decide +kernel
theorem dX2_readWord_55 : decode cX2_readWord 55 = .ok (.bipush 7, 2) := by decide +kernel
theorem dX2_readWord_57 : decode cX2_readWord 57 = .ok (.if_icmp .ge 22, 3) := by decide +kernel
theorem dX2_readWord_60 : decode cX2_readWord 60 = .ok (.aload_n 0, 1) := by decide +kernel
theorem dX2_readWord_61 : decode cX2_readWord 61 = .ok (.iload_n 1, 1) := by decide +kernel
theorem dX2_readWord_62 : decode cX2_readWord 62 = .ok (.invokestatic 84, 3) := by decide +kernel
theorem dX2_readWord_65 : decode cX2_readWord 65 = .ok (.invokevirtual 88, 3) := by decide +kernel
theorem dX2_readWord_68 : decode cX2_readWord 68 = .ok (.ifCond .eq 5, 3) := by decide +kernel
theorem dX2_readWord_71 : decode cX2_readWord 71 = .ok (.iload_n 1, 1) := by decide +kernel
theorem dX2_readWord_72 : decode cX2_readWord 72 = .ok (.ireturn, 1) := by decide +kernel
theorem dX2_readWord_73 : decode cX2_readWord 73 = .ok (.iinc 1 1, 3) := by decide +kernel
theorem dX2_readWord_76 : decode cX2_readWord 76 = .ok (.goto (-22), 3) := by decide +kernel
theorem dX2_readWord_79 : decode cX2_readWord 79 = .ok (.iconst (-1), 1) := by decide +kernel
theorem dX2_readWord_80 : decode cX2_readWord 80 = .ok (.ireturn, 1) := by decide +kernel
theorem dX2_nameOf_0 : decode cX2_nameOf 0 = .ok (.iload_n 0, 1) := by decide +kernel
theorem dX2_nameOf_1 : decode cX2_nameOf 1 = .ok (.tableswitch 57 0 5 #[39, 42, 45, 48, 51, 54], 39) := by decide +kernel
theorem dX2_nameOf_40 : decode cX2_nameOf 40 = .ok (.ldc 92, 2) := by decide +kernel
theorem dX2_nameOf_42 : decode cX2_nameOf 42 = .ok (.areturn, 1) := by decide +kernel
theorem dX2_nameOf_43 : decode cX2_nameOf 43 = .ok (.ldc 94, 2) := by decide +kernel
theorem dX2_nameOf_45 : decode cX2_nameOf 45 = .ok (.areturn, 1) := by decide +kernel
theorem dX2_nameOf_46 : decode cX2_nameOf 46 = .ok (.ldc 96, 2) := by decide +kernel
theorem dX2_nameOf_48 : decode cX2_nameOf 48 = .ok (.areturn, 1) := by decide +kernel
theorem dX2_nameOf_49 : decode cX2_nameOf 49 = .ok (.ldc 98, 2) := by decide +kernel
theorem dX2_nameOf_51 : decode cX2_nameOf 51 = .ok (.areturn, 1) := by decide +kernel
theorem dX2_nameOf_52 : decode cX2_nameOf 52 = .ok (.ldc 100, 2) := by decide +kernel
theorem dX2_nameOf_54 : decode cX2_nameOf 54 = .ok (.areturn, 1) := by decide +kernel
theorem dX2_nameOf_55 : decode cX2_nameOf 55 = .ok (.ldc 102, 2) := by decide +kernel
theorem dX2_nameOf_57 : decode cX2_nameOf 57 = .ok (.areturn, 1) := by decide +kernel
theorem dX2_nameOf_58 : decode cX2_nameOf 58 = .ok (.ldc 104, 2) := by decide +kernel
theorem dX2_nameOf_60 : decode cX2_nameOf 60 = .ok (.areturn, 1) := by decide +kernel
theorem dX2_isSpelt_0 : decode cX2_isSpelt 0 = .ok (.aload_n 0, 1) := by decide +kernel
theorem dX2_isSpelt_1 : decode cX2_isSpelt 1 = .ok (.getfield 29, 3) := by decide +kernel
theorem dX2_isSpelt_4 : decode cX2_isSpelt 4 = .ok (.aload_n 0, 1) := by decide +kernel
theorem dX2_isSpelt_5 : decode cX2_isSpelt 5 = .ok (.getfield 32, 3) := by decide +kernel
theorem dX2_isSpelt_8 : decode cX2_isSpelt 8 = .ok (.isub, 1) := by decide +kernel
theorem dX2_isSpelt_9 : decode cX2_isSpelt 9 = .ok (.aload_n 1, 1) := by decide +kernel
theorem dX2_isSpelt_10 : decode cX2_isSpelt 10 = .ok (.invokevirtual 106, 3) := by decide +kernel
theorem dX2_isSpelt_13 : decode cX2_isSpelt 13 = .ok (.if_icmp .eq 5, 3) := by decide +kernel
theorem dX2_isSpelt_16 : decode cX2_isSpelt 16 = .ok (.iconst 0, 1) := by decide +kernel
theorem dX2_isSpelt_17 : decode cX2_isSpelt 17 = .ok (.ireturn, 1) := by decide +kernel
theorem dX2_isSpelt_18 : decode cX2_isSpelt 18 = .ok (.iconst 0, 1) := by decide +kernel
theorem dX2_isSpelt_19 : decode cX2_isSpelt 19 = .ok (.istore_n 2, 1) := by decide +kernel
theorem dX2_isSpelt_20 : decode cX2_isSpelt 20 = .ok (.iload_n 2, 1) := by decide +kernel
theorem dX2_isSpelt_21 : decode cX2_isSpelt 21 = .ok (.aload_n 1, 1) := by decide +kernel
theorem dX2_isSpelt_22 : decode cX2_isSpelt 22 = .ok (.invokevirtual 106, 3) := by decide +kernel
theorem dX2_isSpelt_25 : decode cX2_isSpelt 25 = .ok (.if_icmp .ge 30, 3) := by decide +kernel
theorem dX2_isSpelt_28 : decode cX2_isSpelt 28 = .ok (.aload_n 0, 1) := by decide +kernel
theorem dX2_isSpelt_29 : decode cX2_isSpelt 29 = .ok (.getfield 21, 3) := by decide +kernel
theorem dX2_isSpelt_32 : decode cX2_isSpelt 32 = .ok (.aload_n 0, 1) := by decide +kernel
theorem dX2_isSpelt_33 : decode cX2_isSpelt 33 = .ok (.getfield 32, 3) := by decide +kernel
theorem dX2_isSpelt_36 : decode cX2_isSpelt 36 = .ok (.iload_n 2, 1) := by decide +kernel
theorem dX2_isSpelt_37 : decode cX2_isSpelt 37 = .ok (.iadd, 1) := by decide +kernel
theorem dX2_isSpelt_38 : decode cX2_isSpelt 38 = .ok (.baload, 1) := by decide +kernel
theorem dX2_isSpelt_39 : decode cX2_isSpelt 39 = .ok (.aload_n 1, 1) := by decide +kernel
theorem dX2_isSpelt_40 : decode cX2_isSpelt 40 = .ok (.iload_n 2, 1) := by decide +kernel
theorem dX2_isSpelt_41 : decode cX2_isSpelt 41 = .ok (.invokevirtual 110, 3) := by decide +kernel
theorem dX2_isSpelt_44 : decode cX2_isSpelt 44 = .ok (.if_icmp .eq 5, 3) := by decide +kernel
theorem dX2_isSpelt_47 : decode cX2_isSpelt 47 = .ok (.iconst 0, 1) := by decide +kernel
theorem dX2_isSpelt_48 : decode cX2_isSpelt 48 = .ok (.ireturn, 1) := by decide +kernel
theorem dX2_isSpelt_49 : decode cX2_isSpelt 49 = .ok (.iinc 2 1, 3) := by decide +kernel
theorem dX2_isSpelt_52 : decode cX2_isSpelt 52 = .ok (.goto (-32), 3) := by decide +kernel
theorem dX2_isSpelt_55 : decode cX2_isSpelt 55 = .ok (.iconst 1, 1) := by decide +kernel
theorem dX2_isSpelt_56 : decode cX2_isSpelt 56 = .ok (.ireturn, 1) := by decide +kernel
theorem dX2_comesTooLate_0 : decode cX2_comesTooLate 0 = .ok (.aload_n 0, 1) := by decide +kernel
theorem dX2_comesTooLate_1 : decode cX2_comesTooLate 1 = .ok (.getfield 11, 3) := by decide +kernel
theorem dX2_comesTooLate_4 : decode cX2_comesTooLate 4 = .ok (.iconst 3, 1) := by decide +kernel
theorem dX2_comesTooLate_5 : decode cX2_comesTooLate 5 = .ok (.iaload, 1) := by decide +kernel
theorem dX2_comesTooLate_6 : decode cX2_comesTooLate 6 = .ok (.aload_n 0, 1) := by decide +kernel
theorem dX2_comesTooLate_7 : decode cX2_comesTooLate 7 = .ok (.getfield 11, 3) := by decide +kernel
theorem dX2_comesTooLate_10 : decode cX2_comesTooLate 10 = .ok (.iconst 4, 1) := by decide +kernel
theorem dX2_comesTooLate_11 : decode cX2_comesTooLate 11 = .ok (.iaload, 1) := by decide +kernel
theorem dX2_comesTooLate_12 : decode cX2_comesTooLate 12 = .ok (.iadd, 1) := by decide +kernel
theorem dX2_comesTooLate_13 : decode cX2_comesTooLate 13 = .ok (.ifCond .le 7, 3) := by decide +kernel
theorem dX2_comesTooLate_16 : decode cX2_comesTooLate 16 = .ok (.iconst 1, 1) := by decide +kernel
theorem dX2_comesTooLate_17 : decode cX2_comesTooLate 17 = .ok (.goto 4, 3) := by decide +kernel
theorem dX2_comesTooLate_20 : decode cX2_comesTooLate 20 = .ok (.iconst 0, 1) := by decide +kernel
theorem dX2_comesTooLate_21 : decode cX2_comesTooLate 21 = .ok (.istore_n 2, 1) := by decide +kernel
theorem dX2_comesTooLate_22 : decode cX2_comesTooLate 22 = .ok (.iload_n 1, 1) := by decide +kernel
theorem dX2_comesTooLate_23 : decode cX2_comesTooLate 23 = .ok (.ifCond .ne 22, 3) := by decide +kernel
theorem dX2_comesTooLate_26 : decode cX2_comesTooLate 26 = .ok (.iload_n 2, 1) := by decide +kernel
theorem dX2_comesTooLate_27 : decode cX2_comesTooLate 27 = .ok (.ifCond .ne 12, 3) := by decide +kernel
theorem dX2_comesTooLate_30 : decode cX2_comesTooLate 30 = .ok (.aload_n 0, 1) := by decide +kernel
theorem dX2_comesTooLate_31 : decode cX2_comesTooLate 31 = .ok (.getfield 11, 3) := by decide +kernel
theorem dX2_comesTooLate_34 : decode cX2_comesTooLate 34 = .ok (.iconst 1, 1) := by decide +kernel
theorem dX2_comesTooLate_35 : decode cX2_comesTooLate 35 = .ok (.iaload, 1) := by decide +kernel
theorem dX2_comesTooLate_36 : decode cX2_comesTooLate 36 = .ok (.ifCond .le 7, 3) := by decide +kernel
theorem dX2_comesTooLate_39 : decode cX2_comesTooLate 39 = .ok (.iconst 1, 1) := by decide +kernel
theorem dX2_comesTooLate_40 : decode cX2_comesTooLate 40 = .ok (.goto 4, 3) := by decide +kernel
theorem dX2_comesTooLate_43 : decode cX2_comesTooLate 43 = .ok (.iconst 0, 1) := by decide +kernel
theorem dX2_comesTooLate_44 : decode cX2_comesTooLate 44 = .ok (.ireturn, 1) := by decide +kernel
theorem dX2_comesTooLate_45 : decode cX2_comesTooLate 45 = .ok (.iload_n 1, 1) := by decide +kernel
theorem dX2_comesTooLate_46 : decode cX2_comesTooLate 46 = .ok (.iconst 2, 1) := by decide +kernel
theorem dX2_comesTooLate_47 : decode cX2_comesTooLate 47 = .ok (.if_icmp .ne 11, 3) := by decide +kernel
theorem dX2_comesTooLate_50 : decode cX2_comesTooLate 50 = .ok (.iload_n 2, 1) := by decide +kernel
theorem dX2_comesTooLate_51 : decode cX2_comesTooLate 51 = .ok (.ifCond .eq 7, 3) := by decide +kernel
theorem dX2_comesTooLate_54 : decode cX2_comesTooLate 54 = .ok (.iconst 1, 1) := by decide +kernel
theorem dX2_comesTooLate_55 : decode cX2_comesTooLate 55 = .ok (.goto 4, 3) := by decide +kernel
theorem dX2_comesTooLate_58 : decode cX2_comesTooLate 58 = .ok (.iconst 0, 1) := by decide +kernel
theorem dX2_comesTooLate_59 : decode cX2_comesTooLate 59 = .ok (.ireturn, 1) := by decide +kernel
theorem dX2_readNumber_0 : decode cX2_readNumber 0 = .ok (.iconst 0, 1) := by decide +kernel
theorem dX2_readNumber_1 : decode cX2_readNumber 1 = .ok (.istore_n 1, 1) := by decide +kernel
theorem dX2_readNumber_2 : decode cX2_readNumber 2 = .ok (.aload_n 0, 1) := by decide +kernel
theorem dX2_readNumber_3 : decode cX2_readNumber 3 = .ok (.getfield 29, 3) := by decide +kernel
theorem dX2_readNumber_6 : decode cX2_readNumber 6 = .ok (.aload_n 0, 1) := by decide +kernel
theorem dX2_readNumber_7 : decode cX2_readNumber 7 = .ok (.getfield 25, 3) := by decide +kernel
theorem dX2_readNumber_10 : decode cX2_readNumber 10 = .ok (.if_icmp .ge 75, 3) := by decide +kernel
theorem dX2_readNumber_13 : decode cX2_readNumber 13 = .ok (.aload_n 0, 1) := by decide +kernel
theorem dX2_readNumber_14 : decode cX2_readNumber 14 = .ok (.getfield 21, 3) := by decide +kernel
theorem dX2_readNumber_17 : decode cX2_readNumber 17 = .ok (.aload_n 0, 1) := by decide +kernel
theorem dX2_readNumber_18 : decode cX2_readNumber 18 = .ok (.getfield 29, 3) := by decide +kernel
theorem dX2_readNumber_21 : decode cX2_readNumber 21 = .ok (.baload, 1) := by decide +kernel
theorem dX2_readNumber_22 : decode cX2_readNumber 22 = .ok (.bipush 48, 2) := by decide +kernel
theorem dX2_readNumber_24 : decode cX2_readNumber 24 = .ok (.if_icmp .lt 61, 3) := by decide +kernel
theorem dX2_readNumber_27 : decode cX2_readNumber 27 = .ok (.aload_n 0, 1) := by decide +kernel
theorem dX2_readNumber_28 : decode cX2_readNumber 28 = .ok (.getfield 21, 3) := by decide +kernel
theorem dX2_readNumber_31 : decode cX2_readNumber 31 = .ok (.aload_n 0, 1) := by decide +kernel
theorem dX2_readNumber_32 : decode cX2_readNumber 32 = .ok (.getfield 29, 3) := by decide +kernel
theorem dX2_readNumber_35 : decode cX2_readNumber 35 = .ok (.baload, 1) := by decide +kernel
theorem dX2_readNumber_36 : decode cX2_readNumber 36 = .ok (.bipush 57, 2) := by decide +kernel
theorem dX2_readNumber_38 : decode cX2_readNumber 38 = .ok (.if_icmp .gt 47, 3) := by decide +kernel
theorem dX2_readNumber_41 : decode cX2_readNumber 41 = .ok (.aload_n 0, 1) := by decide +kernel
theorem dX2_readNumber_42 : decode cX2_readNumber 42 = .ok (.getfield 29, 3) := by decide +kernel
theorem dX2_readNumber_45 : decode cX2_readNumber 45 = .ok (.aload_n 0, 1) := by decide +kernel
theorem dX2_readNumber_46 : decode cX2_readNumber 46 = .ok (.getfield 32, 3) := by decide +kernel
theorem dX2_readNumber_49 : decode cX2_readNumber 49 = .ok (.isub, 1) := by decide +kernel
theorem dX2_readNumber_50 : decode cX2_readNumber 50 = .ok (.iconst 4, 1) := by decide +kernel
theorem dX2_readNumber_51 : decode cX2_readNumber 51 = .ok (.if_icmp .ge 21, 3) := by decide +kernel
theorem dX2_readNumber_54 : decode cX2_readNumber 54 = .ok (.iload_n 1, 1) := by decide +kernel
theorem dX2_readNumber_55 : decode cX2_readNumber 55 = .ok (.bipush 10, 2) := by decide +kernel
theorem dX2_readNumber_57 : decode cX2_readNumber 57 = .ok (.imul, 1) := by decide +kernel
theorem dX2_readNumber_58 : decode cX2_readNumber 58 = .ok (.aload_n 0, 1) := by decide +kernel
theorem dX2_readNumber_59 : decode cX2_readNumber 59 = .ok (.getfield 21, 3) := by decide +kernel
theorem dX2_readNumber_62 : decode cX2_readNumber 62 = .ok (.aload_n 0, 1) := by decide +kernel
theorem dX2_readNumber_63 : decode cX2_readNumber 63 = .ok (.getfield 29, 3) := by decide +kernel
theorem dX2_readNumber_66 : decode cX2_readNumber 66 = .ok (.baload, 1) := by decide +kernel
theorem dX2_readNumber_67 : decode cX2_readNumber 67 = .ok (.bipush 48, 2) := by decide +kernel
theorem dX2_readNumber_69 : decode cX2_readNumber 69 = .ok (.isub, 1) := by decide +kernel
theorem dX2_readNumber_70 : decode cX2_readNumber 70 = .ok (.iadd, 1) := by decide +kernel
theorem dX2_readNumber_71 : decode cX2_readNumber 71 = .ok (.istore_n 1, 1) := by decide +kernel
theorem dX2_readNumber_72 : decode cX2_readNumber 72 = .ok (.aload_n 0, 1) := by decide +kernel
theorem dX2_readNumber_73 : decode cX2_readNumber 73 = .ok (.dup, 1) := by decide +kernel
theorem dX2_readNumber_74 : decode cX2_readNumber 74 = .ok (.getfield 29, 3) := by decide +kernel
theorem dX2_readNumber_77 : decode cX2_readNumber 77 = .ok (.iconst 1, 1) := by decide +kernel
theorem dX2_readNumber_78 : decode cX2_readNumber 78 = .ok (.iadd, 1) := by decide +kernel
theorem dX2_readNumber_79 : decode cX2_readNumber 79 = .ok (.putfield 29, 3) := by decide +kernel
theorem dX2_readNumber_82 : decode cX2_readNumber 82 = .ok (.goto (-80), 3) := by decide +kernel
theorem dX2_readNumber_85 : decode cX2_readNumber 85 = .ok (.aload_n 0, 1) := by decide +kernel
theorem dX2_readNumber_86 : decode cX2_readNumber 86 = .ok (.getfield 29, 3) := by decide +kernel
theorem dX2_readNumber_89 : decode cX2_readNumber 89 = .ok (.aload_n 0, 1) := by decide +kernel
theorem dX2_readNumber_90 : decode cX2_readNumber 90 = .ok (.getfield 32, 3) := by decide +kernel
theorem dX2_readNumber_93 : decode cX2_readNumber 93 = .ok (.if_icmp .ne 5, 3) := by decide +kernel
theorem dX2_readNumber_96 : decode cX2_readNumber 96 = .ok (.iconst (-1), 1) := by decide +kernel
theorem dX2_readNumber_97 : decode cX2_readNumber 97 = .ok (.ireturn, 1) := by decide +kernel
theorem dX2_readNumber_98 : decode cX2_readNumber 98 = .ok (.aload_n 0, 1) := by decide +kernel
theorem dX2_readNumber_99 : decode cX2_readNumber 99 = .ok (.getfield 29, 3) := by decide +kernel
theorem dX2_readNumber_102 : decode cX2_readNumber 102 = .ok (.aload_n 0, 1) := by decide +kernel
theorem dX2_readNumber_103 : decode cX2_readNumber 103 = .ok (.getfield 32, 3) := by decide +kernel
theorem dX2_readNumber_106 : decode cX2_readNumber 106 = .ok (.isub, 1) := by decide +kernel
theorem dX2_readNumber_107 : decode cX2_readNumber 107 = .ok (.iconst 4, 1) := by decide +kernel
theorem dX2_readNumber_108 : decode cX2_readNumber 108 = .ok (.if_icmp .le 9, 3) := by decide +kernel
theorem dX2_readNumber_111 : decode cX2_readNumber 111 = .ok (.sipush 10000, 3) := by decide +kernel
theorem dX2_readNumber_114 : decode cX2_readNumber 114 = .ok (.goto 4, 3) := by decide +kernel
theorem dX2_readNumber_117 : decode cX2_readNumber 117 = .ok (.iload_n 1, 1) := by decide +kernel
theorem dX2_readNumber_118 : decode cX2_readNumber 118 = .ok (.ireturn, 1) := by decide +kernel
theorem dX2_numberFault_0 : decode cX2_numberFault 0 = .ok (.iload_n 1, 1) := by decide +kernel
theorem dX2_numberFault_1 : decode cX2_numberFault 1 = .ok (.tableswitch 85 0 6 #[43, 50, 62, 85, 85, 69, 77], 43) := by decide +kernel
theorem dX2_numberFault_44 : decode cX2_numberFault 44 = .ok (.iload_n 3, 1) := by decide +kernel
theorem dX2_numberFault_45 : decode cX2_numberFault 45 = .ok (.bipush 99, 2) := by decide +kernel
theorem dX2_numberFault_47 : decode cX2_numberFault 47 = .ok (.invokestatic 114, 3) := by decide +kernel
theorem dX2_numberFault_50 : decode cX2_numberFault 50 = .ok (.ireturn, 1) := by decide +kernel
theorem dX2_numberFault_51 : decode cX2_numberFault 51 = .ok (.iload_n 3, 1) := by decide +kernel
theorem dX2_numberFault_52 : decode cX2_numberFault 52 = .ok (.aload 4, 2) := by decide +kernel
theorem dX2_numberFault_54 : decode cX2_numberFault 54 = .ok (.getfield 117, 3) := by decide +kernel
theorem dX2_numberFault_57 : decode cX2_numberFault 57 = .ok (.iconst 1, 1) := by decide +kernel
theorem dX2_numberFault_58 : decode cX2_numberFault 58 = .ok (.isub, 1) := by decide +kernel
theorem dX2_numberFault_59 : decode cX2_numberFault 59 = .ok (.invokestatic 114, 3) := by decide +kernel
theorem dX2_numberFault_62 : decode cX2_numberFault 62 = .ok (.ireturn, 1) := by decide +kernel
theorem dX2_numberFault_63 : decode cX2_numberFault 63 = .ok (.iload_n 3, 1) := by decide +kernel
theorem dX2_numberFault_64 : decode cX2_numberFault 64 = .ok (.bipush 9, 2) := by decide +kernel
theorem dX2_numberFault_66 : decode cX2_numberFault 66 = .ok (.invokestatic 114, 3) := by decide +kernel
theorem dX2_numberFault_69 : decode cX2_numberFault 69 = .ok (.ireturn, 1) := by decide +kernel
theorem dX2_numberFault_70 : decode cX2_numberFault 70 = .ok (.iload_n 3, 1) := by decide +kernel
theorem dX2_numberFault_71 : decode cX2_numberFault 71 = .ok (.sipush 999, 3) := by decide +kernel
theorem dX2_numberFault_74 : decode cX2_numberFault 74 = .ok (.invokestatic 114, 3) := by decide +kernel
theorem dX2_numberFault_77 : decode cX2_numberFault 77 = .ok (.ireturn, 1) := by decide +kernel
theorem dX2_numberFault_78 : decode cX2_numberFault 78 = .ok (.iload_n 3, 1) := by decide +kernel
theorem dX2_numberFault_79 : decode cX2_numberFault 79 = .ok (.sipush 9999, 3) := by decide +kernel
theorem dX2_numberFault_82 : decode cX2_numberFault 82 = .ok (.invokestatic 114, 3) := by decide +kernel
theorem dX2_numberFault_85 : decode cX2_numberFault 85 = .ok (.ireturn, 1) := by decide +kernel
theorem dX2_numberFault_86 : decode cX2_numberFault 86 = .ok (.iload_n 2, 1) := by decide +kernel
theorem dX2_numberFault_87 : decode cX2_numberFault 87 = .ok (.lookupswitch 41 #[(0, 25), (1, 33)], 25) := by decide +kernel
theorem dX2_numberFault_112 : decode cX2_numberFault 112 = .ok (.iload_n 1, 1) := by decide +kernel
theorem dX2_numberFault_113 : decode cX2_numberFault 113 = .ok (.iload_n 3, 1) := by decide +kernel
theorem dX2_numberFault_114 : decode cX2_numberFault 114 = .ok (.aload 4, 2) := by decide +kernel
theorem dX2_numberFault_116 : decode cX2_numberFault 116 = .ok (.invokestatic 120, 3) := by decide +kernel
theorem dX2_numberFault_119 : decode cX2_numberFault 119 = .ok (.ireturn, 1) := by decide +kernel
theorem dX2_numberFault_120 : decode cX2_numberFault 120 = .ok (.aload_n 0, 1) := by decide +kernel
theorem dX2_numberFault_121 : decode cX2_numberFault 121 = .ok (.iload_n 3, 1) := by decide +kernel
theorem dX2_numberFault_122 : decode cX2_numberFault 122 = .ok (.aload 4, 2) := by decide +kernel
theorem dX2_numberFault_124 : decode cX2_numberFault 124 = .ok (.invokevirtual 124, 3) := by decide +kernel
theorem dX2_numberFault_127 : decode cX2_numberFault 127 = .ok (.ireturn, 1) := by decide +kernel
theorem dX2_numberFault_128 : decode cX2_numberFault 128 = .ok (.iload_n 1, 1) := by decide +kernel
theorem dX2_numberFault_129 : decode cX2_numberFault 129 = .ok (.iconst 4, 1) := by decide +kernel
theorem dX2_numberFault_130 : decode cX2_numberFault 130 = .ok (.if_icmp .ne 19, 3) := by decide +kernel
theorem dX2_numberFault_133 : decode cX2_numberFault 133 = .ok (.iload_n 3, 1) := by decide +kernel
theorem dX2_numberFault_134 : decode cX2_numberFault 134 = .ok (.bipush 9, 2) := by decide +kernel
theorem dX2_numberFault_136 : decode cX2_numberFault 136 = .ok (.isub, 1) := by decide +kernel
theorem dX2_numberFault_137 : decode cX2_numberFault 137 = .ok (.invokestatic 128, 3) := by decide +kernel
theorem dX2_numberFault_140 : decode cX2_numberFault 140 = .ok (.aload 4, 2) := by decide +kernel
theorem dX2_numberFault_142 : decode cX2_numberFault 142 = .ok (.getfield 132, 3) := by decide +kernel
theorem dX2_numberFault_145 : decode cX2_numberFault 145 = .ok (.invokestatic 114, 3) := by decide +kernel
theorem dX2_numberFault_148 : decode cX2_numberFault 148 = .ok (.ireturn, 1) := by decide +kernel
theorem dX2_numberFault_149 : decode cX2_numberFault 149 = .ok (.iload_n 2, 1) := by decide +kernel
theorem dX2_numberFault_150 : decode cX2_numberFault 150 = .ok (.iconst 2, 1) := by decide +kernel
theorem dX2_numberFault_151 : decode cX2_numberFault 151 = .ok (.if_icmp .ne 12, 3) := by decide +kernel
theorem dX2_numberFault_154 : decode cX2_numberFault 154 = .ok (.iload_n 3, 1) := by decide +kernel
theorem dX2_numberFault_155 : decode cX2_numberFault 155 = .ok (.bipush 99, 2) := by decide +kernel
theorem dX2_numberFault_157 : decode cX2_numberFault 157 = .ok (.invokestatic 114, 3) := by decide +kernel
theorem dX2_numberFault_160 : decode cX2_numberFault 160 = .ok (.goto 10, 3) := by decide +kernel
theorem dX2_numberFault_163 : decode cX2_numberFault 163 = .ok (.aload_n 0, 1) := by decide +kernel
theorem dX2_numberFault_164 : decode cX2_numberFault 164 = .ok (.iload_n 3, 1) := by decide +kernel
theorem dX2_numberFault_165 : decode cX2_numberFault 165 = .ok (.aload 4, 2) := by decide +kernel
theorem dX2_numberFault_167 : decode cX2_numberFault 167 = .ok (.invokevirtual 134, 3) := by decide +kernel
theorem dX2_numberFault_170 : decode cX2_numberFault 170 = .ok (.ireturn, 1) := by decide +kernel
theorem dX2_above_0 : decode cX2_above 0 = .ok (.iload_n 0, 1) := by decide +kernel
theorem dX2_above_1 : decode cX2_above 1 = .ok (.iload_n 1, 1) := by decide +kernel
theorem dX2_above_2 : decode cX2_above 2 = .ok (.if_icmp .le 7, 3) := by decide +kernel
theorem dX2_above_5 : decode cX2_above 5 = .ok (.iconst 2, 1) := by decide +kernel
theorem dX2_above_6 : decode cX2_above 6 = .ok (.goto 4, 3) := by decide +kernel
theorem dX2_above_9 : decode cX2_above 9 = .ok (.iconst 0, 1) := by decide +kernel
theorem dX2_above_10 : decode cX2_above 10 = .ok (.ireturn, 1) := by decide +kernel
theorem dX2_mapFault_0 : decode cX2_mapFault 0 = .ok (.iload_n 1, 1) := by decide +kernel
theorem dX2_mapFault_1 : decode cX2_mapFault 1 = .ok (.bipush 6, 2) := by decide +kernel
theorem dX2_mapFault_3 : decode cX2_mapFault 3 = .ok (.if_icmp .lt 5, 3) := by decide +kernel
theorem dX2_mapFault_6 : decode cX2_mapFault 6 = .ok (.iconst 2, 1) := by decide +kernel
theorem dX2_mapFault_7 : decode cX2_mapFault 7 = .ok (.ireturn, 1) := by decide +kernel
theorem dX2_mapFault_8 : decode cX2_mapFault 8 = .ok (.iload_n 0, 1) := by decide +kernel
theorem dX2_mapFault_9 : decode cX2_mapFault 9 = .ok (.iconst 3, 1) := by decide +kernel
theorem dX2_mapFault_10 : decode cX2_mapFault 10 = .ok (.if_icmp .ne 18, 3) := by decide +kernel
theorem dX2_mapFault_13 : decode cX2_mapFault 13 = .ok (.aload_n 2, 1) := by decide +kernel
theorem dX2_mapFault_14 : decode cX2_mapFault 14 = .ok (.getfield 137, 3) := by decide +kernel
theorem dX2_mapFault_17 : decode cX2_mapFault 17 = .ok (.iload_n 1, 1) := by decide +kernel
theorem dX2_mapFault_18 : decode cX2_mapFault 18 = .ok (.invokestatic 140, 3) := by decide +kernel
theorem dX2_mapFault_21 : decode cX2_mapFault 21 = .ok (.ifCond .eq 7, 3) := by decide +kernel
theorem dX2_mapFault_24 : decode cX2_mapFault 24 = .ok (.iconst 4, 1) := by decide +kernel
theorem dX2_mapFault_25 : decode cX2_mapFault 25 = .ok (.goto 4, 3) := by decide +kernel
theorem dX2_mapFault_28 : decode cX2_mapFault 28 = .ok (.iconst 0, 1) := by decide +kernel
theorem dX2_mapFault_29 : decode cX2_mapFault 29 = .ok (.ireturn, 1) := by decide +kernel
theorem dX2_markFault_0 : decode cX2_markFault 0 = .ok (.iload_n 1, 1) := by decide +kernel
theorem dX2_markFault_1 : decode cX2_markFault 1 = .ok (.aload_n 2, 1) := by decide +kernel
theorem dX2_markFault_2 : decode cX2_markFault 2 = .ok (.getfield 117, 3) := by decide +kernel
theorem dX2_markFault_5 : decode cX2_markFault 5 = .ok (.if_icmp .lt 5, 3) := by decide +kernel
theorem dX2_markFault_8 : decode cX2_markFault 8 = .ok (.iconst 2, 1) := by decide +kernel
theorem dX2_markFault_9 : decode cX2_markFault 9 = .ok (.ireturn, 1) := by decide +kernel
theorem dX2_markFault_10 : decode cX2_markFault 10 = .ok (.aload_n 0, 1) := by decide +kernel
theorem dX2_markFault_11 : decode cX2_markFault 11 = .ok (.getfield 18, 3) := by decide +kernel
theorem dX2_markFault_14 : decode cX2_markFault 14 = .ok (.aload_n 0, 1) := by decide +kernel
theorem dX2_markFault_15 : decode cX2_markFault 15 = .ok (.getfield 15, 3) := by decide +kernel
theorem dX2_markFault_18 : decode cX2_markFault 18 = .ok (.iconst 0, 1) := by decide +kernel
theorem dX2_markFault_19 : decode cX2_markFault 19 = .ok (.iaload, 1) := by decide +kernel
theorem dX2_markFault_20 : decode cX2_markFault 20 = .ok (.iaload, 1) := by decide +kernel
theorem dX2_markFault_21 : decode cX2_markFault 21 = .ok (.iload_n 1, 1) := by decide +kernel
theorem dX2_markFault_22 : decode cX2_markFault 22 = .ok (.invokestatic 140, 3) := by decide +kernel
theorem dX2_markFault_25 : decode cX2_markFault 25 = .ok (.ifCond .eq 7, 3) := by decide +kernel
theorem dX2_markFault_28 : decode cX2_markFault 28 = .ok (.iconst 4, 1) := by decide +kernel
theorem dX2_markFault_29 : decode cX2_markFault 29 = .ok (.goto 4, 3) := by decide +kernel
theorem dX2_markFault_32 : decode cX2_markFault 32 = .ok (.iconst 0, 1) := by decide +kernel
theorem dX2_markFault_33 : decode cX2_markFault 33 = .ok (.ireturn, 1) := by decide +kernel
theorem dX2_lieFault_0 : decode cX2_lieFault 0 = .ok (.iload_n 1, 1) := by decide +kernel
theorem dX2_lieFault_1 : decode cX2_lieFault 1 = .ok (.bipush 99, 2) := by decide +kernel
theorem dX2_lieFault_3 : decode cX2_lieFault 3 = .ok (.if_icmp .le 5, 3) := by decide +kernel
theorem dX2_lieFault_6 : decode cX2_lieFault 6 = .ok (.iconst 2, 1) := by decide +kernel
theorem dX2_lieFault_7 : decode cX2_lieFault 7 = .ok (.ireturn, 1) := by decide +kernel
theorem dX2_lieFault_8 : decode cX2_lieFault 8 = .ok (.aload_n 0, 1) := by decide +kernel
theorem dX2_lieFault_9 : decode cX2_lieFault 9 = .ok (.getfield 15, 3) := by decide +kernel
theorem dX2_lieFault_12 : decode cX2_lieFault 12 = .ok (.iconst 1, 1) := by decide +kernel
theorem dX2_lieFault_13 : decode cX2_lieFault 13 = .ok (.iaload, 1) := by decide +kernel
theorem dX2_lieFault_14 : decode cX2_lieFault 14 = .ok (.istore_n 3, 1) := by decide +kernel
theorem dX2_lieFault_15 : decode cX2_lieFault 15 = .ok (.aload_n 0, 1) := by decide +kernel
theorem dX2_lieFault_16 : decode cX2_lieFault 16 = .ok (.getfield 15, 3) := by decide +kernel
theorem dX2_lieFault_19 : decode cX2_lieFault 19 = .ok (.iconst 2, 1) := by decide +kernel
theorem dX2_lieFault_20 : decode cX2_lieFault 20 = .ok (.iaload, 1) := by decide +kernel
theorem dX2_lieFault_21 : decode cX2_lieFault 21 = .ok (.aload_n 2, 1) := by decide +kernel
theorem dX2_lieFault_22 : decode cX2_lieFault 22 = .ok (.getfield 144, 3) := by decide +kernel
theorem dX2_lieFault_25 : decode cX2_lieFault 25 = .ok (.iload_n 3, 1) := by decide +kernel
theorem dX2_lieFault_26 : decode cX2_lieFault 26 = .ok (.iaload, 1) := by decide +kernel
theorem dX2_lieFault_27 : decode cX2_lieFault 27 = .ok (.isub, 1) := by decide +kernel
theorem dX2_lieFault_28 : decode cX2_lieFault 28 = .ok (.invokestatic 128, 3) := by decide +kernel
theorem dX2_lieFault_31 : decode cX2_lieFault 31 = .ok (.iload_n 1, 1) := by decide +kernel
theorem dX2_lieFault_32 : decode cX2_lieFault 32 = .ok (.aload_n 2, 1) := by decide +kernel
theorem dX2_lieFault_33 : decode cX2_lieFault 33 = .ok (.getfield 147, 3) := by decide +kernel
theorem dX2_lieFault_36 : decode cX2_lieFault 36 = .ok (.iload_n 3, 1) := by decide +kernel
theorem dX2_lieFault_37 : decode cX2_lieFault 37 = .ok (.iaload, 1) := by decide +kernel
theorem dX2_lieFault_38 : decode cX2_lieFault 38 = .ok (.isub, 1) := by decide +kernel
theorem dX2_lieFault_39 : decode cX2_lieFault 39 = .ok (.invokestatic 128, 3) := by decide +kernel
theorem dX2_lieFault_42 : decode cX2_lieFault 42 = .ok (.invokestatic 150, 3) := by decide +kernel
theorem dX2_lieFault_45 : decode cX2_lieFault 45 = .ok (.istore 4, 2) := by decide +kernel
theorem dX2_lieFault_47 : decode cX2_lieFault 47 = .ok (.iload 4, 2) := by decide +kernel
theorem dX2_lieFault_49 : decode cX2_lieFault 49 = .ok (.iconst 2, 1) := by decide +kernel
theorem dX2_lieFault_50 : decode cX2_lieFault 50 = .ok (.aload_n 2, 1) := by decide +kernel
theorem dX2_lieFault_51 : decode cX2_lieFault 51 = .ok (.getfield 132, 3) := by decide +kernel
theorem dX2_lieFault_54 : decode cX2_lieFault 54 = .ok (.imul, 1) := by decide +kernel
theorem dX2_lieFault_55 : decode cX2_lieFault 55 = .ok (.if_icmp .le 7, 3) := by decide +kernel
theorem dX2_lieFault_58 : decode cX2_lieFault 58 = .ok (.iconst 0, 1) := by decide +kernel
theorem dX2_lieFault_59 : decode cX2_lieFault 59 = .ok (.goto 4, 3) := by decide +kernel
theorem dX2_lieFault_62 : decode cX2_lieFault 62 = .ok (.iconst 4, 1) := by decide +kernel
theorem dX2_lieFault_63 : decode cX2_lieFault 63 = .ok (.ireturn, 1) := by decide +kernel
theorem dX2_tell_0 : decode cX2_tell 0 = .ok (.iload_n 1, 1) := by decide +kernel
theorem dX2_tell_1 : decode cX2_tell 1 = .ok (.tableswitch 134 0 6 #[43, 62, 95, 134, 134, 108, 121], 43) := by decide +kernel
theorem dX2_tell_44 : decode cX2_tell 44 = .ok (.aload_n 2, 1) := by decide +kernel
theorem dX2_tell_45 : decode cX2_tell 45 = .ok (.aload_n 0, 1) := by decide +kernel
theorem dX2_tell_46 : decode cX2_tell 46 = .ok (.getfield 15, 3) := by decide +kernel
theorem dX2_tell_49 : decode cX2_tell 49 = .ok (.iconst 0, 1) := by decide +kernel
theorem dX2_tell_50 : decode cX2_tell 50 = .ok (.iaload, 1) := by decide +kernel
theorem dX2_tell_51 : decode cX2_tell 51 = .ok (.aload_n 0, 1) := by decide +kernel
theorem dX2_tell_52 : decode cX2_tell 52 = .ok (.getfield 15, 3) := by decide +kernel
theorem dX2_tell_55 : decode cX2_tell 55 = .ok (.iconst 1, 1) := by decide +kernel
theorem dX2_tell_56 : decode cX2_tell 56 = .ok (.iaload, 1) := by decide +kernel
theorem dX2_tell_57 : decode cX2_tell 57 = .ok (.invokevirtual 153, 3) := by decide +kernel
theorem dX2_tell_60 : decode cX2_tell 60 = .ok (.goto 81, 3) := by decide +kernel
theorem dX2_tell_63 : decode cX2_tell 63 = .ok (.aload_n 2, 1) := by decide +kernel
theorem dX2_tell_64 : decode cX2_tell 64 = .ok (.aload_n 0, 1) := by decide +kernel
theorem dX2_tell_65 : decode cX2_tell 65 = .ok (.getfield 15, 3) := by decide +kernel
theorem dX2_tell_68 : decode cX2_tell 68 = .ok (.iconst 0, 1) := by decide +kernel
theorem dX2_tell_69 : decode cX2_tell 69 = .ok (.iaload, 1) := by decide +kernel
theorem dX2_tell_70 : decode cX2_tell 70 = .ok (.putfield 157, 3) := by decide +kernel
theorem dX2_tell_73 : decode cX2_tell 73 = .ok (.aload_n 2, 1) := by decide +kernel
theorem dX2_tell_74 : decode cX2_tell 74 = .ok (.aload_n 0, 1) := by decide +kernel
theorem dX2_tell_75 : decode cX2_tell 75 = .ok (.getfield 15, 3) := by decide +kernel
theorem dX2_tell_78 : decode cX2_tell 78 = .ok (.iconst 1, 1) := by decide +kernel
theorem dX2_tell_79 : decode cX2_tell 79 = .ok (.iaload, 1) := by decide +kernel
theorem dX2_tell_80 : decode cX2_tell 80 = .ok (.putfield 160, 3) := by decide +kernel
theorem dX2_tell_83 : decode cX2_tell 83 = .ok (.aload_n 2, 1) := by decide +kernel
theorem dX2_tell_84 : decode cX2_tell 84 = .ok (.aload_n 0, 1) := by decide +kernel
theorem dX2_tell_85 : decode cX2_tell 85 = .ok (.getfield 15, 3) := by decide +kernel
theorem dX2_tell_88 : decode cX2_tell 88 = .ok (.iconst 2, 1) := by decide +kernel
theorem dX2_tell_89 : decode cX2_tell 89 = .ok (.iaload, 1) := by decide +kernel
theorem dX2_tell_90 : decode cX2_tell 90 = .ok (.putfield 163, 3) := by decide +kernel
theorem dX2_tell_93 : decode cX2_tell 93 = .ok (.goto 48, 3) := by decide +kernel
theorem dX2_tell_96 : decode cX2_tell 96 = .ok (.aload_n 2, 1) := by decide +kernel
theorem dX2_tell_97 : decode cX2_tell 97 = .ok (.aload_n 0, 1) := by decide +kernel
theorem dX2_tell_98 : decode cX2_tell 98 = .ok (.getfield 15, 3) := by decide +kernel
theorem dX2_tell_101 : decode cX2_tell 101 = .ok (.iconst 0, 1) := by decide +kernel
theorem dX2_tell_102 : decode cX2_tell 102 = .ok (.iaload, 1) := by decide +kernel
theorem dX2_tell_103 : decode cX2_tell 103 = .ok (.putfield 132, 3) := by decide +kernel
theorem dX2_tell_106 : decode cX2_tell 106 = .ok (.goto 35, 3) := by decide +kernel
theorem dX2_tell_109 : decode cX2_tell 109 = .ok (.aload_n 2, 1) := by decide +kernel
theorem dX2_tell_110 : decode cX2_tell 110 = .ok (.aload_n 0, 1) := by decide +kernel
theorem dX2_tell_111 : decode cX2_tell 111 = .ok (.getfield 15, 3) := by decide +kernel
theorem dX2_tell_114 : decode cX2_tell 114 = .ok (.iconst 0, 1) := by decide +kernel
theorem dX2_tell_115 : decode cX2_tell 115 = .ok (.iaload, 1) := by decide +kernel
theorem dX2_tell_116 : decode cX2_tell 116 = .ok (.putfield 166, 3) := by decide +kernel
theorem dX2_tell_119 : decode cX2_tell 119 = .ok (.goto 22, 3) := by decide +kernel
theorem dX2_tell_122 : decode cX2_tell 122 = .ok (.aload_n 2, 1) := by decide +kernel
theorem dX2_tell_123 : decode cX2_tell 123 = .ok (.aload_n 0, 1) := by decide +kernel
theorem dX2_tell_124 : decode cX2_tell 124 = .ok (.getfield 15, 3) := by decide +kernel
theorem dX2_tell_127 : decode cX2_tell 127 = .ok (.iconst 0, 1) := by decide +kernel
theorem dX2_tell_128 : decode cX2_tell 128 = .ok (.iaload, 1) := by decide +kernel
theorem dX2_tell_129 : decode cX2_tell 129 = .ok (.putfield 169, 3) := by decide +kernel
theorem dX2_tell_132 : decode cX2_tell 132 = .ok (.goto 9, 3) := by decide +kernel
theorem dX2_tell_135 : decode cX2_tell 135 = .ok (.aload_n 0, 1) := by decide +kernel
theorem dX2_tell_136 : decode cX2_tell 136 = .ok (.iload_n 1, 1) := by decide +kernel
theorem dX2_tell_137 : decode cX2_tell 137 = .ok (.aload_n 2, 1) := by decide +kernel
theorem dX2_tell_138 : decode cX2_tell 138 = .ok (.invokevirtual 171, 3) := by decide +kernel
theorem dX2_tell_141 : decode cX2_tell 141 = .ok (.return_, 1) := by decide +kernel
theorem dX2_changeMap_0 : decode cX2_changeMap 0 = .ok (.aload_n 0, 1) := by decide +kernel
theorem dX2_changeMap_1 : decode cX2_changeMap 1 = .ok (.getfield 15, 3) := by decide +kernel
theorem dX2_changeMap_4 : decode cX2_changeMap 4 = .ok (.iconst 0, 1) := by decide +kernel
theorem dX2_changeMap_5 : decode cX2_changeMap 5 = .ok (.iaload, 1) := by decide +kernel
theorem dX2_changeMap_6 : decode cX2_changeMap 6 = .ok (.istore_n 3, 1) := by decide +kernel
theorem dX2_changeMap_7 : decode cX2_changeMap 7 = .ok (.aload_n 0, 1) := by decide +kernel
theorem dX2_changeMap_8 : decode cX2_changeMap 8 = .ok (.getfield 15, 3) := by decide +kernel
theorem dX2_changeMap_11 : decode cX2_changeMap 11 = .ok (.iconst 1, 1) := by decide +kernel
theorem dX2_changeMap_12 : decode cX2_changeMap 12 = .ok (.iaload, 1) := by decide +kernel
theorem dX2_changeMap_13 : decode cX2_changeMap 13 = .ok (.istore 4, 2) := by decide +kernel
theorem dX2_changeMap_15 : decode cX2_changeMap 15 = .ok (.aload_n 0, 1) := by decide +kernel
theorem dX2_changeMap_16 : decode cX2_changeMap 16 = .ok (.getfield 18, 3) := by decide +kernel
theorem dX2_changeMap_19 : decode cX2_changeMap 19 = .ok (.iload_n 3, 1) := by decide +kernel
theorem dX2_changeMap_20 : decode cX2_changeMap 20 = .ok (.dup2, 1) := by decide +kernel
theorem dX2_changeMap_21 : decode cX2_changeMap 21 = .ok (.iaload, 1) := by decide +kernel
theorem dX2_changeMap_22 : decode cX2_changeMap 22 = .ok (.iconst 1, 1) := by decide +kernel
theorem dX2_changeMap_23 : decode cX2_changeMap 23 = .ok (.iload 4, 2) := by decide +kernel
theorem dX2_changeMap_25 : decode cX2_changeMap 25 = .ok (.ishl, 1) := by decide +kernel
theorem dX2_changeMap_26 : decode cX2_changeMap 26 = .ok (.ior, 1) := by decide +kernel
theorem dX2_changeMap_27 : decode cX2_changeMap 27 = .ok (.iastore, 1) := by decide +kernel
theorem dX2_changeMap_28 : decode cX2_changeMap 28 = .ok (.iload_n 1, 1) := by decide +kernel
theorem dX2_changeMap_29 : decode cX2_changeMap 29 = .ok (.iconst 3, 1) := by decide +kernel
theorem dX2_changeMap_30 : decode cX2_changeMap 30 = .ok (.if_icmp .ne 25, 3) := by decide +kernel
theorem dX2_changeMap_33 : decode cX2_changeMap 33 = .ok (.aload_n 2, 1) := by decide +kernel
theorem dX2_changeMap_34 : decode cX2_changeMap 34 = .ok (.iload_n 3, 1) := by decide +kernel
theorem dX2_changeMap_35 : decode cX2_changeMap 35 = .ok (.iload 4, 2) := by decide +kernel
theorem dX2_changeMap_37 : decode cX2_changeMap 37 = .ok (.aload_n 0, 1) := by decide +kernel
theorem dX2_changeMap_38 : decode cX2_changeMap 38 = .ok (.getfield 15, 3) := by decide +kernel
theorem dX2_changeMap_41 : decode cX2_changeMap 41 = .ok (.iconst 2, 1) := by decide +kernel
theorem dX2_changeMap_42 : decode cX2_changeMap 42 = .ok (.iaload, 1) := by decide +kernel
theorem dX2_changeMap_43 : decode cX2_changeMap 43 = .ok (.aload_n 0, 1) := by decide +kernel
theorem dX2_changeMap_44 : decode cX2_changeMap 44 = .ok (.getfield 15, 3) := by decide +kernel
theorem dX2_changeMap_47 : decode cX2_changeMap 47 = .ok (.iconst 3, 1) := by decide +kernel
theorem dX2_changeMap_48 : decode cX2_changeMap 48 = .ok (.iaload, 1) := by decide +kernel
theorem dX2_changeMap_49 : decode cX2_changeMap 49 = .ok (.invokevirtual 174, 3) := by decide +kernel
theorem dX2_changeMap_52 : decode cX2_changeMap 52 = .ok (.goto 44, 3) := by decide +kernel
theorem dX2_changeMap_55 : decode cX2_changeMap 55 = .ok (.aload_n 2, 1) := by decide +kernel
theorem dX2_changeMap_56 : decode cX2_changeMap 56 = .ok (.iload_n 3, 1) := by decide +kernel
theorem dX2_changeMap_57 : decode cX2_changeMap 57 = .ok (.iload 4, 2) := by decide +kernel
theorem dX2_changeMap_59 : decode cX2_changeMap 59 = .ok (.aload_n 2, 1) := by decide +kernel
theorem dX2_changeMap_60 : decode cX2_changeMap 60 = .ok (.getfield 144, 3) := by decide +kernel
theorem dX2_changeMap_63 : decode cX2_changeMap 63 = .ok (.iload 4, 2) := by decide +kernel
theorem dX2_changeMap_65 : decode cX2_changeMap 65 = .ok (.iaload, 1) := by decide +kernel
theorem dX2_changeMap_66 : decode cX2_changeMap 66 = .ok (.aload_n 0, 1) := by decide +kernel
theorem dX2_changeMap_67 : decode cX2_changeMap 67 = .ok (.getfield 15, 3) := by decide +kernel
theorem dX2_changeMap_70 : decode cX2_changeMap 70 = .ok (.iconst 2, 1) := by decide +kernel
theorem dX2_changeMap_71 : decode cX2_changeMap 71 = .ok (.iaload, 1) := by decide +kernel
theorem dX2_changeMap_72 : decode cX2_changeMap 72 = .ok (.iadd, 1) := by decide +kernel
theorem dX2_changeMap_73 : decode cX2_changeMap 73 = .ok (.bipush 9, 2) := by decide +kernel
theorem dX2_changeMap_75 : decode cX2_changeMap 75 = .ok (.isub, 1) := by decide +kernel
theorem dX2_changeMap_76 : decode cX2_changeMap 76 = .ok (.aload_n 2, 1) := by decide +kernel
theorem dX2_changeMap_77 : decode cX2_changeMap 77 = .ok (.getfield 147, 3) := by decide +kernel
theorem dX2_changeMap_80 : decode cX2_changeMap 80 = .ok (.iload 4, 2) := by decide +kernel
theorem dX2_changeMap_82 : decode cX2_changeMap 82 = .ok (.iaload, 1) := by decide +kernel
theorem dX2_changeMap_83 : decode cX2_changeMap 83 = .ok (.aload_n 0, 1) := by decide +kernel
theorem dX2_changeMap_84 : decode cX2_changeMap 84 = .ok (.getfield 15, 3) := by decide +kernel
theorem dX2_changeMap_87 : decode cX2_changeMap 87 = .ok (.iconst 3, 1) := by decide +kernel
theorem dX2_changeMap_88 : decode cX2_changeMap 88 = .ok (.iaload, 1) := by decide +kernel
theorem dX2_changeMap_89 : decode cX2_changeMap 89 = .ok (.iadd, 1) := by decide +kernel
theorem dX2_changeMap_90 : decode cX2_changeMap 90 = .ok (.bipush 9, 2) := by decide +kernel
theorem dX2_changeMap_92 : decode cX2_changeMap 92 = .ok (.isub, 1) := by decide +kernel
theorem dX2_changeMap_93 : decode cX2_changeMap 93 = .ok (.invokevirtual 178, 3) := by decide +kernel
theorem dX2_changeMap_96 : decode cX2_changeMap 96 = .ok (.return_, 1) := by decide +kernel
theorem dX3_init_0 : decode cX3_init 0 = .ok (.aload_n 0, 1) := by decide +kernel
theorem dX3_init_1 : decode cX3_init 1 = .ok (.invokespecial 3, 3) := by decide +kernel
theorem dX3_init_4 : decode cX3_init 4 = .ok (.aload_n 0, 1) := by decide +kernel
theorem dX3_init_5 : decode cX3_init 5 = .ok (.bipush 20, 2) := by decide +kernel
theorem dX3_init_7 : decode cX3_init 7 = .ok (.newarray .int, 2) := by decide +kernel
theorem dX3_init_9 : decode cX3_init 9 = .ok (.putfield 9, 3) := by decide +kernel
theorem dX3_init_12 : decode cX3_init 12 = .ok (.aload_n 0, 1) := by decide +kernel
theorem dX3_init_13 : decode cX3_init 13 = .ok (.bipush 20, 2) := by decide +kernel
theorem dX3_init_15 : decode cX3_init 15 = .ok (.newarray .int, 2) := by decide +kernel
theorem dX3_init_17 : decode cX3_init 17 = .ok (.putfield 15, 3) := by decide +kernel
theorem dX3_init_20 : decode cX3_init 20 = .ok (.aload_n 0, 1) := by decide +kernel
theorem dX3_init_21 : decode cX3_init 21 = .ok (.bipush 20, 2) := by decide +kernel
theorem dX3_init_23 : decode cX3_init 23 = .ok (.newarray .boolean, 2) := by decide +kernel
theorem dX3_init_25 : decode cX3_init 25 = .ok (.putfield 18, 3) := by decide +kernel
theorem dX3_init_28 : decode cX3_init 28 = .ok (.aload_n 0, 1) := by decide +kernel
theorem dX3_init_29 : decode cX3_init 29 = .ok (.iconst 0, 1) := by decide +kernel
theorem dX3_init_30 : decode cX3_init 30 = .ok (.putfield 22, 3) := by decide +kernel
theorem dX3_init_33 : decode cX3_init 33 = .ok (.return_, 1) := by decide +kernel
theorem dX3_add_0 : decode cX3_add 0 = .ok (.aload_n 0, 1) := by decide +kernel
theorem dX3_add_1 : decode cX3_add 1 = .ok (.getfield 9, 3) := by decide +kernel
theorem dX3_add_4 : decode cX3_add 4 = .ok (.aload_n 0, 1) := by decide +kernel
theorem dX3_add_5 : decode cX3_add 5 = .ok (.getfield 22, 3) := by decide +kernel
theorem dX3_add_8 : decode cX3_add 8 = .ok (.iload_n 1, 1) := by decide +kernel
theorem dX3_add_9 : decode cX3_add 9 = .ok (.iastore, 1) := by decide +kernel
theorem dX3_add_10 : decode cX3_add 10 = .ok (.aload_n 0, 1) := by decide +kernel
theorem dX3_add_11 : decode cX3_add 11 = .ok (.getfield 15, 3) := by decide +kernel
theorem dX3_add_14 : decode cX3_add 14 = .ok (.aload_n 0, 1) := by decide +kernel
theorem dX3_add_15 : decode cX3_add 15 = .ok (.getfield 22, 3) := by decide +kernel
theorem dX3_add_18 : decode cX3_add 18 = .ok (.iload_n 2, 1) := by decide +kernel
theorem dX3_add_19 : decode cX3_add 19 = .ok (.iastore, 1) := by decide +kernel
theorem dX3_add_20 : decode cX3_add 20 = .ok (.aload_n 0, 1) := by decide +kernel
theorem dX3_add_21 : decode cX3_add 21 = .ok (.getfield 18, 3) := by decide +kernel
theorem dX3_add_24 : decode cX3_add 24 = .ok (.aload_n 0, 1) := by decide +kernel
theorem dX3_add_25 : decode cX3_add 25 = .ok (.getfield 22, 3) := by decide +kernel
theorem dX3_add_28 : decode cX3_add 28 = .ok (.iload_n 3, 1) := by decide +kernel
theorem dX3_add_29 : decode cX3_add 29 = .ok (.bastore, 1) := by decide +kernel
theorem dX3_add_30 : decode cX3_add 30 = .ok (.aload_n 0, 1) := by decide +kernel
theorem dX3_add_31 : decode cX3_add 31 = .ok (.dup, 1) := by decide +kernel
theorem dX3_add_32 : decode cX3_add 32 = .ok (.getfield 22, 3) := by decide +kernel
theorem dX3_add_35 : decode cX3_add 35 = .ok (.iconst 1, 1) := by decide +kernel
theorem dX3_add_36 : decode cX3_add 36 = .ok (.iadd, 1) := by decide +kernel
theorem dX3_add_37 : decode cX3_add 37 = .ok (.putfield 22, 3) := by decide +kernel
theorem dX3_add_40 : decode cX3_add 40 = .ok (.aload_n 0, 1) := by decide +kernel
theorem dX3_add_41 : decode cX3_add 41 = .ok (.getfield 22, 3) := by decide +kernel
theorem dX3_add_44 : decode cX3_add 44 = .ok (.iconst 1, 1) := by decide +kernel
theorem dX3_add_45 : decode cX3_add 45 = .ok (.isub, 1) := by decide +kernel
theorem dX3_add_46 : decode cX3_add 46 = .ok (.ireturn, 1) := by decide +kernel
theorem dX3_isTrue_0 : decode cX3_isTrue 0 = .ok (.iload_n 2, 1) := by decide +kernel
theorem dX3_isTrue_1 : decode cX3_isTrue 1 = .ok (.aload_n 0, 1) := by decide +kernel
theorem dX3_isTrue_2 : decode cX3_isTrue 2 = .ok (.getfield 15, 3) := by decide +kernel
theorem dX3_isTrue_5 : decode cX3_isTrue 5 = .ok (.iload_n 1, 1) := by decide +kernel
theorem dX3_isTrue_6 : decode cX3_isTrue 6 = .ok (.iaload, 1) := by decide +kernel
theorem dX3_isTrue_7 : decode cX3_isTrue 7 = .ok (.invokestatic 26, 3) := by decide +kernel
theorem dX3_isTrue_10 : decode cX3_isTrue 10 = .ok (.aload_n 0, 1) := by decide +kernel
theorem dX3_isTrue_11 : decode cX3_isTrue 11 = .ok (.getfield 18, 3) := by decide +kernel
theorem dX3_isTrue_14 : decode cX3_isTrue 14 = .ok (.iload_n 1, 1) := by decide +kernel
theorem dX3_isTrue_15 : decode cX3_isTrue 15 = .ok (.baload, 1) := by decide +kernel
theorem dX3_isTrue_16 : decode cX3_isTrue 16 = .ok (.if_icmp .ne 7, 3) := by decide +kernel
theorem dX3_isTrue_19 : decode cX3_isTrue 19 = .ok (.iconst 1, 1) := by decide +kernel
theorem dX3_isTrue_20 : decode cX3_isTrue 20 = .ok (.goto 4, 3) := by decide +kernel
theorem dX3_isTrue_23 : decode cX3_isTrue 23 = .ok (.iconst 0, 1) := by decide +kernel
theorem dX3_isTrue_24 : decode cX3_isTrue 24 = .ok (.ireturn, 1) := by decide +kernel
theorem dX3_untrueOf_0 : decode cX3_untrueOf 0 = .ok (.iconst 0, 1) := by decide +kernel
theorem dX3_untrueOf_1 : decode cX3_untrueOf 1 = .ok (.istore_n 3, 1) := by decide +kernel
theorem dX3_untrueOf_2 : decode cX3_untrueOf 2 = .ok (.iconst 0, 1) := by decide +kernel
theorem dX3_untrueOf_3 : decode cX3_untrueOf 3 = .ok (.istore 4, 2) := by decide +kernel
theorem dX3_untrueOf_5 : decode cX3_untrueOf 5 = .ok (.iload 4, 2) := by decide +kernel
theorem dX3_untrueOf_7 : decode cX3_untrueOf 7 = .ok (.aload_n 0, 1) := by decide +kernel
theorem dX3_untrueOf_8 : decode cX3_untrueOf 8 = .ok (.getfield 22, 3) := by decide +kernel
theorem dX3_untrueOf_11 : decode cX3_untrueOf 11 = .ok (.if_icmp .ge 33, 3) := by decide +kernel
theorem dX3_untrueOf_14 : decode cX3_untrueOf 14 = .ok (.aload_n 0, 1) := by decide +kernel
theorem dX3_untrueOf_15 : decode cX3_untrueOf 15 = .ok (.getfield 9, 3) := by decide +kernel
theorem dX3_untrueOf_18 : decode cX3_untrueOf 18 = .ok (.iload 4, 2) := by decide +kernel
theorem dX3_untrueOf_20 : decode cX3_untrueOf 20 = .ok (.iaload, 1) := by decide +kernel
theorem dX3_untrueOf_21 : decode cX3_untrueOf 21 = .ok (.iload_n 1, 1) := by decide +kernel
theorem dX3_untrueOf_22 : decode cX3_untrueOf 22 = .ok (.if_icmp .ne 16, 3) := by decide +kernel
theorem dX3_untrueOf_25 : decode cX3_untrueOf 25 = .ok (.aload_n 0, 1) := by decide +kernel
theorem dX3_untrueOf_26 : decode cX3_untrueOf 26 = .ok (.iload 4, 2) := by decide +kernel
theorem dX3_untrueOf_28 : decode cX3_untrueOf 28 = .ok (.iload_n 2, 1) := by decide +kernel
theorem dX3_untrueOf_29 : decode cX3_untrueOf 29 = .ok (.invokevirtual 30, 3) := by decide +kernel
theorem dX3_untrueOf_32 : decode cX3_untrueOf 32 = .ok (.ifCond .ne 6, 3) := by decide +kernel
theorem dX3_untrueOf_35 : decode cX3_untrueOf 35 = .ok (.iinc 3 1, 3) := by decide +kernel
theorem dX3_untrueOf_38 : decode cX3_untrueOf 38 = .ok (.iinc 4 1, 3) := by decide +kernel
theorem dX3_untrueOf_41 : decode cX3_untrueOf 41 = .ok (.goto (-36), 3) := by decide +kernel
theorem dX3_untrueOf_44 : decode cX3_untrueOf 44 = .ok (.iload_n 3, 1) := by decide +kernel
theorem dX3_untrueOf_45 : decode cX3_untrueOf 45 = .ok (.ireturn, 1) := by decide +kernel
theorem dX3_bandOfMostUntrue_0 : decode cX3_bandOfMostUntrue 0 = .ok (.iconst (-1), 1) := by decide +kernel
theorem dX3_bandOfMostUntrue_1 : decode cX3_bandOfMostUntrue 1 = .ok (.istore_n 2, 1) := by decide +kernel
theorem dX3_bandOfMostUntrue_2 : decode cX3_bandOfMostUntrue 2 = .ok (.iconst 0, 1) := by decide +kernel
theorem dX3_bandOfMostUntrue_3 : decode cX3_bandOfMostUntrue 3 = .ok (.istore_n 3, 1) := by decide +kernel
theorem dX3_bandOfMostUntrue_4 : decode cX3_bandOfMostUntrue 4 = .ok (.iconst 0, 1) := by decide +kernel
theorem dX3_bandOfMostUntrue_5 : decode cX3_bandOfMostUntrue 5 = .ok (.istore 4, 2) := by decide +kernel
theorem dX3_bandOfMostUntrue_7 : decode cX3_bandOfMostUntrue 7 = .ok (.iload 4, 2) := by decide +kernel
theorem dX3_bandOfMostUntrue_9 : decode cX3_bandOfMostUntrue 9 = .ok (.bipush 6, 2) := by decide +kernel
theorem dX3_bandOfMostUntrue_11 : decode cX3_bandOfMostUntrue 11 = .ok (.if_icmp .ge 30, 3) := by decide +kernel
theorem dX3_bandOfMostUntrue_14 : decode cX3_bandOfMostUntrue 14 = .ok (.aload_n 0, 1) := by decide +kernel
theorem dX3_bandOfMostUntrue_15 : decode cX3_bandOfMostUntrue 15 = .ok (.iload 4, 2) := by decide +kernel
theorem dX3_bandOfMostUntrue_17 : decode cX3_bandOfMostUntrue 17 = .ok (.iload_n 1, 1) := by decide +kernel
theorem dX3_bandOfMostUntrue_18 : decode cX3_bandOfMostUntrue 18 = .ok (.invokevirtual 33, 3) := by decide +kernel
theorem dX3_bandOfMostUntrue_21 : decode cX3_bandOfMostUntrue 21 = .ok (.istore 5, 2) := by decide +kernel
theorem dX3_bandOfMostUntrue_23 : decode cX3_bandOfMostUntrue 23 = .ok (.iload 5, 2) := by decide +kernel
theorem dX3_bandOfMostUntrue_25 : decode cX3_bandOfMostUntrue 25 = .ok (.iload_n 3, 1) := by decide +kernel
theorem dX3_bandOfMostUntrue_26 : decode cX3_bandOfMostUntrue 26 = .ok (.if_icmp .le 9, 3) := by decide +kernel
theorem dX3_bandOfMostUntrue_29 : decode cX3_bandOfMostUntrue 29 = .ok (.iload 5, 2) := by decide +kernel
theorem dX3_bandOfMostUntrue_31 : decode cX3_bandOfMostUntrue 31 = .ok (.istore_n 3, 1) := by decide +kernel
theorem dX3_bandOfMostUntrue_32 : decode cX3_bandOfMostUntrue 32 = .ok (.iload 4, 2) := by decide +kernel
theorem dX3_bandOfMostUntrue_34 : decode cX3_bandOfMostUntrue 34 = .ok (.istore_n 2, 1) := by decide +kernel
theorem dX3_bandOfMostUntrue_35 : decode cX3_bandOfMostUntrue 35 = .ok (.iinc 4 1, 3) := by decide +kernel
theorem dX3_bandOfMostUntrue_38 : decode cX3_bandOfMostUntrue 38 = .ok (.goto (-31), 3) := by decide +kernel
theorem dX3_bandOfMostUntrue_41 : decode cX3_bandOfMostUntrue 41 = .ok (.iload_n 2, 1) := by decide +kernel
theorem dX3_bandOfMostUntrue_42 : decode cX3_bandOfMostUntrue 42 = .ok (.ireturn, 1) := by decide +kernel
theorem dX4_init_0 : decode cX4_init 0 = .ok (.aload_n 0, 1) := by decide +kernel
theorem dX4_init_1 : decode cX4_init 1 = .ok (.invokespecial 3, 3) := by decide +kernel
theorem dX4_init_4 : decode cX4_init 4 = .ok (.aload_n 0, 1) := by decide +kernel
theorem dX4_init_5 : decode cX4_init 5 = .ok (.bipush 36, 2) := by decide +kernel
theorem dX4_init_7 : decode cX4_init 7 = .ok (.newarray .int, 2) := by decide +kernel
theorem dX4_init_9 : decode cX4_init 9 = .ok (.putfield 9, 3) := by decide +kernel
theorem dX4_init_12 : decode cX4_init 12 = .ok (.aload_n 0, 1) := by decide +kernel
theorem dX4_init_13 : decode cX4_init 13 = .ok (.bipush 20, 2) := by decide +kernel
theorem dX4_init_15 : decode cX4_init 15 = .ok (.newarray .int, 2) := by decide +kernel
theorem dX4_init_17 : decode cX4_init 17 = .ok (.putfield 15, 3) := by decide +kernel
theorem dX4_init_20 : decode cX4_init 20 = .ok (.aload_n 0, 1) := by decide +kernel
theorem dX4_init_21 : decode cX4_init 21 = .ok (.bipush 20, 2) := by decide +kernel
theorem dX4_init_23 : decode cX4_init 23 = .ok (.newarray .int, 2) := by decide +kernel
theorem dX4_init_25 : decode cX4_init 25 = .ok (.putfield 18, 3) := by decide +kernel
theorem dX4_init_28 : decode cX4_init 28 = .ok (.aload_n 0, 1) := by decide +kernel
theorem dX4_init_29 : decode cX4_init 29 = .ok (.bipush 6, 2) := by decide +kernel
theorem dX4_init_31 : decode cX4_init 31 = .ok (.newarray .int, 2) := by decide +kernel
theorem dX4_init_33 : decode cX4_init 33 = .ok (.putfield 21, 3) := by decide +kernel
theorem dX4_init_36 : decode cX4_init 36 = .ok (.aload_n 0, 1) := by decide +kernel
theorem dX4_init_37 : decode cX4_init 37 = .ok (.iconst 0, 1) := by decide +kernel
theorem dX4_init_38 : decode cX4_init 38 = .ok (.putfield 24, 3) := by decide +kernel
theorem dX4_init_41 : decode cX4_init 41 = .ok (.aload_n 0, 1) := by decide +kernel
theorem dX4_init_42 : decode cX4_init 42 = .ok (.iconst (-1), 1) := by decide +kernel
theorem dX4_init_43 : decode cX4_init 43 = .ok (.putfield 28, 3) := by decide +kernel
theorem dX4_init_46 : decode cX4_init 46 = .ok (.aload_n 0, 1) := by decide +kernel
theorem dX4_init_47 : decode cX4_init 47 = .ok (.iconst 0, 1) := by decide +kernel
theorem dX4_init_48 : decode cX4_init 48 = .ok (.putfield 31, 3) := by decide +kernel
theorem dX4_init_51 : decode cX4_init 51 = .ok (.return_, 1) := by decide +kernel
theorem dX4_begin_0 : decode cX4_begin 0 = .ok (.aload_n 0, 1) := by decide +kernel
theorem dX4_begin_1 : decode cX4_begin 1 = .ok (.getfield 9, 3) := by decide +kernel
theorem dX4_begin_4 : decode cX4_begin 4 = .ok (.iconst 0, 1) := by decide +kernel
theorem dX4_begin_5 : decode cX4_begin 5 = .ok (.invokestatic 34, 3) := by decide +kernel
theorem dX4_begin_8 : decode cX4_begin 8 = .ok (.aload_n 0, 1) := by decide +kernel
theorem dX4_begin_9 : decode cX4_begin 9 = .ok (.getfield 21, 3) := by decide +kernel
theorem dX4_begin_12 : decode cX4_begin 12 = .ok (.iconst 0, 1) := by decide +kernel
theorem dX4_begin_13 : decode cX4_begin 13 = .ok (.invokestatic 34, 3) := by decide +kernel
theorem dX4_begin_16 : decode cX4_begin 16 = .ok (.iconst 0, 1) := by decide +kernel
theorem dX4_begin_17 : decode cX4_begin 17 = .ok (.istore_n 2, 1) := by decide +kernel
theorem dX4_begin_18 : decode cX4_begin 18 = .ok (.iload_n 2, 1) := by decide +kernel
theorem dX4_begin_19 : decode cX4_begin 19 = .ok (.bipush 6, 2) := by decide +kernel
theorem dX4_begin_21 : decode cX4_begin 21 = .ok (.if_icmp .ge 25, 3) := by decide +kernel
theorem dX4_begin_24 : decode cX4_begin 24 = .ok (.aload_n 0, 1) := by decide +kernel
theorem dX4_begin_25 : decode cX4_begin 25 = .ok (.getfield 9, 3) := by decide +kernel
theorem dX4_begin_28 : decode cX4_begin 28 = .ok (.iload_n 2, 1) := by decide +kernel
theorem dX4_begin_29 : decode cX4_begin 29 = .ok (.bipush 6, 2) := by decide +kernel
theorem dX4_begin_31 : decode cX4_begin 31 = .ok (.imul, 1) := by decide +kernel
theorem dX4_begin_32 : decode cX4_begin 32 = .ok (.iload_n 2, 1) := by decide +kernel
theorem dX4_begin_33 : decode cX4_begin 33 = .ok (.iadd, 1) := by decide +kernel
theorem dX4_begin_34 : decode cX4_begin 34 = .ok (.iconst 1, 1) := by decide +kernel
theorem dX4_begin_35 : decode cX4_begin 35 = .ok (.iload_n 1, 1) := by decide +kernel
theorem dX4_begin_36 : decode cX4_begin 36 = .ok (.ishl, 1) := by decide +kernel
theorem dX4_begin_37 : decode cX4_begin 37 = .ok (.iconst 1, 1) := by decide +kernel
theorem dX4_begin_38 : decode cX4_begin 38 = .ok (.isub, 1) := by decide +kernel
theorem dX4_begin_39 : decode cX4_begin 39 = .ok (.iastore, 1) := by decide +kernel
theorem dX4_begin_40 : decode cX4_begin 40 = .ok (.iinc 2 1, 3) := by decide +kernel
theorem dX4_begin_43 : decode cX4_begin 43 = .ok (.goto (-25), 3) := by decide +kernel
theorem dX4_begin_46 : decode cX4_begin 46 = .ok (.aload_n 0, 1) := by decide +kernel
theorem dX4_begin_47 : decode cX4_begin 47 = .ok (.iconst 0, 1) := by decide +kernel
theorem dX4_begin_48 : decode cX4_begin 48 = .ok (.putfield 24, 3) := by decide +kernel
theorem dX4_begin_51 : decode cX4_begin 51 = .ok (.aload_n 0, 1) := by decide +kernel
theorem dX4_begin_52 : decode cX4_begin 52 = .ok (.iconst (-1), 1) := by decide +kernel
theorem dX4_begin_53 : decode cX4_begin 53 = .ok (.putfield 28, 3) := by decide +kernel
theorem dX4_begin_56 : decode cX4_begin 56 = .ok (.return_, 1) := by decide +kernel
theorem dX4_copyFrom_0 : decode cX4_copyFrom 0 = .ok (.aload_n 1, 1) := by decide +kernel
theorem dX4_copyFrom_1 : decode cX4_copyFrom 1 = .ok (.getfield 9, 3) := by decide +kernel
theorem dX4_copyFrom_4 : decode cX4_copyFrom 4 = .ok (.iconst 0, 1) := by decide +kernel
theorem dX4_copyFrom_5 : decode cX4_copyFrom 5 = .ok (.aload_n 0, 1) := by decide +kernel
theorem dX4_copyFrom_6 : decode cX4_copyFrom 6 = .ok (.getfield 9, 3) := by decide +kernel
theorem dX4_copyFrom_9 : decode cX4_copyFrom 9 = .ok (.iconst 0, 1) := by decide +kernel
theorem dX4_copyFrom_10 : decode cX4_copyFrom 10 = .ok (.aload_n 0, 1) := by decide +kernel
theorem dX4_copyFrom_11 : decode cX4_copyFrom 11 = .ok (.getfield 9, 3) := by decide +kernel
theorem dX4_copyFrom_14 : decode cX4_copyFrom 14 = .ok (.arraylength, 1) := by decide +kernel
theorem dX4_copyFrom_15 : decode cX4_copyFrom 15 = .ok (.invokestatic 40, 3) := by decide +kernel
theorem dX4_copyFrom_18 : decode cX4_copyFrom 18 = .ok (.aload_n 1, 1) := by decide +kernel
theorem dX4_copyFrom_19 : decode cX4_copyFrom 19 = .ok (.getfield 15, 3) := by decide +kernel
theorem dX4_copyFrom_22 : decode cX4_copyFrom 22 = .ok (.iconst 0, 1) := by decide +kernel
theorem dX4_copyFrom_23 : decode cX4_copyFrom 23 = .ok (.aload_n 0, 1) := by decide +kernel
theorem dX4_copyFrom_24 : decode cX4_copyFrom 24 = .ok (.getfield 15, 3) := by decide +kernel
theorem dX4_copyFrom_27 : decode cX4_copyFrom 27 = .ok (.iconst 0, 1) := by decide +kernel
theorem dX4_copyFrom_28 : decode cX4_copyFrom 28 = .ok (.bipush 20, 2) := by decide +kernel
theorem dX4_copyFrom_30 : decode cX4_copyFrom 30 = .ok (.invokestatic 40, 3) := by decide +kernel
theorem dX4_copyFrom_33 : decode cX4_copyFrom 33 = .ok (.aload_n 1, 1) := by decide +kernel
theorem dX4_copyFrom_34 : decode cX4_copyFrom 34 = .ok (.getfield 18, 3) := by decide +kernel
theorem dX4_copyFrom_37 : decode cX4_copyFrom 37 = .ok (.iconst 0, 1) := by decide +kernel
theorem dX4_copyFrom_38 : decode cX4_copyFrom 38 = .ok (.aload_n 0, 1) := by decide +kernel
theorem dX4_copyFrom_39 : decode cX4_copyFrom 39 = .ok (.getfield 18, 3) := by decide +kernel
theorem dX4_copyFrom_42 : decode cX4_copyFrom 42 = .ok (.iconst 0, 1) := by decide +kernel
theorem dX4_copyFrom_43 : decode cX4_copyFrom 43 = .ok (.bipush 20, 2) := by decide +kernel
theorem dX4_copyFrom_45 : decode cX4_copyFrom 45 = .ok (.invokestatic 40, 3) := by decide +kernel
theorem dX4_copyFrom_48 : decode cX4_copyFrom 48 = .ok (.aload_n 1, 1) := by decide +kernel
theorem dX4_copyFrom_49 : decode cX4_copyFrom 49 = .ok (.getfield 21, 3) := by decide +kernel
theorem dX4_copyFrom_52 : decode cX4_copyFrom 52 = .ok (.iconst 0, 1) := by decide +kernel
theorem dX4_copyFrom_53 : decode cX4_copyFrom 53 = .ok (.aload_n 0, 1) := by decide +kernel
theorem dX4_copyFrom_54 : decode cX4_copyFrom 54 = .ok (.getfield 21, 3) := by decide +kernel
theorem dX4_copyFrom_57 : decode cX4_copyFrom 57 = .ok (.iconst 0, 1) := by decide +kernel
theorem dX4_copyFrom_58 : decode cX4_copyFrom 58 = .ok (.bipush 6, 2) := by decide +kernel
theorem dX4_copyFrom_60 : decode cX4_copyFrom 60 = .ok (.invokestatic 40, 3) := by decide +kernel
theorem dX4_copyFrom_63 : decode cX4_copyFrom 63 = .ok (.aload_n 0, 1) := by decide +kernel
theorem dX4_copyFrom_64 : decode cX4_copyFrom 64 = .ok (.aload_n 1, 1) := by decide +kernel
theorem dX4_copyFrom_65 : decode cX4_copyFrom 65 = .ok (.getfield 24, 3) := by decide +kernel
theorem dX4_copyFrom_68 : decode cX4_copyFrom 68 = .ok (.putfield 24, 3) := by decide +kernel
theorem dX4_copyFrom_71 : decode cX4_copyFrom 71 = .ok (.aload_n 0, 1) := by decide +kernel
theorem dX4_copyFrom_72 : decode cX4_copyFrom 72 = .ok (.aload_n 1, 1) := by decide +kernel
theorem dX4_copyFrom_73 : decode cX4_copyFrom 73 = .ok (.getfield 28, 3) := by decide +kernel
theorem dX4_copyFrom_76 : decode cX4_copyFrom 76 = .ok (.putfield 28, 3) := by decide +kernel
theorem dX4_copyFrom_79 : decode cX4_copyFrom 79 = .ok (.aload_n 0, 1) := by decide +kernel
theorem dX4_copyFrom_80 : decode cX4_copyFrom 80 = .ok (.aload_n 1, 1) := by decide +kernel
theorem dX4_copyFrom_81 : decode cX4_copyFrom 81 = .ok (.getfield 31, 3) := by decide +kernel
theorem dX4_copyFrom_84 : decode cX4_copyFrom 84 = .ok (.putfield 31, 3) := by decide +kernel
theorem dX4_copyFrom_87 : decode cX4_copyFrom 87 = .ok (.return_, 1) := by decide +kernel
theorem dX4_has_0 : decode cX4_has 0 = .ok (.aload_n 0, 1) := by decide +kernel
theorem dX4_has_1 : decode cX4_has 1 = .ok (.getfield 9, 3) := by decide +kernel
theorem dX4_has_4 : decode cX4_has 4 = .ok (.iload_n 1, 1) := by decide +kernel
theorem dX4_has_5 : decode cX4_has 5 = .ok (.bipush 6, 2) := by decide +kernel
theorem dX4_has_7 : decode cX4_has 7 = .ok (.imul, 1) := by decide +kernel
theorem dX4_has_8 : decode cX4_has 8 = .ok (.iload_n 2, 1) := by decide +kernel
theorem dX4_has_9 : decode cX4_has 9 = .ok (.iadd, 1) := by decide +kernel
theorem dX4_has_10 : decode cX4_has 10 = .ok (.iaload, 1) := by decide +kernel
theorem dX4_has_11 : decode cX4_has 11 = .ok (.iload_n 3, 1) := by decide +kernel
theorem dX4_has_12 : decode cX4_has 12 = .ok (.invokestatic 46, 3) := by decide +kernel
theorem dX4_has_15 : decode cX4_has 15 = .ok (.ireturn, 1) := by decide +kernel
theorem dX4_learn_0 : decode cX4_learn 0 = .ok (.aload_n 0, 1) := by decide +kernel
theorem dX4_learn_1 : decode cX4_learn 1 = .ok (.getfield 9, 3) := by decide +kernel
theorem dX4_learn_4 : decode cX4_learn 4 = .ok (.iload_n 1, 1) := by decide +kernel
theorem dX4_learn_5 : decode cX4_learn 5 = .ok (.bipush 6, 2) := by decide +kernel
theorem dX4_learn_7 : decode cX4_learn 7 = .ok (.imul, 1) := by decide +kernel
theorem dX4_learn_8 : decode cX4_learn 8 = .ok (.iload_n 2, 1) := by decide +kernel
theorem dX4_learn_9 : decode cX4_learn 9 = .ok (.iadd, 1) := by decide +kernel
theorem dX4_learn_10 : decode cX4_learn 10 = .ok (.dup2, 1) := by decide +kernel
theorem dX4_learn_11 : decode cX4_learn 11 = .ok (.iaload, 1) := by decide +kernel
theorem dX4_learn_12 : decode cX4_learn 12 = .ok (.iconst 1, 1) := by decide +kernel
theorem dX4_learn_13 : decode cX4_learn 13 = .ok (.iload_n 3, 1) := by decide +kernel
theorem dX4_learn_14 : decode cX4_learn 14 = .ok (.ishl, 1) := by decide +kernel
theorem dX4_learn_15 : decode cX4_learn 15 = .ok (.ior, 1) := by decide +kernel
theorem dX4_learn_16 : decode cX4_learn 16 = .ok (.iastore, 1) := by decide +kernel
theorem dX4_learn_17 : decode cX4_learn 17 = .ok (.return_, 1) := by decide +kernel
theorem dX4_draw_0 : decode cX4_draw 0 = .ok (.aload_n 0, 1) := by decide +kernel
theorem dX4_draw_1 : decode cX4_draw 1 = .ok (.aload_n 0, 1) := by decide +kernel
theorem dX4_draw_2 : decode cX4_draw 2 = .ok (.getfield 31, 3) := by decide +kernel
theorem dX4_draw_5 : decode cX4_draw 5 = .ok (.i2l, 1) := by decide +kernel
theorem dX4_draw_6 : decode cX4_draw 6 = .ok (.ldc2_w 50, 3) := by decide +kernel
theorem dX4_draw_9 : decode cX4_draw 9 = .ok (.lmul, 1) := by decide +kernel
