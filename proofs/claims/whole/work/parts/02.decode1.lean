theorem dX0_init_0 : decode cX0_init 0 = .ok (.aload_n 0, 1) := by decide +kernel
theorem dX0_init_1 : decode cX0_init 1 = .ok (.invokespecial 3, 3) := by decide +kernel
theorem dX0_init_4 : decode cX0_init 4 = .ok (.aload_n 0, 1) := by decide +kernel
theorem dX0_init_5 : decode cX0_init 5 = .ok (.iconst 5, 1) := by decide +kernel
theorem dX0_init_6 : decode cX0_init 6 = .ok (.newarray .long, 2) := by decide +kernel
theorem dX0_init_8 : decode cX0_init 8 = .ok (.putfield 9, 3) := by decide +kernel
theorem dX0_init_11 : decode cX0_init 11 = .ok (.aload_n 0, 1) := by decide +kernel
theorem dX0_init_12 : decode cX0_init 12 = .ok (.lconst 1, 1) := by decide +kernel
theorem dX0_init_13 : decode cX0_init 13 = .ok (.putfield 15, 3) := by decide +kernel
theorem dX0_init_16 : decode cX0_init 16 = .ok (.aload_n 0, 1) := by decide +kernel
theorem dX0_init_17 : decode cX0_init 17 = .ok (.lconst 1, 1) := by decide +kernel
theorem dX0_init_18 : decode cX0_init 18 = .ok (.putfield 19, 3) := by decide +kernel
theorem dX0_init_21 : decode cX0_init 21 = .ok (.aload_n 0, 1) := by decide +kernel
theorem dX0_init_22 : decode cX0_init 22 = .ok (.iconst 5, 1) := by decide +kernel
theorem dX0_init_23 : decode cX0_init 23 = .ok (.newarray .long, 2) := by decide +kernel
theorem dX0_init_25 : decode cX0_init 25 = .ok (.putfield 22, 3) := by decide +kernel
theorem dX0_init_28 : decode cX0_init 28 = .ok (.aload_n 0, 1) := by decide +kernel
theorem dX0_init_29 : decode cX0_init 29 = .ok (.aload_n 1, 1) := by decide +kernel
theorem dX0_init_30 : decode cX0_init 30 = .ok (.putfield 25, 3) := by decide +kernel
theorem dX0_init_33 : decode cX0_init 33 = .ok (.aload_n 0, 1) := by decide +kernel
theorem dX0_init_34 : decode cX0_init 34 = .ok (.aload_n 2, 1) := by decide +kernel
theorem dX0_init_35 : decode cX0_init 35 = .ok (.putfield 29, 3) := by decide +kernel
theorem dX0_init_38 : decode cX0_init 38 = .ok (.return_, 1) := by decide +kernel
theorem dX0_startFrom_0 : decode cX0_startFrom 0 = .ok (.aload_n 0, 1) := by decide +kernel
theorem dX0_startFrom_1 : decode cX0_startFrom 1 = .ok (.iload_n 1, 1) := by decide +kernel
theorem dX0_startFrom_2 : decode cX0_startFrom 2 = .ok (.putfield 33, 3) := by decide +kernel
theorem dX0_startFrom_5 : decode cX0_startFrom 5 = .ok (.aload_n 0, 1) := by decide +kernel
theorem dX0_startFrom_6 : decode cX0_startFrom 6 = .ok (.aload_n 0, 1) := by decide +kernel
theorem dX0_startFrom_7 : decode cX0_startFrom 7 = .ok (.getfield 29, 3) := by decide +kernel
theorem dX0_startFrom_10 : decode cX0_startFrom 10 = .ok (.getfield 37, 3) := by decide +kernel
theorem dX0_startFrom_13 : decode cX0_startFrom 13 = .ok (.getfield 43, 3) := by decide +kernel
theorem dX0_startFrom_16 : decode cX0_startFrom 16 = .ok (.putfield 15, 3) := by decide +kernel
theorem dX0_startFrom_19 : decode cX0_startFrom 19 = .ok (.iconst 0, 1) := by decide +kernel
theorem dX0_startFrom_20 : decode cX0_startFrom 20 = .ok (.istore_n 3, 1) := by decide +kernel
theorem dX0_startFrom_21 : decode cX0_startFrom 21 = .ok (.iload_n 3, 1) := by decide +kernel
theorem dX0_startFrom_22 : decode cX0_startFrom 22 = .ok (.aload_n 0, 1) := by decide +kernel
theorem dX0_startFrom_23 : decode cX0_startFrom 23 = .ok (.getfield 25, 3) := by decide +kernel
theorem dX0_startFrom_26 : decode cX0_startFrom 26 = .ok (.getfield 48, 3) := by decide +kernel
theorem dX0_startFrom_29 : decode cX0_startFrom 29 = .ok (.if_icmp .ge 113, 3) := by decide +kernel
theorem dX0_startFrom_32 : decode cX0_startFrom 32 = .ok (.aload_n 0, 1) := by decide +kernel
theorem dX0_startFrom_33 : decode cX0_startFrom 33 = .ok (.getfield 22, 3) := by decide +kernel
theorem dX0_startFrom_36 : decode cX0_startFrom 36 = .ok (.iload_n 3, 1) := by decide +kernel
theorem dX0_startFrom_37 : decode cX0_startFrom 37 = .ok (.aload_n 0, 1) := by decide +kernel
theorem dX0_startFrom_38 : decode cX0_startFrom 38 = .ok (.getfield 29, 3) := by decide +kernel
theorem dX0_startFrom_41 : decode cX0_startFrom 41 = .ok (.getfield 37, 3) := by decide +kernel
theorem dX0_startFrom_44 : decode cX0_startFrom 44 = .ok (.iload_n 3, 1) := by decide +kernel
theorem dX0_startFrom_45 : decode cX0_startFrom 45 = .ok (.iload_n 2, 1) := by decide +kernel
theorem dX0_startFrom_46 : decode cX0_startFrom 46 = .ok (.i2l, 1) := by decide +kernel
theorem dX0_startFrom_47 : decode cX0_startFrom 47 = .ok (.lconst 1, 1) := by decide +kernel
theorem dX0_startFrom_48 : decode cX0_startFrom 48 = .ok (.invokevirtual 53, 3) := by decide +kernel
theorem dX0_startFrom_51 : decode cX0_startFrom 51 = .ok (.lastore, 1) := by decide +kernel
theorem dX0_startFrom_52 : decode cX0_startFrom 52 = .ok (.aload_n 0, 1) := by decide +kernel
theorem dX0_startFrom_53 : decode cX0_startFrom 53 = .ok (.getfield 22, 3) := by decide +kernel
theorem dX0_startFrom_56 : decode cX0_startFrom 56 = .ok (.iload_n 3, 1) := by decide +kernel
theorem dX0_startFrom_57 : decode cX0_startFrom 57 = .ok (.laload, 1) := by decide +kernel
theorem dX0_startFrom_58 : decode cX0_startFrom 58 = .ok (.aload_n 0, 1) := by decide +kernel
theorem dX0_startFrom_59 : decode cX0_startFrom 59 = .ok (.getfield 25, 3) := by decide +kernel
theorem dX0_startFrom_62 : decode cX0_startFrom 62 = .ok (.getfield 57, 3) := by decide +kernel
theorem dX0_startFrom_65 : decode cX0_startFrom 65 = .ok (.iload_n 3, 1) := by decide +kernel
theorem dX0_startFrom_66 : decode cX0_startFrom 66 = .ok (.iaload, 1) := by decide +kernel
theorem dX0_startFrom_67 : decode cX0_startFrom 67 = .ok (.i2l, 1) := by decide +kernel
theorem dX0_startFrom_68 : decode cX0_startFrom 68 = .ok (.aload_n 0, 1) := by decide +kernel
theorem dX0_startFrom_69 : decode cX0_startFrom 69 = .ok (.getfield 15, 3) := by decide +kernel
theorem dX0_startFrom_72 : decode cX0_startFrom 72 = .ok (.lmul, 1) := by decide +kernel
theorem dX0_startFrom_73 : decode cX0_startFrom 73 = .ok (.lsub, 1) := by decide +kernel
theorem dX0_startFrom_74 : decode cX0_startFrom 74 = .ok (.lstore 4, 2) := by decide +kernel
theorem dX0_startFrom_76 : decode cX0_startFrom 76 = .ok (.aload_n 0, 1) := by decide +kernel
theorem dX0_startFrom_77 : decode cX0_startFrom 77 = .ok (.getfield 9, 3) := by decide +kernel
theorem dX0_startFrom_80 : decode cX0_startFrom 80 = .ok (.iload_n 3, 1) := by decide +kernel
theorem dX0_startFrom_81 : decode cX0_startFrom 81 = .ok (.aload_n 0, 1) := by decide +kernel
theorem dX0_startFrom_82 : decode cX0_startFrom 82 = .ok (.getfield 25, 3) := by decide +kernel
theorem dX0_startFrom_85 : decode cX0_startFrom 85 = .ok (.getfield 61, 3) := by decide +kernel
theorem dX0_startFrom_88 : decode cX0_startFrom 88 = .ok (.iload_n 3, 1) := by decide +kernel
theorem dX0_startFrom_89 : decode cX0_startFrom 89 = .ok (.iaload, 1) := by decide +kernel
theorem dX0_startFrom_90 : decode cX0_startFrom 90 = .ok (.i2l, 1) := by decide +kernel
theorem dX0_startFrom_91 : decode cX0_startFrom 91 = .ok (.aload_n 0, 1) := by decide +kernel
theorem dX0_startFrom_92 : decode cX0_startFrom 92 = .ok (.getfield 15, 3) := by decide +kernel
theorem dX0_startFrom_95 : decode cX0_startFrom 95 = .ok (.lmul, 1) := by decide +kernel
theorem dX0_startFrom_96 : decode cX0_startFrom 96 = .ok (.lastore, 1) := by decide +kernel
theorem dX0_startFrom_97 : decode cX0_startFrom 97 = .ok (.lload 4, 2) := by decide +kernel
theorem dX0_startFrom_99 : decode cX0_startFrom 99 = .ok (.lconst 0, 1) := by decide +kernel
theorem dX0_startFrom_100 : decode cX0_startFrom 100 = .ok (.lcmp, 1) := by decide +kernel
theorem dX0_startFrom_101 : decode cX0_startFrom 101 = .ok (.ifCond .le 35, 3) := by decide +kernel
theorem dX0_startFrom_104 : decode cX0_startFrom 104 = .ok (.aload_n 0, 1) := by decide +kernel
theorem dX0_startFrom_105 : decode cX0_startFrom 105 = .ok (.getfield 9, 3) := by decide +kernel
theorem dX0_startFrom_108 : decode cX0_startFrom 108 = .ok (.iload_n 3, 1) := by decide +kernel
theorem dX0_startFrom_109 : decode cX0_startFrom 109 = .ok (.dup2, 1) := by decide +kernel
theorem dX0_startFrom_110 : decode cX0_startFrom 110 = .ok (.laload, 1) := by decide +kernel
theorem dX0_startFrom_111 : decode cX0_startFrom 111 = .ok (.aload_n 0, 1) := by decide +kernel
theorem dX0_startFrom_112 : decode cX0_startFrom 112 = .ok (.getfield 25, 3) := by decide +kernel
theorem dX0_startFrom_115 : decode cX0_startFrom 115 = .ok (.getfield 64, 3) := by decide +kernel
theorem dX0_startFrom_118 : decode cX0_startFrom 118 = .ok (.iload_n 3, 1) := by decide +kernel
theorem dX0_startFrom_119 : decode cX0_startFrom 119 = .ok (.iaload, 1) := by decide +kernel
theorem dX0_startFrom_120 : decode cX0_startFrom 120 = .ok (.aload_n 0, 1) := by decide +kernel
theorem dX0_startFrom_121 : decode cX0_startFrom 121 = .ok (.getfield 25, 3) := by decide +kernel
theorem dX0_startFrom_124 : decode cX0_startFrom 124 = .ok (.getfield 67, 3) := by decide +kernel
theorem dX0_startFrom_127 : decode cX0_startFrom 127 = .ok (.iload_n 3, 1) := by decide +kernel
theorem dX0_startFrom_128 : decode cX0_startFrom 128 = .ok (.iaload, 1) := by decide +kernel
theorem dX0_startFrom_129 : decode cX0_startFrom 129 = .ok (.isub, 1) := by decide +kernel
theorem dX0_startFrom_130 : decode cX0_startFrom 130 = .ok (.i2l, 1) := by decide +kernel
theorem dX0_startFrom_131 : decode cX0_startFrom 131 = .ok (.lload 4, 2) := by decide +kernel
theorem dX0_startFrom_133 : decode cX0_startFrom 133 = .ok (.lmul, 1) := by decide +kernel
theorem dX0_startFrom_134 : decode cX0_startFrom 134 = .ok (.ladd, 1) := by decide +kernel
theorem dX0_startFrom_135 : decode cX0_startFrom 135 = .ok (.lastore, 1) := by decide +kernel
theorem dX0_startFrom_136 : decode cX0_startFrom 136 = .ok (.iinc 3 1, 3) := by decide +kernel
theorem dX0_startFrom_139 : decode cX0_startFrom 139 = .ok (.goto (-118), 3) := by decide +kernel
theorem dX0_startFrom_142 : decode cX0_startFrom 142 = .ok (.return_, 1) := by decide +kernel
theorem dX0_comeTo_0 : decode cX0_comeTo 0 = .ok (.aload_n 0, 1) := by decide +kernel
theorem dX0_comeTo_1 : decode cX0_comeTo 1 = .ok (.getfield 33, 3) := by decide +kernel
theorem dX0_comeTo_4 : decode cX0_comeTo 4 = .ok (.istore_n 2, 1) := by decide +kernel
theorem dX0_comeTo_5 : decode cX0_comeTo 5 = .ok (.iconst 0, 1) := by decide +kernel
theorem dX0_comeTo_6 : decode cX0_comeTo 6 = .ok (.istore_n 3, 1) := by decide +kernel
theorem dX0_comeTo_7 : decode cX0_comeTo 7 = .ok (.iload_n 3, 1) := by decide +kernel
theorem dX0_comeTo_8 : decode cX0_comeTo 8 = .ok (.iconst 5, 1) := by decide +kernel
theorem dX0_comeTo_9 : decode cX0_comeTo 9 = .ok (.if_icmp .gt 85, 3) := by decide +kernel
theorem dX0_comeTo_12 : decode cX0_comeTo 12 = .ok (.aload_n 0, 1) := by decide +kernel
theorem dX0_comeTo_13 : decode cX0_comeTo 13 = .ok (.iload_n 2, 1) := by decide +kernel
theorem dX0_comeTo_14 : decode cX0_comeTo 14 = .ok (.invokevirtual 70, 3) := by decide +kernel
theorem dX0_comeTo_17 : decode cX0_comeTo 17 = .ok (.iconst 0, 1) := by decide +kernel
theorem dX0_comeTo_18 : decode cX0_comeTo 18 = .ok (.istore 4, 2) := by decide +kernel
theorem dX0_comeTo_20 : decode cX0_comeTo 20 = .ok (.iconst 0, 1) := by decide +kernel
theorem dX0_comeTo_21 : decode cX0_comeTo 21 = .ok (.istore 5, 2) := by decide +kernel
theorem dX0_comeTo_23 : decode cX0_comeTo 23 = .ok (.iload 5, 2) := by decide +kernel
theorem dX0_comeTo_25 : decode cX0_comeTo 25 = .ok (.aload_n 0, 1) := by decide +kernel
theorem dX0_comeTo_26 : decode cX0_comeTo 26 = .ok (.getfield 25, 3) := by decide +kernel
theorem dX0_comeTo_29 : decode cX0_comeTo 29 = .ok (.getfield 48, 3) := by decide +kernel
theorem dX0_comeTo_32 : decode cX0_comeTo 32 = .ok (.if_icmp .ge 43, 3) := by decide +kernel
theorem dX0_comeTo_35 : decode cX0_comeTo 35 = .ok (.aload_n 0, 1) := by decide +kernel
theorem dX0_comeTo_36 : decode cX0_comeTo 36 = .ok (.getfield 29, 3) := by decide +kernel
theorem dX0_comeTo_39 : decode cX0_comeTo 39 = .ok (.getfield 37, 3) := by decide +kernel
theorem dX0_comeTo_42 : decode cX0_comeTo 42 = .ok (.iload 5, 2) := by decide +kernel
theorem dX0_comeTo_44 : decode cX0_comeTo 44 = .ok (.iload_n 1, 1) := by decide +kernel
theorem dX0_comeTo_45 : decode cX0_comeTo 45 = .ok (.i2l, 1) := by decide +kernel
theorem dX0_comeTo_46 : decode cX0_comeTo 46 = .ok (.aload_n 0, 1) := by decide +kernel
theorem dX0_comeTo_47 : decode cX0_comeTo 47 = .ok (.getfield 15, 3) := by decide +kernel
theorem dX0_comeTo_50 : decode cX0_comeTo 50 = .ok (.lmul, 1) := by decide +kernel
theorem dX0_comeTo_51 : decode cX0_comeTo 51 = .ok (.lconst 1, 1) := by decide +kernel
theorem dX0_comeTo_52 : decode cX0_comeTo 52 = .ok (.invokevirtual 53, 3) := by decide +kernel
theorem dX0_comeTo_55 : decode cX0_comeTo 55 = .ok (.lconst 0, 1) := by decide +kernel
theorem dX0_comeTo_56 : decode cX0_comeTo 56 = .ok (.lcmp, 1) := by decide +kernel
theorem dX0_comeTo_57 : decode cX0_comeTo 57 = .ok (.ifCond .ge 12, 3) := by decide +kernel
theorem dX0_comeTo_60 : decode cX0_comeTo 60 = .ok (.iload 4, 2) := by decide +kernel
theorem dX0_comeTo_62 : decode cX0_comeTo 62 = .ok (.iconst 1, 1) := by decide +kernel
theorem dX0_comeTo_63 : decode cX0_comeTo 63 = .ok (.iload 5, 2) := by decide +kernel
theorem dX0_comeTo_65 : decode cX0_comeTo 65 = .ok (.ishl, 1) := by decide +kernel
theorem dX0_comeTo_66 : decode cX0_comeTo 66 = .ok (.ior, 1) := by decide +kernel
theorem dX0_comeTo_67 : decode cX0_comeTo 67 = .ok (.istore 4, 2) := by decide +kernel
theorem dX0_comeTo_69 : decode cX0_comeTo 69 = .ok (.iinc 5 1, 3) := by decide +kernel
theorem dX0_comeTo_72 : decode cX0_comeTo 72 = .ok (.goto (-49), 3) := by decide +kernel
theorem dX0_comeTo_75 : decode cX0_comeTo 75 = .ok (.iload 4, 2) := by decide +kernel
theorem dX0_comeTo_77 : decode cX0_comeTo 77 = .ok (.ifCond .ne 4, 3) := by decide +kernel
theorem dX0_comeTo_80 : decode cX0_comeTo 80 = .ok (.return_, 1) := by decide +kernel
theorem dX0_comeTo_81 : decode cX0_comeTo 81 = .ok (.iload_n 2, 1) := by decide +kernel
theorem dX0_comeTo_82 : decode cX0_comeTo 82 = .ok (.iload 4, 2) := by decide +kernel
theorem dX0_comeTo_84 : decode cX0_comeTo 84 = .ok (.iconst (-1), 1) := by decide +kernel
theorem dX0_comeTo_85 : decode cX0_comeTo 85 = .ok (.ixor, 1) := by decide +kernel
theorem dX0_comeTo_86 : decode cX0_comeTo 86 = .ok (.iand, 1) := by decide +kernel
theorem dX0_comeTo_87 : decode cX0_comeTo 87 = .ok (.istore_n 2, 1) := by decide +kernel
theorem dX0_comeTo_88 : decode cX0_comeTo 88 = .ok (.iinc 3 1, 3) := by decide +kernel
theorem dX0_comeTo_91 : decode cX0_comeTo 91 = .ok (.goto (-84), 3) := by decide +kernel
theorem dX0_comeTo_94 : decode cX0_comeTo 94 = .ok (.return_, 1) := by decide +kernel
theorem dX0_seekOpening_0 : decode cX0_seekOpening 0 = .ok (.aload_n 0, 1) := by decide +kernel
theorem dX0_seekOpening_1 : decode cX0_seekOpening 1 = .ok (.iload_n 1, 1) := by decide +kernel
theorem dX0_seekOpening_2 : decode cX0_seekOpening 2 = .ok (.invokevirtual 70, 3) := by decide +kernel
theorem dX0_seekOpening_5 : decode cX0_seekOpening 5 = .ok (.iconst (-1), 1) := by decide +kernel
theorem dX0_seekOpening_6 : decode cX0_seekOpening 6 = .ok (.istore_n 3, 1) := by decide +kernel
theorem dX0_seekOpening_7 : decode cX0_seekOpening 7 = .ok (.lconst 1, 1) := by decide +kernel
theorem dX0_seekOpening_8 : decode cX0_seekOpening 8 = .ok (.lstore 4, 2) := by decide +kernel
theorem dX0_seekOpening_10 : decode cX0_seekOpening 10 = .ok (.iconst 0, 1) := by decide +kernel
theorem dX0_seekOpening_11 : decode cX0_seekOpening 11 = .ok (.istore 6, 2) := by decide +kernel
theorem dX0_seekOpening_13 : decode cX0_seekOpening 13 = .ok (.iload 6, 2) := by decide +kernel
theorem dX0_seekOpening_15 : decode cX0_seekOpening 15 = .ok (.aload_n 0, 1) := by decide +kernel
theorem dX0_seekOpening_16 : decode cX0_seekOpening 16 = .ok (.getfield 25, 3) := by decide +kernel
theorem dX0_seekOpening_19 : decode cX0_seekOpening 19 = .ok (.getfield 48, 3) := by decide +kernel
theorem dX0_seekOpening_22 : decode cX0_seekOpening 22 = .ok (.if_icmp .ge 65, 3) := by decide +kernel
theorem dX0_seekOpening_25 : decode cX0_seekOpening 25 = .ok (.aload_n 0, 1) := by decide +kernel
theorem dX0_seekOpening_26 : decode cX0_seekOpening 26 = .ok (.getfield 29, 3) := by decide +kernel
theorem dX0_seekOpening_29 : decode cX0_seekOpening 29 = .ok (.getfield 37, 3) := by decide +kernel
theorem dX0_seekOpening_32 : decode cX0_seekOpening 32 = .ok (.getfield 74, 3) := by decide +kernel
theorem dX0_seekOpening_35 : decode cX0_seekOpening 35 = .ok (.iload 6, 2) := by decide +kernel
theorem dX0_seekOpening_37 : decode cX0_seekOpening 37 = .ok (.laload, 1) := by decide +kernel
theorem dX0_seekOpening_38 : decode cX0_seekOpening 38 = .ok (.lstore 7, 2) := by decide +kernel
theorem dX0_seekOpening_40 : decode cX0_seekOpening 40 = .ok (.lload 7, 2) := by decide +kernel
theorem dX0_seekOpening_42 : decode cX0_seekOpening 42 = .ok (.lconst 0, 1) := by decide +kernel
theorem dX0_seekOpening_43 : decode cX0_seekOpening 43 = .ok (.lcmp, 1) := by decide +kernel
theorem dX0_seekOpening_44 : decode cX0_seekOpening 44 = .ok (.ifCond .le 37, 3) := by decide +kernel
theorem dX0_seekOpening_47 : decode cX0_seekOpening 47 = .ok (.iload_n 3, 1) := by decide +kernel
theorem dX0_seekOpening_48 : decode cX0_seekOpening 48 = .ok (.ifCond .lt 26, 3) := by decide +kernel
theorem dX0_seekOpening_51 : decode cX0_seekOpening 51 = .ok (.aload_n 0, 1) := by decide +kernel
theorem dX0_seekOpening_52 : decode cX0_seekOpening 52 = .ok (.getfield 22, 3) := by decide +kernel
theorem dX0_seekOpening_55 : decode cX0_seekOpening 55 = .ok (.iload 6, 2) := by decide +kernel
theorem dX0_seekOpening_57 : decode cX0_seekOpening 57 = .ok (.laload, 1) := by decide +kernel
theorem dX0_seekOpening_58 : decode cX0_seekOpening 58 = .ok (.lload 4, 2) := by decide +kernel
theorem dX0_seekOpening_60 : decode cX0_seekOpening 60 = .ok (.lmul, 1) := by decide +kernel
theorem dX0_seekOpening_61 : decode cX0_seekOpening 61 = .ok (.aload_n 0, 1) := by decide +kernel
theorem dX0_seekOpening_62 : decode cX0_seekOpening 62 = .ok (.getfield 22, 3) := by decide +kernel
theorem dX0_seekOpening_65 : decode cX0_seekOpening 65 = .ok (.iload_n 3, 1) := by decide +kernel
theorem dX0_seekOpening_66 : decode cX0_seekOpening 66 = .ok (.laload, 1) := by decide +kernel
theorem dX0_seekOpening_67 : decode cX0_seekOpening 67 = .ok (.lload 7, 2) := by decide +kernel
theorem dX0_seekOpening_69 : decode cX0_seekOpening 69 = .ok (.lmul, 1) := by decide +kernel
theorem dX0_seekOpening_70 : decode cX0_seekOpening 70 = .ok (.lcmp, 1) := by decide +kernel
theorem dX0_seekOpening_71 : decode cX0_seekOpening 71 = .ok (.ifCond .ge 10, 3) := by decide +kernel
theorem dX0_seekOpening_74 : decode cX0_seekOpening 74 = .ok (.iload 6, 2) := by decide +kernel
theorem dX0_seekOpening_76 : decode cX0_seekOpening 76 = .ok (.istore_n 3, 1) := by decide +kernel
theorem dX0_seekOpening_77 : decode cX0_seekOpening 77 = .ok (.lload 7, 2) := by decide +kernel
theorem dX0_seekOpening_79 : decode cX0_seekOpening 79 = .ok (.lstore 4, 2) := by decide +kernel
theorem dX0_seekOpening_81 : decode cX0_seekOpening 81 = .ok (.iinc 6 1, 3) := by decide +kernel
theorem dX0_seekOpening_84 : decode cX0_seekOpening 84 = .ok (.goto (-71), 3) := by decide +kernel
theorem dX0_seekOpening_87 : decode cX0_seekOpening 87 = .ok (.iload_n 3, 1) := by decide +kernel
theorem dX0_seekOpening_88 : decode cX0_seekOpening 88 = .ok (.ifCond .lt 43, 3) := by decide +kernel
theorem dX0_seekOpening_91 : decode cX0_seekOpening 91 = .ok (.aload_n 0, 1) := by decide +kernel
theorem dX0_seekOpening_92 : decode cX0_seekOpening 92 = .ok (.aload_n 0, 1) := by decide +kernel
theorem dX0_seekOpening_93 : decode cX0_seekOpening 93 = .ok (.getfield 15, 3) := by decide +kernel
theorem dX0_seekOpening_96 : decode cX0_seekOpening 96 = .ok (.lload 4, 2) := by decide +kernel
theorem dX0_seekOpening_98 : decode cX0_seekOpening 98 = .ok (.lmul, 1) := by decide +kernel
theorem dX0_seekOpening_99 : decode cX0_seekOpening 99 = .ok (.putfield 19, 3) := by decide +kernel
theorem dX0_seekOpening_102 : decode cX0_seekOpening 102 = .ok (.aload_n 0, 1) := by decide +kernel
theorem dX0_seekOpening_103 : decode cX0_seekOpening 103 = .ok (.iload_n 2, 1) := by decide +kernel
theorem dX0_seekOpening_104 : decode cX0_seekOpening 104 = .ok (.i2l, 1) := by decide +kernel
theorem dX0_seekOpening_105 : decode cX0_seekOpening 105 = .ok (.aload_n 0, 1) := by decide +kernel
theorem dX0_seekOpening_106 : decode cX0_seekOpening 106 = .ok (.getfield 19, 3) := by decide +kernel
theorem dX0_seekOpening_109 : decode cX0_seekOpening 109 = .ok (.lmul, 1) := by decide +kernel
theorem dX0_seekOpening_110 : decode cX0_seekOpening 110 = .ok (.aload_n 0, 1) := by decide +kernel
theorem dX0_seekOpening_111 : decode cX0_seekOpening 111 = .ok (.getfield 22, 3) := by decide +kernel
theorem dX0_seekOpening_114 : decode cX0_seekOpening 114 = .ok (.iload_n 3, 1) := by decide +kernel
theorem dX0_seekOpening_115 : decode cX0_seekOpening 115 = .ok (.laload, 1) := by decide +kernel
theorem dX0_seekOpening_116 : decode cX0_seekOpening 116 = .ok (.aload_n 0, 1) := by decide +kernel
theorem dX0_seekOpening_117 : decode cX0_seekOpening 117 = .ok (.getfield 29, 3) := by decide +kernel
theorem dX0_seekOpening_120 : decode cX0_seekOpening 120 = .ok (.getfield 37, 3) := by decide +kernel
theorem dX0_seekOpening_123 : decode cX0_seekOpening 123 = .ok (.getfield 43, 3) := by decide +kernel
theorem dX0_seekOpening_126 : decode cX0_seekOpening 126 = .ok (.lmul, 1) := by decide +kernel
theorem dX0_seekOpening_127 : decode cX0_seekOpening 127 = .ok (.lsub, 1) := by decide +kernel
theorem dX0_seekOpening_128 : decode cX0_seekOpening 128 = .ok (.putfield 77, 3) := by decide +kernel
theorem dX0_seekOpening_131 : decode cX0_seekOpening 131 = .ok (.iload_n 3, 1) := by decide +kernel
theorem dX0_seekOpening_132 : decode cX0_seekOpening 132 = .ok (.ireturn, 1) := by decide +kernel
theorem dX0_layLines_0 : decode cX0_layLines 0 = .ok (.iconst 0, 1) := by decide +kernel
theorem dX0_layLines_1 : decode cX0_layLines 1 = .ok (.istore_n 2, 1) := by decide +kernel
theorem dX0_layLines_2 : decode cX0_layLines 2 = .ok (.iload_n 2, 1) := by decide +kernel
theorem dX0_layLines_3 : decode cX0_layLines 3 = .ok (.aload_n 0, 1) := by decide +kernel
theorem dX0_layLines_4 : decode cX0_layLines 4 = .ok (.getfield 25, 3) := by decide +kernel
theorem dX0_layLines_7 : decode cX0_layLines 7 = .ok (.getfield 48, 3) := by decide +kernel
theorem dX0_layLines_10 : decode cX0_layLines 10 = .ok (.if_icmp .ge 61, 3) := by decide +kernel
theorem dX0_layLines_13 : decode cX0_layLines 13 = .ok (.aload_n 0, 1) := by decide +kernel
theorem dX0_layLines_14 : decode cX0_layLines 14 = .ok (.getfield 29, 3) := by decide +kernel
theorem dX0_layLines_17 : decode cX0_layLines 17 = .ok (.getfield 37, 3) := by decide +kernel
theorem dX0_layLines_20 : decode cX0_layLines 20 = .ok (.getfield 80, 3) := by decide +kernel
theorem dX0_layLines_23 : decode cX0_layLines 23 = .ok (.iload_n 2, 1) := by decide +kernel
theorem dX0_layLines_24 : decode cX0_layLines 24 = .ok (.iload_n 1, 1) := by decide +kernel
theorem dX0_layLines_25 : decode cX0_layLines 25 = .ok (.iload_n 2, 1) := by decide +kernel
theorem dX0_layLines_26 : decode cX0_layLines 26 = .ok (.ishr, 1) := by decide +kernel
theorem dX0_layLines_27 : decode cX0_layLines 27 = .ok (.iconst 1, 1) := by decide +kernel
theorem dX0_layLines_28 : decode cX0_layLines 28 = .ok (.iand, 1) := by decide +kernel
theorem dX0_layLines_29 : decode cX0_layLines 29 = .ok (.iconst 1, 1) := by decide +kernel
theorem dX0_layLines_30 : decode cX0_layLines 30 = .ok (.if_icmp .ne 15, 3) := by decide +kernel
theorem dX0_layLines_33 : decode cX0_layLines 33 = .ok (.aload_n 0, 1) := by decide +kernel
theorem dX0_layLines_34 : decode cX0_layLines 34 = .ok (.getfield 25, 3) := by decide +kernel
theorem dX0_layLines_37 : decode cX0_layLines 37 = .ok (.getfield 67, 3) := by decide +kernel
theorem dX0_layLines_40 : decode cX0_layLines 40 = .ok (.iload_n 2, 1) := by decide +kernel
theorem dX0_layLines_41 : decode cX0_layLines 41 = .ok (.iaload, 1) := by decide +kernel
theorem dX0_layLines_42 : decode cX0_layLines 42 = .ok (.goto 4, 3) := by decide +kernel
theorem dX0_layLines_45 : decode cX0_layLines 45 = .ok (.iconst 0, 1) := by decide +kernel
theorem dX0_layLines_46 : decode cX0_layLines 46 = .ok (.iastore, 1) := by decide +kernel
theorem dX0_layLines_47 : decode cX0_layLines 47 = .ok (.aload_n 0, 1) := by decide +kernel
theorem dX0_layLines_48 : decode cX0_layLines 48 = .ok (.getfield 29, 3) := by decide +kernel
theorem dX0_layLines_51 : decode cX0_layLines 51 = .ok (.getfield 37, 3) := by decide +kernel
theorem dX0_layLines_54 : decode cX0_layLines 54 = .ok (.getfield 83, 3) := by decide +kernel
theorem dX0_layLines_57 : decode cX0_layLines 57 = .ok (.iload_n 2, 1) := by decide +kernel
theorem dX0_layLines_58 : decode cX0_layLines 58 = .ok (.aload_n 0, 1) := by decide +kernel
theorem dX0_layLines_59 : decode cX0_layLines 59 = .ok (.getfield 9, 3) := by decide +kernel
theorem dX0_layLines_62 : decode cX0_layLines 62 = .ok (.iload_n 2, 1) := by decide +kernel
theorem dX0_layLines_63 : decode cX0_layLines 63 = .ok (.laload, 1) := by decide +kernel
theorem dX0_layLines_64 : decode cX0_layLines 64 = .ok (.lastore, 1) := by decide +kernel
theorem dX0_layLines_65 : decode cX0_layLines 65 = .ok (.iinc 2 1, 3) := by decide +kernel
theorem dX0_layLines_68 : decode cX0_layLines 68 = .ok (.goto (-66), 3) := by decide +kernel
theorem dX0_layLines_71 : decode cX0_layLines 71 = .ok (.aload_n 0, 1) := by decide +kernel
theorem dX0_layLines_72 : decode cX0_layLines 72 = .ok (.getfield 29, 3) := by decide +kernel
theorem dX0_layLines_75 : decode cX0_layLines 75 = .ok (.getfield 37, 3) := by decide +kernel
theorem dX0_layLines_78 : decode cX0_layLines 78 = .ok (.invokevirtual 86, 3) := by decide +kernel
theorem dX0_layLines_81 : decode cX0_layLines 81 = .ok (.aload_n 0, 1) := by decide +kernel
theorem dX0_layLines_82 : decode cX0_layLines 82 = .ok (.getfield 29, 3) := by decide +kernel
theorem dX0_layLines_85 : decode cX0_layLines 85 = .ok (.getfield 37, 3) := by decide +kernel
theorem dX0_layLines_88 : decode cX0_layLines 88 = .ok (.invokevirtual 89, 3) := by decide +kernel
theorem dX0_layLines_91 : decode cX0_layLines 91 = .ok (.return_, 1) := by decide +kernel
theorem dX1_init_0 : decode cX1_init 0 = .ok (.aload_n 0, 1) := by decide +kernel
theorem dX1_init_1 : decode cX1_init 1 = .ok (.invokespecial 3, 3) := by decide +kernel
theorem dX1_init_4 : decode cX1_init 4 = .ok (.aload_n 0, 1) := by decide +kernel
theorem dX1_init_5 : decode cX1_init 5 = .ok (.iconst 5, 1) := by decide +kernel
theorem dX1_init_6 : decode cX1_init 6 = .ok (.newarray .int, 2) := by decide +kernel
theorem dX1_init_8 : decode cX1_init 8 = .ok (.putfield 9, 3) := by decide +kernel
theorem dX1_init_11 : decode cX1_init 11 = .ok (.aload_n 0, 1) := by decide +kernel
theorem dX1_init_12 : decode cX1_init 12 = .ok (.iconst 5, 1) := by decide +kernel
theorem dX1_init_13 : decode cX1_init 13 = .ok (.newarray .int, 2) := by decide +kernel
theorem dX1_init_15 : decode cX1_init 15 = .ok (.putfield 15, 3) := by decide +kernel
theorem dX1_init_18 : decode cX1_init 18 = .ok (.aload_n 0, 1) := by decide +kernel
theorem dX1_init_19 : decode cX1_init 19 = .ok (.bipush 15, 2) := by decide +kernel
theorem dX1_init_21 : decode cX1_init 21 = .ok (.newarray .int, 2) := by decide +kernel
theorem dX1_init_23 : decode cX1_init 23 = .ok (.putfield 18, 3) := by decide +kernel
theorem dX1_init_26 : decode cX1_init 26 = .ok (.aload_n 0, 1) := by decide +kernel
theorem dX1_init_27 : decode cX1_init 27 = .ok (.bipush 15, 2) := by decide +kernel
theorem dX1_init_29 : decode cX1_init 29 = .ok (.newarray .int, 2) := by decide +kernel
theorem dX1_init_31 : decode cX1_init 31 = .ok (.putfield 21, 3) := by decide +kernel
theorem dX1_init_34 : decode cX1_init 34 = .ok (.aload_n 0, 1) := by decide +kernel
theorem dX1_init_35 : decode cX1_init 35 = .ok (.bipush 15, 2) := by decide +kernel
theorem dX1_init_37 : decode cX1_init 37 = .ok (.newarray .long, 2) := by decide +kernel
theorem dX1_init_39 : decode cX1_init 39 = .ok (.putfield 24, 3) := by decide +kernel
theorem dX1_init_42 : decode cX1_init 42 = .ok (.aload_n 0, 1) := by decide +kernel
theorem dX1_init_43 : decode cX1_init 43 = .ok (.bipush 15, 2) := by decide +kernel
theorem dX1_init_45 : decode cX1_init 45 = .ok (.newarray .long, 2) := by decide +kernel
theorem dX1_init_47 : decode cX1_init 47 = .ok (.putfield 28, 3) := by decide +kernel
theorem dX1_init_50 : decode cX1_init 50 = .ok (.aload_n 0, 1) := by decide +kernel
theorem dX1_init_51 : decode cX1_init 51 = .ok (.lconst 1, 1) := by decide +kernel
theorem dX1_init_52 : decode cX1_init 52 = .ok (.putfield 31, 3) := by decide +kernel
theorem dX1_init_55 : decode cX1_init 55 = .ok (.aload_n 0, 1) := by decide +kernel
theorem dX1_init_56 : decode cX1_init 56 = .ok (.iconst 5, 1) := by decide +kernel
theorem dX1_init_57 : decode cX1_init 57 = .ok (.newarray .long, 2) := by decide +kernel
theorem dX1_init_59 : decode cX1_init 59 = .ok (.putfield 35, 3) := by decide +kernel
theorem dX1_init_62 : decode cX1_init 62 = .ok (.aload_n 0, 1) := by decide +kernel
theorem dX1_init_63 : decode cX1_init 63 = .ok (.iconst 5, 1) := by decide +kernel
theorem dX1_init_64 : decode cX1_init 64 = .ok (.newarray .long, 2) := by decide +kernel
theorem dX1_init_66 : decode cX1_init 66 = .ok (.putfield 38, 3) := by decide +kernel
theorem dX1_init_69 : decode cX1_init 69 = .ok (.aload_n 0, 1) := by decide +kernel
theorem dX1_init_70 : decode cX1_init 70 = .ok (.iconst 5, 1) := by decide +kernel
theorem dX1_init_71 : decode cX1_init 71 = .ok (.newarray .long, 2) := by decide +kernel
theorem dX1_init_73 : decode cX1_init 73 = .ok (.putfield 41, 3) := by decide +kernel
theorem dX1_init_76 : decode cX1_init 76 = .ok (.aload_n 0, 1) := by decide +kernel
theorem dX1_init_77 : decode cX1_init 77 = .ok (.lconst 1, 1) := by decide +kernel
theorem dX1_init_78 : decode cX1_init 78 = .ok (.putfield 44, 3) := by decide +kernel
theorem dX1_init_81 : decode cX1_init 81 = .ok (.aload_n 0, 1) := by decide +kernel
theorem dX1_init_82 : decode cX1_init 82 = .ok (.aload_n 1, 1) := by decide +kernel
theorem dX1_init_83 : decode cX1_init 83 = .ok (.putfield 47, 3) := by decide +kernel
theorem dX1_init_86 : decode cX1_init 86 = .ok (.aload_n 0, 1) := by decide +kernel
theorem dX1_init_87 : decode cX1_init 87 = .ok (.new 51, 3) := by decide +kernel
theorem dX1_init_90 : decode cX1_init 90 = .ok (.dup, 1) := by decide +kernel
theorem dX1_init_91 : decode cX1_init 91 = .ok (.aload_n 1, 1) := by decide +kernel
theorem dX1_init_92 : decode cX1_init 92 = .ok (.invokespecial 53, 3) := by decide +kernel
theorem dX1_init_95 : decode cX1_init 95 = .ok (.putfield 56, 3) := by decide +kernel
theorem dX1_init_98 : decode cX1_init 98 = .ok (.return_, 1) := by decide +kernel
theorem dX1_run_0 : decode cX1_run 0 = .ok (.aload_n 0, 1) := by decide +kernel
theorem dX1_run_1 : decode cX1_run 1 = .ok (.getfield 60, 3) := by decide +kernel
theorem dX1_run_4 : decode cX1_run 4 = .ok (.ifCond .eq 4, 3) := by decide +kernel
theorem dX1_run_7 : decode cX1_run 7 = .ok (.return_, 1) := by decide +kernel
theorem dX1_run_8 : decode cX1_run 8 = .ok (.aload_n 0, 1) := by decide +kernel
theorem dX1_run_9 : decode cX1_run 9 = .ok (.iconst 1, 1) := by decide +kernel
theorem dX1_run_10 : decode cX1_run 10 = .ok (.putfield 60, 3) := by decide +kernel
theorem dX1_run_13 : decode cX1_run 13 = .ok (.aload_n 0, 1) := by decide +kernel
theorem dX1_run_14 : decode cX1_run 14 = .ok (.iconst 0, 1) := by decide +kernel
theorem dX1_run_15 : decode cX1_run 15 = .ok (.putfield 64, 3) := by decide +kernel
theorem dX1_run_18 : decode cX1_run 18 = .ok (.aload_n 0, 1) := by decide +kernel
theorem dX1_run_19 : decode cX1_run 19 = .ok (.lconst 0, 1) := by decide +kernel
theorem dX1_run_20 : decode cX1_run 20 = .ok (.putfield 68, 3) := by decide +kernel
theorem dX1_run_23 : decode cX1_run 23 = .ok (.aload_n 0, 1) := by decide +kernel
theorem dX1_run_24 : decode cX1_run 24 = .ok (.lconst 1, 1) := by decide +kernel
theorem dX1_run_25 : decode cX1_run 25 = .ok (.putfield 31, 3) := by decide +kernel
theorem dX1_run_28 : decode cX1_run 28 = .ok (.aload_n 0, 1) := by decide +kernel
theorem dX1_run_29 : decode cX1_run 29 = .ok (.getfield 47, 3) := by decide +kernel
theorem dX1_run_32 : decode cX1_run 32 = .ok (.invokevirtual 71, 3) := by decide +kernel
theorem dX1_run_35 : decode cX1_run 35 = .ok (.istore_n 1, 1) := by decide +kernel
theorem dX1_run_36 : decode cX1_run 36 = .ok (.aload_n 0, 1) := by decide +kernel
theorem dX1_run_37 : decode cX1_run 37 = .ok (.iload_n 1, 1) := by decide +kernel
theorem dX1_run_38 : decode cX1_run 38 = .ok (.invokevirtual 77, 3) := by decide +kernel
theorem dX1_run_41 : decode cX1_run 41 = .ok (.iconst 0, 1) := by decide +kernel
theorem dX1_run_42 : decode cX1_run 42 = .ok (.istore_n 2, 1) := by decide +kernel
theorem dX1_run_43 : decode cX1_run 43 = .ok (.iload_n 2, 1) := by decide +kernel
theorem dX1_run_44 : decode cX1_run 44 = .ok (.aload_n 0, 1) := by decide +kernel
theorem dX1_run_45 : decode cX1_run 45 = .ok (.getfield 47, 3) := by decide +kernel
theorem dX1_run_48 : decode cX1_run 48 = .ok (.getfield 81, 3) := by decide +kernel
theorem dX1_run_51 : decode cX1_run 51 = .ok (.if_icmp .ge 25, 3) := by decide +kernel
theorem dX1_run_54 : decode cX1_run 54 = .ok (.aload_n 0, 1) := by decide +kernel
theorem dX1_run_55 : decode cX1_run 55 = .ok (.getfield 9, 3) := by decide +kernel
theorem dX1_run_58 : decode cX1_run 58 = .ok (.iload_n 2, 1) := by decide +kernel
theorem dX1_run_59 : decode cX1_run 59 = .ok (.iaload, 1) := by decide +kernel
theorem dX1_run_60 : decode cX1_run 60 = .ok (.iconst 1, 1) := by decide +kernel
theorem dX1_run_61 : decode cX1_run 61 = .ok (.if_icmp .ne 9, 3) := by decide +kernel
theorem dX1_run_64 : decode cX1_run 64 = .ok (.aload_n 0, 1) := by decide +kernel
theorem dX1_run_65 : decode cX1_run 65 = .ok (.iconst 0, 1) := by decide +kernel
theorem dX1_run_66 : decode cX1_run 66 = .ok (.iload_n 2, 1) := by decide +kernel
theorem dX1_run_67 : decode cX1_run 67 = .ok (.invokevirtual 84, 3) := by decide +kernel
theorem dX1_run_70 : decode cX1_run 70 = .ok (.iinc 2 1, 3) := by decide +kernel
theorem dX1_run_73 : decode cX1_run 73 = .ok (.goto (-30), 3) := by decide +kernel
theorem dX1_run_76 : decode cX1_run 76 = .ok (.iconst 0, 1) := by decide +kernel
theorem dX1_run_77 : decode cX1_run 77 = .ok (.istore_n 2, 1) := by decide +kernel
theorem dX1_run_78 : decode cX1_run 78 = .ok (.iload_n 2, 1) := by decide +kernel
theorem dX1_run_79 : decode cX1_run 79 = .ok (.bipush 15, 2) := by decide +kernel
theorem dX1_run_81 : decode cX1_run 81 = .ok (.if_icmp .ge 63, 3) := by decide +kernel
theorem dX1_run_84 : decode cX1_run 84 = .ok (.iload_n 1, 1) := by decide +kernel
theorem dX1_run_85 : decode cX1_run 85 = .ok (.ifCond .eq 59, 3) := by decide +kernel
theorem dX1_run_88 : decode cX1_run 88 = .ok (.aload_n 0, 1) := by decide +kernel
theorem dX1_run_89 : decode cX1_run 89 = .ok (.iconst 1, 1) := by decide +kernel
theorem dX1_run_90 : decode cX1_run 90 = .ok (.invokevirtual 88, 3) := by decide +kernel
theorem dX1_run_93 : decode cX1_run 93 = .ok (.ifCond .ne 4, 3) := by decide +kernel
theorem dX1_run_96 : decode cX1_run 96 = .ok (.return_, 1) := by decide +kernel
theorem dX1_run_97 : decode cX1_run 97 = .ok (.aload_n 0, 1) := by decide +kernel
theorem dX1_run_98 : decode cX1_run 98 = .ok (.aload_n 0, 1) := by decide +kernel
theorem dX1_run_99 : decode cX1_run 99 = .ok (.getfield 92, 3) := by decide +kernel
theorem dX1_run_102 : decode cX1_run 102 = .ok (.aload_n 0, 1) := by decide +kernel
theorem dX1_run_103 : decode cX1_run 103 = .ok (.getfield 95, 3) := by decide +kernel
theorem dX1_run_106 : decode cX1_run 106 = .ok (.invokevirtual 98, 3) := by decide +kernel
theorem dX1_run_109 : decode cX1_run 109 = .ok (.aload_n 0, 1) := by decide +kernel
theorem dX1_run_110 : decode cX1_run 110 = .ok (.iconst 0, 1) := by decide +kernel
theorem dX1_run_111 : decode cX1_run 111 = .ok (.iconst 0, 1) := by decide +kernel
theorem dX1_run_112 : decode cX1_run 112 = .ok (.invokevirtual 102, 3) := by decide +kernel
theorem dX1_run_115 : decode cX1_run 115 = .ok (.aload_n 0, 1) := by decide +kernel
theorem dX1_run_116 : decode cX1_run 116 = .ok (.iconst 1, 1) := by decide +kernel
theorem dX1_run_117 : decode cX1_run 117 = .ok (.iconst 1, 1) := by decide +kernel
theorem dX1_run_118 : decode cX1_run 118 = .ok (.invokevirtual 102, 3) := by decide +kernel
theorem dX1_run_121 : decode cX1_run 121 = .ok (.aload_n 0, 1) := by decide +kernel
theorem dX1_run_122 : decode cX1_run 122 = .ok (.iconst 2, 1) := by decide +kernel
theorem dX1_run_123 : decode cX1_run 123 = .ok (.invokevirtual 105, 3) := by decide +kernel
theorem dX1_run_126 : decode cX1_run 126 = .ok (.istore_n 3, 1) := by decide +kernel
theorem dX1_run_127 : decode cX1_run 127 = .ok (.aload_n 0, 1) := by decide +kernel
theorem dX1_run_128 : decode cX1_run 128 = .ok (.invokevirtual 109, 3) := by decide +kernel
theorem dX1_run_131 : decode cX1_run 131 = .ok (.aload_n 0, 1) := by decide +kernel
theorem dX1_run_132 : decode cX1_run 132 = .ok (.iload_n 3, 1) := by decide +kernel
theorem dX1_run_133 : decode cX1_run 133 = .ok (.iload_n 1, 1) := by decide +kernel
theorem dX1_run_134 : decode cX1_run 134 = .ok (.invokevirtual 112, 3) := by decide +kernel
theorem dX1_run_137 : decode cX1_run 137 = .ok (.istore_n 1, 1) := by decide +kernel
theorem dX1_run_138 : decode cX1_run 138 = .ok (.iinc 2 1, 3) := by decide +kernel
theorem dX1_run_141 : decode cX1_run 141 = .ok (.goto (-63), 3) := by decide +kernel
theorem dX1_run_144 : decode cX1_run 144 = .ok (.return_, 1) := by decide +kernel
theorem dX1_settle_0 : decode cX1_settle 0 = .ok (.aload_n 0, 1) := by decide +kernel
theorem dX1_settle_1 : decode cX1_settle 1 = .ok (.iload_n 1, 1) := by decide +kernel
theorem dX1_settle_2 : decode cX1_settle 2 = .ok (.invokevirtual 77, 3) := by decide +kernel
theorem dX1_settle_5 : decode cX1_settle 5 = .ok (.iconst 0, 1) := by decide +kernel
theorem dX1_settle_6 : decode cX1_settle 6 = .ok (.istore 6, 2) := by decide +kernel
theorem dX1_settle_8 : decode cX1_settle 8 = .ok (.iload 6, 2) := by decide +kernel
theorem dX1_settle_10 : decode cX1_settle 10 = .ok (.bipush 15, 2) := by decide +kernel
theorem dX1_settle_12 : decode cX1_settle 12 = .ok (.if_icmp .gt 39, 3) := by decide +kernel
theorem dX1_settle_15 : decode cX1_settle 15 = .ok (.aload_n 0, 1) := by decide +kernel
theorem dX1_settle_16 : decode cX1_settle 16 = .ok (.iconst 0, 1) := by decide +kernel
theorem dX1_settle_17 : decode cX1_settle 17 = .ok (.invokevirtual 88, 3) := by decide +kernel
theorem dX1_settle_20 : decode cX1_settle 20 = .ok (.ifCond .eq 20, 3) := by decide +kernel
theorem dX1_settle_23 : decode cX1_settle 23 = .ok (.aload_n 0, 1) := by decide +kernel
theorem dX1_settle_24 : decode cX1_settle 24 = .ok (.getfield 92, 3) := by decide +kernel
theorem dX1_settle_27 : decode cX1_settle 27 = .ok (.lload 4, 2) := by decide +kernel
theorem dX1_settle_29 : decode cX1_settle 29 = .ok (.lmul, 1) := by decide +kernel
theorem dX1_settle_30 : decode cX1_settle 30 = .ok (.lload_n 2, 1) := by decide +kernel
theorem dX1_settle_31 : decode cX1_settle 31 = .ok (.aload_n 0, 1) := by decide +kernel
theorem dX1_settle_32 : decode cX1_settle 32 = .ok (.getfield 95, 3) := by decide +kernel
theorem dX1_settle_35 : decode cX1_settle 35 = .ok (.lmul, 1) := by decide +kernel
theorem dX1_settle_36 : decode cX1_settle 36 = .ok (.lcmp, 1) := by decide +kernel
theorem dX1_settle_37 : decode cX1_settle 37 = .ok (.ifCond .lt 4, 3) := by decide +kernel
theorem dX1_settle_40 : decode cX1_settle 40 = .ok (.return_, 1) := by decide +kernel
theorem dX1_settle_41 : decode cX1_settle 41 = .ok (.aload_n 0, 1) := by decide +kernel
theorem dX1_settle_42 : decode cX1_settle 42 = .ok (.invokevirtual 109, 3) := by decide +kernel
theorem dX1_settle_45 : decode cX1_settle 45 = .ok (.iinc 6 1, 3) := by decide +kernel
theorem dX1_settle_48 : decode cX1_settle 48 = .ok (.goto (-40), 3) := by decide +kernel
theorem dX1_settle_51 : decode cX1_settle 51 = .ok (.return_, 1) := by decide +kernel
theorem dX1_compareForces_0 : decode cX1_compareForces 0 = .ok (.aload_n 0, 1) := by decide +kernel
theorem dX1_compareForces_1 : decode cX1_compareForces 1 = .ok (.iload_n 1, 1) := by decide +kernel
theorem dX1_compareForces_2 : decode cX1_compareForces 2 = .ok (.lload_n 3, 1) := by decide +kernel
theorem dX1_compareForces_3 : decode cX1_compareForces 3 = .ok (.lload 5, 2) := by decide +kernel
theorem dX1_compareForces_5 : decode cX1_compareForces 5 = .ok (.invokevirtual 116, 3) := by decide +kernel
theorem dX1_compareForces_8 : decode cX1_compareForces 8 = .ok (.aload_n 0, 1) := by decide +kernel
theorem dX1_compareForces_9 : decode cX1_compareForces 9 = .ok (.getfield 56, 3) := by decide +kernel
theorem dX1_compareForces_12 : decode cX1_compareForces 12 = .ok (.getfield 120, 3) := by decide +kernel
theorem dX1_compareForces_15 : decode cX1_compareForces 15 = .ok (.lstore 7, 2) := by decide +kernel
theorem dX1_compareForces_17 : decode cX1_compareForces 17 = .ok (.iconst 0, 1) := by decide +kernel
theorem dX1_compareForces_18 : decode cX1_compareForces 18 = .ok (.istore 9, 2) := by decide +kernel
theorem dX1_compareForces_20 : decode cX1_compareForces 20 = .ok (.iload 9, 2) := by decide +kernel
theorem dX1_compareForces_22 : decode cX1_compareForces 22 = .ok (.aload_n 0, 1) := by decide +kernel
theorem dX1_compareForces_23 : decode cX1_compareForces 23 = .ok (.getfield 47, 3) := by decide +kernel
theorem dX1_compareForces_26 : decode cX1_compareForces 26 = .ok (.getfield 81, 3) := by decide +kernel
theorem dX1_compareForces_29 : decode cX1_compareForces 29 = .ok (.if_icmp .ge 28, 3) := by decide +kernel
theorem dX1_compareForces_32 : decode cX1_compareForces 32 = .ok (.aload_n 0, 1) := by decide +kernel
theorem dX1_compareForces_33 : decode cX1_compareForces 33 = .ok (.getfield 41, 3) := by decide +kernel
theorem dX1_compareForces_36 : decode cX1_compareForces 36 = .ok (.iload 9, 2) := by decide +kernel
theorem dX1_compareForces_38 : decode cX1_compareForces 38 = .ok (.aload_n 0, 1) := by decide +kernel
theorem dX1_compareForces_39 : decode cX1_compareForces 39 = .ok (.getfield 56, 3) := by decide +kernel
theorem dX1_compareForces_42 : decode cX1_compareForces 42 = .ok (.iload 9, 2) := by decide +kernel
theorem dX1_compareForces_44 : decode cX1_compareForces 44 = .ok (.lload_n 3, 1) := by decide +kernel
theorem dX1_compareForces_45 : decode cX1_compareForces 45 = .ok (.lload 5, 2) := by decide +kernel
theorem dX1_compareForces_47 : decode cX1_compareForces 47 = .ok (.invokevirtual 122, 3) := by decide +kernel
theorem dX1_compareForces_50 : decode cX1_compareForces 50 = .ok (.lastore, 1) := by decide +kernel
theorem dX1_compareForces_51 : decode cX1_compareForces 51 = .ok (.iinc 9 1, 3) := by decide +kernel
theorem dX1_compareForces_54 : decode cX1_compareForces 54 = .ok (.goto (-34), 3) := by decide +kernel
theorem dX1_compareForces_57 : decode cX1_compareForces 57 = .ok (.aload_n 0, 1) := by decide +kernel
theorem dX1_compareForces_58 : decode cX1_compareForces 58 = .ok (.iload_n 2, 1) := by decide +kernel
theorem dX1_compareForces_59 : decode cX1_compareForces 59 = .ok (.lload_n 3, 1) := by decide +kernel
theorem dX1_compareForces_60 : decode cX1_compareForces 60 = .ok (.lload 5, 2) := by decide +kernel
theorem dX1_compareForces_62 : decode cX1_compareForces 62 = .ok (.invokevirtual 116, 3) := by decide +kernel
theorem dX1_compareForces_65 : decode cX1_compareForces 65 = .ok (.iconst 0, 1) := by decide +kernel
theorem dX1_compareForces_66 : decode cX1_compareForces 66 = .ok (.istore 9, 2) := by decide +kernel
theorem dX1_compareForces_68 : decode cX1_compareForces 68 = .ok (.iload 9, 2) := by decide +kernel
theorem dX1_compareForces_70 : decode cX1_compareForces 70 = .ok (.aload_n 0, 1) := by decide +kernel
theorem dX1_compareForces_71 : decode cX1_compareForces 71 = .ok (.getfield 47, 3) := by decide +kernel
theorem dX1_compareForces_74 : decode cX1_compareForces 74 = .ok (.getfield 81, 3) := by decide +kernel
theorem dX1_compareForces_77 : decode cX1_compareForces 77 = .ok (.if_icmp .ge 73, 3) := by decide +kernel
theorem dX1_compareForces_80 : decode cX1_compareForces 80 = .ok (.iload_n 2, 1) := by decide +kernel
theorem dX1_compareForces_81 : decode cX1_compareForces 81 = .ok (.iload 9, 2) := by decide +kernel
theorem dX1_compareForces_83 : decode cX1_compareForces 83 = .ok (.ishr, 1) := by decide +kernel
theorem dX1_compareForces_84 : decode cX1_compareForces 84 = .ok (.iconst 1, 1) := by decide +kernel
theorem dX1_compareForces_85 : decode cX1_compareForces 85 = .ok (.iand, 1) := by decide +kernel
theorem dX1_compareForces_86 : decode cX1_compareForces 86 = .ok (.iconst 1, 1) := by decide +kernel
theorem dX1_compareForces_87 : decode cX1_compareForces 87 = .ok (.if_icmp .ne 7, 3) := by decide +kernel
theorem dX1_compareForces_90 : decode cX1_compareForces 90 = .ok (.iconst 1, 1) := by decide +kernel
theorem dX1_compareForces_91 : decode cX1_compareForces 91 = .ok (.goto 4, 3) := by decide +kernel
theorem dX1_compareForces_94 : decode cX1_compareForces 94 = .ok (.iconst 0, 1) := by decide +kernel
theorem dX1_compareForces_95 : decode cX1_compareForces 95 = .ok (.istore 10, 2) := by decide +kernel
theorem dX1_compareForces_97 : decode cX1_compareForces 97 = .ok (.aload_n 0, 1) := by decide +kernel
theorem dX1_compareForces_98 : decode cX1_compareForces 98 = .ok (.getfield 41, 3) := by decide +kernel
theorem dX1_compareForces_101 : decode cX1_compareForces 101 = .ok (.iload 9, 2) := by decide +kernel
theorem dX1_compareForces_103 : decode cX1_compareForces 103 = .ok (.iload 10, 2) := by decide +kernel
theorem dX1_compareForces_105 : decode cX1_compareForces 105 = .ok (.ifCond .eq 37, 3) := by decide +kernel
theorem dX1_compareForces_108 : decode cX1_compareForces 108 = .ok (.aload_n 0, 1) := by decide +kernel
theorem dX1_compareForces_109 : decode cX1_compareForces 109 = .ok (.getfield 56, 3) := by decide +kernel
theorem dX1_compareForces_112 : decode cX1_compareForces 112 = .ok (.iload 9, 2) := by decide +kernel
theorem dX1_compareForces_114 : decode cX1_compareForces 114 = .ok (.lload_n 3, 1) := by decide +kernel
theorem dX1_compareForces_115 : decode cX1_compareForces 115 = .ok (.lload 5, 2) := by decide +kernel
theorem dX1_compareForces_117 : decode cX1_compareForces 117 = .ok (.invokevirtual 122, 3) := by decide +kernel
theorem dX1_compareForces_120 : decode cX1_compareForces 120 = .ok (.lload 7, 2) := by decide +kernel
theorem dX1_compareForces_122 : decode cX1_compareForces 122 = .ok (.lmul, 1) := by decide +kernel
theorem dX1_compareForces_123 : decode cX1_compareForces 123 = .ok (.aload_n 0, 1) := by decide +kernel
theorem dX1_compareForces_124 : decode cX1_compareForces 124 = .ok (.getfield 41, 3) := by decide +kernel
theorem dX1_compareForces_127 : decode cX1_compareForces 127 = .ok (.iload 9, 2) := by decide +kernel
theorem dX1_compareForces_129 : decode cX1_compareForces 129 = .ok (.laload, 1) := by decide +kernel
theorem dX1_compareForces_130 : decode cX1_compareForces 130 = .ok (.aload_n 0, 1) := by decide +kernel
theorem dX1_compareForces_131 : decode cX1_compareForces 131 = .ok (.getfield 56, 3) := by decide +kernel
theorem dX1_compareForces_134 : decode cX1_compareForces 134 = .ok (.getfield 120, 3) := by decide +kernel
theorem dX1_compareForces_137 : decode cX1_compareForces 137 = .ok (.lmul, 1) := by decide +kernel
theorem dX1_compareForces_138 : decode cX1_compareForces 138 = .ok (.lsub, 1) := by decide +kernel
theorem dX1_compareForces_139 : decode cX1_compareForces 139 = .ok (.goto 4, 3) := by decide +kernel
theorem dX1_compareForces_142 : decode cX1_compareForces 142 = .ok (.lconst 0, 1) := by decide +kernel
theorem dX1_compareForces_143 : decode cX1_compareForces 143 = .ok (.lastore, 1) := by decide +kernel
theorem dX1_compareForces_144 : decode cX1_compareForces 144 = .ok (.iinc 9 1, 3) := by decide +kernel
theorem dX1_compareForces_147 : decode cX1_compareForces 147 = .ok (.goto (-79), 3) := by decide +kernel
theorem dX1_compareForces_150 : decode cX1_compareForces 150 = .ok (.aload_n 0, 1) := by decide +kernel
theorem dX1_compareForces_151 : decode cX1_compareForces 151 = .ok (.lload 7, 2) := by decide +kernel
theorem dX1_compareForces_153 : decode cX1_compareForces 153 = .ok (.aload_n 0, 1) := by decide +kernel
theorem dX1_compareForces_154 : decode cX1_compareForces 154 = .ok (.getfield 56, 3) := by decide +kernel
theorem dX1_compareForces_157 : decode cX1_compareForces 157 = .ok (.getfield 120, 3) := by decide +kernel
theorem dX1_compareForces_160 : decode cX1_compareForces 160 = .ok (.lmul, 1) := by decide +kernel
theorem dX1_compareForces_161 : decode cX1_compareForces 161 = .ok (.lload 5, 2) := by decide +kernel
theorem dX1_compareForces_163 : decode cX1_compareForces 163 = .ok (.lmul, 1) := by decide +kernel
theorem dX1_compareForces_164 : decode cX1_compareForces 164 = .ok (.putfield 44, 3) := by decide +kernel
theorem dX1_compareForces_167 : decode cX1_compareForces 167 = .ok (.return_, 1) := by decide +kernel
theorem dX1_comparePeak_0 : decode cX1_comparePeak 0 = .ok (.aload_n 0, 1) := by decide +kernel
theorem dX1_comparePeak_1 : decode cX1_comparePeak 1 = .ok (.getfield 68, 3) := by decide +kernel
theorem dX1_comparePeak_4 : decode cX1_comparePeak 4 = .ok (.lload_n 3, 1) := by decide +kernel
theorem dX1_comparePeak_5 : decode cX1_comparePeak 5 = .ok (.lmul, 1) := by decide +kernel
theorem dX1_comparePeak_6 : decode cX1_comparePeak 6 = .ok (.lload_n 1, 1) := by decide +kernel
theorem dX1_comparePeak_7 : decode cX1_comparePeak 7 = .ok (.aload_n 0, 1) := by decide +kernel
theorem dX1_comparePeak_8 : decode cX1_comparePeak 8 = .ok (.getfield 31, 3) := by decide +kernel
theorem dX1_comparePeak_11 : decode cX1_comparePeak 11 = .ok (.lmul, 1) := by decide +kernel
theorem dX1_comparePeak_12 : decode cX1_comparePeak 12 = .ok (.invokestatic 126, 3) := by decide +kernel
theorem dX1_comparePeak_15 : decode cX1_comparePeak 15 = .ok (.ireturn, 1) := by decide +kernel
theorem dX1_countOf_0 : decode cX1_countOf 0 = .ok (.iconst 0, 1) := by decide +kernel
theorem dX1_countOf_1 : decode cX1_countOf 1 = .ok (.istore_n 2, 1) := by decide +kernel
theorem dX1_countOf_2 : decode cX1_countOf 2 = .ok (.iconst 0, 1) := by decide +kernel
theorem dX1_countOf_3 : decode cX1_countOf 3 = .ok (.istore_n 3, 1) := by decide +kernel
theorem dX1_countOf_4 : decode cX1_countOf 4 = .ok (.iload_n 3, 1) := by decide +kernel
theorem dX1_countOf_5 : decode cX1_countOf 5 = .ok (.aload_n 0, 1) := by decide +kernel
theorem dX1_countOf_6 : decode cX1_countOf 6 = .ok (.getfield 64, 3) := by decide +kernel
theorem dX1_countOf_9 : decode cX1_countOf 9 = .ok (.if_icmp .ge 27, 3) := by decide +kernel
theorem dX1_countOf_12 : decode cX1_countOf 12 = .ok (.iload_n 2, 1) := by decide +kernel
theorem dX1_countOf_13 : decode cX1_countOf 13 = .ok (.aload_n 0, 1) := by decide +kernel
theorem dX1_countOf_14 : decode cX1_countOf 14 = .ok (.getfield 18, 3) := by decide +kernel
theorem dX1_countOf_17 : decode cX1_countOf 17 = .ok (.iload_n 3, 1) := by decide +kernel
theorem dX1_countOf_18 : decode cX1_countOf 18 = .ok (.iaload, 1) := by decide +kernel
theorem dX1_countOf_19 : decode cX1_countOf 19 = .ok (.iload_n 1, 1) := by decide +kernel
theorem dX1_countOf_20 : decode cX1_countOf 20 = .ok (.if_icmp .ne 7, 3) := by decide +kernel
theorem dX1_countOf_23 : decode cX1_countOf 23 = .ok (.iconst 1, 1) := by decide +kernel
theorem dX1_countOf_24 : decode cX1_countOf 24 = .ok (.goto 4, 3) := by decide +kernel
theorem dX1_countOf_27 : decode cX1_countOf 27 = .ok (.iconst 0, 1) := by decide +kernel
theorem dX1_countOf_28 : decode cX1_countOf 28 = .ok (.iadd, 1) := by decide +kernel
theorem dX1_countOf_29 : decode cX1_countOf 29 = .ok (.istore_n 2, 1) := by decide +kernel
theorem dX1_countOf_30 : decode cX1_countOf 30 = .ok (.iinc 3 1, 3) := by decide +kernel
theorem dX1_countOf_33 : decode cX1_countOf 33 = .ok (.goto (-29), 3) := by decide +kernel
theorem dX1_countOf_36 : decode cX1_countOf 36 = .ok (.iload_n 2, 1) := by decide +kernel
theorem dX1_countOf_37 : decode cX1_countOf 37 = .ok (.ireturn, 1) := by decide +kernel
theorem dX1_find_0 : decode cX1_find 0 = .ok (.iconst 0, 1) := by decide +kernel
theorem dX1_find_1 : decode cX1_find 1 = .ok (.istore_n 3, 1) := by decide +kernel
theorem dX1_find_2 : decode cX1_find 2 = .ok (.iload_n 3, 1) := by decide +kernel
theorem dX1_find_3 : decode cX1_find 3 = .ok (.aload_n 0, 1) := by decide +kernel
theorem dX1_find_4 : decode cX1_find 4 = .ok (.getfield 64, 3) := by decide +kernel
theorem dX1_find_7 : decode cX1_find 7 = .ok (.if_icmp .ge 31, 3) := by decide +kernel
theorem dX1_find_10 : decode cX1_find 10 = .ok (.aload_n 0, 1) := by decide +kernel
theorem dX1_find_11 : decode cX1_find 11 = .ok (.getfield 18, 3) := by decide +kernel
theorem dX1_find_14 : decode cX1_find 14 = .ok (.iload_n 3, 1) := by decide +kernel
theorem dX1_find_15 : decode cX1_find 15 = .ok (.iaload, 1) := by decide +kernel
theorem dX1_find_16 : decode cX1_find 16 = .ok (.iload_n 1, 1) := by decide +kernel
theorem dX1_find_17 : decode cX1_find 17 = .ok (.if_icmp .ne 15, 3) := by decide +kernel
theorem dX1_find_20 : decode cX1_find 20 = .ok (.aload_n 0, 1) := by decide +kernel
theorem dX1_find_21 : decode cX1_find 21 = .ok (.getfield 21, 3) := by decide +kernel
theorem dX1_find_24 : decode cX1_find 24 = .ok (.iload_n 3, 1) := by decide +kernel
theorem dX1_find_25 : decode cX1_find 25 = .ok (.iaload, 1) := by decide +kernel
theorem dX1_find_26 : decode cX1_find 26 = .ok (.iload_n 2, 1) := by decide +kernel
theorem dX1_find_27 : decode cX1_find 27 = .ok (.if_icmp .ne 5, 3) := by decide +kernel
theorem dX1_find_30 : decode cX1_find 30 = .ok (.iload_n 3, 1) := by decide +kernel
theorem dX1_find_31 : decode cX1_find 31 = .ok (.ireturn, 1) := by decide +kernel
theorem dX1_find_32 : decode cX1_find 32 = .ok (.iinc 3 1, 3) := by decide +kernel
theorem dX1_find_35 : decode cX1_find 35 = .ok (.goto (-33), 3) := by decide +kernel
theorem dX1_find_38 : decode cX1_find 38 = .ok (.iconst (-1), 1) := by decide +kernel
theorem dX1_find_39 : decode cX1_find 39 = .ok (.ireturn, 1) := by decide +kernel
theorem dX1_brokenAs_0 : decode cX1_brokenAs 0 = .ok (.iconst 0, 1) := by decide +kernel
theorem dX1_brokenAs_1 : decode cX1_brokenAs 1 = .ok (.istore_n 2, 1) := by decide +kernel
theorem dX1_brokenAs_2 : decode cX1_brokenAs 2 = .ok (.iconst 0, 1) := by decide +kernel
theorem dX1_brokenAs_3 : decode cX1_brokenAs 3 = .ok (.istore_n 3, 1) := by decide +kernel
theorem dX1_brokenAs_4 : decode cX1_brokenAs 4 = .ok (.iload_n 3, 1) := by decide +kernel
theorem dX1_brokenAs_5 : decode cX1_brokenAs 5 = .ok (.aload_n 0, 1) := by decide +kernel
theorem dX1_brokenAs_6 : decode cX1_brokenAs 6 = .ok (.getfield 64, 3) := by decide +kernel
theorem dX1_brokenAs_9 : decode cX1_brokenAs 9 = .ok (.if_icmp .ge 34, 3) := by decide +kernel
theorem dX1_brokenAs_12 : decode cX1_brokenAs 12 = .ok (.aload_n 0, 1) := by decide +kernel
theorem dX1_brokenAs_13 : decode cX1_brokenAs 13 = .ok (.getfield 18, 3) := by decide +kernel
theorem dX1_brokenAs_16 : decode cX1_brokenAs 16 = .ok (.iload_n 3, 1) := by decide +kernel
theorem dX1_brokenAs_17 : decode cX1_brokenAs 17 = .ok (.iaload, 1) := by decide +kernel
theorem dX1_brokenAs_18 : decode cX1_brokenAs 18 = .ok (.iconst 2, 1) := by decide +kernel
theorem dX1_brokenAs_19 : decode cX1_brokenAs 19 = .ok (.if_icmp .ne 18, 3) := by decide +kernel
theorem dX1_brokenAs_22 : decode cX1_brokenAs 22 = .ok (.iload_n 2, 1) := by decide +kernel
theorem dX1_brokenAs_23 : decode cX1_brokenAs 23 = .ok (.iload_n 1, 1) := by decide +kernel
theorem dX1_brokenAs_24 : decode cX1_brokenAs 24 = .ok (.if_icmp .ne 10, 3) := by decide +kernel
theorem dX1_brokenAs_27 : decode cX1_brokenAs 27 = .ok (.aload_n 0, 1) := by decide +kernel
theorem dX1_brokenAs_28 : decode cX1_brokenAs 28 = .ok (.getfield 21, 3) := by decide +kernel
theorem dX1_brokenAs_31 : decode cX1_brokenAs 31 = .ok (.iload_n 3, 1) := by decide +kernel
theorem dX1_brokenAs_32 : decode cX1_brokenAs 32 = .ok (.iaload, 1) := by decide +kernel
theorem dX1_brokenAs_33 : decode cX1_brokenAs 33 = .ok (.ireturn, 1) := by decide +kernel
theorem dX1_brokenAs_34 : decode cX1_brokenAs 34 = .ok (.iinc 2 1, 3) := by decide +kernel
theorem dX1_brokenAs_37 : decode cX1_brokenAs 37 = .ok (.iinc 3 1, 3) := by decide +kernel
theorem dX1_brokenAs_40 : decode cX1_brokenAs 40 = .ok (.goto (-36), 3) := by decide +kernel
theorem dX1_brokenAs_43 : decode cX1_brokenAs 43 = .ok (.iconst (-1), 1) := by decide +kernel
theorem dX1_brokenAs_44 : decode cX1_brokenAs 44 = .ok (.ireturn, 1) := by decide +kernel
theorem dX1_leftAhead_0 : decode cX1_leftAhead 0 = .ok (.aload_n 0, 1) := by decide +kernel
theorem dX1_leftAhead_1 : decode cX1_leftAhead 1 = .ok (.getfield 47, 3) := by decide +kernel
theorem dX1_leftAhead_4 : decode cX1_leftAhead 4 = .ok (.invokevirtual 71, 3) := by decide +kernel
theorem dX1_leftAhead_7 : decode cX1_leftAhead 7 = .ok (.istore_n 2, 1) := by decide +kernel
theorem dX1_leftAhead_8 : decode cX1_leftAhead 8 = .ok (.iconst 0, 1) := by decide +kernel
theorem dX1_leftAhead_9 : decode cX1_leftAhead 9 = .ok (.istore_n 3, 1) := by decide +kernel
theorem dX1_leftAhead_10 : decode cX1_leftAhead 10 = .ok (.iload_n 3, 1) := by decide +kernel
theorem dX1_leftAhead_11 : decode cX1_leftAhead 11 = .ok (.iload_n 1, 1) := by decide +kernel
theorem dX1_leftAhead_12 : decode cX1_leftAhead 12 = .ok (.if_icmp .ge 40, 3) := by decide +kernel
theorem dX1_leftAhead_15 : decode cX1_leftAhead 15 = .ok (.iload_n 3, 1) := by decide +kernel
theorem dX1_leftAhead_16 : decode cX1_leftAhead 16 = .ok (.aload_n 0, 1) := by decide +kernel
theorem dX1_leftAhead_17 : decode cX1_leftAhead 17 = .ok (.getfield 64, 3) := by decide +kernel
theorem dX1_leftAhead_20 : decode cX1_leftAhead 20 = .ok (.if_icmp .ge 32, 3) := by decide +kernel
theorem dX1_leftAhead_23 : decode cX1_leftAhead 23 = .ok (.aload_n 0, 1) := by decide +kernel
theorem dX1_leftAhead_24 : decode cX1_leftAhead 24 = .ok (.getfield 18, 3) := by decide +kernel
theorem dX1_leftAhead_27 : decode cX1_leftAhead 27 = .ok (.iload_n 3, 1) := by decide +kernel
theorem dX1_leftAhead_28 : decode cX1_leftAhead 28 = .ok (.iaload, 1) := by decide +kernel
theorem dX1_leftAhead_29 : decode cX1_leftAhead 29 = .ok (.iconst 2, 1) := by decide +kernel
theorem dX1_leftAhead_30 : decode cX1_leftAhead 30 = .ok (.if_icmp .ne 16, 3) := by decide +kernel
theorem dX1_leftAhead_33 : decode cX1_leftAhead 33 = .ok (.iload_n 2, 1) := by decide +kernel
theorem dX1_leftAhead_34 : decode cX1_leftAhead 34 = .ok (.iconst 1, 1) := by decide +kernel
theorem dX1_leftAhead_35 : decode cX1_leftAhead 35 = .ok (.aload_n 0, 1) := by decide +kernel
theorem dX1_leftAhead_36 : decode cX1_leftAhead 36 = .ok (.getfield 21, 3) := by decide +kernel
theorem dX1_leftAhead_39 : decode cX1_leftAhead 39 = .ok (.iload_n 3, 1) := by decide +kernel
theorem dX1_leftAhead_40 : decode cX1_leftAhead 40 = .ok (.iaload, 1) := by decide +kernel
theorem dX1_leftAhead_41 : decode cX1_leftAhead 41 = .ok (.ishl, 1) := by decide +kernel
theorem dX1_leftAhead_42 : decode cX1_leftAhead 42 = .ok (.iconst (-1), 1) := by decide +kernel
theorem dX1_leftAhead_43 : decode cX1_leftAhead 43 = .ok (.ixor, 1) := by decide +kernel
theorem dX1_leftAhead_44 : decode cX1_leftAhead 44 = .ok (.iand, 1) := by decide +kernel
theorem dX1_leftAhead_45 : decode cX1_leftAhead 45 = .ok (.istore_n 2, 1) := by decide +kernel
theorem dX1_leftAhead_46 : decode cX1_leftAhead 46 = .ok (.iinc 3 1, 3) := by decide +kernel
theorem dX1_leftAhead_49 : decode cX1_leftAhead 49 = .ok (.goto (-39), 3) := by decide +kernel
theorem dX1_leftAhead_52 : decode cX1_leftAhead 52 = .ok (.iload_n 2, 1) := by decide +kernel
theorem dX1_leftAhead_53 : decode cX1_leftAhead 53 = .ok (.ireturn, 1) := by decide +kernel
theorem dX1_leftAfter_0 : decode cX1_leftAfter 0 = .ok (.aload_n 0, 1) := by decide +kernel
theorem dX1_leftAfter_1 : decode cX1_leftAfter 1 = .ok (.getfield 47, 3) := by decide +kernel
theorem dX1_leftAfter_4 : decode cX1_leftAfter 4 = .ok (.invokevirtual 71, 3) := by decide +kernel
theorem dX1_leftAfter_7 : decode cX1_leftAfter 7 = .ok (.istore_n 2, 1) := by decide +kernel
theorem dX1_leftAfter_8 : decode cX1_leftAfter 8 = .ok (.iconst 0, 1) := by decide +kernel
theorem dX1_leftAfter_9 : decode cX1_leftAfter 9 = .ok (.istore_n 3, 1) := by decide +kernel
theorem dX1_leftAfter_10 : decode cX1_leftAfter 10 = .ok (.iload_n 3, 1) := by decide +kernel
theorem dX1_leftAfter_11 : decode cX1_leftAfter 11 = .ok (.aload_n 0, 1) := by decide +kernel
theorem dX1_leftAfter_12 : decode cX1_leftAfter 12 = .ok (.getfield 64, 3) := by decide +kernel
theorem dX1_leftAfter_15 : decode cX1_leftAfter 15 = .ok (.if_icmp .ge 51, 3) := by decide +kernel
theorem dX1_leftAfter_18 : decode cX1_leftAfter 18 = .ok (.aload_n 0, 1) := by decide +kernel
theorem dX1_leftAfter_19 : decode cX1_leftAfter 19 = .ok (.getfield 18, 3) := by decide +kernel
theorem dX1_leftAfter_22 : decode cX1_leftAfter 22 = .ok (.iload_n 3, 1) := by decide +kernel
theorem dX1_leftAfter_23 : decode cX1_leftAfter 23 = .ok (.iaload, 1) := by decide +kernel
theorem dX1_leftAfter_24 : decode cX1_leftAfter 24 = .ok (.iconst 2, 1) := by decide +kernel
theorem dX1_leftAfter_25 : decode cX1_leftAfter 25 = .ok (.if_icmp .ne 35, 3) := by decide +kernel
theorem dX1_leftAfter_28 : decode cX1_leftAfter 28 = .ok (.aload_n 0, 1) := by decide +kernel
theorem dX1_leftAfter_29 : decode cX1_leftAfter 29 = .ok (.getfield 24, 3) := by decide +kernel
theorem dX1_leftAfter_32 : decode cX1_leftAfter 32 = .ok (.iload_n 3, 1) := by decide +kernel
theorem dX1_leftAfter_33 : decode cX1_leftAfter 33 = .ok (.laload, 1) := by decide +kernel
theorem dX1_leftAfter_34 : decode cX1_leftAfter 34 = .ok (.iload_n 1, 1) := by decide +kernel
theorem dX1_leftAfter_35 : decode cX1_leftAfter 35 = .ok (.i2l, 1) := by decide +kernel
theorem dX1_leftAfter_36 : decode cX1_leftAfter 36 = .ok (.aload_n 0, 1) := by decide +kernel
theorem dX1_leftAfter_37 : decode cX1_leftAfter 37 = .ok (.getfield 28, 3) := by decide +kernel
theorem dX1_leftAfter_40 : decode cX1_leftAfter 40 = .ok (.iload_n 3, 1) := by decide +kernel
theorem dX1_leftAfter_41 : decode cX1_leftAfter 41 = .ok (.laload, 1) := by decide +kernel
theorem dX1_leftAfter_42 : decode cX1_leftAfter 42 = .ok (.lmul, 1) := by decide +kernel
theorem dX1_leftAfter_43 : decode cX1_leftAfter 43 = .ok (.lcmp, 1) := by decide +kernel
theorem dX1_leftAfter_44 : decode cX1_leftAfter 44 = .ok (.ifCond .gt 16, 3) := by decide +kernel
theorem dX1_leftAfter_47 : decode cX1_leftAfter 47 = .ok (.iload_n 2, 1) := by decide +kernel
theorem dX1_leftAfter_48 : decode cX1_leftAfter 48 = .ok (.iconst 1, 1) := by decide +kernel
theorem dX1_leftAfter_49 : decode cX1_leftAfter 49 = .ok (.aload_n 0, 1) := by decide +kernel
theorem dX1_leftAfter_50 : decode cX1_leftAfter 50 = .ok (.getfield 21, 3) := by decide +kernel
theorem dX1_leftAfter_53 : decode cX1_leftAfter 53 = .ok (.iload_n 3, 1) := by decide +kernel
theorem dX1_leftAfter_54 : decode cX1_leftAfter 54 = .ok (.iaload, 1) := by decide +kernel
theorem dX1_leftAfter_55 : decode cX1_leftAfter 55 = .ok (.ishl, 1) := by decide +kernel
theorem dX1_leftAfter_56 : decode cX1_leftAfter 56 = .ok (.iconst (-1), 1) := by decide +kernel
theorem dX1_leftAfter_57 : decode cX1_leftAfter 57 = .ok (.ixor, 1) := by decide +kernel
theorem dX1_leftAfter_58 : decode cX1_leftAfter 58 = .ok (.iand, 1) := by decide +kernel
theorem dX1_leftAfter_59 : decode cX1_leftAfter 59 = .ok (.istore_n 2, 1) := by decide +kernel
theorem dX1_leftAfter_60 : decode cX1_leftAfter 60 = .ok (.iinc 3 1, 3) := by decide +kernel
theorem dX1_leftAfter_63 : decode cX1_leftAfter 63 = .ok (.goto (-53), 3) := by decide +kernel
theorem dX1_leftAfter_66 : decode cX1_leftAfter 66 = .ok (.iload_n 2, 1) := by decide +kernel
theorem dX1_leftAfter_67 : decode cX1_leftAfter 67 = .ok (.ireturn, 1) := by decide +kernel
theorem dX1_start_0 : decode cX1_start 0 = .ok (.aload_n 0, 1) := by decide +kernel
theorem dX1_start_1 : decode cX1_start 1 = .ok (.getfield 47, 3) := by decide +kernel
theorem dX1_start_4 : decode cX1_start 4 = .ok (.iload_n 1, 1) := by decide +kernel
theorem dX1_start_5 : decode cX1_start 5 = .ok (.invokevirtual 132, 3) := by decide +kernel
theorem dX1_start_8 : decode cX1_start 8 = .ok (.istore_n 2, 1) := by decide +kernel
theorem dX1_start_9 : decode cX1_start 9 = .ok (.iconst 0, 1) := by decide +kernel
theorem dX1_start_10 : decode cX1_start 10 = .ok (.istore_n 3, 1) := by decide +kernel
theorem dX1_start_11 : decode cX1_start 11 = .ok (.iload_n 3, 1) := by decide +kernel
theorem dX1_start_12 : decode cX1_start 12 = .ok (.aload_n 0, 1) := by decide +kernel
theorem dX1_start_13 : decode cX1_start 13 = .ok (.getfield 47, 3) := by decide +kernel
theorem dX1_start_16 : decode cX1_start 16 = .ok (.getfield 81, 3) := by decide +kernel
theorem dX1_start_19 : decode cX1_start 19 = .ok (.if_icmp .ge 68, 3) := by decide +kernel
theorem dX1_start_22 : decode cX1_start 22 = .ok (.iload_n 1, 1) := by decide +kernel
theorem dX1_start_23 : decode cX1_start 23 = .ok (.iload_n 3, 1) := by decide +kernel
theorem dX1_start_24 : decode cX1_start 24 = .ok (.ishr, 1) := by decide +kernel
theorem dX1_start_25 : decode cX1_start 25 = .ok (.iconst 1, 1) := by decide +kernel
theorem dX1_start_26 : decode cX1_start 26 = .ok (.iand, 1) := by decide +kernel
theorem dX1_start_27 : decode cX1_start 27 = .ok (.iconst 1, 1) := by decide +kernel
theorem dX1_start_28 : decode cX1_start 28 = .ok (.if_icmp .ne 30, 3) := by decide +kernel
theorem dX1_start_31 : decode cX1_start 31 = .ok (.aload_n 0, 1) := by decide +kernel
theorem dX1_start_32 : decode cX1_start 32 = .ok (.getfield 9, 3) := by decide +kernel
theorem dX1_start_35 : decode cX1_start 35 = .ok (.iload_n 3, 1) := by decide +kernel
theorem dX1_start_36 : decode cX1_start 36 = .ok (.aload_n 0, 1) := by decide +kernel
theorem dX1_start_37 : decode cX1_start 37 = .ok (.getfield 47, 3) := by decide +kernel
theorem dX1_start_40 : decode cX1_start 40 = .ok (.getfield 135, 3) := by decide +kernel
theorem dX1_start_43 : decode cX1_start 43 = .ok (.iload_n 3, 1) := by decide +kernel
theorem dX1_start_44 : decode cX1_start 44 = .ok (.iaload, 1) := by decide +kernel
theorem dX1_start_45 : decode cX1_start 45 = .ok (.iload_n 2, 1) := by decide +kernel
theorem dX1_start_46 : decode cX1_start 46 = .ok (.if_icmp .ne 7, 3) := by decide +kernel
theorem dX1_start_49 : decode cX1_start 49 = .ok (.iconst 1, 1) := by decide +kernel
theorem dX1_start_50 : decode cX1_start 50 = .ok (.goto 4, 3) := by decide +kernel
theorem dX1_start_53 : decode cX1_start 53 = .ok (.iconst 0, 1) := by decide +kernel
theorem dX1_start_54 : decode cX1_start 54 = .ok (.iastore, 1) := by decide +kernel
theorem dX1_start_55 : decode cX1_start 55 = .ok (.goto 26, 3) := by decide +kernel
theorem dX1_start_58 : decode cX1_start 58 = .ok (.aload_n 0, 1) := by decide +kernel
theorem dX1_start_59 : decode cX1_start 59 = .ok (.getfield 9, 3) := by decide +kernel
theorem dX1_start_62 : decode cX1_start 62 = .ok (.iload_n 3, 1) := by decide +kernel
theorem dX1_start_63 : decode cX1_start 63 = .ok (.aload_n 0, 1) := by decide +kernel
theorem dX1_start_64 : decode cX1_start 64 = .ok (.getfield 47, 3) := by decide +kernel
theorem dX1_start_67 : decode cX1_start 67 = .ok (.getfield 138, 3) := by decide +kernel
theorem dX1_start_70 : decode cX1_start 70 = .ok (.iload_n 3, 1) := by decide +kernel
theorem dX1_start_71 : decode cX1_start 71 = .ok (.baload, 1) := by decide +kernel
theorem dX1_start_72 : decode cX1_start 72 = .ok (.ifCond .eq 7, 3) := by decide +kernel
theorem dX1_start_75 : decode cX1_start 75 = .ok (.iconst 4, 1) := by decide +kernel
theorem dX1_start_76 : decode cX1_start 76 = .ok (.goto 4, 3) := by decide +kernel
theorem dX1_start_79 : decode cX1_start 79 = .ok (.iconst 3, 1) := by decide +kernel
theorem dX1_start_80 : decode cX1_start 80 = .ok (.iastore, 1) := by decide +kernel
theorem dX1_start_81 : decode cX1_start 81 = .ok (.iinc 3 1, 3) := by decide +kernel
theorem dX1_start_84 : decode cX1_start 84 = .ok (.goto (-73), 3) := by decide +kernel
theorem dX1_start_87 : decode cX1_start 87 = .ok (.return_, 1) := by decide +kernel
theorem dX1_seek_0 : decode cX1_seek 0 = .ok (.iconst 0, 1) := by decide +kernel
theorem dX1_seek_1 : decode cX1_seek 1 = .ok (.istore_n 2, 1) := by decide +kernel
theorem dX1_seek_2 : decode cX1_seek 2 = .ok (.iload_n 2, 1) := by decide +kernel
theorem dX1_seek_3 : decode cX1_seek 3 = .ok (.aload_n 0, 1) := by decide +kernel
theorem dX1_seek_4 : decode cX1_seek 4 = .ok (.getfield 47, 3) := by decide +kernel
theorem dX1_seek_7 : decode cX1_seek 7 = .ok (.getfield 81, 3) := by decide +kernel
theorem dX1_seek_10 : decode cX1_seek 10 = .ok (.if_icmp .ge 14, 3) := by decide +kernel
theorem dX1_seek_13 : decode cX1_seek 13 = .ok (.aload_n 0, 1) := by decide +kernel
theorem dX1_seek_14 : decode cX1_seek 14 = .ok (.iload_n 2, 1) := by decide +kernel
theorem dX1_seek_15 : decode cX1_seek 15 = .ok (.invokevirtual 142, 3) := by decide +kernel
theorem dX1_seek_18 : decode cX1_seek 18 = .ok (.iinc 2 1, 3) := by decide +kernel
theorem dX1_seek_21 : decode cX1_seek 21 = .ok (.goto (-19), 3) := by decide +kernel
theorem dX1_seek_24 : decode cX1_seek 24 = .ok (.aload_n 0, 1) := by decide +kernel
theorem dX1_seek_25 : decode cX1_seek 25 = .ok (.getfield 56, 3) := by decide +kernel
theorem dX1_seek_28 : decode cX1_seek 28 = .ok (.invokevirtual 145, 3) := by decide +kernel
theorem dX1_seek_31 : decode cX1_seek 31 = .ok (.aload_n 0, 1) := by decide +kernel
theorem dX1_seek_32 : decode cX1_seek 32 = .ok (.getfield 56, 3) := by decide +kernel
theorem dX1_seek_35 : decode cX1_seek 35 = .ok (.invokevirtual 148, 3) := by decide +kernel
theorem dX1_seek_38 : decode cX1_seek 38 = .ok (.aload_n 0, 1) := by decide +kernel
theorem dX1_seek_39 : decode cX1_seek 39 = .ok (.lconst 0, 1) := by decide +kernel
theorem dX1_seek_40 : decode cX1_seek 40 = .ok (.putfield 95, 3) := by decide +kernel
theorem dX1_seek_43 : decode cX1_seek 43 = .ok (.iconst 0, 1) := by decide +kernel
theorem dX1_seek_44 : decode cX1_seek 44 = .ok (.istore_n 2, 1) := by decide +kernel
theorem dX1_seek_45 : decode cX1_seek 45 = .ok (.iload_n 2, 1) := by decide +kernel
theorem dX1_seek_46 : decode cX1_seek 46 = .ok (.aload_n 0, 1) := by decide +kernel
theorem dX1_seek_47 : decode cX1_seek 47 = .ok (.getfield 47, 3) := by decide +kernel
theorem dX1_seek_50 : decode cX1_seek 50 = .ok (.getfield 81, 3) := by decide +kernel
theorem dX1_seek_53 : decode cX1_seek 53 = .ok (.if_icmp .ge 81, 3) := by decide +kernel
theorem dX1_seek_56 : decode cX1_seek 56 = .ok (.aload_n 0, 1) := by decide +kernel
theorem dX1_seek_57 : decode cX1_seek 57 = .ok (.iload_n 2, 1) := by decide +kernel
theorem dX1_seek_58 : decode cX1_seek 58 = .ok (.iload_n 1, 1) := by decide +kernel
theorem dX1_seek_59 : decode cX1_seek 59 = .ok (.invokevirtual 151, 3) := by decide +kernel
theorem dX1_seek_62 : decode cX1_seek 62 = .ok (.aload_n 0, 1) := by decide +kernel
theorem dX1_seek_63 : decode cX1_seek 63 = .ok (.getfield 38, 3) := by decide +kernel
theorem dX1_seek_66 : decode cX1_seek 66 = .ok (.iload_n 2, 1) := by decide +kernel
theorem dX1_seek_67 : decode cX1_seek 67 = .ok (.laload, 1) := by decide +kernel
theorem dX1_seek_68 : decode cX1_seek 68 = .ok (.lconst 0, 1) := by decide +kernel
theorem dX1_seek_69 : decode cX1_seek 69 = .ok (.lcmp, 1) := by decide +kernel
theorem dX1_seek_70 : decode cX1_seek 70 = .ok (.ifCond .le 58, 3) := by decide +kernel
theorem dX1_seek_73 : decode cX1_seek 73 = .ok (.aload_n 0, 1) := by decide +kernel
theorem dX1_seek_74 : decode cX1_seek 74 = .ok (.getfield 95, 3) := by decide +kernel
theorem dX1_seek_77 : decode cX1_seek 77 = .ok (.lconst 0, 1) := by decide +kernel
theorem dX1_seek_78 : decode cX1_seek 78 = .ok (.lcmp, 1) := by decide +kernel
theorem dX1_seek_79 : decode cX1_seek 79 = .ok (.ifCond .eq 29, 3) := by decide +kernel
theorem dX1_seek_82 : decode cX1_seek 82 = .ok (.aload_n 0, 1) := by decide +kernel
theorem dX1_seek_83 : decode cX1_seek 83 = .ok (.getfield 35, 3) := by decide +kernel
theorem dX1_seek_86 : decode cX1_seek 86 = .ok (.iload_n 2, 1) := by decide +kernel
theorem dX1_seek_87 : decode cX1_seek 87 = .ok (.laload, 1) := by decide +kernel
theorem dX1_seek_88 : decode cX1_seek 88 = .ok (.aload_n 0, 1) := by decide +kernel
theorem dX1_seek_89 : decode cX1_seek 89 = .ok (.getfield 95, 3) := by decide +kernel
theorem dX1_seek_92 : decode cX1_seek 92 = .ok (.lmul, 1) := by decide +kernel
theorem dX1_seek_93 : decode cX1_seek 93 = .ok (.aload_n 0, 1) := by decide +kernel
theorem dX1_seek_94 : decode cX1_seek 94 = .ok (.getfield 92, 3) := by decide +kernel
theorem dX1_seek_97 : decode cX1_seek 97 = .ok (.aload_n 0, 1) := by decide +kernel
theorem dX1_seek_98 : decode cX1_seek 98 = .ok (.getfield 38, 3) := by decide +kernel
theorem dX1_seek_101 : decode cX1_seek 101 = .ok (.iload_n 2, 1) := by decide +kernel
theorem dX1_seek_102 : decode cX1_seek 102 = .ok (.laload, 1) := by decide +kernel
theorem dX1_seek_103 : decode cX1_seek 103 = .ok (.lmul, 1) := by decide +kernel
theorem dX1_seek_104 : decode cX1_seek 104 = .ok (.lcmp, 1) := by decide +kernel
theorem dX1_seek_105 : decode cX1_seek 105 = .ok (.ifCond .ge 23, 3) := by decide +kernel
theorem dX1_seek_108 : decode cX1_seek 108 = .ok (.aload_n 0, 1) := by decide +kernel
theorem dX1_seek_109 : decode cX1_seek 109 = .ok (.aload_n 0, 1) := by decide +kernel
theorem dX1_seek_110 : decode cX1_seek 110 = .ok (.getfield 35, 3) := by decide +kernel
theorem dX1_seek_113 : decode cX1_seek 113 = .ok (.iload_n 2, 1) := by decide +kernel
theorem dX1_seek_114 : decode cX1_seek 114 = .ok (.laload, 1) := by decide +kernel
theorem dX1_seek_115 : decode cX1_seek 115 = .ok (.putfield 92, 3) := by decide +kernel
theorem dX1_seek_118 : decode cX1_seek 118 = .ok (.aload_n 0, 1) := by decide +kernel
theorem dX1_seek_119 : decode cX1_seek 119 = .ok (.aload_n 0, 1) := by decide +kernel
theorem dX1_seek_120 : decode cX1_seek 120 = .ok (.getfield 38, 3) := by decide +kernel
theorem dX1_seek_123 : decode cX1_seek 123 = .ok (.iload_n 2, 1) := by decide +kernel
theorem dX1_seek_124 : decode cX1_seek 124 = .ok (.laload, 1) := by decide +kernel
theorem dX1_seek_125 : decode cX1_seek 125 = .ok (.putfield 95, 3) := by decide +kernel
theorem dX1_seek_128 : decode cX1_seek 128 = .ok (.iinc 2 1, 3) := by decide +kernel
theorem dX1_seek_131 : decode cX1_seek 131 = .ok (.goto (-86), 3) := by decide +kernel
theorem dX1_seek_134 : decode cX1_seek 134 = .ok (.aload_n 0, 1) := by decide +kernel
theorem dX1_seek_135 : decode cX1_seek 135 = .ok (.getfield 95, 3) := by decide +kernel
theorem dX1_seek_138 : decode cX1_seek 138 = .ok (.lconst 0, 1) := by decide +kernel
theorem dX1_seek_139 : decode cX1_seek 139 = .ok (.lcmp, 1) := by decide +kernel
theorem dX1_seek_140 : decode cX1_seek 140 = .ok (.ifCond .le 7, 3) := by decide +kernel
theorem dX1_seek_143 : decode cX1_seek 143 = .ok (.iconst 1, 1) := by decide +kernel
theorem dX1_seek_144 : decode cX1_seek 144 = .ok (.goto 4, 3) := by decide +kernel
theorem dX1_seek_147 : decode cX1_seek 147 = .ok (.iconst 0, 1) := by decide +kernel
theorem dX1_seek_148 : decode cX1_seek 148 = .ok (.ireturn, 1) := by decide +kernel
theorem dX1_layLine_0 : decode cX1_layLine 0 = .ok (.aload_n 0, 1) := by decide +kernel
theorem dX1_layLine_1 : decode cX1_layLine 1 = .ok (.getfield 56, 3) := by decide +kernel
theorem dX1_layLine_4 : decode cX1_layLine 4 = .ok (.getfield 155, 3) := by decide +kernel
theorem dX1_layLine_7 : decode cX1_layLine 7 = .ok (.iload_n 1, 1) := by decide +kernel
theorem dX1_layLine_8 : decode cX1_layLine 8 = .ok (.aload_n 0, 1) := by decide +kernel
theorem dX1_layLine_9 : decode cX1_layLine 9 = .ok (.getfield 47, 3) := by decide +kernel
theorem dX1_layLine_12 : decode cX1_layLine 12 = .ok (.getfield 135, 3) := by decide +kernel
theorem dX1_layLine_15 : decode cX1_layLine 15 = .ok (.iload_n 1, 1) := by decide +kernel
theorem dX1_layLine_16 : decode cX1_layLine 16 = .ok (.iaload, 1) := by decide +kernel
theorem dX1_layLine_17 : decode cX1_layLine 17 = .ok (.i2l, 1) := by decide +kernel
theorem dX1_layLine_18 : decode cX1_layLine 18 = .ok (.lastore, 1) := by decide +kernel
theorem dX1_layLine_19 : decode cX1_layLine 19 = .ok (.aload_n 0, 1) := by decide +kernel
theorem dX1_layLine_20 : decode cX1_layLine 20 = .ok (.getfield 56, 3) := by decide +kernel
theorem dX1_layLine_23 : decode cX1_layLine 23 = .ok (.getfield 158, 3) := by decide +kernel
theorem dX1_layLine_26 : decode cX1_layLine 26 = .ok (.iload_n 1, 1) := by decide +kernel
theorem dX1_layLine_27 : decode cX1_layLine 27 = .ok (.iconst 0, 1) := by decide +kernel
theorem dX1_layLine_28 : decode cX1_layLine 28 = .ok (.iastore, 1) := by decide +kernel
theorem dX1_layLine_29 : decode cX1_layLine 29 = .ok (.aload_n 0, 1) := by decide +kernel
theorem dX1_layLine_30 : decode cX1_layLine 30 = .ok (.getfield 9, 3) := by decide +kernel
theorem dX1_layLine_33 : decode cX1_layLine 33 = .ok (.iload_n 1, 1) := by decide +kernel
theorem dX1_layLine_34 : decode cX1_layLine 34 = .ok (.iaload, 1) := by decide +kernel
theorem dX1_layLine_35 : decode cX1_layLine 35 = .ok (.iconst 1, 1) := by decide +kernel
theorem dX1_layLine_36 : decode cX1_layLine 36 = .ok (.if_icmp .ne 24, 3) := by decide +kernel
theorem dX1_layLine_39 : decode cX1_layLine 39 = .ok (.aload_n 0, 1) := by decide +kernel
theorem dX1_layLine_40 : decode cX1_layLine 40 = .ok (.getfield 56, 3) := by decide +kernel
theorem dX1_layLine_43 : decode cX1_layLine 43 = .ok (.getfield 158, 3) := by decide +kernel
theorem dX1_layLine_46 : decode cX1_layLine 46 = .ok (.iload_n 1, 1) := by decide +kernel
theorem dX1_layLine_47 : decode cX1_layLine 47 = .ok (.aload_n 0, 1) := by decide +kernel
theorem dX1_layLine_48 : decode cX1_layLine 48 = .ok (.getfield 47, 3) := by decide +kernel
theorem dX1_layLine_51 : decode cX1_layLine 51 = .ok (.getfield 161, 3) := by decide +kernel
theorem dX1_layLine_54 : decode cX1_layLine 54 = .ok (.iload_n 1, 1) := by decide +kernel
theorem dX1_layLine_55 : decode cX1_layLine 55 = .ok (.iaload, 1) := by decide +kernel
theorem dX1_layLine_56 : decode cX1_layLine 56 = .ok (.iastore, 1) := by decide +kernel
theorem dX1_layLine_57 : decode cX1_layLine 57 = .ok (.goto 80, 3) := by decide +kernel
theorem dX1_layLine_60 : decode cX1_layLine 60 = .ok (.aload_n 0, 1) := by decide +kernel
theorem dX1_layLine_61 : decode cX1_layLine 61 = .ok (.getfield 9, 3) := by decide +kernel
theorem dX1_layLine_64 : decode cX1_layLine 64 = .ok (.iload_n 1, 1) := by decide +kernel
theorem dX1_layLine_65 : decode cX1_layLine 65 = .ok (.iaload, 1) := by decide +kernel
theorem dX1_layLine_66 : decode cX1_layLine 66 = .ok (.iconst 2, 1) := by decide +kernel
theorem dX1_layLine_67 : decode cX1_layLine 67 = .ok (.if_icmp .ne 70, 3) := by decide +kernel
theorem dX1_layLine_70 : decode cX1_layLine 70 = .ok (.aload_n 0, 1) := by decide +kernel
theorem dX1_layLine_71 : decode cX1_layLine 71 = .ok (.getfield 56, 3) := by decide +kernel
theorem dX1_layLine_74 : decode cX1_layLine 74 = .ok (.getfield 158, 3) := by decide +kernel
theorem dX1_layLine_77 : decode cX1_layLine 77 = .ok (.iload_n 1, 1) := by decide +kernel
theorem dX1_layLine_78 : decode cX1_layLine 78 = .ok (.aload_n 0, 1) := by decide +kernel
theorem dX1_layLine_79 : decode cX1_layLine 79 = .ok (.getfield 47, 3) := by decide +kernel
theorem dX1_layLine_82 : decode cX1_layLine 82 = .ok (.getfield 164, 3) := by decide +kernel
theorem dX1_layLine_85 : decode cX1_layLine 85 = .ok (.iload_n 1, 1) := by decide +kernel
theorem dX1_layLine_86 : decode cX1_layLine 86 = .ok (.iaload, 1) := by decide +kernel
theorem dX1_layLine_87 : decode cX1_layLine 87 = .ok (.iastore, 1) := by decide +kernel
theorem dX1_layLine_88 : decode cX1_layLine 88 = .ok (.aload_n 0, 1) := by decide +kernel
theorem dX1_layLine_89 : decode cX1_layLine 89 = .ok (.getfield 56, 3) := by decide +kernel
theorem dX1_layLine_92 : decode cX1_layLine 92 = .ok (.getfield 155, 3) := by decide +kernel
theorem dX1_layLine_95 : decode cX1_layLine 95 = .ok (.iload_n 1, 1) := by decide +kernel
theorem dX1_layLine_96 : decode cX1_layLine 96 = .ok (.aload_n 0, 1) := by decide +kernel
theorem dX1_layLine_97 : decode cX1_layLine 97 = .ok (.getfield 47, 3) := by decide +kernel
theorem dX1_layLine_100 : decode cX1_layLine 100 = .ok (.getfield 135, 3) := by decide +kernel
theorem dX1_layLine_103 : decode cX1_layLine 103 = .ok (.iload_n 1, 1) := by decide +kernel
theorem dX1_layLine_104 : decode cX1_layLine 104 = .ok (.iaload, 1) := by decide +kernel
theorem dX1_layLine_105 : decode cX1_layLine 105 = .ok (.aload_n 0, 1) := by decide +kernel
theorem dX1_layLine_106 : decode cX1_layLine 106 = .ok (.getfield 47, 3) := by decide +kernel
theorem dX1_layLine_109 : decode cX1_layLine 109 = .ok (.getfield 161, 3) := by decide +kernel
theorem dX1_layLine_112 : decode cX1_layLine 112 = .ok (.iload_n 1, 1) := by decide +kernel
theorem dX1_layLine_113 : decode cX1_layLine 113 = .ok (.iaload, 1) := by decide +kernel
theorem dX1_layLine_114 : decode cX1_layLine 114 = .ok (.aload_n 0, 1) := by decide +kernel
theorem dX1_layLine_115 : decode cX1_layLine 115 = .ok (.getfield 47, 3) := by decide +kernel
theorem dX1_layLine_118 : decode cX1_layLine 118 = .ok (.getfield 164, 3) := by decide +kernel
theorem dX1_layLine_121 : decode cX1_layLine 121 = .ok (.iload_n 1, 1) := by decide +kernel
theorem dX1_layLine_122 : decode cX1_layLine 122 = .ok (.iaload, 1) := by decide +kernel
theorem dX1_layLine_123 : decode cX1_layLine 123 = .ok (.isub, 1) := by decide +kernel
theorem dX1_layLine_124 : decode cX1_layLine 124 = .ok (.aload_n 0, 1) := by decide +kernel
theorem dX1_layLine_125 : decode cX1_layLine 125 = .ok (.getfield 47, 3) := by decide +kernel
theorem dX1_layLine_128 : decode cX1_layLine 128 = .ok (.getfield 167, 3) := by decide +kernel
theorem dX1_layLine_131 : decode cX1_layLine 131 = .ok (.iload_n 1, 1) := by decide +kernel
theorem dX1_layLine_132 : decode cX1_layLine 132 = .ok (.iaload, 1) := by decide +kernel
theorem dX1_layLine_133 : decode cX1_layLine 133 = .ok (.imul, 1) := by decide +kernel
theorem dX1_layLine_134 : decode cX1_layLine 134 = .ok (.iadd, 1) := by decide +kernel
theorem dX1_layLine_135 : decode cX1_layLine 135 = .ok (.i2l, 1) := by decide +kernel
theorem dX1_layLine_136 : decode cX1_layLine 136 = .ok (.lastore, 1) := by decide +kernel
theorem dX1_layLine_137 : decode cX1_layLine 137 = .ok (.return_, 1) := by decide +kernel
theorem dX1_seekDue_0 : decode cX1_seekDue 0 = .ok (.aload_n 0, 1) := by decide +kernel
theorem dX1_seekDue_1 : decode cX1_seekDue 1 = .ok (.getfield 38, 3) := by decide +kernel
theorem dX1_seekDue_4 : decode cX1_seekDue 4 = .ok (.iload_n 1, 1) := by decide +kernel
theorem dX1_seekDue_5 : decode cX1_seekDue 5 = .ok (.lconst 0, 1) := by decide +kernel
theorem dX1_seekDue_6 : decode cX1_seekDue 6 = .ok (.lastore, 1) := by decide +kernel
theorem dX1_seekDue_7 : decode cX1_seekDue 7 = .ok (.aload_n 0, 1) := by decide +kernel
theorem dX1_seekDue_8 : decode cX1_seekDue 8 = .ok (.getfield 9, 3) := by decide +kernel
theorem dX1_seekDue_11 : decode cX1_seekDue 11 = .ok (.iload_n 1, 1) := by decide +kernel
theorem dX1_seekDue_12 : decode cX1_seekDue 12 = .ok (.iaload, 1) := by decide +kernel
theorem dX1_seekDue_13 : decode cX1_seekDue 13 = .ok (.ifCond .ne 55, 3) := by decide +kernel
theorem dX1_seekDue_16 : decode cX1_seekDue 16 = .ok (.aload_n 0, 1) := by decide +kernel
theorem dX1_seekDue_17 : decode cX1_seekDue 17 = .ok (.getfield 35, 3) := by decide +kernel
theorem dX1_seekDue_20 : decode cX1_seekDue 20 = .ok (.iload_n 1, 1) := by decide +kernel
theorem dX1_seekDue_21 : decode cX1_seekDue 21 = .ok (.aload_n 0, 1) := by decide +kernel
theorem dX1_seekDue_22 : decode cX1_seekDue 22 = .ok (.getfield 47, 3) := by decide +kernel
theorem dX1_seekDue_25 : decode cX1_seekDue 25 = .ok (.getfield 135, 3) := by decide +kernel
theorem dX1_seekDue_28 : decode cX1_seekDue 28 = .ok (.iload_n 1, 1) := by decide +kernel
theorem dX1_seekDue_29 : decode cX1_seekDue 29 = .ok (.iaload, 1) := by decide +kernel
theorem dX1_seekDue_30 : decode cX1_seekDue 30 = .ok (.i2l, 1) := by decide +kernel
theorem dX1_seekDue_31 : decode cX1_seekDue 31 = .ok (.aload_n 0, 1) := by decide +kernel
theorem dX1_seekDue_32 : decode cX1_seekDue 32 = .ok (.getfield 56, 3) := by decide +kernel
theorem dX1_seekDue_35 : decode cX1_seekDue 35 = .ok (.getfield 120, 3) := by decide +kernel
theorem dX1_seekDue_38 : decode cX1_seekDue 38 = .ok (.lmul, 1) := by decide +kernel
theorem dX1_seekDue_39 : decode cX1_seekDue 39 = .ok (.aload_n 0, 1) := by decide +kernel
theorem dX1_seekDue_40 : decode cX1_seekDue 40 = .ok (.getfield 56, 3) := by decide +kernel
theorem dX1_seekDue_43 : decode cX1_seekDue 43 = .ok (.getfield 170, 3) := by decide +kernel
theorem dX1_seekDue_46 : decode cX1_seekDue 46 = .ok (.iload_n 1, 1) := by decide +kernel
theorem dX1_seekDue_47 : decode cX1_seekDue 47 = .ok (.laload, 1) := by decide +kernel
theorem dX1_seekDue_48 : decode cX1_seekDue 48 = .ok (.lsub, 1) := by decide +kernel
theorem dX1_seekDue_49 : decode cX1_seekDue 49 = .ok (.lastore, 1) := by decide +kernel
theorem dX1_seekDue_50 : decode cX1_seekDue 50 = .ok (.aload_n 0, 1) := by decide +kernel
theorem dX1_seekDue_51 : decode cX1_seekDue 51 = .ok (.getfield 38, 3) := by decide +kernel
theorem dX1_seekDue_54 : decode cX1_seekDue 54 = .ok (.iload_n 1, 1) := by decide +kernel
theorem dX1_seekDue_55 : decode cX1_seekDue 55 = .ok (.aload_n 0, 1) := by decide +kernel
theorem dX1_seekDue_56 : decode cX1_seekDue 56 = .ok (.getfield 56, 3) := by decide +kernel
theorem dX1_seekDue_59 : decode cX1_seekDue 59 = .ok (.getfield 173, 3) := by decide +kernel
theorem dX1_seekDue_62 : decode cX1_seekDue 62 = .ok (.iload_n 1, 1) := by decide +kernel
theorem dX1_seekDue_63 : decode cX1_seekDue 63 = .ok (.laload, 1) := by decide +kernel
theorem dX1_seekDue_64 : decode cX1_seekDue 64 = .ok (.lastore, 1) := by decide +kernel
theorem dX1_seekDue_65 : decode cX1_seekDue 65 = .ok (.goto 100, 3) := by decide +kernel
theorem dX1_seekDue_68 : decode cX1_seekDue 68 = .ok (.aload_n 0, 1) := by decide +kernel
theorem dX1_seekDue_69 : decode cX1_seekDue 69 = .ok (.getfield 9, 3) := by decide +kernel
theorem dX1_seekDue_72 : decode cX1_seekDue 72 = .ok (.iload_n 1, 1) := by decide +kernel
theorem dX1_seekDue_73 : decode cX1_seekDue 73 = .ok (.iaload, 1) := by decide +kernel
theorem dX1_seekDue_74 : decode cX1_seekDue 74 = .ok (.iconst 1, 1) := by decide +kernel
theorem dX1_seekDue_75 : decode cX1_seekDue 75 = .ok (.if_icmp .eq 17, 3) := by decide +kernel
theorem dX1_seekDue_78 : decode cX1_seekDue 78 = .ok (.aload_n 0, 1) := by decide +kernel
theorem dX1_seekDue_79 : decode cX1_seekDue 79 = .ok (.getfield 9, 3) := by decide +kernel
theorem dX1_seekDue_82 : decode cX1_seekDue 82 = .ok (.iload_n 1, 1) := by decide +kernel
theorem dX1_seekDue_83 : decode cX1_seekDue 83 = .ok (.iaload, 1) := by decide +kernel
theorem dX1_seekDue_84 : decode cX1_seekDue 84 = .ok (.iconst 2, 1) := by decide +kernel
theorem dX1_seekDue_85 : decode cX1_seekDue 85 = .ok (.if_icmp .ne 80, 3) := by decide +kernel
theorem dX1_seekDue_88 : decode cX1_seekDue 88 = .ok (.iload_n 2, 1) := by decide +kernel
theorem dX1_seekDue_89 : decode cX1_seekDue 89 = .ok (.ifCond .eq 76, 3) := by decide +kernel
theorem dX1_seekDue_92 : decode cX1_seekDue 92 = .ok (.aload_n 0, 1) := by decide +kernel
theorem dX1_seekDue_93 : decode cX1_seekDue 93 = .ok (.getfield 9, 3) := by decide +kernel
theorem dX1_seekDue_96 : decode cX1_seekDue 96 = .ok (.iload_n 1, 1) := by decide +kernel
theorem dX1_seekDue_97 : decode cX1_seekDue 97 = .ok (.iaload, 1) := by decide +kernel
theorem dX1_seekDue_98 : decode cX1_seekDue 98 = .ok (.iconst 1, 1) := by decide +kernel
theorem dX1_seekDue_99 : decode cX1_seekDue 99 = .ok (.if_icmp .ne 15, 3) := by decide +kernel
theorem dX1_seekDue_102 : decode cX1_seekDue 102 = .ok (.aload_n 0, 1) := by decide +kernel
theorem dX1_seekDue_103 : decode cX1_seekDue 103 = .ok (.getfield 47, 3) := by decide +kernel
theorem dX1_seekDue_106 : decode cX1_seekDue 106 = .ok (.getfield 167, 3) := by decide +kernel
theorem dX1_seekDue_109 : decode cX1_seekDue 109 = .ok (.iload_n 1, 1) := by decide +kernel
theorem dX1_seekDue_110 : decode cX1_seekDue 110 = .ok (.iaload, 1) := by decide +kernel
theorem dX1_seekDue_111 : decode cX1_seekDue 111 = .ok (.goto 12, 3) := by decide +kernel
theorem dX1_seekDue_114 : decode cX1_seekDue 114 = .ok (.aload_n 0, 1) := by decide +kernel
theorem dX1_seekDue_115 : decode cX1_seekDue 115 = .ok (.getfield 47, 3) := by decide +kernel
theorem dX1_seekDue_118 : decode cX1_seekDue 118 = .ok (.getfield 176, 3) := by decide +kernel
theorem dX1_seekDue_121 : decode cX1_seekDue 121 = .ok (.iload_n 1, 1) := by decide +kernel
theorem dX1_seekDue_122 : decode cX1_seekDue 122 = .ok (.iaload, 1) := by decide +kernel
theorem dX1_seekDue_123 : decode cX1_seekDue 123 = .ok (.istore_n 3, 1) := by decide +kernel
theorem dX1_seekDue_124 : decode cX1_seekDue 124 = .ok (.aload_n 0, 1) := by decide +kernel
theorem dX1_seekDue_125 : decode cX1_seekDue 125 = .ok (.getfield 35, 3) := by decide +kernel
theorem dX1_seekDue_128 : decode cX1_seekDue 128 = .ok (.iload_n 1, 1) := by decide +kernel
theorem dX1_seekDue_129 : decode cX1_seekDue 129 = .ok (.iload_n 3, 1) := by decide +kernel
theorem dX1_seekDue_130 : decode cX1_seekDue 130 = .ok (.i2l, 1) := by decide +kernel
theorem dX1_seekDue_131 : decode cX1_seekDue 131 = .ok (.aload_n 0, 1) := by decide +kernel
theorem dX1_seekDue_132 : decode cX1_seekDue 132 = .ok (.getfield 56, 3) := by decide +kernel
theorem dX1_seekDue_135 : decode cX1_seekDue 135 = .ok (.getfield 120, 3) := by decide +kernel
theorem dX1_seekDue_138 : decode cX1_seekDue 138 = .ok (.lmul, 1) := by decide +kernel
theorem dX1_seekDue_139 : decode cX1_seekDue 139 = .ok (.aload_n 0, 1) := by decide +kernel
theorem dX1_seekDue_140 : decode cX1_seekDue 140 = .ok (.getfield 56, 3) := by decide +kernel
theorem dX1_seekDue_143 : decode cX1_seekDue 143 = .ok (.getfield 179, 3) := by decide +kernel
theorem dX1_seekDue_146 : decode cX1_seekDue 146 = .ok (.iload_n 1, 1) := by decide +kernel
theorem dX1_seekDue_147 : decode cX1_seekDue 147 = .ok (.laload, 1) := by decide +kernel
theorem dX1_seekDue_148 : decode cX1_seekDue 148 = .ok (.lsub, 1) := by decide +kernel
theorem dX1_seekDue_149 : decode cX1_seekDue 149 = .ok (.lastore, 1) := by decide +kernel
theorem dX1_seekDue_150 : decode cX1_seekDue 150 = .ok (.aload_n 0, 1) := by decide +kernel
theorem dX1_seekDue_151 : decode cX1_seekDue 151 = .ok (.getfield 38, 3) := by decide +kernel
theorem dX1_seekDue_154 : decode cX1_seekDue 154 = .ok (.iload_n 1, 1) := by decide +kernel
theorem dX1_seekDue_155 : decode cX1_seekDue 155 = .ok (.aload_n 0, 1) := by decide +kernel
theorem dX1_seekDue_156 : decode cX1_seekDue 156 = .ok (.getfield 56, 3) := by decide +kernel
theorem dX1_seekDue_159 : decode cX1_seekDue 159 = .ok (.getfield 182, 3) := by decide +kernel
theorem dX1_seekDue_162 : decode cX1_seekDue 162 = .ok (.iload_n 1, 1) := by decide +kernel
theorem dX1_seekDue_163 : decode cX1_seekDue 163 = .ok (.laload, 1) := by decide +kernel
theorem dX1_seekDue_164 : decode cX1_seekDue 164 = .ok (.lastore, 1) := by decide +kernel
theorem dX1_seekDue_165 : decode cX1_seekDue 165 = .ok (.return_, 1) := by decide +kernel
theorem dX1_isDue_0 : decode cX1_isDue 0 = .ok (.aload_n 0, 1) := by decide +kernel
theorem dX1_isDue_1 : decode cX1_isDue 1 = .ok (.getfield 38, 3) := by decide +kernel
theorem dX1_isDue_4 : decode cX1_isDue 4 = .ok (.iload_n 1, 1) := by decide +kernel
theorem dX1_isDue_5 : decode cX1_isDue 5 = .ok (.laload, 1) := by decide +kernel
theorem dX1_isDue_6 : decode cX1_isDue 6 = .ok (.lconst 0, 1) := by decide +kernel
theorem dX1_isDue_7 : decode cX1_isDue 7 = .ok (.lcmp, 1) := by decide +kernel
theorem dX1_isDue_8 : decode cX1_isDue 8 = .ok (.ifCond .le 33, 3) := by decide +kernel
theorem dX1_isDue_11 : decode cX1_isDue 11 = .ok (.aload_n 0, 1) := by decide +kernel
theorem dX1_isDue_12 : decode cX1_isDue 12 = .ok (.getfield 35, 3) := by decide +kernel
theorem dX1_isDue_15 : decode cX1_isDue 15 = .ok (.iload_n 1, 1) := by decide +kernel
theorem dX1_isDue_16 : decode cX1_isDue 16 = .ok (.laload, 1) := by decide +kernel
theorem dX1_isDue_17 : decode cX1_isDue 17 = .ok (.aload_n 0, 1) := by decide +kernel
theorem dX1_isDue_18 : decode cX1_isDue 18 = .ok (.getfield 95, 3) := by decide +kernel
theorem dX1_isDue_21 : decode cX1_isDue 21 = .ok (.lmul, 1) := by decide +kernel
theorem dX1_isDue_22 : decode cX1_isDue 22 = .ok (.aload_n 0, 1) := by decide +kernel
theorem dX1_isDue_23 : decode cX1_isDue 23 = .ok (.getfield 92, 3) := by decide +kernel
theorem dX1_isDue_26 : decode cX1_isDue 26 = .ok (.aload_n 0, 1) := by decide +kernel
theorem dX1_isDue_27 : decode cX1_isDue 27 = .ok (.getfield 38, 3) := by decide +kernel
theorem dX1_isDue_30 : decode cX1_isDue 30 = .ok (.iload_n 1, 1) := by decide +kernel
theorem dX1_isDue_31 : decode cX1_isDue 31 = .ok (.laload, 1) := by decide +kernel
theorem dX1_isDue_32 : decode cX1_isDue 32 = .ok (.lmul, 1) := by decide +kernel
theorem dX1_isDue_33 : decode cX1_isDue 33 = .ok (.lcmp, 1) := by decide +kernel
theorem dX1_isDue_34 : decode cX1_isDue 34 = .ok (.ifCond .ne 7, 3) := by decide +kernel
theorem dX1_isDue_37 : decode cX1_isDue 37 = .ok (.iconst 1, 1) := by decide +kernel
theorem dX1_isDue_38 : decode cX1_isDue 38 = .ok (.goto 4, 3) := by decide +kernel
theorem dX1_isDue_41 : decode cX1_isDue 41 = .ok (.iconst 0, 1) := by decide +kernel
theorem dX1_isDue_42 : decode cX1_isDue 42 = .ok (.ireturn, 1) := by decide +kernel
theorem dX1_raiseDue_0 : decode cX1_raiseDue 0 = .ok (.iconst 0, 1) := by decide +kernel
theorem dX1_raiseDue_1 : decode cX1_raiseDue 1 = .ok (.istore_n 1, 1) := by decide +kernel
theorem dX1_raiseDue_2 : decode cX1_raiseDue 2 = .ok (.iload_n 1, 1) := by decide +kernel
theorem dX1_raiseDue_3 : decode cX1_raiseDue 3 = .ok (.aload_n 0, 1) := by decide +kernel
theorem dX1_raiseDue_4 : decode cX1_raiseDue 4 = .ok (.getfield 47, 3) := by decide +kernel
theorem dX1_raiseDue_7 : decode cX1_raiseDue 7 = .ok (.getfield 81, 3) := by decide +kernel
theorem dX1_raiseDue_10 : decode cX1_raiseDue 10 = .ok (.if_icmp .ge 37, 3) := by decide +kernel
theorem dX1_raiseDue_13 : decode cX1_raiseDue 13 = .ok (.aload_n 0, 1) := by decide +kernel
theorem dX1_raiseDue_14 : decode cX1_raiseDue 14 = .ok (.iload_n 1, 1) := by decide +kernel
theorem dX1_raiseDue_15 : decode cX1_raiseDue 15 = .ok (.invokevirtual 185, 3) := by decide +kernel
theorem dX1_raiseDue_18 : decode cX1_raiseDue 18 = .ok (.ifCond .eq 23, 3) := by decide +kernel
theorem dX1_raiseDue_21 : decode cX1_raiseDue 21 = .ok (.aload_n 0, 1) := by decide +kernel
theorem dX1_raiseDue_22 : decode cX1_raiseDue 22 = .ok (.getfield 9, 3) := by decide +kernel
theorem dX1_raiseDue_25 : decode cX1_raiseDue 25 = .ok (.iload_n 1, 1) := by decide +kernel
theorem dX1_raiseDue_26 : decode cX1_raiseDue 26 = .ok (.iaload, 1) := by decide +kernel
theorem dX1_raiseDue_27 : decode cX1_raiseDue 27 = .ok (.iconst 2, 1) := by decide +kernel
theorem dX1_raiseDue_28 : decode cX1_raiseDue 28 = .ok (.if_icmp .ge 13, 3) := by decide +kernel
theorem dX1_raiseDue_31 : decode cX1_raiseDue 31 = .ok (.aload_n 0, 1) := by decide +kernel
theorem dX1_raiseDue_32 : decode cX1_raiseDue 32 = .ok (.getfield 9, 3) := by decide +kernel
theorem dX1_raiseDue_35 : decode cX1_raiseDue 35 = .ok (.iload_n 1, 1) := by decide +kernel
theorem dX1_raiseDue_36 : decode cX1_raiseDue 36 = .ok (.dup2, 1) := by decide +kernel
theorem dX1_raiseDue_37 : decode cX1_raiseDue 37 = .ok (.iaload, 1) := by decide +kernel
theorem dX1_raiseDue_38 : decode cX1_raiseDue 38 = .ok (.iconst 1, 1) := by decide +kernel
theorem dX1_raiseDue_39 : decode cX1_raiseDue 39 = .ok (.iadd, 1) := by decide +kernel
theorem dX1_raiseDue_40 : decode cX1_raiseDue 40 = .ok (.iastore, 1) := by decide +kernel
theorem dX1_raiseDue_41 : decode cX1_raiseDue 41 = .ok (.iinc 1 1, 3) := by decide +kernel
theorem dX1_raiseDue_44 : decode cX1_raiseDue 44 = .ok (.goto (-42), 3) := by decide +kernel
theorem dX1_raiseDue_47 : decode cX1_raiseDue 47 = .ok (.return_, 1) := by decide +kernel
theorem dX1_firstDue_0 : decode cX1_firstDue 0 = .ok (.iconst 0, 1) := by decide +kernel
theorem dX1_firstDue_1 : decode cX1_firstDue 1 = .ok (.istore_n 2, 1) := by decide +kernel
theorem dX1_firstDue_2 : decode cX1_firstDue 2 = .ok (.iload_n 2, 1) := by decide +kernel
theorem dX1_firstDue_3 : decode cX1_firstDue 3 = .ok (.aload_n 0, 1) := by decide +kernel
theorem dX1_firstDue_4 : decode cX1_firstDue 4 = .ok (.getfield 47, 3) := by decide +kernel
theorem dX1_firstDue_7 : decode cX1_firstDue 7 = .ok (.getfield 81, 3) := by decide +kernel
theorem dX1_firstDue_10 : decode cX1_firstDue 10 = .ok (.if_icmp .ge 29, 3) := by decide +kernel
theorem dX1_firstDue_13 : decode cX1_firstDue 13 = .ok (.aload_n 0, 1) := by decide +kernel
theorem dX1_firstDue_14 : decode cX1_firstDue 14 = .ok (.getfield 9, 3) := by decide +kernel
theorem dX1_firstDue_17 : decode cX1_firstDue 17 = .ok (.iload_n 2, 1) := by decide +kernel
theorem dX1_firstDue_18 : decode cX1_firstDue 18 = .ok (.iaload, 1) := by decide +kernel
theorem dX1_firstDue_19 : decode cX1_firstDue 19 = .ok (.iload_n 1, 1) := by decide +kernel
theorem dX1_firstDue_20 : decode cX1_firstDue 20 = .ok (.if_icmp .ne 13, 3) := by decide +kernel
theorem dX1_firstDue_23 : decode cX1_firstDue 23 = .ok (.aload_n 0, 1) := by decide +kernel
theorem dX1_firstDue_24 : decode cX1_firstDue 24 = .ok (.iload_n 2, 1) := by decide +kernel
theorem dX1_firstDue_25 : decode cX1_firstDue 25 = .ok (.invokevirtual 185, 3) := by decide +kernel
theorem dX1_firstDue_28 : decode cX1_firstDue 28 = .ok (.ifCond .eq 5, 3) := by decide +kernel
theorem dX1_firstDue_31 : decode cX1_firstDue 31 = .ok (.iload_n 2, 1) := by decide +kernel
theorem dX1_firstDue_32 : decode cX1_firstDue 32 = .ok (.ireturn, 1) := by decide +kernel
theorem dX1_firstDue_33 : decode cX1_firstDue 33 = .ok (.iinc 2 1, 3) := by decide +kernel
theorem dX1_firstDue_36 : decode cX1_firstDue 36 = .ok (.goto (-34), 3) := by decide +kernel
theorem dX1_firstDue_39 : decode cX1_firstDue 39 = .ok (.iconst (-1), 1) := by decide +kernel
theorem dX1_firstDue_40 : decode cX1_firstDue 40 = .ok (.ireturn, 1) := by decide +kernel
theorem dX1_noteDue_0 : decode cX1_noteDue 0 = .ok (.iconst 0, 1) := by decide +kernel
theorem dX1_noteDue_1 : decode cX1_noteDue 1 = .ok (.istore_n 3, 1) := by decide +kernel
theorem dX1_noteDue_2 : decode cX1_noteDue 2 = .ok (.iload_n 3, 1) := by decide +kernel
theorem dX1_noteDue_3 : decode cX1_noteDue 3 = .ok (.aload_n 0, 1) := by decide +kernel
theorem dX1_noteDue_4 : decode cX1_noteDue 4 = .ok (.getfield 47, 3) := by decide +kernel
theorem dX1_noteDue_7 : decode cX1_noteDue 7 = .ok (.getfield 81, 3) := by decide +kernel
theorem dX1_noteDue_10 : decode cX1_noteDue 10 = .ok (.if_icmp .ge 33, 3) := by decide +kernel
theorem dX1_noteDue_13 : decode cX1_noteDue 13 = .ok (.aload_n 0, 1) := by decide +kernel
theorem dX1_noteDue_14 : decode cX1_noteDue 14 = .ok (.getfield 9, 3) := by decide +kernel
theorem dX1_noteDue_17 : decode cX1_noteDue 17 = .ok (.iload_n 3, 1) := by decide +kernel
theorem dX1_noteDue_18 : decode cX1_noteDue 18 = .ok (.iaload, 1) := by decide +kernel
theorem dX1_noteDue_19 : decode cX1_noteDue 19 = .ok (.iload_n 1, 1) := by decide +kernel
theorem dX1_noteDue_20 : decode cX1_noteDue 20 = .ok (.if_icmp .ne 17, 3) := by decide +kernel
theorem dX1_noteDue_23 : decode cX1_noteDue 23 = .ok (.aload_n 0, 1) := by decide +kernel
theorem dX1_noteDue_24 : decode cX1_noteDue 24 = .ok (.iload_n 3, 1) := by decide +kernel
theorem dX1_noteDue_25 : decode cX1_noteDue 25 = .ok (.invokevirtual 185, 3) := by decide +kernel
theorem dX1_noteDue_28 : decode cX1_noteDue 28 = .ok (.ifCond .eq 9, 3) := by decide +kernel
theorem dX1_noteDue_31 : decode cX1_noteDue 31 = .ok (.aload_n 0, 1) := by decide +kernel
theorem dX1_noteDue_32 : decode cX1_noteDue 32 = .ok (.iload_n 2, 1) := by decide +kernel
theorem dX1_noteDue_33 : decode cX1_noteDue 33 = .ok (.iload_n 3, 1) := by decide +kernel
theorem dX1_noteDue_34 : decode cX1_noteDue 34 = .ok (.invokevirtual 84, 3) := by decide +kernel
theorem dX1_noteDue_37 : decode cX1_noteDue 37 = .ok (.iinc 3 1, 3) := by decide +kernel
theorem dX1_noteDue_40 : decode cX1_noteDue 40 = .ok (.goto (-38), 3) := by decide +kernel
theorem dX1_noteDue_43 : decode cX1_noteDue 43 = .ok (.return_, 1) := by decide +kernel
theorem dX1_reach_0 : decode cX1_reach 0 = .ok (.lload_n 1, 1) := by decide +kernel
theorem dX1_reach_1 : decode cX1_reach 1 = .ok (.lload_n 3, 1) := by decide +kernel
theorem dX1_reach_2 : decode cX1_reach 2 = .ok (.invokestatic 189, 3) := by decide +kernel
theorem dX1_reach_5 : decode cX1_reach 5 = .ok (.lstore 5, 2) := by decide +kernel
theorem dX1_reach_7 : decode cX1_reach 7 = .ok (.lload 5, 2) := by decide +kernel
theorem dX1_reach_9 : decode cX1_reach 9 = .ok (.lconst 0, 1) := by decide +kernel
theorem dX1_reach_10 : decode cX1_reach 10 = .ok (.lcmp, 1) := by decide +kernel
theorem dX1_reach_11 : decode cX1_reach 11 = .ok (.ifCond .le 19, 3) := by decide +kernel
theorem dX1_reach_14 : decode cX1_reach 14 = .ok (.aload_n 0, 1) := by decide +kernel
theorem dX1_reach_15 : decode cX1_reach 15 = .ok (.lload_n 1, 1) := by decide +kernel
theorem dX1_reach_16 : decode cX1_reach 16 = .ok (.lload 5, 2) := by decide +kernel
theorem dX1_reach_18 : decode cX1_reach 18 = .ok (.ldiv, 1) := by decide +kernel
theorem dX1_reach_19 : decode cX1_reach 19 = .ok (.putfield 68, 3) := by decide +kernel
theorem dX1_reach_22 : decode cX1_reach 22 = .ok (.aload_n 0, 1) := by decide +kernel
theorem dX1_reach_23 : decode cX1_reach 23 = .ok (.lload_n 3, 1) := by decide +kernel
theorem dX1_reach_24 : decode cX1_reach 24 = .ok (.lload 5, 2) := by decide +kernel
theorem dX1_reach_26 : decode cX1_reach 26 = .ok (.ldiv, 1) := by decide +kernel
theorem dX1_reach_27 : decode cX1_reach 27 = .ok (.putfield 31, 3) := by decide +kernel
theorem dX1_reach_30 : decode cX1_reach 30 = .ok (.return_, 1) := by decide +kernel
theorem dX1_note_0 : decode cX1_note 0 = .ok (.aload_n 0, 1) := by decide +kernel
theorem dX1_note_1 : decode cX1_note 1 = .ok (.getfield 64, 3) := by decide +kernel
theorem dX1_note_4 : decode cX1_note 4 = .ok (.bipush 15, 2) := by decide +kernel
theorem dX1_note_6 : decode cX1_note 6 = .ok (.if_icmp .ge 59, 3) := by decide +kernel
theorem dX1_note_9 : decode cX1_note 9 = .ok (.aload_n 0, 1) := by decide +kernel
theorem dX1_note_10 : decode cX1_note 10 = .ok (.getfield 18, 3) := by decide +kernel
theorem dX1_note_13 : decode cX1_note 13 = .ok (.aload_n 0, 1) := by decide +kernel
theorem dX1_note_14 : decode cX1_note 14 = .ok (.getfield 64, 3) := by decide +kernel
theorem dX1_note_17 : decode cX1_note 17 = .ok (.iload_n 1, 1) := by decide +kernel
theorem dX1_note_18 : decode cX1_note 18 = .ok (.iastore, 1) := by decide +kernel
theorem dX1_note_19 : decode cX1_note 19 = .ok (.aload_n 0, 1) := by decide +kernel
theorem dX1_note_20 : decode cX1_note 20 = .ok (.getfield 21, 3) := by decide +kernel
theorem dX1_note_23 : decode cX1_note 23 = .ok (.aload_n 0, 1) := by decide +kernel
theorem dX1_note_24 : decode cX1_note 24 = .ok (.getfield 64, 3) := by decide +kernel
theorem dX1_note_27 : decode cX1_note 27 = .ok (.iload_n 2, 1) := by decide +kernel
theorem dX1_note_28 : decode cX1_note 28 = .ok (.iastore, 1) := by decide +kernel
theorem dX1_note_29 : decode cX1_note 29 = .ok (.aload_n 0, 1) := by decide +kernel
theorem dX1_note_30 : decode cX1_note 30 = .ok (.getfield 24, 3) := by decide +kernel
theorem dX1_note_33 : decode cX1_note 33 = .ok (.aload_n 0, 1) := by decide +kernel
theorem dX1_note_34 : decode cX1_note 34 = .ok (.getfield 64, 3) := by decide +kernel
theorem dX1_note_37 : decode cX1_note 37 = .ok (.aload_n 0, 1) := by decide +kernel
theorem dX1_note_38 : decode cX1_note 38 = .ok (.getfield 68, 3) := by decide +kernel
theorem dX1_note_41 : decode cX1_note 41 = .ok (.lastore, 1) := by decide +kernel
theorem dX1_note_42 : decode cX1_note 42 = .ok (.aload_n 0, 1) := by decide +kernel
theorem dX1_note_43 : decode cX1_note 43 = .ok (.getfield 28, 3) := by decide +kernel
theorem dX1_note_46 : decode cX1_note 46 = .ok (.aload_n 0, 1) := by decide +kernel
theorem dX1_note_47 : decode cX1_note 47 = .ok (.getfield 64, 3) := by decide +kernel
theorem dX1_note_50 : decode cX1_note 50 = .ok (.aload_n 0, 1) := by decide +kernel
theorem dX1_note_51 : decode cX1_note 51 = .ok (.getfield 31, 3) := by decide +kernel
theorem dX1_note_54 : decode cX1_note 54 = .ok (.lastore, 1) := by decide +kernel
theorem dX1_note_55 : decode cX1_note 55 = .ok (.aload_n 0, 1) := by decide +kernel
theorem dX1_note_56 : decode cX1_note 56 = .ok (.dup, 1) := by decide +kernel
theorem dX1_note_57 : decode cX1_note 57 = .ok (.getfield 64, 3) := by decide +kernel
theorem dX1_note_60 : decode cX1_note 60 = .ok (.iconst 1, 1) := by decide +kernel
theorem dX1_note_61 : decode cX1_note 61 = .ok (.iadd, 1) := by decide +kernel
theorem dX1_note_62 : decode cX1_note 62 = .ok (.putfield 64, 3) := by decide +kernel
theorem dX1_note_65 : decode cX1_note 65 = .ok (.return_, 1) := by decide +kernel
theorem dX1_breakOn_0 : decode cX1_breakOn 0 = .ok (.iload_n 2, 1) := by decide +kernel
theorem dX1_breakOn_1 : decode cX1_breakOn 1 = .ok (.istore_n 3, 1) := by decide +kernel
theorem dX1_breakOn_2 : decode cX1_breakOn 2 = .ok (.iload_n 1, 1) := by decide +kernel
theorem dX1_breakOn_3 : decode cX1_breakOn 3 = .ok (.istore 4, 2) := by decide +kernel
theorem dX1_breakOn_5 : decode cX1_breakOn 5 = .ok (.iconst 0, 1) := by decide +kernel
theorem dX1_breakOn_6 : decode cX1_breakOn 6 = .ok (.istore 5, 2) := by decide +kernel
theorem dX1_breakOn_8 : decode cX1_breakOn 8 = .ok (.iload 5, 2) := by decide +kernel
theorem dX1_breakOn_10 : decode cX1_breakOn 10 = .ok (.iconst 5, 1) := by decide +kernel
theorem dX1_breakOn_11 : decode cX1_breakOn 11 = .ok (.if_icmp .ge 81, 3) := by decide +kernel
theorem dX1_breakOn_14 : decode cX1_breakOn 14 = .ok (.iload 4, 2) := by decide +kernel
theorem dX1_breakOn_16 : decode cX1_breakOn 16 = .ok (.ifCond .lt 76, 3) := by decide +kernel
theorem dX1_breakOn_19 : decode cX1_breakOn 19 = .ok (.aload_n 0, 1) := by decide +kernel
theorem dX1_breakOn_20 : decode cX1_breakOn 20 = .ok (.iconst 2, 1) := by decide +kernel
theorem dX1_breakOn_21 : decode cX1_breakOn 21 = .ok (.iload 4, 2) := by decide +kernel
theorem dX1_breakOn_23 : decode cX1_breakOn 23 = .ok (.invokevirtual 84, 3) := by decide +kernel
theorem dX1_breakOn_26 : decode cX1_breakOn 26 = .ok (.iload_n 3, 1) := by decide +kernel
theorem dX1_breakOn_27 : decode cX1_breakOn 27 = .ok (.iconst 1, 1) := by decide +kernel
theorem dX1_breakOn_28 : decode cX1_breakOn 28 = .ok (.iload 4, 2) := by decide +kernel
theorem dX1_breakOn_30 : decode cX1_breakOn 30 = .ok (.ishl, 1) := by decide +kernel
theorem dX1_breakOn_31 : decode cX1_breakOn 31 = .ok (.iconst (-1), 1) := by decide +kernel
theorem dX1_breakOn_32 : decode cX1_breakOn 32 = .ok (.ixor, 1) := by decide +kernel
theorem dX1_breakOn_33 : decode cX1_breakOn 33 = .ok (.iand, 1) := by decide +kernel
theorem dX1_breakOn_34 : decode cX1_breakOn 34 = .ok (.istore_n 3, 1) := by decide +kernel
theorem dX1_breakOn_35 : decode cX1_breakOn 35 = .ok (.iload_n 3, 1) := by decide +kernel
theorem dX1_breakOn_36 : decode cX1_breakOn 36 = .ok (.ifCond .ne 5, 3) := by decide +kernel
theorem dX1_breakOn_39 : decode cX1_breakOn 39 = .ok (.iconst 0, 1) := by decide +kernel
theorem dX1_breakOn_40 : decode cX1_breakOn 40 = .ok (.ireturn, 1) := by decide +kernel
theorem dX1_breakOn_41 : decode cX1_breakOn 41 = .ok (.aload_n 0, 1) := by decide +kernel
theorem dX1_breakOn_42 : decode cX1_breakOn 42 = .ok (.getfield 9, 3) := by decide +kernel
theorem dX1_breakOn_45 : decode cX1_breakOn 45 = .ok (.iconst 0, 1) := by decide +kernel
theorem dX1_breakOn_46 : decode cX1_breakOn 46 = .ok (.aload_n 0, 1) := by decide +kernel
theorem dX1_breakOn_47 : decode cX1_breakOn 47 = .ok (.getfield 15, 3) := by decide +kernel
theorem dX1_breakOn_50 : decode cX1_breakOn 50 = .ok (.iconst 0, 1) := by decide +kernel
theorem dX1_breakOn_51 : decode cX1_breakOn 51 = .ok (.iconst 5, 1) := by decide +kernel
theorem dX1_breakOn_52 : decode cX1_breakOn 52 = .ok (.invokestatic 193, 3) := by decide +kernel
theorem dX1_breakOn_55 : decode cX1_breakOn 55 = .ok (.aload_n 0, 1) := by decide +kernel
theorem dX1_breakOn_56 : decode cX1_breakOn 56 = .ok (.iload_n 3, 1) := by decide +kernel
theorem dX1_breakOn_57 : decode cX1_breakOn 57 = .ok (.aload_n 0, 1) := by decide +kernel
theorem dX1_breakOn_58 : decode cX1_breakOn 58 = .ok (.getfield 68, 3) := by decide +kernel
theorem dX1_breakOn_61 : decode cX1_breakOn 61 = .ok (.aload_n 0, 1) := by decide +kernel
theorem dX1_breakOn_62 : decode cX1_breakOn 62 = .ok (.getfield 31, 3) := by decide +kernel
theorem dX1_breakOn_65 : decode cX1_breakOn 65 = .ok (.invokevirtual 116, 3) := by decide +kernel
theorem dX1_breakOn_68 : decode cX1_breakOn 68 = .ok (.aload_n 0, 1) := by decide +kernel
theorem dX1_breakOn_69 : decode cX1_breakOn 69 = .ok (.iconst 0, 1) := by decide +kernel
theorem dX1_breakOn_70 : decode cX1_breakOn 70 = .ok (.iconst 0, 1) := by decide +kernel
theorem dX1_breakOn_71 : decode cX1_breakOn 71 = .ok (.invokevirtual 199, 3) := by decide +kernel
theorem dX1_breakOn_74 : decode cX1_breakOn 74 = .ok (.aload_n 0, 1) := by decide +kernel
theorem dX1_breakOn_75 : decode cX1_breakOn 75 = .ok (.iconst 1, 1) := by decide +kernel
theorem dX1_breakOn_76 : decode cX1_breakOn 76 = .ok (.iconst 1, 1) := by decide +kernel
theorem dX1_breakOn_77 : decode cX1_breakOn 77 = .ok (.invokevirtual 199, 3) := by decide +kernel
theorem dX1_breakOn_80 : decode cX1_breakOn 80 = .ok (.aload_n 0, 1) := by decide +kernel
theorem dX1_breakOn_81 : decode cX1_breakOn 81 = .ok (.invokevirtual 202, 3) := by decide +kernel
theorem dX1_breakOn_84 : decode cX1_breakOn 84 = .ok (.istore 4, 2) := by decide +kernel
theorem dX1_breakOn_86 : decode cX1_breakOn 86 = .ok (.iinc 5 1, 3) := by decide +kernel
theorem dX1_breakOn_89 : decode cX1_breakOn 89 = .ok (.goto (-81), 3) := by decide +kernel
theorem dX1_breakOn_92 : decode cX1_breakOn 92 = .ok (.iload_n 3, 1) := by decide +kernel
theorem dX1_breakOn_93 : decode cX1_breakOn 93 = .ok (.ireturn, 1) := by decide +kernel
theorem dX1_noteRaised_0 : decode cX1_noteRaised 0 = .ok (.iconst 0, 1) := by decide +kernel
theorem dX1_noteRaised_1 : decode cX1_noteRaised 1 = .ok (.istore_n 3, 1) := by decide +kernel
theorem dX1_noteRaised_2 : decode cX1_noteRaised 2 = .ok (.iload_n 3, 1) := by decide +kernel
theorem dX1_noteRaised_3 : decode cX1_noteRaised 3 = .ok (.aload_n 0, 1) := by decide +kernel
theorem dX1_noteRaised_4 : decode cX1_noteRaised 4 = .ok (.getfield 47, 3) := by decide +kernel
theorem dX1_noteRaised_7 : decode cX1_noteRaised 7 = .ok (.getfield 81, 3) := by decide +kernel
theorem dX1_noteRaised_10 : decode cX1_noteRaised 10 = .ok (.if_icmp .ge 45, 3) := by decide +kernel
theorem dX1_noteRaised_13 : decode cX1_noteRaised 13 = .ok (.aload_n 0, 1) := by decide +kernel
theorem dX1_noteRaised_14 : decode cX1_noteRaised 14 = .ok (.getfield 15, 3) := by decide +kernel
theorem dX1_noteRaised_17 : decode cX1_noteRaised 17 = .ok (.iload_n 3, 1) := by decide +kernel
theorem dX1_noteRaised_18 : decode cX1_noteRaised 18 = .ok (.iaload, 1) := by decide +kernel
theorem dX1_noteRaised_19 : decode cX1_noteRaised 19 = .ok (.iload_n 1, 1) := by decide +kernel
theorem dX1_noteRaised_20 : decode cX1_noteRaised 20 = .ok (.if_icmp .gt 29, 3) := by decide +kernel
theorem dX1_noteRaised_23 : decode cX1_noteRaised 23 = .ok (.aload_n 0, 1) := by decide +kernel
theorem dX1_noteRaised_24 : decode cX1_noteRaised 24 = .ok (.getfield 9, 3) := by decide +kernel
theorem dX1_noteRaised_27 : decode cX1_noteRaised 27 = .ok (.iload_n 3, 1) := by decide +kernel
theorem dX1_noteRaised_28 : decode cX1_noteRaised 28 = .ok (.iaload, 1) := by decide +kernel
theorem dX1_noteRaised_29 : decode cX1_noteRaised 29 = .ok (.iload_n 1, 1) := by decide +kernel
theorem dX1_noteRaised_30 : decode cX1_noteRaised 30 = .ok (.if_icmp .le 19, 3) := by decide +kernel
theorem dX1_noteRaised_33 : decode cX1_noteRaised 33 = .ok (.aload_n 0, 1) := by decide +kernel
theorem dX1_noteRaised_34 : decode cX1_noteRaised 34 = .ok (.getfield 9, 3) := by decide +kernel
theorem dX1_noteRaised_37 : decode cX1_noteRaised 37 = .ok (.iload_n 3, 1) := by decide +kernel
theorem dX1_noteRaised_38 : decode cX1_noteRaised 38 = .ok (.iaload, 1) := by decide +kernel
theorem dX1_noteRaised_39 : decode cX1_noteRaised 39 = .ok (.iconst 2, 1) := by decide +kernel
theorem dX1_noteRaised_40 : decode cX1_noteRaised 40 = .ok (.if_icmp .gt 9, 3) := by decide +kernel
theorem dX1_noteRaised_43 : decode cX1_noteRaised 43 = .ok (.aload_n 0, 1) := by decide +kernel
theorem dX1_noteRaised_44 : decode cX1_noteRaised 44 = .ok (.iload_n 2, 1) := by decide +kernel
theorem dX1_noteRaised_45 : decode cX1_noteRaised 45 = .ok (.iload_n 3, 1) := by decide +kernel
theorem dX1_noteRaised_46 : decode cX1_noteRaised 46 = .ok (.invokevirtual 84, 3) := by decide +kernel
theorem dX1_noteRaised_49 : decode cX1_noteRaised 49 = .ok (.iinc 3 1, 3) := by decide +kernel
theorem dX1_noteRaised_52 : decode cX1_noteRaised 52 = .ok (.goto (-50), 3) := by decide +kernel
theorem dX1_noteRaised_55 : decode cX1_noteRaised 55 = .ok (.return_, 1) := by decide +kernel
theorem dX1_mostOverloaded_0 : decode cX1_mostOverloaded 0 = .ok (.iconst (-1), 1) := by decide +kernel
theorem dX1_mostOverloaded_1 : decode cX1_mostOverloaded 1 = .ok (.istore_n 1, 1) := by decide +kernel
theorem dX1_mostOverloaded_2 : decode cX1_mostOverloaded 2 = .ok (.lconst 0, 1) := by decide +kernel
theorem dX1_mostOverloaded_3 : decode cX1_mostOverloaded 3 = .ok (.lstore_n 2, 1) := by decide +kernel
theorem dX1_mostOverloaded_4 : decode cX1_mostOverloaded 4 = .ok (.iconst 0, 1) := by decide +kernel
theorem dX1_mostOverloaded_5 : decode cX1_mostOverloaded 5 = .ok (.istore 4, 2) := by decide +kernel
theorem dX1_mostOverloaded_7 : decode cX1_mostOverloaded 7 = .ok (.iload 4, 2) := by decide +kernel
theorem dX1_mostOverloaded_9 : decode cX1_mostOverloaded 9 = .ok (.aload_n 0, 1) := by decide +kernel
theorem dX1_mostOverloaded_10 : decode cX1_mostOverloaded 10 = .ok (.getfield 47, 3) := by decide +kernel
theorem dX1_mostOverloaded_13 : decode cX1_mostOverloaded 13 = .ok (.getfield 81, 3) := by decide +kernel
theorem dX1_mostOverloaded_16 : decode cX1_mostOverloaded 16 = .ok (.if_icmp .ge 132, 3) := by decide +kernel
theorem dX1_mostOverloaded_19 : decode cX1_mostOverloaded 19 = .ok (.aload_n 0, 1) := by decide +kernel
theorem dX1_mostOverloaded_20 : decode cX1_mostOverloaded 20 = .ok (.getfield 9, 3) := by decide +kernel
theorem dX1_mostOverloaded_23 : decode cX1_mostOverloaded 23 = .ok (.iload 4, 2) := by decide +kernel
theorem dX1_mostOverloaded_25 : decode cX1_mostOverloaded 25 = .ok (.iaload, 1) := by decide +kernel
theorem dX1_mostOverloaded_26 : decode cX1_mostOverloaded 26 = .ok (.iconst 2, 1) := by decide +kernel
theorem dX1_mostOverloaded_27 : decode cX1_mostOverloaded 27 = .ok (.if_icmp .ne 23, 3) := by decide +kernel
theorem dX1_mostOverloaded_30 : decode cX1_mostOverloaded 30 = .ok (.aload_n 0, 1) := by decide +kernel
theorem dX1_mostOverloaded_31 : decode cX1_mostOverloaded 31 = .ok (.getfield 56, 3) := by decide +kernel
theorem dX1_mostOverloaded_34 : decode cX1_mostOverloaded 34 = .ok (.iload 4, 2) := by decide +kernel
theorem dX1_mostOverloaded_36 : decode cX1_mostOverloaded 36 = .ok (.aload_n 0, 1) := by decide +kernel
theorem dX1_mostOverloaded_37 : decode cX1_mostOverloaded 37 = .ok (.getfield 68, 3) := by decide +kernel
theorem dX1_mostOverloaded_40 : decode cX1_mostOverloaded 40 = .ok (.aload_n 0, 1) := by decide +kernel
theorem dX1_mostOverloaded_41 : decode cX1_mostOverloaded 41 = .ok (.getfield 31, 3) := by decide +kernel
theorem dX1_mostOverloaded_44 : decode cX1_mostOverloaded 44 = .ok (.invokevirtual 122, 3) := by decide +kernel
theorem dX1_mostOverloaded_47 : decode cX1_mostOverloaded 47 = .ok (.goto 4, 3) := by decide +kernel
theorem dX1_mostOverloaded_50 : decode cX1_mostOverloaded 50 = .ok (.lconst 0, 1) := by decide +kernel
theorem dX1_mostOverloaded_51 : decode cX1_mostOverloaded 51 = .ok (.lstore 5, 2) := by decide +kernel
theorem dX1_mostOverloaded_53 : decode cX1_mostOverloaded 53 = .ok (.lload 5, 2) := by decide +kernel
theorem dX1_mostOverloaded_55 : decode cX1_mostOverloaded 55 = .ok (.lconst 0, 1) := by decide +kernel
theorem dX1_mostOverloaded_56 : decode cX1_mostOverloaded 56 = .ok (.lcmp, 1) := by decide +kernel
theorem dX1_mostOverloaded_57 : decode cX1_mostOverloaded 57 = .ok (.ifCond .le 37, 3) := by decide +kernel
theorem dX1_mostOverloaded_60 : decode cX1_mostOverloaded 60 = .ok (.lload 5, 2) := by decide +kernel
theorem dX1_mostOverloaded_62 : decode cX1_mostOverloaded 62 = .ok (.aload_n 0, 1) := by decide +kernel
theorem dX1_mostOverloaded_63 : decode cX1_mostOverloaded 63 = .ok (.getfield 47, 3) := by decide +kernel
theorem dX1_mostOverloaded_66 : decode cX1_mostOverloaded 66 = .ok (.getfield 176, 3) := by decide +kernel
theorem dX1_mostOverloaded_69 : decode cX1_mostOverloaded 69 = .ok (.iload 4, 2) := by decide +kernel
theorem dX1_mostOverloaded_71 : decode cX1_mostOverloaded 71 = .ok (.iaload, 1) := by decide +kernel
theorem dX1_mostOverloaded_72 : decode cX1_mostOverloaded 72 = .ok (.i2l, 1) := by decide +kernel
theorem dX1_mostOverloaded_73 : decode cX1_mostOverloaded 73 = .ok (.aload_n 0, 1) := by decide +kernel
theorem dX1_mostOverloaded_74 : decode cX1_mostOverloaded 74 = .ok (.getfield 56, 3) := by decide +kernel
theorem dX1_mostOverloaded_77 : decode cX1_mostOverloaded 77 = .ok (.getfield 120, 3) := by decide +kernel
theorem dX1_mostOverloaded_80 : decode cX1_mostOverloaded 80 = .ok (.lmul, 1) := by decide +kernel
theorem dX1_mostOverloaded_81 : decode cX1_mostOverloaded 81 = .ok (.aload_n 0, 1) := by decide +kernel
theorem dX1_mostOverloaded_82 : decode cX1_mostOverloaded 82 = .ok (.getfield 31, 3) := by decide +kernel
theorem dX1_mostOverloaded_85 : decode cX1_mostOverloaded 85 = .ok (.lmul, 1) := by decide +kernel
theorem dX1_mostOverloaded_86 : decode cX1_mostOverloaded 86 = .ok (.lcmp, 1) := by decide +kernel
theorem dX1_mostOverloaded_87 : decode cX1_mostOverloaded 87 = .ok (.ifCond .lt 7, 3) := by decide +kernel
theorem dX1_mostOverloaded_90 : decode cX1_mostOverloaded 90 = .ok (.iconst 1, 1) := by decide +kernel
theorem dX1_mostOverloaded_91 : decode cX1_mostOverloaded 91 = .ok (.goto 4, 3) := by decide +kernel
theorem dX1_mostOverloaded_94 : decode cX1_mostOverloaded 94 = .ok (.iconst 0, 1) := by decide +kernel
theorem dX1_mostOverloaded_95 : decode cX1_mostOverloaded 95 = .ok (.istore 7, 2) := by decide +kernel
theorem dX1_mostOverloaded_97 : decode cX1_mostOverloaded 97 = .ok (.iload 7, 2) := by decide +kernel
theorem dX1_mostOverloaded_99 : decode cX1_mostOverloaded 99 = .ok (.ifCond .eq 43, 3) := by decide +kernel
theorem dX1_mostOverloaded_102 : decode cX1_mostOverloaded 102 = .ok (.iload_n 1, 1) := by decide +kernel
theorem dX1_mostOverloaded_103 : decode cX1_mostOverloaded 103 = .ok (.ifCond .lt 33, 3) := by decide +kernel
theorem dX1_mostOverloaded_106 : decode cX1_mostOverloaded 106 = .ok (.lload 5, 2) := by decide +kernel
theorem dX1_mostOverloaded_108 : decode cX1_mostOverloaded 108 = .ok (.aload_n 0, 1) := by decide +kernel
theorem dX1_mostOverloaded_109 : decode cX1_mostOverloaded 109 = .ok (.getfield 47, 3) := by decide +kernel
theorem dX1_mostOverloaded_112 : decode cX1_mostOverloaded 112 = .ok (.getfield 176, 3) := by decide +kernel
theorem dX1_mostOverloaded_115 : decode cX1_mostOverloaded 115 = .ok (.iload_n 1, 1) := by decide +kernel
theorem dX1_mostOverloaded_116 : decode cX1_mostOverloaded 116 = .ok (.iaload, 1) := by decide +kernel
theorem dX1_mostOverloaded_117 : decode cX1_mostOverloaded 117 = .ok (.i2l, 1) := by decide +kernel
theorem dX1_mostOverloaded_118 : decode cX1_mostOverloaded 118 = .ok (.lmul, 1) := by decide +kernel
theorem dX1_mostOverloaded_119 : decode cX1_mostOverloaded 119 = .ok (.lload_n 2, 1) := by decide +kernel
theorem dX1_mostOverloaded_120 : decode cX1_mostOverloaded 120 = .ok (.aload_n 0, 1) := by decide +kernel
theorem dX1_mostOverloaded_121 : decode cX1_mostOverloaded 121 = .ok (.getfield 47, 3) := by decide +kernel
theorem dX1_mostOverloaded_124 : decode cX1_mostOverloaded 124 = .ok (.getfield 176, 3) := by decide +kernel
theorem dX1_mostOverloaded_127 : decode cX1_mostOverloaded 127 = .ok (.iload 4, 2) := by decide +kernel
theorem dX1_mostOverloaded_129 : decode cX1_mostOverloaded 129 = .ok (.iaload, 1) := by decide +kernel
theorem dX1_mostOverloaded_130 : decode cX1_mostOverloaded 130 = .ok (.i2l, 1) := by decide +kernel
theorem dX1_mostOverloaded_131 : decode cX1_mostOverloaded 131 = .ok (.lmul, 1) := by decide +kernel
theorem dX1_mostOverloaded_132 : decode cX1_mostOverloaded 132 = .ok (.lcmp, 1) := by decide +kernel
theorem dX1_mostOverloaded_133 : decode cX1_mostOverloaded 133 = .ok (.ifCond .le 9, 3) := by decide +kernel
theorem dX1_mostOverloaded_136 : decode cX1_mostOverloaded 136 = .ok (.iload 4, 2) := by decide +kernel
theorem dX1_mostOverloaded_138 : decode cX1_mostOverloaded 138 = .ok (.istore_n 1, 1) := by decide +kernel
theorem dX1_mostOverloaded_139 : decode cX1_mostOverloaded 139 = .ok (.lload 5, 2) := by decide +kernel
theorem dX1_mostOverloaded_141 : decode cX1_mostOverloaded 141 = .ok (.lstore_n 2, 1) := by decide +kernel
theorem dX1_mostOverloaded_142 : decode cX1_mostOverloaded 142 = .ok (.iinc 4 1, 3) := by decide +kernel
theorem dX1_mostOverloaded_145 : decode cX1_mostOverloaded 145 = .ok (.goto (-138), 3) := by decide +kernel
theorem dX1_mostOverloaded_148 : decode cX1_mostOverloaded 148 = .ok (.iload_n 1, 1) := by decide +kernel
theorem dX1_mostOverloaded_149 : decode cX1_mostOverloaded 149 = .ok (.ireturn, 1) := by decide +kernel
theorem dX2_init_0 : decode cX2_init 0 = .ok (.aload_n 0, 1) := by decide +kernel
theorem dX2_init_1 : decode cX2_init 1 = .ok (.invokespecial 3, 3) := by decide +kernel
theorem dX2_init_4 : decode cX2_init 4 = .ok (.aload_n 0, 1) := by decide +kernel
theorem dX2_init_5 : decode cX2_init 5 = .ok (.iconst 5, 1) := by decide +kernel
theorem dX2_init_6 : decode cX2_init 6 = .ok (.newarray .int, 2) := by decide +kernel
theorem dX2_init_8 : decode cX2_init 8 = .ok (.putfield 9, 3) := by decide +kernel
theorem dX2_init_11 : decode cX2_init 11 = .ok (.aload_n 0, 1) := by decide +kernel
theorem dX2_init_12 : decode cX2_init 12 = .ok (.iconst 5, 1) := by decide +kernel
theorem dX2_init_13 : decode cX2_init 13 = .ok (.newarray .int, 2) := by decide +kernel
theorem dX2_init_15 : decode cX2_init 15 = .ok (.putfield 15, 3) := by decide +kernel
theorem dX2_init_18 : decode cX2_init 18 = .ok (.aload_n 0, 1) := by decide +kernel
theorem dX2_init_19 : decode cX2_init 19 = .ok (.iconst 5, 1) := by decide +kernel
theorem dX2_init_20 : decode cX2_init 20 = .ok (.newarray .int, 2) := by decide +kernel
theorem dX2_init_22 : decode cX2_init 22 = .ok (.putfield 18, 3) := by decide +kernel
theorem dX2_init_25 : decode cX2_init 25 = .ok (.aload_n 0, 1) := by decide +kernel
theorem dX2_init_26 : decode cX2_init 26 = .ok (.iconst 5, 1) := by decide +kernel
theorem dX2_init_27 : decode cX2_init 27 = .ok (.newarray .int, 2) := by decide +kernel
theorem dX2_init_29 : decode cX2_init 29 = .ok (.putfield 21, 3) := by decide +kernel
theorem dX2_init_32 : decode cX2_init 32 = .ok (.aload_n 0, 1) := by decide +kernel
theorem dX2_init_33 : decode cX2_init 33 = .ok (.iconst 5, 1) := by decide +kernel
theorem dX2_init_34 : decode cX2_init 34 = .ok (.newarray .int, 2) := by decide +kernel
theorem dX2_init_36 : decode cX2_init 36 = .ok (.putfield 24, 3) := by decide +kernel
theorem dX2_init_39 : decode cX2_init 39 = .ok (.aload_n 0, 1) := by decide +kernel
theorem dX2_init_40 : decode cX2_init 40 = .ok (.iconst 5, 1) := by decide +kernel
theorem dX2_init_41 : decode cX2_init 41 = .ok (.newarray .boolean, 2) := by decide +kernel
theorem dX2_init_43 : decode cX2_init 43 = .ok (.putfield 27, 3) := by decide +kernel
theorem dX2_init_46 : decode cX2_init 46 = .ok (.aload_n 0, 1) := by decide +kernel
theorem dX2_init_47 : decode cX2_init 47 = .ok (.iconst 5, 1) := by decide +kernel
theorem dX2_init_48 : decode cX2_init 48 = .ok (.newarray .int, 2) := by decide +kernel
theorem dX2_init_50 : decode cX2_init 50 = .ok (.putfield 31, 3) := by decide +kernel
theorem dX2_init_53 : decode cX2_init 53 = .ok (.aload_n 0, 1) := by decide +kernel
theorem dX2_init_54 : decode cX2_init 54 = .ok (.iconst 1, 1) := by decide +kernel
theorem dX2_init_55 : decode cX2_init 55 = .ok (.putfield 34, 3) := by decide +kernel
theorem dX2_init_58 : decode cX2_init 58 = .ok (.aload_n 0, 1) := by decide +kernel
theorem dX2_init_59 : decode cX2_init 59 = .ok (.iconst 1, 1) := by decide +kernel
theorem dX2_init_60 : decode cX2_init 60 = .ok (.putfield 38, 3) := by decide +kernel
theorem dX2_init_63 : decode cX2_init 63 = .ok (.return_, 1) := by decide +kernel
theorem dX2_has_0 : decode cX2_has 0 = .ok (.iload_n 1, 1) := by decide +kernel
theorem dX2_has_1 : decode cX2_has 1 = .ok (.ifCond .lt 20, 3) := by decide +kernel
theorem dX2_has_4 : decode cX2_has 4 = .ok (.iload_n 1, 1) := by decide +kernel
theorem dX2_has_5 : decode cX2_has 5 = .ok (.aload_n 0, 1) := by decide +kernel
theorem dX2_has_6 : decode cX2_has 6 = .ok (.getfield 41, 3) := by decide +kernel
theorem dX2_has_9 : decode cX2_has 9 = .ok (.if_icmp .ge 12, 3) := by decide +kernel
theorem dX2_has_12 : decode cX2_has 12 = .ok (.iload_n 1, 1) := by decide +kernel
theorem dX2_has_13 : decode cX2_has 13 = .ok (.iconst 5, 1) := by decide +kernel
theorem dX2_has_14 : decode cX2_has 14 = .ok (.if_icmp .ge 7, 3) := by decide +kernel
theorem dX2_has_17 : decode cX2_has 17 = .ok (.iconst 1, 1) := by decide +kernel
theorem dX2_has_18 : decode cX2_has 18 = .ok (.goto 4, 3) := by decide +kernel
theorem dX2_has_21 : decode cX2_has 21 = .ok (.iconst 0, 1) := by decide +kernel
theorem dX2_has_22 : decode cX2_has 22 = .ok (.ireturn, 1) := by decide +kernel
theorem dX2_hasGap_0 : decode cX2_hasGap 0 = .ok (.aload_n 0, 1) := by decide +kernel
theorem dX2_hasGap_1 : decode cX2_hasGap 1 = .ok (.iload_n 1, 1) := by decide +kernel
theorem dX2_hasGap_2 : decode cX2_hasGap 2 = .ok (.invokevirtual 44, 3) := by decide +kernel
theorem dX2_hasGap_5 : decode cX2_hasGap 5 = .ok (.ifCond .eq 17, 3) := by decide +kernel
theorem dX2_hasGap_8 : decode cX2_hasGap 8 = .ok (.aload_n 0, 1) := by decide +kernel
theorem dX2_hasGap_9 : decode cX2_hasGap 9 = .ok (.iload_n 1, 1) := by decide +kernel
theorem dX2_hasGap_10 : decode cX2_hasGap 10 = .ok (.iconst 1, 1) := by decide +kernel
theorem dX2_hasGap_11 : decode cX2_hasGap 11 = .ok (.iadd, 1) := by decide +kernel
theorem dX2_hasGap_12 : decode cX2_hasGap 12 = .ok (.invokevirtual 44, 3) := by decide +kernel
theorem dX2_hasGap_15 : decode cX2_hasGap 15 = .ok (.ifCond .eq 7, 3) := by decide +kernel
theorem dX2_hasGap_18 : decode cX2_hasGap 18 = .ok (.iconst 1, 1) := by decide +kernel
theorem dX2_hasGap_19 : decode cX2_hasGap 19 = .ok (.goto 4, 3) := by decide +kernel
theorem dX2_hasGap_22 : decode cX2_hasGap 22 = .ok (.iconst 0, 1) := by decide +kernel
theorem dX2_hasGap_23 : decode cX2_hasGap 23 = .ok (.ireturn, 1) := by decide +kernel
theorem dX2_write_0 : decode cX2_write 0 = .ok (.aload_n 0, 1) := by decide +kernel
theorem dX2_write_1 : decode cX2_write 1 = .ok (.getfield 9, 3) := by decide +kernel
theorem dX2_write_4 : decode cX2_write 4 = .ok (.iload_n 1, 1) := by decide +kernel
theorem dX2_write_5 : decode cX2_write 5 = .ok (.iload_n 2, 1) := by decide +kernel
theorem dX2_write_6 : decode cX2_write 6 = .ok (.iastore, 1) := by decide +kernel
theorem dX2_write_7 : decode cX2_write 7 = .ok (.aload_n 0, 1) := by decide +kernel
theorem dX2_write_8 : decode cX2_write 8 = .ok (.getfield 15, 3) := by decide +kernel
theorem dX2_write_11 : decode cX2_write 11 = .ok (.iload_n 1, 1) := by decide +kernel
theorem dX2_write_12 : decode cX2_write 12 = .ok (.iload_n 3, 1) := by decide +kernel
theorem dX2_write_13 : decode cX2_write 13 = .ok (.iastore, 1) := by decide +kernel
theorem dX2_write_14 : decode cX2_write 14 = .ok (.aload_n 0, 1) := by decide +kernel
theorem dX2_write_15 : decode cX2_write 15 = .ok (.getfield 18, 3) := by decide +kernel
theorem dX2_write_18 : decode cX2_write 18 = .ok (.iload_n 1, 1) := by decide +kernel
theorem dX2_write_19 : decode cX2_write 19 = .ok (.iload 4, 2) := by decide +kernel
theorem dX2_write_21 : decode cX2_write 21 = .ok (.iastore, 1) := by decide +kernel
theorem dX2_write_22 : decode cX2_write 22 = .ok (.aload_n 0, 1) := by decide +kernel
theorem dX2_write_23 : decode cX2_write 23 = .ok (.getfield 21, 3) := by decide +kernel
theorem dX2_write_26 : decode cX2_write 26 = .ok (.iload_n 1, 1) := by decide +kernel
theorem dX2_write_27 : decode cX2_write 27 = .ok (.iload 5, 2) := by decide +kernel
theorem dX2_write_29 : decode cX2_write 29 = .ok (.iastore, 1) := by decide +kernel
theorem dX2_write_30 : decode cX2_write 30 = .ok (.aload_n 0, 1) := by decide +kernel
theorem dX2_write_31 : decode cX2_write 31 = .ok (.getfield 24, 3) := by decide +kernel
theorem dX2_write_34 : decode cX2_write 34 = .ok (.iload_n 1, 1) := by decide +kernel
theorem dX2_write_35 : decode cX2_write 35 = .ok (.iload 6, 2) := by decide +kernel
theorem dX2_write_37 : decode cX2_write 37 = .ok (.iastore, 1) := by decide +kernel
theorem dX2_write_38 : decode cX2_write 38 = .ok (.return_, 1) := by decide +kernel
theorem dX2_add_0 : decode cX2_add 0 = .ok (.aload_n 0, 1) := by decide +kernel
theorem dX2_add_1 : decode cX2_add 1 = .ok (.getfield 41, 3) := by decide +kernel
theorem dX2_add_4 : decode cX2_add 4 = .ok (.iconst 5, 1) := by decide +kernel
theorem dX2_add_5 : decode cX2_add 5 = .ok (.if_icmp .lt 4, 3) := by decide +kernel
theorem dX2_add_8 : decode cX2_add 8 = .ok (.return_, 1) := by decide +kernel
theorem dX2_add_9 : decode cX2_add 9 = .ok (.aload_n 0, 1) := by decide +kernel
theorem dX2_add_10 : decode cX2_add 10 = .ok (.getfield 41, 3) := by decide +kernel
theorem dX2_add_13 : decode cX2_add 13 = .ok (.ifCond .le 15, 3) := by decide +kernel
theorem dX2_add_16 : decode cX2_add 16 = .ok (.aload_n 0, 1) := by decide +kernel
theorem dX2_add_17 : decode cX2_add 17 = .ok (.getfield 31, 3) := by decide +kernel
theorem dX2_add_20 : decode cX2_add 20 = .ok (.aload_n 0, 1) := by decide +kernel
theorem dX2_add_21 : decode cX2_add 21 = .ok (.getfield 41, 3) := by decide +kernel
theorem dX2_add_24 : decode cX2_add 24 = .ok (.iconst 1, 1) := by decide +kernel
theorem dX2_add_25 : decode cX2_add 25 = .ok (.isub, 1) := by decide +kernel
theorem dX2_add_26 : decode cX2_add 26 = .ok (.iconst 1, 1) := by decide +kernel
theorem dX2_add_27 : decode cX2_add 27 = .ok (.iastore, 1) := by decide +kernel
theorem dX2_add_28 : decode cX2_add 28 = .ok (.aload_n 0, 1) := by decide +kernel
theorem dX2_add_29 : decode cX2_add 29 = .ok (.getfield 27, 3) := by decide +kernel
theorem dX2_add_32 : decode cX2_add 32 = .ok (.aload_n 0, 1) := by decide +kernel
theorem dX2_add_33 : decode cX2_add 33 = .ok (.getfield 41, 3) := by decide +kernel
theorem dX2_add_36 : decode cX2_add 36 = .ok (.iconst 0, 1) := by decide +kernel
theorem dX2_add_37 : decode cX2_add 37 = .ok (.bastore, 1) := by decide +kernel
theorem dX2_add_38 : decode cX2_add 38 = .ok (.aload_n 0, 1) := by decide +kernel
theorem dX2_add_39 : decode cX2_add 39 = .ok (.aload_n 0, 1) := by decide +kernel
theorem dX2_add_40 : decode cX2_add 40 = .ok (.getfield 41, 3) := by decide +kernel
theorem dX2_add_43 : decode cX2_add 43 = .ok (.iload_n 1, 1) := by decide +kernel
theorem dX2_add_44 : decode cX2_add 44 = .ok (.iload_n 2, 1) := by decide +kernel
theorem dX2_add_45 : decode cX2_add 45 = .ok (.iload_n 3, 1) := by decide +kernel
theorem dX2_add_46 : decode cX2_add 46 = .ok (.iload 4, 2) := by decide +kernel
theorem dX2_add_48 : decode cX2_add 48 = .ok (.iload 5, 2) := by decide +kernel
theorem dX2_add_50 : decode cX2_add 50 = .ok (.invokevirtual 48, 3) := by decide +kernel
theorem dX2_add_53 : decode cX2_add 53 = .ok (.aload_n 0, 1) := by decide +kernel
theorem dX2_add_54 : decode cX2_add 54 = .ok (.dup, 1) := by decide +kernel
theorem dX2_add_55 : decode cX2_add 55 = .ok (.getfield 41, 3) := by decide +kernel
theorem dX2_add_58 : decode cX2_add 58 = .ok (.iconst 1, 1) := by decide +kernel
theorem dX2_add_59 : decode cX2_add 59 = .ok (.iadd, 1) := by decide +kernel
theorem dX2_add_60 : decode cX2_add 60 = .ok (.putfield 41, 3) := by decide +kernel
theorem dX2_add_63 : decode cX2_add 63 = .ok (.return_, 1) := by decide +kernel
theorem dX2_copyBolt_0 : decode cX2_copyBolt 0 = .ok (.aload_n 0, 1) := by decide +kernel
theorem dX2_copyBolt_1 : decode cX2_copyBolt 1 = .ok (.iload_n 3, 1) := by decide +kernel
theorem dX2_copyBolt_2 : decode cX2_copyBolt 2 = .ok (.aload_n 1, 1) := by decide +kernel
theorem dX2_copyBolt_3 : decode cX2_copyBolt 3 = .ok (.getfield 9, 3) := by decide +kernel
theorem dX2_copyBolt_6 : decode cX2_copyBolt 6 = .ok (.iload_n 2, 1) := by decide +kernel
theorem dX2_copyBolt_7 : decode cX2_copyBolt 7 = .ok (.iaload, 1) := by decide +kernel
theorem dX2_copyBolt_8 : decode cX2_copyBolt 8 = .ok (.aload_n 1, 1) := by decide +kernel
theorem dX2_copyBolt_9 : decode cX2_copyBolt 9 = .ok (.getfield 15, 3) := by decide +kernel
theorem dX2_copyBolt_12 : decode cX2_copyBolt 12 = .ok (.iload_n 2, 1) := by decide +kernel
theorem dX2_copyBolt_13 : decode cX2_copyBolt 13 = .ok (.iaload, 1) := by decide +kernel
theorem dX2_copyBolt_14 : decode cX2_copyBolt 14 = .ok (.aload_n 1, 1) := by decide +kernel
theorem dX2_copyBolt_15 : decode cX2_copyBolt 15 = .ok (.getfield 18, 3) := by decide +kernel
theorem dX2_copyBolt_18 : decode cX2_copyBolt 18 = .ok (.iload_n 2, 1) := by decide +kernel
theorem dX2_copyBolt_19 : decode cX2_copyBolt 19 = .ok (.iaload, 1) := by decide +kernel
theorem dX2_copyBolt_20 : decode cX2_copyBolt 20 = .ok (.aload_n 1, 1) := by decide +kernel
theorem dX2_copyBolt_21 : decode cX2_copyBolt 21 = .ok (.getfield 21, 3) := by decide +kernel
theorem dX2_copyBolt_24 : decode cX2_copyBolt 24 = .ok (.iload_n 2, 1) := by decide +kernel
theorem dX2_copyBolt_25 : decode cX2_copyBolt 25 = .ok (.iaload, 1) := by decide +kernel
theorem dX2_copyBolt_26 : decode cX2_copyBolt 26 = .ok (.aload_n 1, 1) := by decide +kernel
theorem dX2_copyBolt_27 : decode cX2_copyBolt 27 = .ok (.getfield 24, 3) := by decide +kernel
theorem dX2_copyBolt_30 : decode cX2_copyBolt 30 = .ok (.iload_n 2, 1) := by decide +kernel
theorem dX2_copyBolt_31 : decode cX2_copyBolt 31 = .ok (.iaload, 1) := by decide +kernel
theorem dX2_copyBolt_32 : decode cX2_copyBolt 32 = .ok (.invokevirtual 48, 3) := by decide +kernel
theorem dX2_copyBolt_35 : decode cX2_copyBolt 35 = .ok (.aload_n 0, 1) := by decide +kernel
theorem dX2_copyBolt_36 : decode cX2_copyBolt 36 = .ok (.getfield 27, 3) := by decide +kernel
theorem dX2_copyBolt_39 : decode cX2_copyBolt 39 = .ok (.iload_n 3, 1) := by decide +kernel
theorem dX2_copyBolt_40 : decode cX2_copyBolt 40 = .ok (.aload_n 1, 1) := by decide +kernel
theorem dX2_copyBolt_41 : decode cX2_copyBolt 41 = .ok (.getfield 27, 3) := by decide +kernel
theorem dX2_copyBolt_44 : decode cX2_copyBolt 44 = .ok (.iload_n 2, 1) := by decide +kernel
theorem dX2_copyBolt_45 : decode cX2_copyBolt 45 = .ok (.baload, 1) := by decide +kernel
theorem dX2_copyBolt_46 : decode cX2_copyBolt 46 = .ok (.bastore, 1) := by decide +kernel
theorem dX2_copyBolt_47 : decode cX2_copyBolt 47 = .ok (.return_, 1) := by decide +kernel
theorem dX2_copyAll_0 : decode cX2_copyAll 0 = .ok (.aload_n 0, 1) := by decide +kernel
theorem dX2_copyAll_1 : decode cX2_copyAll 1 = .ok (.aload_n 1, 1) := by decide +kernel
theorem dX2_copyAll_2 : decode cX2_copyAll 2 = .ok (.getfield 41, 3) := by decide +kernel
theorem dX2_copyAll_5 : decode cX2_copyAll 5 = .ok (.putfield 41, 3) := by decide +kernel
theorem dX2_copyAll_8 : decode cX2_copyAll 8 = .ok (.aload_n 0, 1) := by decide +kernel
theorem dX2_copyAll_9 : decode cX2_copyAll 9 = .ok (.aload_n 1, 1) := by decide +kernel
theorem dX2_copyAll_10 : decode cX2_copyAll 10 = .ok (.getfield 34, 3) := by decide +kernel
theorem dX2_copyAll_13 : decode cX2_copyAll 13 = .ok (.putfield 34, 3) := by decide +kernel
theorem dX2_copyAll_16 : decode cX2_copyAll 16 = .ok (.aload_n 0, 1) := by decide +kernel
theorem dX2_copyAll_17 : decode cX2_copyAll 17 = .ok (.aload_n 1, 1) := by decide +kernel
theorem dX2_copyAll_18 : decode cX2_copyAll 18 = .ok (.getfield 38, 3) := by decide +kernel
theorem dX2_copyAll_21 : decode cX2_copyAll 21 = .ok (.putfield 38, 3) := by decide +kernel
theorem dX2_copyAll_24 : decode cX2_copyAll 24 = .ok (.iconst 0, 1) := by decide +kernel
theorem dX2_copyAll_25 : decode cX2_copyAll 25 = .ok (.istore_n 2, 1) := by decide +kernel
theorem dX2_copyAll_26 : decode cX2_copyAll 26 = .ok (.iload_n 2, 1) := by decide +kernel
theorem dX2_copyAll_27 : decode cX2_copyAll 27 = .ok (.aload_n 0, 1) := by decide +kernel
theorem dX2_copyAll_28 : decode cX2_copyAll 28 = .ok (.getfield 41, 3) := by decide +kernel
theorem dX2_copyAll_31 : decode cX2_copyAll 31 = .ok (.if_icmp .ge 33, 3) := by decide +kernel
theorem dX2_copyAll_34 : decode cX2_copyAll 34 = .ok (.iload_n 2, 1) := by decide +kernel
theorem dX2_copyAll_35 : decode cX2_copyAll 35 = .ok (.iconst 5, 1) := by decide +kernel
theorem dX2_copyAll_36 : decode cX2_copyAll 36 = .ok (.if_icmp .ge 28, 3) := by decide +kernel
theorem dX2_copyAll_39 : decode cX2_copyAll 39 = .ok (.aload_n 0, 1) := by decide +kernel
theorem dX2_copyAll_40 : decode cX2_copyAll 40 = .ok (.aload_n 1, 1) := by decide +kernel
theorem dX2_copyAll_41 : decode cX2_copyAll 41 = .ok (.iload_n 2, 1) := by decide +kernel
theorem dX2_copyAll_42 : decode cX2_copyAll 42 = .ok (.iload_n 2, 1) := by decide +kernel
theorem dX2_copyAll_43 : decode cX2_copyAll 43 = .ok (.invokevirtual 52, 3) := by decide +kernel
theorem dX2_copyAll_46 : decode cX2_copyAll 46 = .ok (.aload_n 0, 1) := by decide +kernel
theorem dX2_copyAll_47 : decode cX2_copyAll 47 = .ok (.getfield 31, 3) := by decide +kernel
theorem dX2_copyAll_50 : decode cX2_copyAll 50 = .ok (.iload_n 2, 1) := by decide +kernel
theorem dX2_copyAll_51 : decode cX2_copyAll 51 = .ok (.aload_n 1, 1) := by decide +kernel
theorem dX2_copyAll_52 : decode cX2_copyAll 52 = .ok (.getfield 31, 3) := by decide +kernel
theorem dX2_copyAll_55 : decode cX2_copyAll 55 = .ok (.iload_n 2, 1) := by decide +kernel
theorem dX2_copyAll_56 : decode cX2_copyAll 56 = .ok (.iaload, 1) := by decide +kernel
theorem dX2_copyAll_57 : decode cX2_copyAll 57 = .ok (.iastore, 1) := by decide +kernel
theorem dX2_copyAll_58 : decode cX2_copyAll 58 = .ok (.iinc 2 1, 3) := by decide +kernel
theorem dX2_copyAll_61 : decode cX2_copyAll 61 = .ok (.goto (-35), 3) := by decide +kernel
theorem dX2_copyAll_64 : decode cX2_copyAll 64 = .ok (.return_, 1) := by decide +kernel
theorem dX2_soundBits_0 : decode cX2_soundBits 0 = .ok (.iconst 0, 1) := by decide +kernel
theorem dX2_soundBits_1 : decode cX2_soundBits 1 = .ok (.istore_n 1, 1) := by decide +kernel
theorem dX2_soundBits_2 : decode cX2_soundBits 2 = .ok (.iconst 0, 1) := by decide +kernel
theorem dX2_soundBits_3 : decode cX2_soundBits 3 = .ok (.istore_n 2, 1) := by decide +kernel
theorem dX2_soundBits_4 : decode cX2_soundBits 4 = .ok (.iload_n 2, 1) := by decide +kernel
theorem dX2_soundBits_5 : decode cX2_soundBits 5 = .ok (.aload_n 0, 1) := by decide +kernel
theorem dX2_soundBits_6 : decode cX2_soundBits 6 = .ok (.getfield 41, 3) := by decide +kernel
theorem dX2_soundBits_9 : decode cX2_soundBits 9 = .ok (.if_icmp .ge 28, 3) := by decide +kernel
theorem dX2_soundBits_12 : decode cX2_soundBits 12 = .ok (.iload_n 1, 1) := by decide +kernel
theorem dX2_soundBits_13 : decode cX2_soundBits 13 = .ok (.aload_n 0, 1) := by decide +kernel
theorem dX2_soundBits_14 : decode cX2_soundBits 14 = .ok (.getfield 27, 3) := by decide +kernel
theorem dX2_soundBits_17 : decode cX2_soundBits 17 = .ok (.iload_n 2, 1) := by decide +kernel
theorem dX2_soundBits_18 : decode cX2_soundBits 18 = .ok (.baload, 1) := by decide +kernel
theorem dX2_soundBits_19 : decode cX2_soundBits 19 = .ok (.ifCond .eq 7, 3) := by decide +kernel
theorem dX2_soundBits_22 : decode cX2_soundBits 22 = .ok (.iconst 0, 1) := by decide +kernel
theorem dX2_soundBits_23 : decode cX2_soundBits 23 = .ok (.goto 6, 3) := by decide +kernel
theorem dX2_soundBits_26 : decode cX2_soundBits 26 = .ok (.iconst 1, 1) := by decide +kernel
theorem dX2_soundBits_27 : decode cX2_soundBits 27 = .ok (.iload_n 2, 1) := by decide +kernel
theorem dX2_soundBits_28 : decode cX2_soundBits 28 = .ok (.ishl, 1) := by decide +kernel
theorem dX2_soundBits_29 : decode cX2_soundBits 29 = .ok (.ior, 1) := by decide +kernel
theorem dX2_soundBits_30 : decode cX2_soundBits 30 = .ok (.istore_n 1, 1) := by decide +kernel
theorem dX2_soundBits_31 : decode cX2_soundBits 31 = .ok (.iinc 2 1, 3) := by decide +kernel
theorem dX2_soundBits_34 : decode cX2_soundBits 34 = .ok (.goto (-30), 3) := by decide +kernel
theorem dX2_soundBits_37 : decode cX2_soundBits 37 = .ok (.iload_n 1, 1) := by decide +kernel
theorem dX2_soundBits_38 : decode cX2_soundBits 38 = .ok (.ireturn, 1) := by decide +kernel
theorem dX2_breaksTogether_0 : decode cX2_breaksTogether 0 = .ok (.iconst 0, 1) := by decide +kernel
theorem dX2_breaksTogether_1 : decode cX2_breaksTogether 1 = .ok (.istore_n 1, 1) := by decide +kernel
theorem dX2_breaksTogether_2 : decode cX2_breaksTogether 2 = .ok (.iconst 0, 1) := by decide +kernel
theorem dX2_breaksTogether_3 : decode cX2_breaksTogether 3 = .ok (.istore_n 2, 1) := by decide +kernel
theorem dX2_breaksTogether_4 : decode cX2_breaksTogether 4 = .ok (.iload_n 2, 1) := by decide +kernel
theorem dX2_breaksTogether_5 : decode cX2_breaksTogether 5 = .ok (.aload_n 0, 1) := by decide +kernel
theorem dX2_breaksTogether_6 : decode cX2_breaksTogether 6 = .ok (.getfield 41, 3) := by decide +kernel
theorem dX2_breaksTogether_9 : decode cX2_breaksTogether 9 = .ok (.if_icmp .ge 31, 3) := by decide +kernel
theorem dX2_breaksTogether_12 : decode cX2_breaksTogether 12 = .ok (.iload_n 1, 1) := by decide +kernel
theorem dX2_breaksTogether_13 : decode cX2_breaksTogether 13 = .ok (.aload_n 0, 1) := by decide +kernel
theorem dX2_breaksTogether_14 : decode cX2_breaksTogether 14 = .ok (.getfield 27, 3) := by decide +kernel
theorem dX2_breaksTogether_17 : decode cX2_breaksTogether 17 = .ok (.iload_n 2, 1) := by decide +kernel
theorem dX2_breaksTogether_18 : decode cX2_breaksTogether 18 = .ok (.baload, 1) := by decide +kernel
theorem dX2_breaksTogether_19 : decode cX2_breaksTogether 19 = .ok (.ifCond .eq 7, 3) := by decide +kernel
theorem dX2_breaksTogether_22 : decode cX2_breaksTogether 22 = .ok (.iconst 0, 1) := by decide +kernel
theorem dX2_breaksTogether_23 : decode cX2_breaksTogether 23 = .ok (.goto 9, 3) := by decide +kernel
theorem dX2_breaksTogether_26 : decode cX2_breaksTogether 26 = .ok (.aload_n 0, 1) := by decide +kernel
theorem dX2_breaksTogether_27 : decode cX2_breaksTogether 27 = .ok (.getfield 24, 3) := by decide +kernel
theorem dX2_breaksTogether_30 : decode cX2_breaksTogether 30 = .ok (.iload_n 2, 1) := by decide +kernel
theorem dX2_breaksTogether_31 : decode cX2_breaksTogether 31 = .ok (.iaload, 1) := by decide +kernel
theorem dX2_breaksTogether_32 : decode cX2_breaksTogether 32 = .ok (.iadd, 1) := by decide +kernel
theorem dX2_breaksTogether_33 : decode cX2_breaksTogether 33 = .ok (.istore_n 1, 1) := by decide +kernel
theorem dX2_breaksTogether_34 : decode cX2_breaksTogether 34 = .ok (.iinc 2 1, 3) := by decide +kernel
theorem dX2_breaksTogether_37 : decode cX2_breaksTogether 37 = .ok (.goto (-33), 3) := by decide +kernel
theorem dX2_breaksTogether_40 : decode cX2_breaksTogether 40 = .ok (.iload_n 1, 1) := by decide +kernel
theorem dX2_breaksTogether_41 : decode cX2_breaksTogether 41 = .ok (.ireturn, 1) := by decide +kernel
theorem dX2_leastClear_0 : decode cX2_leastClear 0 = .ok (.iconst (-1), 1) := by decide +kernel
theorem dX2_leastClear_1 : decode cX2_leastClear 1 = .ok (.istore_n 2, 1) := by decide +kernel
theorem dX2_leastClear_2 : decode cX2_leastClear 2 = .ok (.iconst 0, 1) := by decide +kernel
theorem dX2_leastClear_3 : decode cX2_leastClear 3 = .ok (.istore_n 3, 1) := by decide +kernel
theorem dX2_leastClear_4 : decode cX2_leastClear 4 = .ok (.iload_n 3, 1) := by decide +kernel
theorem dX2_leastClear_5 : decode cX2_leastClear 5 = .ok (.aload_n 0, 1) := by decide +kernel
theorem dX2_leastClear_6 : decode cX2_leastClear 6 = .ok (.getfield 41, 3) := by decide +kernel
theorem dX2_leastClear_9 : decode cX2_leastClear 9 = .ok (.if_icmp .ge 40, 3) := by decide +kernel
theorem dX2_leastClear_12 : decode cX2_leastClear 12 = .ok (.iload_n 1, 1) := by decide +kernel
theorem dX2_leastClear_13 : decode cX2_leastClear 13 = .ok (.iload_n 3, 1) := by decide +kernel
theorem dX2_leastClear_14 : decode cX2_leastClear 14 = .ok (.ishr, 1) := by decide +kernel
theorem dX2_leastClear_15 : decode cX2_leastClear 15 = .ok (.iconst 1, 1) := by decide +kernel
theorem dX2_leastClear_16 : decode cX2_leastClear 16 = .ok (.iand, 1) := by decide +kernel
theorem dX2_leastClear_17 : decode cX2_leastClear 17 = .ok (.iconst 1, 1) := by decide +kernel
theorem dX2_leastClear_18 : decode cX2_leastClear 18 = .ok (.if_icmp .ne 25, 3) := by decide +kernel
theorem dX2_leastClear_21 : decode cX2_leastClear 21 = .ok (.iload_n 2, 1) := by decide +kernel
theorem dX2_leastClear_22 : decode cX2_leastClear 22 = .ok (.iconst (-1), 1) := by decide +kernel
theorem dX2_leastClear_23 : decode cX2_leastClear 23 = .ok (.if_icmp .eq 13, 3) := by decide +kernel
theorem dX2_leastClear_26 : decode cX2_leastClear 26 = .ok (.aload_n 0, 1) := by decide +kernel
theorem dX2_leastClear_27 : decode cX2_leastClear 27 = .ok (.getfield 15, 3) := by decide +kernel
theorem dX2_leastClear_30 : decode cX2_leastClear 30 = .ok (.iload_n 3, 1) := by decide +kernel
theorem dX2_leastClear_31 : decode cX2_leastClear 31 = .ok (.iaload, 1) := by decide +kernel
theorem dX2_leastClear_32 : decode cX2_leastClear 32 = .ok (.iload_n 2, 1) := by decide +kernel
theorem dX2_leastClear_33 : decode cX2_leastClear 33 = .ok (.if_icmp .ge 10, 3) := by decide +kernel
theorem dX2_leastClear_36 : decode cX2_leastClear 36 = .ok (.aload_n 0, 1) := by decide +kernel
theorem dX2_leastClear_37 : decode cX2_leastClear 37 = .ok (.getfield 15, 3) := by decide +kernel
theorem dX2_leastClear_40 : decode cX2_leastClear 40 = .ok (.iload_n 3, 1) := by decide +kernel
theorem dX2_leastClear_41 : decode cX2_leastClear 41 = .ok (.iaload, 1) := by decide +kernel
theorem dX2_leastClear_42 : decode cX2_leastClear 42 = .ok (.istore_n 2, 1) := by decide +kernel
theorem dX2_leastClear_43 : decode cX2_leastClear 43 = .ok (.iinc 3 1, 3) := by decide +kernel
theorem dX2_leastClear_46 : decode cX2_leastClear 46 = .ok (.goto (-42), 3) := by decide +kernel
theorem dX2_leastClear_49 : decode cX2_leastClear 49 = .ok (.iload_n 2, 1) := by decide +kernel
theorem dX2_leastClear_50 : decode cX2_leastClear 50 = .ok (.ireturn, 1) := by decide +kernel
theorem dX3_init_0 : decode cX3_init 0 = .ok (.aload_n 0, 1) := by decide +kernel
theorem dX3_init_1 : decode cX3_init 1 = .ok (.invokespecial 3, 3) := by decide +kernel
theorem dX3_init_4 : decode cX3_init 4 = .ok (.aload_n 0, 1) := by decide +kernel
theorem dX3_init_5 : decode cX3_init 5 = .ok (.iconst 5, 1) := by decide +kernel
theorem dX3_init_6 : decode cX3_init 6 = .ok (.newarray .int, 2) := by decide +kernel
theorem dX3_init_8 : decode cX3_init 8 = .ok (.putfield 9, 3) := by decide +kernel
theorem dX3_init_11 : decode cX3_init 11 = .ok (.aload_n 0, 1) := by decide +kernel
theorem dX3_init_12 : decode cX3_init 12 = .ok (.iconst 5, 1) := by decide +kernel
theorem dX3_init_13 : decode cX3_init 13 = .ok (.newarray .long, 2) := by decide +kernel
theorem dX3_init_15 : decode cX3_init 15 = .ok (.putfield 15, 3) := by decide +kernel
theorem dX3_init_18 : decode cX3_init 18 = .ok (.aload_n 0, 1) := by decide +kernel
theorem dX3_init_19 : decode cX3_init 19 = .ok (.iconst 5, 1) := by decide +kernel
theorem dX3_init_20 : decode cX3_init 20 = .ok (.newarray .long, 2) := by decide +kernel
theorem dX3_init_22 : decode cX3_init 22 = .ok (.putfield 19, 3) := by decide +kernel
theorem dX3_init_25 : decode cX3_init 25 = .ok (.aload_n 0, 1) := by decide +kernel
theorem dX3_init_26 : decode cX3_init 26 = .ok (.iconst 5, 1) := by decide +kernel
theorem dX3_init_27 : decode cX3_init 27 = .ok (.newarray .long, 2) := by decide +kernel
theorem dX3_init_29 : decode cX3_init 29 = .ok (.putfield 22, 3) := by decide +kernel
theorem dX3_init_32 : decode cX3_init 32 = .ok (.aload_n 0, 1) := by decide +kernel
theorem dX3_init_33 : decode cX3_init 33 = .ok (.iconst 5, 1) := by decide +kernel
theorem dX3_init_34 : decode cX3_init 34 = .ok (.newarray .long, 2) := by decide +kernel
theorem dX3_init_36 : decode cX3_init 36 = .ok (.putfield 25, 3) := by decide +kernel
theorem dX3_init_39 : decode cX3_init 39 = .ok (.aload_n 0, 1) := by decide +kernel
theorem dX3_init_40 : decode cX3_init 40 = .ok (.iconst 5, 1) := by decide +kernel
theorem dX3_init_41 : decode cX3_init 41 = .ok (.newarray .long, 2) := by decide +kernel
theorem dX3_init_43 : decode cX3_init 43 = .ok (.putfield 28, 3) := by decide +kernel
theorem dX3_init_46 : decode cX3_init 46 = .ok (.aload_n 0, 1) := by decide +kernel
theorem dX3_init_47 : decode cX3_init 47 = .ok (.lconst 1, 1) := by decide +kernel
theorem dX3_init_48 : decode cX3_init 48 = .ok (.putfield 31, 3) := by decide +kernel
theorem dX3_init_51 : decode cX3_init 51 = .ok (.aload_n 0, 1) := by decide +kernel
theorem dX3_init_52 : decode cX3_init 52 = .ok (.iconst 5, 1) := by decide +kernel
theorem dX3_init_53 : decode cX3_init 53 = .ok (.newarray .long, 2) := by decide +kernel
theorem dX3_init_55 : decode cX3_init 55 = .ok (.putfield 35, 3) := by decide +kernel
theorem dX3_init_58 : decode cX3_init 58 = .ok (.aload_n 0, 1) := by decide +kernel
theorem dX3_init_59 : decode cX3_init 59 = .ok (.iconst 5, 1) := by decide +kernel
theorem dX3_init_60 : decode cX3_init 60 = .ok (.newarray .long, 2) := by decide +kernel
theorem dX3_init_62 : decode cX3_init 62 = .ok (.putfield 38, 3) := by decide +kernel
theorem dX3_init_65 : decode cX3_init 65 = .ok (.aload_n 0, 1) := by decide +kernel
theorem dX3_init_66 : decode cX3_init 66 = .ok (.iconst 5, 1) := by decide +kernel
theorem dX3_init_67 : decode cX3_init 67 = .ok (.newarray .long, 2) := by decide +kernel
theorem dX3_init_69 : decode cX3_init 69 = .ok (.putfield 41, 3) := by decide +kernel
theorem dX3_init_72 : decode cX3_init 72 = .ok (.aload_n 0, 1) := by decide +kernel
theorem dX3_init_73 : decode cX3_init 73 = .ok (.iconst 5, 1) := by decide +kernel
theorem dX3_init_74 : decode cX3_init 74 = .ok (.newarray .long, 2) := by decide +kernel
theorem dX3_init_76 : decode cX3_init 76 = .ok (.putfield 44, 3) := by decide +kernel
theorem dX3_init_79 : decode cX3_init 79 = .ok (.aload_n 0, 1) := by decide +kernel
theorem dX3_init_80 : decode cX3_init 80 = .ok (.aload_n 1, 1) := by decide +kernel
theorem dX3_init_81 : decode cX3_init 81 = .ok (.putfield 47, 3) := by decide +kernel
theorem dX3_init_84 : decode cX3_init 84 = .ok (.return_, 1) := by decide +kernel
theorem dX3_walk_0 : decode cX3_walk 0 = .ok (.lconst 1, 1) := by decide +kernel
theorem dX3_walk_1 : decode cX3_walk 1 = .ok (.lstore_n 1, 1) := by decide +kernel
theorem dX3_walk_2 : decode cX3_walk 2 = .ok (.lconst 1, 1) := by decide +kernel
theorem dX3_walk_3 : decode cX3_walk 3 = .ok (.lstore_n 3, 1) := by decide +kernel
theorem dX3_walk_4 : decode cX3_walk 4 = .ok (.lconst 0, 1) := by decide +kernel
theorem dX3_walk_5 : decode cX3_walk 5 = .ok (.lstore 5, 2) := by decide +kernel
theorem dX3_walk_7 : decode cX3_walk 7 = .ok (.lconst 0, 1) := by decide +kernel
theorem dX3_walk_8 : decode cX3_walk 8 = .ok (.lstore 7, 2) := by decide +kernel
theorem dX3_walk_10 : decode cX3_walk 10 = .ok (.lconst 0, 1) := by decide +kernel
theorem dX3_walk_11 : decode cX3_walk 11 = .ok (.lstore 9, 2) := by decide +kernel
theorem dX3_walk_13 : decode cX3_walk 13 = .ok (.lconst 0, 1) := by decide +kernel
theorem dX3_walk_14 : decode cX3_walk 14 = .ok (.lstore 11, 2) := by decide +kernel
theorem dX3_walk_16 : decode cX3_walk 16 = .ok (.lconst 0, 1) := by decide +kernel
theorem dX3_walk_17 : decode cX3_walk 17 = .ok (.lstore 13, 2) := by decide +kernel
theorem dX3_walk_19 : decode cX3_walk 19 = .ok (.aload_n 0, 1) := by decide +kernel
theorem dX3_walk_20 : decode cX3_walk 20 = .ok (.getfield 47, 3) := by decide +kernel
theorem dX3_walk_23 : decode cX3_walk 23 = .ok (.getfield 51, 3) := by decide +kernel
theorem dX3_walk_26 : decode cX3_walk 26 = .ok (.aload_n 0, 1) := by decide +kernel
theorem dX3_walk_27 : decode cX3_walk 27 = .ok (.getfield 47, 3) := by decide +kernel
theorem dX3_walk_30 : decode cX3_walk 30 = .ok (.getfield 57, 3) := by decide +kernel
theorem dX3_walk_33 : decode cX3_walk 33 = .ok (.iadd, 1) := by decide +kernel
theorem dX3_walk_34 : decode cX3_walk 34 = .ok (.istore 15, 2) := by decide +kernel
theorem dX3_walk_36 : decode cX3_walk 36 = .ok (.iconst 0, 1) := by decide +kernel
theorem dX3_walk_37 : decode cX3_walk 37 = .ok (.istore 16, 2) := by decide +kernel
theorem dX3_walk_39 : decode cX3_walk 39 = .ok (.iload 16, 2) := by decide +kernel
theorem dX3_walk_41 : decode cX3_walk 41 = .ok (.aload_n 0, 1) := by decide +kernel
theorem dX3_walk_42 : decode cX3_walk 42 = .ok (.getfield 47, 3) := by decide +kernel
theorem dX3_walk_45 : decode cX3_walk 45 = .ok (.getfield 60, 3) := by decide +kernel
theorem dX3_walk_48 : decode cX3_walk 48 = .ok (.if_icmp .ge 211, 3) := by decide +kernel
theorem dX3_walk_51 : decode cX3_walk 51 = .ok (.aload_n 0, 1) := by decide +kernel
theorem dX3_walk_52 : decode cX3_walk 52 = .ok (.getfield 35, 3) := by decide +kernel
theorem dX3_walk_55 : decode cX3_walk 55 = .ok (.iload 16, 2) := by decide +kernel
theorem dX3_walk_57 : decode cX3_walk 57 = .ok (.lload_n 3, 1) := by decide +kernel
theorem dX3_walk_58 : decode cX3_walk 58 = .ok (.lastore, 1) := by decide +kernel
theorem dX3_walk_59 : decode cX3_walk 59 = .ok (.aload_n 0, 1) := by decide +kernel
theorem dX3_walk_60 : decode cX3_walk 60 = .ok (.getfield 38, 3) := by decide +kernel
theorem dX3_walk_63 : decode cX3_walk 63 = .ok (.iload 16, 2) := by decide +kernel
theorem dX3_walk_65 : decode cX3_walk 65 = .ok (.lload 5, 2) := by decide +kernel
theorem dX3_walk_67 : decode cX3_walk 67 = .ok (.lastore, 1) := by decide +kernel
theorem dX3_walk_68 : decode cX3_walk 68 = .ok (.aload_n 0, 1) := by decide +kernel
theorem dX3_walk_69 : decode cX3_walk 69 = .ok (.getfield 41, 3) := by decide +kernel
theorem dX3_walk_72 : decode cX3_walk 72 = .ok (.iload 16, 2) := by decide +kernel
theorem dX3_walk_74 : decode cX3_walk 74 = .ok (.lload 7, 2) := by decide +kernel
theorem dX3_walk_76 : decode cX3_walk 76 = .ok (.lastore, 1) := by decide +kernel
theorem dX3_walk_77 : decode cX3_walk 77 = .ok (.aload_n 0, 1) := by decide +kernel
theorem dX3_walk_78 : decode cX3_walk 78 = .ok (.getfield 44, 3) := by decide +kernel
theorem dX3_walk_81 : decode cX3_walk 81 = .ok (.iload 16, 2) := by decide +kernel
theorem dX3_walk_83 : decode cX3_walk 83 = .ok (.lload_n 1, 1) := by decide +kernel
theorem dX3_walk_84 : decode cX3_walk 84 = .ok (.lastore, 1) := by decide +kernel
theorem dX3_walk_85 : decode cX3_walk 85 = .ok (.aload_n 0, 1) := by decide +kernel
theorem dX3_walk_86 : decode cX3_walk 86 = .ok (.getfield 9, 3) := by decide +kernel
theorem dX3_walk_89 : decode cX3_walk 89 = .ok (.iload 16, 2) := by decide +kernel
theorem dX3_walk_91 : decode cX3_walk 91 = .ok (.iaload, 1) := by decide +kernel
theorem dX3_walk_92 : decode cX3_walk 92 = .ok (.istore 17, 2) := by decide +kernel
theorem dX3_walk_94 : decode cX3_walk 94 = .ok (.iload 17, 2) := by decide +kernel
theorem dX3_walk_96 : decode cX3_walk 96 = .ok (.ifCond .le 73, 3) := by decide +kernel
theorem dX3_walk_99 : decode cX3_walk 99 = .ok (.lload 9, 2) := by decide +kernel
theorem dX3_walk_101 : decode cX3_walk 101 = .ok (.iload 17, 2) := by decide +kernel
theorem dX3_walk_103 : decode cX3_walk 103 = .ok (.i2l, 1) := by decide +kernel
theorem dX3_walk_104 : decode cX3_walk 104 = .ok (.lmul, 1) := by decide +kernel
theorem dX3_walk_105 : decode cX3_walk 105 = .ok (.lload_n 3, 1) := by decide +kernel
theorem dX3_walk_106 : decode cX3_walk 106 = .ok (.ladd, 1) := by decide +kernel
theorem dX3_walk_107 : decode cX3_walk 107 = .ok (.lstore 9, 2) := by decide +kernel
theorem dX3_walk_109 : decode cX3_walk 109 = .ok (.lload 11, 2) := by decide +kernel
theorem dX3_walk_111 : decode cX3_walk 111 = .ok (.iload 17, 2) := by decide +kernel
theorem dX3_walk_113 : decode cX3_walk 113 = .ok (.i2l, 1) := by decide +kernel
theorem dX3_walk_114 : decode cX3_walk 114 = .ok (.lmul, 1) := by decide +kernel
theorem dX3_walk_115 : decode cX3_walk 115 = .ok (.lload 5, 2) := by decide +kernel
theorem dX3_walk_117 : decode cX3_walk 117 = .ok (.ladd, 1) := by decide +kernel
theorem dX3_walk_118 : decode cX3_walk 118 = .ok (.lstore 11, 2) := by decide +kernel
theorem dX3_walk_120 : decode cX3_walk 120 = .ok (.lload 13, 2) := by decide +kernel
theorem dX3_walk_122 : decode cX3_walk 122 = .ok (.iload 17, 2) := by decide +kernel
theorem dX3_walk_124 : decode cX3_walk 124 = .ok (.i2l, 1) := by decide +kernel
theorem dX3_walk_125 : decode cX3_walk 125 = .ok (.lmul, 1) := by decide +kernel
theorem dX3_walk_126 : decode cX3_walk 126 = .ok (.lload 7, 2) := by decide +kernel
theorem dX3_walk_128 : decode cX3_walk 128 = .ok (.ladd, 1) := by decide +kernel
theorem dX3_walk_129 : decode cX3_walk 129 = .ok (.aload_n 0, 1) := by decide +kernel
theorem dX3_walk_130 : decode cX3_walk 130 = .ok (.getfield 15, 3) := by decide +kernel
theorem dX3_walk_133 : decode cX3_walk 133 = .ok (.iload 16, 2) := by decide +kernel
theorem dX3_walk_135 : decode cX3_walk 135 = .ok (.laload, 1) := by decide +kernel
theorem dX3_walk_136 : decode cX3_walk 136 = .ok (.lload_n 1, 1) := by decide +kernel
theorem dX3_walk_137 : decode cX3_walk 137 = .ok (.lmul, 1) := by decide +kernel
theorem dX3_walk_138 : decode cX3_walk 138 = .ok (.lsub, 1) := by decide +kernel
theorem dX3_walk_139 : decode cX3_walk 139 = .ok (.lstore 13, 2) := by decide +kernel
theorem dX3_walk_141 : decode cX3_walk 141 = .ok (.lload_n 3, 1) := by decide +kernel
theorem dX3_walk_142 : decode cX3_walk 142 = .ok (.iload 17, 2) := by decide +kernel
theorem dX3_walk_144 : decode cX3_walk 144 = .ok (.i2l, 1) := by decide +kernel
theorem dX3_walk_145 : decode cX3_walk 145 = .ok (.lmul, 1) := by decide +kernel
theorem dX3_walk_146 : decode cX3_walk 146 = .ok (.lstore_n 3, 1) := by decide +kernel
theorem dX3_walk_147 : decode cX3_walk 147 = .ok (.lload 5, 2) := by decide +kernel
theorem dX3_walk_149 : decode cX3_walk 149 = .ok (.iload 17, 2) := by decide +kernel
theorem dX3_walk_151 : decode cX3_walk 151 = .ok (.i2l, 1) := by decide +kernel
theorem dX3_walk_152 : decode cX3_walk 152 = .ok (.lmul, 1) := by decide +kernel
theorem dX3_walk_153 : decode cX3_walk 153 = .ok (.lstore 5, 2) := by decide +kernel
theorem dX3_walk_155 : decode cX3_walk 155 = .ok (.lload 7, 2) := by decide +kernel
theorem dX3_walk_157 : decode cX3_walk 157 = .ok (.iload 17, 2) := by decide +kernel
theorem dX3_walk_159 : decode cX3_walk 159 = .ok (.i2l, 1) := by decide +kernel
theorem dX3_walk_160 : decode cX3_walk 160 = .ok (.lmul, 1) := by decide +kernel
theorem dX3_walk_161 : decode cX3_walk 161 = .ok (.lstore 7, 2) := by decide +kernel
theorem dX3_walk_163 : decode cX3_walk 163 = .ok (.lload_n 1, 1) := by decide +kernel
theorem dX3_walk_164 : decode cX3_walk 164 = .ok (.iload 17, 2) := by decide +kernel
theorem dX3_walk_166 : decode cX3_walk 166 = .ok (.i2l, 1) := by decide +kernel
theorem dX3_walk_167 : decode cX3_walk 167 = .ok (.lmul, 1) := by decide +kernel
theorem dX3_walk_168 : decode cX3_walk 168 = .ok (.lstore_n 1, 1) := by decide +kernel
theorem dX3_walk_169 : decode cX3_walk 169 = .ok (.iload 16, 2) := by decide +kernel
theorem dX3_walk_171 : decode cX3_walk 171 = .ok (.iconst 1, 1) := by decide +kernel
theorem dX3_walk_172 : decode cX3_walk 172 = .ok (.iadd, 1) := by decide +kernel
theorem dX3_walk_173 : decode cX3_walk 173 = .ok (.aload_n 0, 1) := by decide +kernel
theorem dX3_walk_174 : decode cX3_walk 174 = .ok (.getfield 47, 3) := by decide +kernel
theorem dX3_walk_177 : decode cX3_walk 177 = .ok (.getfield 60, 3) := by decide +kernel
theorem dX3_walk_180 : decode cX3_walk 180 = .ok (.if_icmp .ge 16, 3) := by decide +kernel
theorem dX3_walk_183 : decode cX3_walk 183 = .ok (.aload_n 0, 1) := by decide +kernel
theorem dX3_walk_184 : decode cX3_walk 184 = .ok (.getfield 47, 3) := by decide +kernel
theorem dX3_walk_187 : decode cX3_walk 187 = .ok (.getfield 63, 3) := by decide +kernel
theorem dX3_walk_190 : decode cX3_walk 190 = .ok (.iload 16, 2) := by decide +kernel
theorem dX3_walk_192 : decode cX3_walk 192 = .ok (.iaload, 1) := by decide +kernel
theorem dX3_walk_193 : decode cX3_walk 193 = .ok (.goto 4, 3) := by decide +kernel
theorem dX3_walk_196 : decode cX3_walk 196 = .ok (.iconst 0, 1) := by decide +kernel
theorem dX3_walk_197 : decode cX3_walk 197 = .ok (.istore 18, 2) := by decide +kernel
theorem dX3_walk_199 : decode cX3_walk 199 = .ok (.lload_n 3, 1) := by decide +kernel
theorem dX3_walk_200 : decode cX3_walk 200 = .ok (.iload 18, 2) := by decide +kernel
theorem dX3_walk_202 : decode cX3_walk 202 = .ok (.iload 15, 2) := by decide +kernel
theorem dX3_walk_204 : decode cX3_walk 204 = .ok (.imul, 1) := by decide +kernel
theorem dX3_walk_205 : decode cX3_walk 205 = .ok (.i2l, 1) := by decide +kernel
theorem dX3_walk_206 : decode cX3_walk 206 = .ok (.lload 9, 2) := by decide +kernel
theorem dX3_walk_208 : decode cX3_walk 208 = .ok (.lmul, 1) := by decide +kernel
theorem dX3_walk_209 : decode cX3_walk 209 = .ok (.ladd, 1) := by decide +kernel
theorem dX3_walk_210 : decode cX3_walk 210 = .ok (.lstore_n 3, 1) := by decide +kernel
theorem dX3_walk_211 : decode cX3_walk 211 = .ok (.lload 5, 2) := by decide +kernel
theorem dX3_walk_213 : decode cX3_walk 213 = .ok (.iload 18, 2) := by decide +kernel
theorem dX3_walk_215 : decode cX3_walk 215 = .ok (.iload 15, 2) := by decide +kernel
theorem dX3_walk_217 : decode cX3_walk 217 = .ok (.imul, 1) := by decide +kernel
theorem dX3_walk_218 : decode cX3_walk 218 = .ok (.i2l, 1) := by decide +kernel
theorem dX3_walk_219 : decode cX3_walk 219 = .ok (.lload 11, 2) := by decide +kernel
theorem dX3_walk_221 : decode cX3_walk 221 = .ok (.lmul, 1) := by decide +kernel
theorem dX3_walk_222 : decode cX3_walk 222 = .ok (.iload 18, 2) := by decide +kernel
theorem dX3_walk_224 : decode cX3_walk 224 = .ok (.aload_n 0, 1) := by decide +kernel
theorem dX3_walk_225 : decode cX3_walk 225 = .ok (.getfield 47, 3) := by decide +kernel
theorem dX3_walk_228 : decode cX3_walk 228 = .ok (.getfield 51, 3) := by decide +kernel
theorem dX3_walk_231 : decode cX3_walk 231 = .ok (.imul, 1) := by decide +kernel
theorem dX3_walk_232 : decode cX3_walk 232 = .ok (.i2l, 1) := by decide +kernel
theorem dX3_walk_233 : decode cX3_walk 233 = .ok (.lload_n 1, 1) := by decide +kernel
theorem dX3_walk_234 : decode cX3_walk 234 = .ok (.lmul, 1) := by decide +kernel
theorem dX3_walk_235 : decode cX3_walk 235 = .ok (.lsub, 1) := by decide +kernel
theorem dX3_walk_236 : decode cX3_walk 236 = .ok (.ladd, 1) := by decide +kernel
theorem dX3_walk_237 : decode cX3_walk 237 = .ok (.lstore 5, 2) := by decide +kernel
theorem dX3_walk_239 : decode cX3_walk 239 = .ok (.lload 7, 2) := by decide +kernel
theorem dX3_walk_241 : decode cX3_walk 241 = .ok (.iload 18, 2) := by decide +kernel
theorem dX3_walk_243 : decode cX3_walk 243 = .ok (.iload 15, 2) := by decide +kernel
theorem dX3_walk_245 : decode cX3_walk 245 = .ok (.imul, 1) := by decide +kernel
theorem dX3_walk_246 : decode cX3_walk 246 = .ok (.i2l, 1) := by decide +kernel
theorem dX3_walk_247 : decode cX3_walk 247 = .ok (.lload 13, 2) := by decide +kernel
theorem dX3_walk_249 : decode cX3_walk 249 = .ok (.lmul, 1) := by decide +kernel
theorem dX3_walk_250 : decode cX3_walk 250 = .ok (.ladd, 1) := by decide +kernel
theorem dX3_walk_251 : decode cX3_walk 251 = .ok (.lstore 7, 2) := by decide +kernel
theorem dX3_walk_253 : decode cX3_walk 253 = .ok (.iinc 16 1, 3) := by decide +kernel
theorem dX3_walk_256 : decode cX3_walk 256 = .ok (.goto (-217), 3) := by decide +kernel
theorem dX3_walk_259 : decode cX3_walk 259 = .ok (.aload_n 0, 1) := by decide +kernel
theorem dX3_walk_260 : decode cX3_walk 260 = .ok (.lload 9, 2) := by decide +kernel
theorem dX3_walk_262 : decode cX3_walk 262 = .ok (.lconst 0, 1) := by decide +kernel
theorem dX3_walk_263 : decode cX3_walk 263 = .ok (.lcmp, 1) := by decide +kernel
theorem dX3_walk_264 : decode cX3_walk 264 = .ok (.ifCond .le 8, 3) := by decide +kernel
theorem dX3_walk_267 : decode cX3_walk 267 = .ok (.lload 9, 2) := by decide +kernel
theorem dX3_walk_269 : decode cX3_walk 269 = .ok (.goto 4, 3) := by decide +kernel
theorem dX3_walk_272 : decode cX3_walk 272 = .ok (.lconst 1, 1) := by decide +kernel
theorem dX3_walk_273 : decode cX3_walk 273 = .ok (.putfield 31, 3) := by decide +kernel
theorem dX3_walk_276 : decode cX3_walk 276 = .ok (.aload_n 0, 1) := by decide +kernel
theorem dX3_walk_277 : decode cX3_walk 277 = .ok (.lload_n 1, 1) := by decide +kernel
theorem dX3_walk_278 : decode cX3_walk 278 = .ok (.lload 11, 2) := by decide +kernel
theorem dX3_walk_280 : decode cX3_walk 280 = .ok (.lsub, 1) := by decide +kernel
theorem dX3_walk_281 : decode cX3_walk 281 = .ok (.putfield 66, 3) := by decide +kernel
theorem dX3_walk_284 : decode cX3_walk 284 = .ok (.aload_n 0, 1) := by decide +kernel
theorem dX3_walk_285 : decode cX3_walk 285 = .ok (.lload 13, 2) := by decide +kernel
theorem dX3_walk_287 : decode cX3_walk 287 = .ok (.lneg, 1) := by decide +kernel
theorem dX3_walk_288 : decode cX3_walk 288 = .ok (.putfield 69, 3) := by decide +kernel
theorem dX3_walk_291 : decode cX3_walk 291 = .ok (.return_, 1) := by decide +kernel
theorem dX3_fill_0 : decode cX3_fill 0 = .ok (.iconst 0, 1) := by decide +kernel
theorem dX3_fill_1 : decode cX3_fill 1 = .ok (.istore_n 1, 1) := by decide +kernel
theorem dX3_fill_2 : decode cX3_fill 2 = .ok (.iload_n 1, 1) := by decide +kernel
theorem dX3_fill_3 : decode cX3_fill 3 = .ok (.aload_n 0, 1) := by decide +kernel
theorem dX3_fill_4 : decode cX3_fill 4 = .ok (.getfield 47, 3) := by decide +kernel
theorem dX3_fill_7 : decode cX3_fill 7 = .ok (.getfield 60, 3) := by decide +kernel
theorem dX3_fill_10 : decode cX3_fill 10 = .ok (.if_icmp .ge 163, 3) := by decide +kernel
theorem dX3_fill_13 : decode cX3_fill 13 = .ok (.aload_n 0, 1) := by decide +kernel
theorem dX3_fill_14 : decode cX3_fill 14 = .ok (.getfield 44, 3) := by decide +kernel
theorem dX3_fill_17 : decode cX3_fill 17 = .ok (.iload_n 1, 1) := by decide +kernel
theorem dX3_fill_18 : decode cX3_fill 18 = .ok (.laload, 1) := by decide +kernel
theorem dX3_fill_19 : decode cX3_fill 19 = .ok (.lconst 0, 1) := by decide +kernel
theorem dX3_fill_20 : decode cX3_fill 20 = .ok (.lcmp, 1) := by decide +kernel
theorem dX3_fill_21 : decode cX3_fill 21 = .ok (.ifCond .le 12, 3) := by decide +kernel
theorem dX3_fill_24 : decode cX3_fill 24 = .ok (.aload_n 0, 1) := by decide +kernel
theorem dX3_fill_25 : decode cX3_fill 25 = .ok (.getfield 44, 3) := by decide +kernel
theorem dX3_fill_28 : decode cX3_fill 28 = .ok (.iload_n 1, 1) := by decide +kernel
theorem dX3_fill_29 : decode cX3_fill 29 = .ok (.laload, 1) := by decide +kernel
theorem dX3_fill_30 : decode cX3_fill 30 = .ok (.goto 4, 3) := by decide +kernel
theorem dX3_fill_33 : decode cX3_fill 33 = .ok (.lconst 1, 1) := by decide +kernel
theorem dX3_fill_34 : decode cX3_fill 34 = .ok (.lstore_n 2, 1) := by decide +kernel
theorem dX3_fill_35 : decode cX3_fill 35 = .ok (.aload_n 0, 1) := by decide +kernel
theorem dX3_fill_36 : decode cX3_fill 36 = .ok (.getfield 25, 3) := by decide +kernel
theorem dX3_fill_39 : decode cX3_fill 39 = .ok (.iload_n 1, 1) := by decide +kernel
theorem dX3_fill_40 : decode cX3_fill 40 = .ok (.aload_n 0, 1) := by decide +kernel
theorem dX3_fill_41 : decode cX3_fill 41 = .ok (.getfield 35, 3) := by decide +kernel
theorem dX3_fill_44 : decode cX3_fill 44 = .ok (.iload_n 1, 1) := by decide +kernel
theorem dX3_fill_45 : decode cX3_fill 45 = .ok (.laload, 1) := by decide +kernel
theorem dX3_fill_46 : decode cX3_fill 46 = .ok (.aload_n 0, 1) := by decide +kernel
theorem dX3_fill_47 : decode cX3_fill 47 = .ok (.getfield 66, 3) := by decide +kernel
theorem dX3_fill_50 : decode cX3_fill 50 = .ok (.lmul, 1) := by decide +kernel
theorem dX3_fill_51 : decode cX3_fill 51 = .ok (.aload_n 0, 1) := by decide +kernel
theorem dX3_fill_52 : decode cX3_fill 52 = .ok (.getfield 38, 3) := by decide +kernel
theorem dX3_fill_55 : decode cX3_fill 55 = .ok (.iload_n 1, 1) := by decide +kernel
theorem dX3_fill_56 : decode cX3_fill 56 = .ok (.laload, 1) := by decide +kernel
theorem dX3_fill_57 : decode cX3_fill 57 = .ok (.aload_n 0, 1) := by decide +kernel
theorem dX3_fill_58 : decode cX3_fill 58 = .ok (.getfield 31, 3) := by decide +kernel
theorem dX3_fill_61 : decode cX3_fill 61 = .ok (.lmul, 1) := by decide +kernel
theorem dX3_fill_62 : decode cX3_fill 62 = .ok (.ladd, 1) := by decide +kernel
theorem dX3_fill_63 : decode cX3_fill 63 = .ok (.lload_n 2, 1) := by decide +kernel
theorem dX3_fill_64 : decode cX3_fill 64 = .ok (.ldiv, 1) := by decide +kernel
theorem dX3_fill_65 : decode cX3_fill 65 = .ok (.lastore, 1) := by decide +kernel
theorem dX3_fill_66 : decode cX3_fill 66 = .ok (.aload_n 0, 1) := by decide +kernel
theorem dX3_fill_67 : decode cX3_fill 67 = .ok (.getfield 28, 3) := by decide +kernel
theorem dX3_fill_70 : decode cX3_fill 70 = .ok (.iload_n 1, 1) := by decide +kernel
theorem dX3_fill_71 : decode cX3_fill 71 = .ok (.aload_n 0, 1) := by decide +kernel
theorem dX3_fill_72 : decode cX3_fill 72 = .ok (.getfield 35, 3) := by decide +kernel
theorem dX3_fill_75 : decode cX3_fill 75 = .ok (.iload_n 1, 1) := by decide +kernel
theorem dX3_fill_76 : decode cX3_fill 76 = .ok (.laload, 1) := by decide +kernel
theorem dX3_fill_77 : decode cX3_fill 77 = .ok (.aload_n 0, 1) := by decide +kernel
theorem dX3_fill_78 : decode cX3_fill 78 = .ok (.getfield 69, 3) := by decide +kernel
theorem dX3_fill_81 : decode cX3_fill 81 = .ok (.lmul, 1) := by decide +kernel
theorem dX3_fill_82 : decode cX3_fill 82 = .ok (.aload_n 0, 1) := by decide +kernel
theorem dX3_fill_83 : decode cX3_fill 83 = .ok (.getfield 41, 3) := by decide +kernel
theorem dX3_fill_86 : decode cX3_fill 86 = .ok (.iload_n 1, 1) := by decide +kernel
theorem dX3_fill_87 : decode cX3_fill 87 = .ok (.laload, 1) := by decide +kernel
theorem dX3_fill_88 : decode cX3_fill 88 = .ok (.aload_n 0, 1) := by decide +kernel
theorem dX3_fill_89 : decode cX3_fill 89 = .ok (.getfield 31, 3) := by decide +kernel
theorem dX3_fill_92 : decode cX3_fill 92 = .ok (.lmul, 1) := by decide +kernel
theorem dX3_fill_93 : decode cX3_fill 93 = .ok (.ladd, 1) := by decide +kernel
theorem dX3_fill_94 : decode cX3_fill 94 = .ok (.lload_n 2, 1) := by decide +kernel
theorem dX3_fill_95 : decode cX3_fill 95 = .ok (.ldiv, 1) := by decide +kernel
theorem dX3_fill_96 : decode cX3_fill 96 = .ok (.lastore, 1) := by decide +kernel
theorem dX3_fill_97 : decode cX3_fill 97 = .ok (.aload_n 0, 1) := by decide +kernel
theorem dX3_fill_98 : decode cX3_fill 98 = .ok (.getfield 9, 3) := by decide +kernel
theorem dX3_fill_101 : decode cX3_fill 101 = .ok (.iload_n 1, 1) := by decide +kernel
theorem dX3_fill_102 : decode cX3_fill 102 = .ok (.iaload, 1) := by decide +kernel
theorem dX3_fill_103 : decode cX3_fill 103 = .ok (.istore 4, 2) := by decide +kernel
theorem dX3_fill_105 : decode cX3_fill 105 = .ok (.aload_n 0, 1) := by decide +kernel
theorem dX3_fill_106 : decode cX3_fill 106 = .ok (.getfield 19, 3) := by decide +kernel
theorem dX3_fill_109 : decode cX3_fill 109 = .ok (.iload_n 1, 1) := by decide +kernel
theorem dX3_fill_110 : decode cX3_fill 110 = .ok (.iload 4, 2) := by decide +kernel
theorem dX3_fill_112 : decode cX3_fill 112 = .ok (.ifCond .le 16, 3) := by decide +kernel
theorem dX3_fill_115 : decode cX3_fill 115 = .ok (.aload_n 0, 1) := by decide +kernel
theorem dX3_fill_116 : decode cX3_fill 116 = .ok (.getfield 25, 3) := by decide +kernel
theorem dX3_fill_119 : decode cX3_fill 119 = .ok (.iload_n 1, 1) := by decide +kernel
theorem dX3_fill_120 : decode cX3_fill 120 = .ok (.laload, 1) := by decide +kernel
theorem dX3_fill_121 : decode cX3_fill 121 = .ok (.iload 4, 2) := by decide +kernel
theorem dX3_fill_123 : decode cX3_fill 123 = .ok (.i2l, 1) := by decide +kernel
theorem dX3_fill_124 : decode cX3_fill 124 = .ok (.ldiv, 1) := by decide +kernel
theorem dX3_fill_125 : decode cX3_fill 125 = .ok (.goto 4, 3) := by decide +kernel
theorem dX3_fill_128 : decode cX3_fill 128 = .ok (.lconst 0, 1) := by decide +kernel
theorem dX3_fill_129 : decode cX3_fill 129 = .ok (.lastore, 1) := by decide +kernel
theorem dX3_fill_130 : decode cX3_fill 130 = .ok (.aload_n 0, 1) := by decide +kernel
theorem dX3_fill_131 : decode cX3_fill 131 = .ok (.getfield 22, 3) := by decide +kernel
theorem dX3_fill_134 : decode cX3_fill 134 = .ok (.iload_n 1, 1) := by decide +kernel
theorem dX3_fill_135 : decode cX3_fill 135 = .ok (.iload 4, 2) := by decide +kernel
theorem dX3_fill_137 : decode cX3_fill 137 = .ok (.ifCond .le 28, 3) := by decide +kernel
theorem dX3_fill_140 : decode cX3_fill 140 = .ok (.aload_n 0, 1) := by decide +kernel
theorem dX3_fill_141 : decode cX3_fill 141 = .ok (.getfield 28, 3) := by decide +kernel
theorem dX3_fill_144 : decode cX3_fill 144 = .ok (.iload_n 1, 1) := by decide +kernel
theorem dX3_fill_145 : decode cX3_fill 145 = .ok (.laload, 1) := by decide +kernel
theorem dX3_fill_146 : decode cX3_fill 146 = .ok (.aload_n 0, 1) := by decide +kernel
theorem dX3_fill_147 : decode cX3_fill 147 = .ok (.getfield 15, 3) := by decide +kernel
theorem dX3_fill_150 : decode cX3_fill 150 = .ok (.iload_n 1, 1) := by decide +kernel
theorem dX3_fill_151 : decode cX3_fill 151 = .ok (.laload, 1) := by decide +kernel
theorem dX3_fill_152 : decode cX3_fill 152 = .ok (.aload_n 0, 1) := by decide +kernel
theorem dX3_fill_153 : decode cX3_fill 153 = .ok (.getfield 31, 3) := by decide +kernel
theorem dX3_fill_156 : decode cX3_fill 156 = .ok (.lmul, 1) := by decide +kernel
theorem dX3_fill_157 : decode cX3_fill 157 = .ok (.lsub, 1) := by decide +kernel
theorem dX3_fill_158 : decode cX3_fill 158 = .ok (.iload 4, 2) := by decide +kernel
theorem dX3_fill_160 : decode cX3_fill 160 = .ok (.i2l, 1) := by decide +kernel
theorem dX3_fill_161 : decode cX3_fill 161 = .ok (.ldiv, 1) := by decide +kernel
theorem dX3_fill_162 : decode cX3_fill 162 = .ok (.goto 4, 3) := by decide +kernel
theorem dX3_fill_165 : decode cX3_fill 165 = .ok (.lconst 0, 1) := by decide +kernel
theorem dX3_fill_166 : decode cX3_fill 166 = .ok (.lastore, 1) := by decide +kernel
theorem dX3_fill_167 : decode cX3_fill 167 = .ok (.iinc 1 1, 3) := by decide +kernel
theorem dX3_fill_170 : decode cX3_fill 170 = .ok (.goto (-168), 3) := by decide +kernel
theorem dX3_fill_173 : decode cX3_fill 173 = .ok (.return_, 1) := by decide +kernel
theorem dX3_forceAt_0 : decode cX3_forceAt 0 = .ok (.aload_n 0, 1) := by decide +kernel
theorem dX3_forceAt_1 : decode cX3_forceAt 1 = .ok (.getfield 19, 3) := by decide +kernel
theorem dX3_forceAt_4 : decode cX3_forceAt 4 = .ok (.iload_n 1, 1) := by decide +kernel
theorem dX3_forceAt_5 : decode cX3_forceAt 5 = .ok (.laload, 1) := by decide +kernel
theorem dX3_forceAt_6 : decode cX3_forceAt 6 = .ok (.lload_n 2, 1) := by decide +kernel
theorem dX3_forceAt_7 : decode cX3_forceAt 7 = .ok (.lmul, 1) := by decide +kernel
theorem dX3_forceAt_8 : decode cX3_forceAt 8 = .ok (.aload_n 0, 1) := by decide +kernel
theorem dX3_forceAt_9 : decode cX3_forceAt 9 = .ok (.getfield 22, 3) := by decide +kernel
theorem dX3_forceAt_12 : decode cX3_forceAt 12 = .ok (.iload_n 1, 1) := by decide +kernel
theorem dX3_forceAt_13 : decode cX3_forceAt 13 = .ok (.laload, 1) := by decide +kernel
theorem dX3_forceAt_14 : decode cX3_forceAt 14 = .ok (.lload 4, 2) := by decide +kernel
theorem dX3_forceAt_16 : decode cX3_forceAt 16 = .ok (.lmul, 1) := by decide +kernel
theorem dX3_forceAt_17 : decode cX3_forceAt 17 = .ok (.ladd, 1) := by decide +kernel
theorem dX3_forceAt_18 : decode cX3_forceAt 18 = .ok (.lreturn, 1) := by decide +kernel
theorem dX3_slipAt_0 : decode cX3_slipAt 0 = .ok (.aload_n 0, 1) := by decide +kernel
theorem dX3_slipAt_1 : decode cX3_slipAt 1 = .ok (.getfield 25, 3) := by decide +kernel
theorem dX3_slipAt_4 : decode cX3_slipAt 4 = .ok (.iload_n 1, 1) := by decide +kernel
theorem dX3_slipAt_5 : decode cX3_slipAt 5 = .ok (.laload, 1) := by decide +kernel
theorem dX3_slipAt_6 : decode cX3_slipAt 6 = .ok (.lload_n 2, 1) := by decide +kernel
theorem dX3_slipAt_7 : decode cX3_slipAt 7 = .ok (.lmul, 1) := by decide +kernel
theorem dX3_slipAt_8 : decode cX3_slipAt 8 = .ok (.aload_n 0, 1) := by decide +kernel
theorem dX3_slipAt_9 : decode cX3_slipAt 9 = .ok (.getfield 28, 3) := by decide +kernel
theorem dX3_slipAt_12 : decode cX3_slipAt 12 = .ok (.iload_n 1, 1) := by decide +kernel
theorem dX3_slipAt_13 : decode cX3_slipAt 13 = .ok (.laload, 1) := by decide +kernel
theorem dX3_slipAt_14 : decode cX3_slipAt 14 = .ok (.lload 4, 2) := by decide +kernel
theorem dX3_slipAt_16 : decode cX3_slipAt 16 = .ok (.lmul, 1) := by decide +kernel
theorem dX3_slipAt_17 : decode cX3_slipAt 17 = .ok (.ladd, 1) := by decide +kernel
theorem dX3_slipAt_18 : decode cX3_slipAt 18 = .ok (.lreturn, 1) := by decide +kernel
theorem dX3_borneAt_0 : decode cX3_borneAt 0 = .ok (.lconst 0, 1) := by decide +kernel
theorem dX3_borneAt_1 : decode cX3_borneAt 1 = .ok (.lstore 4, 2) := by decide +kernel
theorem dX3_borneAt_3 : decode cX3_borneAt 3 = .ok (.iconst 0, 1) := by decide +kernel
theorem dX3_borneAt_4 : decode cX3_borneAt 4 = .ok (.istore 6, 2) := by decide +kernel
theorem dX3_borneAt_6 : decode cX3_borneAt 6 = .ok (.iload 6, 2) := by decide +kernel
theorem dX3_borneAt_8 : decode cX3_borneAt 8 = .ok (.iload_n 1, 1) := by decide +kernel
theorem dX3_borneAt_9 : decode cX3_borneAt 9 = .ok (.if_icmp .gt 34, 3) := by decide +kernel
theorem dX3_borneAt_12 : decode cX3_borneAt 12 = .ok (.iload 6, 2) := by decide +kernel
theorem dX3_borneAt_14 : decode cX3_borneAt 14 = .ok (.aload_n 0, 1) := by decide +kernel
theorem dX3_borneAt_15 : decode cX3_borneAt 15 = .ok (.getfield 47, 3) := by decide +kernel
theorem dX3_borneAt_18 : decode cX3_borneAt 18 = .ok (.getfield 60, 3) := by decide +kernel
theorem dX3_borneAt_21 : decode cX3_borneAt 21 = .ok (.if_icmp .ge 22, 3) := by decide +kernel
theorem dX3_borneAt_24 : decode cX3_borneAt 24 = .ok (.lload 4, 2) := by decide +kernel
theorem dX3_borneAt_26 : decode cX3_borneAt 26 = .ok (.aload_n 0, 1) := by decide +kernel
theorem dX3_borneAt_27 : decode cX3_borneAt 27 = .ok (.iload 6, 2) := by decide +kernel
theorem dX3_borneAt_29 : decode cX3_borneAt 29 = .ok (.lload_n 2, 1) := by decide +kernel
theorem dX3_borneAt_30 : decode cX3_borneAt 30 = .ok (.lconst 1, 1) := by decide +kernel
theorem dX3_borneAt_31 : decode cX3_borneAt 31 = .ok (.invokevirtual 72, 3) := by decide +kernel
theorem dX3_borneAt_34 : decode cX3_borneAt 34 = .ok (.ladd, 1) := by decide +kernel
theorem dX3_borneAt_35 : decode cX3_borneAt 35 = .ok (.lstore 4, 2) := by decide +kernel
theorem dX3_borneAt_37 : decode cX3_borneAt 37 = .ok (.iinc 6 1, 3) := by decide +kernel
theorem dX3_borneAt_40 : decode cX3_borneAt 40 = .ok (.goto (-34), 3) := by decide +kernel
theorem dX3_borneAt_43 : decode cX3_borneAt 43 = .ok (.lload 4, 2) := by decide +kernel
theorem dX3_borneAt_45 : decode cX3_borneAt 45 = .ok (.lreturn, 1) := by decide +kernel
theorem dX4_init_0 : decode cX4_init 0 = .ok (.aload_n 0, 1) := by decide +kernel
theorem dX4_init_1 : decode cX4_init 1 = .ok (.invokespecial 3, 3) := by decide +kernel
theorem dX4_init_4 : decode cX4_init 4 = .ok (.aload_n 0, 1) := by decide +kernel
theorem dX4_init_5 : decode cX4_init 5 = .ok (.bipush 8, 2) := by decide +kernel
theorem dX4_init_7 : decode cX4_init 7 = .ok (.newarray .long, 2) := by decide +kernel
theorem dX4_init_9 : decode cX4_init 9 = .ok (.putfield 9, 3) := by decide +kernel
theorem dX4_init_12 : decode cX4_init 12 = .ok (.return_, 1) := by decide +kernel
theorem dX4_whole_0 : decode cX4_whole 0 = .ok (.aload_n 0, 1) := by decide +kernel
theorem dX4_whole_1 : decode cX4_whole 1 = .ok (.getfield 15, 3) := by decide +kernel
theorem dX4_whole_4 : decode cX4_whole 4 = .ok (.aload_n 0, 1) := by decide +kernel
theorem dX4_whole_5 : decode cX4_whole 5 = .ok (.getfield 9, 3) := by decide +kernel
theorem dX4_whole_8 : decode cX4_whole 8 = .ok (.arraylength, 1) := by decide +kernel
theorem dX4_whole_9 : decode cX4_whole 9 = .ok (.if_icmp .ge 20, 3) := by decide +kernel
theorem dX4_whole_12 : decode cX4_whole 12 = .ok (.aload_n 0, 1) := by decide +kernel
theorem dX4_whole_13 : decode cX4_whole 13 = .ok (.getfield 9, 3) := by decide +kernel
theorem dX4_whole_16 : decode cX4_whole 16 = .ok (.aload_n 0, 1) := by decide +kernel
theorem dX4_whole_17 : decode cX4_whole 17 = .ok (.dup, 1) := by decide +kernel
theorem dX4_whole_18 : decode cX4_whole 18 = .ok (.getfield 15, 3) := by decide +kernel
theorem dX4_whole_21 : decode cX4_whole 21 = .ok (.dup_x1, 1) := by decide +kernel
theorem dX4_whole_22 : decode cX4_whole 22 = .ok (.iconst 1, 1) := by decide +kernel
theorem dX4_whole_23 : decode cX4_whole 23 = .ok (.iadd, 1) := by decide +kernel
theorem dX4_whole_24 : decode cX4_whole 24 = .ok (.putfield 15, 3) := by decide +kernel
theorem dX4_whole_27 : decode cX4_whole 27 = .ok (.lload_n 1, 1) := by decide +kernel
theorem dX4_whole_28 : decode cX4_whole 28 = .ok (.lastore, 1) := by decide +kernel
theorem dX4_whole_29 : decode cX4_whole 29 = .ok (.return_, 1) := by decide +kernel
theorem dX4_fraction_0 : decode cX4_fraction 0 = .ok (.lload_n 1, 1) := by decide +kernel
theorem dX4_fraction_1 : decode cX4_fraction 1 = .ok (.lload_n 3, 1) := by decide +kernel
theorem dX4_fraction_2 : decode cX4_fraction 2 = .ok (.invokestatic 19, 3) := by decide +kernel
theorem dX4_fraction_5 : decode cX4_fraction 5 = .ok (.lstore 5, 2) := by decide +kernel
theorem dX4_fraction_7 : decode cX4_fraction 7 = .ok (.lload 5, 2) := by decide +kernel
theorem dX4_fraction_9 : decode cX4_fraction 9 = .ok (.lconst 0, 1) := by decide +kernel
theorem dX4_fraction_10 : decode cX4_fraction 10 = .ok (.lcmp, 1) := by decide +kernel
theorem dX4_fraction_11 : decode cX4_fraction 11 = .ok (.ifCond .ne 6, 3) := by decide +kernel
theorem dX4_fraction_14 : decode cX4_fraction 14 = .ok (.lconst 1, 1) := by decide +kernel
theorem dX4_fraction_15 : decode cX4_fraction 15 = .ok (.lstore 5, 2) := by decide +kernel
theorem dX4_fraction_17 : decode cX4_fraction 17 = .ok (.aload_n 0, 1) := by decide +kernel
theorem dX4_fraction_18 : decode cX4_fraction 18 = .ok (.lload_n 1, 1) := by decide +kernel
theorem dX4_fraction_19 : decode cX4_fraction 19 = .ok (.lload 5, 2) := by decide +kernel
theorem dX4_fraction_21 : decode cX4_fraction 21 = .ok (.ldiv, 1) := by decide +kernel
theorem dX4_fraction_22 : decode cX4_fraction 22 = .ok (.invokevirtual 23, 3) := by decide +kernel
theorem dX4_fraction_25 : decode cX4_fraction 25 = .ok (.aload_n 0, 1) := by decide +kernel
theorem dX4_fraction_26 : decode cX4_fraction 26 = .ok (.lload_n 3, 1) := by decide +kernel
theorem dX4_fraction_27 : decode cX4_fraction 27 = .ok (.lload 5, 2) := by decide +kernel
theorem dX4_fraction_29 : decode cX4_fraction 29 = .ok (.ldiv, 1) := by decide +kernel
theorem dX4_fraction_30 : decode cX4_fraction 30 = .ok (.invokevirtual 23, 3) := by decide +kernel
theorem dX4_fraction_33 : decode cX4_fraction 33 = .ok (.return_, 1) := by decide +kernel
theorem dX5_init_0 : decode cX5_init 0 = .ok (.aload_n 0, 1) := by decide +kernel
theorem dX5_init_1 : decode cX5_init 1 = .ok (.invokespecial 3, 3) := by decide +kernel
theorem dX5_init_4 : decode cX5_init 4 = .ok (.aload_n 0, 1) := by decide +kernel
theorem dX5_init_5 : decode cX5_init 5 = .ok (.bipush 80, 2) := by decide +kernel
theorem dX5_init_7 : decode cX5_init 7 = .ok (.newarray .int, 2) := by decide +kernel
theorem dX5_init_9 : decode cX5_init 9 = .ok (.putfield 9, 3) := by decide +kernel
theorem dX5_init_12 : decode cX5_init 12 = .ok (.return_, 1) := by decide +kernel
theorem dX5_addFour_0 : decode cX5_addFour 0 = .ok (.aload_n 0, 1) := by decide +kernel
theorem dX5_addFour_1 : decode cX5_addFour 1 = .ok (.getfield 15, 3) := by decide +kernel
theorem dX5_addFour_4 : decode cX5_addFour 4 = .ok (.iconst 4, 1) := by decide +kernel
theorem dX5_addFour_5 : decode cX5_addFour 5 = .ok (.iadd, 1) := by decide +kernel
theorem dX5_addFour_6 : decode cX5_addFour 6 = .ok (.bipush 80, 2) := by decide +kernel
theorem dX5_addFour_8 : decode cX5_addFour 8 = .ok (.if_icmp .le 5, 3) := by decide +kernel
theorem dX5_addFour_11 : decode cX5_addFour 11 = .ok (.iconst 0, 1) := by decide +kernel
theorem dX5_addFour_12 : decode cX5_addFour 12 = .ok (.ireturn, 1) := by decide +kernel
theorem dX5_addFour_13 : decode cX5_addFour 13 = .ok (.bipush 24, 2) := by decide +kernel
theorem dX5_addFour_15 : decode cX5_addFour 15 = .ok (.istore_n 2, 1) := by decide +kernel
theorem dX5_addFour_16 : decode cX5_addFour 16 = .ok (.iload_n 2, 1) := by decide +kernel
theorem dX5_addFour_17 : decode cX5_addFour 17 = .ok (.ifCond .lt 32, 3) := by decide +kernel
theorem dX5_addFour_20 : decode cX5_addFour 20 = .ok (.aload_n 0, 1) := by decide +kernel
theorem dX5_addFour_21 : decode cX5_addFour 21 = .ok (.getfield 9, 3) := by decide +kernel
theorem dX5_addFour_24 : decode cX5_addFour 24 = .ok (.aload_n 0, 1) := by decide +kernel
theorem dX5_addFour_25 : decode cX5_addFour 25 = .ok (.dup, 1) := by decide +kernel
theorem dX5_addFour_26 : decode cX5_addFour 26 = .ok (.getfield 15, 3) := by decide +kernel
theorem dX5_addFour_29 : decode cX5_addFour 29 = .ok (.dup_x1, 1) := by decide +kernel
theorem dX5_addFour_30 : decode cX5_addFour 30 = .ok (.iconst 1, 1) := by decide +kernel
theorem dX5_addFour_31 : decode cX5_addFour 31 = .ok (.iadd, 1) := by decide +kernel
theorem dX5_addFour_32 : decode cX5_addFour 32 = .ok (.putfield 15, 3) := by decide +kernel
theorem dX5_addFour_35 : decode cX5_addFour 35 = .ok (.iload_n 1, 1) := by decide +kernel
theorem dX5_addFour_36 : decode cX5_addFour 36 = .ok (.iload_n 2, 1) := by decide +kernel
theorem dX5_addFour_37 : decode cX5_addFour 37 = .ok (.iushr, 1) := by decide +kernel
theorem dX5_addFour_38 : decode cX5_addFour 38 = .ok (.sipush 255, 3) := by decide +kernel
theorem dX5_addFour_41 : decode cX5_addFour 41 = .ok (.iand, 1) := by decide +kernel
theorem dX5_addFour_42 : decode cX5_addFour 42 = .ok (.iastore, 1) := by decide +kernel
theorem dX5_addFour_43 : decode cX5_addFour 43 = .ok (.iinc 2 (-8), 3) := by decide +kernel
theorem dX5_addFour_46 : decode cX5_addFour 46 = .ok (.goto (-30), 3) := by decide +kernel
theorem dX5_addFour_49 : decode cX5_addFour 49 = .ok (.iconst 1, 1) := by decide +kernel
theorem dX5_addFour_50 : decode cX5_addFour 50 = .ok (.ireturn, 1) := by decide +kernel
theorem dX5_cut_0 : decode cX5_cut 0 = .ok (.iload_n 1, 1) := by decide +kernel
theorem dX5_cut_1 : decode cX5_cut 1 = .ok (.ifCond .lt 11, 3) := by decide +kernel
theorem dX5_cut_4 : decode cX5_cut 4 = .ok (.iload_n 1, 1) := by decide +kernel
theorem dX5_cut_5 : decode cX5_cut 5 = .ok (.aload_n 0, 1) := by decide +kernel
theorem dX5_cut_6 : decode cX5_cut 6 = .ok (.getfield 15, 3) := by decide +kernel
theorem dX5_cut_9 : decode cX5_cut 9 = .ok (.if_icmp .le 5, 3) := by decide +kernel
theorem dX5_cut_12 : decode cX5_cut 12 = .ok (.iconst 0, 1) := by decide +kernel
theorem dX5_cut_13 : decode cX5_cut 13 = .ok (.ireturn, 1) := by decide +kernel
theorem dX5_cut_14 : decode cX5_cut 14 = .ok (.aload_n 0, 1) := by decide +kernel
theorem dX5_cut_15 : decode cX5_cut 15 = .ok (.iload_n 1, 1) := by decide +kernel
theorem dX5_cut_16 : decode cX5_cut 16 = .ok (.putfield 15, 3) := by decide +kernel
theorem dX5_cut_19 : decode cX5_cut 19 = .ok (.iconst 1, 1) := by decide +kernel
theorem dX5_cut_20 : decode cX5_cut 20 = .ok (.ireturn, 1) := by decide +kernel
theorem dX5_digitAt_0 : decode cX5_digitAt 0 = .ok (.iload_n 1, 1) := by decide +kernel
theorem dX5_digitAt_1 : decode cX5_digitAt 1 = .ok (.ifCond .lt 17, 3) := by decide +kernel
theorem dX5_digitAt_4 : decode cX5_digitAt 4 = .ok (.iload_n 1, 1) := by decide +kernel
theorem dX5_digitAt_5 : decode cX5_digitAt 5 = .ok (.aload_n 0, 1) := by decide +kernel
theorem dX5_digitAt_6 : decode cX5_digitAt 6 = .ok (.getfield 15, 3) := by decide +kernel
theorem dX5_digitAt_9 : decode cX5_digitAt 9 = .ok (.if_icmp .ge 9, 3) := by decide +kernel
theorem dX5_digitAt_12 : decode cX5_digitAt 12 = .ok (.iload_n 1, 1) := by decide +kernel
theorem dX5_digitAt_13 : decode cX5_digitAt 13 = .ok (.bipush 80, 2) := by decide +kernel
theorem dX5_digitAt_15 : decode cX5_digitAt 15 = .ok (.if_icmp .lt 5, 3) := by decide +kernel
theorem dX5_digitAt_18 : decode cX5_digitAt 18 = .ok (.iconst (-1), 1) := by decide +kernel
theorem dX5_digitAt_19 : decode cX5_digitAt 19 = .ok (.ireturn, 1) := by decide +kernel
theorem dX5_digitAt_20 : decode cX5_digitAt 20 = .ok (.aload_n 0, 1) := by decide +kernel
theorem dX5_digitAt_21 : decode cX5_digitAt 21 = .ok (.getfield 9, 3) := by decide +kernel
theorem dX5_digitAt_24 : decode cX5_digitAt 24 = .ok (.iload_n 1, 1) := by decide +kernel
theorem dX5_digitAt_25 : decode cX5_digitAt 25 = .ok (.iaload, 1) := by decide +kernel
theorem dX5_digitAt_26 : decode cX5_digitAt 26 = .ok (.bipush 48, 2) := by decide +kernel
theorem dX5_digitAt_28 : decode cX5_digitAt 28 = .ok (.if_icmp .lt 26, 3) := by decide +kernel
theorem dX5_digitAt_31 : decode cX5_digitAt 31 = .ok (.aload_n 0, 1) := by decide +kernel
theorem dX5_digitAt_32 : decode cX5_digitAt 32 = .ok (.getfield 9, 3) := by decide +kernel
theorem dX5_digitAt_35 : decode cX5_digitAt 35 = .ok (.iload_n 1, 1) := by decide +kernel
theorem dX5_digitAt_36 : decode cX5_digitAt 36 = .ok (.iaload, 1) := by decide +kernel
theorem dX5_digitAt_37 : decode cX5_digitAt 37 = .ok (.bipush 57, 2) := by decide +kernel
theorem dX5_digitAt_39 : decode cX5_digitAt 39 = .ok (.if_icmp .gt 15, 3) := by decide +kernel
theorem dX5_digitAt_42 : decode cX5_digitAt 42 = .ok (.aload_n 0, 1) := by decide +kernel
theorem dX5_digitAt_43 : decode cX5_digitAt 43 = .ok (.getfield 9, 3) := by decide +kernel
theorem dX5_digitAt_46 : decode cX5_digitAt 46 = .ok (.iload_n 1, 1) := by decide +kernel
theorem dX5_digitAt_47 : decode cX5_digitAt 47 = .ok (.iaload, 1) := by decide +kernel
theorem dX5_digitAt_48 : decode cX5_digitAt 48 = .ok (.bipush 48, 2) := by decide +kernel
theorem dX5_digitAt_50 : decode cX5_digitAt 50 = .ok (.isub, 1) := by decide +kernel
theorem dX5_digitAt_51 : decode cX5_digitAt 51 = .ok (.goto 4, 3) := by decide +kernel
theorem dX5_digitAt_54 : decode cX5_digitAt 54 = .ok (.iconst (-1), 1) := by decide +kernel
theorem dX5_digitAt_55 : decode cX5_digitAt 55 = .ok (.ireturn, 1) := by decide +kernel
theorem dX5_findOrderFault_0 : decode cX5_findOrderFault 0 = .ok (.iconst 0, 1) := by decide +kernel
theorem dX5_findOrderFault_1 : decode cX5_findOrderFault 1 = .ok (.istore_n 2, 1) := by decide +kernel
theorem dX5_findOrderFault_2 : decode cX5_findOrderFault 2 = .ok (.iconst 0, 1) := by decide +kernel
theorem dX5_findOrderFault_3 : decode cX5_findOrderFault 3 = .ok (.istore_n 3, 1) := by decide +kernel
theorem dX5_findOrderFault_4 : decode cX5_findOrderFault 4 = .ok (.iload_n 3, 1) := by decide +kernel
theorem dX5_findOrderFault_5 : decode cX5_findOrderFault 5 = .ok (.aload_n 0, 1) := by decide +kernel
theorem dX5_findOrderFault_6 : decode cX5_findOrderFault 6 = .ok (.getfield 15, 3) := by decide +kernel
theorem dX5_findOrderFault_9 : decode cX5_findOrderFault 9 = .ok (.if_icmp .ge 46, 3) := by decide +kernel
theorem dX5_findOrderFault_12 : decode cX5_findOrderFault 12 = .ok (.aload_n 0, 1) := by decide +kernel
theorem dX5_findOrderFault_13 : decode cX5_findOrderFault 13 = .ok (.iload_n 3, 1) := by decide +kernel
theorem dX5_findOrderFault_14 : decode cX5_findOrderFault 14 = .ok (.invokevirtual 19, 3) := by decide +kernel
theorem dX5_findOrderFault_17 : decode cX5_findOrderFault 17 = .ok (.istore 4, 2) := by decide +kernel
theorem dX5_findOrderFault_19 : decode cX5_findOrderFault 19 = .ok (.iload 4, 2) := by decide +kernel
theorem dX5_findOrderFault_21 : decode cX5_findOrderFault 21 = .ok (.ifCond .lt 19, 3) := by decide +kernel
theorem dX5_findOrderFault_24 : decode cX5_findOrderFault 24 = .ok (.iload 4, 2) := by decide +kernel
theorem dX5_findOrderFault_26 : decode cX5_findOrderFault 26 = .ok (.iload_n 1, 1) := by decide +kernel
theorem dX5_findOrderFault_27 : decode cX5_findOrderFault 27 = .ok (.if_icmp .ge 13, 3) := by decide +kernel
theorem dX5_findOrderFault_30 : decode cX5_findOrderFault 30 = .ok (.iload_n 2, 1) := by decide +kernel
theorem dX5_findOrderFault_31 : decode cX5_findOrderFault 31 = .ok (.iload 4, 2) := by decide +kernel
theorem dX5_findOrderFault_33 : decode cX5_findOrderFault 33 = .ok (.ishr, 1) := by decide +kernel
theorem dX5_findOrderFault_34 : decode cX5_findOrderFault 34 = .ok (.iconst 1, 1) := by decide +kernel
theorem dX5_findOrderFault_35 : decode cX5_findOrderFault 35 = .ok (.iand, 1) := by decide +kernel
theorem dX5_findOrderFault_36 : decode cX5_findOrderFault 36 = .ok (.iconst 1, 1) := by decide +kernel
theorem dX5_findOrderFault_37 : decode cX5_findOrderFault 37 = .ok (.if_icmp .ne 5, 3) := by decide +kernel
theorem dX5_findOrderFault_40 : decode cX5_findOrderFault 40 = .ok (.iload_n 3, 1) := by decide +kernel
theorem dX5_findOrderFault_41 : decode cX5_findOrderFault 41 = .ok (.ireturn, 1) := by decide +kernel
theorem dX5_findOrderFault_42 : decode cX5_findOrderFault 42 = .ok (.iload_n 2, 1) := by decide +kernel
theorem dX5_findOrderFault_43 : decode cX5_findOrderFault 43 = .ok (.iconst 1, 1) := by decide +kernel
theorem dX5_findOrderFault_44 : decode cX5_findOrderFault 44 = .ok (.iload 4, 2) := by decide +kernel
theorem dX5_findOrderFault_46 : decode cX5_findOrderFault 46 = .ok (.ishl, 1) := by decide +kernel
theorem dX5_findOrderFault_47 : decode cX5_findOrderFault 47 = .ok (.ior, 1) := by decide +kernel
theorem dX5_findOrderFault_48 : decode cX5_findOrderFault 48 = .ok (.istore_n 2, 1) := by decide +kernel
theorem dX5_findOrderFault_49 : decode cX5_findOrderFault 49 = .ok (.iinc 3 1, 3) := by decide +kernel
theorem dX5_findOrderFault_52 : decode cX5_findOrderFault 52 = .ok (.goto (-48), 3) := by decide +kernel
theorem dX5_findOrderFault_55 : decode cX5_findOrderFault 55 = .ok (.iconst (-1), 1) := by decide +kernel
theorem dX5_findOrderFault_56 : decode cX5_findOrderFault 56 = .ok (.ireturn, 1) := by decide +kernel
theorem dX5_readJoint_0 : decode cX5_readJoint 0 = .ok (.aload_n 0, 1) := by decide +kernel
theorem dX5_readJoint_1 : decode cX5_readJoint 1 = .ok (.iconst 0, 1) := by decide +kernel
theorem dX5_readJoint_2 : decode cX5_readJoint 2 = .ok (.putfield 23, 3) := by decide +kernel
theorem dX5_readJoint_5 : decode cX5_readJoint 5 = .ok (.aload_n 0, 1) := by decide +kernel
theorem dX5_readJoint_6 : decode cX5_readJoint 6 = .ok (.iconst (-1), 1) := by decide +kernel
theorem dX5_readJoint_7 : decode cX5_readJoint 7 = .ok (.putfield 26, 3) := by decide +kernel
theorem dX5_readJoint_10 : decode cX5_readJoint 10 = .ok (.aload_n 1, 1) := by decide +kernel
theorem dX5_readJoint_11 : decode cX5_readJoint 11 = .ok (.iconst 0, 1) := by decide +kernel
theorem dX5_readJoint_12 : decode cX5_readJoint 12 = .ok (.putfield 29, 3) := by decide +kernel
theorem dX5_readJoint_15 : decode cX5_readJoint 15 = .ok (.aload_n 1, 1) := by decide +kernel
theorem dX5_readJoint_16 : decode cX5_readJoint 16 = .ok (.aload_n 0, 1) := by decide +kernel
theorem dX5_readJoint_17 : decode cX5_readJoint 17 = .ok (.iconst 1, 1) := by decide +kernel
theorem dX5_readJoint_18 : decode cX5_readJoint 18 = .ok (.iconst 0, 1) := by decide +kernel
theorem dX5_readJoint_19 : decode cX5_readJoint 19 = .ok (.iconst 2, 1) := by decide +kernel
theorem dX5_readJoint_20 : decode cX5_readJoint 20 = .ok (.invokevirtual 34, 3) := by decide +kernel
theorem dX5_readJoint_23 : decode cX5_readJoint 23 = .ok (.putfield 38, 3) := by decide +kernel
theorem dX5_readJoint_26 : decode cX5_readJoint 26 = .ok (.aload_n 1, 1) := by decide +kernel
theorem dX5_readJoint_27 : decode cX5_readJoint 27 = .ok (.aload_n 0, 1) := by decide +kernel
theorem dX5_readJoint_28 : decode cX5_readJoint 28 = .ok (.iconst 1, 1) := by decide +kernel
theorem dX5_readJoint_29 : decode cX5_readJoint 29 = .ok (.iconst 0, 1) := by decide +kernel
theorem dX5_readJoint_30 : decode cX5_readJoint 30 = .ok (.iconst 2, 1) := by decide +kernel
theorem dX5_readJoint_31 : decode cX5_readJoint 31 = .ok (.invokevirtual 34, 3) := by decide +kernel
theorem dX5_readJoint_34 : decode cX5_readJoint 34 = .ok (.putfield 41, 3) := by decide +kernel
theorem dX5_readJoint_37 : decode cX5_readJoint 37 = .ok (.aload_n 0, 1) := by decide +kernel
theorem dX5_readJoint_38 : decode cX5_readJoint 38 = .ok (.aload_n 1, 1) := by decide +kernel
theorem dX5_readJoint_39 : decode cX5_readJoint 39 = .ok (.invokevirtual 44, 3) := by decide +kernel
theorem dX5_readJoint_42 : decode cX5_readJoint 42 = .ok (.iconst 0, 1) := by decide +kernel
theorem dX5_readJoint_43 : decode cX5_readJoint 43 = .ok (.istore_n 2, 1) := by decide +kernel
theorem dX5_readJoint_44 : decode cX5_readJoint 44 = .ok (.iload_n 2, 1) := by decide +kernel
theorem dX5_readJoint_45 : decode cX5_readJoint 45 = .ok (.iconst 5, 1) := by decide +kernel
theorem dX5_readJoint_46 : decode cX5_readJoint 46 = .ok (.if_icmp .ge 98, 3) := by decide +kernel
theorem dX5_readJoint_49 : decode cX5_readJoint 49 = .ok (.aload_n 0, 1) := by decide +kernel
theorem dX5_readJoint_50 : decode cX5_readJoint 50 = .ok (.getfield 26, 3) := by decide +kernel
theorem dX5_readJoint_53 : decode cX5_readJoint 53 = .ok (.ifCond .ge 91, 3) := by decide +kernel
theorem dX5_readJoint_56 : decode cX5_readJoint 56 = .ok (.aload_n 0, 1) := by decide +kernel
theorem dX5_readJoint_57 : decode cX5_readJoint 57 = .ok (.getfield 23, 3) := by decide +kernel
theorem dX5_readJoint_60 : decode cX5_readJoint 60 = .ok (.aload_n 0, 1) := by decide +kernel
theorem dX5_readJoint_61 : decode cX5_readJoint 61 = .ok (.getfield 15, 3) := by decide +kernel
theorem dX5_readJoint_64 : decode cX5_readJoint 64 = .ok (.if_icmp .ge 80, 3) := by decide +kernel
theorem dX5_readJoint_67 : decode cX5_readJoint 67 = .ok (.aload_n 0, 1) := by decide +kernel
theorem dX5_readJoint_68 : decode cX5_readJoint 68 = .ok (.getfield 9, 3) := by decide +kernel
theorem dX5_readJoint_71 : decode cX5_readJoint 71 = .ok (.aload_n 0, 1) := by decide +kernel
theorem dX5_readJoint_72 : decode cX5_readJoint 72 = .ok (.getfield 23, 3) := by decide +kernel
theorem dX5_readJoint_75 : decode cX5_readJoint 75 = .ok (.iaload, 1) := by decide +kernel
theorem dX5_readJoint_76 : decode cX5_readJoint 76 = .ok (.bipush 47, 2) := by decide +kernel
theorem dX5_readJoint_78 : decode cX5_readJoint 78 = .ok (.if_icmp .ne 19, 3) := by decide +kernel
theorem dX5_readJoint_81 : decode cX5_readJoint 81 = .ok (.aload_n 1, 1) := by decide +kernel
theorem dX5_readJoint_82 : decode cX5_readJoint 82 = .ok (.iload_n 2, 1) := by decide +kernel
theorem dX5_readJoint_83 : decode cX5_readJoint 83 = .ok (.invokevirtual 48, 3) := by decide +kernel
theorem dX5_readJoint_86 : decode cX5_readJoint 86 = .ok (.ifCond .eq 11, 3) := by decide +kernel
theorem dX5_readJoint_89 : decode cX5_readJoint 89 = .ok (.aload_n 1, 1) := by decide +kernel
theorem dX5_readJoint_90 : decode cX5_readJoint 90 = .ok (.getfield 29, 3) := by decide +kernel
theorem dX5_readJoint_93 : decode cX5_readJoint 93 = .ok (.iconst 5, 1) := by decide +kernel
theorem dX5_readJoint_94 : decode cX5_readJoint 94 = .ok (.if_icmp .lt 14, 3) := by decide +kernel
theorem dX5_readJoint_97 : decode cX5_readJoint 97 = .ok (.aload_n 0, 1) := by decide +kernel
theorem dX5_readJoint_98 : decode cX5_readJoint 98 = .ok (.aload_n 0, 1) := by decide +kernel
theorem dX5_readJoint_99 : decode cX5_readJoint 99 = .ok (.getfield 23, 3) := by decide +kernel
theorem dX5_readJoint_102 : decode cX5_readJoint 102 = .ok (.putfield 26, 3) := by decide +kernel
theorem dX5_readJoint_105 : decode cX5_readJoint 105 = .ok (.goto 33, 3) := by decide +kernel
theorem dX5_readJoint_108 : decode cX5_readJoint 108 = .ok (.aload_n 0, 1) := by decide +kernel
theorem dX5_readJoint_109 : decode cX5_readJoint 109 = .ok (.dup, 1) := by decide +kernel
theorem dX5_readJoint_110 : decode cX5_readJoint 110 = .ok (.getfield 23, 3) := by decide +kernel
theorem dX5_readJoint_113 : decode cX5_readJoint 113 = .ok (.iconst 1, 1) := by decide +kernel
theorem dX5_readJoint_114 : decode cX5_readJoint 114 = .ok (.iadd, 1) := by decide +kernel
theorem dX5_readJoint_115 : decode cX5_readJoint 115 = .ok (.putfield 23, 3) := by decide +kernel
theorem dX5_readJoint_118 : decode cX5_readJoint 118 = .ok (.aload_n 0, 1) := by decide +kernel
theorem dX5_readJoint_119 : decode cX5_readJoint 119 = .ok (.iconst 1, 1) := by decide +kernel
theorem dX5_readJoint_120 : decode cX5_readJoint 120 = .ok (.iconst 0, 1) := by decide +kernel
theorem dX5_readJoint_121 : decode cX5_readJoint 121 = .ok (.iconst 2, 1) := by decide +kernel
theorem dX5_readJoint_122 : decode cX5_readJoint 122 = .ok (.invokevirtual 34, 3) := by decide +kernel
theorem dX5_readJoint_125 : decode cX5_readJoint 125 = .ok (.istore_n 3, 1) := by decide +kernel
theorem dX5_readJoint_126 : decode cX5_readJoint 126 = .ok (.aload_n 0, 1) := by decide +kernel
theorem dX5_readJoint_127 : decode cX5_readJoint 127 = .ok (.aload_n 1, 1) := by decide +kernel
theorem dX5_readJoint_128 : decode cX5_readJoint 128 = .ok (.invokevirtual 44, 3) := by decide +kernel
theorem dX5_readJoint_131 : decode cX5_readJoint 131 = .ok (.aload_n 1, 1) := by decide +kernel
theorem dX5_readJoint_132 : decode cX5_readJoint 132 = .ok (.getfield 52, 3) := by decide +kernel
theorem dX5_readJoint_135 : decode cX5_readJoint 135 = .ok (.iload_n 2, 1) := by decide +kernel
theorem dX5_readJoint_136 : decode cX5_readJoint 136 = .ok (.iload_n 3, 1) := by decide +kernel
theorem dX5_readJoint_137 : decode cX5_readJoint 137 = .ok (.iastore, 1) := by decide +kernel
theorem dX5_readJoint_138 : decode cX5_readJoint 138 = .ok (.iinc 2 1, 3) := by decide +kernel
theorem dX5_readJoint_141 : decode cX5_readJoint 141 = .ok (.goto (-97), 3) := by decide +kernel
theorem dX5_readJoint_144 : decode cX5_readJoint 144 = .ok (.aload_n 0, 1) := by decide +kernel
theorem dX5_readJoint_145 : decode cX5_readJoint 145 = .ok (.getfield 26, 3) := by decide +kernel
theorem dX5_readJoint_148 : decode cX5_readJoint 148 = .ok (.ireturn, 1) := by decide +kernel
theorem dX5_readBolt_0 : decode cX5_readBolt 0 = .ok (.aload_n 0, 1) := by decide +kernel
theorem dX5_readBolt_1 : decode cX5_readBolt 1 = .ok (.iconst 1, 1) := by decide +kernel
theorem dX5_readBolt_2 : decode cX5_readBolt 2 = .ok (.iconst 1, 1) := by decide +kernel
theorem dX5_readBolt_3 : decode cX5_readBolt 3 = .ok (.iconst 5, 1) := by decide +kernel
theorem dX5_readBolt_4 : decode cX5_readBolt 4 = .ok (.invokevirtual 34, 3) := by decide +kernel
theorem dX5_readBolt_7 : decode cX5_readBolt 7 = .ok (.istore_n 2, 1) := by decide +kernel
theorem dX5_readBolt_8 : decode cX5_readBolt 8 = .ok (.aload_n 0, 1) := by decide +kernel
theorem dX5_readBolt_9 : decode cX5_readBolt 9 = .ok (.iconst 1, 1) := by decide +kernel
theorem dX5_readBolt_10 : decode cX5_readBolt 10 = .ok (.iconst 0, 1) := by decide +kernel
theorem dX5_readBolt_11 : decode cX5_readBolt 11 = .ok (.bipush 9, 2) := by decide +kernel
theorem dX5_readBolt_13 : decode cX5_readBolt 13 = .ok (.invokevirtual 34, 3) := by decide +kernel
theorem dX5_readBolt_16 : decode cX5_readBolt 16 = .ok (.istore_n 3, 1) := by decide +kernel
theorem dX5_readBolt_17 : decode cX5_readBolt 17 = .ok (.aload_n 0, 1) := by decide +kernel
theorem dX5_readBolt_18 : decode cX5_readBolt 18 = .ok (.iconst 2, 1) := by decide +kernel
theorem dX5_readBolt_19 : decode cX5_readBolt 19 = .ok (.iconst 1, 1) := by decide +kernel
theorem dX5_readBolt_20 : decode cX5_readBolt 20 = .ok (.bipush 30, 2) := by decide +kernel
theorem dX5_readBolt_22 : decode cX5_readBolt 22 = .ok (.invokevirtual 34, 3) := by decide +kernel
theorem dX5_readBolt_25 : decode cX5_readBolt 25 = .ok (.istore 4, 2) := by decide +kernel
theorem dX5_readBolt_27 : decode cX5_readBolt 27 = .ok (.aload_n 0, 1) := by decide +kernel
theorem dX5_readBolt_28 : decode cX5_readBolt 28 = .ok (.iconst 2, 1) := by decide +kernel
theorem dX5_readBolt_29 : decode cX5_readBolt 29 = .ok (.iload_n 2, 1) := by decide +kernel
theorem dX5_readBolt_30 : decode cX5_readBolt 30 = .ok (.bipush 9, 2) := by decide +kernel
theorem dX5_readBolt_32 : decode cX5_readBolt 32 = .ok (.invokevirtual 34, 3) := by decide +kernel
theorem dX5_readBolt_35 : decode cX5_readBolt 35 = .ok (.istore 5, 2) := by decide +kernel
theorem dX5_readBolt_37 : decode cX5_readBolt 37 = .ok (.aload_n 0, 1) := by decide +kernel
theorem dX5_readBolt_38 : decode cX5_readBolt 38 = .ok (.iconst 2, 1) := by decide +kernel
theorem dX5_readBolt_39 : decode cX5_readBolt 39 = .ok (.iload 4, 2) := by decide +kernel
theorem dX5_readBolt_41 : decode cX5_readBolt 41 = .ok (.iconst 1, 1) := by decide +kernel
theorem dX5_readBolt_42 : decode cX5_readBolt 42 = .ok (.iadd, 1) := by decide +kernel
theorem dX5_readBolt_43 : decode cX5_readBolt 43 = .ok (.bipush 60, 2) := by decide +kernel
theorem dX5_readBolt_45 : decode cX5_readBolt 45 = .ok (.invokevirtual 34, 3) := by decide +kernel
theorem dX5_readBolt_48 : decode cX5_readBolt 48 = .ok (.istore 6, 2) := by decide +kernel
theorem dX5_readBolt_50 : decode cX5_readBolt 50 = .ok (.aload_n 1, 1) := by decide +kernel
theorem dX5_readBolt_51 : decode cX5_readBolt 51 = .ok (.iload_n 2, 1) := by decide +kernel
theorem dX5_readBolt_52 : decode cX5_readBolt 52 = .ok (.iload_n 3, 1) := by decide +kernel
theorem dX5_readBolt_53 : decode cX5_readBolt 53 = .ok (.iload 4, 2) := by decide +kernel
theorem dX5_readBolt_55 : decode cX5_readBolt 55 = .ok (.iload 5, 2) := by decide +kernel
theorem dX5_readBolt_57 : decode cX5_readBolt 57 = .ok (.iload 6, 2) := by decide +kernel
theorem dX5_readBolt_59 : decode cX5_readBolt 59 = .ok (.invokevirtual 55, 3) := by decide +kernel
theorem dX5_readBolt_62 : decode cX5_readBolt 62 = .ok (.return_, 1) := by decide +kernel
theorem dX5_readNumber_0 : decode cX5_readNumber 0 = .ok (.iconst 0, 1) := by decide +kernel
theorem dX5_readNumber_1 : decode cX5_readNumber 1 = .ok (.istore 4, 2) := by decide +kernel
theorem dX5_readNumber_3 : decode cX5_readNumber 3 = .ok (.iconst 0, 1) := by decide +kernel
theorem dX5_readNumber_4 : decode cX5_readNumber 4 = .ok (.istore 5, 2) := by decide +kernel
theorem dX5_readNumber_6 : decode cX5_readNumber 6 = .ok (.iload 5, 2) := by decide +kernel
theorem dX5_readNumber_8 : decode cX5_readNumber 8 = .ok (.iload_n 1, 1) := by decide +kernel
theorem dX5_readNumber_9 : decode cX5_readNumber 9 = .ok (.if_icmp .ge 62, 3) := by decide +kernel
theorem dX5_readNumber_12 : decode cX5_readNumber 12 = .ok (.aload_n 0, 1) := by decide +kernel
theorem dX5_readNumber_13 : decode cX5_readNumber 13 = .ok (.getfield 26, 3) := by decide +kernel
theorem dX5_readNumber_16 : decode cX5_readNumber 16 = .ok (.ifCond .ge 55, 3) := by decide +kernel
theorem dX5_readNumber_19 : decode cX5_readNumber 19 = .ok (.aload_n 0, 1) := by decide +kernel
theorem dX5_readNumber_20 : decode cX5_readNumber 20 = .ok (.aload_n 0, 1) := by decide +kernel
theorem dX5_readNumber_21 : decode cX5_readNumber 21 = .ok (.getfield 23, 3) := by decide +kernel
theorem dX5_readNumber_24 : decode cX5_readNumber 24 = .ok (.invokevirtual 19, 3) := by decide +kernel
theorem dX5_readNumber_27 : decode cX5_readNumber 27 = .ok (.istore 6, 2) := by decide +kernel
theorem dX5_readNumber_29 : decode cX5_readNumber 29 = .ok (.iload 6, 2) := by decide +kernel
theorem dX5_readNumber_31 : decode cX5_readNumber 31 = .ok (.ifCond .ge 14, 3) := by decide +kernel
theorem dX5_readNumber_34 : decode cX5_readNumber 34 = .ok (.aload_n 0, 1) := by decide +kernel
theorem dX5_readNumber_35 : decode cX5_readNumber 35 = .ok (.aload_n 0, 1) := by decide +kernel
theorem dX5_readNumber_36 : decode cX5_readNumber 36 = .ok (.getfield 23, 3) := by decide +kernel
theorem dX5_readNumber_39 : decode cX5_readNumber 39 = .ok (.putfield 26, 3) := by decide +kernel
theorem dX5_readNumber_42 : decode cX5_readNumber 42 = .ok (.goto 23, 3) := by decide +kernel
theorem dX5_readNumber_45 : decode cX5_readNumber 45 = .ok (.bipush 10, 2) := by decide +kernel
theorem dX5_readNumber_47 : decode cX5_readNumber 47 = .ok (.iload 4, 2) := by decide +kernel
theorem dX5_readNumber_49 : decode cX5_readNumber 49 = .ok (.imul, 1) := by decide +kernel
theorem dX5_readNumber_50 : decode cX5_readNumber 50 = .ok (.iload 6, 2) := by decide +kernel
theorem dX5_readNumber_52 : decode cX5_readNumber 52 = .ok (.iadd, 1) := by decide +kernel
theorem dX5_readNumber_53 : decode cX5_readNumber 53 = .ok (.istore 4, 2) := by decide +kernel
theorem dX5_readNumber_55 : decode cX5_readNumber 55 = .ok (.aload_n 0, 1) := by decide +kernel
theorem dX5_readNumber_56 : decode cX5_readNumber 56 = .ok (.dup, 1) := by decide +kernel
theorem dX5_readNumber_57 : decode cX5_readNumber 57 = .ok (.getfield 23, 3) := by decide +kernel
theorem dX5_readNumber_60 : decode cX5_readNumber 60 = .ok (.iconst 1, 1) := by decide +kernel
theorem dX5_readNumber_61 : decode cX5_readNumber 61 = .ok (.iadd, 1) := by decide +kernel
theorem dX5_readNumber_62 : decode cX5_readNumber 62 = .ok (.putfield 23, 3) := by decide +kernel
theorem dX5_readNumber_65 : decode cX5_readNumber 65 = .ok (.iinc 5 1, 3) := by decide +kernel
theorem dX5_readNumber_68 : decode cX5_readNumber 68 = .ok (.goto (-62), 3) := by decide +kernel
theorem dX5_readNumber_71 : decode cX5_readNumber 71 = .ok (.aload_n 0, 1) := by decide +kernel
theorem dX5_readNumber_72 : decode cX5_readNumber 72 = .ok (.getfield 26, 3) := by decide +kernel
theorem dX5_readNumber_75 : decode cX5_readNumber 75 = .ok (.ifCond .ge 23, 3) := by decide +kernel
theorem dX5_readNumber_78 : decode cX5_readNumber 78 = .ok (.iload 4, 2) := by decide +kernel
theorem dX5_readNumber_80 : decode cX5_readNumber 80 = .ok (.iload_n 2, 1) := by decide +kernel
theorem dX5_readNumber_81 : decode cX5_readNumber 81 = .ok (.iload_n 3, 1) := by decide +kernel
theorem dX5_readNumber_82 : decode cX5_readNumber 82 = .ok (.invokestatic 59, 3) := by decide +kernel
theorem dX5_readNumber_85 : decode cX5_readNumber 85 = .ok (.ifCond .ne 13, 3) := by decide +kernel
theorem dX5_readNumber_88 : decode cX5_readNumber 88 = .ok (.aload_n 0, 1) := by decide +kernel
theorem dX5_readNumber_89 : decode cX5_readNumber 89 = .ok (.aload_n 0, 1) := by decide +kernel
theorem dX5_readNumber_90 : decode cX5_readNumber 90 = .ok (.getfield 23, 3) := by decide +kernel
theorem dX5_readNumber_93 : decode cX5_readNumber 93 = .ok (.iconst 1, 1) := by decide +kernel
theorem dX5_readNumber_94 : decode cX5_readNumber 94 = .ok (.isub, 1) := by decide +kernel
theorem dX5_readNumber_95 : decode cX5_readNumber 95 = .ok (.putfield 26, 3) := by decide +kernel
theorem dX5_readNumber_98 : decode cX5_readNumber 98 = .ok (.aload_n 0, 1) := by decide +kernel
theorem dX5_readNumber_99 : decode cX5_readNumber 99 = .ok (.getfield 26, 3) := by decide +kernel
theorem dX5_readNumber_102 : decode cX5_readNumber 102 = .ok (.ifCond .ge 8, 3) := by decide +kernel
theorem dX5_readNumber_105 : decode cX5_readNumber 105 = .ok (.iload 4, 2) := by decide +kernel
theorem dX5_readNumber_107 : decode cX5_readNumber 107 = .ok (.goto 4, 3) := by decide +kernel
theorem dX5_readNumber_110 : decode cX5_readNumber 110 = .ok (.iload_n 2, 1) := by decide +kernel
theorem dX5_readNumber_111 : decode cX5_readNumber 111 = .ok (.ireturn, 1) := by decide +kernel
theorem dX6_init_0 : decode cX6_init 0 = .ok (.aload_n 0, 1) := by decide +kernel
theorem dX6_init_1 : decode cX6_init 1 = .ok (.invokespecial 1, 3) := by decide +kernel
theorem dX6_init_4 : decode cX6_init 4 = .ok (.aload_n 0, 1) := by decide +kernel
theorem dX6_init_5 : decode cX6_init 5 = .ok (.new 7, 3) := by decide +kernel
theorem dX6_init_8 : decode cX6_init 8 = .ok (.dup, 1) := by decide +kernel
theorem dX6_init_9 : decode cX6_init 9 = .ok (.invokespecial 9, 3) := by decide +kernel
theorem dX6_init_12 : decode cX6_init 12 = .ok (.putfield 10, 3) := by decide +kernel
theorem dX6_init_15 : decode cX6_init 15 = .ok (.aload_n 0, 1) := by decide +kernel
theorem dX6_init_16 : decode cX6_init 16 = .ok (.new 16, 3) := by decide +kernel
theorem dX6_init_19 : decode cX6_init 19 = .ok (.dup, 1) := by decide +kernel
theorem dX6_init_20 : decode cX6_init 20 = .ok (.aload_n 0, 1) := by decide +kernel
theorem dX6_init_21 : decode cX6_init 21 = .ok (.getfield 10, 3) := by decide +kernel
theorem dX6_init_24 : decode cX6_init 24 = .ok (.invokespecial 18, 3) := by decide +kernel
theorem dX6_init_27 : decode cX6_init 27 = .ok (.putfield 21, 3) := by decide +kernel
theorem dX6_init_30 : decode cX6_init 30 = .ok (.aload_n 0, 1) := by decide +kernel
theorem dX6_init_31 : decode cX6_init 31 = .ok (.new 25, 3) := by decide +kernel
theorem dX6_init_34 : decode cX6_init 34 = .ok (.dup, 1) := by decide +kernel
theorem dX6_init_35 : decode cX6_init 35 = .ok (.aload_n 0, 1) := by decide +kernel
theorem dX6_init_36 : decode cX6_init 36 = .ok (.getfield 10, 3) := by decide +kernel
theorem dX6_init_39 : decode cX6_init 39 = .ok (.aload_n 0, 1) := by decide +kernel
theorem dX6_init_40 : decode cX6_init 40 = .ok (.getfield 21, 3) := by decide +kernel
theorem dX6_init_43 : decode cX6_init 43 = .ok (.invokespecial 27, 3) := by decide +kernel
theorem dX6_init_46 : decode cX6_init 46 = .ok (.putfield 30, 3) := by decide +kernel
theorem dX6_init_49 : decode cX6_init 49 = .ok (.aload_n 0, 1) := by decide +kernel
theorem dX6_init_50 : decode cX6_init 50 = .ok (.new 7, 3) := by decide +kernel
theorem dX6_init_53 : decode cX6_init 53 = .ok (.dup, 1) := by decide +kernel
theorem dX6_init_54 : decode cX6_init 54 = .ok (.invokespecial 9, 3) := by decide +kernel
theorem dX6_init_57 : decode cX6_init 57 = .ok (.putfield 34, 3) := by decide +kernel
theorem dX6_init_60 : decode cX6_init 60 = .ok (.aload_n 0, 1) := by decide +kernel
theorem dX6_init_61 : decode cX6_init 61 = .ok (.new 16, 3) := by decide +kernel
theorem dX6_init_64 : decode cX6_init 64 = .ok (.dup, 1) := by decide +kernel
theorem dX6_init_65 : decode cX6_init 65 = .ok (.aload_n 0, 1) := by decide +kernel
theorem dX6_init_66 : decode cX6_init 66 = .ok (.getfield 34, 3) := by decide +kernel
theorem dX6_init_69 : decode cX6_init 69 = .ok (.invokespecial 18, 3) := by decide +kernel
theorem dX6_init_72 : decode cX6_init 72 = .ok (.putfield 37, 3) := by decide +kernel
theorem dX6_init_75 : decode cX6_init 75 = .ok (.aload_n 0, 1) := by decide +kernel
theorem dX6_init_76 : decode cX6_init 76 = .ok (.new 40, 3) := by decide +kernel
theorem dX6_init_79 : decode cX6_init 79 = .ok (.dup, 1) := by decide +kernel
theorem dX6_init_80 : decode cX6_init 80 = .ok (.invokespecial 42, 3) := by decide +kernel
theorem dX6_init_83 : decode cX6_init 83 = .ok (.putfield 43, 3) := by decide +kernel
theorem dX6_init_86 : decode cX6_init 86 = .ok (.aload_n 0, 1) := by decide +kernel
theorem dX6_init_87 : decode cX6_init 87 = .ok (.new 47, 3) := by decide +kernel
theorem dX6_init_90 : decode cX6_init 90 = .ok (.dup, 1) := by decide +kernel
theorem dX6_init_91 : decode cX6_init 91 = .ok (.invokespecial 49, 3) := by decide +kernel
theorem dX6_init_94 : decode cX6_init 94 = .ok (.putfield 50, 3) := by decide +kernel
theorem dX6_init_97 : decode cX6_init 97 = .ok (.aload_n 0, 1) := by decide +kernel
theorem dX6_init_98 : decode cX6_init 98 = .ok (.iconst 5, 1) := by decide +kernel
theorem dX6_init_99 : decode cX6_init 99 = .ok (.newarray .int, 2) := by decide +kernel
theorem dX6_init_101 : decode cX6_init 101 = .ok (.putfield 54, 3) := by decide +kernel
theorem dX6_init_104 : decode cX6_init 104 = .ok (.aload_n 0, 1) := by decide +kernel
theorem dX6_init_105 : decode cX6_init 105 = .ok (.iconst 5, 1) := by decide +kernel
theorem dX6_init_106 : decode cX6_init 106 = .ok (.newarray .int, 2) := by decide +kernel
theorem dX6_init_108 : decode cX6_init 108 = .ok (.putfield 58, 3) := by decide +kernel
theorem dX6_init_111 : decode cX6_init 111 = .ok (.return_, 1) := by decide +kernel
theorem dX6_bolt_0 : decode cX6_bolt 0 = .ok (.iload_n 1, 1) := by decide +kernel
theorem dX6_bolt_1 : decode cX6_bolt 1 = .ok (.iload_n 2, 1) := by decide +kernel
theorem dX6_bolt_2 : decode cX6_bolt 2 = .ok (.iload_n 3, 1) := by decide +kernel
theorem dX6_bolt_3 : decode cX6_bolt 3 = .ok (.iload 4, 2) := by decide +kernel
theorem dX6_bolt_5 : decode cX6_bolt 5 = .ok (.iload 5, 2) := by decide +kernel
theorem dX6_bolt_7 : decode cX6_bolt 7 = .ok (.invokestatic 61, 3) := by decide +kernel
theorem dX6_bolt_10 : decode cX6_bolt 10 = .ok (.ifCond .ne 5, 3) := by decide +kernel
theorem dX6_bolt_13 : decode cX6_bolt 13 = .ok (.iconst (-1), 1) := by decide +kernel
theorem dX6_bolt_14 : decode cX6_bolt 14 = .ok (.ireturn, 1) := by decide +kernel
theorem dX6_bolt_15 : decode cX6_bolt 15 = .ok (.aload_n 0, 1) := by decide +kernel
theorem dX6_bolt_16 : decode cX6_bolt 16 = .ok (.getfield 10, 3) := by decide +kernel
theorem dX6_bolt_19 : decode cX6_bolt 19 = .ok (.getfield 65, 3) := by decide +kernel
theorem dX6_bolt_22 : decode cX6_bolt 22 = .ok (.iconst 5, 1) := by decide +kernel
theorem dX6_bolt_23 : decode cX6_bolt 23 = .ok (.if_icmp .lt 6, 3) := by decide +kernel
theorem dX6_bolt_26 : decode cX6_bolt 26 = .ok (.bipush (-2), 2) := by decide +kernel
theorem dX6_bolt_28 : decode cX6_bolt 28 = .ok (.ireturn, 1) := by decide +kernel
theorem dX6_bolt_29 : decode cX6_bolt 29 = .ok (.aload_n 0, 1) := by decide +kernel
theorem dX6_bolt_30 : decode cX6_bolt 30 = .ok (.getfield 10, 3) := by decide +kernel
theorem dX6_bolt_33 : decode cX6_bolt 33 = .ok (.iload_n 1, 1) := by decide +kernel
theorem dX6_bolt_34 : decode cX6_bolt 34 = .ok (.iload_n 2, 1) := by decide +kernel
theorem dX6_bolt_35 : decode cX6_bolt 35 = .ok (.iload_n 3, 1) := by decide +kernel
theorem dX6_bolt_36 : decode cX6_bolt 36 = .ok (.iload 4, 2) := by decide +kernel
theorem dX6_bolt_38 : decode cX6_bolt 38 = .ok (.iload 5, 2) := by decide +kernel
theorem dX6_bolt_40 : decode cX6_bolt 40 = .ok (.invokevirtual 69, 3) := by decide +kernel
theorem dX6_bolt_43 : decode cX6_bolt 43 = .ok (.aload_n 0, 1) := by decide +kernel
theorem dX6_bolt_44 : decode cX6_bolt 44 = .ok (.getfield 21, 3) := by decide +kernel
theorem dX6_bolt_47 : decode cX6_bolt 47 = .ok (.iconst 0, 1) := by decide +kernel
theorem dX6_bolt_48 : decode cX6_bolt 48 = .ok (.putfield 73, 3) := by decide +kernel
theorem dX6_bolt_51 : decode cX6_bolt 51 = .ok (.aload_n 0, 1) := by decide +kernel
theorem dX6_bolt_52 : decode cX6_bolt 52 = .ok (.getfield 10, 3) := by decide +kernel
theorem dX6_bolt_55 : decode cX6_bolt 55 = .ok (.getfield 65, 3) := by decide +kernel
theorem dX6_bolt_58 : decode cX6_bolt 58 = .ok (.ireturn, 1) := by decide +kernel
theorem dX6_plates_0 : decode cX6_plates 0 = .ok (.iload_n 1, 1) := by decide +kernel
theorem dX6_plates_1 : decode cX6_plates 1 = .ok (.iconst 0, 1) := by decide +kernel
theorem dX6_plates_2 : decode cX6_plates 2 = .ok (.iconst 2, 1) := by decide +kernel
theorem dX6_plates_3 : decode cX6_plates 3 = .ok (.invokestatic 77, 3) := by decide +kernel
theorem dX6_plates_6 : decode cX6_plates 6 = .ok (.ifCond .eq 12, 3) := by decide +kernel
theorem dX6_plates_9 : decode cX6_plates 9 = .ok (.iload_n 2, 1) := by decide +kernel
theorem dX6_plates_10 : decode cX6_plates 10 = .ok (.iconst 0, 1) := by decide +kernel
theorem dX6_plates_11 : decode cX6_plates 11 = .ok (.iconst 2, 1) := by decide +kernel
theorem dX6_plates_12 : decode cX6_plates 12 = .ok (.invokestatic 77, 3) := by decide +kernel
theorem dX6_plates_15 : decode cX6_plates 15 = .ok (.ifCond .ne 5, 3) := by decide +kernel
theorem dX6_plates_18 : decode cX6_plates 18 = .ok (.iconst (-1), 1) := by decide +kernel
theorem dX6_plates_19 : decode cX6_plates 19 = .ok (.ireturn, 1) := by decide +kernel
theorem dX6_plates_20 : decode cX6_plates 20 = .ok (.iload_n 1, 1) := by decide +kernel
theorem dX6_plates_21 : decode cX6_plates 21 = .ok (.aload_n 0, 1) := by decide +kernel
theorem dX6_plates_22 : decode cX6_plates 22 = .ok (.getfield 10, 3) := by decide +kernel
theorem dX6_plates_25 : decode cX6_plates 25 = .ok (.getfield 81, 3) := by decide +kernel
theorem dX6_plates_28 : decode cX6_plates 28 = .ok (.if_icmp .ne 17, 3) := by decide +kernel
theorem dX6_plates_31 : decode cX6_plates 31 = .ok (.iload_n 2, 1) := by decide +kernel
theorem dX6_plates_32 : decode cX6_plates 32 = .ok (.aload_n 0, 1) := by decide +kernel
theorem dX6_plates_33 : decode cX6_plates 33 = .ok (.getfield 10, 3) := by decide +kernel
theorem dX6_plates_36 : decode cX6_plates 36 = .ok (.getfield 84, 3) := by decide +kernel
theorem dX6_plates_39 : decode cX6_plates 39 = .ok (.if_icmp .ne 6, 3) := by decide +kernel
theorem dX6_plates_42 : decode cX6_plates 42 = .ok (.bipush (-2), 2) := by decide +kernel
theorem dX6_plates_44 : decode cX6_plates 44 = .ok (.ireturn, 1) := by decide +kernel
theorem dX6_plates_45 : decode cX6_plates 45 = .ok (.bipush 10, 2) := by decide +kernel
theorem dX6_plates_47 : decode cX6_plates 47 = .ok (.aload_n 0, 1) := by decide +kernel
theorem dX6_plates_48 : decode cX6_plates 48 = .ok (.getfield 10, 3) := by decide +kernel
theorem dX6_plates_51 : decode cX6_plates 51 = .ok (.getfield 81, 3) := by decide +kernel
theorem dX6_plates_54 : decode cX6_plates 54 = .ok (.imul, 1) := by decide +kernel
theorem dX6_plates_55 : decode cX6_plates 55 = .ok (.aload_n 0, 1) := by decide +kernel
theorem dX6_plates_56 : decode cX6_plates 56 = .ok (.getfield 10, 3) := by decide +kernel
theorem dX6_plates_59 : decode cX6_plates 59 = .ok (.getfield 84, 3) := by decide +kernel
theorem dX6_plates_62 : decode cX6_plates 62 = .ok (.iadd, 1) := by decide +kernel
theorem dX6_plates_63 : decode cX6_plates 63 = .ok (.istore_n 3, 1) := by decide +kernel
theorem dX6_plates_64 : decode cX6_plates 64 = .ok (.aload_n 0, 1) := by decide +kernel
theorem dX6_plates_65 : decode cX6_plates 65 = .ok (.getfield 10, 3) := by decide +kernel
theorem dX6_plates_68 : decode cX6_plates 68 = .ok (.iload_n 1, 1) := by decide +kernel
theorem dX6_plates_69 : decode cX6_plates 69 = .ok (.putfield 81, 3) := by decide +kernel
theorem dX6_plates_72 : decode cX6_plates 72 = .ok (.aload_n 0, 1) := by decide +kernel
theorem dX6_plates_73 : decode cX6_plates 73 = .ok (.getfield 10, 3) := by decide +kernel
theorem dX6_plates_76 : decode cX6_plates 76 = .ok (.iload_n 2, 1) := by decide +kernel
theorem dX6_plates_77 : decode cX6_plates 77 = .ok (.putfield 84, 3) := by decide +kernel
theorem dX6_plates_80 : decode cX6_plates 80 = .ok (.aload_n 0, 1) := by decide +kernel
theorem dX6_plates_81 : decode cX6_plates 81 = .ok (.getfield 21, 3) := by decide +kernel
theorem dX6_plates_84 : decode cX6_plates 84 = .ok (.iconst 0, 1) := by decide +kernel
theorem dX6_plates_85 : decode cX6_plates 85 = .ok (.putfield 73, 3) := by decide +kernel
theorem dX6_plates_88 : decode cX6_plates 88 = .ok (.iload_n 3, 1) := by decide +kernel
theorem dX6_plates_89 : decode cX6_plates 89 = .ok (.ireturn, 1) := by decide +kernel
theorem dX6_pitch_0 : decode cX6_pitch 0 = .ok (.aload_n 0, 1) := by decide +kernel
theorem dX6_pitch_1 : decode cX6_pitch 1 = .ok (.getfield 10, 3) := by decide +kernel
theorem dX6_pitch_4 : decode cX6_pitch 4 = .ok (.iload_n 1, 1) := by decide +kernel
theorem dX6_pitch_5 : decode cX6_pitch 5 = .ok (.invokevirtual 87, 3) := by decide +kernel
theorem dX6_pitch_8 : decode cX6_pitch 8 = .ok (.ifCond .eq 12, 3) := by decide +kernel
theorem dX6_pitch_11 : decode cX6_pitch 11 = .ok (.iload_n 2, 1) := by decide +kernel
theorem dX6_pitch_12 : decode cX6_pitch 12 = .ok (.iconst 0, 1) := by decide +kernel
theorem dX6_pitch_13 : decode cX6_pitch 13 = .ok (.iconst 2, 1) := by decide +kernel
theorem dX6_pitch_14 : decode cX6_pitch 14 = .ok (.invokestatic 77, 3) := by decide +kernel
theorem dX6_pitch_17 : decode cX6_pitch 17 = .ok (.ifCond .ne 5, 3) := by decide +kernel
theorem dX6_pitch_20 : decode cX6_pitch 20 = .ok (.iconst (-1), 1) := by decide +kernel
theorem dX6_pitch_21 : decode cX6_pitch 21 = .ok (.ireturn, 1) := by decide +kernel
theorem dX6_pitch_22 : decode cX6_pitch 22 = .ok (.aload_n 0, 1) := by decide +kernel
theorem dX6_pitch_23 : decode cX6_pitch 23 = .ok (.getfield 10, 3) := by decide +kernel
theorem dX6_pitch_26 : decode cX6_pitch 26 = .ok (.getfield 91, 3) := by decide +kernel
theorem dX6_pitch_29 : decode cX6_pitch 29 = .ok (.iload_n 1, 1) := by decide +kernel
theorem dX6_pitch_30 : decode cX6_pitch 30 = .ok (.iaload, 1) := by decide +kernel
theorem dX6_pitch_31 : decode cX6_pitch 31 = .ok (.istore_n 3, 1) := by decide +kernel
theorem dX6_pitch_32 : decode cX6_pitch 32 = .ok (.iload_n 2, 1) := by decide +kernel
theorem dX6_pitch_33 : decode cX6_pitch 33 = .ok (.iload_n 3, 1) := by decide +kernel
theorem dX6_pitch_34 : decode cX6_pitch 34 = .ok (.if_icmp .ne 6, 3) := by decide +kernel
theorem dX6_pitch_37 : decode cX6_pitch 37 = .ok (.bipush (-2), 2) := by decide +kernel
theorem dX6_pitch_39 : decode cX6_pitch 39 = .ok (.ireturn, 1) := by decide +kernel
theorem dX6_pitch_40 : decode cX6_pitch 40 = .ok (.aload_n 0, 1) := by decide +kernel
theorem dX6_pitch_41 : decode cX6_pitch 41 = .ok (.getfield 10, 3) := by decide +kernel
theorem dX6_pitch_44 : decode cX6_pitch 44 = .ok (.getfield 91, 3) := by decide +kernel
theorem dX6_pitch_47 : decode cX6_pitch 47 = .ok (.iload_n 1, 1) := by decide +kernel
theorem dX6_pitch_48 : decode cX6_pitch 48 = .ok (.iload_n 2, 1) := by decide +kernel
theorem dX6_pitch_49 : decode cX6_pitch 49 = .ok (.iastore, 1) := by decide +kernel
theorem dX6_pitch_50 : decode cX6_pitch 50 = .ok (.aload_n 0, 1) := by decide +kernel
theorem dX6_pitch_51 : decode cX6_pitch 51 = .ok (.getfield 21, 3) := by decide +kernel
theorem dX6_pitch_54 : decode cX6_pitch 54 = .ok (.iconst 0, 1) := by decide +kernel
theorem dX6_pitch_55 : decode cX6_pitch 55 = .ok (.putfield 73, 3) := by decide +kernel
theorem dX6_pitch_58 : decode cX6_pitch 58 = .ok (.iload_n 3, 1) := by decide +kernel
theorem dX6_pitch_59 : decode cX6_pitch 59 = .ok (.ireturn, 1) := by decide +kernel
theorem dX6_alters_0 : decode cX6_alters 0 = .ok (.aload_n 0, 1) := by decide +kernel
theorem dX6_alters_1 : decode cX6_alters 1 = .ok (.getfield 10, 3) := by decide +kernel
theorem dX6_alters_4 : decode cX6_alters 4 = .ok (.iload_n 1, 1) := by decide +kernel
theorem dX6_alters_5 : decode cX6_alters 5 = .ok (.invokevirtual 94, 3) := by decide +kernel
theorem dX6_alters_8 : decode cX6_alters 8 = .ok (.ifCond .eq 17, 3) := by decide +kernel
theorem dX6_alters_11 : decode cX6_alters 11 = .ok (.iload_n 2, 1) := by decide +kernel
theorem dX6_alters_12 : decode cX6_alters 12 = .ok (.iload_n 3, 1) := by decide +kernel
theorem dX6_alters_13 : decode cX6_alters 13 = .ok (.iload 4, 2) := by decide +kernel
theorem dX6_alters_15 : decode cX6_alters 15 = .ok (.iload 5, 2) := by decide +kernel
theorem dX6_alters_17 : decode cX6_alters 17 = .ok (.iload 6, 2) := by decide +kernel
theorem dX6_alters_19 : decode cX6_alters 19 = .ok (.invokestatic 61, 3) := by decide +kernel
theorem dX6_alters_22 : decode cX6_alters 22 = .ok (.ifCond .ne 5, 3) := by decide +kernel
theorem dX6_alters_25 : decode cX6_alters 25 = .ok (.iconst (-1), 1) := by decide +kernel
theorem dX6_alters_26 : decode cX6_alters 26 = .ok (.ireturn, 1) := by decide +kernel
theorem dX6_alters_27 : decode cX6_alters 27 = .ok (.aload_n 0, 1) := by decide +kernel
theorem dX6_alters_28 : decode cX6_alters 28 = .ok (.getfield 10, 3) := by decide +kernel
theorem dX6_alters_31 : decode cX6_alters 31 = .ok (.getfield 97, 3) := by decide +kernel
theorem dX6_alters_34 : decode cX6_alters 34 = .ok (.iload_n 1, 1) := by decide +kernel
theorem dX6_alters_35 : decode cX6_alters 35 = .ok (.iaload, 1) := by decide +kernel
theorem dX6_alters_36 : decode cX6_alters 36 = .ok (.iload_n 2, 1) := by decide +kernel
theorem dX6_alters_37 : decode cX6_alters 37 = .ok (.if_icmp .ne 7, 3) := by decide +kernel
theorem dX6_alters_40 : decode cX6_alters 40 = .ok (.iconst 0, 1) := by decide +kernel
theorem dX6_alters_41 : decode cX6_alters 41 = .ok (.goto 4, 3) := by decide +kernel
theorem dX6_alters_44 : decode cX6_alters 44 = .ok (.iconst 1, 1) := by decide +kernel
theorem dX6_alters_45 : decode cX6_alters 45 = .ok (.aload_n 0, 1) := by decide +kernel
theorem dX6_alters_46 : decode cX6_alters 46 = .ok (.getfield 10, 3) := by decide +kernel
theorem dX6_alters_49 : decode cX6_alters 49 = .ok (.getfield 100, 3) := by decide +kernel
theorem dX6_alters_52 : decode cX6_alters 52 = .ok (.iload_n 1, 1) := by decide +kernel
theorem dX6_alters_53 : decode cX6_alters 53 = .ok (.iaload, 1) := by decide +kernel
theorem dX6_alters_54 : decode cX6_alters 54 = .ok (.iload_n 3, 1) := by decide +kernel
theorem dX6_alters_55 : decode cX6_alters 55 = .ok (.if_icmp .ne 7, 3) := by decide +kernel
theorem dX6_alters_58 : decode cX6_alters 58 = .ok (.iconst 0, 1) := by decide +kernel
theorem dX6_alters_59 : decode cX6_alters 59 = .ok (.goto 4, 3) := by decide +kernel
theorem dX6_alters_62 : decode cX6_alters 62 = .ok (.iconst 1, 1) := by decide +kernel
theorem dX6_alters_63 : decode cX6_alters 63 = .ok (.iadd, 1) := by decide +kernel
theorem dX6_alters_64 : decode cX6_alters 64 = .ok (.aload_n 0, 1) := by decide +kernel
theorem dX6_alters_65 : decode cX6_alters 65 = .ok (.getfield 10, 3) := by decide +kernel
theorem dX6_alters_68 : decode cX6_alters 68 = .ok (.getfield 103, 3) := by decide +kernel
theorem dX6_alters_71 : decode cX6_alters 71 = .ok (.iload_n 1, 1) := by decide +kernel
theorem dX6_alters_72 : decode cX6_alters 72 = .ok (.iaload, 1) := by decide +kernel
theorem dX6_alters_73 : decode cX6_alters 73 = .ok (.iload 4, 2) := by decide +kernel
theorem dX6_alters_75 : decode cX6_alters 75 = .ok (.if_icmp .ne 7, 3) := by decide +kernel
theorem dX6_alters_78 : decode cX6_alters 78 = .ok (.iconst 0, 1) := by decide +kernel
theorem dX6_alters_79 : decode cX6_alters 79 = .ok (.goto 4, 3) := by decide +kernel
theorem dX6_alters_82 : decode cX6_alters 82 = .ok (.iconst 1, 1) := by decide +kernel
theorem dX6_alters_83 : decode cX6_alters 83 = .ok (.iadd, 1) := by decide +kernel
theorem dX6_alters_84 : decode cX6_alters 84 = .ok (.aload_n 0, 1) := by decide +kernel
theorem dX6_alters_85 : decode cX6_alters 85 = .ok (.getfield 10, 3) := by decide +kernel
theorem dX6_alters_88 : decode cX6_alters 88 = .ok (.getfield 106, 3) := by decide +kernel
theorem dX6_alters_91 : decode cX6_alters 91 = .ok (.iload_n 1, 1) := by decide +kernel
theorem dX6_alters_92 : decode cX6_alters 92 = .ok (.iaload, 1) := by decide +kernel
theorem dX6_alters_93 : decode cX6_alters 93 = .ok (.iload 5, 2) := by decide +kernel
theorem dX6_alters_95 : decode cX6_alters 95 = .ok (.if_icmp .ne 7, 3) := by decide +kernel
theorem dX6_alters_98 : decode cX6_alters 98 = .ok (.iconst 0, 1) := by decide +kernel
theorem dX6_alters_99 : decode cX6_alters 99 = .ok (.goto 4, 3) := by decide +kernel
theorem dX6_alters_102 : decode cX6_alters 102 = .ok (.iconst 1, 1) := by decide +kernel
theorem dX6_alters_103 : decode cX6_alters 103 = .ok (.iadd, 1) := by decide +kernel
theorem dX6_alters_104 : decode cX6_alters 104 = .ok (.aload_n 0, 1) := by decide +kernel
theorem dX6_alters_105 : decode cX6_alters 105 = .ok (.getfield 10, 3) := by decide +kernel
theorem dX6_alters_108 : decode cX6_alters 108 = .ok (.getfield 109, 3) := by decide +kernel
theorem dX6_alters_111 : decode cX6_alters 111 = .ok (.iload_n 1, 1) := by decide +kernel
theorem dX6_alters_112 : decode cX6_alters 112 = .ok (.iaload, 1) := by decide +kernel
theorem dX6_alters_113 : decode cX6_alters 113 = .ok (.iload 6, 2) := by decide +kernel
theorem dX6_alters_115 : decode cX6_alters 115 = .ok (.if_icmp .ne 7, 3) := by decide +kernel
theorem dX6_alters_118 : decode cX6_alters 118 = .ok (.iconst 0, 1) := by decide +kernel
theorem dX6_alters_119 : decode cX6_alters 119 = .ok (.goto 4, 3) := by decide +kernel
theorem dX6_alters_122 : decode cX6_alters 122 = .ok (.iconst 1, 1) := by decide +kernel
theorem dX6_alters_123 : decode cX6_alters 123 = .ok (.iadd, 1) := by decide +kernel
theorem dX6_alters_124 : decode cX6_alters 124 = .ok (.istore 7, 2) := by decide +kernel
theorem dX6_alters_126 : decode cX6_alters 126 = .ok (.iload 7, 2) := by decide +kernel
theorem dX6_alters_128 : decode cX6_alters 128 = .ok (.ifCond .ne 6, 3) := by decide +kernel
theorem dX6_alters_131 : decode cX6_alters 131 = .ok (.bipush (-2), 2) := by decide +kernel
theorem dX6_alters_133 : decode cX6_alters 133 = .ok (.ireturn, 1) := by decide +kernel
theorem dX6_alters_134 : decode cX6_alters 134 = .ok (.aload_n 0, 1) := by decide +kernel
theorem dX6_alters_135 : decode cX6_alters 135 = .ok (.getfield 10, 3) := by decide +kernel
theorem dX6_alters_138 : decode cX6_alters 138 = .ok (.iload_n 1, 1) := by decide +kernel
theorem dX6_alters_139 : decode cX6_alters 139 = .ok (.iload_n 2, 1) := by decide +kernel
theorem dX6_alters_140 : decode cX6_alters 140 = .ok (.iload_n 3, 1) := by decide +kernel
theorem dX6_alters_141 : decode cX6_alters 141 = .ok (.iload 4, 2) := by decide +kernel
theorem dX6_alters_143 : decode cX6_alters 143 = .ok (.iload 5, 2) := by decide +kernel
theorem dX6_alters_145 : decode cX6_alters 145 = .ok (.iload 6, 2) := by decide +kernel
theorem dX6_alters_147 : decode cX6_alters 147 = .ok (.invokevirtual 112, 3) := by decide +kernel
theorem dX6_alters_150 : decode cX6_alters 150 = .ok (.aload_n 0, 1) := by decide +kernel
theorem dX6_alters_151 : decode cX6_alters 151 = .ok (.getfield 21, 3) := by decide +kernel
theorem dX6_alters_154 : decode cX6_alters 154 = .ok (.iconst 0, 1) := by decide +kernel
theorem dX6_alters_155 : decode cX6_alters 155 = .ok (.putfield 73, 3) := by decide +kernel
theorem dX6_alters_158 : decode cX6_alters 158 = .ok (.iload 7, 2) := by decide +kernel
theorem dX6_alters_160 : decode cX6_alters 160 = .ok (.ireturn, 1) := by decide +kernel
theorem dX6_takes_0 : decode cX6_takes 0 = .ok (.aload_n 0, 1) := by decide +kernel
theorem dX6_takes_1 : decode cX6_takes 1 = .ok (.getfield 10, 3) := by decide +kernel
theorem dX6_takes_4 : decode cX6_takes 4 = .ok (.iload_n 1, 1) := by decide +kernel
theorem dX6_takes_5 : decode cX6_takes 5 = .ok (.invokevirtual 94, 3) := by decide +kernel
theorem dX6_takes_8 : decode cX6_takes 8 = .ok (.ifCond .ne 5, 3) := by decide +kernel
theorem dX6_takes_11 : decode cX6_takes 11 = .ok (.iconst (-1), 1) := by decide +kernel
theorem dX6_takes_12 : decode cX6_takes 12 = .ok (.ireturn, 1) := by decide +kernel
theorem dX6_takes_13 : decode cX6_takes 13 = .ok (.aload_n 0, 1) := by decide +kernel
theorem dX6_takes_14 : decode cX6_takes 14 = .ok (.getfield 10, 3) := by decide +kernel
theorem dX6_takes_17 : decode cX6_takes 17 = .ok (.getfield 116, 3) := by decide +kernel
theorem dX6_takes_20 : decode cX6_takes 20 = .ok (.iload_n 1, 1) := by decide +kernel
theorem dX6_takes_21 : decode cX6_takes 21 = .ok (.baload, 1) := by decide +kernel
theorem dX6_takes_22 : decode cX6_takes 22 = .ok (.iload_n 2, 1) := by decide +kernel
theorem dX6_takes_23 : decode cX6_takes 23 = .ok (.if_icmp .ne 6, 3) := by decide +kernel
theorem dX6_takes_26 : decode cX6_takes 26 = .ok (.bipush (-2), 2) := by decide +kernel
theorem dX6_takes_28 : decode cX6_takes 28 = .ok (.ireturn, 1) := by decide +kernel
theorem dX6_takes_29 : decode cX6_takes 29 = .ok (.aload_n 0, 1) := by decide +kernel
theorem dX6_takes_30 : decode cX6_takes 30 = .ok (.getfield 10, 3) := by decide +kernel
theorem dX6_takes_33 : decode cX6_takes 33 = .ok (.getfield 116, 3) := by decide +kernel
theorem dX6_takes_36 : decode cX6_takes 36 = .ok (.iload_n 1, 1) := by decide +kernel
theorem dX6_takes_37 : decode cX6_takes 37 = .ok (.iload_n 2, 1) := by decide +kernel
theorem dX6_takes_38 : decode cX6_takes 38 = .ok (.bastore, 1) := by decide +kernel
theorem dX6_takes_39 : decode cX6_takes 39 = .ok (.aload_n 0, 1) := by decide +kernel
theorem dX6_takes_40 : decode cX6_takes 40 = .ok (.getfield 21, 3) := by decide +kernel
theorem dX6_takes_43 : decode cX6_takes 43 = .ok (.iconst 0, 1) := by decide +kernel
theorem dX6_takes_44 : decode cX6_takes 44 = .ok (.putfield 73, 3) := by decide +kernel
theorem dX6_takes_47 : decode cX6_takes 47 = .ok (.aload_n 0, 1) := by decide +kernel
theorem dX6_takes_48 : decode cX6_takes 48 = .ok (.getfield 10, 3) := by decide +kernel
theorem dX6_takes_51 : decode cX6_takes 51 = .ok (.invokevirtual 120, 3) := by decide +kernel
theorem dX6_takes_54 : decode cX6_takes 54 = .ok (.invokestatic 124, 3) := by decide +kernel
theorem dX6_takes_57 : decode cX6_takes 57 = .ok (.ireturn, 1) := by decide +kernel
theorem dX6_swaps_0 : decode cX6_swaps 0 = .ok (.aload_n 0, 1) := by decide +kernel
theorem dX6_swaps_1 : decode cX6_swaps 1 = .ok (.getfield 10, 3) := by decide +kernel
theorem dX6_swaps_4 : decode cX6_swaps 4 = .ok (.iload_n 1, 1) := by decide +kernel
theorem dX6_swaps_5 : decode cX6_swaps 5 = .ok (.invokevirtual 94, 3) := by decide +kernel
theorem dX6_swaps_8 : decode cX6_swaps 8 = .ok (.ifCond .eq 19, 3) := by decide +kernel
theorem dX6_swaps_11 : decode cX6_swaps 11 = .ok (.aload_n 0, 1) := by decide +kernel
theorem dX6_swaps_12 : decode cX6_swaps 12 = .ok (.getfield 10, 3) := by decide +kernel
theorem dX6_swaps_15 : decode cX6_swaps 15 = .ok (.iload_n 2, 1) := by decide +kernel
theorem dX6_swaps_16 : decode cX6_swaps 16 = .ok (.invokevirtual 94, 3) := by decide +kernel
theorem dX6_swaps_19 : decode cX6_swaps 19 = .ok (.ifCond .eq 8, 3) := by decide +kernel
theorem dX6_swaps_22 : decode cX6_swaps 22 = .ok (.iload_n 1, 1) := by decide +kernel
theorem dX6_swaps_23 : decode cX6_swaps 23 = .ok (.iload_n 2, 1) := by decide +kernel
theorem dX6_swaps_24 : decode cX6_swaps 24 = .ok (.if_icmp .ne 5, 3) := by decide +kernel
theorem dX6_swaps_27 : decode cX6_swaps 27 = .ok (.iconst 0, 1) := by decide +kernel
theorem dX6_swaps_28 : decode cX6_swaps 28 = .ok (.ireturn, 1) := by decide +kernel
theorem dX6_swaps_29 : decode cX6_swaps 29 = .ok (.aload_n 0, 1) := by decide +kernel
theorem dX6_swaps_30 : decode cX6_swaps 30 = .ok (.getfield 34, 3) := by decide +kernel
theorem dX6_swaps_33 : decode cX6_swaps 33 = .ok (.aload_n 0, 1) := by decide +kernel
theorem dX6_swaps_34 : decode cX6_swaps 34 = .ok (.getfield 10, 3) := by decide +kernel
theorem dX6_swaps_37 : decode cX6_swaps 37 = .ok (.invokevirtual 130, 3) := by decide +kernel
theorem dX6_swaps_40 : decode cX6_swaps 40 = .ok (.aload_n 0, 1) := by decide +kernel
theorem dX6_swaps_41 : decode cX6_swaps 41 = .ok (.getfield 10, 3) := by decide +kernel
theorem dX6_swaps_44 : decode cX6_swaps 44 = .ok (.aload_n 0, 1) := by decide +kernel
theorem dX6_swaps_45 : decode cX6_swaps 45 = .ok (.getfield 34, 3) := by decide +kernel
theorem dX6_swaps_48 : decode cX6_swaps 48 = .ok (.iload_n 2, 1) := by decide +kernel
theorem dX6_swaps_49 : decode cX6_swaps 49 = .ok (.iload_n 1, 1) := by decide +kernel
theorem dX6_swaps_50 : decode cX6_swaps 50 = .ok (.invokevirtual 133, 3) := by decide +kernel
theorem dX6_swaps_53 : decode cX6_swaps 53 = .ok (.aload_n 0, 1) := by decide +kernel
theorem dX6_swaps_54 : decode cX6_swaps 54 = .ok (.getfield 10, 3) := by decide +kernel
theorem dX6_swaps_57 : decode cX6_swaps 57 = .ok (.aload_n 0, 1) := by decide +kernel
theorem dX6_swaps_58 : decode cX6_swaps 58 = .ok (.getfield 34, 3) := by decide +kernel
theorem dX6_swaps_61 : decode cX6_swaps 61 = .ok (.iload_n 1, 1) := by decide +kernel
theorem dX6_swaps_62 : decode cX6_swaps 62 = .ok (.iload_n 2, 1) := by decide +kernel
theorem dX6_swaps_63 : decode cX6_swaps 63 = .ok (.invokevirtual 133, 3) := by decide +kernel
theorem dX6_swaps_66 : decode cX6_swaps 66 = .ok (.aload_n 0, 1) := by decide +kernel
theorem dX6_swaps_67 : decode cX6_swaps 67 = .ok (.getfield 21, 3) := by decide +kernel
theorem dX6_swaps_70 : decode cX6_swaps 70 = .ok (.iconst 0, 1) := by decide +kernel
theorem dX6_swaps_71 : decode cX6_swaps 71 = .ok (.putfield 73, 3) := by decide +kernel
theorem dX6_swaps_74 : decode cX6_swaps 74 = .ok (.iconst 1, 1) := by decide +kernel
theorem dX6_swaps_75 : decode cX6_swaps 75 = .ok (.ireturn, 1) := by decide +kernel
theorem dX6_clears_0 : decode cX6_clears 0 = .ok (.aload_n 0, 1) := by decide +kernel
theorem dX6_clears_1 : decode cX6_clears 1 = .ok (.getfield 10, 3) := by decide +kernel
theorem dX6_clears_4 : decode cX6_clears 4 = .ok (.getfield 65, 3) := by decide +kernel
theorem dX6_clears_7 : decode cX6_clears 7 = .ok (.istore_n 1, 1) := by decide +kernel
theorem dX6_clears_8 : decode cX6_clears 8 = .ok (.aload_n 0, 1) := by decide +kernel
theorem dX6_clears_9 : decode cX6_clears 9 = .ok (.getfield 10, 3) := by decide +kernel
theorem dX6_clears_12 : decode cX6_clears 12 = .ok (.iconst 0, 1) := by decide +kernel
theorem dX6_clears_13 : decode cX6_clears 13 = .ok (.putfield 65, 3) := by decide +kernel
theorem dX6_clears_16 : decode cX6_clears 16 = .ok (.aload_n 0, 1) := by decide +kernel
theorem dX6_clears_17 : decode cX6_clears 17 = .ok (.getfield 21, 3) := by decide +kernel
theorem dX6_clears_20 : decode cX6_clears 20 = .ok (.iconst 0, 1) := by decide +kernel
theorem dX6_clears_21 : decode cX6_clears 21 = .ok (.putfield 73, 3) := by decide +kernel
theorem dX6_clears_24 : decode cX6_clears 24 = .ok (.iload_n 1, 1) := by decide +kernel
theorem dX6_clears_25 : decode cX6_clears 25 = .ok (.ireturn, 1) := by decide +kernel
theorem dX6_sign_0 : decode cX6_sign 0 = .ok (.aload_n 0, 1) := by decide +kernel
theorem dX6_sign_1 : decode cX6_sign 1 = .ok (.getfield 43, 3) := by decide +kernel
theorem dX6_sign_4 : decode cX6_sign 4 = .ok (.iload_n 1, 1) := by decide +kernel
theorem dX6_sign_5 : decode cX6_sign 5 = .ok (.invokevirtual 137, 3) := by decide +kernel
theorem dX6_sign_8 : decode cX6_sign 8 = .ok (.ifCond .eq 13, 3) := by decide +kernel
theorem dX6_sign_11 : decode cX6_sign 11 = .ok (.aload_n 0, 1) := by decide +kernel
theorem dX6_sign_12 : decode cX6_sign 12 = .ok (.getfield 43, 3) := by decide +kernel
theorem dX6_sign_15 : decode cX6_sign 15 = .ok (.getfield 140, 3) := by decide +kernel
theorem dX6_sign_18 : decode cX6_sign 18 = .ok (.goto 4, 3) := by decide +kernel
theorem dX6_sign_21 : decode cX6_sign 21 = .ok (.iconst (-1), 1) := by decide +kernel
theorem dX6_sign_22 : decode cX6_sign 22 = .ok (.ireturn, 1) := by decide +kernel
theorem dX6_end_0 : decode cX6_end 0 = .ok (.aload_n 0, 1) := by decide +kernel
theorem dX6_end_1 : decode cX6_end 1 = .ok (.getfield 43, 3) := by decide +kernel
theorem dX6_end_4 : decode cX6_end 4 = .ok (.iload_n 1, 1) := by decide +kernel
theorem dX6_end_5 : decode cX6_end 5 = .ok (.invokevirtual 143, 3) := by decide +kernel
theorem dX6_end_8 : decode cX6_end 8 = .ok (.ireturn, 1) := by decide +kernel
theorem dX6_joint_0 : decode cX6_joint 0 = .ok (.aload_n 0, 1) := by decide +kernel
theorem dX6_joint_1 : decode cX6_joint 1 = .ok (.getfield 43, 3) := by decide +kernel
theorem dX6_joint_4 : decode cX6_joint 4 = .ok (.aload_n 0, 1) := by decide +kernel
theorem dX6_joint_5 : decode cX6_joint 5 = .ok (.getfield 34, 3) := by decide +kernel
theorem dX6_joint_8 : decode cX6_joint 8 = .ok (.invokevirtual 146, 3) := by decide +kernel
theorem dX6_joint_11 : decode cX6_joint 11 = .ok (.istore_n 1, 1) := by decide +kernel
theorem dX6_joint_12 : decode cX6_joint 12 = .ok (.aload_n 0, 1) := by decide +kernel
theorem dX6_joint_13 : decode cX6_joint 13 = .ok (.getfield 43, 3) := by decide +kernel
theorem dX6_joint_16 : decode cX6_joint 16 = .ok (.iconst 0, 1) := by decide +kernel
theorem dX6_joint_17 : decode cX6_joint 17 = .ok (.putfield 140, 3) := by decide +kernel
theorem dX6_joint_20 : decode cX6_joint 20 = .ok (.iload_n 1, 1) := by decide +kernel
theorem dX6_joint_21 : decode cX6_joint 21 = .ok (.ifCond .lt 7, 3) := by decide +kernel
theorem dX6_joint_24 : decode cX6_joint 24 = .ok (.iconst (-1), 1) := by decide +kernel
theorem dX6_joint_25 : decode cX6_joint 25 = .ok (.iload_n 1, 1) := by decide +kernel
theorem dX6_joint_26 : decode cX6_joint 26 = .ok (.isub, 1) := by decide +kernel
theorem dX6_joint_27 : decode cX6_joint 27 = .ok (.ireturn, 1) := by decide +kernel
theorem dX6_joint_28 : decode cX6_joint 28 = .ok (.aload_n 0, 1) := by decide +kernel
theorem dX6_joint_29 : decode cX6_joint 29 = .ok (.getfield 10, 3) := by decide +kernel
theorem dX6_joint_32 : decode cX6_joint 32 = .ok (.aload_n 0, 1) := by decide +kernel
theorem dX6_joint_33 : decode cX6_joint 33 = .ok (.getfield 34, 3) := by decide +kernel
theorem dX6_joint_36 : decode cX6_joint 36 = .ok (.invokevirtual 130, 3) := by decide +kernel
theorem dX6_joint_39 : decode cX6_joint 39 = .ok (.aload_n 0, 1) := by decide +kernel
theorem dX6_joint_40 : decode cX6_joint 40 = .ok (.getfield 21, 3) := by decide +kernel
theorem dX6_joint_43 : decode cX6_joint 43 = .ok (.iconst 0, 1) := by decide +kernel
theorem dX6_joint_44 : decode cX6_joint 44 = .ok (.putfield 73, 3) := by decide +kernel
theorem dX6_joint_47 : decode cX6_joint 47 = .ok (.aload_n 0, 1) := by decide +kernel
theorem dX6_joint_48 : decode cX6_joint 48 = .ok (.getfield 10, 3) := by decide +kernel
theorem dX6_joint_51 : decode cX6_joint 51 = .ok (.getfield 65, 3) := by decide +kernel
theorem dX6_joint_54 : decode cX6_joint 54 = .ok (.ireturn, 1) := by decide +kernel
theorem dX6_part_0 : decode cX6_part 0 = .ok (.aload_n 0, 1) := by decide +kernel
theorem dX6_part_1 : decode cX6_part 1 = .ok (.getfield 10, 3) := by decide +kernel
theorem dX6_part_4 : decode cX6_part 4 = .ok (.iload_n 1, 1) := by decide +kernel
theorem dX6_part_5 : decode cX6_part 5 = .ok (.invokevirtual 94, 3) := by decide +kernel
theorem dX6_part_8 : decode cX6_part 8 = .ok (.ifCond .ne 11, 3) := by decide +kernel
theorem dX6_part_11 : decode cX6_part 11 = .ok (.new 150, 3) := by decide +kernel
theorem dX6_part_14 : decode cX6_part 14 = .ok (.dup, 1) := by decide +kernel
theorem dX6_part_15 : decode cX6_part 15 = .ok (.invokespecial 152, 3) := by decide +kernel
theorem dX6_part_18 : decode cX6_part 18 = .ok (.athrow, 1) := by decide +kernel
theorem dX6_part_19 : decode cX6_part 19 = .ok (.iload_n 2, 1) := by decide +kernel
theorem dX6_part_20 : decode cX6_part 20 = .ok (.tableswitch 137 0 6 #[44, 54, 64, 74, 84, 94, 112], 44) := by decide +kernel
theorem dX6_part_64 : decode cX6_part 64 = .ok (.aload_n 0, 1) := by decide +kernel
theorem dX6_part_65 : decode cX6_part 65 = .ok (.getfield 10, 3) := by decide +kernel
theorem dX6_part_68 : decode cX6_part 68 = .ok (.getfield 97, 3) := by decide +kernel
theorem dX6_part_71 : decode cX6_part 71 = .ok (.iload_n 1, 1) := by decide +kernel
theorem dX6_part_72 : decode cX6_part 72 = .ok (.iaload, 1) := by decide +kernel
theorem dX6_part_73 : decode cX6_part 73 = .ok (.ireturn, 1) := by decide +kernel
theorem dX6_part_74 : decode cX6_part 74 = .ok (.aload_n 0, 1) := by decide +kernel
theorem dX6_part_75 : decode cX6_part 75 = .ok (.getfield 10, 3) := by decide +kernel
theorem dX6_part_78 : decode cX6_part 78 = .ok (.getfield 100, 3) := by decide +kernel
theorem dX6_part_81 : decode cX6_part 81 = .ok (.iload_n 1, 1) := by decide +kernel
theorem dX6_part_82 : decode cX6_part 82 = .ok (.iaload, 1) := by decide +kernel
theorem dX6_part_83 : decode cX6_part 83 = .ok (.ireturn, 1) := by decide +kernel
theorem dX6_part_84 : decode cX6_part 84 = .ok (.aload_n 0, 1) := by decide +kernel
theorem dX6_part_85 : decode cX6_part 85 = .ok (.getfield 10, 3) := by decide +kernel
theorem dX6_part_88 : decode cX6_part 88 = .ok (.getfield 103, 3) := by decide +kernel
theorem dX6_part_91 : decode cX6_part 91 = .ok (.iload_n 1, 1) := by decide +kernel
theorem dX6_part_92 : decode cX6_part 92 = .ok (.iaload, 1) := by decide +kernel
theorem dX6_part_93 : decode cX6_part 93 = .ok (.ireturn, 1) := by decide +kernel
theorem dX6_part_94 : decode cX6_part 94 = .ok (.aload_n 0, 1) := by decide +kernel
theorem dX6_part_95 : decode cX6_part 95 = .ok (.getfield 10, 3) := by decide +kernel
theorem dX6_part_98 : decode cX6_part 98 = .ok (.getfield 106, 3) := by decide +kernel
theorem dX6_part_101 : decode cX6_part 101 = .ok (.iload_n 1, 1) := by decide +kernel
theorem dX6_part_102 : decode cX6_part 102 = .ok (.iaload, 1) := by decide +kernel
theorem dX6_part_103 : decode cX6_part 103 = .ok (.ireturn, 1) := by decide +kernel
theorem dX6_part_104 : decode cX6_part 104 = .ok (.aload_n 0, 1) := by decide +kernel
theorem dX6_part_105 : decode cX6_part 105 = .ok (.getfield 10, 3) := by decide +kernel
theorem dX6_part_108 : decode cX6_part 108 = .ok (.getfield 109, 3) := by decide +kernel
theorem dX6_part_111 : decode cX6_part 111 = .ok (.iload_n 1, 1) := by decide +kernel
theorem dX6_part_112 : decode cX6_part 112 = .ok (.iaload, 1) := by decide +kernel
theorem dX6_part_113 : decode cX6_part 113 = .ok (.ireturn, 1) := by decide +kernel
theorem dX6_part_114 : decode cX6_part 114 = .ok (.aload_n 0, 1) := by decide +kernel
theorem dX6_part_115 : decode cX6_part 115 = .ok (.getfield 10, 3) := by decide +kernel
theorem dX6_part_118 : decode cX6_part 118 = .ok (.getfield 116, 3) := by decide +kernel
theorem dX6_part_121 : decode cX6_part 121 = .ok (.iload_n 1, 1) := by decide +kernel
theorem dX6_part_122 : decode cX6_part 122 = .ok (.baload, 1) := by decide +kernel
theorem dX6_part_123 : decode cX6_part 123 = .ok (.ifCond .eq 7, 3) := by decide +kernel
theorem dX6_part_126 : decode cX6_part 126 = .ok (.iconst 1, 1) := by decide +kernel
theorem dX6_part_127 : decode cX6_part 127 = .ok (.goto 4, 3) := by decide +kernel
theorem dX6_part_130 : decode cX6_part 130 = .ok (.iconst 0, 1) := by decide +kernel
theorem dX6_part_131 : decode cX6_part 131 = .ok (.ireturn, 1) := by decide +kernel
theorem dX6_part_132 : decode cX6_part 132 = .ok (.aload_n 0, 1) := by decide +kernel
theorem dX6_part_133 : decode cX6_part 133 = .ok (.getfield 10, 3) := by decide +kernel
theorem dX6_part_136 : decode cX6_part 136 = .ok (.iload_n 1, 1) := by decide +kernel
theorem dX6_part_137 : decode cX6_part 137 = .ok (.invokevirtual 87, 3) := by decide +kernel
theorem dX6_part_140 : decode cX6_part 140 = .ok (.ifCond .eq 15, 3) := by decide +kernel
theorem dX6_part_143 : decode cX6_part 143 = .ok (.aload_n 0, 1) := by decide +kernel
theorem dX6_part_144 : decode cX6_part 144 = .ok (.getfield 10, 3) := by decide +kernel
theorem dX6_part_147 : decode cX6_part 147 = .ok (.getfield 91, 3) := by decide +kernel
theorem dX6_part_150 : decode cX6_part 150 = .ok (.iload_n 1, 1) := by decide +kernel
theorem dX6_part_151 : decode cX6_part 151 = .ok (.iaload, 1) := by decide +kernel
theorem dX6_part_152 : decode cX6_part 152 = .ok (.goto 4, 3) := by decide +kernel
theorem dX6_part_155 : decode cX6_part 155 = .ok (.iconst 0, 1) := by decide +kernel
theorem dX6_part_156 : decode cX6_part 156 = .ok (.ireturn, 1) := by decide +kernel
theorem dX6_part_157 : decode cX6_part 157 = .ok (.new 150, 3) := by decide +kernel
theorem dX6_part_160 : decode cX6_part 160 = .ok (.dup, 1) := by decide +kernel
theorem dX6_part_161 : decode cX6_part 161 = .ok (.invokespecial 152, 3) := by decide +kernel
theorem dX6_part_164 : decode cX6_part 164 = .ok (.athrow, 1) := by decide +kernel
theorem dX6_force_0 : decode cX6_force 0 = .ok (.aload_n 0, 1) := by decide +kernel
theorem dX6_force_1 : decode cX6_force 1 = .ok (.iload_n 1, 1) := by decide +kernel
theorem dX6_force_2 : decode cX6_force 2 = .ok (.aload_n 0, 1) := by decide +kernel
theorem dX6_force_3 : decode cX6_force 3 = .ok (.getfield 10, 3) := by decide +kernel
theorem dX6_force_6 : decode cX6_force 6 = .ok (.iload_n 2, 1) := by decide +kernel
theorem dX6_force_7 : decode cX6_force 7 = .ok (.invokevirtual 94, 3) := by decide +kernel
theorem dX6_force_10 : decode cX6_force 10 = .ok (.invokevirtual 153, 3) := by decide +kernel
theorem dX6_force_13 : decode cX6_force 13 = .ok (.istore_n 3, 1) := by decide +kernel
theorem dX6_force_14 : decode cX6_force 14 = .ok (.iload_n 3, 1) := by decide +kernel
theorem dX6_force_15 : decode cX6_force 15 = .ok (.ifCond .ne 42, 3) := by decide +kernel
theorem dX6_force_18 : decode cX6_force 18 = .ok (.aload_n 0, 1) := by decide +kernel
theorem dX6_force_19 : decode cX6_force 19 = .ok (.getfield 50, 3) := by decide +kernel
theorem dX6_force_22 : decode cX6_force 22 = .ok (.iconst 0, 1) := by decide +kernel
theorem dX6_force_23 : decode cX6_force 23 = .ok (.putfield 157, 3) := by decide +kernel
theorem dX6_force_26 : decode cX6_force 26 = .ok (.aload_n 0, 1) := by decide +kernel
theorem dX6_force_27 : decode cX6_force 27 = .ok (.getfield 50, 3) := by decide +kernel
theorem dX6_force_30 : decode cX6_force 30 = .ok (.aload_n 0, 1) := by decide +kernel
theorem dX6_force_31 : decode cX6_force 31 = .ok (.getfield 21, 3) := by decide +kernel
theorem dX6_force_34 : decode cX6_force 34 = .ok (.getfield 158, 3) := by decide +kernel
theorem dX6_force_37 : decode cX6_force 37 = .ok (.iload_n 2, 1) := by decide +kernel
theorem dX6_force_38 : decode cX6_force 38 = .ok (.iload_n 1, 1) := by decide +kernel
theorem dX6_force_39 : decode cX6_force 39 = .ok (.i2l, 1) := by decide +kernel
theorem dX6_force_40 : decode cX6_force 40 = .ok (.lconst 1, 1) := by decide +kernel
theorem dX6_force_41 : decode cX6_force 41 = .ok (.invokevirtual 162, 3) := by decide +kernel
theorem dX6_force_44 : decode cX6_force 44 = .ok (.aload_n 0, 1) := by decide +kernel
theorem dX6_force_45 : decode cX6_force 45 = .ok (.getfield 21, 3) := by decide +kernel
theorem dX6_force_48 : decode cX6_force 48 = .ok (.getfield 158, 3) := by decide +kernel
theorem dX6_force_51 : decode cX6_force 51 = .ok (.getfield 168, 3) := by decide +kernel
theorem dX6_force_54 : decode cX6_force 54 = .ok (.invokevirtual 172, 3) := by decide +kernel
theorem dX6_force_57 : decode cX6_force 57 = .ok (.iload_n 3, 1) := by decide +kernel
theorem dX6_force_58 : decode cX6_force 58 = .ok (.ireturn, 1) := by decide +kernel
theorem dX6_slip_0 : decode cX6_slip 0 = .ok (.aload_n 0, 1) := by decide +kernel
theorem dX6_slip_1 : decode cX6_slip 1 = .ok (.iload_n 1, 1) := by decide +kernel
theorem dX6_slip_2 : decode cX6_slip 2 = .ok (.aload_n 0, 1) := by decide +kernel
theorem dX6_slip_3 : decode cX6_slip 3 = .ok (.getfield 10, 3) := by decide +kernel
theorem dX6_slip_6 : decode cX6_slip 6 = .ok (.iload_n 2, 1) := by decide +kernel
theorem dX6_slip_7 : decode cX6_slip 7 = .ok (.invokevirtual 94, 3) := by decide +kernel
theorem dX6_slip_10 : decode cX6_slip 10 = .ok (.invokevirtual 153, 3) := by decide +kernel
theorem dX6_slip_13 : decode cX6_slip 13 = .ok (.istore_n 3, 1) := by decide +kernel
theorem dX6_slip_14 : decode cX6_slip 14 = .ok (.iload_n 3, 1) := by decide +kernel
theorem dX6_slip_15 : decode cX6_slip 15 = .ok (.ifCond .ne 42, 3) := by decide +kernel
theorem dX6_slip_18 : decode cX6_slip 18 = .ok (.aload_n 0, 1) := by decide +kernel
theorem dX6_slip_19 : decode cX6_slip 19 = .ok (.getfield 50, 3) := by decide +kernel
theorem dX6_slip_22 : decode cX6_slip 22 = .ok (.iconst 0, 1) := by decide +kernel
theorem dX6_slip_23 : decode cX6_slip 23 = .ok (.putfield 157, 3) := by decide +kernel
theorem dX6_slip_26 : decode cX6_slip 26 = .ok (.aload_n 0, 1) := by decide +kernel
theorem dX6_slip_27 : decode cX6_slip 27 = .ok (.getfield 50, 3) := by decide +kernel
theorem dX6_slip_30 : decode cX6_slip 30 = .ok (.aload_n 0, 1) := by decide +kernel
theorem dX6_slip_31 : decode cX6_slip 31 = .ok (.getfield 21, 3) := by decide +kernel
theorem dX6_slip_34 : decode cX6_slip 34 = .ok (.getfield 158, 3) := by decide +kernel
theorem dX6_slip_37 : decode cX6_slip 37 = .ok (.iload_n 2, 1) := by decide +kernel
theorem dX6_slip_38 : decode cX6_slip 38 = .ok (.iload_n 1, 1) := by decide +kernel
theorem dX6_slip_39 : decode cX6_slip 39 = .ok (.i2l, 1) := by decide +kernel
theorem dX6_slip_40 : decode cX6_slip 40 = .ok (.lconst 1, 1) := by decide +kernel
theorem dX6_slip_41 : decode cX6_slip 41 = .ok (.invokevirtual 176, 3) := by decide +kernel
theorem dX6_slip_44 : decode cX6_slip 44 = .ok (.aload_n 0, 1) := by decide +kernel
theorem dX6_slip_45 : decode cX6_slip 45 = .ok (.getfield 21, 3) := by decide +kernel
theorem dX6_slip_48 : decode cX6_slip 48 = .ok (.getfield 158, 3) := by decide +kernel
theorem dX6_slip_51 : decode cX6_slip 51 = .ok (.getfield 168, 3) := by decide +kernel
theorem dX6_slip_54 : decode cX6_slip 54 = .ok (.invokevirtual 172, 3) := by decide +kernel
theorem dX6_slip_57 : decode cX6_slip 57 = .ok (.iload_n 3, 1) := by decide +kernel
theorem dX6_slip_58 : decode cX6_slip 58 = .ok (.ireturn, 1) := by decide +kernel
theorem dX6_bears_0 : decode cX6_bears 0 = .ok (.aload_n 0, 1) := by decide +kernel
theorem dX6_bears_1 : decode cX6_bears 1 = .ok (.iload_n 1, 1) := by decide +kernel
theorem dX6_bears_2 : decode cX6_bears 2 = .ok (.aload_n 0, 1) := by decide +kernel
theorem dX6_bears_3 : decode cX6_bears 3 = .ok (.getfield 10, 3) := by decide +kernel
theorem dX6_bears_6 : decode cX6_bears 6 = .ok (.iload_n 2, 1) := by decide +kernel
theorem dX6_bears_7 : decode cX6_bears 7 = .ok (.invokevirtual 87, 3) := by decide +kernel
theorem dX6_bears_10 : decode cX6_bears 10 = .ok (.invokevirtual 153, 3) := by decide +kernel
theorem dX6_bears_13 : decode cX6_bears 13 = .ok (.istore_n 3, 1) := by decide +kernel
theorem dX6_bears_14 : decode cX6_bears 14 = .ok (.iload_n 3, 1) := by decide +kernel
theorem dX6_bears_15 : decode cX6_bears 15 = .ok (.ifCond .ne 66, 3) := by decide +kernel
theorem dX6_bears_18 : decode cX6_bears 18 = .ok (.aload_n 0, 1) := by decide +kernel
theorem dX6_bears_19 : decode cX6_bears 19 = .ok (.getfield 21, 3) := by decide +kernel
theorem dX6_bears_22 : decode cX6_bears 22 = .ok (.getfield 158, 3) := by decide +kernel
theorem dX6_bears_25 : decode cX6_bears 25 = .ok (.iload_n 2, 1) := by decide +kernel
theorem dX6_bears_26 : decode cX6_bears 26 = .ok (.iload_n 1, 1) := by decide +kernel
theorem dX6_bears_27 : decode cX6_bears 27 = .ok (.i2l, 1) := by decide +kernel
theorem dX6_bears_28 : decode cX6_bears 28 = .ok (.invokevirtual 179, 3) := by decide +kernel
theorem dX6_bears_31 : decode cX6_bears 31 = .ok (.lstore 4, 2) := by decide +kernel
theorem dX6_bears_33 : decode cX6_bears 33 = .ok (.aload_n 0, 1) := by decide +kernel
theorem dX6_bears_34 : decode cX6_bears 34 = .ok (.getfield 21, 3) := by decide +kernel
theorem dX6_bears_37 : decode cX6_bears 37 = .ok (.getfield 158, 3) := by decide +kernel
theorem dX6_bears_40 : decode cX6_bears 40 = .ok (.getfield 168, 3) := by decide +kernel
theorem dX6_bears_43 : decode cX6_bears 43 = .ok (.lstore 6, 2) := by decide +kernel
theorem dX6_bears_45 : decode cX6_bears 45 = .ok (.aload_n 0, 1) := by decide +kernel
theorem dX6_bears_46 : decode cX6_bears 46 = .ok (.getfield 50, 3) := by decide +kernel
theorem dX6_bears_49 : decode cX6_bears 49 = .ok (.iconst 0, 1) := by decide +kernel
theorem dX6_bears_50 : decode cX6_bears 50 = .ok (.putfield 157, 3) := by decide +kernel
theorem dX6_bears_53 : decode cX6_bears 53 = .ok (.aload_n 0, 1) := by decide +kernel
theorem dX6_bears_54 : decode cX6_bears 54 = .ok (.getfield 50, 3) := by decide +kernel
theorem dX6_bears_57 : decode cX6_bears 57 = .ok (.iload_n 1, 1) := by decide +kernel
theorem dX6_bears_58 : decode cX6_bears 58 = .ok (.i2l, 1) := by decide +kernel
theorem dX6_bears_59 : decode cX6_bears 59 = .ok (.lload 6, 2) := by decide +kernel
theorem dX6_bears_61 : decode cX6_bears 61 = .ok (.lmul, 1) := by decide +kernel
theorem dX6_bears_62 : decode cX6_bears 62 = .ok (.lload 4, 2) := by decide +kernel
theorem dX6_bears_64 : decode cX6_bears 64 = .ok (.lsub, 1) := by decide +kernel
theorem dX6_bears_65 : decode cX6_bears 65 = .ok (.lload 6, 2) := by decide +kernel
theorem dX6_bears_67 : decode cX6_bears 67 = .ok (.invokevirtual 172, 3) := by decide +kernel
theorem dX6_bears_70 : decode cX6_bears 70 = .ok (.aload_n 0, 1) := by decide +kernel
theorem dX6_bears_71 : decode cX6_bears 71 = .ok (.getfield 50, 3) := by decide +kernel
theorem dX6_bears_74 : decode cX6_bears 74 = .ok (.lload 4, 2) := by decide +kernel
theorem dX6_bears_76 : decode cX6_bears 76 = .ok (.lload 6, 2) := by decide +kernel
theorem dX6_bears_78 : decode cX6_bears 78 = .ok (.invokevirtual 172, 3) := by decide +kernel
theorem dX6_bears_81 : decode cX6_bears 81 = .ok (.iload_n 3, 1) := by decide +kernel
theorem dX6_bears_82 : decode cX6_bears 82 = .ok (.ireturn, 1) := by decide +kernel
theorem dX6_stretch_0 : decode cX6_stretch 0 = .ok (.aload_n 0, 1) := by decide +kernel
theorem dX6_stretch_1 : decode cX6_stretch 1 = .ok (.iload_n 1, 1) := by decide +kernel
theorem dX6_stretch_2 : decode cX6_stretch 2 = .ok (.aload_n 0, 1) := by decide +kernel
theorem dX6_stretch_3 : decode cX6_stretch 3 = .ok (.getfield 10, 3) := by decide +kernel
theorem dX6_stretch_6 : decode cX6_stretch 6 = .ok (.getfield 65, 3) := by decide +kernel
theorem dX6_stretch_9 : decode cX6_stretch 9 = .ok (.ifCond .le 7, 3) := by decide +kernel
theorem dX6_stretch_12 : decode cX6_stretch 12 = .ok (.iconst 1, 1) := by decide +kernel
theorem dX6_stretch_13 : decode cX6_stretch 13 = .ok (.goto 4, 3) := by decide +kernel
theorem dX6_stretch_16 : decode cX6_stretch 16 = .ok (.iconst 0, 1) := by decide +kernel
theorem dX6_stretch_17 : decode cX6_stretch 17 = .ok (.invokevirtual 153, 3) := by decide +kernel
theorem dX6_stretch_20 : decode cX6_stretch 20 = .ok (.istore_n 2, 1) := by decide +kernel
theorem dX6_stretch_21 : decode cX6_stretch 21 = .ok (.iload_n 2, 1) := by decide +kernel
theorem dX6_stretch_22 : decode cX6_stretch 22 = .ok (.ifCond .ne 104, 3) := by decide +kernel
theorem dX6_stretch_25 : decode cX6_stretch 25 = .ok (.aload_n 0, 1) := by decide +kernel
theorem dX6_stretch_26 : decode cX6_stretch 26 = .ok (.getfield 21, 3) := by decide +kernel
theorem dX6_stretch_29 : decode cX6_stretch 29 = .ok (.getfield 158, 3) := by decide +kernel
theorem dX6_stretch_32 : decode cX6_stretch 32 = .ok (.iconst 0, 1) := by decide +kernel
theorem dX6_stretch_33 : decode cX6_stretch 33 = .ok (.iload_n 1, 1) := by decide +kernel
theorem dX6_stretch_34 : decode cX6_stretch 34 = .ok (.i2l, 1) := by decide +kernel
theorem dX6_stretch_35 : decode cX6_stretch 35 = .ok (.lconst 1, 1) := by decide +kernel
theorem dX6_stretch_36 : decode cX6_stretch 36 = .ok (.invokevirtual 176, 3) := by decide +kernel
theorem dX6_stretch_39 : decode cX6_stretch 39 = .ok (.lstore_n 3, 1) := by decide +kernel
theorem dX6_stretch_40 : decode cX6_stretch 40 = .ok (.iconst 0, 1) := by decide +kernel
theorem dX6_stretch_41 : decode cX6_stretch 41 = .ok (.istore 5, 2) := by decide +kernel
theorem dX6_stretch_43 : decode cX6_stretch 43 = .ok (.iload 5, 2) := by decide +kernel
theorem dX6_stretch_45 : decode cX6_stretch 45 = .ok (.iconst 1, 1) := by decide +kernel
theorem dX6_stretch_46 : decode cX6_stretch 46 = .ok (.iadd, 1) := by decide +kernel
theorem dX6_stretch_47 : decode cX6_stretch 47 = .ok (.aload_n 0, 1) := by decide +kernel
theorem dX6_stretch_48 : decode cX6_stretch 48 = .ok (.getfield 10, 3) := by decide +kernel
theorem dX6_stretch_51 : decode cX6_stretch 51 = .ok (.getfield 65, 3) := by decide +kernel
theorem dX6_stretch_54 : decode cX6_stretch 54 = .ok (.if_icmp .ge 46, 3) := by decide +kernel
theorem dX6_stretch_57 : decode cX6_stretch 57 = .ok (.lload_n 3, 1) := by decide +kernel
theorem dX6_stretch_58 : decode cX6_stretch 58 = .ok (.aload_n 0, 1) := by decide +kernel
theorem dX6_stretch_59 : decode cX6_stretch 59 = .ok (.getfield 10, 3) := by decide +kernel
theorem dX6_stretch_62 : decode cX6_stretch 62 = .ok (.getfield 84, 3) := by decide +kernel
theorem dX6_stretch_65 : decode cX6_stretch 65 = .ok (.aload_n 0, 1) := by decide +kernel
theorem dX6_stretch_66 : decode cX6_stretch 66 = .ok (.getfield 10, 3) := by decide +kernel
theorem dX6_stretch_69 : decode cX6_stretch 69 = .ok (.getfield 91, 3) := by decide +kernel
theorem dX6_stretch_72 : decode cX6_stretch 72 = .ok (.iload 5, 2) := by decide +kernel
theorem dX6_stretch_74 : decode cX6_stretch 74 = .ok (.iaload, 1) := by decide +kernel
theorem dX6_stretch_75 : decode cX6_stretch 75 = .ok (.imul, 1) := by decide +kernel
theorem dX6_stretch_76 : decode cX6_stretch 76 = .ok (.i2l, 1) := by decide +kernel
theorem dX6_stretch_77 : decode cX6_stretch 77 = .ok (.aload_n 0, 1) := by decide +kernel
theorem dX6_stretch_78 : decode cX6_stretch 78 = .ok (.getfield 21, 3) := by decide +kernel
theorem dX6_stretch_81 : decode cX6_stretch 81 = .ok (.getfield 158, 3) := by decide +kernel
theorem dX6_stretch_84 : decode cX6_stretch 84 = .ok (.iload 5, 2) := by decide +kernel
theorem dX6_stretch_86 : decode cX6_stretch 86 = .ok (.iload_n 1, 1) := by decide +kernel
theorem dX6_stretch_87 : decode cX6_stretch 87 = .ok (.i2l, 1) := by decide +kernel
theorem dX6_stretch_88 : decode cX6_stretch 88 = .ok (.invokevirtual 179, 3) := by decide +kernel
theorem dX6_stretch_91 : decode cX6_stretch 91 = .ok (.lmul, 1) := by decide +kernel
theorem dX6_stretch_92 : decode cX6_stretch 92 = .ok (.ladd, 1) := by decide +kernel
theorem dX6_stretch_93 : decode cX6_stretch 93 = .ok (.lstore_n 3, 1) := by decide +kernel
theorem dX6_stretch_94 : decode cX6_stretch 94 = .ok (.iinc 5 1, 3) := by decide +kernel
theorem dX6_stretch_97 : decode cX6_stretch 97 = .ok (.goto (-54), 3) := by decide +kernel
theorem dX6_stretch_100 : decode cX6_stretch 100 = .ok (.aload_n 0, 1) := by decide +kernel
theorem dX6_stretch_101 : decode cX6_stretch 101 = .ok (.getfield 50, 3) := by decide +kernel
theorem dX6_stretch_104 : decode cX6_stretch 104 = .ok (.iconst 0, 1) := by decide +kernel
theorem dX6_stretch_105 : decode cX6_stretch 105 = .ok (.putfield 157, 3) := by decide +kernel
theorem dX6_stretch_108 : decode cX6_stretch 108 = .ok (.aload_n 0, 1) := by decide +kernel
theorem dX6_stretch_109 : decode cX6_stretch 109 = .ok (.getfield 50, 3) := by decide +kernel
theorem dX6_stretch_112 : decode cX6_stretch 112 = .ok (.lload_n 3, 1) := by decide +kernel
theorem dX6_stretch_113 : decode cX6_stretch 113 = .ok (.aload_n 0, 1) := by decide +kernel
theorem dX6_stretch_114 : decode cX6_stretch 114 = .ok (.getfield 21, 3) := by decide +kernel
theorem dX6_stretch_117 : decode cX6_stretch 117 = .ok (.getfield 158, 3) := by decide +kernel
theorem dX6_stretch_120 : decode cX6_stretch 120 = .ok (.getfield 168, 3) := by decide +kernel
theorem dX6_stretch_123 : decode cX6_stretch 123 = .ok (.invokevirtual 172, 3) := by decide +kernel
theorem dX6_stretch_126 : decode cX6_stretch 126 = .ok (.iload_n 2, 1) := by decide +kernel
theorem dX6_stretch_127 : decode cX6_stretch 127 = .ok (.ireturn, 1) := by decide +kernel
theorem dX6_state_0 : decode cX6_state 0 = .ok (.aload_n 0, 1) := by decide +kernel
theorem dX6_state_1 : decode cX6_state 1 = .ok (.iload_n 1, 1) := by decide +kernel
theorem dX6_state_2 : decode cX6_state 2 = .ok (.aload_n 0, 1) := by decide +kernel
theorem dX6_state_3 : decode cX6_state 3 = .ok (.getfield 10, 3) := by decide +kernel
theorem dX6_state_6 : decode cX6_state 6 = .ok (.iload_n 2, 1) := by decide +kernel
theorem dX6_state_7 : decode cX6_state 7 = .ok (.invokevirtual 94, 3) := by decide +kernel
theorem dX6_state_10 : decode cX6_state 10 = .ok (.invokevirtual 153, 3) := by decide +kernel
theorem dX6_state_13 : decode cX6_state 13 = .ok (.iconst (-1), 1) := by decide +kernel
theorem dX6_state_14 : decode cX6_state 14 = .ok (.if_icmp .ne 5, 3) := by decide +kernel
theorem dX6_state_17 : decode cX6_state 17 = .ok (.iconst (-1), 1) := by decide +kernel
theorem dX6_state_18 : decode cX6_state 18 = .ok (.ireturn, 1) := by decide +kernel
theorem dX6_state_19 : decode cX6_state 19 = .ok (.aload_n 0, 1) := by decide +kernel
theorem dX6_state_20 : decode cX6_state 20 = .ok (.getfield 10, 3) := by decide +kernel
theorem dX6_state_23 : decode cX6_state 23 = .ok (.getfield 116, 3) := by decide +kernel
theorem dX6_state_26 : decode cX6_state 26 = .ok (.iload_n 2, 1) := by decide +kernel
theorem dX6_state_27 : decode cX6_state 27 = .ok (.baload, 1) := by decide +kernel
theorem dX6_state_28 : decode cX6_state 28 = .ok (.ifCond .eq 5, 3) := by decide +kernel
theorem dX6_state_31 : decode cX6_state 31 = .ok (.iconst 4, 1) := by decide +kernel
theorem dX6_state_32 : decode cX6_state 32 = .ok (.ireturn, 1) := by decide +kernel
theorem dX6_state_33 : decode cX6_state 33 = .ok (.aload_n 0, 1) := by decide +kernel
theorem dX6_state_34 : decode cX6_state 34 = .ok (.getfield 21, 3) := by decide +kernel
theorem dX6_state_37 : decode cX6_state 37 = .ok (.iload_n 1, 1) := by decide +kernel
theorem dX6_state_38 : decode cX6_state 38 = .ok (.invokevirtual 183, 3) := by decide +kernel
theorem dX6_state_41 : decode cX6_state 41 = .ok (.iload_n 2, 1) := by decide +kernel
theorem dX6_state_42 : decode cX6_state 42 = .ok (.ishr, 1) := by decide +kernel
theorem dX6_state_43 : decode cX6_state 43 = .ok (.iconst 1, 1) := by decide +kernel
theorem dX6_state_44 : decode cX6_state 44 = .ok (.iand, 1) := by decide +kernel
theorem dX6_state_45 : decode cX6_state 45 = .ok (.ifCond .ne 5, 3) := by decide +kernel
theorem dX6_state_48 : decode cX6_state 48 = .ok (.iconst 3, 1) := by decide +kernel
theorem dX6_state_49 : decode cX6_state 49 = .ok (.ireturn, 1) := by decide +kernel
theorem dX6_state_50 : decode cX6_state 50 = .ok (.aload_n 0, 1) := by decide +kernel
theorem dX6_state_51 : decode cX6_state 51 = .ok (.getfield 21, 3) := by decide +kernel
theorem dX6_state_54 : decode cX6_state 54 = .ok (.getfield 158, 3) := by decide +kernel
theorem dX6_state_57 : decode cX6_state 57 = .ok (.iload_n 2, 1) := by decide +kernel
theorem dX6_state_58 : decode cX6_state 58 = .ok (.iload_n 1, 1) := by decide +kernel
theorem dX6_state_59 : decode cX6_state 59 = .ok (.i2l, 1) := by decide +kernel
theorem dX6_state_60 : decode cX6_state 60 = .ok (.lconst 1, 1) := by decide +kernel
theorem dX6_state_61 : decode cX6_state 61 = .ok (.invokevirtual 162, 3) := by decide +kernel
theorem dX6_state_64 : decode cX6_state 64 = .ok (.lstore_n 3, 1) := by decide +kernel
theorem dX6_state_65 : decode cX6_state 65 = .ok (.lload_n 3, 1) := by decide +kernel
theorem dX6_state_66 : decode cX6_state 66 = .ok (.lconst 0, 1) := by decide +kernel
theorem dX6_state_67 : decode cX6_state 67 = .ok (.lcmp, 1) := by decide +kernel
theorem dX6_state_68 : decode cX6_state 68 = .ok (.ifCond .gt 5, 3) := by decide +kernel
theorem dX6_state_71 : decode cX6_state 71 = .ok (.iconst 0, 1) := by decide +kernel
theorem dX6_state_72 : decode cX6_state 72 = .ok (.ireturn, 1) := by decide +kernel
theorem dX6_state_73 : decode cX6_state 73 = .ok (.lload_n 3, 1) := by decide +kernel
theorem dX6_state_74 : decode cX6_state 74 = .ok (.aload_n 0, 1) := by decide +kernel
theorem dX6_state_75 : decode cX6_state 75 = .ok (.getfield 10, 3) := by decide +kernel
theorem dX6_state_78 : decode cX6_state 78 = .ok (.getfield 103, 3) := by decide +kernel
theorem dX6_state_81 : decode cX6_state 81 = .ok (.iload_n 2, 1) := by decide +kernel
theorem dX6_state_82 : decode cX6_state 82 = .ok (.iaload, 1) := by decide +kernel
theorem dX6_state_83 : decode cX6_state 83 = .ok (.i2l, 1) := by decide +kernel
theorem dX6_state_84 : decode cX6_state 84 = .ok (.aload_n 0, 1) := by decide +kernel
theorem dX6_state_85 : decode cX6_state 85 = .ok (.getfield 21, 3) := by decide +kernel
theorem dX6_state_88 : decode cX6_state 88 = .ok (.getfield 158, 3) := by decide +kernel
theorem dX6_state_91 : decode cX6_state 91 = .ok (.getfield 168, 3) := by decide +kernel
theorem dX6_state_94 : decode cX6_state 94 = .ok (.lmul, 1) := by decide +kernel
theorem dX6_state_95 : decode cX6_state 95 = .ok (.lcmp, 1) := by decide +kernel
theorem dX6_state_96 : decode cX6_state 96 = .ok (.ifCond .gt 7, 3) := by decide +kernel
theorem dX6_state_99 : decode cX6_state 99 = .ok (.iconst 1, 1) := by decide +kernel
theorem dX6_state_100 : decode cX6_state 100 = .ok (.goto 4, 3) := by decide +kernel
theorem dX6_state_103 : decode cX6_state 103 = .ok (.iconst 2, 1) := by decide +kernel
theorem dX6_state_104 : decode cX6_state 104 = .ok (.ireturn, 1) := by decide +kernel
theorem dX6_idle_0 : decode cX6_idle 0 = .ok (.aload_n 0, 1) := by decide +kernel
theorem dX6_idle_1 : decode cX6_idle 1 = .ok (.iload_n 1, 1) := by decide +kernel
theorem dX6_idle_2 : decode cX6_idle 2 = .ok (.iconst 1, 1) := by decide +kernel
theorem dX6_idle_3 : decode cX6_idle 3 = .ok (.invokevirtual 153, 3) := by decide +kernel
theorem dX6_idle_6 : decode cX6_idle 6 = .ok (.iconst (-1), 1) := by decide +kernel
theorem dX6_idle_7 : decode cX6_idle 7 = .ok (.if_icmp .ne 5, 3) := by decide +kernel
theorem dX6_idle_10 : decode cX6_idle 10 = .ok (.iconst (-1), 1) := by decide +kernel
theorem dX6_idle_11 : decode cX6_idle 11 = .ok (.ireturn, 1) := by decide +kernel
theorem dX6_idle_12 : decode cX6_idle 12 = .ok (.aload_n 0, 1) := by decide +kernel
theorem dX6_idle_13 : decode cX6_idle 13 = .ok (.getfield 21, 3) := by decide +kernel
theorem dX6_idle_16 : decode cX6_idle 16 = .ok (.iload_n 1, 1) := by decide +kernel
theorem dX6_idle_17 : decode cX6_idle 17 = .ok (.invokevirtual 183, 3) := by decide +kernel
theorem dX6_idle_20 : decode cX6_idle 20 = .ok (.istore_n 2, 1) := by decide +kernel
theorem dX6_idle_21 : decode cX6_idle 21 = .ok (.aload_n 0, 1) := by decide +kernel
theorem dX6_idle_22 : decode cX6_idle 22 = .ok (.getfield 50, 3) := by decide +kernel
theorem dX6_idle_25 : decode cX6_idle 25 = .ok (.iconst 0, 1) := by decide +kernel
theorem dX6_idle_26 : decode cX6_idle 26 = .ok (.putfield 157, 3) := by decide +kernel
theorem dX6_idle_29 : decode cX6_idle 29 = .ok (.aload_n 0, 1) := by decide +kernel
theorem dX6_idle_30 : decode cX6_idle 30 = .ok (.getfield 50, 3) := by decide +kernel
theorem dX6_idle_33 : decode cX6_idle 33 = .ok (.aload_n 0, 1) := by decide +kernel
theorem dX6_idle_34 : decode cX6_idle 34 = .ok (.getfield 10, 3) := by decide +kernel
theorem dX6_idle_37 : decode cX6_idle 37 = .ok (.invokevirtual 120, 3) := by decide +kernel
theorem dX6_idle_40 : decode cX6_idle 40 = .ok (.iload_n 2, 1) := by decide +kernel
theorem dX6_idle_41 : decode cX6_idle 41 = .ok (.iconst (-1), 1) := by decide +kernel
theorem dX6_idle_42 : decode cX6_idle 42 = .ok (.ixor, 1) := by decide +kernel
theorem dX6_idle_43 : decode cX6_idle 43 = .ok (.iand, 1) := by decide +kernel
theorem dX6_idle_44 : decode cX6_idle 44 = .ok (.i2l, 1) := by decide +kernel
theorem dX6_idle_45 : decode cX6_idle 45 = .ok (.invokevirtual 186, 3) := by decide +kernel
theorem dX6_idle_48 : decode cX6_idle 48 = .ok (.iload_n 2, 1) := by decide +kernel
theorem dX6_idle_49 : decode cX6_idle 49 = .ok (.aload_n 0, 1) := by decide +kernel
theorem dX6_idle_50 : decode cX6_idle 50 = .ok (.iload_n 1, 1) := by decide +kernel
theorem dX6_idle_51 : decode cX6_idle 51 = .ok (.invokevirtual 190, 3) := by decide +kernel
theorem dX6_idle_54 : decode cX6_idle 54 = .ok (.iconst (-1), 1) := by decide +kernel
theorem dX6_idle_55 : decode cX6_idle 55 = .ok (.ixor, 1) := by decide +kernel
theorem dX6_idle_56 : decode cX6_idle 56 = .ok (.iand, 1) := by decide +kernel
theorem dX6_idle_57 : decode cX6_idle 57 = .ok (.ireturn, 1) := by decide +kernel
theorem dX6_hardest_0 : decode cX6_hardest 0 = .ok (.aload_n 0, 1) := by decide +kernel
theorem dX6_hardest_1 : decode cX6_hardest 1 = .ok (.iload_n 1, 1) := by decide +kernel
theorem dX6_hardest_2 : decode cX6_hardest 2 = .ok (.aload_n 0, 1) := by decide +kernel
theorem dX6_hardest_3 : decode cX6_hardest 3 = .ok (.getfield 10, 3) := by decide +kernel
theorem dX6_hardest_6 : decode cX6_hardest 6 = .ok (.getfield 65, 3) := by decide +kernel
theorem dX6_hardest_9 : decode cX6_hardest 9 = .ok (.ifCond .le 7, 3) := by decide +kernel
theorem dX6_hardest_12 : decode cX6_hardest 12 = .ok (.iconst 1, 1) := by decide +kernel
theorem dX6_hardest_13 : decode cX6_hardest 13 = .ok (.goto 4, 3) := by decide +kernel
theorem dX6_hardest_16 : decode cX6_hardest 16 = .ok (.iconst 0, 1) := by decide +kernel
theorem dX6_hardest_17 : decode cX6_hardest 17 = .ok (.invokevirtual 153, 3) := by decide +kernel
theorem dX6_hardest_20 : decode cX6_hardest 20 = .ok (.istore_n 2, 1) := by decide +kernel
theorem dX6_hardest_21 : decode cX6_hardest 21 = .ok (.iload_n 2, 1) := by decide +kernel
theorem dX6_hardest_22 : decode cX6_hardest 22 = .ok (.ifCond .ge 5, 3) := by decide +kernel
theorem dX6_hardest_25 : decode cX6_hardest 25 = .ok (.iload_n 2, 1) := by decide +kernel
theorem dX6_hardest_26 : decode cX6_hardest 26 = .ok (.ireturn, 1) := by decide +kernel
theorem dX6_hardest_27 : decode cX6_hardest 27 = .ok (.iconst 0, 1) := by decide +kernel
theorem dX6_hardest_28 : decode cX6_hardest 28 = .ok (.istore_n 3, 1) := by decide +kernel
theorem dX6_hardest_29 : decode cX6_hardest 29 = .ok (.iconst 1, 1) := by decide +kernel
theorem dX6_hardest_30 : decode cX6_hardest 30 = .ok (.istore 4, 2) := by decide +kernel
theorem dX6_hardest_32 : decode cX6_hardest 32 = .ok (.iload 4, 2) := by decide +kernel
theorem dX6_hardest_34 : decode cX6_hardest 34 = .ok (.aload_n 0, 1) := by decide +kernel
theorem dX6_hardest_35 : decode cX6_hardest 35 = .ok (.getfield 10, 3) := by decide +kernel
theorem dX6_hardest_38 : decode cX6_hardest 38 = .ok (.getfield 65, 3) := by decide +kernel
theorem dX6_hardest_41 : decode cX6_hardest 41 = .ok (.if_icmp .ge 45, 3) := by decide +kernel
theorem dX6_hardest_44 : decode cX6_hardest 44 = .ok (.aload_n 0, 1) := by decide +kernel
theorem dX6_hardest_45 : decode cX6_hardest 45 = .ok (.getfield 21, 3) := by decide +kernel
theorem dX6_hardest_48 : decode cX6_hardest 48 = .ok (.getfield 158, 3) := by decide +kernel
theorem dX6_hardest_51 : decode cX6_hardest 51 = .ok (.iload 4, 2) := by decide +kernel
theorem dX6_hardest_53 : decode cX6_hardest 53 = .ok (.iload_n 1, 1) := by decide +kernel
theorem dX6_hardest_54 : decode cX6_hardest 54 = .ok (.i2l, 1) := by decide +kernel
theorem dX6_hardest_55 : decode cX6_hardest 55 = .ok (.lconst 1, 1) := by decide +kernel
theorem dX6_hardest_56 : decode cX6_hardest 56 = .ok (.invokevirtual 162, 3) := by decide +kernel
theorem dX6_hardest_59 : decode cX6_hardest 59 = .ok (.aload_n 0, 1) := by decide +kernel
theorem dX6_hardest_60 : decode cX6_hardest 60 = .ok (.getfield 21, 3) := by decide +kernel
theorem dX6_hardest_63 : decode cX6_hardest 63 = .ok (.getfield 158, 3) := by decide +kernel
theorem dX6_hardest_66 : decode cX6_hardest 66 = .ok (.iload_n 3, 1) := by decide +kernel
theorem dX6_hardest_67 : decode cX6_hardest 67 = .ok (.iload_n 1, 1) := by decide +kernel
theorem dX6_hardest_68 : decode cX6_hardest 68 = .ok (.i2l, 1) := by decide +kernel
theorem dX6_hardest_69 : decode cX6_hardest 69 = .ok (.lconst 1, 1) := by decide +kernel
theorem dX6_hardest_70 : decode cX6_hardest 70 = .ok (.invokevirtual 162, 3) := by decide +kernel
theorem dX6_hardest_73 : decode cX6_hardest 73 = .ok (.lcmp, 1) := by decide +kernel
theorem dX6_hardest_74 : decode cX6_hardest 74 = .ok (.ifCond .le 6, 3) := by decide +kernel
theorem dX6_hardest_77 : decode cX6_hardest 77 = .ok (.iload 4, 2) := by decide +kernel
theorem dX6_hardest_79 : decode cX6_hardest 79 = .ok (.istore_n 3, 1) := by decide +kernel
theorem dX6_hardest_80 : decode cX6_hardest 80 = .ok (.iinc 4 1, 3) := by decide +kernel
theorem dX6_hardest_83 : decode cX6_hardest 83 = .ok (.goto (-51), 3) := by decide +kernel
theorem dX6_hardest_86 : decode cX6_hardest 86 = .ok (.iload_n 1, 1) := by decide +kernel
theorem dX6_hardest_87 : decode cX6_hardest 87 = .ok (.i2l, 1) := by decide +kernel
theorem dX6_hardest_88 : decode cX6_hardest 88 = .ok (.aload_n 0, 1) := by decide +kernel
theorem dX6_hardest_89 : decode cX6_hardest 89 = .ok (.getfield 21, 3) := by decide +kernel
theorem dX6_hardest_92 : decode cX6_hardest 92 = .ok (.getfield 158, 3) := by decide +kernel
theorem dX6_hardest_95 : decode cX6_hardest 95 = .ok (.getfield 168, 3) := by decide +kernel
theorem dX6_hardest_98 : decode cX6_hardest 98 = .ok (.lmul, 1) := by decide +kernel
theorem dX6_hardest_99 : decode cX6_hardest 99 = .ok (.lstore 4, 2) := by decide +kernel
theorem dX6_hardest_101 : decode cX6_hardest 101 = .ok (.aload_n 0, 1) := by decide +kernel
theorem dX6_hardest_102 : decode cX6_hardest 102 = .ok (.getfield 50, 3) := by decide +kernel
theorem dX6_hardest_105 : decode cX6_hardest 105 = .ok (.iconst 0, 1) := by decide +kernel
theorem dX6_hardest_106 : decode cX6_hardest 106 = .ok (.putfield 157, 3) := by decide +kernel
theorem dX6_hardest_109 : decode cX6_hardest 109 = .ok (.aload_n 0, 1) := by decide +kernel
theorem dX6_hardest_110 : decode cX6_hardest 110 = .ok (.getfield 50, 3) := by decide +kernel
theorem dX6_hardest_113 : decode cX6_hardest 113 = .ok (.lload 4, 2) := by decide +kernel
theorem dX6_hardest_115 : decode cX6_hardest 115 = .ok (.lconst 0, 1) := by decide +kernel
theorem dX6_hardest_116 : decode cX6_hardest 116 = .ok (.lcmp, 1) := by decide +kernel
theorem dX6_hardest_117 : decode cX6_hardest 117 = .ok (.ifCond .ne 7, 3) := by decide +kernel
theorem dX6_hardest_120 : decode cX6_hardest 120 = .ok (.lconst 0, 1) := by decide +kernel
theorem dX6_hardest_121 : decode cX6_hardest 121 = .ok (.goto 24, 3) := by decide +kernel
theorem dX6_hardest_124 : decode cX6_hardest 124 = .ok (.ldc2_w 193, 3) := by decide +kernel
theorem dX6_hardest_127 : decode cX6_hardest 127 = .ok (.aload_n 0, 1) := by decide +kernel
theorem dX6_hardest_128 : decode cX6_hardest 128 = .ok (.getfield 21, 3) := by decide +kernel
theorem dX6_hardest_131 : decode cX6_hardest 131 = .ok (.getfield 158, 3) := by decide +kernel
theorem dX6_hardest_134 : decode cX6_hardest 134 = .ok (.iload_n 3, 1) := by decide +kernel
theorem dX6_hardest_135 : decode cX6_hardest 135 = .ok (.iload_n 1, 1) := by decide +kernel
theorem dX6_hardest_136 : decode cX6_hardest 136 = .ok (.i2l, 1) := by decide +kernel
theorem dX6_hardest_137 : decode cX6_hardest 137 = .ok (.lconst 1, 1) := by decide +kernel
theorem dX6_hardest_138 : decode cX6_hardest 138 = .ok (.invokevirtual 162, 3) := by decide +kernel
theorem dX6_hardest_141 : decode cX6_hardest 141 = .ok (.lmul, 1) := by decide +kernel
theorem dX6_hardest_142 : decode cX6_hardest 142 = .ok (.lload 4, 2) := by decide +kernel
theorem dX6_hardest_144 : decode cX6_hardest 144 = .ok (.ldiv, 1) := by decide +kernel
theorem dX6_hardest_145 : decode cX6_hardest 145 = .ok (.invokevirtual 186, 3) := by decide +kernel
theorem dX6_hardest_148 : decode cX6_hardest 148 = .ok (.aload_n 0, 1) := by decide +kernel
theorem dX6_hardest_149 : decode cX6_hardest 149 = .ok (.getfield 50, 3) := by decide +kernel
theorem dX6_hardest_152 : decode cX6_hardest 152 = .ok (.aload_n 0, 1) := by decide +kernel
theorem dX6_hardest_153 : decode cX6_hardest 153 = .ok (.iload_n 1, 1) := by decide +kernel
theorem dX6_hardest_154 : decode cX6_hardest 154 = .ok (.invokevirtual 190, 3) := by decide +kernel
theorem dX6_hardest_157 : decode cX6_hardest 157 = .ok (.invokestatic 124, 3) := by decide +kernel
theorem dX6_hardest_160 : decode cX6_hardest 160 = .ok (.i2l, 1) := by decide +kernel
theorem dX6_hardest_161 : decode cX6_hardest 161 = .ok (.invokevirtual 186, 3) := by decide +kernel
theorem dX6_hardest_164 : decode cX6_hardest 164 = .ok (.iload_n 3, 1) := by decide +kernel
theorem dX6_hardest_165 : decode cX6_hardest 165 = .ok (.ireturn, 1) := by decide +kernel
theorem dX6_margin_0 : decode cX6_margin 0 = .ok (.aload_n 0, 1) := by decide +kernel
theorem dX6_margin_1 : decode cX6_margin 1 = .ok (.iload_n 1, 1) := by decide +kernel
theorem dX6_margin_2 : decode cX6_margin 2 = .ok (.aload_n 0, 1) := by decide +kernel
theorem dX6_margin_3 : decode cX6_margin 3 = .ok (.getfield 10, 3) := by decide +kernel
theorem dX6_margin_6 : decode cX6_margin 6 = .ok (.getfield 65, 3) := by decide +kernel
theorem dX6_margin_9 : decode cX6_margin 9 = .ok (.ifCond .le 7, 3) := by decide +kernel
theorem dX6_margin_12 : decode cX6_margin 12 = .ok (.iconst 1, 1) := by decide +kernel
theorem dX6_margin_13 : decode cX6_margin 13 = .ok (.goto 4, 3) := by decide +kernel
theorem dX6_margin_16 : decode cX6_margin 16 = .ok (.iconst 0, 1) := by decide +kernel
theorem dX6_margin_17 : decode cX6_margin 17 = .ok (.invokevirtual 153, 3) := by decide +kernel
theorem dX6_margin_20 : decode cX6_margin 20 = .ok (.istore_n 2, 1) := by decide +kernel
theorem dX6_margin_21 : decode cX6_margin 21 = .ok (.iload_n 2, 1) := by decide +kernel
theorem dX6_margin_22 : decode cX6_margin 22 = .ok (.ifCond .ne 129, 3) := by decide +kernel
theorem dX6_margin_25 : decode cX6_margin 25 = .ok (.iconst 0, 1) := by decide +kernel
theorem dX6_margin_26 : decode cX6_margin 26 = .ok (.istore_n 3, 1) := by decide +kernel
theorem dX6_margin_27 : decode cX6_margin 27 = .ok (.iload_n 3, 1) := by decide +kernel
theorem dX6_margin_28 : decode cX6_margin 28 = .ok (.aload_n 0, 1) := by decide +kernel
theorem dX6_margin_29 : decode cX6_margin 29 = .ok (.getfield 21, 3) := by decide +kernel
theorem dX6_margin_32 : decode cX6_margin 32 = .ok (.getfield 195, 3) := by decide +kernel
theorem dX6_margin_35 : decode cX6_margin 35 = .ok (.iconst 1, 1) := by decide +kernel
theorem dX6_margin_36 : decode cX6_margin 36 = .ok (.isub, 1) := by decide +kernel
theorem dX6_margin_37 : decode cX6_margin 37 = .ok (.if_icmp .ge 34, 3) := by decide +kernel
theorem dX6_margin_40 : decode cX6_margin 40 = .ok (.aload_n 0, 1) := by decide +kernel
theorem dX6_margin_41 : decode cX6_margin 41 = .ok (.getfield 21, 3) := by decide +kernel
theorem dX6_margin_44 : decode cX6_margin 44 = .ok (.getfield 198, 3) := by decide +kernel
theorem dX6_margin_47 : decode cX6_margin 47 = .ok (.iload_n 3, 1) := by decide +kernel
theorem dX6_margin_48 : decode cX6_margin 48 = .ok (.laload, 1) := by decide +kernel
theorem dX6_margin_49 : decode cX6_margin 49 = .ok (.iload_n 1, 1) := by decide +kernel
theorem dX6_margin_50 : decode cX6_margin 50 = .ok (.i2l, 1) := by decide +kernel
theorem dX6_margin_51 : decode cX6_margin 51 = .ok (.aload_n 0, 1) := by decide +kernel
theorem dX6_margin_52 : decode cX6_margin 52 = .ok (.getfield 21, 3) := by decide +kernel
theorem dX6_margin_55 : decode cX6_margin 55 = .ok (.getfield 202, 3) := by decide +kernel
theorem dX6_margin_58 : decode cX6_margin 58 = .ok (.iload_n 3, 1) := by decide +kernel
theorem dX6_margin_59 : decode cX6_margin 59 = .ok (.laload, 1) := by decide +kernel
theorem dX6_margin_60 : decode cX6_margin 60 = .ok (.lmul, 1) := by decide +kernel
theorem dX6_margin_61 : decode cX6_margin 61 = .ok (.lcmp, 1) := by decide +kernel
theorem dX6_margin_62 : decode cX6_margin 62 = .ok (.ifCond .gt 9, 3) := by decide +kernel
theorem dX6_margin_65 : decode cX6_margin 65 = .ok (.iinc 3 1, 3) := by decide +kernel
theorem dX6_margin_68 : decode cX6_margin 68 = .ok (.goto (-41), 3) := by decide +kernel
theorem dX6_margin_71 : decode cX6_margin 71 = .ok (.aload_n 0, 1) := by decide +kernel
theorem dX6_margin_72 : decode cX6_margin 72 = .ok (.getfield 50, 3) := by decide +kernel
theorem dX6_margin_75 : decode cX6_margin 75 = .ok (.iconst 0, 1) := by decide +kernel
theorem dX6_margin_76 : decode cX6_margin 76 = .ok (.putfield 157, 3) := by decide +kernel
theorem dX6_margin_79 : decode cX6_margin 79 = .ok (.aload_n 0, 1) := by decide +kernel
theorem dX6_margin_80 : decode cX6_margin 80 = .ok (.getfield 50, 3) := by decide +kernel
theorem dX6_margin_83 : decode cX6_margin 83 = .ok (.aload_n 0, 1) := by decide +kernel
theorem dX6_margin_84 : decode cX6_margin 84 = .ok (.getfield 21, 3) := by decide +kernel
theorem dX6_margin_87 : decode cX6_margin 87 = .ok (.getfield 198, 3) := by decide +kernel
theorem dX6_margin_90 : decode cX6_margin 90 = .ok (.iload_n 3, 1) := by decide +kernel
theorem dX6_margin_91 : decode cX6_margin 91 = .ok (.laload, 1) := by decide +kernel
theorem dX6_margin_92 : decode cX6_margin 92 = .ok (.iload_n 1, 1) := by decide +kernel
theorem dX6_margin_93 : decode cX6_margin 93 = .ok (.i2l, 1) := by decide +kernel
theorem dX6_margin_94 : decode cX6_margin 94 = .ok (.aload_n 0, 1) := by decide +kernel
theorem dX6_margin_95 : decode cX6_margin 95 = .ok (.getfield 21, 3) := by decide +kernel
theorem dX6_margin_98 : decode cX6_margin 98 = .ok (.getfield 202, 3) := by decide +kernel
theorem dX6_margin_101 : decode cX6_margin 101 = .ok (.iload_n 3, 1) := by decide +kernel
theorem dX6_margin_102 : decode cX6_margin 102 = .ok (.laload, 1) := by decide +kernel
theorem dX6_margin_103 : decode cX6_margin 103 = .ok (.lmul, 1) := by decide +kernel
theorem dX6_margin_104 : decode cX6_margin 104 = .ok (.lsub, 1) := by decide +kernel
theorem dX6_margin_105 : decode cX6_margin 105 = .ok (.aload_n 0, 1) := by decide +kernel
theorem dX6_margin_106 : decode cX6_margin 106 = .ok (.getfield 21, 3) := by decide +kernel
theorem dX6_margin_109 : decode cX6_margin 109 = .ok (.getfield 202, 3) := by decide +kernel
theorem dX6_margin_112 : decode cX6_margin 112 = .ok (.iload_n 3, 1) := by decide +kernel
theorem dX6_margin_113 : decode cX6_margin 113 = .ok (.laload, 1) := by decide +kernel
theorem dX6_margin_114 : decode cX6_margin 114 = .ok (.invokevirtual 172, 3) := by decide +kernel
theorem dX6_margin_117 : decode cX6_margin 117 = .ok (.aload_n 0, 1) := by decide +kernel
theorem dX6_margin_118 : decode cX6_margin 118 = .ok (.getfield 50, 3) := by decide +kernel
theorem dX6_margin_121 : decode cX6_margin 121 = .ok (.aload_n 0, 1) := by decide +kernel
theorem dX6_margin_122 : decode cX6_margin 122 = .ok (.getfield 21, 3) := by decide +kernel
theorem dX6_margin_125 : decode cX6_margin 125 = .ok (.getfield 204, 3) := by decide +kernel
theorem dX6_margin_128 : decode cX6_margin 128 = .ok (.iload_n 3, 1) := by decide +kernel
theorem dX6_margin_129 : decode cX6_margin 129 = .ok (.iaload, 1) := by decide +kernel
theorem dX6_margin_130 : decode cX6_margin 130 = .ok (.i2l, 1) := by decide +kernel
theorem dX6_margin_131 : decode cX6_margin 131 = .ok (.invokevirtual 186, 3) := by decide +kernel
theorem dX6_margin_134 : decode cX6_margin 134 = .ok (.aload_n 0, 1) := by decide +kernel
theorem dX6_margin_135 : decode cX6_margin 135 = .ok (.getfield 50, 3) := by decide +kernel
theorem dX6_margin_138 : decode cX6_margin 138 = .ok (.aload_n 0, 1) := by decide +kernel
theorem dX6_margin_139 : decode cX6_margin 139 = .ok (.getfield 21, 3) := by decide +kernel
theorem dX6_margin_142 : decode cX6_margin 142 = .ok (.getfield 207, 3) := by decide +kernel
theorem dX6_margin_145 : decode cX6_margin 145 = .ok (.iload_n 3, 1) := by decide +kernel
theorem dX6_margin_146 : decode cX6_margin 146 = .ok (.iaload, 1) := by decide +kernel
theorem dX6_margin_147 : decode cX6_margin 147 = .ok (.i2l, 1) := by decide +kernel
theorem dX6_margin_148 : decode cX6_margin 148 = .ok (.invokevirtual 186, 3) := by decide +kernel
theorem dX6_margin_151 : decode cX6_margin 151 = .ok (.iload_n 2, 1) := by decide +kernel
theorem dX6_margin_152 : decode cX6_margin 152 = .ok (.ireturn, 1) := by decide +kernel
theorem dX6_work_0 : decode cX6_work 0 = .ok (.aload_n 0, 1) := by decide +kernel
theorem dX6_work_1 : decode cX6_work 1 = .ok (.iload_n 1, 1) := by decide +kernel
theorem dX6_work_2 : decode cX6_work 2 = .ok (.aload_n 0, 1) := by decide +kernel
theorem dX6_work_3 : decode cX6_work 3 = .ok (.getfield 10, 3) := by decide +kernel
theorem dX6_work_6 : decode cX6_work 6 = .ok (.getfield 65, 3) := by decide +kernel
theorem dX6_work_9 : decode cX6_work 9 = .ok (.ifCond .le 7, 3) := by decide +kernel
theorem dX6_work_12 : decode cX6_work 12 = .ok (.iconst 1, 1) := by decide +kernel
theorem dX6_work_13 : decode cX6_work 13 = .ok (.goto 4, 3) := by decide +kernel
theorem dX6_work_16 : decode cX6_work 16 = .ok (.iconst 0, 1) := by decide +kernel
theorem dX6_work_17 : decode cX6_work 17 = .ok (.invokevirtual 153, 3) := by decide +kernel
theorem dX6_work_20 : decode cX6_work 20 = .ok (.istore_n 2, 1) := by decide +kernel
theorem dX6_work_21 : decode cX6_work 21 = .ok (.iload_n 2, 1) := by decide +kernel
theorem dX6_work_22 : decode cX6_work 22 = .ok (.ifCond .ne 103, 3) := by decide +kernel
theorem dX6_work_25 : decode cX6_work 25 = .ok (.lconst 0, 1) := by decide +kernel
theorem dX6_work_26 : decode cX6_work 26 = .ok (.lstore_n 3, 1) := by decide +kernel
theorem dX6_work_27 : decode cX6_work 27 = .ok (.lconst 0, 1) := by decide +kernel
theorem dX6_work_28 : decode cX6_work 28 = .ok (.lstore 5, 2) := by decide +kernel
theorem dX6_work_30 : decode cX6_work 30 = .ok (.iconst 0, 1) := by decide +kernel
theorem dX6_work_31 : decode cX6_work 31 = .ok (.istore 7, 2) := by decide +kernel
theorem dX6_work_33 : decode cX6_work 33 = .ok (.iload 7, 2) := by decide +kernel
theorem dX6_work_35 : decode cX6_work 35 = .ok (.aload_n 0, 1) := by decide +kernel
theorem dX6_work_36 : decode cX6_work 36 = .ok (.getfield 10, 3) := by decide +kernel
theorem dX6_work_39 : decode cX6_work 39 = .ok (.getfield 65, 3) := by decide +kernel
theorem dX6_work_42 : decode cX6_work 42 = .ok (.if_icmp .ge 31, 3) := by decide +kernel
theorem dX6_work_45 : decode cX6_work 45 = .ok (.lload_n 3, 1) := by decide +kernel
theorem dX6_work_46 : decode cX6_work 46 = .ok (.aload_n 0, 1) := by decide +kernel
theorem dX6_work_47 : decode cX6_work 47 = .ok (.iload 7, 2) := by decide +kernel
theorem dX6_work_49 : decode cX6_work 49 = .ok (.iload_n 1, 1) := by decide +kernel
theorem dX6_work_50 : decode cX6_work 50 = .ok (.invokevirtual 210, 3) := by decide +kernel
theorem dX6_work_53 : decode cX6_work 53 = .ok (.ladd, 1) := by decide +kernel
theorem dX6_work_54 : decode cX6_work 54 = .ok (.lstore_n 3, 1) := by decide +kernel
theorem dX6_work_55 : decode cX6_work 55 = .ok (.lload 5, 2) := by decide +kernel
theorem dX6_work_57 : decode cX6_work 57 = .ok (.aload_n 0, 1) := by decide +kernel
theorem dX6_work_58 : decode cX6_work 58 = .ok (.iload 7, 2) := by decide +kernel
theorem dX6_work_60 : decode cX6_work 60 = .ok (.iload_n 1, 1) := by decide +kernel
theorem dX6_work_61 : decode cX6_work 61 = .ok (.invokevirtual 214, 3) := by decide +kernel
theorem dX6_work_64 : decode cX6_work 64 = .ok (.ladd, 1) := by decide +kernel
theorem dX6_work_65 : decode cX6_work 65 = .ok (.lstore 5, 2) := by decide +kernel
theorem dX6_work_67 : decode cX6_work 67 = .ok (.iinc 7 1, 3) := by decide +kernel
theorem dX6_work_70 : decode cX6_work 70 = .ok (.goto (-37), 3) := by decide +kernel
theorem dX6_work_73 : decode cX6_work 73 = .ok (.aload_n 0, 1) := by decide +kernel
theorem dX6_work_74 : decode cX6_work 74 = .ok (.getfield 21, 3) := by decide +kernel
theorem dX6_work_77 : decode cX6_work 77 = .ok (.getfield 158, 3) := by decide +kernel
theorem dX6_work_80 : decode cX6_work 80 = .ok (.getfield 168, 3) := by decide +kernel
theorem dX6_work_83 : decode cX6_work 83 = .ok (.aload_n 0, 1) := by decide +kernel
theorem dX6_work_84 : decode cX6_work 84 = .ok (.getfield 21, 3) := by decide +kernel
theorem dX6_work_87 : decode cX6_work 87 = .ok (.getfield 158, 3) := by decide +kernel
theorem dX6_work_90 : decode cX6_work 90 = .ok (.getfield 168, 3) := by decide +kernel
theorem dX6_work_93 : decode cX6_work 93 = .ok (.lmul, 1) := by decide +kernel
theorem dX6_work_94 : decode cX6_work 94 = .ok (.lstore 7, 2) := by decide +kernel
theorem dX6_work_96 : decode cX6_work 96 = .ok (.aload_n 0, 1) := by decide +kernel
theorem dX6_work_97 : decode cX6_work 97 = .ok (.getfield 50, 3) := by decide +kernel
theorem dX6_work_100 : decode cX6_work 100 = .ok (.iconst 0, 1) := by decide +kernel
theorem dX6_work_101 : decode cX6_work 101 = .ok (.putfield 157, 3) := by decide +kernel
theorem dX6_work_104 : decode cX6_work 104 = .ok (.aload_n 0, 1) := by decide +kernel
theorem dX6_work_105 : decode cX6_work 105 = .ok (.getfield 50, 3) := by decide +kernel
theorem dX6_work_108 : decode cX6_work 108 = .ok (.lload_n 3, 1) := by decide +kernel
theorem dX6_work_109 : decode cX6_work 109 = .ok (.lload 7, 2) := by decide +kernel
theorem dX6_work_111 : decode cX6_work 111 = .ok (.invokevirtual 172, 3) := by decide +kernel
theorem dX6_work_114 : decode cX6_work 114 = .ok (.aload_n 0, 1) := by decide +kernel
theorem dX6_work_115 : decode cX6_work 115 = .ok (.getfield 50, 3) := by decide +kernel
theorem dX6_work_118 : decode cX6_work 118 = .ok (.lload 5, 2) := by decide +kernel
theorem dX6_work_120 : decode cX6_work 120 = .ok (.lload 7, 2) := by decide +kernel
theorem dX6_work_122 : decode cX6_work 122 = .ok (.invokevirtual 172, 3) := by decide +kernel
theorem dX6_work_125 : decode cX6_work 125 = .ok (.iload_n 2, 1) := by decide +kernel
theorem dX6_work_126 : decode cX6_work 126 = .ok (.ireturn, 1) := by decide +kernel
theorem dX6_set_0 : decode cX6_set 0 = .ok (.aload_n 0, 1) := by decide +kernel
theorem dX6_set_1 : decode cX6_set 1 = .ok (.iload_n 1, 1) := by decide +kernel
theorem dX6_set_2 : decode cX6_set 2 = .ok (.aload_n 0, 1) := by decide +kernel
theorem dX6_set_3 : decode cX6_set 3 = .ok (.getfield 10, 3) := by decide +kernel
theorem dX6_set_6 : decode cX6_set 6 = .ok (.iload_n 2, 1) := by decide +kernel
theorem dX6_set_7 : decode cX6_set 7 = .ok (.invokevirtual 94, 3) := by decide +kernel
theorem dX6_set_10 : decode cX6_set 10 = .ok (.invokevirtual 153, 3) := by decide +kernel
theorem dX6_set_13 : decode cX6_set 13 = .ok (.istore_n 3, 1) := by decide +kernel
theorem dX6_set_14 : decode cX6_set 14 = .ok (.iload_n 3, 1) := by decide +kernel
theorem dX6_set_15 : decode cX6_set 15 = .ok (.ifCond .ge 5, 3) := by decide +kernel
theorem dX6_set_18 : decode cX6_set 18 = .ok (.iload_n 3, 1) := by decide +kernel
theorem dX6_set_19 : decode cX6_set 19 = .ok (.ireturn, 1) := by decide +kernel
theorem dX6_set_20 : decode cX6_set 20 = .ok (.aload_n 0, 1) := by decide +kernel
theorem dX6_set_21 : decode cX6_set 21 = .ok (.getfield 21, 3) := by decide +kernel
theorem dX6_set_24 : decode cX6_set 24 = .ok (.iload_n 1, 1) := by decide +kernel
theorem dX6_set_25 : decode cX6_set 25 = .ok (.invokevirtual 183, 3) := by decide +kernel
theorem dX6_set_28 : decode cX6_set 28 = .ok (.istore 4, 2) := by decide +kernel
theorem dX6_set_30 : decode cX6_set 30 = .ok (.iload 4, 2) := by decide +kernel
theorem dX6_set_32 : decode cX6_set 32 = .ok (.iload_n 2, 1) := by decide +kernel
theorem dX6_set_33 : decode cX6_set 33 = .ok (.ishr, 1) := by decide +kernel
theorem dX6_set_34 : decode cX6_set 34 = .ok (.iconst 1, 1) := by decide +kernel
theorem dX6_set_35 : decode cX6_set 35 = .ok (.iand, 1) := by decide +kernel
theorem dX6_set_36 : decode cX6_set 36 = .ok (.ifCond .ne 6, 3) := by decide +kernel
theorem dX6_set_39 : decode cX6_set 39 = .ok (.bipush (-3), 2) := by decide +kernel
theorem dX6_set_41 : decode cX6_set 41 = .ok (.ireturn, 1) := by decide +kernel
theorem dX6_set_42 : decode cX6_set 42 = .ok (.aload_n 0, 1) := by decide +kernel
theorem dX6_set_43 : decode cX6_set 43 = .ok (.getfield 30, 3) := by decide +kernel
theorem dX6_set_46 : decode cX6_set 46 = .ok (.iload 4, 2) := by decide +kernel
theorem dX6_set_48 : decode cX6_set 48 = .ok (.iload_n 1, 1) := by decide +kernel
theorem dX6_set_49 : decode cX6_set 49 = .ok (.invokevirtual 217, 3) := by decide +kernel
theorem dX6_set_52 : decode cX6_set 52 = .ok (.aload_n 0, 1) := by decide +kernel
theorem dX6_set_53 : decode cX6_set 53 = .ok (.getfield 50, 3) := by decide +kernel
theorem dX6_set_56 : decode cX6_set 56 = .ok (.iconst 0, 1) := by decide +kernel
theorem dX6_set_57 : decode cX6_set 57 = .ok (.putfield 157, 3) := by decide +kernel
theorem dX6_set_60 : decode cX6_set 60 = .ok (.aload_n 0, 1) := by decide +kernel
theorem dX6_set_61 : decode cX6_set 61 = .ok (.getfield 50, 3) := by decide +kernel
theorem dX6_set_64 : decode cX6_set 64 = .ok (.aload_n 0, 1) := by decide +kernel
theorem dX6_set_65 : decode cX6_set 65 = .ok (.getfield 30, 3) := by decide +kernel
theorem dX6_set_68 : decode cX6_set 68 = .ok (.getfield 221, 3) := by decide +kernel
theorem dX6_set_71 : decode cX6_set 71 = .ok (.iload_n 2, 1) := by decide +kernel
theorem dX6_set_72 : decode cX6_set 72 = .ok (.laload, 1) := by decide +kernel
theorem dX6_set_73 : decode cX6_set 73 = .ok (.aload_n 0, 1) := by decide +kernel
theorem dX6_set_74 : decode cX6_set 74 = .ok (.getfield 30, 3) := by decide +kernel
theorem dX6_set_77 : decode cX6_set 77 = .ok (.getfield 224, 3) := by decide +kernel
theorem dX6_set_80 : decode cX6_set 80 = .ok (.invokevirtual 172, 3) := by decide +kernel
theorem dX6_set_83 : decode cX6_set 83 = .ok (.iconst 0, 1) := by decide +kernel
theorem dX6_set_84 : decode cX6_set 84 = .ok (.ireturn, 1) := by decide +kernel
theorem dX6_falls_0 : decode cX6_falls 0 = .ok (.aload_n 0, 1) := by decide +kernel
theorem dX6_falls_1 : decode cX6_falls 1 = .ok (.iload_n 1, 1) := by decide +kernel
theorem dX6_falls_2 : decode cX6_falls 2 = .ok (.iload_n 2, 1) := by decide +kernel
theorem dX6_falls_3 : decode cX6_falls 3 = .ok (.iconst 0, 1) := by decide +kernel
theorem dX6_falls_4 : decode cX6_falls 4 = .ok (.iload_n 1, 1) := by decide +kernel
theorem dX6_falls_5 : decode cX6_falls 5 = .ok (.invokestatic 77, 3) := by decide +kernel
theorem dX6_falls_8 : decode cX6_falls 8 = .ok (.ifCond .eq 18, 3) := by decide +kernel
theorem dX6_falls_11 : decode cX6_falls 11 = .ok (.aload_n 0, 1) := by decide +kernel
theorem dX6_falls_12 : decode cX6_falls 12 = .ok (.getfield 10, 3) := by decide +kernel
theorem dX6_falls_15 : decode cX6_falls 15 = .ok (.iload_n 3, 1) := by decide +kernel
theorem dX6_falls_16 : decode cX6_falls 16 = .ok (.invokevirtual 94, 3) := by decide +kernel
theorem dX6_falls_19 : decode cX6_falls 19 = .ok (.ifCond .eq 7, 3) := by decide +kernel
theorem dX6_falls_22 : decode cX6_falls 22 = .ok (.iconst 1, 1) := by decide +kernel
theorem dX6_falls_23 : decode cX6_falls 23 = .ok (.goto 4, 3) := by decide +kernel
theorem dX6_falls_26 : decode cX6_falls 26 = .ok (.iconst 0, 1) := by decide +kernel
theorem dX6_falls_27 : decode cX6_falls 27 = .ok (.invokevirtual 153, 3) := by decide +kernel
theorem dX6_falls_30 : decode cX6_falls 30 = .ok (.istore 4, 2) := by decide +kernel
theorem dX6_falls_32 : decode cX6_falls 32 = .ok (.iload 4, 2) := by decide +kernel
theorem dX6_falls_34 : decode cX6_falls 34 = .ok (.ifCond .ne 117, 3) := by decide +kernel
theorem dX6_falls_37 : decode cX6_falls 37 = .ok (.aload_n 0, 1) := by decide +kernel
theorem dX6_falls_38 : decode cX6_falls 38 = .ok (.getfield 30, 3) := by decide +kernel
theorem dX6_falls_41 : decode cX6_falls 41 = .ok (.aload_n 0, 1) := by decide +kernel
theorem dX6_falls_42 : decode cX6_falls 42 = .ok (.getfield 21, 3) := by decide +kernel
theorem dX6_falls_45 : decode cX6_falls 45 = .ok (.iload_n 1, 1) := by decide +kernel
theorem dX6_falls_46 : decode cX6_falls 46 = .ok (.invokevirtual 183, 3) := by decide +kernel
theorem dX6_falls_49 : decode cX6_falls 49 = .ok (.iload_n 1, 1) := by decide +kernel
theorem dX6_falls_50 : decode cX6_falls 50 = .ok (.invokevirtual 217, 3) := by decide +kernel
theorem dX6_falls_53 : decode cX6_falls 53 = .ok (.aload_n 0, 1) := by decide +kernel
theorem dX6_falls_54 : decode cX6_falls 54 = .ok (.getfield 30, 3) := by decide +kernel
theorem dX6_falls_57 : decode cX6_falls 57 = .ok (.iload_n 2, 1) := by decide +kernel
theorem dX6_falls_58 : decode cX6_falls 58 = .ok (.invokevirtual 227, 3) := by decide +kernel
theorem dX6_falls_61 : decode cX6_falls 61 = .ok (.aload_n 0, 1) := by decide +kernel
theorem dX6_falls_62 : decode cX6_falls 62 = .ok (.getfield 21, 3) := by decide +kernel
theorem dX6_falls_65 : decode cX6_falls 65 = .ok (.getfield 158, 3) := by decide +kernel
theorem dX6_falls_68 : decode cX6_falls 68 = .ok (.getfield 168, 3) := by decide +kernel
theorem dX6_falls_71 : decode cX6_falls 71 = .ok (.aload_n 0, 1) := by decide +kernel
theorem dX6_falls_72 : decode cX6_falls 72 = .ok (.getfield 30, 3) := by decide +kernel
theorem dX6_falls_75 : decode cX6_falls 75 = .ok (.getfield 224, 3) := by decide +kernel
theorem dX6_falls_78 : decode cX6_falls 78 = .ok (.lmul, 1) := by decide +kernel
theorem dX6_falls_79 : decode cX6_falls 79 = .ok (.lstore 5, 2) := by decide +kernel
theorem dX6_falls_81 : decode cX6_falls 81 = .ok (.aload_n 0, 1) := by decide +kernel
theorem dX6_falls_82 : decode cX6_falls 82 = .ok (.getfield 50, 3) := by decide +kernel
theorem dX6_falls_85 : decode cX6_falls 85 = .ok (.iconst 0, 1) := by decide +kernel
theorem dX6_falls_86 : decode cX6_falls 86 = .ok (.putfield 157, 3) := by decide +kernel
theorem dX6_falls_89 : decode cX6_falls 89 = .ok (.aload_n 0, 1) := by decide +kernel
theorem dX6_falls_90 : decode cX6_falls 90 = .ok (.getfield 50, 3) := by decide +kernel
theorem dX6_falls_93 : decode cX6_falls 93 = .ok (.aload_n 0, 1) := by decide +kernel
theorem dX6_falls_94 : decode cX6_falls 94 = .ok (.getfield 21, 3) := by decide +kernel
theorem dX6_falls_97 : decode cX6_falls 97 = .ok (.getfield 158, 3) := by decide +kernel
theorem dX6_falls_100 : decode cX6_falls 100 = .ok (.iload_n 3, 1) := by decide +kernel
theorem dX6_falls_101 : decode cX6_falls 101 = .ok (.iload_n 2, 1) := by decide +kernel
theorem dX6_falls_102 : decode cX6_falls 102 = .ok (.i2l, 1) := by decide +kernel
theorem dX6_falls_103 : decode cX6_falls 103 = .ok (.aload_n 0, 1) := by decide +kernel
theorem dX6_falls_104 : decode cX6_falls 104 = .ok (.getfield 30, 3) := by decide +kernel
theorem dX6_falls_107 : decode cX6_falls 107 = .ok (.getfield 224, 3) := by decide +kernel
theorem dX6_falls_110 : decode cX6_falls 110 = .ok (.lmul, 1) := by decide +kernel
theorem dX6_falls_111 : decode cX6_falls 111 = .ok (.lconst 1, 1) := by decide +kernel
theorem dX6_falls_112 : decode cX6_falls 112 = .ok (.invokevirtual 162, 3) := by decide +kernel
theorem dX6_falls_115 : decode cX6_falls 115 = .ok (.lload 5, 2) := by decide +kernel
theorem dX6_falls_117 : decode cX6_falls 117 = .ok (.invokevirtual 172, 3) := by decide +kernel
theorem dX6_falls_120 : decode cX6_falls 120 = .ok (.aload_n 0, 1) := by decide +kernel
theorem dX6_falls_121 : decode cX6_falls 121 = .ok (.getfield 50, 3) := by decide +kernel
theorem dX6_falls_124 : decode cX6_falls 124 = .ok (.aload_n 0, 1) := by decide +kernel
theorem dX6_falls_125 : decode cX6_falls 125 = .ok (.getfield 21, 3) := by decide +kernel
theorem dX6_falls_128 : decode cX6_falls 128 = .ok (.getfield 158, 3) := by decide +kernel
theorem dX6_falls_131 : decode cX6_falls 131 = .ok (.iload_n 3, 1) := by decide +kernel
theorem dX6_falls_132 : decode cX6_falls 132 = .ok (.iload_n 2, 1) := by decide +kernel
theorem dX6_falls_133 : decode cX6_falls 133 = .ok (.i2l, 1) := by decide +kernel
theorem dX6_falls_134 : decode cX6_falls 134 = .ok (.aload_n 0, 1) := by decide +kernel
theorem dX6_falls_135 : decode cX6_falls 135 = .ok (.getfield 30, 3) := by decide +kernel
theorem dX6_falls_138 : decode cX6_falls 138 = .ok (.getfield 224, 3) := by decide +kernel
theorem dX6_falls_141 : decode cX6_falls 141 = .ok (.lmul, 1) := by decide +kernel
theorem dX6_falls_142 : decode cX6_falls 142 = .ok (.lconst 1, 1) := by decide +kernel
theorem dX6_falls_143 : decode cX6_falls 143 = .ok (.invokevirtual 176, 3) := by decide +kernel
theorem dX6_falls_146 : decode cX6_falls 146 = .ok (.lload 5, 2) := by decide +kernel
theorem dX6_falls_148 : decode cX6_falls 148 = .ok (.invokevirtual 172, 3) := by decide +kernel
theorem dX6_falls_151 : decode cX6_falls 151 = .ok (.iload 4, 2) := by decide +kernel
theorem dX6_falls_153 : decode cX6_falls 153 = .ok (.ireturn, 1) := by decide +kernel
theorem dX6_opens_0 : decode cX6_opens 0 = .ok (.aload_n 0, 1) := by decide +kernel
theorem dX6_opens_1 : decode cX6_opens 1 = .ok (.iload_n 1, 1) := by decide +kernel
theorem dX6_opens_2 : decode cX6_opens 2 = .ok (.aload_n 0, 1) := by decide +kernel
theorem dX6_opens_3 : decode cX6_opens 3 = .ok (.getfield 10, 3) := by decide +kernel
theorem dX6_opens_6 : decode cX6_opens 6 = .ok (.getfield 65, 3) := by decide +kernel
theorem dX6_opens_9 : decode cX6_opens 9 = .ok (.ifCond .le 7, 3) := by decide +kernel
theorem dX6_opens_12 : decode cX6_opens 12 = .ok (.iconst 1, 1) := by decide +kernel
theorem dX6_opens_13 : decode cX6_opens 13 = .ok (.goto 4, 3) := by decide +kernel
theorem dX6_opens_16 : decode cX6_opens 16 = .ok (.iconst 0, 1) := by decide +kernel
theorem dX6_opens_17 : decode cX6_opens 17 = .ok (.invokevirtual 153, 3) := by decide +kernel
theorem dX6_opens_20 : decode cX6_opens 20 = .ok (.istore_n 2, 1) := by decide +kernel
theorem dX6_opens_21 : decode cX6_opens 21 = .ok (.iload_n 2, 1) := by decide +kernel
theorem dX6_opens_22 : decode cX6_opens 22 = .ok (.ifCond .ge 5, 3) := by decide +kernel
theorem dX6_opens_25 : decode cX6_opens 25 = .ok (.iload_n 2, 1) := by decide +kernel
theorem dX6_opens_26 : decode cX6_opens 26 = .ok (.ireturn, 1) := by decide +kernel
theorem dX6_opens_27 : decode cX6_opens 27 = .ok (.aload_n 0, 1) := by decide +kernel
theorem dX6_opens_28 : decode cX6_opens 28 = .ok (.getfield 30, 3) := by decide +kernel
theorem dX6_opens_31 : decode cX6_opens 31 = .ok (.aload_n 0, 1) := by decide +kernel
theorem dX6_opens_32 : decode cX6_opens 32 = .ok (.getfield 21, 3) := by decide +kernel
theorem dX6_opens_35 : decode cX6_opens 35 = .ok (.iload_n 1, 1) := by decide +kernel
theorem dX6_opens_36 : decode cX6_opens 36 = .ok (.invokevirtual 183, 3) := by decide +kernel
theorem dX6_opens_39 : decode cX6_opens 39 = .ok (.iload_n 1, 1) := by decide +kernel
theorem dX6_opens_40 : decode cX6_opens 40 = .ok (.invokevirtual 217, 3) := by decide +kernel
theorem dX6_opens_43 : decode cX6_opens 43 = .ok (.aload_n 0, 1) := by decide +kernel
theorem dX6_opens_44 : decode cX6_opens 44 = .ok (.getfield 30, 3) := by decide +kernel
theorem dX6_opens_47 : decode cX6_opens 47 = .ok (.aload_n 0, 1) := by decide +kernel
theorem dX6_opens_48 : decode cX6_opens 48 = .ok (.iload_n 1, 1) := by decide +kernel
theorem dX6_opens_49 : decode cX6_opens 49 = .ok (.invokevirtual 190, 3) := by decide +kernel
theorem dX6_opens_52 : decode cX6_opens 52 = .ok (.iload_n 1, 1) := by decide +kernel
theorem dX6_opens_53 : decode cX6_opens 53 = .ok (.invokevirtual 231, 3) := by decide +kernel
theorem dX6_opens_56 : decode cX6_opens 56 = .ok (.istore_n 3, 1) := by decide +kernel
theorem dX6_opens_57 : decode cX6_opens 57 = .ok (.iload_n 3, 1) := by decide +kernel
theorem dX6_opens_58 : decode cX6_opens 58 = .ok (.ifCond .ge 6, 3) := by decide +kernel
theorem dX6_opens_61 : decode cX6_opens 61 = .ok (.bipush (-3), 2) := by decide +kernel
theorem dX6_opens_63 : decode cX6_opens 63 = .ok (.ireturn, 1) := by decide +kernel
theorem dX6_opens_64 : decode cX6_opens 64 = .ok (.aload_n 0, 1) := by decide +kernel
theorem dX6_opens_65 : decode cX6_opens 65 = .ok (.getfield 50, 3) := by decide +kernel
theorem dX6_opens_68 : decode cX6_opens 68 = .ok (.iconst 0, 1) := by decide +kernel
theorem dX6_opens_69 : decode cX6_opens 69 = .ok (.putfield 157, 3) := by decide +kernel
theorem dX6_opens_72 : decode cX6_opens 72 = .ok (.aload_n 0, 1) := by decide +kernel
theorem dX6_opens_73 : decode cX6_opens 73 = .ok (.getfield 50, 3) := by decide +kernel
theorem dX6_opens_76 : decode cX6_opens 76 = .ok (.aload_n 0, 1) := by decide +kernel
theorem dX6_opens_77 : decode cX6_opens 77 = .ok (.getfield 30, 3) := by decide +kernel
theorem dX6_opens_80 : decode cX6_opens 80 = .ok (.getfield 235, 3) := by decide +kernel
theorem dX6_opens_83 : decode cX6_opens 83 = .ok (.aload_n 0, 1) := by decide +kernel
theorem dX6_opens_84 : decode cX6_opens 84 = .ok (.getfield 30, 3) := by decide +kernel
theorem dX6_opens_87 : decode cX6_opens 87 = .ok (.getfield 238, 3) := by decide +kernel
theorem dX6_opens_90 : decode cX6_opens 90 = .ok (.invokevirtual 172, 3) := by decide +kernel
theorem dX6_opens_93 : decode cX6_opens 93 = .ok (.iload_n 3, 1) := by decide +kernel
theorem dX6_opens_94 : decode cX6_opens 94 = .ok (.ireturn, 1) := by decide +kernel
theorem dX6_events_0 : decode cX6_events 0 = .ok (.aload_n 0, 1) := by decide +kernel
theorem dX6_events_1 : decode cX6_events 1 = .ok (.getfield 21, 3) := by decide +kernel
theorem dX6_events_4 : decode cX6_events 4 = .ok (.invokevirtual 241, 3) := by decide +kernel
theorem dX6_events_7 : decode cX6_events 7 = .ok (.aload_n 0, 1) := by decide +kernel
theorem dX6_events_8 : decode cX6_events 8 = .ok (.getfield 50, 3) := by decide +kernel
theorem dX6_events_11 : decode cX6_events 11 = .ok (.iconst 0, 1) := by decide +kernel
theorem dX6_events_12 : decode cX6_events 12 = .ok (.putfield 157, 3) := by decide +kernel
theorem dX6_events_15 : decode cX6_events 15 = .ok (.iconst 0, 1) := by decide +kernel
theorem dX6_events_16 : decode cX6_events 16 = .ok (.istore_n 1, 1) := by decide +kernel
theorem dX6_events_17 : decode cX6_events 17 = .ok (.iload_n 1, 1) := by decide +kernel
theorem dX6_events_18 : decode cX6_events 18 = .ok (.iconst 3, 1) := by decide +kernel
theorem dX6_events_19 : decode cX6_events 19 = .ok (.if_icmp .ge 25, 3) := by decide +kernel
theorem dX6_events_22 : decode cX6_events 22 = .ok (.aload_n 0, 1) := by decide +kernel
theorem dX6_events_23 : decode cX6_events 23 = .ok (.getfield 50, 3) := by decide +kernel
theorem dX6_events_26 : decode cX6_events 26 = .ok (.aload_n 0, 1) := by decide +kernel
theorem dX6_events_27 : decode cX6_events 27 = .ok (.getfield 21, 3) := by decide +kernel
theorem dX6_events_30 : decode cX6_events 30 = .ok (.iload_n 1, 1) := by decide +kernel
theorem dX6_events_31 : decode cX6_events 31 = .ok (.invokevirtual 244, 3) := by decide +kernel
theorem dX6_events_34 : decode cX6_events 34 = .ok (.i2l, 1) := by decide +kernel
theorem dX6_events_35 : decode cX6_events 35 = .ok (.invokevirtual 186, 3) := by decide +kernel
theorem dX6_events_38 : decode cX6_events 38 = .ok (.iinc 1 1, 3) := by decide +kernel
theorem dX6_events_41 : decode cX6_events 41 = .ok (.goto (-24), 3) := by decide +kernel
theorem dX6_events_44 : decode cX6_events 44 = .ok (.aload_n 0, 1) := by decide +kernel
theorem dX6_events_45 : decode cX6_events 45 = .ok (.getfield 21, 3) := by decide +kernel
theorem dX6_events_48 : decode cX6_events 48 = .ok (.getfield 195, 3) := by decide +kernel
theorem dX6_events_51 : decode cX6_events 51 = .ok (.ireturn, 1) := by decide +kernel
theorem dX6_event_0 : decode cX6_event 0 = .ok (.aload_n 0, 1) := by decide +kernel
theorem dX6_event_1 : decode cX6_event 1 = .ok (.getfield 21, 3) := by decide +kernel
theorem dX6_event_4 : decode cX6_event 4 = .ok (.invokevirtual 241, 3) := by decide +kernel
theorem dX6_event_7 : decode cX6_event 7 = .ok (.iload_n 1, 1) := by decide +kernel
theorem dX6_event_8 : decode cX6_event 8 = .ok (.ifCond .lt 14, 3) := by decide +kernel
theorem dX6_event_11 : decode cX6_event 11 = .ok (.iload_n 1, 1) := by decide +kernel
theorem dX6_event_12 : decode cX6_event 12 = .ok (.aload_n 0, 1) := by decide +kernel
theorem dX6_event_13 : decode cX6_event 13 = .ok (.getfield 21, 3) := by decide +kernel
theorem dX6_event_16 : decode cX6_event 16 = .ok (.getfield 195, 3) := by decide +kernel
theorem dX6_event_19 : decode cX6_event 19 = .ok (.if_icmp .lt 5, 3) := by decide +kernel
theorem dX6_event_22 : decode cX6_event 22 = .ok (.iconst (-1), 1) := by decide +kernel
theorem dX6_event_23 : decode cX6_event 23 = .ok (.ireturn, 1) := by decide +kernel
theorem dX6_event_24 : decode cX6_event 24 = .ok (.aload_n 0, 1) := by decide +kernel
theorem dX6_event_25 : decode cX6_event 25 = .ok (.getfield 50, 3) := by decide +kernel
theorem dX6_event_28 : decode cX6_event 28 = .ok (.iconst 0, 1) := by decide +kernel
theorem dX6_event_29 : decode cX6_event 29 = .ok (.putfield 157, 3) := by decide +kernel
theorem dX6_event_32 : decode cX6_event 32 = .ok (.aload_n 0, 1) := by decide +kernel
theorem dX6_event_33 : decode cX6_event 33 = .ok (.getfield 50, 3) := by decide +kernel
theorem dX6_event_36 : decode cX6_event 36 = .ok (.aload_n 0, 1) := by decide +kernel
theorem dX6_event_37 : decode cX6_event 37 = .ok (.getfield 21, 3) := by decide +kernel
theorem dX6_event_40 : decode cX6_event 40 = .ok (.getfield 207, 3) := by decide +kernel
theorem dX6_event_43 : decode cX6_event 43 = .ok (.iload_n 1, 1) := by decide +kernel
theorem dX6_event_44 : decode cX6_event 44 = .ok (.iaload, 1) := by decide +kernel
theorem dX6_event_45 : decode cX6_event 45 = .ok (.i2l, 1) := by decide +kernel
theorem dX6_event_46 : decode cX6_event 46 = .ok (.invokevirtual 186, 3) := by decide +kernel
theorem dX6_event_49 : decode cX6_event 49 = .ok (.aload_n 0, 1) := by decide +kernel
theorem dX6_event_50 : decode cX6_event 50 = .ok (.getfield 50, 3) := by decide +kernel
theorem dX6_event_53 : decode cX6_event 53 = .ok (.aload_n 0, 1) := by decide +kernel
theorem dX6_event_54 : decode cX6_event 54 = .ok (.getfield 21, 3) := by decide +kernel
theorem dX6_event_57 : decode cX6_event 57 = .ok (.getfield 198, 3) := by decide +kernel
theorem dX6_event_60 : decode cX6_event 60 = .ok (.iload_n 1, 1) := by decide +kernel
theorem dX6_event_61 : decode cX6_event 61 = .ok (.laload, 1) := by decide +kernel
theorem dX6_event_62 : decode cX6_event 62 = .ok (.aload_n 0, 1) := by decide +kernel
theorem dX6_event_63 : decode cX6_event 63 = .ok (.getfield 21, 3) := by decide +kernel
theorem dX6_event_66 : decode cX6_event 66 = .ok (.getfield 202, 3) := by decide +kernel
theorem dX6_event_69 : decode cX6_event 69 = .ok (.iload_n 1, 1) := by decide +kernel
theorem dX6_event_70 : decode cX6_event 70 = .ok (.laload, 1) := by decide +kernel
theorem dX6_event_71 : decode cX6_event 71 = .ok (.invokevirtual 172, 3) := by decide +kernel
theorem dX6_event_74 : decode cX6_event 74 = .ok (.aload_n 0, 1) := by decide +kernel
theorem dX6_event_75 : decode cX6_event 75 = .ok (.getfield 21, 3) := by decide +kernel
theorem dX6_event_78 : decode cX6_event 78 = .ok (.getfield 204, 3) := by decide +kernel
theorem dX6_event_81 : decode cX6_event 81 = .ok (.iload_n 1, 1) := by decide +kernel
theorem dX6_event_82 : decode cX6_event 82 = .ok (.iaload, 1) := by decide +kernel
theorem dX6_event_83 : decode cX6_event 83 = .ok (.ireturn, 1) := by decide +kernel
theorem dX6_peak_0 : decode cX6_peak 0 = .ok (.aload_n 0, 1) := by decide +kernel
theorem dX6_peak_1 : decode cX6_peak 1 = .ok (.getfield 21, 3) := by decide +kernel
theorem dX6_peak_4 : decode cX6_peak 4 = .ok (.invokevirtual 241, 3) := by decide +kernel
theorem dX6_peak_7 : decode cX6_peak 7 = .ok (.iconst 0, 1) := by decide +kernel
theorem dX6_peak_8 : decode cX6_peak 8 = .ok (.istore_n 1, 1) := by decide +kernel
theorem dX6_peak_9 : decode cX6_peak 9 = .ok (.iconst 0, 1) := by decide +kernel
theorem dX6_peak_10 : decode cX6_peak 10 = .ok (.istore_n 2, 1) := by decide +kernel
theorem dX6_peak_11 : decode cX6_peak 11 = .ok (.iload_n 2, 1) := by decide +kernel
theorem dX6_peak_12 : decode cX6_peak 12 = .ok (.aload_n 0, 1) := by decide +kernel
theorem dX6_peak_13 : decode cX6_peak 13 = .ok (.getfield 21, 3) := by decide +kernel
theorem dX6_peak_16 : decode cX6_peak 16 = .ok (.getfield 195, 3) := by decide +kernel
theorem dX6_peak_19 : decode cX6_peak 19 = .ok (.if_icmp .ge 63, 3) := by decide +kernel
theorem dX6_peak_22 : decode cX6_peak 22 = .ok (.aload_n 0, 1) := by decide +kernel
theorem dX6_peak_23 : decode cX6_peak 23 = .ok (.getfield 21, 3) := by decide +kernel
theorem dX6_peak_26 : decode cX6_peak 26 = .ok (.getfield 204, 3) := by decide +kernel
theorem dX6_peak_29 : decode cX6_peak 29 = .ok (.iload_n 2, 1) := by decide +kernel
theorem dX6_peak_30 : decode cX6_peak 30 = .ok (.iaload, 1) := by decide +kernel
theorem dX6_peak_31 : decode cX6_peak 31 = .ok (.iconst 2, 1) := by decide +kernel
theorem dX6_peak_32 : decode cX6_peak 32 = .ok (.if_icmp .ne 44, 3) := by decide +kernel
theorem dX6_peak_35 : decode cX6_peak 35 = .ok (.aload_n 0, 1) := by decide +kernel
theorem dX6_peak_36 : decode cX6_peak 36 = .ok (.getfield 21, 3) := by decide +kernel
theorem dX6_peak_39 : decode cX6_peak 39 = .ok (.getfield 198, 3) := by decide +kernel
theorem dX6_peak_42 : decode cX6_peak 42 = .ok (.iload_n 2, 1) := by decide +kernel
theorem dX6_peak_43 : decode cX6_peak 43 = .ok (.laload, 1) := by decide +kernel
theorem dX6_peak_44 : decode cX6_peak 44 = .ok (.aload_n 0, 1) := by decide +kernel
theorem dX6_peak_45 : decode cX6_peak 45 = .ok (.getfield 21, 3) := by decide +kernel
theorem dX6_peak_48 : decode cX6_peak 48 = .ok (.getfield 247, 3) := by decide +kernel
theorem dX6_peak_51 : decode cX6_peak 51 = .ok (.lmul, 1) := by decide +kernel
theorem dX6_peak_52 : decode cX6_peak 52 = .ok (.aload_n 0, 1) := by decide +kernel
theorem dX6_peak_53 : decode cX6_peak 53 = .ok (.getfield 21, 3) := by decide +kernel
theorem dX6_peak_56 : decode cX6_peak 56 = .ok (.getfield 250, 3) := by decide +kernel
theorem dX6_peak_59 : decode cX6_peak 59 = .ok (.aload_n 0, 1) := by decide +kernel
theorem dX6_peak_60 : decode cX6_peak 60 = .ok (.getfield 21, 3) := by decide +kernel
theorem dX6_peak_63 : decode cX6_peak 63 = .ok (.getfield 202, 3) := by decide +kernel
theorem dX6_peak_66 : decode cX6_peak 66 = .ok (.iload_n 2, 1) := by decide +kernel
theorem dX6_peak_67 : decode cX6_peak 67 = .ok (.laload, 1) := by decide +kernel
theorem dX6_peak_68 : decode cX6_peak 68 = .ok (.lmul, 1) := by decide +kernel
theorem dX6_peak_69 : decode cX6_peak 69 = .ok (.lcmp, 1) := by decide +kernel
theorem dX6_peak_70 : decode cX6_peak 70 = .ok (.ifCond .ne 6, 3) := by decide +kernel
theorem dX6_peak_73 : decode cX6_peak 73 = .ok (.iinc 1 1, 3) := by decide +kernel
theorem dX6_peak_76 : decode cX6_peak 76 = .ok (.iinc 2 1, 3) := by decide +kernel
theorem dX6_peak_79 : decode cX6_peak 79 = .ok (.goto (-68), 3) := by decide +kernel
theorem dX6_peak_82 : decode cX6_peak 82 = .ok (.aload_n 0, 1) := by decide +kernel
theorem dX6_peak_83 : decode cX6_peak 83 = .ok (.getfield 50, 3) := by decide +kernel
theorem dX6_peak_86 : decode cX6_peak 86 = .ok (.iconst 0, 1) := by decide +kernel
theorem dX6_peak_87 : decode cX6_peak 87 = .ok (.putfield 157, 3) := by decide +kernel
theorem dX6_peak_90 : decode cX6_peak 90 = .ok (.aload_n 0, 1) := by decide +kernel
theorem dX6_peak_91 : decode cX6_peak 91 = .ok (.getfield 50, 3) := by decide +kernel
theorem dX6_peak_94 : decode cX6_peak 94 = .ok (.aload_n 0, 1) := by decide +kernel
theorem dX6_peak_95 : decode cX6_peak 95 = .ok (.getfield 21, 3) := by decide +kernel
theorem dX6_peak_98 : decode cX6_peak 98 = .ok (.getfield 250, 3) := by decide +kernel
theorem dX6_peak_101 : decode cX6_peak 101 = .ok (.aload_n 0, 1) := by decide +kernel
theorem dX6_peak_102 : decode cX6_peak 102 = .ok (.getfield 21, 3) := by decide +kernel
theorem dX6_peak_105 : decode cX6_peak 105 = .ok (.getfield 247, 3) := by decide +kernel
theorem dX6_peak_108 : decode cX6_peak 108 = .ok (.invokevirtual 172, 3) := by decide +kernel
theorem dX6_peak_111 : decode cX6_peak 111 = .ok (.iload_n 1, 1) := by decide +kernel
theorem dX6_peak_112 : decode cX6_peak 112 = .ok (.ireturn, 1) := by decide +kernel
theorem dX6_order_0 : decode cX6_order 0 = .ok (.aload_n 0, 1) := by decide +kernel
theorem dX6_order_1 : decode cX6_order 1 = .ok (.getfield 21, 3) := by decide +kernel
theorem dX6_order_4 : decode cX6_order 4 = .ok (.invokevirtual 241, 3) := by decide +kernel
theorem dX6_order_7 : decode cX6_order 7 = .ok (.aload_n 0, 1) := by decide +kernel
theorem dX6_order_8 : decode cX6_order 8 = .ok (.getfield 50, 3) := by decide +kernel
theorem dX6_order_11 : decode cX6_order 11 = .ok (.iconst 0, 1) := by decide +kernel
theorem dX6_order_12 : decode cX6_order 12 = .ok (.putfield 157, 3) := by decide +kernel
theorem dX6_order_15 : decode cX6_order 15 = .ok (.iconst 0, 1) := by decide +kernel
theorem dX6_order_16 : decode cX6_order 16 = .ok (.istore_n 1, 1) := by decide +kernel
theorem dX6_order_17 : decode cX6_order 17 = .ok (.iload_n 1, 1) := by decide +kernel
theorem dX6_order_18 : decode cX6_order 18 = .ok (.aload_n 0, 1) := by decide +kernel
theorem dX6_order_19 : decode cX6_order 19 = .ok (.getfield 21, 3) := by decide +kernel
theorem dX6_order_22 : decode cX6_order 22 = .ok (.getfield 195, 3) := by decide +kernel
theorem dX6_order_25 : decode cX6_order 25 = .ok (.if_icmp .ge 39, 3) := by decide +kernel
theorem dX6_order_28 : decode cX6_order 28 = .ok (.aload_n 0, 1) := by decide +kernel
theorem dX6_order_29 : decode cX6_order 29 = .ok (.getfield 21, 3) := by decide +kernel
theorem dX6_order_32 : decode cX6_order 32 = .ok (.getfield 204, 3) := by decide +kernel
theorem dX6_order_35 : decode cX6_order 35 = .ok (.iload_n 1, 1) := by decide +kernel
theorem dX6_order_36 : decode cX6_order 36 = .ok (.iaload, 1) := by decide +kernel
theorem dX6_order_37 : decode cX6_order 37 = .ok (.iconst 2, 1) := by decide +kernel
theorem dX6_order_38 : decode cX6_order 38 = .ok (.if_icmp .ne 20, 3) := by decide +kernel
theorem dX6_order_41 : decode cX6_order 41 = .ok (.aload_n 0, 1) := by decide +kernel
theorem dX6_order_42 : decode cX6_order 42 = .ok (.getfield 50, 3) := by decide +kernel
theorem dX6_order_45 : decode cX6_order 45 = .ok (.aload_n 0, 1) := by decide +kernel
theorem dX6_order_46 : decode cX6_order 46 = .ok (.getfield 21, 3) := by decide +kernel
theorem dX6_order_49 : decode cX6_order 49 = .ok (.getfield 207, 3) := by decide +kernel
theorem dX6_order_52 : decode cX6_order 52 = .ok (.iload_n 1, 1) := by decide +kernel
theorem dX6_order_53 : decode cX6_order 53 = .ok (.iaload, 1) := by decide +kernel
theorem dX6_order_54 : decode cX6_order 54 = .ok (.i2l, 1) := by decide +kernel
theorem dX6_order_55 : decode cX6_order 55 = .ok (.invokevirtual 186, 3) := by decide +kernel
theorem dX6_order_58 : decode cX6_order 58 = .ok (.iinc 1 1, 3) := by decide +kernel
theorem dX6_order_61 : decode cX6_order 61 = .ok (.goto (-44), 3) := by decide +kernel
theorem dX6_order_64 : decode cX6_order 64 = .ok (.aload_n 0, 1) := by decide +kernel
theorem dX6_order_65 : decode cX6_order 65 = .ok (.getfield 50, 3) := by decide +kernel
theorem dX6_order_68 : decode cX6_order 68 = .ok (.getfield 157, 3) := by decide +kernel
theorem dX6_order_71 : decode cX6_order 71 = .ok (.ireturn, 1) := by decide +kernel
theorem dX6_when_0 : decode cX6_when 0 = .ok (.iload_n 1, 1) := by decide +kernel
theorem dX6_when_1 : decode cX6_when 1 = .ok (.iconst 0, 1) := by decide +kernel
theorem dX6_when_2 : decode cX6_when 2 = .ok (.iconst 2, 1) := by decide +kernel
theorem dX6_when_3 : decode cX6_when 3 = .ok (.invokestatic 77, 3) := by decide +kernel
theorem dX6_when_6 : decode cX6_when 6 = .ok (.ifCond .eq 14, 3) := by decide +kernel
theorem dX6_when_9 : decode cX6_when 9 = .ok (.aload_n 0, 1) := by decide +kernel
theorem dX6_when_10 : decode cX6_when 10 = .ok (.getfield 10, 3) := by decide +kernel
theorem dX6_when_13 : decode cX6_when 13 = .ok (.iload_n 2, 1) := by decide +kernel
theorem dX6_when_14 : decode cX6_when 14 = .ok (.invokevirtual 94, 3) := by decide +kernel
theorem dX6_when_17 : decode cX6_when 17 = .ok (.ifCond .ne 5, 3) := by decide +kernel
theorem dX6_when_20 : decode cX6_when 20 = .ok (.iconst (-1), 1) := by decide +kernel
theorem dX6_when_21 : decode cX6_when 21 = .ok (.ireturn, 1) := by decide +kernel
theorem dX6_when_22 : decode cX6_when 22 = .ok (.aload_n 0, 1) := by decide +kernel
theorem dX6_when_23 : decode cX6_when 23 = .ok (.getfield 21, 3) := by decide +kernel
theorem dX6_when_26 : decode cX6_when 26 = .ok (.invokevirtual 241, 3) := by decide +kernel
theorem dX6_when_29 : decode cX6_when 29 = .ok (.aload_n 0, 1) := by decide +kernel
theorem dX6_when_30 : decode cX6_when 30 = .ok (.getfield 21, 3) := by decide +kernel
theorem dX6_when_33 : decode cX6_when 33 = .ok (.iload_n 1, 1) := by decide +kernel
theorem dX6_when_34 : decode cX6_when 34 = .ok (.iload_n 2, 1) := by decide +kernel
theorem dX6_when_35 : decode cX6_when 35 = .ok (.invokevirtual 253, 3) := by decide +kernel
theorem dX6_when_38 : decode cX6_when 38 = .ok (.istore_n 3, 1) := by decide +kernel
theorem dX6_when_39 : decode cX6_when 39 = .ok (.iload_n 3, 1) := by decide +kernel
theorem dX6_when_40 : decode cX6_when 40 = .ok (.ifCond .ge 6, 3) := by decide +kernel
theorem dX6_when_43 : decode cX6_when 43 = .ok (.bipush (-2), 2) := by decide +kernel
theorem dX6_when_45 : decode cX6_when 45 = .ok (.ireturn, 1) := by decide +kernel
theorem dX6_when_46 : decode cX6_when 46 = .ok (.aload_n 0, 1) := by decide +kernel
theorem dX6_when_47 : decode cX6_when 47 = .ok (.getfield 50, 3) := by decide +kernel
theorem dX6_when_50 : decode cX6_when 50 = .ok (.iconst 0, 1) := by decide +kernel
theorem dX6_when_51 : decode cX6_when 51 = .ok (.putfield 157, 3) := by decide +kernel
theorem dX6_when_54 : decode cX6_when 54 = .ok (.aload_n 0, 1) := by decide +kernel
theorem dX6_when_55 : decode cX6_when 55 = .ok (.getfield 50, 3) := by decide +kernel
theorem dX6_when_58 : decode cX6_when 58 = .ok (.aload_n 0, 1) := by decide +kernel
theorem dX6_when_59 : decode cX6_when 59 = .ok (.getfield 21, 3) := by decide +kernel
theorem dX6_when_62 : decode cX6_when 62 = .ok (.getfield 198, 3) := by decide +kernel
theorem dX6_when_65 : decode cX6_when 65 = .ok (.iload_n 3, 1) := by decide +kernel
theorem dX6_when_66 : decode cX6_when 66 = .ok (.laload, 1) := by decide +kernel
theorem dX6_when_67 : decode cX6_when 67 = .ok (.aload_n 0, 1) := by decide +kernel
theorem dX6_when_68 : decode cX6_when 68 = .ok (.getfield 21, 3) := by decide +kernel
theorem dX6_when_71 : decode cX6_when 71 = .ok (.getfield 202, 3) := by decide +kernel
theorem dX6_when_74 : decode cX6_when 74 = .ok (.iload_n 3, 1) := by decide +kernel
theorem dX6_when_75 : decode cX6_when 75 = .ok (.laload, 1) := by decide +kernel
theorem dX6_when_76 : decode cX6_when 76 = .ok (.invokevirtual 172, 3) := by decide +kernel
theorem dX6_when_79 : decode cX6_when 79 = .ok (.iconst 0, 1) := by decide +kernel
theorem dX6_when_80 : decode cX6_when 80 = .ok (.ireturn, 1) := by decide +kernel
theorem dX6_sheds_0 : decode cX6_sheds 0 = .ok (.aload_n 0, 1) := by decide +kernel
theorem dX6_sheds_1 : decode cX6_sheds 1 = .ok (.getfield 10, 3) := by decide +kernel
theorem dX6_sheds_4 : decode cX6_sheds 4 = .ok (.iload_n 1, 1) := by decide +kernel
theorem dX6_sheds_5 : decode cX6_sheds 5 = .ok (.invokevirtual 94, 3) := by decide +kernel
theorem dX6_sheds_8 : decode cX6_sheds 8 = .ok (.ifCond .ne 5, 3) := by decide +kernel
theorem dX6_sheds_11 : decode cX6_sheds 11 = .ok (.iconst (-1), 1) := by decide +kernel
theorem dX6_sheds_12 : decode cX6_sheds 12 = .ok (.ireturn, 1) := by decide +kernel
theorem dX6_sheds_13 : decode cX6_sheds 13 = .ok (.aload_n 0, 1) := by decide +kernel
theorem dX6_sheds_14 : decode cX6_sheds 14 = .ok (.getfield 21, 3) := by decide +kernel
theorem dX6_sheds_17 : decode cX6_sheds 17 = .ok (.invokevirtual 241, 3) := by decide +kernel
theorem dX6_sheds_20 : decode cX6_sheds 20 = .ok (.aload_n 0, 1) := by decide +kernel
theorem dX6_sheds_21 : decode cX6_sheds 21 = .ok (.getfield 21, 3) := by decide +kernel
theorem dX6_sheds_24 : decode cX6_sheds 24 = .ok (.iconst 2, 1) := by decide +kernel
theorem dX6_sheds_25 : decode cX6_sheds 25 = .ok (.iload_n 1, 1) := by decide +kernel
theorem dX6_sheds_26 : decode cX6_sheds 26 = .ok (.invokevirtual 253, 3) := by decide +kernel
theorem dX6_sheds_29 : decode cX6_sheds 29 = .ok (.istore_n 2, 1) := by decide +kernel
theorem dX6_sheds_30 : decode cX6_sheds 30 = .ok (.iload_n 2, 1) := by decide +kernel
theorem dX6_sheds_31 : decode cX6_sheds 31 = .ok (.ifCond .ge 6, 3) := by decide +kernel
theorem dX6_sheds_34 : decode cX6_sheds 34 = .ok (.bipush (-2), 2) := by decide +kernel
theorem dX6_sheds_36 : decode cX6_sheds 36 = .ok (.ireturn, 1) := by decide +kernel
theorem dX6_sheds_37 : decode cX6_sheds 37 = .ok (.aload_n 0, 1) := by decide +kernel
theorem dX6_sheds_38 : decode cX6_sheds 38 = .ok (.getfield 21, 3) := by decide +kernel
theorem dX6_sheds_41 : decode cX6_sheds 41 = .ok (.iload_n 2, 1) := by decide +kernel
theorem dX6_sheds_42 : decode cX6_sheds 42 = .ok (.invokevirtual 256, 3) := by decide +kernel
theorem dX6_sheds_45 : decode cX6_sheds 45 = .ok (.istore_n 3, 1) := by decide +kernel
theorem dX6_sheds_46 : decode cX6_sheds 46 = .ok (.iload_n 3, 1) := by decide +kernel
theorem dX6_sheds_47 : decode cX6_sheds 47 = .ok (.iconst 1, 1) := by decide +kernel
theorem dX6_sheds_48 : decode cX6_sheds 48 = .ok (.iload_n 1, 1) := by decide +kernel
theorem dX6_sheds_49 : decode cX6_sheds 49 = .ok (.ishl, 1) := by decide +kernel
theorem dX6_sheds_50 : decode cX6_sheds 50 = .ok (.iconst (-1), 1) := by decide +kernel
theorem dX6_sheds_51 : decode cX6_sheds 51 = .ok (.ixor, 1) := by decide +kernel
theorem dX6_sheds_52 : decode cX6_sheds 52 = .ok (.iand, 1) := by decide +kernel
theorem dX6_sheds_53 : decode cX6_sheds 53 = .ok (.istore 4, 2) := by decide +kernel
theorem dX6_sheds_55 : decode cX6_sheds 55 = .ok (.iload 4, 2) := by decide +kernel
theorem dX6_sheds_57 : decode cX6_sheds 57 = .ok (.ifCond .ne 6, 3) := by decide +kernel
theorem dX6_sheds_60 : decode cX6_sheds 60 = .ok (.bipush (-2), 2) := by decide +kernel
theorem dX6_sheds_62 : decode cX6_sheds 62 = .ok (.ireturn, 1) := by decide +kernel
theorem dX6_sheds_63 : decode cX6_sheds 63 = .ok (.aload_n 0, 1) := by decide +kernel
theorem dX6_sheds_64 : decode cX6_sheds 64 = .ok (.getfield 21, 3) := by decide +kernel
theorem dX6_sheds_67 : decode cX6_sheds 67 = .ok (.iload_n 3, 1) := by decide +kernel
theorem dX6_sheds_68 : decode cX6_sheds 68 = .ok (.iload 4, 2) := by decide +kernel
theorem dX6_sheds_70 : decode cX6_sheds 70 = .ok (.aload_n 0, 1) := by decide +kernel
theorem dX6_sheds_71 : decode cX6_sheds 71 = .ok (.getfield 21, 3) := by decide +kernel
theorem dX6_sheds_74 : decode cX6_sheds 74 = .ok (.getfield 198, 3) := by decide +kernel
theorem dX6_sheds_77 : decode cX6_sheds 77 = .ok (.iload_n 2, 1) := by decide +kernel
theorem dX6_sheds_78 : decode cX6_sheds 78 = .ok (.laload, 1) := by decide +kernel
theorem dX6_sheds_79 : decode cX6_sheds 79 = .ok (.aload_n 0, 1) := by decide +kernel
theorem dX6_sheds_80 : decode cX6_sheds 80 = .ok (.getfield 21, 3) := by decide +kernel
theorem dX6_sheds_83 : decode cX6_sheds 83 = .ok (.getfield 202, 3) := by decide +kernel
theorem dX6_sheds_86 : decode cX6_sheds 86 = .ok (.iload_n 2, 1) := by decide +kernel
theorem dX6_sheds_87 : decode cX6_sheds 87 = .ok (.laload, 1) := by decide +kernel
theorem dX6_sheds_88 : decode cX6_sheds 88 = .ok (.invokevirtual 259, 3) := by decide +kernel
theorem dX6_sheds_91 : decode cX6_sheds 91 = .ok (.aload_n 0, 1) := by decide +kernel
theorem dX6_sheds_92 : decode cX6_sheds 92 = .ok (.iload 4, 2) := by decide +kernel
theorem dX6_sheds_94 : decode cX6_sheds 94 = .ok (.invokevirtual 263, 3) := by decide +kernel
theorem dX6_sheds_97 : decode cX6_sheds 97 = .ok (.ireturn, 1) := by decide +kernel
theorem dX6_replays_0 : decode cX6_replays 0 = .ok (.aload_n 0, 1) := by decide +kernel
theorem dX6_replays_1 : decode cX6_replays 1 = .ok (.getfield 21, 3) := by decide +kernel
theorem dX6_replays_4 : decode cX6_replays 4 = .ok (.invokevirtual 241, 3) := by decide +kernel
theorem dX6_replays_7 : decode cX6_replays 7 = .ok (.aload_n 0, 1) := by decide +kernel
theorem dX6_replays_8 : decode cX6_replays 8 = .ok (.getfield 43, 3) := by decide +kernel
theorem dX6_replays_11 : decode cX6_replays 11 = .ok (.aload_n 0, 1) := by decide +kernel
theorem dX6_replays_12 : decode cX6_replays 12 = .ok (.getfield 10, 3) := by decide +kernel
theorem dX6_replays_15 : decode cX6_replays 15 = .ok (.getfield 65, 3) := by decide +kernel
theorem dX6_replays_18 : decode cX6_replays 18 = .ok (.invokevirtual 266, 3) := by decide +kernel
theorem dX6_replays_21 : decode cX6_replays 21 = .ok (.istore_n 1, 1) := by decide +kernel
theorem dX6_replays_22 : decode cX6_replays 22 = .ok (.aload_n 0, 1) := by decide +kernel
theorem dX6_replays_23 : decode cX6_replays 23 = .ok (.getfield 43, 3) := by decide +kernel
theorem dX6_replays_26 : decode cX6_replays 26 = .ok (.getfield 140, 3) := by decide +kernel
theorem dX6_replays_29 : decode cX6_replays 29 = .ok (.istore_n 2, 1) := by decide +kernel
theorem dX6_replays_30 : decode cX6_replays 30 = .ok (.aload_n 0, 1) := by decide +kernel
theorem dX6_replays_31 : decode cX6_replays 31 = .ok (.getfield 21, 3) := by decide +kernel
theorem dX6_replays_34 : decode cX6_replays 34 = .ok (.iconst 2, 1) := by decide +kernel
theorem dX6_replays_35 : decode cX6_replays 35 = .ok (.invokevirtual 244, 3) := by decide +kernel
theorem dX6_replays_38 : decode cX6_replays 38 = .ok (.istore_n 3, 1) := by decide +kernel
theorem dX6_replays_39 : decode cX6_replays 39 = .ok (.iconst 0, 1) := by decide +kernel
theorem dX6_replays_40 : decode cX6_replays 40 = .ok (.istore 4, 2) := by decide +kernel
theorem dX6_replays_42 : decode cX6_replays 42 = .ok (.iload 4, 2) := by decide +kernel
theorem dX6_replays_44 : decode cX6_replays 44 = .ok (.iload_n 2, 1) := by decide +kernel
theorem dX6_replays_45 : decode cX6_replays 45 = .ok (.if_icmp .ge 36, 3) := by decide +kernel
theorem dX6_replays_48 : decode cX6_replays 48 = .ok (.iload 4, 2) := by decide +kernel
theorem dX6_replays_50 : decode cX6_replays 50 = .ok (.iload_n 3, 1) := by decide +kernel
theorem dX6_replays_51 : decode cX6_replays 51 = .ok (.if_icmp .ge 30, 3) := by decide +kernel
theorem dX6_replays_54 : decode cX6_replays 54 = .ok (.aload_n 0, 1) := by decide +kernel
theorem dX6_replays_55 : decode cX6_replays 55 = .ok (.getfield 43, 3) := by decide +kernel
theorem dX6_replays_58 : decode cX6_replays 58 = .ok (.iload 4, 2) := by decide +kernel
theorem dX6_replays_60 : decode cX6_replays 60 = .ok (.invokevirtual 269, 3) := by decide +kernel
theorem dX6_replays_63 : decode cX6_replays 63 = .ok (.aload_n 0, 1) := by decide +kernel
theorem dX6_replays_64 : decode cX6_replays 64 = .ok (.getfield 21, 3) := by decide +kernel
theorem dX6_replays_67 : decode cX6_replays 67 = .ok (.iload 4, 2) := by decide +kernel
theorem dX6_replays_69 : decode cX6_replays 69 = .ok (.invokevirtual 272, 3) := by decide +kernel
theorem dX6_replays_72 : decode cX6_replays 72 = .ok (.if_icmp .ne 9, 3) := by decide +kernel
theorem dX6_replays_75 : decode cX6_replays 75 = .ok (.iinc 4 1, 3) := by decide +kernel
theorem dX6_replays_78 : decode cX6_replays 78 = .ok (.goto (-36), 3) := by decide +kernel
theorem dX6_replays_81 : decode cX6_replays 81 = .ok (.aload_n 0, 1) := by decide +kernel
theorem dX6_replays_82 : decode cX6_replays 82 = .ok (.getfield 43, 3) := by decide +kernel
theorem dX6_replays_85 : decode cX6_replays 85 = .ok (.iconst 0, 1) := by decide +kernel
theorem dX6_replays_86 : decode cX6_replays 86 = .ok (.putfield 140, 3) := by decide +kernel
theorem dX6_replays_89 : decode cX6_replays 89 = .ok (.iload_n 1, 1) := by decide +kernel
theorem dX6_replays_90 : decode cX6_replays 90 = .ok (.ifCond .lt 7, 3) := by decide +kernel
theorem dX6_replays_93 : decode cX6_replays 93 = .ok (.iconst (-1), 1) := by decide +kernel
theorem dX6_replays_94 : decode cX6_replays 94 = .ok (.iload_n 1, 1) := by decide +kernel
theorem dX6_replays_95 : decode cX6_replays 95 = .ok (.isub, 1) := by decide +kernel
theorem dX6_replays_96 : decode cX6_replays 96 = .ok (.ireturn, 1) := by decide +kernel
theorem dX6_replays_97 : decode cX6_replays 97 = .ok (.aload_n 0, 1) := by decide +kernel
theorem dX6_replays_98 : decode cX6_replays 98 = .ok (.getfield 50, 3) := by decide +kernel
theorem dX6_replays_101 : decode cX6_replays 101 = .ok (.iconst 0, 1) := by decide +kernel
theorem dX6_replays_102 : decode cX6_replays 102 = .ok (.putfield 157, 3) := by decide +kernel
theorem dX6_replays_105 : decode cX6_replays 105 = .ok (.aload_n 0, 1) := by decide +kernel
theorem dX6_replays_106 : decode cX6_replays 106 = .ok (.getfield 50, 3) := by decide +kernel
theorem dX6_replays_109 : decode cX6_replays 109 = .ok (.iload 4, 2) := by decide +kernel
theorem dX6_replays_111 : decode cX6_replays 111 = .ok (.iload_n 2, 1) := by decide +kernel
theorem dX6_replays_112 : decode cX6_replays 112 = .ok (.if_icmp .ne 13, 3) := by decide +kernel
theorem dX6_replays_115 : decode cX6_replays 115 = .ok (.iload 4, 2) := by decide +kernel
theorem dX6_replays_117 : decode cX6_replays 117 = .ok (.iload_n 3, 1) := by decide +kernel
theorem dX6_replays_118 : decode cX6_replays 118 = .ok (.if_icmp .ne 7, 3) := by decide +kernel
theorem dX6_replays_121 : decode cX6_replays 121 = .ok (.lconst 1, 1) := by decide +kernel
theorem dX6_replays_122 : decode cX6_replays 122 = .ok (.goto 4, 3) := by decide +kernel
theorem dX6_replays_125 : decode cX6_replays 125 = .ok (.lconst 0, 1) := by decide +kernel
theorem dX6_replays_126 : decode cX6_replays 126 = .ok (.invokevirtual 186, 3) := by decide +kernel
theorem dX6_replays_129 : decode cX6_replays 129 = .ok (.iload 4, 2) := by decide +kernel
theorem dX6_replays_131 : decode cX6_replays 131 = .ok (.ireturn, 1) := by decide +kernel
theorem dX6_without_0 : decode cX6_without 0 = .ok (.aload_n 0, 1) := by decide +kernel
theorem dX6_without_1 : decode cX6_without 1 = .ok (.getfield 10, 3) := by decide +kernel
theorem dX6_without_4 : decode cX6_without 4 = .ok (.iload_n 1, 1) := by decide +kernel
theorem dX6_without_5 : decode cX6_without 5 = .ok (.invokevirtual 94, 3) := by decide +kernel
theorem dX6_without_8 : decode cX6_without 8 = .ok (.ifCond .ne 5, 3) := by decide +kernel
theorem dX6_without_11 : decode cX6_without 11 = .ok (.iconst (-1), 1) := by decide +kernel
theorem dX6_without_12 : decode cX6_without 12 = .ok (.ireturn, 1) := by decide +kernel
theorem dX6_without_13 : decode cX6_without 13 = .ok (.aload_n 0, 1) := by decide +kernel
theorem dX6_without_14 : decode cX6_without 14 = .ok (.getfield 10, 3) := by decide +kernel
theorem dX6_without_17 : decode cX6_without 17 = .ok (.getfield 116, 3) := by decide +kernel
theorem dX6_without_20 : decode cX6_without 20 = .ok (.iload_n 1, 1) := by decide +kernel
theorem dX6_without_21 : decode cX6_without 21 = .ok (.baload, 1) := by decide +kernel
theorem dX6_without_22 : decode cX6_without 22 = .ok (.ifCond .eq 6, 3) := by decide +kernel
theorem dX6_without_25 : decode cX6_without 25 = .ok (.bipush (-2), 2) := by decide +kernel
theorem dX6_without_27 : decode cX6_without 27 = .ok (.ireturn, 1) := by decide +kernel
theorem dX6_without_28 : decode cX6_without 28 = .ok (.aload_n 0, 1) := by decide +kernel
theorem dX6_without_29 : decode cX6_without 29 = .ok (.getfield 21, 3) := by decide +kernel
theorem dX6_without_32 : decode cX6_without 32 = .ok (.invokevirtual 241, 3) := by decide +kernel
theorem dX6_without_35 : decode cX6_without 35 = .ok (.aload_n 0, 1) := by decide +kernel
theorem dX6_without_36 : decode cX6_without 36 = .ok (.getfield 34, 3) := by decide +kernel
theorem dX6_without_39 : decode cX6_without 39 = .ok (.aload_n 0, 1) := by decide +kernel
theorem dX6_without_40 : decode cX6_without 40 = .ok (.getfield 10, 3) := by decide +kernel
theorem dX6_without_43 : decode cX6_without 43 = .ok (.invokevirtual 130, 3) := by decide +kernel
theorem dX6_without_46 : decode cX6_without 46 = .ok (.aload_n 0, 1) := by decide +kernel
theorem dX6_without_47 : decode cX6_without 47 = .ok (.getfield 34, 3) := by decide +kernel
theorem dX6_without_50 : decode cX6_without 50 = .ok (.getfield 116, 3) := by decide +kernel
theorem dX6_without_53 : decode cX6_without 53 = .ok (.iload_n 1, 1) := by decide +kernel
theorem dX6_without_54 : decode cX6_without 54 = .ok (.iconst 1, 1) := by decide +kernel
theorem dX6_without_55 : decode cX6_without 55 = .ok (.bastore, 1) := by decide +kernel
theorem dX6_without_56 : decode cX6_without 56 = .ok (.aload_n 0, 1) := by decide +kernel
theorem dX6_without_57 : decode cX6_without 57 = .ok (.invokevirtual 275, 3) := by decide +kernel
theorem dX6_without_60 : decode cX6_without 60 = .ok (.aload_n 0, 1) := by decide +kernel
theorem dX6_without_61 : decode cX6_without 61 = .ok (.getfield 50, 3) := by decide +kernel
theorem dX6_without_64 : decode cX6_without 64 = .ok (.iconst 0, 1) := by decide +kernel
theorem dX6_without_65 : decode cX6_without 65 = .ok (.putfield 157, 3) := by decide +kernel
theorem dX6_without_68 : decode cX6_without 68 = .ok (.aload_n 0, 1) := by decide +kernel
theorem dX6_without_69 : decode cX6_without 69 = .ok (.getfield 50, 3) := by decide +kernel
theorem dX6_without_72 : decode cX6_without 72 = .ok (.aload_n 0, 1) := by decide +kernel
theorem dX6_without_73 : decode cX6_without 73 = .ok (.getfield 37, 3) := by decide +kernel
theorem dX6_without_76 : decode cX6_without 76 = .ok (.getfield 250, 3) := by decide +kernel
theorem dX6_without_79 : decode cX6_without 79 = .ok (.aload_n 0, 1) := by decide +kernel
theorem dX6_without_80 : decode cX6_without 80 = .ok (.getfield 37, 3) := by decide +kernel
theorem dX6_without_83 : decode cX6_without 83 = .ok (.getfield 247, 3) := by decide +kernel
theorem dX6_without_86 : decode cX6_without 86 = .ok (.invokevirtual 172, 3) := by decide +kernel
theorem dX6_without_89 : decode cX6_without 89 = .ok (.iconst 1, 1) := by decide +kernel
theorem dX6_without_90 : decode cX6_without 90 = .ok (.aload_n 0, 1) := by decide +kernel
theorem dX6_without_91 : decode cX6_without 91 = .ok (.getfield 37, 3) := by decide +kernel
theorem dX6_without_94 : decode cX6_without 94 = .ok (.aload_n 0, 1) := by decide +kernel
theorem dX6_without_95 : decode cX6_without 95 = .ok (.getfield 21, 3) := by decide +kernel
theorem dX6_without_98 : decode cX6_without 98 = .ok (.getfield 250, 3) := by decide +kernel
theorem dX6_without_101 : decode cX6_without 101 = .ok (.aload_n 0, 1) := by decide +kernel
theorem dX6_without_102 : decode cX6_without 102 = .ok (.getfield 21, 3) := by decide +kernel
theorem dX6_without_105 : decode cX6_without 105 = .ok (.getfield 247, 3) := by decide +kernel
theorem dX6_without_108 : decode cX6_without 108 = .ok (.invokevirtual 278, 3) := by decide +kernel
theorem dX6_without_111 : decode cX6_without 111 = .ok (.iadd, 1) := by decide +kernel
theorem dX6_without_112 : decode cX6_without 112 = .ok (.ireturn, 1) := by decide +kernel
theorem dX6_tunes_0 : decode cX6_tunes 0 = .ok (.aload_n 0, 1) := by decide +kernel
theorem dX6_tunes_1 : decode cX6_tunes 1 = .ok (.getfield 10, 3) := by decide +kernel
theorem dX6_tunes_4 : decode cX6_tunes 4 = .ok (.iload_n 1, 1) := by decide +kernel
theorem dX6_tunes_5 : decode cX6_tunes 5 = .ok (.invokevirtual 94, 3) := by decide +kernel
theorem dX6_tunes_8 : decode cX6_tunes 8 = .ok (.ifCond .ne 5, 3) := by decide +kernel
theorem dX6_tunes_11 : decode cX6_tunes 11 = .ok (.iconst (-1), 1) := by decide +kernel
theorem dX6_tunes_12 : decode cX6_tunes 12 = .ok (.ireturn, 1) := by decide +kernel
theorem dX6_tunes_13 : decode cX6_tunes 13 = .ok (.aload_n 0, 1) := by decide +kernel
theorem dX6_tunes_14 : decode cX6_tunes 14 = .ok (.getfield 34, 3) := by decide +kernel
theorem dX6_tunes_17 : decode cX6_tunes 17 = .ok (.aload_n 0, 1) := by decide +kernel
theorem dX6_tunes_18 : decode cX6_tunes 18 = .ok (.getfield 10, 3) := by decide +kernel
theorem dX6_tunes_21 : decode cX6_tunes 21 = .ok (.invokevirtual 130, 3) := by decide +kernel
theorem dX6_tunes_24 : decode cX6_tunes 24 = .ok (.iconst 0, 1) := by decide +kernel
theorem dX6_tunes_25 : decode cX6_tunes 25 = .ok (.istore_n 2, 1) := by decide +kernel
theorem dX6_tunes_26 : decode cX6_tunes 26 = .ok (.ldc2_w 282, 3) := by decide +kernel
theorem dX6_tunes_29 : decode cX6_tunes 29 = .ok (.lstore_n 3, 1) := by decide +kernel
theorem dX6_tunes_30 : decode cX6_tunes 30 = .ok (.lconst 1, 1) := by decide +kernel
theorem dX6_tunes_31 : decode cX6_tunes 31 = .ok (.lstore 5, 2) := by decide +kernel
theorem dX6_tunes_33 : decode cX6_tunes 33 = .ok (.iconst 0, 1) := by decide +kernel
theorem dX6_tunes_34 : decode cX6_tunes 34 = .ok (.istore 7, 2) := by decide +kernel
theorem dX6_tunes_36 : decode cX6_tunes 36 = .ok (.iload 7, 2) := by decide +kernel
theorem dX6_tunes_38 : decode cX6_tunes 38 = .ok (.bipush 9, 2) := by decide +kernel
theorem dX6_tunes_40 : decode cX6_tunes 40 = .ok (.if_icmp .gt 57, 3) := by decide +kernel
theorem dX6_tunes_43 : decode cX6_tunes 43 = .ok (.aload_n 0, 1) := by decide +kernel
theorem dX6_tunes_44 : decode cX6_tunes 44 = .ok (.getfield 34, 3) := by decide +kernel
theorem dX6_tunes_47 : decode cX6_tunes 47 = .ok (.getfield 100, 3) := by decide +kernel
theorem dX6_tunes_50 : decode cX6_tunes 50 = .ok (.iload_n 1, 1) := by decide +kernel
theorem dX6_tunes_51 : decode cX6_tunes 51 = .ok (.iload 7, 2) := by decide +kernel
theorem dX6_tunes_53 : decode cX6_tunes 53 = .ok (.iastore, 1) := by decide +kernel
theorem dX6_tunes_54 : decode cX6_tunes 54 = .ok (.aload_n 0, 1) := by decide +kernel
theorem dX6_tunes_55 : decode cX6_tunes 55 = .ok (.invokevirtual 275, 3) := by decide +kernel
theorem dX6_tunes_58 : decode cX6_tunes 58 = .ok (.aload_n 0, 1) := by decide +kernel
theorem dX6_tunes_59 : decode cX6_tunes 59 = .ok (.getfield 37, 3) := by decide +kernel
theorem dX6_tunes_62 : decode cX6_tunes 62 = .ok (.lload_n 3, 1) := by decide +kernel
theorem dX6_tunes_63 : decode cX6_tunes 63 = .ok (.lload 5, 2) := by decide +kernel
theorem dX6_tunes_65 : decode cX6_tunes 65 = .ok (.invokevirtual 278, 3) := by decide +kernel
theorem dX6_tunes_68 : decode cX6_tunes 68 = .ok (.ifCond .le 23, 3) := by decide +kernel
theorem dX6_tunes_71 : decode cX6_tunes 71 = .ok (.iload 7, 2) := by decide +kernel
theorem dX6_tunes_73 : decode cX6_tunes 73 = .ok (.istore_n 2, 1) := by decide +kernel
theorem dX6_tunes_74 : decode cX6_tunes 74 = .ok (.aload_n 0, 1) := by decide +kernel
theorem dX6_tunes_75 : decode cX6_tunes 75 = .ok (.getfield 37, 3) := by decide +kernel
theorem dX6_tunes_78 : decode cX6_tunes 78 = .ok (.getfield 250, 3) := by decide +kernel
theorem dX6_tunes_81 : decode cX6_tunes 81 = .ok (.lstore_n 3, 1) := by decide +kernel
theorem dX6_tunes_82 : decode cX6_tunes 82 = .ok (.aload_n 0, 1) := by decide +kernel
theorem dX6_tunes_83 : decode cX6_tunes 83 = .ok (.getfield 37, 3) := by decide +kernel
theorem dX6_tunes_86 : decode cX6_tunes 86 = .ok (.getfield 247, 3) := by decide +kernel
theorem dX6_tunes_89 : decode cX6_tunes 89 = .ok (.lstore 5, 2) := by decide +kernel
theorem dX6_tunes_91 : decode cX6_tunes 91 = .ok (.iinc 7 1, 3) := by decide +kernel
theorem dX6_tunes_94 : decode cX6_tunes 94 = .ok (.goto (-58), 3) := by decide +kernel
theorem dX6_tunes_97 : decode cX6_tunes 97 = .ok (.aload_n 0, 1) := by decide +kernel
theorem dX6_tunes_98 : decode cX6_tunes 98 = .ok (.getfield 50, 3) := by decide +kernel
theorem dX6_tunes_101 : decode cX6_tunes 101 = .ok (.iconst 0, 1) := by decide +kernel
theorem dX6_tunes_102 : decode cX6_tunes 102 = .ok (.putfield 157, 3) := by decide +kernel
theorem dX6_tunes_105 : decode cX6_tunes 105 = .ok (.aload_n 0, 1) := by decide +kernel
theorem dX6_tunes_106 : decode cX6_tunes 106 = .ok (.getfield 50, 3) := by decide +kernel
theorem dX6_tunes_109 : decode cX6_tunes 109 = .ok (.lload_n 3, 1) := by decide +kernel
theorem dX6_tunes_110 : decode cX6_tunes 110 = .ok (.lload 5, 2) := by decide +kernel
theorem dX6_tunes_112 : decode cX6_tunes 112 = .ok (.invokevirtual 172, 3) := by decide +kernel
theorem dX6_tunes_115 : decode cX6_tunes 115 = .ok (.iload_n 2, 1) := by decide +kernel
theorem dX6_tunes_116 : decode cX6_tunes 116 = .ok (.ireturn, 1) := by decide +kernel
theorem dX6_arranges_0 : decode cX6_arranges 0 = .ok (.aload_n 0, 1) := by decide +kernel
theorem dX6_arranges_1 : decode cX6_arranges 1 = .ok (.getfield 10, 3) := by decide +kernel
theorem dX6_arranges_4 : decode cX6_arranges 4 = .ok (.getfield 65, 3) := by decide +kernel
theorem dX6_arranges_7 : decode cX6_arranges 7 = .ok (.ifCond .ne 5, 3) := by decide +kernel
theorem dX6_arranges_10 : decode cX6_arranges 10 = .ok (.iconst (-1), 1) := by decide +kernel
theorem dX6_arranges_11 : decode cX6_arranges 11 = .ok (.ireturn, 1) := by decide +kernel
theorem dX6_arranges_12 : decode cX6_arranges 12 = .ok (.aload_n 0, 1) := by decide +kernel
theorem dX6_arranges_13 : decode cX6_arranges 13 = .ok (.getfield 34, 3) := by decide +kernel
theorem dX6_arranges_16 : decode cX6_arranges 16 = .ok (.aload_n 0, 1) := by decide +kernel
theorem dX6_arranges_17 : decode cX6_arranges 17 = .ok (.getfield 10, 3) := by decide +kernel
theorem dX6_arranges_20 : decode cX6_arranges 20 = .ok (.invokevirtual 130, 3) := by decide +kernel
theorem dX6_arranges_23 : decode cX6_arranges 23 = .ok (.iconst 0, 1) := by decide +kernel
theorem dX6_arranges_24 : decode cX6_arranges 24 = .ok (.istore_n 1, 1) := by decide +kernel
theorem dX6_arranges_25 : decode cX6_arranges 25 = .ok (.iload_n 1, 1) := by decide +kernel
theorem dX6_arranges_26 : decode cX6_arranges 26 = .ok (.aload_n 0, 1) := by decide +kernel
theorem dX6_arranges_27 : decode cX6_arranges 27 = .ok (.getfield 10, 3) := by decide +kernel
theorem dX6_arranges_30 : decode cX6_arranges 30 = .ok (.getfield 65, 3) := by decide +kernel
theorem dX6_arranges_33 : decode cX6_arranges 33 = .ok (.if_icmp .ge 16, 3) := by decide +kernel
theorem dX6_arranges_36 : decode cX6_arranges 36 = .ok (.aload_n 0, 1) := by decide +kernel
theorem dX6_arranges_37 : decode cX6_arranges 37 = .ok (.getfield 54, 3) := by decide +kernel
theorem dX6_arranges_40 : decode cX6_arranges 40 = .ok (.iload_n 1, 1) := by decide +kernel
theorem dX6_arranges_41 : decode cX6_arranges 41 = .ok (.iload_n 1, 1) := by decide +kernel
theorem dX6_arranges_42 : decode cX6_arranges 42 = .ok (.iastore, 1) := by decide +kernel
theorem dX6_arranges_43 : decode cX6_arranges 43 = .ok (.iinc 1 1, 3) := by decide +kernel
theorem dX6_arranges_46 : decode cX6_arranges 46 = .ok (.goto (-21), 3) := by decide +kernel
theorem dX6_arranges_49 : decode cX6_arranges 49 = .ok (.ldc2_w 282, 3) := by decide +kernel
theorem dX6_arranges_52 : decode cX6_arranges 52 = .ok (.lstore_n 1, 1) := by decide +kernel
theorem dX6_arranges_53 : decode cX6_arranges 53 = .ok (.lconst 1, 1) := by decide +kernel
theorem dX6_arranges_54 : decode cX6_arranges 54 = .ok (.lstore_n 3, 1) := by decide +kernel
theorem dX6_arranges_55 : decode cX6_arranges 55 = .ok (.iconst 1, 1) := by decide +kernel
theorem dX6_arranges_56 : decode cX6_arranges 56 = .ok (.istore 5, 2) := by decide +kernel
theorem dX6_arranges_58 : decode cX6_arranges 58 = .ok (.iconst 0, 1) := by decide +kernel
theorem dX6_arranges_59 : decode cX6_arranges 59 = .ok (.istore 6, 2) := by decide +kernel
theorem dX6_arranges_61 : decode cX6_arranges 61 = .ok (.iload 6, 2) := by decide +kernel
theorem dX6_arranges_63 : decode cX6_arranges 63 = .ok (.bipush 120, 2) := by decide +kernel
theorem dX6_arranges_65 : decode cX6_arranges 65 = .ok (.if_icmp .ge 76, 3) := by decide +kernel
theorem dX6_arranges_68 : decode cX6_arranges 68 = .ok (.iload 5, 2) := by decide +kernel
theorem dX6_arranges_70 : decode cX6_arranges 70 = .ok (.ifCond .eq 71, 3) := by decide +kernel
theorem dX6_arranges_73 : decode cX6_arranges 73 = .ok (.aload_n 0, 1) := by decide +kernel
theorem dX6_arranges_74 : decode cX6_arranges 74 = .ok (.invokevirtual 284, 3) := by decide +kernel
theorem dX6_arranges_77 : decode cX6_arranges 77 = .ok (.aload_n 0, 1) := by decide +kernel
theorem dX6_arranges_78 : decode cX6_arranges 78 = .ok (.invokevirtual 275, 3) := by decide +kernel
theorem dX6_arranges_81 : decode cX6_arranges 81 = .ok (.aload_n 0, 1) := by decide +kernel
theorem dX6_arranges_82 : decode cX6_arranges 82 = .ok (.getfield 37, 3) := by decide +kernel
theorem dX6_arranges_85 : decode cX6_arranges 85 = .ok (.lload_n 1, 1) := by decide +kernel
theorem dX6_arranges_86 : decode cX6_arranges 86 = .ok (.lload_n 3, 1) := by decide +kernel
theorem dX6_arranges_87 : decode cX6_arranges 87 = .ok (.invokevirtual 278, 3) := by decide +kernel
theorem dX6_arranges_90 : decode cX6_arranges 90 = .ok (.ifCond .le 39, 3) := by decide +kernel
theorem dX6_arranges_93 : decode cX6_arranges 93 = .ok (.aload_n 0, 1) := by decide +kernel
theorem dX6_arranges_94 : decode cX6_arranges 94 = .ok (.getfield 54, 3) := by decide +kernel
theorem dX6_arranges_97 : decode cX6_arranges 97 = .ok (.iconst 0, 1) := by decide +kernel
theorem dX6_arranges_98 : decode cX6_arranges 98 = .ok (.aload_n 0, 1) := by decide +kernel
theorem dX6_arranges_99 : decode cX6_arranges 99 = .ok (.getfield 58, 3) := by decide +kernel
theorem dX6_arranges_102 : decode cX6_arranges 102 = .ok (.iconst 0, 1) := by decide +kernel
theorem dX6_arranges_103 : decode cX6_arranges 103 = .ok (.aload_n 0, 1) := by decide +kernel
theorem dX6_arranges_104 : decode cX6_arranges 104 = .ok (.getfield 10, 3) := by decide +kernel
theorem dX6_arranges_107 : decode cX6_arranges 107 = .ok (.getfield 65, 3) := by decide +kernel
theorem dX6_arranges_110 : decode cX6_arranges 110 = .ok (.invokestatic 287, 3) := by decide +kernel
theorem dX6_arranges_113 : decode cX6_arranges 113 = .ok (.aload_n 0, 1) := by decide +kernel
theorem dX6_arranges_114 : decode cX6_arranges 114 = .ok (.getfield 37, 3) := by decide +kernel
theorem dX6_arranges_117 : decode cX6_arranges 117 = .ok (.getfield 250, 3) := by decide +kernel
