theorem dX7_laySets_45 : decode cX7_laySets 45 = .ok (.invokevirtual 155, 3) := by decide +kernel
theorem dX7_laySets_48 : decode cX7_laySets 48 = .ok (.i2l, 1) := by decide +kernel
theorem dX7_laySets_49 : decode cX7_laySets 49 = .ok (.aload_n 0, 1) := by decide +kernel
theorem dX7_laySets_50 : decode cX7_laySets 50 = .ok (.getfield 342, 3) := by decide +kernel
theorem dX7_laySets_53 : decode cX7_laySets 53 = .ok (.lmul, 1) := by decide +kernel
theorem dX7_laySets_54 : decode cX7_laySets 54 = .ok (.lload_n 2, 1) := by decide +kernel
theorem dX7_laySets_55 : decode cX7_laySets 55 = .ok (.lconst 0, 1) := by decide +kernel
theorem dX7_laySets_56 : decode cX7_laySets 56 = .ok (.lcmp, 1) := by decide +kernel
theorem dX7_laySets_57 : decode cX7_laySets 57 = .ok (.ifCond .le 22, 3) := by decide +kernel
theorem dX7_laySets_60 : decode cX7_laySets 60 = .ok (.aload_n 0, 1) := by decide +kernel
theorem dX7_laySets_61 : decode cX7_laySets 61 = .ok (.iload_n 1, 1) := by decide +kernel
theorem dX7_laySets_62 : decode cX7_laySets 62 = .ok (.iconst 3, 1) := by decide +kernel
theorem dX7_laySets_63 : decode cX7_laySets 63 = .ok (.invokevirtual 155, 3) := by decide +kernel
theorem dX7_laySets_66 : decode cX7_laySets 66 = .ok (.aload_n 0, 1) := by decide +kernel
theorem dX7_laySets_67 : decode cX7_laySets 67 = .ok (.iload_n 1, 1) := by decide +kernel
theorem dX7_laySets_68 : decode cX7_laySets 68 = .ok (.iconst 0, 1) := by decide +kernel
theorem dX7_laySets_69 : decode cX7_laySets 69 = .ok (.invokevirtual 155, 3) := by decide +kernel
theorem dX7_laySets_72 : decode cX7_laySets 72 = .ok (.isub, 1) := by decide +kernel
theorem dX7_laySets_73 : decode cX7_laySets 73 = .ok (.i2l, 1) := by decide +kernel
theorem dX7_laySets_74 : decode cX7_laySets 74 = .ok (.lload_n 2, 1) := by decide +kernel
theorem dX7_laySets_75 : decode cX7_laySets 75 = .ok (.lmul, 1) := by decide +kernel
theorem dX7_laySets_76 : decode cX7_laySets 76 = .ok (.goto 4, 3) := by decide +kernel
theorem dX7_laySets_79 : decode cX7_laySets 79 = .ok (.lconst 0, 1) := by decide +kernel
theorem dX7_laySets_80 : decode cX7_laySets 80 = .ok (.ladd, 1) := by decide +kernel
theorem dX7_laySets_81 : decode cX7_laySets 81 = .ok (.lastore, 1) := by decide +kernel
theorem dX7_laySets_82 : decode cX7_laySets 82 = .ok (.iinc 1 1, 3) := by decide +kernel
theorem dX7_laySets_85 : decode cX7_laySets 85 = .ok (.goto (-75), 3) := by decide +kernel
theorem dX7_laySets_88 : decode cX7_laySets 88 = .ok (.return_, 1) := by decide +kernel
theorem dX7_set_0 : decode cX7_set 0 = .ok (.aload_n 0, 1) := by decide +kernel
theorem dX7_set_1 : decode cX7_set 1 = .ok (.iconst 0, 1) := by decide +kernel
theorem dX7_set_2 : decode cX7_set 2 = .ok (.putfield 107, 3) := by decide +kernel
theorem dX7_set_5 : decode cX7_set 5 = .ok (.aload_n 0, 1) := by decide +kernel
theorem dX7_set_6 : decode cX7_set 6 = .ok (.iload_n 2, 1) := by decide +kernel
theorem dX7_set_7 : decode cX7_set 7 = .ok (.invokevirtual 159, 3) := by decide +kernel
theorem dX7_set_10 : decode cX7_set 10 = .ok (.ifCond .eq 10, 3) := by decide +kernel
theorem dX7_set_13 : decode cX7_set 13 = .ok (.iload_n 1, 1) := by decide +kernel
theorem dX7_set_14 : decode cX7_set 14 = .ok (.invokestatic 319, 3) := by decide +kernel
theorem dX7_set_17 : decode cX7_set 17 = .ok (.ifCond .ne 5, 3) := by decide +kernel
theorem dX7_set_20 : decode cX7_set 20 = .ok (.iconst (-1), 1) := by decide +kernel
theorem dX7_set_21 : decode cX7_set 21 = .ok (.ireturn, 1) := by decide +kernel
theorem dX7_set_22 : decode cX7_set 22 = .ok (.aload_n 0, 1) := by decide +kernel
theorem dX7_set_23 : decode cX7_set 23 = .ok (.iload_n 1, 1) := by decide +kernel
theorem dX7_set_24 : decode cX7_set 24 = .ok (.invokevirtual 322, 3) := by decide +kernel
theorem dX7_set_27 : decode cX7_set 27 = .ok (.ifCond .ne 6, 3) := by decide +kernel
theorem dX7_set_30 : decode cX7_set 30 = .ok (.bipush (-2), 2) := by decide +kernel
theorem dX7_set_32 : decode cX7_set 32 = .ok (.ireturn, 1) := by decide +kernel
theorem dX7_set_33 : decode cX7_set 33 = .ok (.aload_n 0, 1) := by decide +kernel
theorem dX7_set_34 : decode cX7_set 34 = .ok (.iload_n 2, 1) := by decide +kernel
theorem dX7_set_35 : decode cX7_set 35 = .ok (.invokevirtual 249, 3) := by decide +kernel
theorem dX7_set_38 : decode cX7_set 38 = .ok (.ifCond .ne 6, 3) := by decide +kernel
theorem dX7_set_41 : decode cX7_set 41 = .ok (.bipush (-3), 2) := by decide +kernel
theorem dX7_set_43 : decode cX7_set 43 = .ok (.ireturn, 1) := by decide +kernel
theorem dX7_set_44 : decode cX7_set 44 = .ok (.aload_n 0, 1) := by decide +kernel
theorem dX7_set_45 : decode cX7_set 45 = .ok (.invokevirtual 345, 3) := by decide +kernel
theorem dX7_set_48 : decode cX7_set 48 = .ok (.aload_n 0, 1) := by decide +kernel
theorem dX7_set_49 : decode cX7_set 49 = .ok (.iconst 0, 1) := by decide +kernel
theorem dX7_set_50 : decode cX7_set 50 = .ok (.putfield 110, 3) := by decide +kernel
theorem dX7_set_53 : decode cX7_set 53 = .ok (.aload_n 0, 1) := by decide +kernel
theorem dX7_set_54 : decode cX7_set 54 = .ok (.aload_n 0, 1) := by decide +kernel
theorem dX7_set_55 : decode cX7_set 55 = .ok (.getfield 89, 3) := by decide +kernel
theorem dX7_set_58 : decode cX7_set 58 = .ok (.iload_n 2, 1) := by decide +kernel
theorem dX7_set_59 : decode cX7_set 59 = .ok (.laload, 1) := by decide +kernel
theorem dX7_set_60 : decode cX7_set 60 = .ok (.aload_n 0, 1) := by decide +kernel
theorem dX7_set_61 : decode cX7_set 61 = .ok (.getfield 342, 3) := by decide +kernel
theorem dX7_set_64 : decode cX7_set 64 = .ok (.invokevirtual 325, 3) := by decide +kernel
theorem dX7_set_67 : decode cX7_set 67 = .ok (.iconst 0, 1) := by decide +kernel
theorem dX7_set_68 : decode cX7_set 68 = .ok (.ireturn, 1) := by decide +kernel
theorem dX7_solveFalling_0 : decode cX7_solveFalling 0 = .ok (.iconst 0, 1) := by decide +kernel
theorem dX7_solveFalling_1 : decode cX7_solveFalling 1 = .ok (.istore_n 2, 1) := by decide +kernel
theorem dX7_solveFalling_2 : decode cX7_solveFalling 2 = .ok (.iload_n 2, 1) := by decide +kernel
theorem dX7_solveFalling_3 : decode cX7_solveFalling 3 = .ok (.aload_n 0, 1) := by decide +kernel
theorem dX7_solveFalling_4 : decode cX7_solveFalling 4 = .ok (.getfield 127, 3) := by decide +kernel
theorem dX7_solveFalling_7 : decode cX7_solveFalling 7 = .ok (.if_icmp .ge 40, 3) := by decide +kernel
theorem dX7_solveFalling_10 : decode cX7_solveFalling 10 = .ok (.aload_n 0, 1) := by decide +kernel
theorem dX7_solveFalling_11 : decode cX7_solveFalling 11 = .ok (.iload_n 2, 1) := by decide +kernel
theorem dX7_solveFalling_12 : decode cX7_solveFalling 12 = .ok (.invokevirtual 249, 3) := by decide +kernel
theorem dX7_solveFalling_15 : decode cX7_solveFalling 15 = .ok (.ifCond .eq 14, 3) := by decide +kernel
theorem dX7_solveFalling_18 : decode cX7_solveFalling 18 = .ok (.aload_n 0, 1) := by decide +kernel
theorem dX7_solveFalling_19 : decode cX7_solveFalling 19 = .ok (.getfield 31, 3) := by decide +kernel
theorem dX7_solveFalling_22 : decode cX7_solveFalling 22 = .ok (.iload_n 2, 1) := by decide +kernel
theorem dX7_solveFalling_23 : decode cX7_solveFalling 23 = .ok (.iload_n 1, 1) := by decide +kernel
theorem dX7_solveFalling_24 : decode cX7_solveFalling 24 = .ok (.iload_n 2, 1) := by decide +kernel
theorem dX7_solveFalling_25 : decode cX7_solveFalling 25 = .ok (.ishr, 1) := by decide +kernel
theorem dX7_solveFalling_26 : decode cX7_solveFalling 26 = .ok (.iconst 1, 1) := by decide +kernel
theorem dX7_solveFalling_27 : decode cX7_solveFalling 27 = .ok (.iand, 1) := by decide +kernel
theorem dX7_solveFalling_28 : decode cX7_solveFalling 28 = .ok (.iastore, 1) := by decide +kernel
theorem dX7_solveFalling_29 : decode cX7_solveFalling 29 = .ok (.aload_n 0, 1) := by decide +kernel
theorem dX7_solveFalling_30 : decode cX7_solveFalling 30 = .ok (.getfield 46, 3) := by decide +kernel
theorem dX7_solveFalling_33 : decode cX7_solveFalling 33 = .ok (.iload_n 2, 1) := by decide +kernel
theorem dX7_solveFalling_34 : decode cX7_solveFalling 34 = .ok (.aload_n 0, 1) := by decide +kernel
theorem dX7_solveFalling_35 : decode cX7_solveFalling 35 = .ok (.getfield 89, 3) := by decide +kernel
theorem dX7_solveFalling_38 : decode cX7_solveFalling 38 = .ok (.iload_n 2, 1) := by decide +kernel
theorem dX7_solveFalling_39 : decode cX7_solveFalling 39 = .ok (.laload, 1) := by decide +kernel
theorem dX7_solveFalling_40 : decode cX7_solveFalling 40 = .ok (.lastore, 1) := by decide +kernel
theorem dX7_solveFalling_41 : decode cX7_solveFalling 41 = .ok (.iinc 2 1, 3) := by decide +kernel
theorem dX7_solveFalling_44 : decode cX7_solveFalling 44 = .ok (.goto (-42), 3) := by decide +kernel
theorem dX7_solveFalling_47 : decode cX7_solveFalling 47 = .ok (.aload_n 0, 1) := by decide +kernel
theorem dX7_solveFalling_48 : decode cX7_solveFalling 48 = .ok (.invokevirtual 227, 3) := by decide +kernel
theorem dX7_solveFalling_51 : decode cX7_solveFalling 51 = .ok (.return_, 1) := by decide +kernel
theorem dX7_fallenForce_0 : decode cX7_fallenForce 0 = .ok (.aload_n 0, 1) := by decide +kernel
theorem dX7_fallenForce_1 : decode cX7_fallenForce 1 = .ok (.getfield 34, 3) := by decide +kernel
theorem dX7_fallenForce_4 : decode cX7_fallenForce 4 = .ok (.iload_n 1, 1) := by decide +kernel
theorem dX7_fallenForce_5 : decode cX7_fallenForce 5 = .ok (.laload, 1) := by decide +kernel
theorem dX7_fallenForce_6 : decode cX7_fallenForce 6 = .ok (.iload_n 2, 1) := by decide +kernel
theorem dX7_fallenForce_7 : decode cX7_fallenForce 7 = .ok (.i2l, 1) := by decide +kernel
theorem dX7_fallenForce_8 : decode cX7_fallenForce 8 = .ok (.lmul, 1) := by decide +kernel
theorem dX7_fallenForce_9 : decode cX7_fallenForce 9 = .ok (.aload_n 0, 1) := by decide +kernel
theorem dX7_fallenForce_10 : decode cX7_fallenForce 10 = .ok (.getfield 342, 3) := by decide +kernel
theorem dX7_fallenForce_13 : decode cX7_fallenForce 13 = .ok (.lmul, 1) := by decide +kernel
theorem dX7_fallenForce_14 : decode cX7_fallenForce 14 = .ok (.aload_n 0, 1) := by decide +kernel
theorem dX7_fallenForce_15 : decode cX7_fallenForce 15 = .ok (.getfield 37, 3) := by decide +kernel
theorem dX7_fallenForce_18 : decode cX7_fallenForce 18 = .ok (.iload_n 1, 1) := by decide +kernel
theorem dX7_fallenForce_19 : decode cX7_fallenForce 19 = .ok (.laload, 1) := by decide +kernel
theorem dX7_fallenForce_20 : decode cX7_fallenForce 20 = .ok (.ladd, 1) := by decide +kernel
theorem dX7_fallenForce_21 : decode cX7_fallenForce 21 = .ok (.lreturn, 1) := by decide +kernel
theorem dX7_fallenSlip_0 : decode cX7_fallenSlip 0 = .ok (.aload_n 0, 1) := by decide +kernel
theorem dX7_fallenSlip_1 : decode cX7_fallenSlip 1 = .ok (.getfield 40, 3) := by decide +kernel
theorem dX7_fallenSlip_4 : decode cX7_fallenSlip 4 = .ok (.iload_n 1, 1) := by decide +kernel
theorem dX7_fallenSlip_5 : decode cX7_fallenSlip 5 = .ok (.laload, 1) := by decide +kernel
theorem dX7_fallenSlip_6 : decode cX7_fallenSlip 6 = .ok (.iload_n 2, 1) := by decide +kernel
theorem dX7_fallenSlip_7 : decode cX7_fallenSlip 7 = .ok (.i2l, 1) := by decide +kernel
theorem dX7_fallenSlip_8 : decode cX7_fallenSlip 8 = .ok (.lmul, 1) := by decide +kernel
theorem dX7_fallenSlip_9 : decode cX7_fallenSlip 9 = .ok (.aload_n 0, 1) := by decide +kernel
theorem dX7_fallenSlip_10 : decode cX7_fallenSlip 10 = .ok (.getfield 342, 3) := by decide +kernel
theorem dX7_fallenSlip_13 : decode cX7_fallenSlip 13 = .ok (.lmul, 1) := by decide +kernel
theorem dX7_fallenSlip_14 : decode cX7_fallenSlip 14 = .ok (.aload_n 0, 1) := by decide +kernel
theorem dX7_fallenSlip_15 : decode cX7_fallenSlip 15 = .ok (.getfield 43, 3) := by decide +kernel
theorem dX7_fallenSlip_18 : decode cX7_fallenSlip 18 = .ok (.iload_n 1, 1) := by decide +kernel
theorem dX7_fallenSlip_19 : decode cX7_fallenSlip 19 = .ok (.laload, 1) := by decide +kernel
theorem dX7_fallenSlip_20 : decode cX7_fallenSlip 20 = .ok (.ladd, 1) := by decide +kernel
theorem dX7_fallenSlip_21 : decode cX7_fallenSlip 21 = .ok (.lreturn, 1) := by decide +kernel
theorem dX7_isFallen_0 : decode cX7_isFallen 0 = .ok (.iconst 0, 1) := by decide +kernel
theorem dX7_isFallen_1 : decode cX7_isFallen 1 = .ok (.istore_n 3, 1) := by decide +kernel
theorem dX7_isFallen_2 : decode cX7_isFallen 2 = .ok (.iload_n 3, 1) := by decide +kernel
theorem dX7_isFallen_3 : decode cX7_isFallen 3 = .ok (.aload_n 0, 1) := by decide +kernel
theorem dX7_isFallen_4 : decode cX7_isFallen 4 = .ok (.getfield 127, 3) := by decide +kernel
theorem dX7_isFallen_7 : decode cX7_isFallen 7 = .ok (.if_icmp .ge 28, 3) := by decide +kernel
theorem dX7_isFallen_10 : decode cX7_isFallen 10 = .ok (.iload_n 1, 1) := by decide +kernel
theorem dX7_isFallen_11 : decode cX7_isFallen 11 = .ok (.iload_n 3, 1) := by decide +kernel
theorem dX7_isFallen_12 : decode cX7_isFallen 12 = .ok (.ishr, 1) := by decide +kernel
theorem dX7_isFallen_13 : decode cX7_isFallen 13 = .ok (.iconst 1, 1) := by decide +kernel
theorem dX7_isFallen_14 : decode cX7_isFallen 14 = .ok (.iand, 1) := by decide +kernel
theorem dX7_isFallen_15 : decode cX7_isFallen 15 = .ok (.iconst 1, 1) := by decide +kernel
theorem dX7_isFallen_16 : decode cX7_isFallen 16 = .ok (.if_icmp .ne 13, 3) := by decide +kernel
theorem dX7_isFallen_19 : decode cX7_isFallen 19 = .ok (.aload_n 0, 1) := by decide +kernel
theorem dX7_isFallen_20 : decode cX7_isFallen 20 = .ok (.iload_n 3, 1) := by decide +kernel
theorem dX7_isFallen_21 : decode cX7_isFallen 21 = .ok (.invokevirtual 249, 3) := by decide +kernel
theorem dX7_isFallen_24 : decode cX7_isFallen 24 = .ok (.ifCond .ne 5, 3) := by decide +kernel
theorem dX7_isFallen_27 : decode cX7_isFallen 27 = .ok (.iconst 0, 1) := by decide +kernel
theorem dX7_isFallen_28 : decode cX7_isFallen 28 = .ok (.ireturn, 1) := by decide +kernel
theorem dX7_isFallen_29 : decode cX7_isFallen 29 = .ok (.iinc 3 1, 3) := by decide +kernel
theorem dX7_isFallen_32 : decode cX7_isFallen 32 = .ok (.goto (-30), 3) := by decide +kernel
theorem dX7_isFallen_35 : decode cX7_isFallen 35 = .ok (.aload_n 0, 1) := by decide +kernel
theorem dX7_isFallen_36 : decode cX7_isFallen 36 = .ok (.iload_n 1, 1) := by decide +kernel
theorem dX7_isFallen_37 : decode cX7_isFallen 37 = .ok (.invokevirtual 348, 3) := by decide +kernel
theorem dX7_isFallen_40 : decode cX7_isFallen 40 = .ok (.iconst 0, 1) := by decide +kernel
theorem dX7_isFallen_41 : decode cX7_isFallen 41 = .ok (.istore_n 3, 1) := by decide +kernel
theorem dX7_isFallen_42 : decode cX7_isFallen 42 = .ok (.iload_n 3, 1) := by decide +kernel
theorem dX7_isFallen_43 : decode cX7_isFallen 43 = .ok (.aload_n 0, 1) := by decide +kernel
theorem dX7_isFallen_44 : decode cX7_isFallen 44 = .ok (.getfield 127, 3) := by decide +kernel
theorem dX7_isFallen_47 : decode cX7_isFallen 47 = .ok (.if_icmp .ge 67, 3) := by decide +kernel
theorem dX7_isFallen_50 : decode cX7_isFallen 50 = .ok (.aload_n 0, 1) := by decide +kernel
theorem dX7_isFallen_51 : decode cX7_isFallen 51 = .ok (.iload_n 3, 1) := by decide +kernel
theorem dX7_isFallen_52 : decode cX7_isFallen 52 = .ok (.invokevirtual 249, 3) := by decide +kernel
theorem dX7_isFallen_55 : decode cX7_isFallen 55 = .ok (.ifCond .ne 6, 3) := by decide +kernel
theorem dX7_isFallen_58 : decode cX7_isFallen 58 = .ok (.goto 50, 3) := by decide +kernel
theorem dX7_isFallen_61 : decode cX7_isFallen 61 = .ok (.aload_n 0, 1) := by decide +kernel
theorem dX7_isFallen_62 : decode cX7_isFallen 62 = .ok (.getfield 31, 3) := by decide +kernel
theorem dX7_isFallen_65 : decode cX7_isFallen 65 = .ok (.iload_n 3, 1) := by decide +kernel
theorem dX7_isFallen_66 : decode cX7_isFallen 66 = .ok (.iaload, 1) := by decide +kernel
theorem dX7_isFallen_67 : decode cX7_isFallen 67 = .ok (.iconst 1, 1) := by decide +kernel
theorem dX7_isFallen_68 : decode cX7_isFallen 68 = .ok (.if_icmp .ne 17, 3) := by decide +kernel
theorem dX7_isFallen_71 : decode cX7_isFallen 71 = .ok (.aload_n 0, 1) := by decide +kernel
theorem dX7_isFallen_72 : decode cX7_isFallen 72 = .ok (.iload_n 3, 1) := by decide +kernel
theorem dX7_isFallen_73 : decode cX7_isFallen 73 = .ok (.iload_n 2, 1) := by decide +kernel
theorem dX7_isFallen_74 : decode cX7_isFallen 74 = .ok (.invokevirtual 351, 3) := by decide +kernel
theorem dX7_isFallen_77 : decode cX7_isFallen 77 = .ok (.lconst 0, 1) := by decide +kernel
theorem dX7_isFallen_78 : decode cX7_isFallen 78 = .ok (.lcmp, 1) := by decide +kernel
theorem dX7_isFallen_79 : decode cX7_isFallen 79 = .ok (.ifCond .gt 29, 3) := by decide +kernel
theorem dX7_isFallen_82 : decode cX7_isFallen 82 = .ok (.goto 24, 3) := by decide +kernel
theorem dX7_isFallen_85 : decode cX7_isFallen 85 = .ok (.aload_n 0, 1) := by decide +kernel
theorem dX7_isFallen_86 : decode cX7_isFallen 86 = .ok (.iload_n 3, 1) := by decide +kernel
theorem dX7_isFallen_87 : decode cX7_isFallen 87 = .ok (.iload_n 2, 1) := by decide +kernel
theorem dX7_isFallen_88 : decode cX7_isFallen 88 = .ok (.invokevirtual 354, 3) := by decide +kernel
theorem dX7_isFallen_91 : decode cX7_isFallen 91 = .ok (.aload_n 0, 1) := by decide +kernel
theorem dX7_isFallen_92 : decode cX7_isFallen 92 = .ok (.getfield 89, 3) := by decide +kernel
theorem dX7_isFallen_95 : decode cX7_isFallen 95 = .ok (.iload_n 3, 1) := by decide +kernel
theorem dX7_isFallen_96 : decode cX7_isFallen 96 = .ok (.laload, 1) := by decide +kernel
theorem dX7_isFallen_97 : decode cX7_isFallen 97 = .ok (.aload_n 0, 1) := by decide +kernel
theorem dX7_isFallen_98 : decode cX7_isFallen 98 = .ok (.getfield 233, 3) := by decide +kernel
theorem dX7_isFallen_101 : decode cX7_isFallen 101 = .ok (.lmul, 1) := by decide +kernel
theorem dX7_isFallen_102 : decode cX7_isFallen 102 = .ok (.lcmp, 1) := by decide +kernel
theorem dX7_isFallen_103 : decode cX7_isFallen 103 = .ok (.ifCond .le 5, 3) := by decide +kernel
theorem dX7_isFallen_106 : decode cX7_isFallen 106 = .ok (.iconst 0, 1) := by decide +kernel
theorem dX7_isFallen_107 : decode cX7_isFallen 107 = .ok (.ireturn, 1) := by decide +kernel
theorem dX7_isFallen_108 : decode cX7_isFallen 108 = .ok (.iinc 3 1, 3) := by decide +kernel
theorem dX7_isFallen_111 : decode cX7_isFallen 111 = .ok (.goto (-69), 3) := by decide +kernel
theorem dX7_isFallen_114 : decode cX7_isFallen 114 = .ok (.iconst 1, 1) := by decide +kernel
theorem dX7_isFallen_115 : decode cX7_isFallen 115 = .ok (.ireturn, 1) := by decide +kernel
theorem dX7_leastSet_0 : decode cX7_leastSet 0 = .ok (.ldc2_w 359, 3) := by decide +kernel
theorem dX7_leastSet_3 : decode cX7_leastSet 3 = .ok (.lstore_n 1, 1) := by decide +kernel
theorem dX7_leastSet_4 : decode cX7_leastSet 4 = .ok (.iconst 0, 1) := by decide +kernel
theorem dX7_leastSet_5 : decode cX7_leastSet 5 = .ok (.istore_n 3, 1) := by decide +kernel
theorem dX7_leastSet_6 : decode cX7_leastSet 6 = .ok (.iload_n 3, 1) := by decide +kernel
theorem dX7_leastSet_7 : decode cX7_leastSet 7 = .ok (.aload_n 0, 1) := by decide +kernel
theorem dX7_leastSet_8 : decode cX7_leastSet 8 = .ok (.getfield 127, 3) := by decide +kernel
theorem dX7_leastSet_11 : decode cX7_leastSet 11 = .ok (.if_icmp .ge 28, 3) := by decide +kernel
theorem dX7_leastSet_14 : decode cX7_leastSet 14 = .ok (.aload_n 0, 1) := by decide +kernel
theorem dX7_leastSet_15 : decode cX7_leastSet 15 = .ok (.iload_n 3, 1) := by decide +kernel
theorem dX7_leastSet_16 : decode cX7_leastSet 16 = .ok (.invokevirtual 249, 3) := by decide +kernel
theorem dX7_leastSet_19 : decode cX7_leastSet 19 = .ok (.ifCond .eq 14, 3) := by decide +kernel
theorem dX7_leastSet_22 : decode cX7_leastSet 22 = .ok (.lload_n 1, 1) := by decide +kernel
theorem dX7_leastSet_23 : decode cX7_leastSet 23 = .ok (.aload_n 0, 1) := by decide +kernel
theorem dX7_leastSet_24 : decode cX7_leastSet 24 = .ok (.getfield 89, 3) := by decide +kernel
theorem dX7_leastSet_27 : decode cX7_leastSet 27 = .ok (.iload_n 3, 1) := by decide +kernel
theorem dX7_leastSet_28 : decode cX7_leastSet 28 = .ok (.laload, 1) := by decide +kernel
theorem dX7_leastSet_29 : decode cX7_leastSet 29 = .ok (.invokestatic 361, 3) := by decide +kernel
theorem dX7_leastSet_32 : decode cX7_leastSet 32 = .ok (.lstore_n 1, 1) := by decide +kernel
theorem dX7_leastSet_33 : decode cX7_leastSet 33 = .ok (.iinc 3 1, 3) := by decide +kernel
theorem dX7_leastSet_36 : decode cX7_leastSet 36 = .ok (.goto (-30), 3) := by decide +kernel
theorem dX7_leastSet_39 : decode cX7_leastSet 39 = .ok (.lload_n 1, 1) := by decide +kernel
theorem dX7_leastSet_40 : decode cX7_leastSet 40 = .ok (.lreturn, 1) := by decide +kernel
theorem dX7_falls_0 : decode cX7_falls 0 = .ok (.aload_n 0, 1) := by decide +kernel
theorem dX7_falls_1 : decode cX7_falls 1 = .ok (.iconst 0, 1) := by decide +kernel
theorem dX7_falls_2 : decode cX7_falls 2 = .ok (.putfield 107, 3) := by decide +kernel
theorem dX7_falls_5 : decode cX7_falls 5 = .ok (.aload_n 0, 1) := by decide +kernel
theorem dX7_falls_6 : decode cX7_falls 6 = .ok (.iload_n 3, 1) := by decide +kernel
theorem dX7_falls_7 : decode cX7_falls 7 = .ok (.invokevirtual 159, 3) := by decide +kernel
theorem dX7_falls_10 : decode cX7_falls 10 = .ok (.ifCond .eq 21, 3) := by decide +kernel
theorem dX7_falls_13 : decode cX7_falls 13 = .ok (.iload_n 1, 1) := by decide +kernel
theorem dX7_falls_14 : decode cX7_falls 14 = .ok (.invokestatic 319, 3) := by decide +kernel
theorem dX7_falls_17 : decode cX7_falls 17 = .ok (.ifCond .eq 14, 3) := by decide +kernel
theorem dX7_falls_20 : decode cX7_falls 20 = .ok (.iload_n 2, 1) := by decide +kernel
theorem dX7_falls_21 : decode cX7_falls 21 = .ok (.i2l, 1) := by decide +kernel
theorem dX7_falls_22 : decode cX7_falls 22 = .ok (.lconst 0, 1) := by decide +kernel
theorem dX7_falls_23 : decode cX7_falls 23 = .ok (.iload_n 1, 1) := by decide +kernel
theorem dX7_falls_24 : decode cX7_falls 24 = .ok (.i2l, 1) := by decide +kernel
theorem dX7_falls_25 : decode cX7_falls 25 = .ok (.invokestatic 130, 3) := by decide +kernel
theorem dX7_falls_28 : decode cX7_falls 28 = .ok (.ifCond .ne 5, 3) := by decide +kernel
theorem dX7_falls_31 : decode cX7_falls 31 = .ok (.iconst (-1), 1) := by decide +kernel
theorem dX7_falls_32 : decode cX7_falls 32 = .ok (.ireturn, 1) := by decide +kernel
theorem dX7_falls_33 : decode cX7_falls 33 = .ok (.aload_n 0, 1) := by decide +kernel
theorem dX7_falls_34 : decode cX7_falls 34 = .ok (.iload_n 1, 1) := by decide +kernel
theorem dX7_falls_35 : decode cX7_falls 35 = .ok (.invokevirtual 322, 3) := by decide +kernel
theorem dX7_falls_38 : decode cX7_falls 38 = .ok (.ifCond .ne 6, 3) := by decide +kernel
theorem dX7_falls_41 : decode cX7_falls 41 = .ok (.bipush (-2), 2) := by decide +kernel
theorem dX7_falls_43 : decode cX7_falls 43 = .ok (.ireturn, 1) := by decide +kernel
theorem dX7_falls_44 : decode cX7_falls 44 = .ok (.aload_n 0, 1) := by decide +kernel
theorem dX7_falls_45 : decode cX7_falls 45 = .ok (.invokevirtual 345, 3) := by decide +kernel
theorem dX7_falls_48 : decode cX7_falls 48 = .ok (.aload_n 0, 1) := by decide +kernel
theorem dX7_falls_49 : decode cX7_falls 49 = .ok (.iconst 0, 1) := by decide +kernel
theorem dX7_falls_50 : decode cX7_falls 50 = .ok (.putfield 110, 3) := by decide +kernel
theorem dX7_falls_53 : decode cX7_falls 53 = .ok (.iload_n 2, 1) := by decide +kernel
theorem dX7_falls_54 : decode cX7_falls 54 = .ok (.ifCond .ne 23, 3) := by decide +kernel
theorem dX7_falls_57 : decode cX7_falls 57 = .ok (.aload_n 0, 1) := by decide +kernel
theorem dX7_falls_58 : decode cX7_falls 58 = .ok (.lconst 0, 1) := by decide +kernel
theorem dX7_falls_59 : decode cX7_falls 59 = .ok (.lconst 1, 1) := by decide +kernel
theorem dX7_falls_60 : decode cX7_falls 60 = .ok (.invokevirtual 325, 3) := by decide +kernel
theorem dX7_falls_63 : decode cX7_falls 63 = .ok (.aload_n 0, 1) := by decide +kernel
theorem dX7_falls_64 : decode cX7_falls 64 = .ok (.aload_n 0, 1) := by decide +kernel
theorem dX7_falls_65 : decode cX7_falls 65 = .ok (.invokevirtual 363, 3) := by decide +kernel
theorem dX7_falls_68 : decode cX7_falls 68 = .ok (.aload_n 0, 1) := by decide +kernel
theorem dX7_falls_69 : decode cX7_falls 69 = .ok (.getfield 342, 3) := by decide +kernel
theorem dX7_falls_72 : decode cX7_falls 72 = .ok (.invokevirtual 325, 3) := by decide +kernel
theorem dX7_falls_75 : decode cX7_falls 75 = .ok (.iconst 0, 1) := by decide +kernel
theorem dX7_falls_76 : decode cX7_falls 76 = .ok (.ireturn, 1) := by decide +kernel
theorem dX7_falls_77 : decode cX7_falls 77 = .ok (.iconst 1, 1) := by decide +kernel
theorem dX7_falls_78 : decode cX7_falls 78 = .ok (.istore 4, 2) := by decide +kernel
theorem dX7_falls_80 : decode cX7_falls 80 = .ok (.aload_n 0, 1) := by decide +kernel
theorem dX7_falls_81 : decode cX7_falls 81 = .ok (.iload 4, 2) := by decide +kernel
theorem dX7_falls_83 : decode cX7_falls 83 = .ok (.iload_n 2, 1) := by decide +kernel
theorem dX7_falls_84 : decode cX7_falls 84 = .ok (.invokevirtual 366, 3) := by decide +kernel
theorem dX7_falls_87 : decode cX7_falls 87 = .ok (.ifCond .ne 9, 3) := by decide +kernel
theorem dX7_falls_90 : decode cX7_falls 90 = .ok (.iinc 4 1, 3) := by decide +kernel
theorem dX7_falls_93 : decode cX7_falls 93 = .ok (.goto (-13), 3) := by decide +kernel
theorem dX7_falls_96 : decode cX7_falls 96 = .ok (.aload_n 0, 1) := by decide +kernel
theorem dX7_falls_97 : decode cX7_falls 97 = .ok (.aload_n 0, 1) := by decide +kernel
theorem dX7_falls_98 : decode cX7_falls 98 = .ok (.iload_n 3, 1) := by decide +kernel
theorem dX7_falls_99 : decode cX7_falls 99 = .ok (.iload_n 2, 1) := by decide +kernel
theorem dX7_falls_100 : decode cX7_falls 100 = .ok (.invokevirtual 351, 3) := by decide +kernel
theorem dX7_falls_103 : decode cX7_falls 103 = .ok (.aload_n 0, 1) := by decide +kernel
theorem dX7_falls_104 : decode cX7_falls 104 = .ok (.getfield 233, 3) := by decide +kernel
theorem dX7_falls_107 : decode cX7_falls 107 = .ok (.aload_n 0, 1) := by decide +kernel
theorem dX7_falls_108 : decode cX7_falls 108 = .ok (.getfield 342, 3) := by decide +kernel
theorem dX7_falls_111 : decode cX7_falls 111 = .ok (.lmul, 1) := by decide +kernel
theorem dX7_falls_112 : decode cX7_falls 112 = .ok (.invokevirtual 325, 3) := by decide +kernel
theorem dX7_falls_115 : decode cX7_falls 115 = .ok (.aload_n 0, 1) := by decide +kernel
theorem dX7_falls_116 : decode cX7_falls 116 = .ok (.aload_n 0, 1) := by decide +kernel
theorem dX7_falls_117 : decode cX7_falls 117 = .ok (.iload_n 3, 1) := by decide +kernel
theorem dX7_falls_118 : decode cX7_falls 118 = .ok (.iload_n 2, 1) := by decide +kernel
theorem dX7_falls_119 : decode cX7_falls 119 = .ok (.invokevirtual 354, 3) := by decide +kernel
theorem dX7_falls_122 : decode cX7_falls 122 = .ok (.aload_n 0, 1) := by decide +kernel
theorem dX7_falls_123 : decode cX7_falls 123 = .ok (.getfield 233, 3) := by decide +kernel
theorem dX7_falls_126 : decode cX7_falls 126 = .ok (.aload_n 0, 1) := by decide +kernel
theorem dX7_falls_127 : decode cX7_falls 127 = .ok (.getfield 342, 3) := by decide +kernel
theorem dX7_falls_130 : decode cX7_falls 130 = .ok (.lmul, 1) := by decide +kernel
theorem dX7_falls_131 : decode cX7_falls 131 = .ok (.invokevirtual 325, 3) := by decide +kernel
theorem dX7_falls_134 : decode cX7_falls 134 = .ok (.iconst 0, 1) := by decide +kernel
theorem dX7_falls_135 : decode cX7_falls 135 = .ok (.ireturn, 1) := by decide +kernel
theorem dX7_isGreater_0 : decode cX7_isGreater 0 = .ok (.lload_n 0, 1) := by decide +kernel
theorem dX7_isGreater_1 : decode cX7_isGreater 1 = .ok (.lload_n 2, 1) := by decide +kernel
theorem dX7_isGreater_2 : decode cX7_isGreater 2 = .ok (.ldiv, 1) := by decide +kernel
theorem dX7_isGreater_3 : decode cX7_isGreater 3 = .ok (.lload 4, 2) := by decide +kernel
theorem dX7_isGreater_5 : decode cX7_isGreater 5 = .ok (.lload 6, 2) := by decide +kernel
theorem dX7_isGreater_7 : decode cX7_isGreater 7 = .ok (.ldiv, 1) := by decide +kernel
theorem dX7_isGreater_8 : decode cX7_isGreater 8 = .ok (.lcmp, 1) := by decide +kernel
theorem dX7_isGreater_9 : decode cX7_isGreater 9 = .ok (.ifCond .eq 23, 3) := by decide +kernel
theorem dX7_isGreater_12 : decode cX7_isGreater 12 = .ok (.lload_n 0, 1) := by decide +kernel
theorem dX7_isGreater_13 : decode cX7_isGreater 13 = .ok (.lload_n 2, 1) := by decide +kernel
theorem dX7_isGreater_14 : decode cX7_isGreater 14 = .ok (.ldiv, 1) := by decide +kernel
theorem dX7_isGreater_15 : decode cX7_isGreater 15 = .ok (.lload 4, 2) := by decide +kernel
theorem dX7_isGreater_17 : decode cX7_isGreater 17 = .ok (.lload 6, 2) := by decide +kernel
theorem dX7_isGreater_19 : decode cX7_isGreater 19 = .ok (.ldiv, 1) := by decide +kernel
theorem dX7_isGreater_20 : decode cX7_isGreater 20 = .ok (.lcmp, 1) := by decide +kernel
theorem dX7_isGreater_21 : decode cX7_isGreater 21 = .ok (.ifCond .le 7, 3) := by decide +kernel
theorem dX7_isGreater_24 : decode cX7_isGreater 24 = .ok (.iconst 1, 1) := by decide +kernel
theorem dX7_isGreater_25 : decode cX7_isGreater 25 = .ok (.goto 29, 3) := by decide +kernel
theorem dX7_isGreater_28 : decode cX7_isGreater 28 = .ok (.iconst 0, 1) := by decide +kernel
theorem dX7_isGreater_29 : decode cX7_isGreater 29 = .ok (.goto 25, 3) := by decide +kernel
theorem dX7_isGreater_32 : decode cX7_isGreater 32 = .ok (.lload_n 0, 1) := by decide +kernel
theorem dX7_isGreater_33 : decode cX7_isGreater 33 = .ok (.lload_n 2, 1) := by decide +kernel
theorem dX7_isGreater_34 : decode cX7_isGreater 34 = .ok (.lrem, 1) := by decide +kernel
theorem dX7_isGreater_35 : decode cX7_isGreater 35 = .ok (.lload 6, 2) := by decide +kernel
theorem dX7_isGreater_37 : decode cX7_isGreater 37 = .ok (.lmul, 1) := by decide +kernel
theorem dX7_isGreater_38 : decode cX7_isGreater 38 = .ok (.lload 4, 2) := by decide +kernel
theorem dX7_isGreater_40 : decode cX7_isGreater 40 = .ok (.lload 6, 2) := by decide +kernel
theorem dX7_isGreater_42 : decode cX7_isGreater 42 = .ok (.lrem, 1) := by decide +kernel
theorem dX7_isGreater_43 : decode cX7_isGreater 43 = .ok (.lload_n 2, 1) := by decide +kernel
theorem dX7_isGreater_44 : decode cX7_isGreater 44 = .ok (.lmul, 1) := by decide +kernel
theorem dX7_isGreater_45 : decode cX7_isGreater 45 = .ok (.lcmp, 1) := by decide +kernel
theorem dX7_isGreater_46 : decode cX7_isGreater 46 = .ok (.ifCond .le 7, 3) := by decide +kernel
theorem dX7_isGreater_49 : decode cX7_isGreater 49 = .ok (.iconst 1, 1) := by decide +kernel
theorem dX7_isGreater_50 : decode cX7_isGreater 50 = .ok (.goto 4, 3) := by decide +kernel
theorem dX7_isGreater_53 : decode cX7_isGreater 53 = .ok (.iconst 0, 1) := by decide +kernel
theorem dX7_isGreater_54 : decode cX7_isGreater 54 = .ok (.ireturn, 1) := by decide +kernel
theorem dX7_opens_0 : decode cX7_opens 0 = .ok (.aload_n 0, 1) := by decide +kernel
theorem dX7_opens_1 : decode cX7_opens 1 = .ok (.iconst 0, 1) := by decide +kernel
theorem dX7_opens_2 : decode cX7_opens 2 = .ok (.putfield 107, 3) := by decide +kernel
theorem dX7_opens_5 : decode cX7_opens 5 = .ok (.aload_n 0, 1) := by decide +kernel
theorem dX7_opens_6 : decode cX7_opens 6 = .ok (.getfield 127, 3) := by decide +kernel
theorem dX7_opens_9 : decode cX7_opens 9 = .ok (.ifCond .eq 10, 3) := by decide +kernel
theorem dX7_opens_12 : decode cX7_opens 12 = .ok (.iload_n 1, 1) := by decide +kernel
theorem dX7_opens_13 : decode cX7_opens 13 = .ok (.invokestatic 319, 3) := by decide +kernel
theorem dX7_opens_16 : decode cX7_opens 16 = .ok (.ifCond .ne 5, 3) := by decide +kernel
theorem dX7_opens_19 : decode cX7_opens 19 = .ok (.iconst (-1), 1) := by decide +kernel
theorem dX7_opens_20 : decode cX7_opens 20 = .ok (.ireturn, 1) := by decide +kernel
theorem dX7_opens_21 : decode cX7_opens 21 = .ok (.aload_n 0, 1) := by decide +kernel
theorem dX7_opens_22 : decode cX7_opens 22 = .ok (.iload_n 1, 1) := by decide +kernel
theorem dX7_opens_23 : decode cX7_opens 23 = .ok (.invokevirtual 322, 3) := by decide +kernel
theorem dX7_opens_26 : decode cX7_opens 26 = .ok (.ifCond .ne 6, 3) := by decide +kernel
theorem dX7_opens_29 : decode cX7_opens 29 = .ok (.bipush (-2), 2) := by decide +kernel
theorem dX7_opens_31 : decode cX7_opens 31 = .ok (.ireturn, 1) := by decide +kernel
theorem dX7_opens_32 : decode cX7_opens 32 = .ok (.iconst 0, 1) := by decide +kernel
theorem dX7_opens_33 : decode cX7_opens 33 = .ok (.istore_n 2, 1) := by decide +kernel
theorem dX7_opens_34 : decode cX7_opens 34 = .ok (.iconst 0, 1) := by decide +kernel
theorem dX7_opens_35 : decode cX7_opens 35 = .ok (.istore_n 3, 1) := by decide +kernel
theorem dX7_opens_36 : decode cX7_opens 36 = .ok (.iload_n 3, 1) := by decide +kernel
theorem dX7_opens_37 : decode cX7_opens 37 = .ok (.aload_n 0, 1) := by decide +kernel
theorem dX7_opens_38 : decode cX7_opens 38 = .ok (.getfield 127, 3) := by decide +kernel
theorem dX7_opens_41 : decode cX7_opens 41 = .ok (.if_icmp .ge 29, 3) := by decide +kernel
theorem dX7_opens_44 : decode cX7_opens 44 = .ok (.iload_n 2, 1) := by decide +kernel
theorem dX7_opens_45 : decode cX7_opens 45 = .ok (.aload_n 0, 1) := by decide +kernel
theorem dX7_opens_46 : decode cX7_opens 46 = .ok (.iload_n 3, 1) := by decide +kernel
theorem dX7_opens_47 : decode cX7_opens 47 = .ok (.invokevirtual 286, 3) := by decide +kernel
theorem dX7_opens_50 : decode cX7_opens 50 = .ok (.lconst 0, 1) := by decide +kernel
theorem dX7_opens_51 : decode cX7_opens 51 = .ok (.lcmp, 1) := by decide +kernel
theorem dX7_opens_52 : decode cX7_opens 52 = .ok (.ifCond .le 9, 3) := by decide +kernel
theorem dX7_opens_55 : decode cX7_opens 55 = .ok (.iconst 1, 1) := by decide +kernel
theorem dX7_opens_56 : decode cX7_opens 56 = .ok (.iload_n 3, 1) := by decide +kernel
theorem dX7_opens_57 : decode cX7_opens 57 = .ok (.ishl, 1) := by decide +kernel
theorem dX7_opens_58 : decode cX7_opens 58 = .ok (.goto 4, 3) := by decide +kernel
theorem dX7_opens_61 : decode cX7_opens 61 = .ok (.iconst 0, 1) := by decide +kernel
theorem dX7_opens_62 : decode cX7_opens 62 = .ok (.ior, 1) := by decide +kernel
theorem dX7_opens_63 : decode cX7_opens 63 = .ok (.istore_n 2, 1) := by decide +kernel
theorem dX7_opens_64 : decode cX7_opens 64 = .ok (.iinc 3 1, 3) := by decide +kernel
theorem dX7_opens_67 : decode cX7_opens 67 = .ok (.goto (-31), 3) := by decide +kernel
theorem dX7_opens_70 : decode cX7_opens 70 = .ok (.iload_n 2, 1) := by decide +kernel
theorem dX7_opens_71 : decode cX7_opens 71 = .ok (.ifCond .ne 6, 3) := by decide +kernel
theorem dX7_opens_74 : decode cX7_opens 74 = .ok (.bipush (-3), 2) := by decide +kernel
theorem dX7_opens_76 : decode cX7_opens 76 = .ok (.ireturn, 1) := by decide +kernel
theorem dX7_opens_77 : decode cX7_opens 77 = .ok (.aload_n 0, 1) := by decide +kernel
theorem dX7_opens_78 : decode cX7_opens 78 = .ok (.invokevirtual 345, 3) := by decide +kernel
theorem dX7_opens_81 : decode cX7_opens 81 = .ok (.aload_n 0, 1) := by decide +kernel
theorem dX7_opens_82 : decode cX7_opens 82 = .ok (.iload_n 2, 1) := by decide +kernel
theorem dX7_opens_83 : decode cX7_opens 83 = .ok (.invokevirtual 348, 3) := by decide +kernel
theorem dX7_opens_86 : decode cX7_opens 86 = .ok (.iconst (-1), 1) := by decide +kernel
theorem dX7_opens_87 : decode cX7_opens 87 = .ok (.istore_n 3, 1) := by decide +kernel
theorem dX7_opens_88 : decode cX7_opens 88 = .ok (.iconst 0, 1) := by decide +kernel
theorem dX7_opens_89 : decode cX7_opens 89 = .ok (.istore 4, 2) := by decide +kernel
theorem dX7_opens_91 : decode cX7_opens 91 = .ok (.iload 4, 2) := by decide +kernel
theorem dX7_opens_93 : decode cX7_opens 93 = .ok (.aload_n 0, 1) := by decide +kernel
theorem dX7_opens_94 : decode cX7_opens 94 = .ok (.getfield 127, 3) := by decide +kernel
theorem dX7_opens_97 : decode cX7_opens 97 = .ok (.if_icmp .ge 63, 3) := by decide +kernel
theorem dX7_opens_100 : decode cX7_opens 100 = .ok (.iload_n 2, 1) := by decide +kernel
theorem dX7_opens_101 : decode cX7_opens 101 = .ok (.iload 4, 2) := by decide +kernel
theorem dX7_opens_103 : decode cX7_opens 103 = .ok (.ishr, 1) := by decide +kernel
theorem dX7_opens_104 : decode cX7_opens 104 = .ok (.iconst 1, 1) := by decide +kernel
theorem dX7_opens_105 : decode cX7_opens 105 = .ok (.iand, 1) := by decide +kernel
theorem dX7_opens_106 : decode cX7_opens 106 = .ok (.ifCond .ne 6, 3) := by decide +kernel
theorem dX7_opens_109 : decode cX7_opens 109 = .ok (.goto 45, 3) := by decide +kernel
theorem dX7_opens_112 : decode cX7_opens 112 = .ok (.iload_n 3, 1) := by decide +kernel
theorem dX7_opens_113 : decode cX7_opens 113 = .ok (.iconst (-1), 1) := by decide +kernel
theorem dX7_opens_114 : decode cX7_opens 114 = .ok (.if_icmp .eq 37, 3) := by decide +kernel
theorem dX7_opens_117 : decode cX7_opens 117 = .ok (.aload_n 0, 1) := by decide +kernel
theorem dX7_opens_118 : decode cX7_opens 118 = .ok (.getfield 37, 3) := by decide +kernel
theorem dX7_opens_121 : decode cX7_opens 121 = .ok (.iload 4, 2) := by decide +kernel
theorem dX7_opens_123 : decode cX7_opens 123 = .ok (.laload, 1) := by decide +kernel
theorem dX7_opens_124 : decode cX7_opens 124 = .ok (.lneg, 1) := by decide +kernel
theorem dX7_opens_125 : decode cX7_opens 125 = .ok (.aload_n 0, 1) := by decide +kernel
theorem dX7_opens_126 : decode cX7_opens 126 = .ok (.getfield 34, 3) := by decide +kernel
theorem dX7_opens_129 : decode cX7_opens 129 = .ok (.iload 4, 2) := by decide +kernel
theorem dX7_opens_131 : decode cX7_opens 131 = .ok (.laload, 1) := by decide +kernel
theorem dX7_opens_132 : decode cX7_opens 132 = .ok (.aload_n 0, 1) := by decide +kernel
theorem dX7_opens_133 : decode cX7_opens 133 = .ok (.getfield 37, 3) := by decide +kernel
theorem dX7_opens_136 : decode cX7_opens 136 = .ok (.iload_n 3, 1) := by decide +kernel
theorem dX7_opens_137 : decode cX7_opens 137 = .ok (.laload, 1) := by decide +kernel
theorem dX7_opens_138 : decode cX7_opens 138 = .ok (.lneg, 1) := by decide +kernel
theorem dX7_opens_139 : decode cX7_opens 139 = .ok (.aload_n 0, 1) := by decide +kernel
theorem dX7_opens_140 : decode cX7_opens 140 = .ok (.getfield 34, 3) := by decide +kernel
theorem dX7_opens_143 : decode cX7_opens 143 = .ok (.iload_n 3, 1) := by decide +kernel
theorem dX7_opens_144 : decode cX7_opens 144 = .ok (.laload, 1) := by decide +kernel
theorem dX7_opens_145 : decode cX7_opens 145 = .ok (.invokestatic 370, 3) := by decide +kernel
theorem dX7_opens_148 : decode cX7_opens 148 = .ok (.ifCond .eq 6, 3) := by decide +kernel
theorem dX7_opens_151 : decode cX7_opens 151 = .ok (.iload 4, 2) := by decide +kernel
theorem dX7_opens_153 : decode cX7_opens 153 = .ok (.istore_n 3, 1) := by decide +kernel
theorem dX7_opens_154 : decode cX7_opens 154 = .ok (.iinc 4 1, 3) := by decide +kernel
theorem dX7_opens_157 : decode cX7_opens 157 = .ok (.goto (-66), 3) := by decide +kernel
theorem dX7_opens_160 : decode cX7_opens 160 = .ok (.aload_n 0, 1) := by decide +kernel
theorem dX7_opens_161 : decode cX7_opens 161 = .ok (.iconst 0, 1) := by decide +kernel
theorem dX7_opens_162 : decode cX7_opens 162 = .ok (.putfield 110, 3) := by decide +kernel
theorem dX7_opens_165 : decode cX7_opens 165 = .ok (.aload_n 0, 1) := by decide +kernel
theorem dX7_opens_166 : decode cX7_opens 166 = .ok (.aload_n 0, 1) := by decide +kernel
theorem dX7_opens_167 : decode cX7_opens 167 = .ok (.getfield 37, 3) := by decide +kernel
theorem dX7_opens_170 : decode cX7_opens 170 = .ok (.iload_n 3, 1) := by decide +kernel
theorem dX7_opens_171 : decode cX7_opens 171 = .ok (.laload, 1) := by decide +kernel
theorem dX7_opens_172 : decode cX7_opens 172 = .ok (.lneg, 1) := by decide +kernel
theorem dX7_opens_173 : decode cX7_opens 173 = .ok (.aload_n 0, 1) := by decide +kernel
theorem dX7_opens_174 : decode cX7_opens 174 = .ok (.getfield 34, 3) := by decide +kernel
theorem dX7_opens_177 : decode cX7_opens 177 = .ok (.iload_n 3, 1) := by decide +kernel
theorem dX7_opens_178 : decode cX7_opens 178 = .ok (.laload, 1) := by decide +kernel
theorem dX7_opens_179 : decode cX7_opens 179 = .ok (.aload_n 0, 1) := by decide +kernel
theorem dX7_opens_180 : decode cX7_opens 180 = .ok (.getfield 342, 3) := by decide +kernel
theorem dX7_opens_183 : decode cX7_opens 183 = .ok (.lmul, 1) := by decide +kernel
theorem dX7_opens_184 : decode cX7_opens 184 = .ok (.invokevirtual 325, 3) := by decide +kernel
theorem dX7_opens_187 : decode cX7_opens 187 = .ok (.iload_n 3, 1) := by decide +kernel
theorem dX7_opens_188 : decode cX7_opens 188 = .ok (.ireturn, 1) := by decide +kernel
theorem dX7_kindMany_0 : decode cX7_kindMany 0 = .ok (.iconst 0, 1) := by decide +kernel
theorem dX7_kindMany_1 : decode cX7_kindMany 1 = .ok (.istore_n 2, 1) := by decide +kernel
theorem dX7_kindMany_2 : decode cX7_kindMany 2 = .ok (.iconst 0, 1) := by decide +kernel
theorem dX7_kindMany_3 : decode cX7_kindMany 3 = .ok (.istore_n 3, 1) := by decide +kernel
theorem dX7_kindMany_4 : decode cX7_kindMany 4 = .ok (.iload_n 3, 1) := by decide +kernel
theorem dX7_kindMany_5 : decode cX7_kindMany 5 = .ok (.aload_n 0, 1) := by decide +kernel
theorem dX7_kindMany_6 : decode cX7_kindMany 6 = .ok (.getfield 246, 3) := by decide +kernel
theorem dX7_kindMany_9 : decode cX7_kindMany 9 = .ok (.if_icmp .ge 27, 3) := by decide +kernel
theorem dX7_kindMany_12 : decode cX7_kindMany 12 = .ok (.iload_n 2, 1) := by decide +kernel
theorem dX7_kindMany_13 : decode cX7_kindMany 13 = .ok (.aload_n 0, 1) := by decide +kernel
theorem dX7_kindMany_14 : decode cX7_kindMany 14 = .ok (.getfield 55, 3) := by decide +kernel
theorem dX7_kindMany_17 : decode cX7_kindMany 17 = .ok (.iload_n 3, 1) := by decide +kernel
theorem dX7_kindMany_18 : decode cX7_kindMany 18 = .ok (.iaload, 1) := by decide +kernel
theorem dX7_kindMany_19 : decode cX7_kindMany 19 = .ok (.iload_n 1, 1) := by decide +kernel
theorem dX7_kindMany_20 : decode cX7_kindMany 20 = .ok (.if_icmp .ne 7, 3) := by decide +kernel
theorem dX7_kindMany_23 : decode cX7_kindMany 23 = .ok (.iconst 1, 1) := by decide +kernel
theorem dX7_kindMany_24 : decode cX7_kindMany 24 = .ok (.goto 4, 3) := by decide +kernel
theorem dX7_kindMany_27 : decode cX7_kindMany 27 = .ok (.iconst 0, 1) := by decide +kernel
theorem dX7_kindMany_28 : decode cX7_kindMany 28 = .ok (.iadd, 1) := by decide +kernel
theorem dX7_kindMany_29 : decode cX7_kindMany 29 = .ok (.istore_n 2, 1) := by decide +kernel
theorem dX7_kindMany_30 : decode cX7_kindMany 30 = .ok (.iinc 3 1, 3) := by decide +kernel
theorem dX7_kindMany_33 : decode cX7_kindMany 33 = .ok (.goto (-29), 3) := by decide +kernel
theorem dX7_kindMany_36 : decode cX7_kindMany 36 = .ok (.iload_n 2, 1) := by decide +kernel
theorem dX7_kindMany_37 : decode cX7_kindMany 37 = .ok (.ireturn, 1) := by decide +kernel
theorem dX7_events_0 : decode cX7_events 0 = .ok (.aload_n 0, 1) := by decide +kernel
theorem dX7_events_1 : decode cX7_events 1 = .ok (.iconst 0, 1) := by decide +kernel
theorem dX7_events_2 : decode cX7_events 2 = .ok (.putfield 107, 3) := by decide +kernel
theorem dX7_events_5 : decode cX7_events 5 = .ok (.aload_n 0, 1) := by decide +kernel
theorem dX7_events_6 : decode cX7_events 6 = .ok (.invokevirtual 336, 3) := by decide +kernel
theorem dX7_events_9 : decode cX7_events 9 = .ok (.aload_n 0, 1) := by decide +kernel
theorem dX7_events_10 : decode cX7_events 10 = .ok (.iconst 0, 1) := by decide +kernel
theorem dX7_events_11 : decode cX7_events 11 = .ok (.putfield 110, 3) := by decide +kernel
theorem dX7_events_14 : decode cX7_events 14 = .ok (.iconst 0, 1) := by decide +kernel
theorem dX7_events_15 : decode cX7_events 15 = .ok (.istore_n 1, 1) := by decide +kernel
theorem dX7_events_16 : decode cX7_events 16 = .ok (.iload_n 1, 1) := by decide +kernel
theorem dX7_events_17 : decode cX7_events 17 = .ok (.iconst 3, 1) := by decide +kernel
theorem dX7_events_18 : decode cX7_events 18 = .ok (.if_icmp .ge 19, 3) := by decide +kernel
theorem dX7_events_21 : decode cX7_events 21 = .ok (.aload_n 0, 1) := by decide +kernel
theorem dX7_events_22 : decode cX7_events 22 = .ok (.aload_n 0, 1) := by decide +kernel
theorem dX7_events_23 : decode cX7_events 23 = .ok (.iload_n 1, 1) := by decide +kernel
theorem dX7_events_24 : decode cX7_events 24 = .ok (.invokevirtual 374, 3) := by decide +kernel
theorem dX7_events_27 : decode cX7_events 27 = .ok (.i2l, 1) := by decide +kernel
theorem dX7_events_28 : decode cX7_events 28 = .ok (.invokevirtual 123, 3) := by decide +kernel
theorem dX7_events_31 : decode cX7_events 31 = .ok (.iinc 1 1, 3) := by decide +kernel
theorem dX7_events_34 : decode cX7_events 34 = .ok (.goto (-18), 3) := by decide +kernel
theorem dX7_events_37 : decode cX7_events 37 = .ok (.aload_n 0, 1) := by decide +kernel
theorem dX7_events_38 : decode cX7_events 38 = .ok (.getfield 246, 3) := by decide +kernel
theorem dX7_events_41 : decode cX7_events 41 = .ok (.ireturn, 1) := by decide +kernel
theorem dX7_event_0 : decode cX7_event 0 = .ok (.aload_n 0, 1) := by decide +kernel
theorem dX7_event_1 : decode cX7_event 1 = .ok (.iconst 0, 1) := by decide +kernel
theorem dX7_event_2 : decode cX7_event 2 = .ok (.putfield 107, 3) := by decide +kernel
theorem dX7_event_5 : decode cX7_event 5 = .ok (.aload_n 0, 1) := by decide +kernel
theorem dX7_event_6 : decode cX7_event 6 = .ok (.invokevirtual 336, 3) := by decide +kernel
theorem dX7_event_9 : decode cX7_event 9 = .ok (.iload_n 1, 1) := by decide +kernel
theorem dX7_event_10 : decode cX7_event 10 = .ok (.i2l, 1) := by decide +kernel
theorem dX7_event_11 : decode cX7_event 11 = .ok (.lconst 0, 1) := by decide +kernel
theorem dX7_event_12 : decode cX7_event 12 = .ok (.aload_n 0, 1) := by decide +kernel
theorem dX7_event_13 : decode cX7_event 13 = .ok (.getfield 246, 3) := by decide +kernel
theorem dX7_event_16 : decode cX7_event 16 = .ok (.iconst 1, 1) := by decide +kernel
theorem dX7_event_17 : decode cX7_event 17 = .ok (.isub, 1) := by decide +kernel
theorem dX7_event_18 : decode cX7_event 18 = .ok (.i2l, 1) := by decide +kernel
theorem dX7_event_19 : decode cX7_event 19 = .ok (.invokestatic 130, 3) := by decide +kernel
theorem dX7_event_22 : decode cX7_event 22 = .ok (.ifCond .ne 5, 3) := by decide +kernel
theorem dX7_event_25 : decode cX7_event 25 = .ok (.iconst (-1), 1) := by decide +kernel
theorem dX7_event_26 : decode cX7_event 26 = .ok (.ireturn, 1) := by decide +kernel
theorem dX7_event_27 : decode cX7_event 27 = .ok (.aload_n 0, 1) := by decide +kernel
theorem dX7_event_28 : decode cX7_event 28 = .ok (.iconst 0, 1) := by decide +kernel
theorem dX7_event_29 : decode cX7_event 29 = .ok (.putfield 110, 3) := by decide +kernel
theorem dX7_event_32 : decode cX7_event 32 = .ok (.aload_n 0, 1) := by decide +kernel
theorem dX7_event_33 : decode cX7_event 33 = .ok (.aload_n 0, 1) := by decide +kernel
theorem dX7_event_34 : decode cX7_event 34 = .ok (.getfield 58, 3) := by decide +kernel
theorem dX7_event_37 : decode cX7_event 37 = .ok (.iload_n 1, 1) := by decide +kernel
theorem dX7_event_38 : decode cX7_event 38 = .ok (.iaload, 1) := by decide +kernel
theorem dX7_event_39 : decode cX7_event 39 = .ok (.i2l, 1) := by decide +kernel
theorem dX7_event_40 : decode cX7_event 40 = .ok (.invokevirtual 123, 3) := by decide +kernel
theorem dX7_event_43 : decode cX7_event 43 = .ok (.aload_n 0, 1) := by decide +kernel
theorem dX7_event_44 : decode cX7_event 44 = .ok (.aload_n 0, 1) := by decide +kernel
theorem dX7_event_45 : decode cX7_event 45 = .ok (.getfield 61, 3) := by decide +kernel
theorem dX7_event_48 : decode cX7_event 48 = .ok (.iload_n 1, 1) := by decide +kernel
theorem dX7_event_49 : decode cX7_event 49 = .ok (.laload, 1) := by decide +kernel
theorem dX7_event_50 : decode cX7_event 50 = .ok (.aload_n 0, 1) := by decide +kernel
theorem dX7_event_51 : decode cX7_event 51 = .ok (.getfield 64, 3) := by decide +kernel
theorem dX7_event_54 : decode cX7_event 54 = .ok (.iload_n 1, 1) := by decide +kernel
theorem dX7_event_55 : decode cX7_event 55 = .ok (.laload, 1) := by decide +kernel
theorem dX7_event_56 : decode cX7_event 56 = .ok (.invokevirtual 325, 3) := by decide +kernel
theorem dX7_event_59 : decode cX7_event 59 = .ok (.aload_n 0, 1) := by decide +kernel
theorem dX7_event_60 : decode cX7_event 60 = .ok (.getfield 55, 3) := by decide +kernel
theorem dX7_event_63 : decode cX7_event 63 = .ok (.iload_n 1, 1) := by decide +kernel
theorem dX7_event_64 : decode cX7_event 64 = .ok (.iaload, 1) := by decide +kernel
theorem dX7_event_65 : decode cX7_event 65 = .ok (.ireturn, 1) := by decide +kernel
theorem dX7_peak_0 : decode cX7_peak 0 = .ok (.aload_n 0, 1) := by decide +kernel
theorem dX7_peak_1 : decode cX7_peak 1 = .ok (.iconst 0, 1) := by decide +kernel
theorem dX7_peak_2 : decode cX7_peak 2 = .ok (.putfield 107, 3) := by decide +kernel
theorem dX7_peak_5 : decode cX7_peak 5 = .ok (.aload_n 0, 1) := by decide +kernel
theorem dX7_peak_6 : decode cX7_peak 6 = .ok (.invokevirtual 336, 3) := by decide +kernel
theorem dX7_peak_9 : decode cX7_peak 9 = .ok (.iconst 0, 1) := by decide +kernel
theorem dX7_peak_10 : decode cX7_peak 10 = .ok (.istore_n 1, 1) := by decide +kernel
theorem dX7_peak_11 : decode cX7_peak 11 = .ok (.iconst 0, 1) := by decide +kernel
theorem dX7_peak_12 : decode cX7_peak 12 = .ok (.istore_n 2, 1) := by decide +kernel
theorem dX7_peak_13 : decode cX7_peak 13 = .ok (.iload_n 2, 1) := by decide +kernel
theorem dX7_peak_14 : decode cX7_peak 14 = .ok (.aload_n 0, 1) := by decide +kernel
theorem dX7_peak_15 : decode cX7_peak 15 = .ok (.getfield 246, 3) := by decide +kernel
theorem dX7_peak_18 : decode cX7_peak 18 = .ok (.if_icmp .ge 55, 3) := by decide +kernel
theorem dX7_peak_21 : decode cX7_peak 21 = .ok (.iload_n 1, 1) := by decide +kernel
theorem dX7_peak_22 : decode cX7_peak 22 = .ok (.aload_n 0, 1) := by decide +kernel
theorem dX7_peak_23 : decode cX7_peak 23 = .ok (.getfield 55, 3) := by decide +kernel
theorem dX7_peak_26 : decode cX7_peak 26 = .ok (.iload_n 2, 1) := by decide +kernel
theorem dX7_peak_27 : decode cX7_peak 27 = .ok (.iaload, 1) := by decide +kernel
theorem dX7_peak_28 : decode cX7_peak 28 = .ok (.iconst 2, 1) := by decide +kernel
theorem dX7_peak_29 : decode cX7_peak 29 = .ok (.if_icmp .ne 35, 3) := by decide +kernel
theorem dX7_peak_32 : decode cX7_peak 32 = .ok (.aload_n 0, 1) := by decide +kernel
theorem dX7_peak_33 : decode cX7_peak 33 = .ok (.getfield 61, 3) := by decide +kernel
theorem dX7_peak_36 : decode cX7_peak 36 = .ok (.iload_n 2, 1) := by decide +kernel
theorem dX7_peak_37 : decode cX7_peak 37 = .ok (.laload, 1) := by decide +kernel
theorem dX7_peak_38 : decode cX7_peak 38 = .ok (.aload_n 0, 1) := by decide +kernel
theorem dX7_peak_39 : decode cX7_peak 39 = .ok (.getfield 240, 3) := by decide +kernel
theorem dX7_peak_42 : decode cX7_peak 42 = .ok (.lcmp, 1) := by decide +kernel
theorem dX7_peak_43 : decode cX7_peak 43 = .ok (.ifCond .ne 21, 3) := by decide +kernel
theorem dX7_peak_46 : decode cX7_peak 46 = .ok (.aload_n 0, 1) := by decide +kernel
theorem dX7_peak_47 : decode cX7_peak 47 = .ok (.getfield 64, 3) := by decide +kernel
theorem dX7_peak_50 : decode cX7_peak 50 = .ok (.iload_n 2, 1) := by decide +kernel
theorem dX7_peak_51 : decode cX7_peak 51 = .ok (.laload, 1) := by decide +kernel
theorem dX7_peak_52 : decode cX7_peak 52 = .ok (.aload_n 0, 1) := by decide +kernel
theorem dX7_peak_53 : decode cX7_peak 53 = .ok (.getfield 243, 3) := by decide +kernel
theorem dX7_peak_56 : decode cX7_peak 56 = .ok (.lcmp, 1) := by decide +kernel
theorem dX7_peak_57 : decode cX7_peak 57 = .ok (.ifCond .ne 7, 3) := by decide +kernel
theorem dX7_peak_60 : decode cX7_peak 60 = .ok (.iconst 1, 1) := by decide +kernel
theorem dX7_peak_61 : decode cX7_peak 61 = .ok (.goto 4, 3) := by decide +kernel
theorem dX7_peak_64 : decode cX7_peak 64 = .ok (.iconst 0, 1) := by decide +kernel
theorem dX7_peak_65 : decode cX7_peak 65 = .ok (.iadd, 1) := by decide +kernel
theorem dX7_peak_66 : decode cX7_peak 66 = .ok (.istore_n 1, 1) := by decide +kernel
theorem dX7_peak_67 : decode cX7_peak 67 = .ok (.iinc 2 1, 3) := by decide +kernel
theorem dX7_peak_70 : decode cX7_peak 70 = .ok (.goto (-57), 3) := by decide +kernel
theorem dX7_peak_73 : decode cX7_peak 73 = .ok (.aload_n 0, 1) := by decide +kernel
theorem dX7_peak_74 : decode cX7_peak 74 = .ok (.iconst 0, 1) := by decide +kernel
theorem dX7_peak_75 : decode cX7_peak 75 = .ok (.putfield 110, 3) := by decide +kernel
theorem dX7_peak_78 : decode cX7_peak 78 = .ok (.aload_n 0, 1) := by decide +kernel
theorem dX7_peak_79 : decode cX7_peak 79 = .ok (.aload_n 0, 1) := by decide +kernel
theorem dX7_peak_80 : decode cX7_peak 80 = .ok (.getfield 240, 3) := by decide +kernel
theorem dX7_peak_83 : decode cX7_peak 83 = .ok (.aload_n 0, 1) := by decide +kernel
theorem dX7_peak_84 : decode cX7_peak 84 = .ok (.getfield 243, 3) := by decide +kernel
theorem dX7_peak_87 : decode cX7_peak 87 = .ok (.invokevirtual 325, 3) := by decide +kernel
theorem dX7_peak_90 : decode cX7_peak 90 = .ok (.iload_n 1, 1) := by decide +kernel
theorem dX7_peak_91 : decode cX7_peak 91 = .ok (.ireturn, 1) := by decide +kernel
theorem dX7_order_0 : decode cX7_order 0 = .ok (.aload_n 0, 1) := by decide +kernel
theorem dX7_order_1 : decode cX7_order 1 = .ok (.iconst 0, 1) := by decide +kernel
theorem dX7_order_2 : decode cX7_order 2 = .ok (.putfield 107, 3) := by decide +kernel
theorem dX7_order_5 : decode cX7_order 5 = .ok (.aload_n 0, 1) := by decide +kernel
theorem dX7_order_6 : decode cX7_order 6 = .ok (.invokevirtual 336, 3) := by decide +kernel
theorem dX7_order_9 : decode cX7_order 9 = .ok (.aload_n 0, 1) := by decide +kernel
theorem dX7_order_10 : decode cX7_order 10 = .ok (.iconst 0, 1) := by decide +kernel
theorem dX7_order_11 : decode cX7_order 11 = .ok (.putfield 110, 3) := by decide +kernel
theorem dX7_order_14 : decode cX7_order 14 = .ok (.iconst 0, 1) := by decide +kernel
theorem dX7_order_15 : decode cX7_order 15 = .ok (.istore_n 1, 1) := by decide +kernel
theorem dX7_order_16 : decode cX7_order 16 = .ok (.iload_n 1, 1) := by decide +kernel
theorem dX7_order_17 : decode cX7_order 17 = .ok (.aload_n 0, 1) := by decide +kernel
theorem dX7_order_18 : decode cX7_order 18 = .ok (.getfield 246, 3) := by decide +kernel
theorem dX7_order_21 : decode cX7_order 21 = .ok (.if_icmp .ge 30, 3) := by decide +kernel
theorem dX7_order_24 : decode cX7_order 24 = .ok (.aload_n 0, 1) := by decide +kernel
theorem dX7_order_25 : decode cX7_order 25 = .ok (.getfield 55, 3) := by decide +kernel
theorem dX7_order_28 : decode cX7_order 28 = .ok (.iload_n 1, 1) := by decide +kernel
theorem dX7_order_29 : decode cX7_order 29 = .ok (.iaload, 1) := by decide +kernel
theorem dX7_order_30 : decode cX7_order 30 = .ok (.iconst 2, 1) := by decide +kernel
theorem dX7_order_31 : decode cX7_order 31 = .ok (.if_icmp .ne 14, 3) := by decide +kernel
theorem dX7_order_34 : decode cX7_order 34 = .ok (.aload_n 0, 1) := by decide +kernel
theorem dX7_order_35 : decode cX7_order 35 = .ok (.aload_n 0, 1) := by decide +kernel
theorem dX7_order_36 : decode cX7_order 36 = .ok (.getfield 58, 3) := by decide +kernel
theorem dX7_order_39 : decode cX7_order 39 = .ok (.iload_n 1, 1) := by decide +kernel
theorem dX7_order_40 : decode cX7_order 40 = .ok (.iaload, 1) := by decide +kernel
theorem dX7_order_41 : decode cX7_order 41 = .ok (.i2l, 1) := by decide +kernel
theorem dX7_order_42 : decode cX7_order 42 = .ok (.invokevirtual 123, 3) := by decide +kernel
theorem dX7_order_45 : decode cX7_order 45 = .ok (.iinc 1 1, 3) := by decide +kernel
theorem dX7_order_48 : decode cX7_order 48 = .ok (.goto (-32), 3) := by decide +kernel
theorem dX7_order_51 : decode cX7_order 51 = .ok (.aload_n 0, 1) := by decide +kernel
theorem dX7_order_52 : decode cX7_order 52 = .ok (.getfield 110, 3) := by decide +kernel
theorem dX7_order_55 : decode cX7_order 55 = .ok (.ireturn, 1) := by decide +kernel
theorem dX7_eventOf_0 : decode cX7_eventOf 0 = .ok (.iconst 0, 1) := by decide +kernel
theorem dX7_eventOf_1 : decode cX7_eventOf 1 = .ok (.istore_n 3, 1) := by decide +kernel
theorem dX7_eventOf_2 : decode cX7_eventOf 2 = .ok (.iload_n 3, 1) := by decide +kernel
theorem dX7_eventOf_3 : decode cX7_eventOf 3 = .ok (.aload_n 0, 1) := by decide +kernel
theorem dX7_eventOf_4 : decode cX7_eventOf 4 = .ok (.getfield 246, 3) := by decide +kernel
theorem dX7_eventOf_7 : decode cX7_eventOf 7 = .ok (.if_icmp .ge 31, 3) := by decide +kernel
theorem dX7_eventOf_10 : decode cX7_eventOf 10 = .ok (.aload_n 0, 1) := by decide +kernel
theorem dX7_eventOf_11 : decode cX7_eventOf 11 = .ok (.getfield 55, 3) := by decide +kernel
theorem dX7_eventOf_14 : decode cX7_eventOf 14 = .ok (.iload_n 3, 1) := by decide +kernel
theorem dX7_eventOf_15 : decode cX7_eventOf 15 = .ok (.iaload, 1) := by decide +kernel
theorem dX7_eventOf_16 : decode cX7_eventOf 16 = .ok (.iload_n 1, 1) := by decide +kernel
theorem dX7_eventOf_17 : decode cX7_eventOf 17 = .ok (.if_icmp .ne 15, 3) := by decide +kernel
theorem dX7_eventOf_20 : decode cX7_eventOf 20 = .ok (.aload_n 0, 1) := by decide +kernel
theorem dX7_eventOf_21 : decode cX7_eventOf 21 = .ok (.getfield 58, 3) := by decide +kernel
theorem dX7_eventOf_24 : decode cX7_eventOf 24 = .ok (.iload_n 3, 1) := by decide +kernel
theorem dX7_eventOf_25 : decode cX7_eventOf 25 = .ok (.iaload, 1) := by decide +kernel
theorem dX7_eventOf_26 : decode cX7_eventOf 26 = .ok (.iload_n 2, 1) := by decide +kernel
theorem dX7_eventOf_27 : decode cX7_eventOf 27 = .ok (.if_icmp .ne 5, 3) := by decide +kernel
theorem dX7_eventOf_30 : decode cX7_eventOf 30 = .ok (.iload_n 3, 1) := by decide +kernel
theorem dX7_eventOf_31 : decode cX7_eventOf 31 = .ok (.ireturn, 1) := by decide +kernel
theorem dX7_eventOf_32 : decode cX7_eventOf 32 = .ok (.iinc 3 1, 3) := by decide +kernel
theorem dX7_eventOf_35 : decode cX7_eventOf 35 = .ok (.goto (-33), 3) := by decide +kernel
theorem dX7_eventOf_38 : decode cX7_eventOf 38 = .ok (.iconst (-1), 1) := by decide +kernel
theorem dX7_eventOf_39 : decode cX7_eventOf 39 = .ok (.ireturn, 1) := by decide +kernel
theorem dX7_when_0 : decode cX7_when 0 = .ok (.aload_n 0, 1) := by decide +kernel
theorem dX7_when_1 : decode cX7_when 1 = .ok (.iconst 0, 1) := by decide +kernel
theorem dX7_when_2 : decode cX7_when 2 = .ok (.putfield 107, 3) := by decide +kernel
theorem dX7_when_5 : decode cX7_when 5 = .ok (.iload_n 1, 1) := by decide +kernel
theorem dX7_when_6 : decode cX7_when 6 = .ok (.i2l, 1) := by decide +kernel
theorem dX7_when_7 : decode cX7_when 7 = .ok (.lconst 0, 1) := by decide +kernel
theorem dX7_when_8 : decode cX7_when 8 = .ok (.ldc2_w 153, 3) := by decide +kernel
theorem dX7_when_11 : decode cX7_when 11 = .ok (.invokestatic 130, 3) := by decide +kernel
theorem dX7_when_14 : decode cX7_when 14 = .ok (.ifCond .eq 11, 3) := by decide +kernel
theorem dX7_when_17 : decode cX7_when 17 = .ok (.aload_n 0, 1) := by decide +kernel
theorem dX7_when_18 : decode cX7_when 18 = .ok (.iload_n 2, 1) := by decide +kernel
theorem dX7_when_19 : decode cX7_when 19 = .ok (.invokevirtual 159, 3) := by decide +kernel
theorem dX7_when_22 : decode cX7_when 22 = .ok (.ifCond .ne 5, 3) := by decide +kernel
theorem dX7_when_25 : decode cX7_when 25 = .ok (.iconst (-1), 1) := by decide +kernel
theorem dX7_when_26 : decode cX7_when 26 = .ok (.ireturn, 1) := by decide +kernel
theorem dX7_when_27 : decode cX7_when 27 = .ok (.aload_n 0, 1) := by decide +kernel
theorem dX7_when_28 : decode cX7_when 28 = .ok (.invokevirtual 336, 3) := by decide +kernel
theorem dX7_when_31 : decode cX7_when 31 = .ok (.aload_n 0, 1) := by decide +kernel
theorem dX7_when_32 : decode cX7_when 32 = .ok (.iload_n 1, 1) := by decide +kernel
theorem dX7_when_33 : decode cX7_when 33 = .ok (.iload_n 2, 1) := by decide +kernel
theorem dX7_when_34 : decode cX7_when 34 = .ok (.invokevirtual 377, 3) := by decide +kernel
theorem dX7_when_37 : decode cX7_when 37 = .ok (.istore_n 3, 1) := by decide +kernel
theorem dX7_when_38 : decode cX7_when 38 = .ok (.iload_n 3, 1) := by decide +kernel
theorem dX7_when_39 : decode cX7_when 39 = .ok (.iconst (-1), 1) := by decide +kernel
theorem dX7_when_40 : decode cX7_when 40 = .ok (.if_icmp .ne 6, 3) := by decide +kernel
theorem dX7_when_43 : decode cX7_when 43 = .ok (.bipush (-2), 2) := by decide +kernel
theorem dX7_when_45 : decode cX7_when 45 = .ok (.ireturn, 1) := by decide +kernel
theorem dX7_when_46 : decode cX7_when 46 = .ok (.aload_n 0, 1) := by decide +kernel
theorem dX7_when_47 : decode cX7_when 47 = .ok (.iconst 0, 1) := by decide +kernel
theorem dX7_when_48 : decode cX7_when 48 = .ok (.putfield 110, 3) := by decide +kernel
theorem dX7_when_51 : decode cX7_when 51 = .ok (.aload_n 0, 1) := by decide +kernel
theorem dX7_when_52 : decode cX7_when 52 = .ok (.aload_n 0, 1) := by decide +kernel
theorem dX7_when_53 : decode cX7_when 53 = .ok (.getfield 61, 3) := by decide +kernel
theorem dX7_when_56 : decode cX7_when 56 = .ok (.iload_n 3, 1) := by decide +kernel
theorem dX7_when_57 : decode cX7_when 57 = .ok (.laload, 1) := by decide +kernel
theorem dX7_when_58 : decode cX7_when 58 = .ok (.aload_n 0, 1) := by decide +kernel
theorem dX7_when_59 : decode cX7_when 59 = .ok (.getfield 64, 3) := by decide +kernel
theorem dX7_when_62 : decode cX7_when 62 = .ok (.iload_n 3, 1) := by decide +kernel
theorem dX7_when_63 : decode cX7_when 63 = .ok (.laload, 1) := by decide +kernel
theorem dX7_when_64 : decode cX7_when 64 = .ok (.invokevirtual 325, 3) := by decide +kernel
theorem dX7_when_67 : decode cX7_when 67 = .ok (.iconst 0, 1) := by decide +kernel
theorem dX7_when_68 : decode cX7_when 68 = .ok (.ireturn, 1) := by decide +kernel
theorem dX7_layMore_0 : decode cX7_layMore 0 = .ok (.aload_n 0, 1) := by decide +kernel
theorem dX7_layMore_1 : decode cX7_layMore 1 = .ok (.getfield 83, 3) := by decide +kernel
theorem dX7_layMore_4 : decode cX7_layMore 4 = .ok (.iconst 5, 1) := by decide +kernel
theorem dX7_layMore_5 : decode cX7_layMore 5 = .ok (.iload_n 1, 1) := by decide +kernel
theorem dX7_layMore_6 : decode cX7_layMore 6 = .ok (.imul, 1) := by decide +kernel
theorem dX7_layMore_7 : decode cX7_layMore 7 = .ok (.iload_n 2, 1) := by decide +kernel
theorem dX7_layMore_8 : decode cX7_layMore 8 = .ok (.iadd, 1) := by decide +kernel
theorem dX7_layMore_9 : decode cX7_layMore 9 = .ok (.laload, 1) := by decide +kernel
theorem dX7_layMore_10 : decode cX7_layMore 10 = .ok (.lstore_n 3, 1) := by decide +kernel
theorem dX7_layMore_11 : decode cX7_layMore 11 = .ok (.aload_n 0, 1) := by decide +kernel
theorem dX7_layMore_12 : decode cX7_layMore 12 = .ok (.getfield 77, 3) := by decide +kernel
theorem dX7_layMore_15 : decode cX7_layMore 15 = .ok (.iconst 5, 1) := by decide +kernel
theorem dX7_layMore_16 : decode cX7_layMore 16 = .ok (.iload_n 1, 1) := by decide +kernel
theorem dX7_layMore_17 : decode cX7_layMore 17 = .ok (.imul, 1) := by decide +kernel
theorem dX7_layMore_18 : decode cX7_layMore 18 = .ok (.iload_n 2, 1) := by decide +kernel
theorem dX7_layMore_19 : decode cX7_layMore 19 = .ok (.iadd, 1) := by decide +kernel
theorem dX7_layMore_20 : decode cX7_layMore 20 = .ok (.laload, 1) := by decide +kernel
theorem dX7_layMore_21 : decode cX7_layMore 21 = .ok (.lstore 5, 2) := by decide +kernel
theorem dX7_layMore_23 : decode cX7_layMore 23 = .ok (.aload_n 0, 1) := by decide +kernel
theorem dX7_layMore_24 : decode cX7_layMore 24 = .ok (.getfield 86, 3) := by decide +kernel
theorem dX7_layMore_27 : decode cX7_layMore 27 = .ok (.iload_n 1, 1) := by decide +kernel
theorem dX7_layMore_28 : decode cX7_layMore 28 = .ok (.laload, 1) := by decide +kernel
theorem dX7_layMore_29 : decode cX7_layMore 29 = .ok (.aload_n 0, 1) := by decide +kernel
theorem dX7_layMore_30 : decode cX7_layMore 30 = .ok (.getfield 80, 3) := by decide +kernel
theorem dX7_layMore_33 : decode cX7_layMore 33 = .ok (.iload_n 1, 1) := by decide +kernel
theorem dX7_layMore_34 : decode cX7_layMore 34 = .ok (.laload, 1) := by decide +kernel
theorem dX7_layMore_35 : decode cX7_layMore 35 = .ok (.invokestatic 119, 3) := by decide +kernel
theorem dX7_layMore_38 : decode cX7_layMore 38 = .ok (.lstore 7, 2) := by decide +kernel
theorem dX7_layMore_40 : decode cX7_layMore 40 = .ok (.lload_n 3, 1) := by decide +kernel
theorem dX7_layMore_41 : decode cX7_layMore 41 = .ok (.aload_n 0, 1) := by decide +kernel
theorem dX7_layMore_42 : decode cX7_layMore 42 = .ok (.getfield 80, 3) := by decide +kernel
theorem dX7_layMore_45 : decode cX7_layMore 45 = .ok (.iload_n 1, 1) := by decide +kernel
theorem dX7_layMore_46 : decode cX7_layMore 46 = .ok (.laload, 1) := by decide +kernel
theorem dX7_layMore_47 : decode cX7_layMore 47 = .ok (.lload 7, 2) := by decide +kernel
theorem dX7_layMore_49 : decode cX7_layMore 49 = .ok (.ldiv, 1) := by decide +kernel
theorem dX7_layMore_50 : decode cX7_layMore 50 = .ok (.lmul, 1) := by decide +kernel
theorem dX7_layMore_51 : decode cX7_layMore 51 = .ok (.lload 5, 2) := by decide +kernel
theorem dX7_layMore_53 : decode cX7_layMore 53 = .ok (.aload_n 0, 1) := by decide +kernel
theorem dX7_layMore_54 : decode cX7_layMore 54 = .ok (.getfield 86, 3) := by decide +kernel
theorem dX7_layMore_57 : decode cX7_layMore 57 = .ok (.iload_n 1, 1) := by decide +kernel
theorem dX7_layMore_58 : decode cX7_layMore 58 = .ok (.laload, 1) := by decide +kernel
theorem dX7_layMore_59 : decode cX7_layMore 59 = .ok (.lload 7, 2) := by decide +kernel
theorem dX7_layMore_61 : decode cX7_layMore 61 = .ok (.ldiv, 1) := by decide +kernel
theorem dX7_layMore_62 : decode cX7_layMore 62 = .ok (.lmul, 1) := by decide +kernel
theorem dX7_layMore_63 : decode cX7_layMore 63 = .ok (.lsub, 1) := by decide +kernel
theorem dX7_layMore_64 : decode cX7_layMore 64 = .ok (.lstore 9, 2) := by decide +kernel
theorem dX7_layMore_66 : decode cX7_layMore 66 = .ok (.aload_n 0, 1) := by decide +kernel
theorem dX7_layMore_67 : decode cX7_layMore 67 = .ok (.getfield 86, 3) := by decide +kernel
theorem dX7_layMore_70 : decode cX7_layMore 70 = .ok (.iload_n 1, 1) := by decide +kernel
theorem dX7_layMore_71 : decode cX7_layMore 71 = .ok (.laload, 1) := by decide +kernel
theorem dX7_layMore_72 : decode cX7_layMore 72 = .ok (.lload 7, 2) := by decide +kernel
theorem dX7_layMore_74 : decode cX7_layMore 74 = .ok (.ldiv, 1) := by decide +kernel
theorem dX7_layMore_75 : decode cX7_layMore 75 = .ok (.aload_n 0, 1) := by decide +kernel
theorem dX7_layMore_76 : decode cX7_layMore 76 = .ok (.getfield 80, 3) := by decide +kernel
theorem dX7_layMore_79 : decode cX7_layMore 79 = .ok (.iload_n 1, 1) := by decide +kernel
theorem dX7_layMore_80 : decode cX7_layMore 80 = .ok (.laload, 1) := by decide +kernel
theorem dX7_layMore_81 : decode cX7_layMore 81 = .ok (.lmul, 1) := by decide +kernel
theorem dX7_layMore_82 : decode cX7_layMore 82 = .ok (.lstore 11, 2) := by decide +kernel
theorem dX7_layMore_84 : decode cX7_layMore 84 = .ok (.lload 9, 2) := by decide +kernel
theorem dX7_layMore_86 : decode cX7_layMore 86 = .ok (.lconst 0, 1) := by decide +kernel
theorem dX7_layMore_87 : decode cX7_layMore 87 = .ok (.lcmp, 1) := by decide +kernel
theorem dX7_layMore_88 : decode cX7_layMore 88 = .ok (.ifCond .ne 8, 3) := by decide +kernel
theorem dX7_layMore_91 : decode cX7_layMore 91 = .ok (.lload 11, 2) := by decide +kernel
theorem dX7_layMore_93 : decode cX7_layMore 93 = .ok (.goto 10, 3) := by decide +kernel
theorem dX7_layMore_96 : decode cX7_layMore 96 = .ok (.lload 9, 2) := by decide +kernel
theorem dX7_layMore_98 : decode cX7_layMore 98 = .ok (.lload 11, 2) := by decide +kernel
theorem dX7_layMore_100 : decode cX7_layMore 100 = .ok (.invokestatic 119, 3) := by decide +kernel
theorem dX7_layMore_103 : decode cX7_layMore 103 = .ok (.lstore 13, 2) := by decide +kernel
theorem dX7_layMore_105 : decode cX7_layMore 105 = .ok (.aload_n 0, 1) := by decide +kernel
theorem dX7_layMore_106 : decode cX7_layMore 106 = .ok (.getfield 92, 3) := by decide +kernel
theorem dX7_layMore_109 : decode cX7_layMore 109 = .ok (.iload_n 2, 1) := by decide +kernel
theorem dX7_layMore_110 : decode cX7_layMore 110 = .ok (.lload 9, 2) := by decide +kernel
theorem dX7_layMore_112 : decode cX7_layMore 112 = .ok (.lload 13, 2) := by decide +kernel
theorem dX7_layMore_114 : decode cX7_layMore 114 = .ok (.ldiv, 1) := by decide +kernel
theorem dX7_layMore_115 : decode cX7_layMore 115 = .ok (.lastore, 1) := by decide +kernel
theorem dX7_layMore_116 : decode cX7_layMore 116 = .ok (.aload_n 0, 1) := by decide +kernel
theorem dX7_layMore_117 : decode cX7_layMore 117 = .ok (.getfield 95, 3) := by decide +kernel
theorem dX7_layMore_120 : decode cX7_layMore 120 = .ok (.iload_n 2, 1) := by decide +kernel
theorem dX7_layMore_121 : decode cX7_layMore 121 = .ok (.lload 11, 2) := by decide +kernel
theorem dX7_layMore_123 : decode cX7_layMore 123 = .ok (.lload 13, 2) := by decide +kernel
theorem dX7_layMore_125 : decode cX7_layMore 125 = .ok (.ldiv, 1) := by decide +kernel
theorem dX7_layMore_126 : decode cX7_layMore 126 = .ok (.lastore, 1) := by decide +kernel
theorem dX7_layMore_127 : decode cX7_layMore 127 = .ok (.return_, 1) := by decide +kernel
theorem dX7_sheds_0 : decode cX7_sheds 0 = .ok (.aload_n 0, 1) := by decide +kernel
theorem dX7_sheds_1 : decode cX7_sheds 1 = .ok (.iconst 0, 1) := by decide +kernel
theorem dX7_sheds_2 : decode cX7_sheds 2 = .ok (.putfield 107, 3) := by decide +kernel
theorem dX7_sheds_5 : decode cX7_sheds 5 = .ok (.aload_n 0, 1) := by decide +kernel
theorem dX7_sheds_6 : decode cX7_sheds 6 = .ok (.iload_n 1, 1) := by decide +kernel
theorem dX7_sheds_7 : decode cX7_sheds 7 = .ok (.invokevirtual 159, 3) := by decide +kernel
theorem dX7_sheds_10 : decode cX7_sheds 10 = .ok (.ifCond .ne 5, 3) := by decide +kernel
theorem dX7_sheds_13 : decode cX7_sheds 13 = .ok (.iconst (-1), 1) := by decide +kernel
theorem dX7_sheds_14 : decode cX7_sheds 14 = .ok (.ireturn, 1) := by decide +kernel
theorem dX7_sheds_15 : decode cX7_sheds 15 = .ok (.aload_n 0, 1) := by decide +kernel
theorem dX7_sheds_16 : decode cX7_sheds 16 = .ok (.invokevirtual 336, 3) := by decide +kernel
theorem dX7_sheds_19 : decode cX7_sheds 19 = .ok (.aload_n 0, 1) := by decide +kernel
theorem dX7_sheds_20 : decode cX7_sheds 20 = .ok (.iconst 2, 1) := by decide +kernel
theorem dX7_sheds_21 : decode cX7_sheds 21 = .ok (.iload_n 1, 1) := by decide +kernel
theorem dX7_sheds_22 : decode cX7_sheds 22 = .ok (.invokevirtual 377, 3) := by decide +kernel
theorem dX7_sheds_25 : decode cX7_sheds 25 = .ok (.istore_n 2, 1) := by decide +kernel
theorem dX7_sheds_26 : decode cX7_sheds 26 = .ok (.iload_n 2, 1) := by decide +kernel
theorem dX7_sheds_27 : decode cX7_sheds 27 = .ok (.iconst (-1), 1) := by decide +kernel
theorem dX7_sheds_28 : decode cX7_sheds 28 = .ok (.if_icmp .eq 11, 3) := by decide +kernel
theorem dX7_sheds_31 : decode cX7_sheds 31 = .ok (.iload_n 2, 1) := by decide +kernel
theorem dX7_sheds_32 : decode cX7_sheds 32 = .ok (.aload_n 0, 1) := by decide +kernel
theorem dX7_sheds_33 : decode cX7_sheds 33 = .ok (.invokevirtual 380, 3) := by decide +kernel
theorem dX7_sheds_36 : decode cX7_sheds 36 = .ok (.if_icmp .ne 6, 3) := by decide +kernel
theorem dX7_sheds_39 : decode cX7_sheds 39 = .ok (.bipush (-2), 2) := by decide +kernel
theorem dX7_sheds_41 : decode cX7_sheds 41 = .ok (.ireturn, 1) := by decide +kernel
theorem dX7_sheds_42 : decode cX7_sheds 42 = .ok (.iconst (-1), 1) := by decide +kernel
theorem dX7_sheds_43 : decode cX7_sheds 43 = .ok (.istore_n 3, 1) := by decide +kernel
theorem dX7_sheds_44 : decode cX7_sheds 44 = .ok (.lconst 1, 1) := by decide +kernel
theorem dX7_sheds_45 : decode cX7_sheds 45 = .ok (.lstore 4, 2) := by decide +kernel
theorem dX7_sheds_47 : decode cX7_sheds 47 = .ok (.iconst 0, 1) := by decide +kernel
theorem dX7_sheds_48 : decode cX7_sheds 48 = .ok (.istore 6, 2) := by decide +kernel
theorem dX7_sheds_50 : decode cX7_sheds 50 = .ok (.iload 6, 2) := by decide +kernel
theorem dX7_sheds_52 : decode cX7_sheds 52 = .ok (.aload_n 0, 1) := by decide +kernel
theorem dX7_sheds_53 : decode cX7_sheds 53 = .ok (.getfield 127, 3) := by decide +kernel
theorem dX7_sheds_56 : decode cX7_sheds 56 = .ok (.if_icmp .ge 99, 3) := by decide +kernel
theorem dX7_sheds_59 : decode cX7_sheds 59 = .ok (.aload_n 0, 1) := by decide +kernel
theorem dX7_sheds_60 : decode cX7_sheds 60 = .ok (.iload 6, 2) := by decide +kernel
theorem dX7_sheds_62 : decode cX7_sheds 62 = .ok (.iconst 5, 1) := by decide +kernel
theorem dX7_sheds_63 : decode cX7_sheds 63 = .ok (.invokevirtual 155, 3) := by decide +kernel
theorem dX7_sheds_66 : decode cX7_sheds 66 = .ok (.ifCond .ne 24, 3) := by decide +kernel
theorem dX7_sheds_69 : decode cX7_sheds 69 = .ok (.iload 6, 2) := by decide +kernel
theorem dX7_sheds_71 : decode cX7_sheds 71 = .ok (.iload_n 1, 1) := by decide +kernel
theorem dX7_sheds_72 : decode cX7_sheds 72 = .ok (.if_icmp .eq 18, 3) := by decide +kernel
theorem dX7_sheds_75 : decode cX7_sheds 75 = .ok (.aload_n 0, 1) := by decide +kernel
theorem dX7_sheds_76 : decode cX7_sheds 76 = .ok (.iconst 2, 1) := by decide +kernel
theorem dX7_sheds_77 : decode cX7_sheds 77 = .ok (.iload 6, 2) := by decide +kernel
theorem dX7_sheds_79 : decode cX7_sheds 79 = .ok (.invokevirtual 377, 3) := by decide +kernel
theorem dX7_sheds_82 : decode cX7_sheds 82 = .ok (.iload_n 2, 1) := by decide +kernel
theorem dX7_sheds_83 : decode cX7_sheds 83 = .ok (.if_icmp .le 7, 3) := by decide +kernel
theorem dX7_sheds_86 : decode cX7_sheds 86 = .ok (.iconst 1, 1) := by decide +kernel
theorem dX7_sheds_87 : decode cX7_sheds 87 = .ok (.goto 4, 3) := by decide +kernel
theorem dX7_sheds_90 : decode cX7_sheds 90 = .ok (.iconst 0, 1) := by decide +kernel
theorem dX7_sheds_91 : decode cX7_sheds 91 = .ok (.istore 7, 2) := by decide +kernel
theorem dX7_sheds_93 : decode cX7_sheds 93 = .ok (.aload_n 0, 1) := by decide +kernel
theorem dX7_sheds_94 : decode cX7_sheds 94 = .ok (.getfield 92, 3) := by decide +kernel
theorem dX7_sheds_97 : decode cX7_sheds 97 = .ok (.iload 6, 2) := by decide +kernel
theorem dX7_sheds_99 : decode cX7_sheds 99 = .ok (.lconst 0, 1) := by decide +kernel
theorem dX7_sheds_100 : decode cX7_sheds 100 = .ok (.lastore, 1) := by decide +kernel
theorem dX7_sheds_101 : decode cX7_sheds 101 = .ok (.aload_n 0, 1) := by decide +kernel
theorem dX7_sheds_102 : decode cX7_sheds 102 = .ok (.getfield 95, 3) := by decide +kernel
theorem dX7_sheds_105 : decode cX7_sheds 105 = .ok (.iload 6, 2) := by decide +kernel
theorem dX7_sheds_107 : decode cX7_sheds 107 = .ok (.lconst 1, 1) := by decide +kernel
theorem dX7_sheds_108 : decode cX7_sheds 108 = .ok (.lastore, 1) := by decide +kernel
theorem dX7_sheds_109 : decode cX7_sheds 109 = .ok (.iload 7, 2) := by decide +kernel
theorem dX7_sheds_111 : decode cX7_sheds 111 = .ok (.ifCond .ne 6, 3) := by decide +kernel
theorem dX7_sheds_114 : decode cX7_sheds 114 = .ok (.goto 35, 3) := by decide +kernel
theorem dX7_sheds_117 : decode cX7_sheds 117 = .ok (.aload_n 0, 1) := by decide +kernel
theorem dX7_sheds_118 : decode cX7_sheds 118 = .ok (.iload_n 1, 1) := by decide +kernel
theorem dX7_sheds_119 : decode cX7_sheds 119 = .ok (.iload 6, 2) := by decide +kernel
theorem dX7_sheds_121 : decode cX7_sheds 121 = .ok (.invokevirtual 383, 3) := by decide +kernel
theorem dX7_sheds_124 : decode cX7_sheds 124 = .ok (.lload 4, 2) := by decide +kernel
theorem dX7_sheds_126 : decode cX7_sheds 126 = .ok (.lload 4, 2) := by decide +kernel
theorem dX7_sheds_128 : decode cX7_sheds 128 = .ok (.aload_n 0, 1) := by decide +kernel
theorem dX7_sheds_129 : decode cX7_sheds 129 = .ok (.getfield 95, 3) := by decide +kernel
theorem dX7_sheds_132 : decode cX7_sheds 132 = .ok (.iload 6, 2) := by decide +kernel
theorem dX7_sheds_134 : decode cX7_sheds 134 = .ok (.laload, 1) := by decide +kernel
theorem dX7_sheds_135 : decode cX7_sheds 135 = .ok (.invokestatic 119, 3) := by decide +kernel
theorem dX7_sheds_138 : decode cX7_sheds 138 = .ok (.ldiv, 1) := by decide +kernel
theorem dX7_sheds_139 : decode cX7_sheds 139 = .ok (.aload_n 0, 1) := by decide +kernel
theorem dX7_sheds_140 : decode cX7_sheds 140 = .ok (.getfield 95, 3) := by decide +kernel
theorem dX7_sheds_143 : decode cX7_sheds 143 = .ok (.iload 6, 2) := by decide +kernel
theorem dX7_sheds_145 : decode cX7_sheds 145 = .ok (.laload, 1) := by decide +kernel
theorem dX7_sheds_146 : decode cX7_sheds 146 = .ok (.lmul, 1) := by decide +kernel
theorem dX7_sheds_147 : decode cX7_sheds 147 = .ok (.lstore 4, 2) := by decide +kernel
theorem dX7_sheds_149 : decode cX7_sheds 149 = .ok (.iinc 6 1, 3) := by decide +kernel
theorem dX7_sheds_152 : decode cX7_sheds 152 = .ok (.goto (-102), 3) := by decide +kernel
theorem dX7_sheds_155 : decode cX7_sheds 155 = .ok (.iconst 0, 1) := by decide +kernel
theorem dX7_sheds_156 : decode cX7_sheds 156 = .ok (.istore 6, 2) := by decide +kernel
theorem dX7_sheds_158 : decode cX7_sheds 158 = .ok (.iload 6, 2) := by decide +kernel
theorem dX7_sheds_160 : decode cX7_sheds 160 = .ok (.aload_n 0, 1) := by decide +kernel
theorem dX7_sheds_161 : decode cX7_sheds 161 = .ok (.getfield 127, 3) := by decide +kernel
theorem dX7_sheds_164 : decode cX7_sheds 164 = .ok (.if_icmp .ge 67, 3) := by decide +kernel
theorem dX7_sheds_167 : decode cX7_sheds 167 = .ok (.aload_n 0, 1) := by decide +kernel
theorem dX7_sheds_168 : decode cX7_sheds 168 = .ok (.getfield 92, 3) := by decide +kernel
theorem dX7_sheds_171 : decode cX7_sheds 171 = .ok (.iload 6, 2) := by decide +kernel
theorem dX7_sheds_173 : decode cX7_sheds 173 = .ok (.laload, 1) := by decide +kernel
theorem dX7_sheds_174 : decode cX7_sheds 174 = .ok (.lconst 0, 1) := by decide +kernel
theorem dX7_sheds_175 : decode cX7_sheds 175 = .ok (.lcmp, 1) := by decide +kernel
theorem dX7_sheds_176 : decode cX7_sheds 176 = .ok (.ifCond .le 49, 3) := by decide +kernel
theorem dX7_sheds_179 : decode cX7_sheds 179 = .ok (.iload_n 3, 1) := by decide +kernel
theorem dX7_sheds_180 : decode cX7_sheds 180 = .ok (.iconst (-1), 1) := by decide +kernel
theorem dX7_sheds_181 : decode cX7_sheds 181 = .ok (.if_icmp .eq 41, 3) := by decide +kernel
theorem dX7_sheds_184 : decode cX7_sheds 184 = .ok (.aload_n 0, 1) := by decide +kernel
theorem dX7_sheds_185 : decode cX7_sheds 185 = .ok (.getfield 92, 3) := by decide +kernel
theorem dX7_sheds_188 : decode cX7_sheds 188 = .ok (.iload 6, 2) := by decide +kernel
theorem dX7_sheds_190 : decode cX7_sheds 190 = .ok (.laload, 1) := by decide +kernel
theorem dX7_sheds_191 : decode cX7_sheds 191 = .ok (.lload 4, 2) := by decide +kernel
theorem dX7_sheds_193 : decode cX7_sheds 193 = .ok (.aload_n 0, 1) := by decide +kernel
theorem dX7_sheds_194 : decode cX7_sheds 194 = .ok (.getfield 95, 3) := by decide +kernel
theorem dX7_sheds_197 : decode cX7_sheds 197 = .ok (.iload 6, 2) := by decide +kernel
theorem dX7_sheds_199 : decode cX7_sheds 199 = .ok (.laload, 1) := by decide +kernel
theorem dX7_sheds_200 : decode cX7_sheds 200 = .ok (.ldiv, 1) := by decide +kernel
theorem dX7_sheds_201 : decode cX7_sheds 201 = .ok (.lmul, 1) := by decide +kernel
theorem dX7_sheds_202 : decode cX7_sheds 202 = .ok (.aload_n 0, 1) := by decide +kernel
theorem dX7_sheds_203 : decode cX7_sheds 203 = .ok (.getfield 92, 3) := by decide +kernel
theorem dX7_sheds_206 : decode cX7_sheds 206 = .ok (.iload_n 3, 1) := by decide +kernel
theorem dX7_sheds_207 : decode cX7_sheds 207 = .ok (.laload, 1) := by decide +kernel
theorem dX7_sheds_208 : decode cX7_sheds 208 = .ok (.lload 4, 2) := by decide +kernel
theorem dX7_sheds_210 : decode cX7_sheds 210 = .ok (.aload_n 0, 1) := by decide +kernel
theorem dX7_sheds_211 : decode cX7_sheds 211 = .ok (.getfield 95, 3) := by decide +kernel
theorem dX7_sheds_214 : decode cX7_sheds 214 = .ok (.iload_n 3, 1) := by decide +kernel
theorem dX7_sheds_215 : decode cX7_sheds 215 = .ok (.laload, 1) := by decide +kernel
theorem dX7_sheds_216 : decode cX7_sheds 216 = .ok (.ldiv, 1) := by decide +kernel
theorem dX7_sheds_217 : decode cX7_sheds 217 = .ok (.lmul, 1) := by decide +kernel
theorem dX7_sheds_218 : decode cX7_sheds 218 = .ok (.lcmp, 1) := by decide +kernel
theorem dX7_sheds_219 : decode cX7_sheds 219 = .ok (.ifCond .le 6, 3) := by decide +kernel
theorem dX7_sheds_222 : decode cX7_sheds 222 = .ok (.iload 6, 2) := by decide +kernel
theorem dX7_sheds_224 : decode cX7_sheds 224 = .ok (.istore_n 3, 1) := by decide +kernel
theorem dX7_sheds_225 : decode cX7_sheds 225 = .ok (.iinc 6 1, 3) := by decide +kernel
theorem dX7_sheds_228 : decode cX7_sheds 228 = .ok (.goto (-70), 3) := by decide +kernel
theorem dX7_sheds_231 : decode cX7_sheds 231 = .ok (.aload_n 0, 1) := by decide +kernel
theorem dX7_sheds_232 : decode cX7_sheds 232 = .ok (.iconst 0, 1) := by decide +kernel
theorem dX7_sheds_233 : decode cX7_sheds 233 = .ok (.putfield 110, 3) := by decide +kernel
theorem dX7_sheds_236 : decode cX7_sheds 236 = .ok (.aload_n 0, 1) := by decide +kernel
theorem dX7_sheds_237 : decode cX7_sheds 237 = .ok (.lload 4, 2) := by decide +kernel
theorem dX7_sheds_239 : decode cX7_sheds 239 = .ok (.invokevirtual 123, 3) := by decide +kernel
theorem dX7_sheds_242 : decode cX7_sheds 242 = .ok (.iconst 0, 1) := by decide +kernel
theorem dX7_sheds_243 : decode cX7_sheds 243 = .ok (.istore 6, 2) := by decide +kernel
theorem dX7_sheds_245 : decode cX7_sheds 245 = .ok (.iload 6, 2) := by decide +kernel
theorem dX7_sheds_247 : decode cX7_sheds 247 = .ok (.aload_n 0, 1) := by decide +kernel
theorem dX7_sheds_248 : decode cX7_sheds 248 = .ok (.getfield 127, 3) := by decide +kernel
theorem dX7_sheds_251 : decode cX7_sheds 251 = .ok (.if_icmp .ge 31, 3) := by decide +kernel
theorem dX7_sheds_254 : decode cX7_sheds 254 = .ok (.aload_n 0, 1) := by decide +kernel
theorem dX7_sheds_255 : decode cX7_sheds 255 = .ok (.aload_n 0, 1) := by decide +kernel
theorem dX7_sheds_256 : decode cX7_sheds 256 = .ok (.getfield 92, 3) := by decide +kernel
theorem dX7_sheds_259 : decode cX7_sheds 259 = .ok (.iload 6, 2) := by decide +kernel
theorem dX7_sheds_261 : decode cX7_sheds 261 = .ok (.laload, 1) := by decide +kernel
theorem dX7_sheds_262 : decode cX7_sheds 262 = .ok (.lload 4, 2) := by decide +kernel
theorem dX7_sheds_264 : decode cX7_sheds 264 = .ok (.aload_n 0, 1) := by decide +kernel
theorem dX7_sheds_265 : decode cX7_sheds 265 = .ok (.getfield 95, 3) := by decide +kernel
theorem dX7_sheds_268 : decode cX7_sheds 268 = .ok (.iload 6, 2) := by decide +kernel
theorem dX7_sheds_270 : decode cX7_sheds 270 = .ok (.laload, 1) := by decide +kernel
theorem dX7_sheds_271 : decode cX7_sheds 271 = .ok (.ldiv, 1) := by decide +kernel
theorem dX7_sheds_272 : decode cX7_sheds 272 = .ok (.lmul, 1) := by decide +kernel
theorem dX7_sheds_273 : decode cX7_sheds 273 = .ok (.invokevirtual 123, 3) := by decide +kernel
theorem dX7_sheds_276 : decode cX7_sheds 276 = .ok (.iinc 6 1, 3) := by decide +kernel
theorem dX7_sheds_279 : decode cX7_sheds 279 = .ok (.goto (-34), 3) := by decide +kernel
theorem dX7_sheds_282 : decode cX7_sheds 282 = .ok (.iload_n 3, 1) := by decide +kernel
theorem dX7_sheds_283 : decode cX7_sheds 283 = .ok (.ireturn, 1) := by decide +kernel
theorem dX7_lastBreak_0 : decode cX7_lastBreak 0 = .ok (.iconst (-1), 1) := by decide +kernel
theorem dX7_lastBreak_1 : decode cX7_lastBreak 1 = .ok (.istore_n 1, 1) := by decide +kernel
theorem dX7_lastBreak_2 : decode cX7_lastBreak 2 = .ok (.iconst 0, 1) := by decide +kernel
theorem dX7_lastBreak_3 : decode cX7_lastBreak 3 = .ok (.istore_n 2, 1) := by decide +kernel
theorem dX7_lastBreak_4 : decode cX7_lastBreak 4 = .ok (.iload_n 2, 1) := by decide +kernel
theorem dX7_lastBreak_5 : decode cX7_lastBreak 5 = .ok (.aload_n 0, 1) := by decide +kernel
theorem dX7_lastBreak_6 : decode cX7_lastBreak 6 = .ok (.getfield 246, 3) := by decide +kernel
theorem dX7_lastBreak_9 : decode cX7_lastBreak 9 = .ok (.if_icmp .ge 25, 3) := by decide +kernel
theorem dX7_lastBreak_12 : decode cX7_lastBreak 12 = .ok (.aload_n 0, 1) := by decide +kernel
theorem dX7_lastBreak_13 : decode cX7_lastBreak 13 = .ok (.getfield 55, 3) := by decide +kernel
theorem dX7_lastBreak_16 : decode cX7_lastBreak 16 = .ok (.iload_n 2, 1) := by decide +kernel
theorem dX7_lastBreak_17 : decode cX7_lastBreak 17 = .ok (.iaload, 1) := by decide +kernel
theorem dX7_lastBreak_18 : decode cX7_lastBreak 18 = .ok (.iconst 2, 1) := by decide +kernel
theorem dX7_lastBreak_19 : decode cX7_lastBreak 19 = .ok (.if_icmp .ne 7, 3) := by decide +kernel
theorem dX7_lastBreak_22 : decode cX7_lastBreak 22 = .ok (.iload_n 2, 1) := by decide +kernel
theorem dX7_lastBreak_23 : decode cX7_lastBreak 23 = .ok (.goto 4, 3) := by decide +kernel
theorem dX7_lastBreak_26 : decode cX7_lastBreak 26 = .ok (.iload_n 1, 1) := by decide +kernel
theorem dX7_lastBreak_27 : decode cX7_lastBreak 27 = .ok (.istore_n 1, 1) := by decide +kernel
theorem dX7_lastBreak_28 : decode cX7_lastBreak 28 = .ok (.iinc 2 1, 3) := by decide +kernel
theorem dX7_lastBreak_31 : decode cX7_lastBreak 31 = .ok (.goto (-27), 3) := by decide +kernel
theorem dX7_lastBreak_34 : decode cX7_lastBreak 34 = .ok (.iload_n 1, 1) := by decide +kernel
theorem dX7_lastBreak_35 : decode cX7_lastBreak 35 = .ok (.ireturn, 1) := by decide +kernel
theorem dX7_replays_0 : decode cX7_replays 0 = .ok (.aload_n 0, 1) := by decide +kernel
theorem dX7_replays_1 : decode cX7_replays 1 = .ok (.iconst 0, 1) := by decide +kernel
theorem dX7_replays_2 : decode cX7_replays 2 = .ok (.putfield 107, 3) := by decide +kernel
theorem dX7_replays_5 : decode cX7_replays 5 = .ok (.aload_n 0, 1) := by decide +kernel
theorem dX7_replays_6 : decode cX7_replays 6 = .ok (.invokevirtual 194, 3) := by decide +kernel
theorem dX7_replays_9 : decode cX7_replays 9 = .ok (.iconst 0, 1) := by decide +kernel
theorem dX7_replays_10 : decode cX7_replays 10 = .ok (.istore_n 1, 1) := by decide +kernel
theorem dX7_replays_11 : decode cX7_replays 11 = .ok (.iconst 0, 1) := by decide +kernel
theorem dX7_replays_12 : decode cX7_replays 12 = .ok (.istore_n 2, 1) := by decide +kernel
theorem dX7_replays_13 : decode cX7_replays 13 = .ok (.iload_n 2, 1) := by decide +kernel
theorem dX7_replays_14 : decode cX7_replays 14 = .ok (.aload_n 0, 1) := by decide +kernel
theorem dX7_replays_15 : decode cX7_replays 15 = .ok (.getfield 174, 3) := by decide +kernel
theorem dX7_replays_18 : decode cX7_replays 18 = .ok (.if_icmp .ge 62, 3) := by decide +kernel
theorem dX7_replays_21 : decode cX7_replays 21 = .ok (.aload_n 0, 1) := by decide +kernel
theorem dX7_replays_22 : decode cX7_replays 22 = .ok (.getfield 180, 3) := by decide +kernel
theorem dX7_replays_25 : decode cX7_replays 25 = .ok (.iconst (-1), 1) := by decide +kernel
theorem dX7_replays_26 : decode cX7_replays 26 = .ok (.if_icmp .ne 54, 3) := by decide +kernel
theorem dX7_replays_29 : decode cX7_replays 29 = .ok (.aload_n 0, 1) := by decide +kernel
theorem dX7_replays_30 : decode cX7_replays 30 = .ok (.getfield 20, 3) := by decide +kernel
theorem dX7_replays_33 : decode cX7_replays 33 = .ok (.iload_n 2, 1) := by decide +kernel
theorem dX7_replays_34 : decode cX7_replays 34 = .ok (.baload, 1) := by decide +kernel
theorem dX7_replays_35 : decode cX7_replays 35 = .ok (.sipush 255, 3) := by decide +kernel
theorem dX7_replays_38 : decode cX7_replays 38 = .ok (.iand, 1) := by decide +kernel
theorem dX7_replays_39 : decode cX7_replays 39 = .ok (.bipush 48, 2) := by decide +kernel
theorem dX7_replays_41 : decode cX7_replays 41 = .ok (.isub, 1) := by decide +kernel
theorem dX7_replays_42 : decode cX7_replays 42 = .ok (.istore_n 3, 1) := by decide +kernel
theorem dX7_replays_43 : decode cX7_replays 43 = .ok (.aload_n 0, 1) := by decide +kernel
theorem dX7_replays_44 : decode cX7_replays 44 = .ok (.iload_n 3, 1) := by decide +kernel
theorem dX7_replays_45 : decode cX7_replays 45 = .ok (.invokevirtual 159, 3) := by decide +kernel
theorem dX7_replays_48 : decode cX7_replays 48 = .ok (.ifCond .eq 12, 3) := by decide +kernel
theorem dX7_replays_51 : decode cX7_replays 51 = .ok (.iload_n 1, 1) := by decide +kernel
theorem dX7_replays_52 : decode cX7_replays 52 = .ok (.iload_n 3, 1) := by decide +kernel
theorem dX7_replays_53 : decode cX7_replays 53 = .ok (.ishr, 1) := by decide +kernel
theorem dX7_replays_54 : decode cX7_replays 54 = .ok (.iconst 1, 1) := by decide +kernel
theorem dX7_replays_55 : decode cX7_replays 55 = .ok (.iand, 1) := by decide +kernel
theorem dX7_replays_56 : decode cX7_replays 56 = .ok (.iconst 1, 1) := by decide +kernel
theorem dX7_replays_57 : decode cX7_replays 57 = .ok (.if_icmp .ne 11, 3) := by decide +kernel
theorem dX7_replays_60 : decode cX7_replays 60 = .ok (.aload_n 0, 1) := by decide +kernel
theorem dX7_replays_61 : decode cX7_replays 61 = .ok (.iload_n 2, 1) := by decide +kernel
theorem dX7_replays_62 : decode cX7_replays 62 = .ok (.invokevirtual 190, 3) := by decide +kernel
theorem dX7_replays_65 : decode cX7_replays 65 = .ok (.goto 9, 3) := by decide +kernel
theorem dX7_replays_68 : decode cX7_replays 68 = .ok (.iload_n 1, 1) := by decide +kernel
theorem dX7_replays_69 : decode cX7_replays 69 = .ok (.iconst 1, 1) := by decide +kernel
theorem dX7_replays_70 : decode cX7_replays 70 = .ok (.iload_n 3, 1) := by decide +kernel
theorem dX7_replays_71 : decode cX7_replays 71 = .ok (.ishl, 1) := by decide +kernel
theorem dX7_replays_72 : decode cX7_replays 72 = .ok (.ior, 1) := by decide +kernel
theorem dX7_replays_73 : decode cX7_replays 73 = .ok (.istore_n 1, 1) := by decide +kernel
theorem dX7_replays_74 : decode cX7_replays 74 = .ok (.iinc 2 1, 3) := by decide +kernel
theorem dX7_replays_77 : decode cX7_replays 77 = .ok (.goto (-64), 3) := by decide +kernel
theorem dX7_replays_80 : decode cX7_replays 80 = .ok (.aload_n 0, 1) := by decide +kernel
theorem dX7_replays_81 : decode cX7_replays 81 = .ok (.getfield 180, 3) := by decide +kernel
theorem dX7_replays_84 : decode cX7_replays 84 = .ok (.iconst (-1), 1) := by decide +kernel
theorem dX7_replays_85 : decode cX7_replays 85 = .ok (.if_icmp .eq 10, 3) := by decide +kernel
theorem dX7_replays_88 : decode cX7_replays 88 = .ok (.iconst (-1), 1) := by decide +kernel
theorem dX7_replays_89 : decode cX7_replays 89 = .ok (.aload_n 0, 1) := by decide +kernel
theorem dX7_replays_90 : decode cX7_replays 90 = .ok (.getfield 180, 3) := by decide +kernel
theorem dX7_replays_93 : decode cX7_replays 93 = .ok (.isub, 1) := by decide +kernel
theorem dX7_replays_94 : decode cX7_replays 94 = .ok (.ireturn, 1) := by decide +kernel
theorem dX7_replays_95 : decode cX7_replays 95 = .ok (.aload_n 0, 1) := by decide +kernel
theorem dX7_replays_96 : decode cX7_replays 96 = .ok (.invokevirtual 336, 3) := by decide +kernel
theorem dX7_replays_99 : decode cX7_replays 99 = .ok (.iconst 0, 1) := by decide +kernel
theorem dX7_replays_100 : decode cX7_replays 100 = .ok (.istore_n 2, 1) := by decide +kernel
theorem dX7_replays_101 : decode cX7_replays 101 = .ok (.iconst 0, 1) := by decide +kernel
theorem dX7_replays_102 : decode cX7_replays 102 = .ok (.istore_n 3, 1) := by decide +kernel
theorem dX7_replays_103 : decode cX7_replays 103 = .ok (.iconst 1, 1) := by decide +kernel
theorem dX7_replays_104 : decode cX7_replays 104 = .ok (.istore 4, 2) := by decide +kernel
theorem dX7_replays_106 : decode cX7_replays 106 = .ok (.iconst 0, 1) := by decide +kernel
theorem dX7_replays_107 : decode cX7_replays 107 = .ok (.istore 5, 2) := by decide +kernel
theorem dX7_replays_109 : decode cX7_replays 109 = .ok (.iload 5, 2) := by decide +kernel
theorem dX7_replays_111 : decode cX7_replays 111 = .ok (.aload_n 0, 1) := by decide +kernel
theorem dX7_replays_112 : decode cX7_replays 112 = .ok (.getfield 246, 3) := by decide +kernel
theorem dX7_replays_115 : decode cX7_replays 115 = .ok (.if_icmp .ge 78, 3) := by decide +kernel
theorem dX7_replays_118 : decode cX7_replays 118 = .ok (.aload_n 0, 1) := by decide +kernel
theorem dX7_replays_119 : decode cX7_replays 119 = .ok (.getfield 55, 3) := by decide +kernel
theorem dX7_replays_122 : decode cX7_replays 122 = .ok (.iload 5, 2) := by decide +kernel
theorem dX7_replays_124 : decode cX7_replays 124 = .ok (.iaload, 1) := by decide +kernel
theorem dX7_replays_125 : decode cX7_replays 125 = .ok (.iconst 2, 1) := by decide +kernel
theorem dX7_replays_126 : decode cX7_replays 126 = .ok (.if_icmp .eq 6, 3) := by decide +kernel
theorem dX7_replays_129 : decode cX7_replays 129 = .ok (.goto 58, 3) := by decide +kernel
theorem dX7_replays_132 : decode cX7_replays 132 = .ok (.iload 4, 2) := by decide +kernel
theorem dX7_replays_134 : decode cX7_replays 134 = .ok (.ifCond .eq 34, 3) := by decide +kernel
theorem dX7_replays_137 : decode cX7_replays 137 = .ok (.iload_n 3, 1) := by decide +kernel
theorem dX7_replays_138 : decode cX7_replays 138 = .ok (.aload_n 0, 1) := by decide +kernel
theorem dX7_replays_139 : decode cX7_replays 139 = .ok (.getfield 174, 3) := by decide +kernel
theorem dX7_replays_142 : decode cX7_replays 142 = .ok (.if_icmp .ge 26, 3) := by decide +kernel
theorem dX7_replays_145 : decode cX7_replays 145 = .ok (.aload_n 0, 1) := by decide +kernel
theorem dX7_replays_146 : decode cX7_replays 146 = .ok (.getfield 20, 3) := by decide +kernel
theorem dX7_replays_149 : decode cX7_replays 149 = .ok (.iload_n 3, 1) := by decide +kernel
theorem dX7_replays_150 : decode cX7_replays 150 = .ok (.baload, 1) := by decide +kernel
theorem dX7_replays_151 : decode cX7_replays 151 = .ok (.bipush 48, 2) := by decide +kernel
theorem dX7_replays_153 : decode cX7_replays 153 = .ok (.isub, 1) := by decide +kernel
theorem dX7_replays_154 : decode cX7_replays 154 = .ok (.aload_n 0, 1) := by decide +kernel
theorem dX7_replays_155 : decode cX7_replays 155 = .ok (.getfield 58, 3) := by decide +kernel
theorem dX7_replays_158 : decode cX7_replays 158 = .ok (.iload 5, 2) := by decide +kernel
theorem dX7_replays_160 : decode cX7_replays 160 = .ok (.iaload, 1) := by decide +kernel
theorem dX7_replays_161 : decode cX7_replays 161 = .ok (.if_icmp .ne 7, 3) := by decide +kernel
theorem dX7_replays_164 : decode cX7_replays 164 = .ok (.iconst 1, 1) := by decide +kernel
theorem dX7_replays_165 : decode cX7_replays 165 = .ok (.goto 4, 3) := by decide +kernel
theorem dX7_replays_168 : decode cX7_replays 168 = .ok (.iconst 0, 1) := by decide +kernel
theorem dX7_replays_169 : decode cX7_replays 169 = .ok (.istore 4, 2) := by decide +kernel
theorem dX7_replays_171 : decode cX7_replays 171 = .ok (.iload_n 2, 1) := by decide +kernel
theorem dX7_replays_172 : decode cX7_replays 172 = .ok (.iload 4, 2) := by decide +kernel
theorem dX7_replays_174 : decode cX7_replays 174 = .ok (.ifCond .eq 7, 3) := by decide +kernel
theorem dX7_replays_177 : decode cX7_replays 177 = .ok (.iconst 1, 1) := by decide +kernel
theorem dX7_replays_178 : decode cX7_replays 178 = .ok (.goto 4, 3) := by decide +kernel
theorem dX7_replays_181 : decode cX7_replays 181 = .ok (.iconst 0, 1) := by decide +kernel
theorem dX7_replays_182 : decode cX7_replays 182 = .ok (.iadd, 1) := by decide +kernel
theorem dX7_replays_183 : decode cX7_replays 183 = .ok (.istore_n 2, 1) := by decide +kernel
theorem dX7_replays_184 : decode cX7_replays 184 = .ok (.iinc 3 1, 3) := by decide +kernel
theorem dX7_replays_187 : decode cX7_replays 187 = .ok (.iinc 5 1, 3) := by decide +kernel
theorem dX7_replays_190 : decode cX7_replays 190 = .ok (.goto (-81), 3) := by decide +kernel
theorem dX7_replays_193 : decode cX7_replays 193 = .ok (.aload_n 0, 1) := by decide +kernel
theorem dX7_replays_194 : decode cX7_replays 194 = .ok (.iconst 0, 1) := by decide +kernel
theorem dX7_replays_195 : decode cX7_replays 195 = .ok (.putfield 110, 3) := by decide +kernel
theorem dX7_replays_198 : decode cX7_replays 198 = .ok (.aload_n 0, 1) := by decide +kernel
theorem dX7_replays_199 : decode cX7_replays 199 = .ok (.iload_n 2, 1) := by decide +kernel
theorem dX7_replays_200 : decode cX7_replays 200 = .ok (.aload_n 0, 1) := by decide +kernel
theorem dX7_replays_201 : decode cX7_replays 201 = .ok (.getfield 174, 3) := by decide +kernel
theorem dX7_replays_204 : decode cX7_replays 204 = .ok (.if_icmp .ne 15, 3) := by decide +kernel
theorem dX7_replays_207 : decode cX7_replays 207 = .ok (.iload_n 3, 1) := by decide +kernel
theorem dX7_replays_208 : decode cX7_replays 208 = .ok (.aload_n 0, 1) := by decide +kernel
theorem dX7_replays_209 : decode cX7_replays 209 = .ok (.getfield 174, 3) := by decide +kernel
theorem dX7_replays_212 : decode cX7_replays 212 = .ok (.if_icmp .ne 7, 3) := by decide +kernel
theorem dX7_replays_215 : decode cX7_replays 215 = .ok (.lconst 1, 1) := by decide +kernel
theorem dX7_replays_216 : decode cX7_replays 216 = .ok (.goto 4, 3) := by decide +kernel
theorem dX7_replays_219 : decode cX7_replays 219 = .ok (.lconst 0, 1) := by decide +kernel
theorem dX7_replays_220 : decode cX7_replays 220 = .ok (.invokevirtual 123, 3) := by decide +kernel
theorem dX7_replays_223 : decode cX7_replays 223 = .ok (.iload_n 2, 1) := by decide +kernel
theorem dX7_replays_224 : decode cX7_replays 224 = .ok (.ireturn, 1) := by decide +kernel
theorem dX7_layAside_0 : decode cX7_layAside 0 = .ok (.iconst 0, 1) := by decide +kernel
theorem dX7_layAside_1 : decode cX7_layAside 1 = .ok (.istore_n 1, 1) := by decide +kernel
theorem dX7_layAside_2 : decode cX7_layAside 2 = .ok (.iload_n 1, 1) := by decide +kernel
theorem dX7_layAside_3 : decode cX7_layAside 3 = .ok (.aload_n 0, 1) := by decide +kernel
theorem dX7_layAside_4 : decode cX7_layAside 4 = .ok (.getfield 98, 3) := by decide +kernel
theorem dX7_layAside_7 : decode cX7_layAside 7 = .ok (.arraylength, 1) := by decide +kernel
theorem dX7_layAside_8 : decode cX7_layAside 8 = .ok (.if_icmp .ge 21, 3) := by decide +kernel
theorem dX7_layAside_11 : decode cX7_layAside 11 = .ok (.aload_n 0, 1) := by decide +kernel
theorem dX7_layAside_12 : decode cX7_layAside 12 = .ok (.getfield 98, 3) := by decide +kernel
theorem dX7_layAside_15 : decode cX7_layAside 15 = .ok (.iload_n 1, 1) := by decide +kernel
theorem dX7_layAside_16 : decode cX7_layAside 16 = .ok (.aload_n 0, 1) := by decide +kernel
theorem dX7_layAside_17 : decode cX7_layAside 17 = .ok (.getfield 9, 3) := by decide +kernel
theorem dX7_layAside_20 : decode cX7_layAside 20 = .ok (.iload_n 1, 1) := by decide +kernel
theorem dX7_layAside_21 : decode cX7_layAside 21 = .ok (.iaload, 1) := by decide +kernel
theorem dX7_layAside_22 : decode cX7_layAside 22 = .ok (.iastore, 1) := by decide +kernel
theorem dX7_layAside_23 : decode cX7_layAside 23 = .ok (.iinc 1 1, 3) := by decide +kernel
theorem dX7_layAside_26 : decode cX7_layAside 26 = .ok (.goto (-24), 3) := by decide +kernel
theorem dX7_layAside_29 : decode cX7_layAside 29 = .ok (.return_, 1) := by decide +kernel
theorem dX7_comesBack_0 : decode cX7_comesBack 0 = .ok (.iconst 0, 1) := by decide +kernel
theorem dX7_comesBack_1 : decode cX7_comesBack 1 = .ok (.istore_n 1, 1) := by decide +kernel
theorem dX7_comesBack_2 : decode cX7_comesBack 2 = .ok (.iload_n 1, 1) := by decide +kernel
theorem dX7_comesBack_3 : decode cX7_comesBack 3 = .ok (.aload_n 0, 1) := by decide +kernel
theorem dX7_comesBack_4 : decode cX7_comesBack 4 = .ok (.getfield 98, 3) := by decide +kernel
theorem dX7_comesBack_7 : decode cX7_comesBack 7 = .ok (.arraylength, 1) := by decide +kernel
theorem dX7_comesBack_8 : decode cX7_comesBack 8 = .ok (.if_icmp .ge 21, 3) := by decide +kernel
theorem dX7_comesBack_11 : decode cX7_comesBack 11 = .ok (.aload_n 0, 1) := by decide +kernel
theorem dX7_comesBack_12 : decode cX7_comesBack 12 = .ok (.getfield 9, 3) := by decide +kernel
theorem dX7_comesBack_15 : decode cX7_comesBack 15 = .ok (.iload_n 1, 1) := by decide +kernel
theorem dX7_comesBack_16 : decode cX7_comesBack 16 = .ok (.aload_n 0, 1) := by decide +kernel
theorem dX7_comesBack_17 : decode cX7_comesBack 17 = .ok (.getfield 98, 3) := by decide +kernel
theorem dX7_comesBack_20 : decode cX7_comesBack 20 = .ok (.iload_n 1, 1) := by decide +kernel
theorem dX7_comesBack_21 : decode cX7_comesBack 21 = .ok (.iaload, 1) := by decide +kernel
theorem dX7_comesBack_22 : decode cX7_comesBack 22 = .ok (.iastore, 1) := by decide +kernel
theorem dX7_comesBack_23 : decode cX7_comesBack 23 = .ok (.iinc 1 1, 3) := by decide +kernel
theorem dX7_comesBack_26 : decode cX7_comesBack 26 = .ok (.goto (-24), 3) := by decide +kernel
theorem dX7_comesBack_29 : decode cX7_comesBack 29 = .ok (.return_, 1) := by decide +kernel
theorem dX7_against_0 : decode cX7_against 0 = .ok (.aload_n 0, 1) := by decide +kernel
theorem dX7_against_1 : decode cX7_against 1 = .ok (.getfield 240, 3) := by decide +kernel
theorem dX7_against_4 : decode cX7_against 4 = .ok (.lload_n 3, 1) := by decide +kernel
theorem dX7_against_5 : decode cX7_against 5 = .ok (.lmul, 1) := by decide +kernel
theorem dX7_against_6 : decode cX7_against 6 = .ok (.lstore 5, 2) := by decide +kernel
theorem dX7_against_8 : decode cX7_against 8 = .ok (.lload_n 1, 1) := by decide +kernel
theorem dX7_against_9 : decode cX7_against 9 = .ok (.aload_n 0, 1) := by decide +kernel
theorem dX7_against_10 : decode cX7_against 10 = .ok (.getfield 243, 3) := by decide +kernel
theorem dX7_against_13 : decode cX7_against 13 = .ok (.lmul, 1) := by decide +kernel
theorem dX7_against_14 : decode cX7_against 14 = .ok (.lstore 7, 2) := by decide +kernel
theorem dX7_against_16 : decode cX7_against 16 = .ok (.lload 5, 2) := by decide +kernel
theorem dX7_against_18 : decode cX7_against 18 = .ok (.lload 7, 2) := by decide +kernel
theorem dX7_against_20 : decode cX7_against 20 = .ok (.lcmp, 1) := by decide +kernel
theorem dX7_against_21 : decode cX7_against 21 = .ok (.ifCond .le 7, 3) := by decide +kernel
theorem dX7_against_24 : decode cX7_against 24 = .ok (.iconst 1, 1) := by decide +kernel
theorem dX7_against_25 : decode cX7_against 25 = .ok (.goto 16, 3) := by decide +kernel
theorem dX7_against_28 : decode cX7_against 28 = .ok (.lload 5, 2) := by decide +kernel
theorem dX7_against_30 : decode cX7_against 30 = .ok (.lload 7, 2) := by decide +kernel
theorem dX7_against_32 : decode cX7_against 32 = .ok (.lcmp, 1) := by decide +kernel
theorem dX7_against_33 : decode cX7_against 33 = .ok (.ifCond .ne 7, 3) := by decide +kernel
theorem dX7_against_36 : decode cX7_against 36 = .ok (.iconst 0, 1) := by decide +kernel
theorem dX7_against_37 : decode cX7_against 37 = .ok (.goto 4, 3) := by decide +kernel
theorem dX7_against_40 : decode cX7_against 40 = .ok (.iconst (-1), 1) := by decide +kernel
theorem dX7_against_41 : decode cX7_against 41 = .ok (.ireturn, 1) := by decide +kernel
theorem dX7_without_0 : decode cX7_without 0 = .ok (.aload_n 0, 1) := by decide +kernel
theorem dX7_without_1 : decode cX7_without 1 = .ok (.iconst 0, 1) := by decide +kernel
theorem dX7_without_2 : decode cX7_without 2 = .ok (.putfield 107, 3) := by decide +kernel
theorem dX7_without_5 : decode cX7_without 5 = .ok (.aload_n 0, 1) := by decide +kernel
theorem dX7_without_6 : decode cX7_without 6 = .ok (.iload_n 1, 1) := by decide +kernel
theorem dX7_without_7 : decode cX7_without 7 = .ok (.invokevirtual 159, 3) := by decide +kernel
theorem dX7_without_10 : decode cX7_without 10 = .ok (.ifCond .ne 5, 3) := by decide +kernel
theorem dX7_without_13 : decode cX7_without 13 = .ok (.iconst (-1), 1) := by decide +kernel
theorem dX7_without_14 : decode cX7_without 14 = .ok (.ireturn, 1) := by decide +kernel
theorem dX7_without_15 : decode cX7_without 15 = .ok (.aload_n 0, 1) := by decide +kernel
theorem dX7_without_16 : decode cX7_without 16 = .ok (.iload_n 1, 1) := by decide +kernel
theorem dX7_without_17 : decode cX7_without 17 = .ok (.iconst 5, 1) := by decide +kernel
theorem dX7_without_18 : decode cX7_without 18 = .ok (.invokevirtual 155, 3) := by decide +kernel
theorem dX7_without_21 : decode cX7_without 21 = .ok (.iconst 1, 1) := by decide +kernel
theorem dX7_without_22 : decode cX7_without 22 = .ok (.if_icmp .ne 6, 3) := by decide +kernel
theorem dX7_without_25 : decode cX7_without 25 = .ok (.bipush (-2), 2) := by decide +kernel
theorem dX7_without_27 : decode cX7_without 27 = .ok (.ireturn, 1) := by decide +kernel
theorem dX7_without_28 : decode cX7_without 28 = .ok (.aload_n 0, 1) := by decide +kernel
theorem dX7_without_29 : decode cX7_without 29 = .ok (.invokevirtual 336, 3) := by decide +kernel
theorem dX7_without_32 : decode cX7_without 32 = .ok (.aload_n 0, 1) := by decide +kernel
theorem dX7_without_33 : decode cX7_without 33 = .ok (.getfield 240, 3) := by decide +kernel
theorem dX7_without_36 : decode cX7_without 36 = .ok (.lstore_n 2, 1) := by decide +kernel
theorem dX7_without_37 : decode cX7_without 37 = .ok (.aload_n 0, 1) := by decide +kernel
theorem dX7_without_38 : decode cX7_without 38 = .ok (.getfield 243, 3) := by decide +kernel
theorem dX7_without_41 : decode cX7_without 41 = .ok (.lstore 4, 2) := by decide +kernel
theorem dX7_without_43 : decode cX7_without 43 = .ok (.aload_n 0, 1) := by decide +kernel
theorem dX7_without_44 : decode cX7_without 44 = .ok (.getfield 9, 3) := by decide +kernel
theorem dX7_without_47 : decode cX7_without 47 = .ok (.bipush 7, 2) := by decide +kernel
theorem dX7_without_49 : decode cX7_without 49 = .ok (.iload_n 1, 1) := by decide +kernel
theorem dX7_without_50 : decode cX7_without 50 = .ok (.imul, 1) := by decide +kernel
theorem dX7_without_51 : decode cX7_without 51 = .ok (.iconst 5, 1) := by decide +kernel
theorem dX7_without_52 : decode cX7_without 52 = .ok (.iadd, 1) := by decide +kernel
theorem dX7_without_53 : decode cX7_without 53 = .ok (.iconst 1, 1) := by decide +kernel
theorem dX7_without_54 : decode cX7_without 54 = .ok (.iastore, 1) := by decide +kernel
theorem dX7_without_55 : decode cX7_without 55 = .ok (.aload_n 0, 1) := by decide +kernel
theorem dX7_without_56 : decode cX7_without 56 = .ok (.invokevirtual 336, 3) := by decide +kernel
theorem dX7_without_59 : decode cX7_without 59 = .ok (.aload_n 0, 1) := by decide +kernel
theorem dX7_without_60 : decode cX7_without 60 = .ok (.getfield 9, 3) := by decide +kernel
theorem dX7_without_63 : decode cX7_without 63 = .ok (.bipush 7, 2) := by decide +kernel
theorem dX7_without_65 : decode cX7_without 65 = .ok (.iload_n 1, 1) := by decide +kernel
theorem dX7_without_66 : decode cX7_without 66 = .ok (.imul, 1) := by decide +kernel
theorem dX7_without_67 : decode cX7_without 67 = .ok (.iconst 5, 1) := by decide +kernel
theorem dX7_without_68 : decode cX7_without 68 = .ok (.iadd, 1) := by decide +kernel
theorem dX7_without_69 : decode cX7_without 69 = .ok (.iconst 0, 1) := by decide +kernel
theorem dX7_without_70 : decode cX7_without 70 = .ok (.iastore, 1) := by decide +kernel
theorem dX7_without_71 : decode cX7_without 71 = .ok (.aload_n 0, 1) := by decide +kernel
theorem dX7_without_72 : decode cX7_without 72 = .ok (.iconst 0, 1) := by decide +kernel
theorem dX7_without_73 : decode cX7_without 73 = .ok (.putfield 110, 3) := by decide +kernel
theorem dX7_without_76 : decode cX7_without 76 = .ok (.aload_n 0, 1) := by decide +kernel
theorem dX7_without_77 : decode cX7_without 77 = .ok (.aload_n 0, 1) := by decide +kernel
theorem dX7_without_78 : decode cX7_without 78 = .ok (.getfield 240, 3) := by decide +kernel
theorem dX7_without_81 : decode cX7_without 81 = .ok (.aload_n 0, 1) := by decide +kernel
theorem dX7_without_82 : decode cX7_without 82 = .ok (.getfield 243, 3) := by decide +kernel
theorem dX7_without_85 : decode cX7_without 85 = .ok (.invokevirtual 325, 3) := by decide +kernel
theorem dX7_without_88 : decode cX7_without 88 = .ok (.iconst 1, 1) := by decide +kernel
theorem dX7_without_89 : decode cX7_without 89 = .ok (.aload_n 0, 1) := by decide +kernel
theorem dX7_without_90 : decode cX7_without 90 = .ok (.lload_n 2, 1) := by decide +kernel
theorem dX7_without_91 : decode cX7_without 91 = .ok (.lload 4, 2) := by decide +kernel
theorem dX7_without_93 : decode cX7_without 93 = .ok (.invokevirtual 386, 3) := by decide +kernel
theorem dX7_without_96 : decode cX7_without 96 = .ok (.iadd, 1) := by decide +kernel
theorem dX7_without_97 : decode cX7_without 97 = .ok (.ireturn, 1) := by decide +kernel
theorem dX7_isGreatest_0 : decode cX7_isGreatest 0 = .ok (.aload_n 0, 1) := by decide +kernel
theorem dX7_isGreatest_1 : decode cX7_isGreatest 1 = .ok (.getfield 390, 3) := by decide +kernel
theorem dX7_isGreatest_4 : decode cX7_isGreatest 4 = .ok (.lconst 0, 1) := by decide +kernel
theorem dX7_isGreatest_5 : decode cX7_isGreatest 5 = .ok (.lcmp, 1) := by decide +kernel
theorem dX7_isGreatest_6 : decode cX7_isGreatest 6 = .ok (.ifCond .eq 20, 3) := by decide +kernel
theorem dX7_isGreatest_9 : decode cX7_isGreatest 9 = .ok (.aload_n 0, 1) := by decide +kernel
theorem dX7_isGreatest_10 : decode cX7_isGreatest 10 = .ok (.aload_n 0, 1) := by decide +kernel
theorem dX7_isGreatest_11 : decode cX7_isGreatest 11 = .ok (.getfield 393, 3) := by decide +kernel
theorem dX7_isGreatest_14 : decode cX7_isGreatest 14 = .ok (.aload_n 0, 1) := by decide +kernel
theorem dX7_isGreatest_15 : decode cX7_isGreatest 15 = .ok (.getfield 390, 3) := by decide +kernel
theorem dX7_isGreatest_18 : decode cX7_isGreatest 18 = .ok (.invokevirtual 386, 3) := by decide +kernel
theorem dX7_isGreatest_21 : decode cX7_isGreatest 21 = .ok (.ifCond .gt 5, 3) := by decide +kernel
theorem dX7_isGreatest_24 : decode cX7_isGreatest 24 = .ok (.iconst 0, 1) := by decide +kernel
theorem dX7_isGreatest_25 : decode cX7_isGreatest 25 = .ok (.ireturn, 1) := by decide +kernel
theorem dX7_isGreatest_26 : decode cX7_isGreatest 26 = .ok (.aload_n 0, 1) := by decide +kernel
theorem dX7_isGreatest_27 : decode cX7_isGreatest 27 = .ok (.aload_n 0, 1) := by decide +kernel
theorem dX7_isGreatest_28 : decode cX7_isGreatest 28 = .ok (.getfield 240, 3) := by decide +kernel
theorem dX7_isGreatest_31 : decode cX7_isGreatest 31 = .ok (.putfield 393, 3) := by decide +kernel
theorem dX7_isGreatest_34 : decode cX7_isGreatest 34 = .ok (.aload_n 0, 1) := by decide +kernel
theorem dX7_isGreatest_35 : decode cX7_isGreatest 35 = .ok (.aload_n 0, 1) := by decide +kernel
theorem dX7_isGreatest_36 : decode cX7_isGreatest 36 = .ok (.getfield 243, 3) := by decide +kernel
theorem dX7_isGreatest_39 : decode cX7_isGreatest 39 = .ok (.putfield 390, 3) := by decide +kernel
theorem dX7_isGreatest_42 : decode cX7_isGreatest 42 = .ok (.iconst 1, 1) := by decide +kernel
theorem dX7_isGreatest_43 : decode cX7_isGreatest 43 = .ok (.ireturn, 1) := by decide +kernel
theorem dX7_tunes_0 : decode cX7_tunes 0 = .ok (.aload_n 0, 1) := by decide +kernel
theorem dX7_tunes_1 : decode cX7_tunes 1 = .ok (.iconst 0, 1) := by decide +kernel
theorem dX7_tunes_2 : decode cX7_tunes 2 = .ok (.putfield 107, 3) := by decide +kernel
theorem dX7_tunes_5 : decode cX7_tunes 5 = .ok (.aload_n 0, 1) := by decide +kernel
theorem dX7_tunes_6 : decode cX7_tunes 6 = .ok (.iload_n 1, 1) := by decide +kernel
theorem dX7_tunes_7 : decode cX7_tunes 7 = .ok (.invokevirtual 159, 3) := by decide +kernel
theorem dX7_tunes_10 : decode cX7_tunes 10 = .ok (.ifCond .ne 5, 3) := by decide +kernel
theorem dX7_tunes_13 : decode cX7_tunes 13 = .ok (.iconst (-1), 1) := by decide +kernel
theorem dX7_tunes_14 : decode cX7_tunes 14 = .ok (.ireturn, 1) := by decide +kernel
theorem dX7_tunes_15 : decode cX7_tunes 15 = .ok (.aload_n 0, 1) := by decide +kernel
theorem dX7_tunes_16 : decode cX7_tunes 16 = .ok (.invokevirtual 396, 3) := by decide +kernel
theorem dX7_tunes_19 : decode cX7_tunes 19 = .ok (.aload_n 0, 1) := by decide +kernel
theorem dX7_tunes_20 : decode cX7_tunes 20 = .ok (.lconst 0, 1) := by decide +kernel
theorem dX7_tunes_21 : decode cX7_tunes 21 = .ok (.putfield 390, 3) := by decide +kernel
theorem dX7_tunes_24 : decode cX7_tunes 24 = .ok (.iconst (-1), 1) := by decide +kernel
theorem dX7_tunes_25 : decode cX7_tunes 25 = .ok (.istore_n 2, 1) := by decide +kernel
theorem dX7_tunes_26 : decode cX7_tunes 26 = .ok (.iconst 0, 1) := by decide +kernel
theorem dX7_tunes_27 : decode cX7_tunes 27 = .ok (.istore_n 3, 1) := by decide +kernel
theorem dX7_tunes_28 : decode cX7_tunes 28 = .ok (.iload_n 3, 1) := by decide +kernel
theorem dX7_tunes_29 : decode cX7_tunes 29 = .ok (.bipush 9, 2) := by decide +kernel
theorem dX7_tunes_31 : decode cX7_tunes 31 = .ok (.if_icmp .gt 34, 3) := by decide +kernel
theorem dX7_tunes_34 : decode cX7_tunes 34 = .ok (.aload_n 0, 1) := by decide +kernel
theorem dX7_tunes_35 : decode cX7_tunes 35 = .ok (.getfield 9, 3) := by decide +kernel
theorem dX7_tunes_38 : decode cX7_tunes 38 = .ok (.bipush 7, 2) := by decide +kernel
theorem dX7_tunes_40 : decode cX7_tunes 40 = .ok (.iload_n 1, 1) := by decide +kernel
theorem dX7_tunes_41 : decode cX7_tunes 41 = .ok (.imul, 1) := by decide +kernel
theorem dX7_tunes_42 : decode cX7_tunes 42 = .ok (.iconst 1, 1) := by decide +kernel
theorem dX7_tunes_43 : decode cX7_tunes 43 = .ok (.iadd, 1) := by decide +kernel
theorem dX7_tunes_44 : decode cX7_tunes 44 = .ok (.iload_n 3, 1) := by decide +kernel
theorem dX7_tunes_45 : decode cX7_tunes 45 = .ok (.iastore, 1) := by decide +kernel
theorem dX7_tunes_46 : decode cX7_tunes 46 = .ok (.aload_n 0, 1) := by decide +kernel
theorem dX7_tunes_47 : decode cX7_tunes 47 = .ok (.invokevirtual 336, 3) := by decide +kernel
theorem dX7_tunes_50 : decode cX7_tunes 50 = .ok (.aload_n 0, 1) := by decide +kernel
theorem dX7_tunes_51 : decode cX7_tunes 51 = .ok (.invokevirtual 399, 3) := by decide +kernel
theorem dX7_tunes_54 : decode cX7_tunes 54 = .ok (.ifCond .eq 5, 3) := by decide +kernel
theorem dX7_tunes_57 : decode cX7_tunes 57 = .ok (.iload_n 3, 1) := by decide +kernel
theorem dX7_tunes_58 : decode cX7_tunes 58 = .ok (.istore_n 2, 1) := by decide +kernel
theorem dX7_tunes_59 : decode cX7_tunes 59 = .ok (.iinc 3 1, 3) := by decide +kernel
theorem dX7_tunes_62 : decode cX7_tunes 62 = .ok (.goto (-34), 3) := by decide +kernel
theorem dX7_tunes_65 : decode cX7_tunes 65 = .ok (.aload_n 0, 1) := by decide +kernel
theorem dX7_tunes_66 : decode cX7_tunes 66 = .ok (.invokevirtual 402, 3) := by decide +kernel
theorem dX7_tunes_69 : decode cX7_tunes 69 = .ok (.aload_n 0, 1) := by decide +kernel
theorem dX7_tunes_70 : decode cX7_tunes 70 = .ok (.iconst 0, 1) := by decide +kernel
theorem dX7_tunes_71 : decode cX7_tunes 71 = .ok (.putfield 110, 3) := by decide +kernel
theorem dX7_tunes_74 : decode cX7_tunes 74 = .ok (.aload_n 0, 1) := by decide +kernel
theorem dX7_tunes_75 : decode cX7_tunes 75 = .ok (.aload_n 0, 1) := by decide +kernel
theorem dX7_tunes_76 : decode cX7_tunes 76 = .ok (.getfield 393, 3) := by decide +kernel
theorem dX7_tunes_79 : decode cX7_tunes 79 = .ok (.aload_n 0, 1) := by decide +kernel
theorem dX7_tunes_80 : decode cX7_tunes 80 = .ok (.getfield 390, 3) := by decide +kernel
theorem dX7_tunes_83 : decode cX7_tunes 83 = .ok (.invokevirtual 325, 3) := by decide +kernel
theorem dX7_tunes_86 : decode cX7_tunes 86 = .ok (.iload_n 2, 1) := by decide +kernel
theorem dX7_tunes_87 : decode cX7_tunes 87 = .ok (.ireturn, 1) := by decide +kernel
theorem dX7_nextPlaces_0 : decode cX7_nextPlaces 0 = .ok (.aload_n 0, 1) := by decide +kernel
theorem dX7_nextPlaces_1 : decode cX7_nextPlaces 1 = .ok (.getfield 127, 3) := by decide +kernel
theorem dX7_nextPlaces_4 : decode cX7_nextPlaces 4 = .ok (.iconst 2, 1) := by decide +kernel
theorem dX7_nextPlaces_5 : decode cX7_nextPlaces 5 = .ok (.isub, 1) := by decide +kernel
theorem dX7_nextPlaces_6 : decode cX7_nextPlaces 6 = .ok (.istore_n 1, 1) := by decide +kernel
theorem dX7_nextPlaces_7 : decode cX7_nextPlaces 7 = .ok (.iload_n 1, 1) := by decide +kernel
theorem dX7_nextPlaces_8 : decode cX7_nextPlaces 8 = .ok (.ifCond .lt 26, 3) := by decide +kernel
theorem dX7_nextPlaces_11 : decode cX7_nextPlaces 11 = .ok (.aload_n 0, 1) := by decide +kernel
theorem dX7_nextPlaces_12 : decode cX7_nextPlaces 12 = .ok (.getfield 101, 3) := by decide +kernel
theorem dX7_nextPlaces_15 : decode cX7_nextPlaces 15 = .ok (.iload_n 1, 1) := by decide +kernel
theorem dX7_nextPlaces_16 : decode cX7_nextPlaces 16 = .ok (.iaload, 1) := by decide +kernel
theorem dX7_nextPlaces_17 : decode cX7_nextPlaces 17 = .ok (.aload_n 0, 1) := by decide +kernel
theorem dX7_nextPlaces_18 : decode cX7_nextPlaces 18 = .ok (.getfield 101, 3) := by decide +kernel
theorem dX7_nextPlaces_21 : decode cX7_nextPlaces 21 = .ok (.iload_n 1, 1) := by decide +kernel
theorem dX7_nextPlaces_22 : decode cX7_nextPlaces 22 = .ok (.iconst 1, 1) := by decide +kernel
theorem dX7_nextPlaces_23 : decode cX7_nextPlaces 23 = .ok (.iadd, 1) := by decide +kernel
theorem dX7_nextPlaces_24 : decode cX7_nextPlaces 24 = .ok (.iaload, 1) := by decide +kernel
theorem dX7_nextPlaces_25 : decode cX7_nextPlaces 25 = .ok (.if_icmp .le 9, 3) := by decide +kernel
theorem dX7_nextPlaces_28 : decode cX7_nextPlaces 28 = .ok (.iinc 1 (-1), 3) := by decide +kernel
theorem dX7_nextPlaces_31 : decode cX7_nextPlaces 31 = .ok (.goto (-24), 3) := by decide +kernel
theorem dX7_nextPlaces_34 : decode cX7_nextPlaces 34 = .ok (.iload_n 1, 1) := by decide +kernel
theorem dX7_nextPlaces_35 : decode cX7_nextPlaces 35 = .ok (.ifCond .ge 5, 3) := by decide +kernel
theorem dX7_nextPlaces_38 : decode cX7_nextPlaces 38 = .ok (.iconst 0, 1) := by decide +kernel
theorem dX7_nextPlaces_39 : decode cX7_nextPlaces 39 = .ok (.ireturn, 1) := by decide +kernel
theorem dX7_nextPlaces_40 : decode cX7_nextPlaces 40 = .ok (.aload_n 0, 1) := by decide +kernel
theorem dX7_nextPlaces_41 : decode cX7_nextPlaces 41 = .ok (.getfield 127, 3) := by decide +kernel
theorem dX7_nextPlaces_44 : decode cX7_nextPlaces 44 = .ok (.iconst 1, 1) := by decide +kernel
theorem dX7_nextPlaces_45 : decode cX7_nextPlaces 45 = .ok (.isub, 1) := by decide +kernel
theorem dX7_nextPlaces_46 : decode cX7_nextPlaces 46 = .ok (.istore_n 2, 1) := by decide +kernel
theorem dX7_nextPlaces_47 : decode cX7_nextPlaces 47 = .ok (.aload_n 0, 1) := by decide +kernel
theorem dX7_nextPlaces_48 : decode cX7_nextPlaces 48 = .ok (.getfield 101, 3) := by decide +kernel
theorem dX7_nextPlaces_51 : decode cX7_nextPlaces 51 = .ok (.iload_n 2, 1) := by decide +kernel
theorem dX7_nextPlaces_52 : decode cX7_nextPlaces 52 = .ok (.iaload, 1) := by decide +kernel
theorem dX7_nextPlaces_53 : decode cX7_nextPlaces 53 = .ok (.aload_n 0, 1) := by decide +kernel
theorem dX7_nextPlaces_54 : decode cX7_nextPlaces 54 = .ok (.getfield 101, 3) := by decide +kernel
theorem dX7_nextPlaces_57 : decode cX7_nextPlaces 57 = .ok (.iload_n 1, 1) := by decide +kernel
theorem dX7_nextPlaces_58 : decode cX7_nextPlaces 58 = .ok (.iaload, 1) := by decide +kernel
theorem dX7_nextPlaces_59 : decode cX7_nextPlaces 59 = .ok (.if_icmp .ge 9, 3) := by decide +kernel
theorem dX7_nextPlaces_62 : decode cX7_nextPlaces 62 = .ok (.iinc 2 (-1), 3) := by decide +kernel
theorem dX7_nextPlaces_65 : decode cX7_nextPlaces 65 = .ok (.goto (-18), 3) := by decide +kernel
theorem dX7_nextPlaces_68 : decode cX7_nextPlaces 68 = .ok (.aload_n 0, 1) := by decide +kernel
theorem dX7_nextPlaces_69 : decode cX7_nextPlaces 69 = .ok (.iload_n 1, 1) := by decide +kernel
theorem dX7_nextPlaces_70 : decode cX7_nextPlaces 70 = .ok (.iload_n 2, 1) := by decide +kernel
theorem dX7_nextPlaces_71 : decode cX7_nextPlaces 71 = .ok (.invokevirtual 405, 3) := by decide +kernel
theorem dX7_nextPlaces_74 : decode cX7_nextPlaces 74 = .ok (.iload_n 1, 1) := by decide +kernel
theorem dX7_nextPlaces_75 : decode cX7_nextPlaces 75 = .ok (.iconst 1, 1) := by decide +kernel
theorem dX7_nextPlaces_76 : decode cX7_nextPlaces 76 = .ok (.iadd, 1) := by decide +kernel
theorem dX7_nextPlaces_77 : decode cX7_nextPlaces 77 = .ok (.istore_n 3, 1) := by decide +kernel
theorem dX7_nextPlaces_78 : decode cX7_nextPlaces 78 = .ok (.aload_n 0, 1) := by decide +kernel
theorem dX7_nextPlaces_79 : decode cX7_nextPlaces 79 = .ok (.getfield 127, 3) := by decide +kernel
theorem dX7_nextPlaces_82 : decode cX7_nextPlaces 82 = .ok (.iconst 1, 1) := by decide +kernel
theorem dX7_nextPlaces_83 : decode cX7_nextPlaces 83 = .ok (.isub, 1) := by decide +kernel
theorem dX7_nextPlaces_84 : decode cX7_nextPlaces 84 = .ok (.istore 4, 2) := by decide +kernel
theorem dX7_nextPlaces_86 : decode cX7_nextPlaces 86 = .ok (.iload_n 3, 1) := by decide +kernel
theorem dX7_nextPlaces_87 : decode cX7_nextPlaces 87 = .ok (.iload 4, 2) := by decide +kernel
theorem dX7_nextPlaces_89 : decode cX7_nextPlaces 89 = .ok (.if_icmp .ge 19, 3) := by decide +kernel
theorem dX7_nextPlaces_92 : decode cX7_nextPlaces 92 = .ok (.aload_n 0, 1) := by decide +kernel
theorem dX7_nextPlaces_93 : decode cX7_nextPlaces 93 = .ok (.iload_n 3, 1) := by decide +kernel
theorem dX7_nextPlaces_94 : decode cX7_nextPlaces 94 = .ok (.iload 4, 2) := by decide +kernel
theorem dX7_nextPlaces_96 : decode cX7_nextPlaces 96 = .ok (.invokevirtual 405, 3) := by decide +kernel
theorem dX7_nextPlaces_99 : decode cX7_nextPlaces 99 = .ok (.iinc 3 1, 3) := by decide +kernel
theorem dX7_nextPlaces_102 : decode cX7_nextPlaces 102 = .ok (.iinc 4 (-1), 3) := by decide +kernel
theorem dX7_nextPlaces_105 : decode cX7_nextPlaces 105 = .ok (.goto (-19), 3) := by decide +kernel
theorem dX7_nextPlaces_108 : decode cX7_nextPlaces 108 = .ok (.iconst 1, 1) := by decide +kernel
theorem dX7_nextPlaces_109 : decode cX7_nextPlaces 109 = .ok (.ireturn, 1) := by decide +kernel
theorem dX7_swapPlaces_0 : decode cX7_swapPlaces 0 = .ok (.aload_n 0, 1) := by decide +kernel
theorem dX7_swapPlaces_1 : decode cX7_swapPlaces 1 = .ok (.getfield 101, 3) := by decide +kernel
theorem dX7_swapPlaces_4 : decode cX7_swapPlaces 4 = .ok (.iload_n 1, 1) := by decide +kernel
theorem dX7_swapPlaces_5 : decode cX7_swapPlaces 5 = .ok (.iaload, 1) := by decide +kernel
theorem dX7_swapPlaces_6 : decode cX7_swapPlaces 6 = .ok (.istore_n 3, 1) := by decide +kernel
theorem dX7_swapPlaces_7 : decode cX7_swapPlaces 7 = .ok (.aload_n 0, 1) := by decide +kernel
theorem dX7_swapPlaces_8 : decode cX7_swapPlaces 8 = .ok (.getfield 101, 3) := by decide +kernel
theorem dX7_swapPlaces_11 : decode cX7_swapPlaces 11 = .ok (.iload_n 1, 1) := by decide +kernel
theorem dX7_swapPlaces_12 : decode cX7_swapPlaces 12 = .ok (.aload_n 0, 1) := by decide +kernel
theorem dX7_swapPlaces_13 : decode cX7_swapPlaces 13 = .ok (.getfield 101, 3) := by decide +kernel
theorem dX7_swapPlaces_16 : decode cX7_swapPlaces 16 = .ok (.iload_n 2, 1) := by decide +kernel
theorem dX7_swapPlaces_17 : decode cX7_swapPlaces 17 = .ok (.iaload, 1) := by decide +kernel
theorem dX7_swapPlaces_18 : decode cX7_swapPlaces 18 = .ok (.iastore, 1) := by decide +kernel
theorem dX7_swapPlaces_19 : decode cX7_swapPlaces 19 = .ok (.aload_n 0, 1) := by decide +kernel
theorem dX7_swapPlaces_20 : decode cX7_swapPlaces 20 = .ok (.getfield 101, 3) := by decide +kernel
theorem dX7_swapPlaces_23 : decode cX7_swapPlaces 23 = .ok (.iload_n 2, 1) := by decide +kernel
theorem dX7_swapPlaces_24 : decode cX7_swapPlaces 24 = .ok (.iload_n 3, 1) := by decide +kernel
theorem dX7_swapPlaces_25 : decode cX7_swapPlaces 25 = .ok (.iastore, 1) := by decide +kernel
theorem dX7_swapPlaces_26 : decode cX7_swapPlaces 26 = .ok (.return_, 1) := by decide +kernel
theorem dX7_arranges_0 : decode cX7_arranges 0 = .ok (.aload_n 0, 1) := by decide +kernel
theorem dX7_arranges_1 : decode cX7_arranges 1 = .ok (.iconst 0, 1) := by decide +kernel
theorem dX7_arranges_2 : decode cX7_arranges 2 = .ok (.putfield 107, 3) := by decide +kernel
theorem dX7_arranges_5 : decode cX7_arranges 5 = .ok (.aload_n 0, 1) := by decide +kernel
theorem dX7_arranges_6 : decode cX7_arranges 6 = .ok (.getfield 127, 3) := by decide +kernel
theorem dX7_arranges_9 : decode cX7_arranges 9 = .ok (.ifCond .ne 5, 3) := by decide +kernel
theorem dX7_arranges_12 : decode cX7_arranges 12 = .ok (.iconst (-1), 1) := by decide +kernel
theorem dX7_arranges_13 : decode cX7_arranges 13 = .ok (.ireturn, 1) := by decide +kernel
theorem dX7_arranges_14 : decode cX7_arranges 14 = .ok (.aload_n 0, 1) := by decide +kernel
theorem dX7_arranges_15 : decode cX7_arranges 15 = .ok (.invokevirtual 396, 3) := by decide +kernel
theorem dX7_arranges_18 : decode cX7_arranges 18 = .ok (.aload_n 0, 1) := by decide +kernel
theorem dX7_arranges_19 : decode cX7_arranges 19 = .ok (.lconst 0, 1) := by decide +kernel
theorem dX7_arranges_20 : decode cX7_arranges 20 = .ok (.putfield 390, 3) := by decide +kernel
theorem dX7_arranges_23 : decode cX7_arranges 23 = .ok (.iconst 0, 1) := by decide +kernel
theorem dX7_arranges_24 : decode cX7_arranges 24 = .ok (.istore_n 1, 1) := by decide +kernel
theorem dX7_arranges_25 : decode cX7_arranges 25 = .ok (.iload_n 1, 1) := by decide +kernel
theorem dX7_arranges_26 : decode cX7_arranges 26 = .ok (.aload_n 0, 1) := by decide +kernel
theorem dX7_arranges_27 : decode cX7_arranges 27 = .ok (.getfield 127, 3) := by decide +kernel
theorem dX7_arranges_30 : decode cX7_arranges 30 = .ok (.if_icmp .ge 16, 3) := by decide +kernel
theorem dX7_arranges_33 : decode cX7_arranges 33 = .ok (.aload_n 0, 1) := by decide +kernel
theorem dX7_arranges_34 : decode cX7_arranges 34 = .ok (.getfield 101, 3) := by decide +kernel
theorem dX7_arranges_37 : decode cX7_arranges 37 = .ok (.iload_n 1, 1) := by decide +kernel
theorem dX7_arranges_38 : decode cX7_arranges 38 = .ok (.iload_n 1, 1) := by decide +kernel
theorem dX7_arranges_39 : decode cX7_arranges 39 = .ok (.iastore, 1) := by decide +kernel
theorem dX7_arranges_40 : decode cX7_arranges 40 = .ok (.iinc 1 1, 3) := by decide +kernel
theorem dX7_arranges_43 : decode cX7_arranges 43 = .ok (.goto (-18), 3) := by decide +kernel
theorem dX7_arranges_46 : decode cX7_arranges 46 = .ok (.iconst 1, 1) := by decide +kernel
theorem dX7_arranges_47 : decode cX7_arranges 47 = .ok (.istore_n 1, 1) := by decide +kernel
theorem dX7_arranges_48 : decode cX7_arranges 48 = .ok (.iload_n 1, 1) := by decide +kernel
theorem dX7_arranges_49 : decode cX7_arranges 49 = .ok (.ifCond .eq 106, 3) := by decide +kernel
theorem dX7_arranges_52 : decode cX7_arranges 52 = .ok (.iconst 0, 1) := by decide +kernel
theorem dX7_arranges_53 : decode cX7_arranges 53 = .ok (.istore_n 2, 1) := by decide +kernel
theorem dX7_arranges_54 : decode cX7_arranges 54 = .ok (.iload_n 2, 1) := by decide +kernel
theorem dX7_arranges_55 : decode cX7_arranges 55 = .ok (.aload_n 0, 1) := by decide +kernel
theorem dX7_arranges_56 : decode cX7_arranges 56 = .ok (.getfield 127, 3) := by decide +kernel
theorem dX7_arranges_59 : decode cX7_arranges 59 = .ok (.if_icmp .ge 49, 3) := by decide +kernel
theorem dX7_arranges_62 : decode cX7_arranges 62 = .ok (.iconst 0, 1) := by decide +kernel
theorem dX7_arranges_63 : decode cX7_arranges 63 = .ok (.istore_n 3, 1) := by decide +kernel
theorem dX7_arranges_64 : decode cX7_arranges 64 = .ok (.iload_n 3, 1) := by decide +kernel
theorem dX7_arranges_65 : decode cX7_arranges 65 = .ok (.iconst 5, 1) := by decide +kernel
theorem dX7_arranges_66 : decode cX7_arranges 66 = .ok (.if_icmp .gt 36, 3) := by decide +kernel
theorem dX7_arranges_69 : decode cX7_arranges 69 = .ok (.aload_n 0, 1) := by decide +kernel
theorem dX7_arranges_70 : decode cX7_arranges 70 = .ok (.getfield 9, 3) := by decide +kernel
theorem dX7_arranges_73 : decode cX7_arranges 73 = .ok (.bipush 7, 2) := by decide +kernel
theorem dX7_arranges_75 : decode cX7_arranges 75 = .ok (.iload_n 2, 1) := by decide +kernel
theorem dX7_arranges_76 : decode cX7_arranges 76 = .ok (.imul, 1) := by decide +kernel
theorem dX7_arranges_77 : decode cX7_arranges 77 = .ok (.iload_n 3, 1) := by decide +kernel
theorem dX7_arranges_78 : decode cX7_arranges 78 = .ok (.iadd, 1) := by decide +kernel
theorem dX7_arranges_79 : decode cX7_arranges 79 = .ok (.aload_n 0, 1) := by decide +kernel
theorem dX7_arranges_80 : decode cX7_arranges 80 = .ok (.getfield 98, 3) := by decide +kernel
theorem dX7_arranges_83 : decode cX7_arranges 83 = .ok (.bipush 7, 2) := by decide +kernel
theorem dX7_arranges_85 : decode cX7_arranges 85 = .ok (.aload_n 0, 1) := by decide +kernel
theorem dX7_arranges_86 : decode cX7_arranges 86 = .ok (.getfield 101, 3) := by decide +kernel
theorem dX7_arranges_89 : decode cX7_arranges 89 = .ok (.iload_n 2, 1) := by decide +kernel
theorem dX7_arranges_90 : decode cX7_arranges 90 = .ok (.iaload, 1) := by decide +kernel
theorem dX7_arranges_91 : decode cX7_arranges 91 = .ok (.imul, 1) := by decide +kernel
theorem dX7_arranges_92 : decode cX7_arranges 92 = .ok (.iload_n 3, 1) := by decide +kernel
theorem dX7_arranges_93 : decode cX7_arranges 93 = .ok (.iadd, 1) := by decide +kernel
theorem dX7_arranges_94 : decode cX7_arranges 94 = .ok (.iaload, 1) := by decide +kernel
theorem dX7_arranges_95 : decode cX7_arranges 95 = .ok (.iastore, 1) := by decide +kernel
theorem dX7_arranges_96 : decode cX7_arranges 96 = .ok (.iinc 3 1, 3) := by decide +kernel
theorem dX7_arranges_99 : decode cX7_arranges 99 = .ok (.goto (-35), 3) := by decide +kernel
theorem dX7_arranges_102 : decode cX7_arranges 102 = .ok (.iinc 2 1, 3) := by decide +kernel
theorem dX7_arranges_105 : decode cX7_arranges 105 = .ok (.goto (-51), 3) := by decide +kernel
theorem dX7_arranges_108 : decode cX7_arranges 108 = .ok (.aload_n 0, 1) := by decide +kernel
theorem dX7_arranges_109 : decode cX7_arranges 109 = .ok (.invokevirtual 336, 3) := by decide +kernel
theorem dX7_arranges_112 : decode cX7_arranges 112 = .ok (.aload_n 0, 1) := by decide +kernel
theorem dX7_arranges_113 : decode cX7_arranges 113 = .ok (.invokevirtual 399, 3) := by decide +kernel
theorem dX7_arranges_116 : decode cX7_arranges 116 = .ok (.ifCond .eq 31, 3) := by decide +kernel
theorem dX7_arranges_119 : decode cX7_arranges 119 = .ok (.iconst 0, 1) := by decide +kernel
theorem dX7_arranges_120 : decode cX7_arranges 120 = .ok (.istore_n 2, 1) := by decide +kernel
theorem dX7_arranges_121 : decode cX7_arranges 121 = .ok (.iload_n 2, 1) := by decide +kernel
theorem dX7_arranges_122 : decode cX7_arranges 122 = .ok (.aload_n 0, 1) := by decide +kernel
theorem dX7_arranges_123 : decode cX7_arranges 123 = .ok (.getfield 127, 3) := by decide +kernel
theorem dX7_arranges_126 : decode cX7_arranges 126 = .ok (.if_icmp .ge 21, 3) := by decide +kernel
theorem dX7_arranges_129 : decode cX7_arranges 129 = .ok (.aload_n 0, 1) := by decide +kernel
theorem dX7_arranges_130 : decode cX7_arranges 130 = .ok (.getfield 104, 3) := by decide +kernel
theorem dX7_arranges_133 : decode cX7_arranges 133 = .ok (.iload_n 2, 1) := by decide +kernel
theorem dX7_arranges_134 : decode cX7_arranges 134 = .ok (.aload_n 0, 1) := by decide +kernel
theorem dX7_arranges_135 : decode cX7_arranges 135 = .ok (.getfield 101, 3) := by decide +kernel
theorem dX7_arranges_138 : decode cX7_arranges 138 = .ok (.iload_n 2, 1) := by decide +kernel
theorem dX7_arranges_139 : decode cX7_arranges 139 = .ok (.iaload, 1) := by decide +kernel
theorem dX7_arranges_140 : decode cX7_arranges 140 = .ok (.iastore, 1) := by decide +kernel
theorem dX7_arranges_141 : decode cX7_arranges 141 = .ok (.iinc 2 1, 3) := by decide +kernel
theorem dX7_arranges_144 : decode cX7_arranges 144 = .ok (.goto (-23), 3) := by decide +kernel
theorem dX7_arranges_147 : decode cX7_arranges 147 = .ok (.aload_n 0, 1) := by decide +kernel
theorem dX7_arranges_148 : decode cX7_arranges 148 = .ok (.invokevirtual 408, 3) := by decide +kernel
theorem dX7_arranges_151 : decode cX7_arranges 151 = .ok (.istore_n 1, 1) := by decide +kernel
theorem dX7_arranges_152 : decode cX7_arranges 152 = .ok (.goto (-104), 3) := by decide +kernel
theorem dX7_arranges_155 : decode cX7_arranges 155 = .ok (.aload_n 0, 1) := by decide +kernel
theorem dX7_arranges_156 : decode cX7_arranges 156 = .ok (.invokevirtual 402, 3) := by decide +kernel
theorem dX7_arranges_159 : decode cX7_arranges 159 = .ok (.iconst 0, 1) := by decide +kernel
theorem dX7_arranges_160 : decode cX7_arranges 160 = .ok (.istore_n 2, 1) := by decide +kernel
theorem dX7_arranges_161 : decode cX7_arranges 161 = .ok (.aload_n 0, 1) := by decide +kernel
theorem dX7_arranges_162 : decode cX7_arranges 162 = .ok (.iconst 0, 1) := by decide +kernel
theorem dX7_arranges_163 : decode cX7_arranges 163 = .ok (.putfield 110, 3) := by decide +kernel
theorem dX7_arranges_166 : decode cX7_arranges 166 = .ok (.iconst 0, 1) := by decide +kernel
theorem dX7_arranges_167 : decode cX7_arranges 167 = .ok (.istore_n 3, 1) := by decide +kernel
theorem dX7_arranges_168 : decode cX7_arranges 168 = .ok (.iload_n 3, 1) := by decide +kernel
theorem dX7_arranges_169 : decode cX7_arranges 169 = .ok (.aload_n 0, 1) := by decide +kernel
theorem dX7_arranges_170 : decode cX7_arranges 170 = .ok (.getfield 127, 3) := by decide +kernel
theorem dX7_arranges_173 : decode cX7_arranges 173 = .ok (.if_icmp .ge 38, 3) := by decide +kernel
theorem dX7_arranges_176 : decode cX7_arranges 176 = .ok (.aload_n 0, 1) := by decide +kernel
theorem dX7_arranges_177 : decode cX7_arranges 177 = .ok (.aload_n 0, 1) := by decide +kernel
theorem dX7_arranges_178 : decode cX7_arranges 178 = .ok (.getfield 104, 3) := by decide +kernel
theorem dX7_arranges_181 : decode cX7_arranges 181 = .ok (.iload_n 3, 1) := by decide +kernel
theorem dX7_arranges_182 : decode cX7_arranges 182 = .ok (.iaload, 1) := by decide +kernel
theorem dX7_arranges_183 : decode cX7_arranges 183 = .ok (.i2l, 1) := by decide +kernel
theorem dX7_arranges_184 : decode cX7_arranges 184 = .ok (.invokevirtual 123, 3) := by decide +kernel
theorem dX7_arranges_187 : decode cX7_arranges 187 = .ok (.iload_n 2, 1) := by decide +kernel
theorem dX7_arranges_188 : decode cX7_arranges 188 = .ok (.aload_n 0, 1) := by decide +kernel
theorem dX7_arranges_189 : decode cX7_arranges 189 = .ok (.getfield 104, 3) := by decide +kernel
theorem dX7_arranges_192 : decode cX7_arranges 192 = .ok (.iload_n 3, 1) := by decide +kernel
theorem dX7_arranges_193 : decode cX7_arranges 193 = .ok (.iaload, 1) := by decide +kernel
theorem dX7_arranges_194 : decode cX7_arranges 194 = .ok (.iload_n 3, 1) := by decide +kernel
theorem dX7_arranges_195 : decode cX7_arranges 195 = .ok (.if_icmp .eq 7, 3) := by decide +kernel
theorem dX7_arranges_198 : decode cX7_arranges 198 = .ok (.iconst 1, 1) := by decide +kernel
theorem dX7_arranges_199 : decode cX7_arranges 199 = .ok (.goto 4, 3) := by decide +kernel
theorem dX7_arranges_202 : decode cX7_arranges 202 = .ok (.iconst 0, 1) := by decide +kernel
theorem dX7_arranges_203 : decode cX7_arranges 203 = .ok (.iadd, 1) := by decide +kernel
theorem dX7_arranges_204 : decode cX7_arranges 204 = .ok (.istore_n 2, 1) := by decide +kernel
theorem dX7_arranges_205 : decode cX7_arranges 205 = .ok (.iinc 3 1, 3) := by decide +kernel
theorem dX7_arranges_208 : decode cX7_arranges 208 = .ok (.goto (-40), 3) := by decide +kernel
theorem dX7_arranges_211 : decode cX7_arranges 211 = .ok (.aload_n 0, 1) := by decide +kernel
theorem dX7_arranges_212 : decode cX7_arranges 212 = .ok (.aload_n 0, 1) := by decide +kernel
theorem dX7_arranges_213 : decode cX7_arranges 213 = .ok (.getfield 393, 3) := by decide +kernel
theorem dX7_arranges_216 : decode cX7_arranges 216 = .ok (.aload_n 0, 1) := by decide +kernel
theorem dX7_arranges_217 : decode cX7_arranges 217 = .ok (.getfield 390, 3) := by decide +kernel
theorem dX7_arranges_220 : decode cX7_arranges 220 = .ok (.invokevirtual 325, 3) := by decide +kernel
theorem dX7_arranges_223 : decode cX7_arranges 223 = .ok (.iload_n 2, 1) := by decide +kernel
theorem dX7_arranges_224 : decode cX7_arranges 224 = .ok (.ifCond .le 7, 3) := by decide +kernel
theorem dX7_arranges_227 : decode cX7_arranges 227 = .ok (.iconst 1, 1) := by decide +kernel
theorem dX7_arranges_228 : decode cX7_arranges 228 = .ok (.goto 4, 3) := by decide +kernel
theorem dX7_arranges_231 : decode cX7_arranges 231 = .ok (.iconst 0, 1) := by decide +kernel
theorem dX7_arranges_232 : decode cX7_arranges 232 = .ok (.ireturn, 1) := by decide +kernel
theorem dX7_fits_0 : decode cX7_fits 0 = .ok (.aload_n 0, 1) := by decide +kernel
theorem dX7_fits_1 : decode cX7_fits 1 = .ok (.iconst 0, 1) := by decide +kernel
theorem dX7_fits_2 : decode cX7_fits 2 = .ok (.putfield 107, 3) := by decide +kernel
theorem dX7_fits_5 : decode cX7_fits 5 = .ok (.aload_n 0, 1) := by decide +kernel
theorem dX7_fits_6 : decode cX7_fits 6 = .ok (.getfield 127, 3) := by decide +kernel
theorem dX7_fits_9 : decode cX7_fits 9 = .ok (.ifCond .eq 10, 3) := by decide +kernel
theorem dX7_fits_12 : decode cX7_fits 12 = .ok (.iload_n 1, 1) := by decide +kernel
theorem dX7_fits_13 : decode cX7_fits 13 = .ok (.invokestatic 319, 3) := by decide +kernel
theorem dX7_fits_16 : decode cX7_fits 16 = .ok (.ifCond .ne 5, 3) := by decide +kernel
theorem dX7_fits_19 : decode cX7_fits 19 = .ok (.iconst (-1), 1) := by decide +kernel
theorem dX7_fits_20 : decode cX7_fits 20 = .ok (.ireturn, 1) := by decide +kernel
theorem dX7_fits_21 : decode cX7_fits 21 = .ok (.aload_n 0, 1) := by decide +kernel
theorem dX7_fits_22 : decode cX7_fits 22 = .ok (.invokevirtual 396, 3) := by decide +kernel
theorem dX7_fits_25 : decode cX7_fits 25 = .ok (.bipush (-2), 2) := by decide +kernel
theorem dX7_fits_27 : decode cX7_fits 27 = .ok (.istore_n 2, 1) := by decide +kernel
theorem dX7_fits_28 : decode cX7_fits 28 = .ok (.bipush 9, 2) := by decide +kernel
theorem dX7_fits_30 : decode cX7_fits 30 = .ok (.istore_n 3, 1) := by decide +kernel
theorem dX7_fits_31 : decode cX7_fits 31 = .ok (.iload_n 3, 1) := by decide +kernel
theorem dX7_fits_32 : decode cX7_fits 32 = .ok (.ifCond .lt 77, 3) := by decide +kernel
theorem dX7_fits_35 : decode cX7_fits 35 = .ok (.iload_n 2, 1) := by decide +kernel
theorem dX7_fits_36 : decode cX7_fits 36 = .ok (.bipush (-2), 2) := by decide +kernel
theorem dX7_fits_38 : decode cX7_fits 38 = .ok (.if_icmp .ne 71, 3) := by decide +kernel
theorem dX7_fits_41 : decode cX7_fits 41 = .ok (.iconst 0, 1) := by decide +kernel
theorem dX7_fits_42 : decode cX7_fits 42 = .ok (.istore 4, 2) := by decide +kernel
theorem dX7_fits_44 : decode cX7_fits 44 = .ok (.iload 4, 2) := by decide +kernel
theorem dX7_fits_46 : decode cX7_fits 46 = .ok (.aload_n 0, 1) := by decide +kernel
theorem dX7_fits_47 : decode cX7_fits 47 = .ok (.getfield 127, 3) := by decide +kernel
theorem dX7_fits_50 : decode cX7_fits 50 = .ok (.if_icmp .ge 37, 3) := by decide +kernel
theorem dX7_fits_53 : decode cX7_fits 53 = .ok (.aload_n 0, 1) := by decide +kernel
theorem dX7_fits_54 : decode cX7_fits 54 = .ok (.getfield 9, 3) := by decide +kernel
theorem dX7_fits_57 : decode cX7_fits 57 = .ok (.bipush 7, 2) := by decide +kernel
theorem dX7_fits_59 : decode cX7_fits 59 = .ok (.iload 4, 2) := by decide +kernel
theorem dX7_fits_61 : decode cX7_fits 61 = .ok (.imul, 1) := by decide +kernel
theorem dX7_fits_62 : decode cX7_fits 62 = .ok (.iconst 1, 1) := by decide +kernel
theorem dX7_fits_63 : decode cX7_fits 63 = .ok (.iadd, 1) := by decide +kernel
theorem dX7_fits_64 : decode cX7_fits 64 = .ok (.iload_n 3, 1) := by decide +kernel
theorem dX7_fits_65 : decode cX7_fits 65 = .ok (.aload_n 0, 1) := by decide +kernel
theorem dX7_fits_66 : decode cX7_fits 66 = .ok (.getfield 98, 3) := by decide +kernel
theorem dX7_fits_69 : decode cX7_fits 69 = .ok (.bipush 7, 2) := by decide +kernel
theorem dX7_fits_71 : decode cX7_fits 71 = .ok (.iload 4, 2) := by decide +kernel
theorem dX7_fits_73 : decode cX7_fits 73 = .ok (.imul, 1) := by decide +kernel
theorem dX7_fits_74 : decode cX7_fits 74 = .ok (.iconst 1, 1) := by decide +kernel
theorem dX7_fits_75 : decode cX7_fits 75 = .ok (.iadd, 1) := by decide +kernel
theorem dX7_fits_76 : decode cX7_fits 76 = .ok (.iaload, 1) := by decide +kernel
theorem dX7_fits_77 : decode cX7_fits 77 = .ok (.invokestatic 252, 3) := by decide +kernel
theorem dX7_fits_80 : decode cX7_fits 80 = .ok (.iastore, 1) := by decide +kernel
theorem dX7_fits_81 : decode cX7_fits 81 = .ok (.iinc 4 1, 3) := by decide +kernel
theorem dX7_fits_84 : decode cX7_fits 84 = .ok (.goto (-40), 3) := by decide +kernel
theorem dX7_fits_87 : decode cX7_fits 87 = .ok (.aload_n 0, 1) := by decide +kernel
theorem dX7_fits_88 : decode cX7_fits 88 = .ok (.invokevirtual 336, 3) := by decide +kernel
theorem dX7_fits_91 : decode cX7_fits 91 = .ok (.aload_n 0, 1) := by decide +kernel
theorem dX7_fits_92 : decode cX7_fits 92 = .ok (.iload_n 1, 1) := by decide +kernel
theorem dX7_fits_93 : decode cX7_fits 93 = .ok (.i2l, 1) := by decide +kernel
theorem dX7_fits_94 : decode cX7_fits 94 = .ok (.lconst 1, 1) := by decide +kernel
theorem dX7_fits_95 : decode cX7_fits 95 = .ok (.invokevirtual 386, 3) := by decide +kernel
theorem dX7_fits_98 : decode cX7_fits 98 = .ok (.ifCond .lt 5, 3) := by decide +kernel
theorem dX7_fits_101 : decode cX7_fits 101 = .ok (.iload_n 3, 1) := by decide +kernel
theorem dX7_fits_102 : decode cX7_fits 102 = .ok (.istore_n 2, 1) := by decide +kernel
theorem dX7_fits_103 : decode cX7_fits 103 = .ok (.iinc 3 (-1), 3) := by decide +kernel
theorem dX7_fits_106 : decode cX7_fits 106 = .ok (.goto (-75), 3) := by decide +kernel
theorem dX7_fits_109 : decode cX7_fits 109 = .ok (.aload_n 0, 1) := by decide +kernel
theorem dX7_fits_110 : decode cX7_fits 110 = .ok (.invokevirtual 402, 3) := by decide +kernel
theorem dX7_fits_113 : decode cX7_fits 113 = .ok (.iload_n 2, 1) := by decide +kernel
theorem dX7_fits_114 : decode cX7_fits 114 = .ok (.bipush (-2), 2) := by decide +kernel
theorem dX7_fits_116 : decode cX7_fits 116 = .ok (.if_icmp .ne 6, 3) := by decide +kernel
theorem dX7_fits_119 : decode cX7_fits 119 = .ok (.bipush (-2), 2) := by decide +kernel
theorem dX7_fits_121 : decode cX7_fits 121 = .ok (.ireturn, 1) := by decide +kernel
theorem dX7_fits_122 : decode cX7_fits 122 = .ok (.aload_n 0, 1) := by decide +kernel
theorem dX7_fits_123 : decode cX7_fits 123 = .ok (.iconst 0, 1) := by decide +kernel
theorem dX7_fits_124 : decode cX7_fits 124 = .ok (.putfield 110, 3) := by decide +kernel
theorem dX7_fits_127 : decode cX7_fits 127 = .ok (.aload_n 0, 1) := by decide +kernel
theorem dX7_fits_128 : decode cX7_fits 128 = .ok (.aload_n 0, 1) := by decide +kernel
theorem dX7_fits_129 : decode cX7_fits 129 = .ok (.getfield 240, 3) := by decide +kernel
theorem dX7_fits_132 : decode cX7_fits 132 = .ok (.aload_n 0, 1) := by decide +kernel
theorem dX7_fits_133 : decode cX7_fits 133 = .ok (.getfield 243, 3) := by decide +kernel
theorem dX7_fits_136 : decode cX7_fits 136 = .ok (.invokevirtual 325, 3) := by decide +kernel
theorem dX7_fits_139 : decode cX7_fits 139 = .ok (.iload_n 2, 1) := by decide +kernel
theorem dX7_fits_140 : decode cX7_fits 140 = .ok (.ireturn, 1) := by decide +kernel
theorem dX7_draw_0 : decode cX7_draw 0 = .ok (.aload_n 0, 1) := by decide +kernel
theorem dX7_draw_1 : decode cX7_draw 1 = .ok (.aload_n 0, 1) := by decide +kernel
theorem dX7_draw_2 : decode cX7_draw 2 = .ok (.getfield 411, 3) := by decide +kernel
theorem dX7_draw_5 : decode cX7_draw 5 = .ok (.ldc_w 414, 3) := by decide +kernel
theorem dX7_draw_8 : decode cX7_draw 8 = .ok (.imul, 1) := by decide +kernel
theorem dX7_draw_9 : decode cX7_draw 9 = .ok (.sipush 12345, 3) := by decide +kernel
theorem dX7_draw_12 : decode cX7_draw 12 = .ok (.iadd, 1) := by decide +kernel
theorem dX7_draw_13 : decode cX7_draw 13 = .ok (.putfield 411, 3) := by decide +kernel
theorem dX7_draw_16 : decode cX7_draw 16 = .ok (.aload_n 0, 1) := by decide +kernel
theorem dX7_draw_17 : decode cX7_draw 17 = .ok (.getfield 411, 3) := by decide +kernel
theorem dX7_draw_20 : decode cX7_draw 20 = .ok (.bipush 16, 2) := by decide +kernel
theorem dX7_draw_22 : decode cX7_draw 22 = .ok (.iushr, 1) := by decide +kernel
theorem dX7_draw_23 : decode cX7_draw 23 = .ok (.iload_n 1, 1) := by decide +kernel
theorem dX7_draw_24 : decode cX7_draw 24 = .ok (.irem, 1) := by decide +kernel
theorem dX7_draw_25 : decode cX7_draw 25 = .ok (.ireturn, 1) := by decide +kernel
theorem dX7_chance_0 : decode cX7_chance 0 = .ok (.aload_n 0, 1) := by decide +kernel
theorem dX7_chance_1 : decode cX7_chance 1 = .ok (.iconst 0, 1) := by decide +kernel
theorem dX7_chance_2 : decode cX7_chance 2 = .ok (.putfield 107, 3) := by decide +kernel
theorem dX7_chance_5 : decode cX7_chance 5 = .ok (.aload_n 0, 1) := by decide +kernel
theorem dX7_chance_6 : decode cX7_chance 6 = .ok (.getfield 127, 3) := by decide +kernel
theorem dX7_chance_9 : decode cX7_chance 9 = .ok (.ifCond .eq 22, 3) := by decide +kernel
theorem dX7_chance_12 : decode cX7_chance 12 = .ok (.iload_n 2, 1) := by decide +kernel
theorem dX7_chance_13 : decode cX7_chance 13 = .ok (.i2l, 1) := by decide +kernel
theorem dX7_chance_14 : decode cX7_chance 14 = .ok (.lconst 1, 1) := by decide +kernel
theorem dX7_chance_15 : decode cX7_chance 15 = .ok (.ldc2_w 415, 3) := by decide +kernel
theorem dX7_chance_18 : decode cX7_chance 18 = .ok (.invokestatic 130, 3) := by decide +kernel
theorem dX7_chance_21 : decode cX7_chance 21 = .ok (.ifCond .eq 10, 3) := by decide +kernel
theorem dX7_chance_24 : decode cX7_chance 24 = .ok (.iload_n 3, 1) := by decide +kernel
theorem dX7_chance_25 : decode cX7_chance 25 = .ok (.invokestatic 319, 3) := by decide +kernel
theorem dX7_chance_28 : decode cX7_chance 28 = .ok (.ifCond .ne 5, 3) := by decide +kernel
theorem dX7_chance_31 : decode cX7_chance 31 = .ok (.iconst (-1), 1) := by decide +kernel
theorem dX7_chance_32 : decode cX7_chance 32 = .ok (.ireturn, 1) := by decide +kernel
theorem dX7_chance_33 : decode cX7_chance 33 = .ok (.aload_n 0, 1) := by decide +kernel
theorem dX7_chance_34 : decode cX7_chance 34 = .ok (.invokevirtual 396, 3) := by decide +kernel
theorem dX7_chance_37 : decode cX7_chance 37 = .ok (.aload_n 0, 1) := by decide +kernel
theorem dX7_chance_38 : decode cX7_chance 38 = .ok (.iload_n 1, 1) := by decide +kernel
theorem dX7_chance_39 : decode cX7_chance 39 = .ok (.putfield 411, 3) := by decide +kernel
theorem dX7_chance_42 : decode cX7_chance 42 = .ok (.iconst 0, 1) := by decide +kernel
theorem dX7_chance_43 : decode cX7_chance 43 = .ok (.istore 4, 2) := by decide +kernel
theorem dX7_chance_45 : decode cX7_chance 45 = .ok (.aload_n 0, 1) := by decide +kernel
theorem dX7_chance_46 : decode cX7_chance 46 = .ok (.lconst 0, 1) := by decide +kernel
theorem dX7_chance_47 : decode cX7_chance 47 = .ok (.putfield 390, 3) := by decide +kernel
theorem dX7_chance_50 : decode cX7_chance 50 = .ok (.iconst 0, 1) := by decide +kernel
theorem dX7_chance_51 : decode cX7_chance 51 = .ok (.istore 5, 2) := by decide +kernel
theorem dX7_chance_53 : decode cX7_chance 53 = .ok (.iload 5, 2) := by decide +kernel
theorem dX7_chance_55 : decode cX7_chance 55 = .ok (.iload_n 2, 1) := by decide +kernel
theorem dX7_chance_56 : decode cX7_chance 56 = .ok (.if_icmp .ge 112, 3) := by decide +kernel
theorem dX7_chance_59 : decode cX7_chance 59 = .ok (.iconst 0, 1) := by decide +kernel
theorem dX7_chance_60 : decode cX7_chance 60 = .ok (.istore 6, 2) := by decide +kernel
theorem dX7_chance_62 : decode cX7_chance 62 = .ok (.iload 6, 2) := by decide +kernel
theorem dX7_chance_64 : decode cX7_chance 64 = .ok (.aload_n 0, 1) := by decide +kernel
theorem dX7_chance_65 : decode cX7_chance 65 = .ok (.getfield 127, 3) := by decide +kernel
theorem dX7_chance_68 : decode cX7_chance 68 = .ok (.if_icmp .ge 27, 3) := by decide +kernel
theorem dX7_chance_71 : decode cX7_chance 71 = .ok (.aload_n 0, 1) := by decide +kernel
theorem dX7_chance_72 : decode cX7_chance 72 = .ok (.getfield 9, 3) := by decide +kernel
theorem dX7_chance_75 : decode cX7_chance 75 = .ok (.bipush 7, 2) := by decide +kernel
theorem dX7_chance_77 : decode cX7_chance 77 = .ok (.iload 6, 2) := by decide +kernel
theorem dX7_chance_79 : decode cX7_chance 79 = .ok (.imul, 1) := by decide +kernel
theorem dX7_chance_80 : decode cX7_chance 80 = .ok (.iconst 1, 1) := by decide +kernel
theorem dX7_chance_81 : decode cX7_chance 81 = .ok (.iadd, 1) := by decide +kernel
theorem dX7_chance_82 : decode cX7_chance 82 = .ok (.aload_n 0, 1) := by decide +kernel
theorem dX7_chance_83 : decode cX7_chance 83 = .ok (.bipush 10, 2) := by decide +kernel
theorem dX7_chance_85 : decode cX7_chance 85 = .ok (.invokevirtual 417, 3) := by decide +kernel
theorem dX7_chance_88 : decode cX7_chance 88 = .ok (.iastore, 1) := by decide +kernel
theorem dX7_chance_89 : decode cX7_chance 89 = .ok (.iinc 6 1, 3) := by decide +kernel
theorem dX7_chance_92 : decode cX7_chance 92 = .ok (.goto (-30), 3) := by decide +kernel
theorem dX7_chance_95 : decode cX7_chance 95 = .ok (.aload_n 0, 1) := by decide +kernel
theorem dX7_chance_96 : decode cX7_chance 96 = .ok (.invokevirtual 336, 3) := by decide +kernel
theorem dX7_chance_99 : decode cX7_chance 99 = .ok (.iload 4, 2) := by decide +kernel
theorem dX7_chance_101 : decode cX7_chance 101 = .ok (.aload_n 0, 1) := by decide +kernel
theorem dX7_chance_102 : decode cX7_chance 102 = .ok (.iload_n 3, 1) := by decide +kernel
theorem dX7_chance_103 : decode cX7_chance 103 = .ok (.i2l, 1) := by decide +kernel
theorem dX7_chance_104 : decode cX7_chance 104 = .ok (.lconst 1, 1) := by decide +kernel
theorem dX7_chance_105 : decode cX7_chance 105 = .ok (.invokevirtual 386, 3) := by decide +kernel
theorem dX7_chance_108 : decode cX7_chance 108 = .ok (.ifCond .lt 7, 3) := by decide +kernel
theorem dX7_chance_111 : decode cX7_chance 111 = .ok (.iconst 1, 1) := by decide +kernel
theorem dX7_chance_112 : decode cX7_chance 112 = .ok (.goto 4, 3) := by decide +kernel
theorem dX7_chance_115 : decode cX7_chance 115 = .ok (.iconst 0, 1) := by decide +kernel
theorem dX7_chance_116 : decode cX7_chance 116 = .ok (.iadd, 1) := by decide +kernel
theorem dX7_chance_117 : decode cX7_chance 117 = .ok (.istore 4, 2) := by decide +kernel
theorem dX7_chance_119 : decode cX7_chance 119 = .ok (.aload_n 0, 1) := by decide +kernel
theorem dX7_chance_120 : decode cX7_chance 120 = .ok (.getfield 390, 3) := by decide +kernel
theorem dX7_chance_123 : decode cX7_chance 123 = .ok (.lconst 0, 1) := by decide +kernel
theorem dX7_chance_124 : decode cX7_chance 124 = .ok (.lcmp, 1) := by decide +kernel
theorem dX7_chance_125 : decode cX7_chance 125 = .ok (.ifCond .eq 21, 3) := by decide +kernel
theorem dX7_chance_128 : decode cX7_chance 128 = .ok (.aload_n 0, 1) := by decide +kernel
theorem dX7_chance_129 : decode cX7_chance 129 = .ok (.aload_n 0, 1) := by decide +kernel
theorem dX7_chance_130 : decode cX7_chance 130 = .ok (.getfield 393, 3) := by decide +kernel
theorem dX7_chance_133 : decode cX7_chance 133 = .ok (.aload_n 0, 1) := by decide +kernel
theorem dX7_chance_134 : decode cX7_chance 134 = .ok (.getfield 390, 3) := by decide +kernel
theorem dX7_chance_137 : decode cX7_chance 137 = .ok (.invokevirtual 386, 3) := by decide +kernel
theorem dX7_chance_140 : decode cX7_chance 140 = .ok (.ifCond .lt 6, 3) := by decide +kernel
theorem dX7_chance_143 : decode cX7_chance 143 = .ok (.goto 19, 3) := by decide +kernel
theorem dX7_chance_146 : decode cX7_chance 146 = .ok (.aload_n 0, 1) := by decide +kernel
theorem dX7_chance_147 : decode cX7_chance 147 = .ok (.aload_n 0, 1) := by decide +kernel
theorem dX7_chance_148 : decode cX7_chance 148 = .ok (.getfield 240, 3) := by decide +kernel
theorem dX7_chance_151 : decode cX7_chance 151 = .ok (.putfield 393, 3) := by decide +kernel
theorem dX7_chance_154 : decode cX7_chance 154 = .ok (.aload_n 0, 1) := by decide +kernel
theorem dX7_chance_155 : decode cX7_chance 155 = .ok (.aload_n 0, 1) := by decide +kernel
theorem dX7_chance_156 : decode cX7_chance 156 = .ok (.getfield 243, 3) := by decide +kernel
theorem dX7_chance_159 : decode cX7_chance 159 = .ok (.putfield 390, 3) := by decide +kernel
theorem dX7_chance_162 : decode cX7_chance 162 = .ok (.iinc 5 1, 3) := by decide +kernel
theorem dX7_chance_165 : decode cX7_chance 165 = .ok (.goto (-112), 3) := by decide +kernel
theorem dX7_chance_168 : decode cX7_chance 168 = .ok (.aload_n 0, 1) := by decide +kernel
theorem dX7_chance_169 : decode cX7_chance 169 = .ok (.invokevirtual 402, 3) := by decide +kernel
theorem dX7_chance_172 : decode cX7_chance 172 = .ok (.aload_n 0, 1) := by decide +kernel
theorem dX7_chance_173 : decode cX7_chance 173 = .ok (.iconst 0, 1) := by decide +kernel
theorem dX7_chance_174 : decode cX7_chance 174 = .ok (.putfield 110, 3) := by decide +kernel
theorem dX7_chance_177 : decode cX7_chance 177 = .ok (.aload_n 0, 1) := by decide +kernel
theorem dX7_chance_178 : decode cX7_chance 178 = .ok (.aload_n 0, 1) := by decide +kernel
theorem dX7_chance_179 : decode cX7_chance 179 = .ok (.getfield 393, 3) := by decide +kernel
theorem dX7_chance_182 : decode cX7_chance 182 = .ok (.aload_n 0, 1) := by decide +kernel
theorem dX7_chance_183 : decode cX7_chance 183 = .ok (.getfield 390, 3) := by decide +kernel
theorem dX7_chance_186 : decode cX7_chance 186 = .ok (.invokevirtual 325, 3) := by decide +kernel
theorem dX7_chance_189 : decode cX7_chance 189 = .ok (.iload 4, 2) := by decide +kernel
theorem dX7_chance_191 : decode cX7_chance 191 = .ok (.ireturn, 1) := by decide +kernel
theorem dX7_breakAll_0 : decode cX7_breakAll 0 = .ok (.iconst 0, 1) := by decide +kernel
theorem dX7_breakAll_1 : decode cX7_breakAll 1 = .ok (.istore_n 1, 1) := by decide +kernel
theorem dX7_breakAll_2 : decode cX7_breakAll 2 = .ok (.iconst 0, 1) := by decide +kernel
theorem dX7_breakAll_3 : decode cX7_breakAll 3 = .ok (.istore_n 2, 1) := by decide +kernel
theorem dX7_breakAll_4 : decode cX7_breakAll 4 = .ok (.iload_n 2, 1) := by decide +kernel
theorem dX7_breakAll_5 : decode cX7_breakAll 5 = .ok (.aload_n 0, 1) := by decide +kernel
theorem dX7_breakAll_6 : decode cX7_breakAll 6 = .ok (.getfield 127, 3) := by decide +kernel
theorem dX7_breakAll_9 : decode cX7_breakAll 9 = .ok (.if_icmp .ge 31, 3) := by decide +kernel
theorem dX7_breakAll_12 : decode cX7_breakAll 12 = .ok (.iload_n 1, 1) := by decide +kernel
theorem dX7_breakAll_13 : decode cX7_breakAll 13 = .ok (.aload_n 0, 1) := by decide +kernel
theorem dX7_breakAll_14 : decode cX7_breakAll 14 = .ok (.iload_n 2, 1) := by decide +kernel
theorem dX7_breakAll_15 : decode cX7_breakAll 15 = .ok (.iconst 5, 1) := by decide +kernel
theorem dX7_breakAll_16 : decode cX7_breakAll 16 = .ok (.invokevirtual 155, 3) := by decide +kernel
theorem dX7_breakAll_19 : decode cX7_breakAll 19 = .ok (.ifCond .ne 12, 3) := by decide +kernel
theorem dX7_breakAll_22 : decode cX7_breakAll 22 = .ok (.aload_n 0, 1) := by decide +kernel
theorem dX7_breakAll_23 : decode cX7_breakAll 23 = .ok (.iload_n 2, 1) := by decide +kernel
theorem dX7_breakAll_24 : decode cX7_breakAll 24 = .ok (.iconst 4, 1) := by decide +kernel
theorem dX7_breakAll_25 : decode cX7_breakAll 25 = .ok (.invokevirtual 155, 3) := by decide +kernel
theorem dX7_breakAll_28 : decode cX7_breakAll 28 = .ok (.goto 4, 3) := by decide +kernel
theorem dX7_breakAll_31 : decode cX7_breakAll 31 = .ok (.iconst 0, 1) := by decide +kernel
theorem dX7_breakAll_32 : decode cX7_breakAll 32 = .ok (.iadd, 1) := by decide +kernel
theorem dX7_breakAll_33 : decode cX7_breakAll 33 = .ok (.istore_n 1, 1) := by decide +kernel
theorem dX7_breakAll_34 : decode cX7_breakAll 34 = .ok (.iinc 2 1, 3) := by decide +kernel
theorem dX7_breakAll_37 : decode cX7_breakAll 37 = .ok (.goto (-33), 3) := by decide +kernel
theorem dX7_breakAll_40 : decode cX7_breakAll 40 = .ok (.iload_n 1, 1) := by decide +kernel
theorem dX7_breakAll_41 : decode cX7_breakAll 41 = .ok (.ireturn, 1) := by decide +kernel
theorem dX7_clearLeast_0 : decode cX7_clearLeast 0 = .ok (.iconst (-1), 1) := by decide +kernel
theorem dX7_clearLeast_1 : decode cX7_clearLeast 1 = .ok (.istore_n 1, 1) := by decide +kernel
theorem dX7_clearLeast_2 : decode cX7_clearLeast 2 = .ok (.aload_n 0, 1) := by decide +kernel
theorem dX7_clearLeast_3 : decode cX7_clearLeast 3 = .ok (.getfield 127, 3) := by decide +kernel
theorem dX7_clearLeast_6 : decode cX7_clearLeast 6 = .ok (.iconst 1, 1) := by decide +kernel
theorem dX7_clearLeast_7 : decode cX7_clearLeast 7 = .ok (.isub, 1) := by decide +kernel
theorem dX7_clearLeast_8 : decode cX7_clearLeast 8 = .ok (.istore_n 2, 1) := by decide +kernel
theorem dX7_clearLeast_9 : decode cX7_clearLeast 9 = .ok (.iload_n 2, 1) := by decide +kernel
theorem dX7_clearLeast_10 : decode cX7_clearLeast 10 = .ok (.ifCond .lt 40, 3) := by decide +kernel
theorem dX7_clearLeast_13 : decode cX7_clearLeast 13 = .ok (.aload_n 0, 1) := by decide +kernel
theorem dX7_clearLeast_14 : decode cX7_clearLeast 14 = .ok (.iload_n 2, 1) := by decide +kernel
theorem dX7_clearLeast_15 : decode cX7_clearLeast 15 = .ok (.iconst 5, 1) := by decide +kernel
theorem dX7_clearLeast_16 : decode cX7_clearLeast 16 = .ok (.invokevirtual 155, 3) := by decide +kernel
theorem dX7_clearLeast_19 : decode cX7_clearLeast 19 = .ok (.ifCond .ne 25, 3) := by decide +kernel
theorem dX7_clearLeast_22 : decode cX7_clearLeast 22 = .ok (.iload_n 1, 1) := by decide +kernel
theorem dX7_clearLeast_23 : decode cX7_clearLeast 23 = .ok (.iconst (-1), 1) := by decide +kernel
theorem dX7_clearLeast_24 : decode cX7_clearLeast 24 = .ok (.if_icmp .eq 13, 3) := by decide +kernel
theorem dX7_clearLeast_27 : decode cX7_clearLeast 27 = .ok (.aload_n 0, 1) := by decide +kernel
theorem dX7_clearLeast_28 : decode cX7_clearLeast 28 = .ok (.iload_n 2, 1) := by decide +kernel
theorem dX7_clearLeast_29 : decode cX7_clearLeast 29 = .ok (.iconst 1, 1) := by decide +kernel
theorem dX7_clearLeast_30 : decode cX7_clearLeast 30 = .ok (.invokevirtual 155, 3) := by decide +kernel
theorem dX7_clearLeast_33 : decode cX7_clearLeast 33 = .ok (.iload_n 1, 1) := by decide +kernel
theorem dX7_clearLeast_34 : decode cX7_clearLeast 34 = .ok (.if_icmp .ge 10, 3) := by decide +kernel
theorem dX7_clearLeast_37 : decode cX7_clearLeast 37 = .ok (.aload_n 0, 1) := by decide +kernel
theorem dX7_clearLeast_38 : decode cX7_clearLeast 38 = .ok (.iload_n 2, 1) := by decide +kernel
theorem dX7_clearLeast_39 : decode cX7_clearLeast 39 = .ok (.iconst 1, 1) := by decide +kernel
theorem dX7_clearLeast_40 : decode cX7_clearLeast 40 = .ok (.invokevirtual 155, 3) := by decide +kernel
theorem dX7_clearLeast_43 : decode cX7_clearLeast 43 = .ok (.istore_n 1, 1) := by decide +kernel
theorem dX7_clearLeast_44 : decode cX7_clearLeast 44 = .ok (.iinc 2 (-1), 3) := by decide +kernel
theorem dX7_clearLeast_47 : decode cX7_clearLeast 47 = .ok (.goto (-38), 3) := by decide +kernel
theorem dX7_clearLeast_50 : decode cX7_clearLeast 50 = .ok (.iload_n 1, 1) := by decide +kernel
theorem dX7_clearLeast_51 : decode cX7_clearLeast 51 = .ok (.ireturn, 1) := by decide +kernel
theorem dX7_count_0 : decode cX7_count 0 = .ok (.aload_n 0, 1) := by decide +kernel
theorem dX7_count_1 : decode cX7_count 1 = .ok (.iconst 0, 1) := by decide +kernel
theorem dX7_count_2 : decode cX7_count 2 = .ok (.putfield 107, 3) := by decide +kernel
theorem dX7_count_5 : decode cX7_count 5 = .ok (.iload_n 1, 1) := by decide +kernel
theorem dX7_count_6 : decode cX7_count 6 = .ok (.tableswitch 99 0 8 #[50, 55, 60, 65, 70, 79, 84, 89, 94], 50) := by decide +kernel
theorem dX7_count_56 : decode cX7_count 56 = .ok (.aload_n 0, 1) := by decide +kernel
theorem dX7_count_57 : decode cX7_count 57 = .ok (.getfield 127, 3) := by decide +kernel
theorem dX7_count_60 : decode cX7_count 60 = .ok (.ireturn, 1) := by decide +kernel
theorem dX7_count_61 : decode cX7_count 61 = .ok (.aload_n 0, 1) := by decide +kernel
theorem dX7_count_62 : decode cX7_count 62 = .ok (.invokevirtual 163, 3) := by decide +kernel
theorem dX7_count_65 : decode cX7_count 65 = .ok (.ireturn, 1) := by decide +kernel
theorem dX7_count_66 : decode cX7_count 66 = .ok (.aload_n 0, 1) := by decide +kernel
theorem dX7_count_67 : decode cX7_count 67 = .ok (.invokevirtual 420, 3) := by decide +kernel
theorem dX7_count_70 : decode cX7_count 70 = .ok (.ireturn, 1) := by decide +kernel
theorem dX7_count_71 : decode cX7_count 71 = .ok (.aload_n 0, 1) := by decide +kernel
theorem dX7_count_72 : decode cX7_count 72 = .ok (.invokevirtual 423, 3) := by decide +kernel
theorem dX7_count_75 : decode cX7_count 75 = .ok (.ireturn, 1) := by decide +kernel
theorem dX7_count_76 : decode cX7_count 76 = .ok (.aload_n 0, 1) := by decide +kernel
theorem dX7_count_77 : decode cX7_count 77 = .ok (.invokevirtual 336, 3) := by decide +kernel
theorem dX7_count_80 : decode cX7_count 80 = .ok (.aload_n 0, 1) := by decide +kernel
theorem dX7_count_81 : decode cX7_count 81 = .ok (.getfield 246, 3) := by decide +kernel
theorem dX7_count_84 : decode cX7_count 84 = .ok (.ireturn, 1) := by decide +kernel
theorem dX7_count_85 : decode cX7_count 85 = .ok (.aload_n 0, 1) := by decide +kernel
theorem dX7_count_86 : decode cX7_count 86 = .ok (.getfield 110, 3) := by decide +kernel
theorem dX7_count_89 : decode cX7_count 89 = .ok (.ireturn, 1) := by decide +kernel
theorem dX7_count_90 : decode cX7_count 90 = .ok (.aload_n 0, 1) := by decide +kernel
theorem dX7_count_91 : decode cX7_count 91 = .ok (.getfield 171, 3) := by decide +kernel
theorem dX7_count_94 : decode cX7_count 94 = .ok (.ireturn, 1) := by decide +kernel
theorem dX7_count_95 : decode cX7_count 95 = .ok (.aload_n 0, 1) := by decide +kernel
theorem dX7_count_96 : decode cX7_count 96 = .ok (.getfield 13, 3) := by decide +kernel
theorem dX7_count_99 : decode cX7_count 99 = .ok (.ireturn, 1) := by decide +kernel
theorem dX7_count_100 : decode cX7_count 100 = .ok (.aload_n 0, 1) := by decide +kernel
theorem dX7_count_101 : decode cX7_count 101 = .ok (.getfield 17, 3) := by decide +kernel
theorem dX7_count_104 : decode cX7_count 104 = .ok (.ireturn, 1) := by decide +kernel
theorem dX7_count_105 : decode cX7_count 105 = .ok (.iconst (-1), 1) := by decide +kernel
theorem dX7_count_106 : decode cX7_count 106 = .ok (.ireturn, 1) := by decide +kernel
theorem dX7_row_0 : decode cX7_row 0 = .ok (.aload_n 0, 1) := by decide +kernel
theorem dX7_row_1 : decode cX7_row 1 = .ok (.iconst 0, 1) := by decide +kernel
theorem dX7_row_2 : decode cX7_row 2 = .ok (.putfield 107, 3) := by decide +kernel
theorem dX7_row_5 : decode cX7_row 5 = .ok (.iload_n 1, 1) := by decide +kernel
theorem dX7_row_6 : decode cX7_row 6 = .ok (.i2l, 1) := by decide +kernel
theorem dX7_row_7 : decode cX7_row 7 = .ok (.lconst 0, 1) := by decide +kernel
theorem dX7_row_8 : decode cX7_row 8 = .ok (.aload_n 0, 1) := by decide +kernel
theorem dX7_row_9 : decode cX7_row 9 = .ok (.getfield 110, 3) := by decide +kernel
theorem dX7_row_12 : decode cX7_row 12 = .ok (.iconst 1, 1) := by decide +kernel
theorem dX7_row_13 : decode cX7_row 13 = .ok (.isub, 1) := by decide +kernel
theorem dX7_row_14 : decode cX7_row 14 = .ok (.i2l, 1) := by decide +kernel
theorem dX7_row_15 : decode cX7_row 15 = .ok (.invokestatic 130, 3) := by decide +kernel
theorem dX7_row_18 : decode cX7_row 18 = .ok (.ifCond .eq 12, 3) := by decide +kernel
theorem dX7_row_21 : decode cX7_row 21 = .ok (.aload_n 0, 1) := by decide +kernel
theorem dX7_row_22 : decode cX7_row 22 = .ok (.getfield 24, 3) := by decide +kernel
theorem dX7_row_25 : decode cX7_row 25 = .ok (.iload_n 1, 1) := by decide +kernel
theorem dX7_row_26 : decode cX7_row 26 = .ok (.laload, 1) := by decide +kernel
theorem dX7_row_27 : decode cX7_row 27 = .ok (.goto 8, 3) := by decide +kernel
theorem dX7_row_30 : decode cX7_row 30 = .ok (.aload_n 0, 1) := by decide +kernel
theorem dX7_row_31 : decode cX7_row 31 = .ok (.invokevirtual 203, 3) := by decide +kernel
theorem dX7_row_34 : decode cX7_row 34 = .ok (.i2l, 1) := by decide +kernel
theorem dX7_row_35 : decode cX7_row 35 = .ok (.lreturn, 1) := by decide +kernel
theorem dJ6_bitCount_0f7a4_0 : decode cJ6_bitCount_0f7a4 0 = .ok (.iload_n 0, 1) := by decide +kernel
theorem dJ6_bitCount_0f7a4_1 : decode cJ6_bitCount_0f7a4 1 = .ok (.iload_n 0, 1) := by decide +kernel
theorem dJ6_bitCount_0f7a4_2 : decode cJ6_bitCount_0f7a4 2 = .ok (.iconst 1, 1) := by decide +kernel
theorem dJ6_bitCount_0f7a4_3 : decode cJ6_bitCount_0f7a4 3 = .ok (.iushr, 1) := by decide +kernel
theorem dJ6_bitCount_0f7a4_4 : decode cJ6_bitCount_0f7a4 4 = .ok (.ldc_w 265, 3) := by decide +kernel
theorem dJ6_bitCount_0f7a4_7 : decode cJ6_bitCount_0f7a4 7 = .ok (.iand, 1) := by decide +kernel
theorem dJ6_bitCount_0f7a4_8 : decode cJ6_bitCount_0f7a4 8 = .ok (.isub, 1) := by decide +kernel
theorem dJ6_bitCount_0f7a4_9 : decode cJ6_bitCount_0f7a4 9 = .ok (.istore_n 0, 1) := by decide +kernel
theorem dJ6_bitCount_0f7a4_10 : decode cJ6_bitCount_0f7a4 10 = .ok (.iload_n 0, 1) := by decide +kernel
theorem dJ6_bitCount_0f7a4_11 : decode cJ6_bitCount_0f7a4 11 = .ok (.ldc_w 266, 3) := by decide +kernel
theorem dJ6_bitCount_0f7a4_14 : decode cJ6_bitCount_0f7a4 14 = .ok (.iand, 1) := by decide +kernel
theorem dJ6_bitCount_0f7a4_15 : decode cJ6_bitCount_0f7a4 15 = .ok (.iload_n 0, 1) := by decide +kernel
theorem dJ6_bitCount_0f7a4_16 : decode cJ6_bitCount_0f7a4 16 = .ok (.iconst 2, 1) := by decide +kernel
theorem dJ6_bitCount_0f7a4_17 : decode cJ6_bitCount_0f7a4 17 = .ok (.iushr, 1) := by decide +kernel
theorem dJ6_bitCount_0f7a4_18 : decode cJ6_bitCount_0f7a4 18 = .ok (.ldc_w 266, 3) := by decide +kernel
theorem dJ6_bitCount_0f7a4_21 : decode cJ6_bitCount_0f7a4 21 = .ok (.iand, 1) := by decide +kernel
theorem dJ6_bitCount_0f7a4_22 : decode cJ6_bitCount_0f7a4 22 = .ok (.iadd, 1) := by decide +kernel
theorem dJ6_bitCount_0f7a4_23 : decode cJ6_bitCount_0f7a4 23 = .ok (.istore_n 0, 1) := by decide +kernel
theorem dJ6_bitCount_0f7a4_24 : decode cJ6_bitCount_0f7a4 24 = .ok (.iload_n 0, 1) := by decide +kernel
theorem dJ6_bitCount_0f7a4_25 : decode cJ6_bitCount_0f7a4 25 = .ok (.iload_n 0, 1) := by decide +kernel
theorem dJ6_bitCount_0f7a4_26 : decode cJ6_bitCount_0f7a4 26 = .ok (.iconst 4, 1) := by decide +kernel
theorem dJ6_bitCount_0f7a4_27 : decode cJ6_bitCount_0f7a4 27 = .ok (.iushr, 1) := by decide +kernel
theorem dJ6_bitCount_0f7a4_28 : decode cJ6_bitCount_0f7a4 28 = .ok (.iadd, 1) := by decide +kernel
theorem dJ6_bitCount_0f7a4_29 : decode cJ6_bitCount_0f7a4 29 = .ok (.ldc_w 267, 3) := by decide +kernel
theorem dJ6_bitCount_0f7a4_32 : decode cJ6_bitCount_0f7a4 32 = .ok (.iand, 1) := by decide +kernel
theorem dJ6_bitCount_0f7a4_33 : decode cJ6_bitCount_0f7a4 33 = .ok (.istore_n 0, 1) := by decide +kernel
theorem dJ6_bitCount_0f7a4_34 : decode cJ6_bitCount_0f7a4 34 = .ok (.iload_n 0, 1) := by decide +kernel
theorem dJ6_bitCount_0f7a4_35 : decode cJ6_bitCount_0f7a4 35 = .ok (.iload_n 0, 1) := by decide +kernel
theorem dJ6_bitCount_0f7a4_36 : decode cJ6_bitCount_0f7a4 36 = .ok (.bipush 8, 2) := by decide +kernel
theorem dJ6_bitCount_0f7a4_38 : decode cJ6_bitCount_0f7a4 38 = .ok (.iushr, 1) := by decide +kernel
theorem dJ6_bitCount_0f7a4_39 : decode cJ6_bitCount_0f7a4 39 = .ok (.iadd, 1) := by decide +kernel
theorem dJ6_bitCount_0f7a4_40 : decode cJ6_bitCount_0f7a4 40 = .ok (.istore_n 0, 1) := by decide +kernel
theorem dJ6_bitCount_0f7a4_41 : decode cJ6_bitCount_0f7a4 41 = .ok (.iload_n 0, 1) := by decide +kernel
theorem dJ6_bitCount_0f7a4_42 : decode cJ6_bitCount_0f7a4 42 = .ok (.iload_n 0, 1) := by decide +kernel
theorem dJ6_bitCount_0f7a4_43 : decode cJ6_bitCount_0f7a4 43 = .ok (.bipush 16, 2) := by decide +kernel
theorem dJ6_bitCount_0f7a4_45 : decode cJ6_bitCount_0f7a4 45 = .ok (.iushr, 1) := by decide +kernel
theorem dJ6_bitCount_0f7a4_46 : decode cJ6_bitCount_0f7a4 46 = .ok (.iadd, 1) := by decide +kernel
theorem dJ6_bitCount_0f7a4_47 : decode cJ6_bitCount_0f7a4 47 = .ok (.istore_n 0, 1) := by decide +kernel
theorem dJ6_bitCount_0f7a4_48 : decode cJ6_bitCount_0f7a4 48 = .ok (.iload_n 0, 1) := by decide +kernel
theorem dJ6_bitCount_0f7a4_49 : decode cJ6_bitCount_0f7a4 49 = .ok (.bipush 63, 2) := by decide +kernel
theorem dJ6_bitCount_0f7a4_51 : decode cJ6_bitCount_0f7a4 51 = .ok (.iand, 1) := by decide +kernel
theorem dJ6_bitCount_0f7a4_52 : decode cJ6_bitCount_0f7a4 52 = .ok (.ireturn, 1) := by decide +kernel
theorem dJ13_compare_74951_0 : decode cJ13_compare_74951 0 = .ok (.lload_n 0, 1) := by decide +kernel
theorem dJ13_compare_74951_1 : decode cJ13_compare_74951 1 = .ok (.lload_n 2, 1) := by decide +kernel
theorem dJ13_compare_74951_2 : decode cJ13_compare_74951 2 = .ok (.lcmp, 1) := by decide +kernel
theorem dJ13_compare_74951_3 : decode cJ13_compare_74951 3 = .ok (.ifCond .ge 7, 3) := by decide +kernel
theorem dJ13_compare_74951_6 : decode cJ13_compare_74951 6 = .ok (.iconst (-1), 1) := by decide +kernel
theorem dJ13_compare_74951_7 : decode cJ13_compare_74951 7 = .ok (.goto 14, 3) := by decide +kernel
theorem dJ13_compare_74951_10 : decode cJ13_compare_74951 10 = .ok (.lload_n 0, 1) := by decide +kernel
theorem dJ13_compare_74951_11 : decode cJ13_compare_74951 11 = .ok (.lload_n 2, 1) := by decide +kernel
theorem dJ13_compare_74951_12 : decode cJ13_compare_74951 12 = .ok (.lcmp, 1) := by decide +kernel
theorem dJ13_compare_74951_13 : decode cJ13_compare_74951 13 = .ok (.ifCond .ne 7, 3) := by decide +kernel
theorem dJ13_compare_74951_16 : decode cJ13_compare_74951 16 = .ok (.iconst 0, 1) := by decide +kernel
theorem dJ13_compare_74951_17 : decode cJ13_compare_74951 17 = .ok (.goto 4, 3) := by decide +kernel
theorem dJ13_compare_74951_20 : decode cJ13_compare_74951 20 = .ok (.iconst 1, 1) := by decide +kernel
theorem dJ13_compare_74951_21 : decode cJ13_compare_74951 21 = .ok (.ireturn, 1) := by decide +kernel
theorem dJ9_abs_067f4_0 : decode cJ9_abs_067f4 0 = .ok (.lload_n 0, 1) := by decide +kernel
theorem dJ9_abs_067f4_1 : decode cJ9_abs_067f4 1 = .ok (.lconst 0, 1) := by decide +kernel
theorem dJ9_abs_067f4_2 : decode cJ9_abs_067f4 2 = .ok (.lcmp, 1) := by decide +kernel
theorem dJ9_abs_067f4_3 : decode cJ9_abs_067f4 3 = .ok (.ifCond .ge 8, 3) := by decide +kernel
theorem dJ9_abs_067f4_6 : decode cJ9_abs_067f4 6 = .ok (.lload_n 0, 1) := by decide +kernel
theorem dJ9_abs_067f4_7 : decode cJ9_abs_067f4 7 = .ok (.lneg, 1) := by decide +kernel
theorem dJ9_abs_067f4_8 : decode cJ9_abs_067f4 8 = .ok (.goto 4, 3) := by decide +kernel
theorem dJ9_abs_067f4_11 : decode cJ9_abs_067f4 11 = .ok (.lload_n 0, 1) := by decide +kernel
theorem dJ9_abs_067f4_12 : decode cJ9_abs_067f4 12 = .ok (.lreturn, 1) := by decide +kernel
theorem dJ9_min_7cf53_0 : decode cJ9_min_7cf53 0 = .ok (.iload_n 0, 1) := by decide +kernel
theorem dJ9_min_7cf53_1 : decode cJ9_min_7cf53 1 = .ok (.iload_n 1, 1) := by decide +kernel
theorem dJ9_min_7cf53_2 : decode cJ9_min_7cf53 2 = .ok (.if_icmp .gt 7, 3) := by decide +kernel
theorem dJ9_min_7cf53_5 : decode cJ9_min_7cf53 5 = .ok (.iload_n 0, 1) := by decide +kernel
theorem dJ9_min_7cf53_6 : decode cJ9_min_7cf53 6 = .ok (.goto 4, 3) := by decide +kernel
theorem dJ9_min_7cf53_9 : decode cJ9_min_7cf53 9 = .ok (.iload_n 1, 1) := by decide +kernel
theorem dJ9_min_7cf53_10 : decode cJ9_min_7cf53 10 = .ok (.ireturn, 1) := by decide +kernel
theorem dJ9_min_f86c9_0 : decode cJ9_min_f86c9 0 = .ok (.lload_n 0, 1) := by decide +kernel
theorem dJ9_min_f86c9_1 : decode cJ9_min_f86c9 1 = .ok (.lload_n 2, 1) := by decide +kernel
theorem dJ9_min_f86c9_2 : decode cJ9_min_f86c9 2 = .ok (.lcmp, 1) := by decide +kernel
theorem dJ9_min_f86c9_3 : decode cJ9_min_f86c9 3 = .ok (.ifCond .gt 7, 3) := by decide +kernel
theorem dJ9_min_f86c9_6 : decode cJ9_min_f86c9 6 = .ok (.lload_n 0, 1) := by decide +kernel
theorem dJ9_min_f86c9_7 : decode cJ9_min_f86c9 7 = .ok (.goto 4, 3) := by decide +kernel
theorem dJ9_min_f86c9_10 : decode cJ9_min_f86c9 10 = .ok (.lload_n 2, 1) := by decide +kernel
theorem dJ9_min_f86c9_11 : decode cJ9_min_f86c9 11 = .ok (.lreturn, 1) := by decide +kernel
theorem dL_part_0 : decode cL_part 0 = .ok (.aload_n 3, 1) := by decide +kernel
theorem dL_part_1 : decode cL_part 1 = .ok (.iconst 0, 1) := by decide +kernel
theorem dL_part_2 : decode cL_part 2 = .ok (.aload_n 0, 1) := by decide +kernel
theorem dL_part_3 : decode cL_part 3 = .ok (.iload_n 1, 1) := by decide +kernel
theorem dL_part_4 : decode cL_part 4 = .ok (.iload_n 2, 1) := by decide +kernel
theorem dL_part_5 : decode cL_part 5 = .ok (.invokevirtual 7, 3) := by decide +kernel
theorem dL_part_8 : decode cL_part 8 = .ok (.i2l, 1) := by decide +kernel
theorem dL_part_9 : decode cL_part 9 = .ok (.lastore, 1) := by decide +kernel
theorem dL_part_10 : decode cL_part 10 = .ok (.goto 7, 3) := by decide +kernel
theorem dL_part_13 : decode cL_part 13 = .ok (.astore 4, 2) := by decide +kernel
theorem dL_part_15 : decode cL_part 15 = .ok (.iconst 1, 1) := by decide +kernel
theorem dL_part_16 : decode cL_part 16 = .ok (.ireturn, 1) := by decide +kernel
theorem dL_part_17 : decode cL_part 17 = .ok (.iconst 0, 1) := by decide +kernel
theorem dL_part_18 : decode cL_part 18 = .ok (.ireturn, 1) := by decide +kernel
theorem dL_row_0 : decode cL_row 0 = .ok (.aload_n 2, 1) := by decide +kernel
theorem dL_row_1 : decode cL_row 1 = .ok (.iconst 0, 1) := by decide +kernel
theorem dL_row_2 : decode cL_row 2 = .ok (.aload_n 0, 1) := by decide +kernel
theorem dL_row_3 : decode cL_row 3 = .ok (.iload_n 1, 1) := by decide +kernel
theorem dL_row_4 : decode cL_row 4 = .ok (.invokevirtual 15, 3) := by decide +kernel
theorem dL_row_7 : decode cL_row 7 = .ok (.lastore, 1) := by decide +kernel
theorem dL_row_8 : decode cL_row 8 = .ok (.goto 6, 3) := by decide +kernel
theorem dL_row_11 : decode cL_row 11 = .ok (.astore_n 3, 1) := by decide +kernel
theorem dL_row_12 : decode cL_row 12 = .ok (.iconst 1, 1) := by decide +kernel
theorem dL_row_13 : decode cL_row 13 = .ok (.ireturn, 1) := by decide +kernel
theorem dL_row_14 : decode cL_row 14 = .ok (.iconst 0, 1) := by decide +kernel
theorem dL_row_15 : decode cL_row 15 = .ok (.ireturn, 1) := by decide +kernel
theorem dL_law_0 : decode cL_law 0 = .ok (.new 8, 3) := by decide +kernel
theorem dL_law_3 : decode cL_law 3 = .ok (.dup, 1) := by decide +kernel
theorem dL_law_4 : decode cL_law 4 = .ok (.invokespecial 19, 3) := by decide +kernel
theorem dL_law_7 : decode cL_law 7 = .ok (.astore_n 1, 1) := by decide +kernel
theorem dL_law_8 : decode cL_law 8 = .ok (.new 20, 3) := by decide +kernel
theorem dL_law_11 : decode cL_law 11 = .ok (.dup, 1) := by decide +kernel
theorem dL_law_12 : decode cL_law 12 = .ok (.invokespecial 22, 3) := by decide +kernel
theorem dL_law_15 : decode cL_law 15 = .ok (.astore_n 2, 1) := by decide +kernel
theorem dL_law_16 : decode cL_law 16 = .ok (.iconst 1, 1) := by decide +kernel
theorem dL_law_17 : decode cL_law 17 = .ok (.newarray .long, 2) := by decide +kernel
theorem dL_law_19 : decode cL_law 19 = .ok (.astore_n 3, 1) := by decide +kernel
theorem dL_law_20 : decode cL_law 20 = .ok (.iconst 0, 1) := by decide +kernel
theorem dL_law_21 : decode cL_law 21 = .ok (.istore 4, 2) := by decide +kernel
theorem dL_law_23 : decode cL_law 23 = .ok (.iload 4, 2) := by decide +kernel
theorem dL_law_25 : decode cL_law 25 = .ok (.aload_n 0, 1) := by decide +kernel
theorem dL_law_26 : decode cL_law 26 = .ok (.arraylength, 1) := by decide +kernel
theorem dL_law_27 : decode cL_law 27 = .ok (.bipush 7, 2) := by decide +kernel
theorem dL_law_29 : decode cL_law 29 = .ok (.isub, 1) := by decide +kernel
theorem dL_law_30 : decode cL_law 30 = .ok (.if_icmp .gt 1388, 3) := by decide +kernel
theorem dL_law_33 : decode cL_law 33 = .ok (.aload_n 0, 1) := by decide +kernel
theorem dL_law_34 : decode cL_law 34 = .ok (.iload 4, 2) := by decide +kernel
theorem dL_law_36 : decode cL_law 36 = .ok (.iaload, 1) := by decide +kernel
theorem dL_law_37 : decode cL_law 37 = .ok (.bipush 63, 2) := by decide +kernel
theorem dL_law_39 : decode cL_law 39 = .ok (.iand, 1) := by decide +kernel
theorem dL_law_40 : decode cL_law 40 = .ok (.tableswitch 1372 0 36 #[164, 237, 274, 311, 398, 451, 488, 501, 526, 551, 564, 632, 669, 706, 743, 768, 805, 830, 855, 880, 905, 942, 991, 1016, 1029, 1054, 1067, 1080, 1117, 1142, 1155, 1180, 1205, 1218, 1243, 1292, 1317], 164) := by decide +kernel
theorem dL_law_204 : decode cL_law 204 = .ok (.aload_n 1, 1) := by decide +kernel
theorem dL_law_205 : decode cL_law 205 = .ok (.aload_n 0, 1) := by decide +kernel
theorem dL_law_206 : decode cL_law 206 = .ok (.iload 4, 2) := by decide +kernel
theorem dL_law_208 : decode cL_law 208 = .ok (.iconst 1, 1) := by decide +kernel
theorem dL_law_209 : decode cL_law 209 = .ok (.iadd, 1) := by decide +kernel
theorem dL_law_210 : decode cL_law 210 = .ok (.iaload, 1) := by decide +kernel
theorem dL_law_211 : decode cL_law 211 = .ok (.aload_n 0, 1) := by decide +kernel
theorem dL_law_212 : decode cL_law 212 = .ok (.iload 4, 2) := by decide +kernel
theorem dL_law_214 : decode cL_law 214 = .ok (.iconst 2, 1) := by decide +kernel
theorem dL_law_215 : decode cL_law 215 = .ok (.iadd, 1) := by decide +kernel
theorem dL_law_216 : decode cL_law 216 = .ok (.iaload, 1) := by decide +kernel
theorem dL_law_217 : decode cL_law 217 = .ok (.aload_n 0, 1) := by decide +kernel
theorem dL_law_218 : decode cL_law 218 = .ok (.iload 4, 2) := by decide +kernel
theorem dL_law_220 : decode cL_law 220 = .ok (.iconst 3, 1) := by decide +kernel
theorem dL_law_221 : decode cL_law 221 = .ok (.iadd, 1) := by decide +kernel
theorem dL_law_222 : decode cL_law 222 = .ok (.iaload, 1) := by decide +kernel
theorem dL_law_223 : decode cL_law 223 = .ok (.aload_n 0, 1) := by decide +kernel
theorem dL_law_224 : decode cL_law 224 = .ok (.iload 4, 2) := by decide +kernel
theorem dL_law_226 : decode cL_law 226 = .ok (.iconst 4, 1) := by decide +kernel
theorem dL_law_227 : decode cL_law 227 = .ok (.iadd, 1) := by decide +kernel
theorem dL_law_228 : decode cL_law 228 = .ok (.iaload, 1) := by decide +kernel
theorem dL_law_229 : decode cL_law 229 = .ok (.aload_n 0, 1) := by decide +kernel
theorem dL_law_230 : decode cL_law 230 = .ok (.iload 4, 2) := by decide +kernel
theorem dL_law_232 : decode cL_law 232 = .ok (.iconst 5, 1) := by decide +kernel
theorem dL_law_233 : decode cL_law 233 = .ok (.iadd, 1) := by decide +kernel
theorem dL_law_234 : decode cL_law 234 = .ok (.iaload, 1) := by decide +kernel
theorem dL_law_235 : decode cL_law 235 = .ok (.invokevirtual 23, 3) := by decide +kernel
theorem dL_law_238 : decode cL_law 238 = .ok (.aload_n 2, 1) := by decide +kernel
theorem dL_law_239 : decode cL_law 239 = .ok (.aload_n 0, 1) := by decide +kernel
theorem dL_law_240 : decode cL_law 240 = .ok (.iload 4, 2) := by decide +kernel
theorem dL_law_242 : decode cL_law 242 = .ok (.iconst 1, 1) := by decide +kernel
theorem dL_law_243 : decode cL_law 243 = .ok (.iadd, 1) := by decide +kernel
theorem dL_law_244 : decode cL_law 244 = .ok (.iaload, 1) := by decide +kernel
theorem dL_law_245 : decode cL_law 245 = .ok (.aload_n 0, 1) := by decide +kernel
theorem dL_law_246 : decode cL_law 246 = .ok (.iload 4, 2) := by decide +kernel
theorem dL_law_248 : decode cL_law 248 = .ok (.iconst 2, 1) := by decide +kernel
theorem dL_law_249 : decode cL_law 249 = .ok (.iadd, 1) := by decide +kernel
theorem dL_law_250 : decode cL_law 250 = .ok (.iaload, 1) := by decide +kernel
theorem dL_law_251 : decode cL_law 251 = .ok (.aload_n 0, 1) := by decide +kernel
theorem dL_law_252 : decode cL_law 252 = .ok (.iload 4, 2) := by decide +kernel
theorem dL_law_254 : decode cL_law 254 = .ok (.iconst 3, 1) := by decide +kernel
theorem dL_law_255 : decode cL_law 255 = .ok (.iadd, 1) := by decide +kernel
theorem dL_law_256 : decode cL_law 256 = .ok (.iaload, 1) := by decide +kernel
theorem dL_law_257 : decode cL_law 257 = .ok (.aload_n 0, 1) := by decide +kernel
theorem dL_law_258 : decode cL_law 258 = .ok (.iload 4, 2) := by decide +kernel
theorem dL_law_260 : decode cL_law 260 = .ok (.iconst 4, 1) := by decide +kernel
theorem dL_law_261 : decode cL_law 261 = .ok (.iadd, 1) := by decide +kernel
theorem dL_law_262 : decode cL_law 262 = .ok (.iaload, 1) := by decide +kernel
theorem dL_law_263 : decode cL_law 263 = .ok (.aload_n 0, 1) := by decide +kernel
theorem dL_law_264 : decode cL_law 264 = .ok (.iload 4, 2) := by decide +kernel
theorem dL_law_266 : decode cL_law 266 = .ok (.iconst 5, 1) := by decide +kernel
theorem dL_law_267 : decode cL_law 267 = .ok (.iadd, 1) := by decide +kernel
theorem dL_law_268 : decode cL_law 268 = .ok (.iaload, 1) := by decide +kernel
theorem dL_law_269 : decode cL_law 269 = .ok (.invokevirtual 27, 3) := by decide +kernel
theorem dL_law_272 : decode cL_law 272 = .ok (.if_icmp .eq 1140, 3) := by decide +kernel
theorem dL_law_275 : decode cL_law 275 = .ok (.iconst 0, 1) := by decide +kernel
theorem dL_law_276 : decode cL_law 276 = .ok (.ireturn, 1) := by decide +kernel
theorem dL_law_277 : decode cL_law 277 = .ok (.aload_n 1, 1) := by decide +kernel
theorem dL_law_278 : decode cL_law 278 = .ok (.aload_n 0, 1) := by decide +kernel
theorem dL_law_279 : decode cL_law 279 = .ok (.iload 4, 2) := by decide +kernel
theorem dL_law_281 : decode cL_law 281 = .ok (.iconst 1, 1) := by decide +kernel
theorem dL_law_282 : decode cL_law 282 = .ok (.iadd, 1) := by decide +kernel
theorem dL_law_283 : decode cL_law 283 = .ok (.iaload, 1) := by decide +kernel
theorem dL_law_284 : decode cL_law 284 = .ok (.aload_n 0, 1) := by decide +kernel
theorem dL_law_285 : decode cL_law 285 = .ok (.iload 4, 2) := by decide +kernel
theorem dL_law_287 : decode cL_law 287 = .ok (.iconst 2, 1) := by decide +kernel
theorem dL_law_288 : decode cL_law 288 = .ok (.iadd, 1) := by decide +kernel
theorem dL_law_289 : decode cL_law 289 = .ok (.iaload, 1) := by decide +kernel
theorem dL_law_290 : decode cL_law 290 = .ok (.invokevirtual 28, 3) := by decide +kernel
theorem dL_law_293 : decode cL_law 293 = .ok (.aload_n 2, 1) := by decide +kernel
theorem dL_law_294 : decode cL_law 294 = .ok (.aload_n 0, 1) := by decide +kernel
theorem dL_law_295 : decode cL_law 295 = .ok (.iload 4, 2) := by decide +kernel
theorem dL_law_297 : decode cL_law 297 = .ok (.iconst 1, 1) := by decide +kernel
theorem dL_law_298 : decode cL_law 298 = .ok (.iadd, 1) := by decide +kernel
theorem dL_law_299 : decode cL_law 299 = .ok (.iaload, 1) := by decide +kernel
theorem dL_law_300 : decode cL_law 300 = .ok (.aload_n 0, 1) := by decide +kernel
theorem dL_law_301 : decode cL_law 301 = .ok (.iload 4, 2) := by decide +kernel
theorem dL_law_303 : decode cL_law 303 = .ok (.iconst 2, 1) := by decide +kernel
theorem dL_law_304 : decode cL_law 304 = .ok (.iadd, 1) := by decide +kernel
theorem dL_law_305 : decode cL_law 305 = .ok (.iaload, 1) := by decide +kernel
theorem dL_law_306 : decode cL_law 306 = .ok (.invokevirtual 31, 3) := by decide +kernel
theorem dL_law_309 : decode cL_law 309 = .ok (.if_icmp .eq 1103, 3) := by decide +kernel
theorem dL_law_312 : decode cL_law 312 = .ok (.iconst 0, 1) := by decide +kernel
theorem dL_law_313 : decode cL_law 313 = .ok (.ireturn, 1) := by decide +kernel
theorem dL_law_314 : decode cL_law 314 = .ok (.aload_n 1, 1) := by decide +kernel
theorem dL_law_315 : decode cL_law 315 = .ok (.aload_n 0, 1) := by decide +kernel
theorem dL_law_316 : decode cL_law 316 = .ok (.iload 4, 2) := by decide +kernel
theorem dL_law_318 : decode cL_law 318 = .ok (.iconst 1, 1) := by decide +kernel
theorem dL_law_319 : decode cL_law 319 = .ok (.iadd, 1) := by decide +kernel
theorem dL_law_320 : decode cL_law 320 = .ok (.iaload, 1) := by decide +kernel
theorem dL_law_321 : decode cL_law 321 = .ok (.aload_n 0, 1) := by decide +kernel
theorem dL_law_322 : decode cL_law 322 = .ok (.iload 4, 2) := by decide +kernel
theorem dL_law_324 : decode cL_law 324 = .ok (.iconst 2, 1) := by decide +kernel
theorem dL_law_325 : decode cL_law 325 = .ok (.iadd, 1) := by decide +kernel
theorem dL_law_326 : decode cL_law 326 = .ok (.iaload, 1) := by decide +kernel
theorem dL_law_327 : decode cL_law 327 = .ok (.invokevirtual 32, 3) := by decide +kernel
theorem dL_law_330 : decode cL_law 330 = .ok (.aload_n 2, 1) := by decide +kernel
theorem dL_law_331 : decode cL_law 331 = .ok (.aload_n 0, 1) := by decide +kernel
theorem dL_law_332 : decode cL_law 332 = .ok (.iload 4, 2) := by decide +kernel
theorem dL_law_334 : decode cL_law 334 = .ok (.iconst 1, 1) := by decide +kernel
theorem dL_law_335 : decode cL_law 335 = .ok (.iadd, 1) := by decide +kernel
theorem dL_law_336 : decode cL_law 336 = .ok (.iaload, 1) := by decide +kernel
theorem dL_law_337 : decode cL_law 337 = .ok (.aload_n 0, 1) := by decide +kernel
theorem dL_law_338 : decode cL_law 338 = .ok (.iload 4, 2) := by decide +kernel
theorem dL_law_340 : decode cL_law 340 = .ok (.iconst 2, 1) := by decide +kernel
theorem dL_law_341 : decode cL_law 341 = .ok (.iadd, 1) := by decide +kernel
theorem dL_law_342 : decode cL_law 342 = .ok (.iaload, 1) := by decide +kernel
theorem dL_law_343 : decode cL_law 343 = .ok (.invokevirtual 35, 3) := by decide +kernel
theorem dL_law_346 : decode cL_law 346 = .ok (.if_icmp .eq 1066, 3) := by decide +kernel
theorem dL_law_349 : decode cL_law 349 = .ok (.iconst 0, 1) := by decide +kernel
theorem dL_law_350 : decode cL_law 350 = .ok (.ireturn, 1) := by decide +kernel
theorem dL_law_351 : decode cL_law 351 = .ok (.aload_n 1, 1) := by decide +kernel
theorem dL_law_352 : decode cL_law 352 = .ok (.aload_n 0, 1) := by decide +kernel
theorem dL_law_353 : decode cL_law 353 = .ok (.iload 4, 2) := by decide +kernel
theorem dL_law_355 : decode cL_law 355 = .ok (.iconst 1, 1) := by decide +kernel
theorem dL_law_356 : decode cL_law 356 = .ok (.iadd, 1) := by decide +kernel
theorem dL_law_357 : decode cL_law 357 = .ok (.iaload, 1) := by decide +kernel
theorem dL_law_358 : decode cL_law 358 = .ok (.aload_n 0, 1) := by decide +kernel
theorem dL_law_359 : decode cL_law 359 = .ok (.iload 4, 2) := by decide +kernel
theorem dL_law_361 : decode cL_law 361 = .ok (.iconst 2, 1) := by decide +kernel
theorem dL_law_362 : decode cL_law 362 = .ok (.iadd, 1) := by decide +kernel
theorem dL_law_363 : decode cL_law 363 = .ok (.iaload, 1) := by decide +kernel
theorem dL_law_364 : decode cL_law 364 = .ok (.aload_n 0, 1) := by decide +kernel
theorem dL_law_365 : decode cL_law 365 = .ok (.iload 4, 2) := by decide +kernel
theorem dL_law_367 : decode cL_law 367 = .ok (.iconst 3, 1) := by decide +kernel
theorem dL_law_368 : decode cL_law 368 = .ok (.iadd, 1) := by decide +kernel
theorem dL_law_369 : decode cL_law 369 = .ok (.iaload, 1) := by decide +kernel
theorem dL_law_370 : decode cL_law 370 = .ok (.aload_n 0, 1) := by decide +kernel
theorem dL_law_371 : decode cL_law 371 = .ok (.iload 4, 2) := by decide +kernel
theorem dL_law_373 : decode cL_law 373 = .ok (.iconst 4, 1) := by decide +kernel
theorem dL_law_374 : decode cL_law 374 = .ok (.iadd, 1) := by decide +kernel
theorem dL_law_375 : decode cL_law 375 = .ok (.iaload, 1) := by decide +kernel
theorem dL_law_376 : decode cL_law 376 = .ok (.aload_n 0, 1) := by decide +kernel
theorem dL_law_377 : decode cL_law 377 = .ok (.iload 4, 2) := by decide +kernel
theorem dL_law_379 : decode cL_law 379 = .ok (.iconst 5, 1) := by decide +kernel
theorem dL_law_380 : decode cL_law 380 = .ok (.iadd, 1) := by decide +kernel
theorem dL_law_381 : decode cL_law 381 = .ok (.iaload, 1) := by decide +kernel
theorem dL_law_382 : decode cL_law 382 = .ok (.aload_n 0, 1) := by decide +kernel
theorem dL_law_383 : decode cL_law 383 = .ok (.iload 4, 2) := by decide +kernel
theorem dL_law_385 : decode cL_law 385 = .ok (.bipush 6, 2) := by decide +kernel
theorem dL_law_387 : decode cL_law 387 = .ok (.iadd, 1) := by decide +kernel
theorem dL_law_388 : decode cL_law 388 = .ok (.iaload, 1) := by decide +kernel
theorem dL_law_389 : decode cL_law 389 = .ok (.invokevirtual 36, 3) := by decide +kernel
theorem dL_law_392 : decode cL_law 392 = .ok (.aload_n 2, 1) := by decide +kernel
theorem dL_law_393 : decode cL_law 393 = .ok (.aload_n 0, 1) := by decide +kernel
theorem dL_law_394 : decode cL_law 394 = .ok (.iload 4, 2) := by decide +kernel
theorem dL_law_396 : decode cL_law 396 = .ok (.iconst 1, 1) := by decide +kernel
theorem dL_law_397 : decode cL_law 397 = .ok (.iadd, 1) := by decide +kernel
theorem dL_law_398 : decode cL_law 398 = .ok (.iaload, 1) := by decide +kernel
theorem dL_law_399 : decode cL_law 399 = .ok (.aload_n 0, 1) := by decide +kernel
theorem dL_law_400 : decode cL_law 400 = .ok (.iload 4, 2) := by decide +kernel
theorem dL_law_402 : decode cL_law 402 = .ok (.iconst 2, 1) := by decide +kernel
theorem dL_law_403 : decode cL_law 403 = .ok (.iadd, 1) := by decide +kernel
theorem dL_law_404 : decode cL_law 404 = .ok (.iaload, 1) := by decide +kernel
theorem dL_law_405 : decode cL_law 405 = .ok (.aload_n 0, 1) := by decide +kernel
theorem dL_law_406 : decode cL_law 406 = .ok (.iload 4, 2) := by decide +kernel
theorem dL_law_408 : decode cL_law 408 = .ok (.iconst 3, 1) := by decide +kernel
theorem dL_law_409 : decode cL_law 409 = .ok (.iadd, 1) := by decide +kernel
theorem dL_law_410 : decode cL_law 410 = .ok (.iaload, 1) := by decide +kernel
theorem dL_law_411 : decode cL_law 411 = .ok (.aload_n 0, 1) := by decide +kernel
theorem dL_law_412 : decode cL_law 412 = .ok (.iload 4, 2) := by decide +kernel
theorem dL_law_414 : decode cL_law 414 = .ok (.iconst 4, 1) := by decide +kernel
theorem dL_law_415 : decode cL_law 415 = .ok (.iadd, 1) := by decide +kernel
theorem dL_law_416 : decode cL_law 416 = .ok (.iaload, 1) := by decide +kernel
theorem dL_law_417 : decode cL_law 417 = .ok (.aload_n 0, 1) := by decide +kernel
theorem dL_law_418 : decode cL_law 418 = .ok (.iload 4, 2) := by decide +kernel
theorem dL_law_420 : decode cL_law 420 = .ok (.iconst 5, 1) := by decide +kernel
theorem dL_law_421 : decode cL_law 421 = .ok (.iadd, 1) := by decide +kernel
theorem dL_law_422 : decode cL_law 422 = .ok (.iaload, 1) := by decide +kernel
theorem dL_law_423 : decode cL_law 423 = .ok (.aload_n 0, 1) := by decide +kernel
theorem dL_law_424 : decode cL_law 424 = .ok (.iload 4, 2) := by decide +kernel
theorem dL_law_426 : decode cL_law 426 = .ok (.bipush 6, 2) := by decide +kernel
theorem dL_law_428 : decode cL_law 428 = .ok (.iadd, 1) := by decide +kernel
theorem dL_law_429 : decode cL_law 429 = .ok (.iaload, 1) := by decide +kernel
theorem dL_law_430 : decode cL_law 430 = .ok (.invokevirtual 40, 3) := by decide +kernel
theorem dL_law_433 : decode cL_law 433 = .ok (.if_icmp .eq 979, 3) := by decide +kernel
theorem dL_law_436 : decode cL_law 436 = .ok (.iconst 0, 1) := by decide +kernel
theorem dL_law_437 : decode cL_law 437 = .ok (.ireturn, 1) := by decide +kernel
theorem dL_law_438 : decode cL_law 438 = .ok (.aload_n 1, 1) := by decide +kernel
theorem dL_law_439 : decode cL_law 439 = .ok (.aload_n 0, 1) := by decide +kernel
theorem dL_law_440 : decode cL_law 440 = .ok (.iload 4, 2) := by decide +kernel
theorem dL_law_442 : decode cL_law 442 = .ok (.iconst 1, 1) := by decide +kernel
theorem dL_law_443 : decode cL_law 443 = .ok (.iadd, 1) := by decide +kernel
theorem dL_law_444 : decode cL_law 444 = .ok (.iaload, 1) := by decide +kernel
theorem dL_law_445 : decode cL_law 445 = .ok (.aload_n 0, 1) := by decide +kernel
theorem dL_law_446 : decode cL_law 446 = .ok (.iload 4, 2) := by decide +kernel
theorem dL_law_448 : decode cL_law 448 = .ok (.iconst 2, 1) := by decide +kernel
theorem dL_law_449 : decode cL_law 449 = .ok (.iadd, 1) := by decide +kernel
theorem dL_law_450 : decode cL_law 450 = .ok (.iaload, 1) := by decide +kernel
theorem dL_law_451 : decode cL_law 451 = .ok (.ifCond .eq 7, 3) := by decide +kernel
theorem dL_law_454 : decode cL_law 454 = .ok (.iconst 1, 1) := by decide +kernel
theorem dL_law_455 : decode cL_law 455 = .ok (.goto 4, 3) := by decide +kernel
theorem dL_law_458 : decode cL_law 458 = .ok (.iconst 0, 1) := by decide +kernel
theorem dL_law_459 : decode cL_law 459 = .ok (.invokevirtual 41, 3) := by decide +kernel
theorem dL_law_462 : decode cL_law 462 = .ok (.aload_n 2, 1) := by decide +kernel
theorem dL_law_463 : decode cL_law 463 = .ok (.aload_n 0, 1) := by decide +kernel
theorem dL_law_464 : decode cL_law 464 = .ok (.iload 4, 2) := by decide +kernel
theorem dL_law_466 : decode cL_law 466 = .ok (.iconst 1, 1) := by decide +kernel
theorem dL_law_467 : decode cL_law 467 = .ok (.iadd, 1) := by decide +kernel
theorem dL_law_468 : decode cL_law 468 = .ok (.iaload, 1) := by decide +kernel
theorem dL_law_469 : decode cL_law 469 = .ok (.aload_n 0, 1) := by decide +kernel
theorem dL_law_470 : decode cL_law 470 = .ok (.iload 4, 2) := by decide +kernel
theorem dL_law_472 : decode cL_law 472 = .ok (.iconst 2, 1) := by decide +kernel
theorem dL_law_473 : decode cL_law 473 = .ok (.iadd, 1) := by decide +kernel
theorem dL_law_474 : decode cL_law 474 = .ok (.iaload, 1) := by decide +kernel
theorem dL_law_475 : decode cL_law 475 = .ok (.ifCond .eq 7, 3) := by decide +kernel
theorem dL_law_478 : decode cL_law 478 = .ok (.iconst 1, 1) := by decide +kernel
theorem dL_law_479 : decode cL_law 479 = .ok (.goto 4, 3) := by decide +kernel
theorem dL_law_482 : decode cL_law 482 = .ok (.iconst 0, 1) := by decide +kernel
theorem dL_law_483 : decode cL_law 483 = .ok (.invokevirtual 45, 3) := by decide +kernel
theorem dL_law_486 : decode cL_law 486 = .ok (.if_icmp .eq 926, 3) := by decide +kernel
theorem dL_law_489 : decode cL_law 489 = .ok (.iconst 0, 1) := by decide +kernel
theorem dL_law_490 : decode cL_law 490 = .ok (.ireturn, 1) := by decide +kernel
theorem dL_law_491 : decode cL_law 491 = .ok (.aload_n 1, 1) := by decide +kernel
theorem dL_law_492 : decode cL_law 492 = .ok (.aload_n 0, 1) := by decide +kernel
theorem dL_law_493 : decode cL_law 493 = .ok (.iload 4, 2) := by decide +kernel
theorem dL_law_495 : decode cL_law 495 = .ok (.iconst 1, 1) := by decide +kernel
theorem dL_law_496 : decode cL_law 496 = .ok (.iadd, 1) := by decide +kernel
theorem dL_law_497 : decode cL_law 497 = .ok (.iaload, 1) := by decide +kernel
theorem dL_law_498 : decode cL_law 498 = .ok (.aload_n 0, 1) := by decide +kernel
theorem dL_law_499 : decode cL_law 499 = .ok (.iload 4, 2) := by decide +kernel
theorem dL_law_501 : decode cL_law 501 = .ok (.iconst 2, 1) := by decide +kernel
theorem dL_law_502 : decode cL_law 502 = .ok (.iadd, 1) := by decide +kernel
theorem dL_law_503 : decode cL_law 503 = .ok (.iaload, 1) := by decide +kernel
theorem dL_law_504 : decode cL_law 504 = .ok (.invokevirtual 46, 3) := by decide +kernel
theorem dL_law_507 : decode cL_law 507 = .ok (.aload_n 2, 1) := by decide +kernel
theorem dL_law_508 : decode cL_law 508 = .ok (.aload_n 0, 1) := by decide +kernel
theorem dL_law_509 : decode cL_law 509 = .ok (.iload 4, 2) := by decide +kernel
theorem dL_law_511 : decode cL_law 511 = .ok (.iconst 1, 1) := by decide +kernel
theorem dL_law_512 : decode cL_law 512 = .ok (.iadd, 1) := by decide +kernel
theorem dL_law_513 : decode cL_law 513 = .ok (.iaload, 1) := by decide +kernel
theorem dL_law_514 : decode cL_law 514 = .ok (.aload_n 0, 1) := by decide +kernel
theorem dL_law_515 : decode cL_law 515 = .ok (.iload 4, 2) := by decide +kernel
theorem dL_law_517 : decode cL_law 517 = .ok (.iconst 2, 1) := by decide +kernel
theorem dL_law_518 : decode cL_law 518 = .ok (.iadd, 1) := by decide +kernel
theorem dL_law_519 : decode cL_law 519 = .ok (.iaload, 1) := by decide +kernel
theorem dL_law_520 : decode cL_law 520 = .ok (.invokevirtual 50, 3) := by decide +kernel
theorem dL_law_523 : decode cL_law 523 = .ok (.if_icmp .eq 889, 3) := by decide +kernel
theorem dL_law_526 : decode cL_law 526 = .ok (.iconst 0, 1) := by decide +kernel
theorem dL_law_527 : decode cL_law 527 = .ok (.ireturn, 1) := by decide +kernel
theorem dL_law_528 : decode cL_law 528 = .ok (.aload_n 1, 1) := by decide +kernel
theorem dL_law_529 : decode cL_law 529 = .ok (.invokevirtual 51, 3) := by decide +kernel
theorem dL_law_532 : decode cL_law 532 = .ok (.aload_n 2, 1) := by decide +kernel
theorem dL_law_533 : decode cL_law 533 = .ok (.invokevirtual 55, 3) := by decide +kernel
theorem dL_law_536 : decode cL_law 536 = .ok (.if_icmp .eq 876, 3) := by decide +kernel
theorem dL_law_539 : decode cL_law 539 = .ok (.iconst 0, 1) := by decide +kernel
theorem dL_law_540 : decode cL_law 540 = .ok (.ireturn, 1) := by decide +kernel
theorem dL_law_541 : decode cL_law 541 = .ok (.aload_n 1, 1) := by decide +kernel
theorem dL_law_542 : decode cL_law 542 = .ok (.aload_n 0, 1) := by decide +kernel
theorem dL_law_543 : decode cL_law 543 = .ok (.iload 4, 2) := by decide +kernel
theorem dL_law_545 : decode cL_law 545 = .ok (.iconst 1, 1) := by decide +kernel
theorem dL_law_546 : decode cL_law 546 = .ok (.iadd, 1) := by decide +kernel
theorem dL_law_547 : decode cL_law 547 = .ok (.iaload, 1) := by decide +kernel
theorem dL_law_548 : decode cL_law 548 = .ok (.invokevirtual 56, 3) := by decide +kernel
theorem dL_law_551 : decode cL_law 551 = .ok (.aload_n 2, 1) := by decide +kernel
theorem dL_law_552 : decode cL_law 552 = .ok (.aload_n 0, 1) := by decide +kernel
theorem dL_law_553 : decode cL_law 553 = .ok (.iload 4, 2) := by decide +kernel
theorem dL_law_555 : decode cL_law 555 = .ok (.iconst 1, 1) := by decide +kernel
theorem dL_law_556 : decode cL_law 556 = .ok (.iadd, 1) := by decide +kernel
theorem dL_law_557 : decode cL_law 557 = .ok (.iaload, 1) := by decide +kernel
theorem dL_law_558 : decode cL_law 558 = .ok (.invokevirtual 60, 3) := by decide +kernel
theorem dL_law_561 : decode cL_law 561 = .ok (.if_icmp .eq 851, 3) := by decide +kernel
theorem dL_law_564 : decode cL_law 564 = .ok (.iconst 0, 1) := by decide +kernel
theorem dL_law_565 : decode cL_law 565 = .ok (.ireturn, 1) := by decide +kernel
theorem dL_law_566 : decode cL_law 566 = .ok (.aload_n 1, 1) := by decide +kernel
theorem dL_law_567 : decode cL_law 567 = .ok (.aload_n 0, 1) := by decide +kernel
theorem dL_law_568 : decode cL_law 568 = .ok (.iload 4, 2) := by decide +kernel
theorem dL_law_570 : decode cL_law 570 = .ok (.iconst 1, 1) := by decide +kernel
theorem dL_law_571 : decode cL_law 571 = .ok (.iadd, 1) := by decide +kernel
theorem dL_law_572 : decode cL_law 572 = .ok (.iaload, 1) := by decide +kernel
theorem dL_law_573 : decode cL_law 573 = .ok (.invokevirtual 61, 3) := by decide +kernel
theorem dL_law_576 : decode cL_law 576 = .ok (.aload_n 2, 1) := by decide +kernel
theorem dL_law_577 : decode cL_law 577 = .ok (.aload_n 0, 1) := by decide +kernel
theorem dL_law_578 : decode cL_law 578 = .ok (.iload 4, 2) := by decide +kernel
theorem dL_law_580 : decode cL_law 580 = .ok (.iconst 1, 1) := by decide +kernel
theorem dL_law_581 : decode cL_law 581 = .ok (.iadd, 1) := by decide +kernel
theorem dL_law_582 : decode cL_law 582 = .ok (.iaload, 1) := by decide +kernel
theorem dL_law_583 : decode cL_law 583 = .ok (.invokevirtual 65, 3) := by decide +kernel
theorem dL_law_586 : decode cL_law 586 = .ok (.if_icmp .eq 826, 3) := by decide +kernel
theorem dL_law_589 : decode cL_law 589 = .ok (.iconst 0, 1) := by decide +kernel
theorem dL_law_590 : decode cL_law 590 = .ok (.ireturn, 1) := by decide +kernel
theorem dL_law_591 : decode cL_law 591 = .ok (.aload_n 1, 1) := by decide +kernel
theorem dL_law_592 : decode cL_law 592 = .ok (.invokevirtual 66, 3) := by decide +kernel
theorem dL_law_595 : decode cL_law 595 = .ok (.aload_n 2, 1) := by decide +kernel
theorem dL_law_596 : decode cL_law 596 = .ok (.invokevirtual 69, 3) := by decide +kernel
theorem dL_law_599 : decode cL_law 599 = .ok (.if_icmp .eq 813, 3) := by decide +kernel
theorem dL_law_602 : decode cL_law 602 = .ok (.iconst 0, 1) := by decide +kernel
theorem dL_law_603 : decode cL_law 603 = .ok (.ireturn, 1) := by decide +kernel
theorem dL_law_604 : decode cL_law 604 = .ok (.aload_n 1, 1) := by decide +kernel
theorem dL_law_605 : decode cL_law 605 = .ok (.aload_n 0, 1) := by decide +kernel
theorem dL_law_606 : decode cL_law 606 = .ok (.iload 4, 2) := by decide +kernel
theorem dL_law_608 : decode cL_law 608 = .ok (.iconst 1, 1) := by decide +kernel
theorem dL_law_609 : decode cL_law 609 = .ok (.iadd, 1) := by decide +kernel
theorem dL_law_610 : decode cL_law 610 = .ok (.iaload, 1) := by decide +kernel
theorem dL_law_611 : decode cL_law 611 = .ok (.aload_n 0, 1) := by decide +kernel
theorem dL_law_612 : decode cL_law 612 = .ok (.iload 4, 2) := by decide +kernel
theorem dL_law_614 : decode cL_law 614 = .ok (.iconst 2, 1) := by decide +kernel
theorem dL_law_615 : decode cL_law 615 = .ok (.iadd, 1) := by decide +kernel
theorem dL_law_616 : decode cL_law 616 = .ok (.iaload, 1) := by decide +kernel
theorem dL_law_617 : decode cL_law 617 = .ok (.aload_n 3, 1) := by decide +kernel
theorem dL_law_618 : decode cL_law 618 = .ok (.invokestatic 70, 3) := by decide +kernel
theorem dL_law_621 : decode cL_law 621 = .ok (.istore 5, 2) := by decide +kernel
theorem dL_law_623 : decode cL_law 623 = .ok (.aload_n 2, 1) := by decide +kernel
theorem dL_law_624 : decode cL_law 624 = .ok (.aload_n 0, 1) := by decide +kernel
theorem dL_law_625 : decode cL_law 625 = .ok (.iload 4, 2) := by decide +kernel
theorem dL_law_627 : decode cL_law 627 = .ok (.iconst 1, 1) := by decide +kernel
theorem dL_law_628 : decode cL_law 628 = .ok (.iadd, 1) := by decide +kernel
theorem dL_law_629 : decode cL_law 629 = .ok (.iaload, 1) := by decide +kernel
theorem dL_law_630 : decode cL_law 630 = .ok (.aload_n 0, 1) := by decide +kernel
theorem dL_law_631 : decode cL_law 631 = .ok (.iload 4, 2) := by decide +kernel
theorem dL_law_633 : decode cL_law 633 = .ok (.iconst 2, 1) := by decide +kernel
theorem dL_law_634 : decode cL_law 634 = .ok (.iadd, 1) := by decide +kernel
theorem dL_law_635 : decode cL_law 635 = .ok (.iaload, 1) := by decide +kernel
theorem dL_law_636 : decode cL_law 636 = .ok (.invokevirtual 75, 3) := by decide +kernel
theorem dL_law_639 : decode cL_law 639 = .ok (.istore 6, 2) := by decide +kernel
theorem dL_law_641 : decode cL_law 641 = .ok (.aload_n 2, 1) := by decide +kernel
theorem dL_law_642 : decode cL_law 642 = .ok (.invokevirtual 76, 3) := by decide +kernel
theorem dL_law_645 : decode cL_law 645 = .ok (.iload 5, 2) := by decide +kernel
theorem dL_law_647 : decode cL_law 647 = .ok (.if_icmp .eq 5, 3) := by decide +kernel
theorem dL_law_650 : decode cL_law 650 = .ok (.iconst 0, 1) := by decide +kernel
theorem dL_law_651 : decode cL_law 651 = .ok (.ireturn, 1) := by decide +kernel
theorem dL_law_652 : decode cL_law 652 = .ok (.iload 5, 2) := by decide +kernel
theorem dL_law_654 : decode cL_law 654 = .ok (.ifCond .ne 15, 3) := by decide +kernel
theorem dL_law_657 : decode cL_law 657 = .ok (.aload_n 3, 1) := by decide +kernel
theorem dL_law_658 : decode cL_law 658 = .ok (.iconst 0, 1) := by decide +kernel
theorem dL_law_659 : decode cL_law 659 = .ok (.laload, 1) := by decide +kernel
theorem dL_law_660 : decode cL_law 660 = .ok (.iload 6, 2) := by decide +kernel
theorem dL_law_662 : decode cL_law 662 = .ok (.i2l, 1) := by decide +kernel
theorem dL_law_663 : decode cL_law 663 = .ok (.lcmp, 1) := by decide +kernel
theorem dL_law_664 : decode cL_law 664 = .ok (.ifCond .eq 5, 3) := by decide +kernel
theorem dL_law_667 : decode cL_law 667 = .ok (.iconst 0, 1) := by decide +kernel
theorem dL_law_668 : decode cL_law 668 = .ok (.ireturn, 1) := by decide +kernel
theorem dL_law_669 : decode cL_law 669 = .ok (.goto 743, 3) := by decide +kernel
theorem dL_law_672 : decode cL_law 672 = .ok (.aload_n 1, 1) := by decide +kernel
theorem dL_law_673 : decode cL_law 673 = .ok (.aload_n 0, 1) := by decide +kernel
theorem dL_law_674 : decode cL_law 674 = .ok (.iload 4, 2) := by decide +kernel
theorem dL_law_676 : decode cL_law 676 = .ok (.iconst 1, 1) := by decide +kernel
theorem dL_law_677 : decode cL_law 677 = .ok (.iadd, 1) := by decide +kernel
theorem dL_law_678 : decode cL_law 678 = .ok (.iaload, 1) := by decide +kernel
theorem dL_law_679 : decode cL_law 679 = .ok (.aload_n 0, 1) := by decide +kernel
theorem dL_law_680 : decode cL_law 680 = .ok (.iload 4, 2) := by decide +kernel
theorem dL_law_682 : decode cL_law 682 = .ok (.iconst 2, 1) := by decide +kernel
theorem dL_law_683 : decode cL_law 683 = .ok (.iadd, 1) := by decide +kernel
theorem dL_law_684 : decode cL_law 684 = .ok (.iaload, 1) := by decide +kernel
theorem dL_law_685 : decode cL_law 685 = .ok (.invokevirtual 79, 3) := by decide +kernel
theorem dL_law_688 : decode cL_law 688 = .ok (.aload_n 2, 1) := by decide +kernel
theorem dL_law_689 : decode cL_law 689 = .ok (.aload_n 0, 1) := by decide +kernel
theorem dL_law_690 : decode cL_law 690 = .ok (.iload 4, 2) := by decide +kernel
theorem dL_law_692 : decode cL_law 692 = .ok (.iconst 1, 1) := by decide +kernel
theorem dL_law_693 : decode cL_law 693 = .ok (.iadd, 1) := by decide +kernel
theorem dL_law_694 : decode cL_law 694 = .ok (.iaload, 1) := by decide +kernel
theorem dL_law_695 : decode cL_law 695 = .ok (.aload_n 0, 1) := by decide +kernel
theorem dL_law_696 : decode cL_law 696 = .ok (.iload 4, 2) := by decide +kernel
theorem dL_law_698 : decode cL_law 698 = .ok (.iconst 2, 1) := by decide +kernel
theorem dL_law_699 : decode cL_law 699 = .ok (.iadd, 1) := by decide +kernel
theorem dL_law_700 : decode cL_law 700 = .ok (.iaload, 1) := by decide +kernel
theorem dL_law_701 : decode cL_law 701 = .ok (.invokevirtual 82, 3) := by decide +kernel
theorem dL_law_704 : decode cL_law 704 = .ok (.if_icmp .eq 708, 3) := by decide +kernel
theorem dL_law_707 : decode cL_law 707 = .ok (.iconst 0, 1) := by decide +kernel
theorem dL_law_708 : decode cL_law 708 = .ok (.ireturn, 1) := by decide +kernel
theorem dL_law_709 : decode cL_law 709 = .ok (.aload_n 1, 1) := by decide +kernel
theorem dL_law_710 : decode cL_law 710 = .ok (.aload_n 0, 1) := by decide +kernel
theorem dL_law_711 : decode cL_law 711 = .ok (.iload 4, 2) := by decide +kernel
theorem dL_law_713 : decode cL_law 713 = .ok (.iconst 1, 1) := by decide +kernel
theorem dL_law_714 : decode cL_law 714 = .ok (.iadd, 1) := by decide +kernel
theorem dL_law_715 : decode cL_law 715 = .ok (.iaload, 1) := by decide +kernel
theorem dL_law_716 : decode cL_law 716 = .ok (.aload_n 0, 1) := by decide +kernel
theorem dL_law_717 : decode cL_law 717 = .ok (.iload 4, 2) := by decide +kernel
theorem dL_law_719 : decode cL_law 719 = .ok (.iconst 2, 1) := by decide +kernel
theorem dL_law_720 : decode cL_law 720 = .ok (.iadd, 1) := by decide +kernel
theorem dL_law_721 : decode cL_law 721 = .ok (.iaload, 1) := by decide +kernel
theorem dL_law_722 : decode cL_law 722 = .ok (.invokevirtual 83, 3) := by decide +kernel
theorem dL_law_725 : decode cL_law 725 = .ok (.aload_n 2, 1) := by decide +kernel
theorem dL_law_726 : decode cL_law 726 = .ok (.aload_n 0, 1) := by decide +kernel
theorem dL_law_727 : decode cL_law 727 = .ok (.iload 4, 2) := by decide +kernel
theorem dL_law_729 : decode cL_law 729 = .ok (.iconst 1, 1) := by decide +kernel
theorem dL_law_730 : decode cL_law 730 = .ok (.iadd, 1) := by decide +kernel
theorem dL_law_731 : decode cL_law 731 = .ok (.iaload, 1) := by decide +kernel
theorem dL_law_732 : decode cL_law 732 = .ok (.aload_n 0, 1) := by decide +kernel
theorem dL_law_733 : decode cL_law 733 = .ok (.iload 4, 2) := by decide +kernel
theorem dL_law_735 : decode cL_law 735 = .ok (.iconst 2, 1) := by decide +kernel
theorem dL_law_736 : decode cL_law 736 = .ok (.iadd, 1) := by decide +kernel
theorem dL_law_737 : decode cL_law 737 = .ok (.iaload, 1) := by decide +kernel
theorem dL_law_738 : decode cL_law 738 = .ok (.invokevirtual 86, 3) := by decide +kernel
theorem dL_law_741 : decode cL_law 741 = .ok (.if_icmp .eq 671, 3) := by decide +kernel
theorem dL_law_744 : decode cL_law 744 = .ok (.iconst 0, 1) := by decide +kernel
theorem dL_law_745 : decode cL_law 745 = .ok (.ireturn, 1) := by decide +kernel
theorem dL_law_746 : decode cL_law 746 = .ok (.aload_n 1, 1) := by decide +kernel
theorem dL_law_747 : decode cL_law 747 = .ok (.aload_n 0, 1) := by decide +kernel
theorem dL_law_748 : decode cL_law 748 = .ok (.iload 4, 2) := by decide +kernel
theorem dL_law_750 : decode cL_law 750 = .ok (.iconst 1, 1) := by decide +kernel
theorem dL_law_751 : decode cL_law 751 = .ok (.iadd, 1) := by decide +kernel
theorem dL_law_752 : decode cL_law 752 = .ok (.iaload, 1) := by decide +kernel
theorem dL_law_753 : decode cL_law 753 = .ok (.aload_n 0, 1) := by decide +kernel
theorem dL_law_754 : decode cL_law 754 = .ok (.iload 4, 2) := by decide +kernel
theorem dL_law_756 : decode cL_law 756 = .ok (.iconst 2, 1) := by decide +kernel
theorem dL_law_757 : decode cL_law 757 = .ok (.iadd, 1) := by decide +kernel
theorem dL_law_758 : decode cL_law 758 = .ok (.iaload, 1) := by decide +kernel
theorem dL_law_759 : decode cL_law 759 = .ok (.invokevirtual 87, 3) := by decide +kernel
theorem dL_law_762 : decode cL_law 762 = .ok (.aload_n 2, 1) := by decide +kernel
theorem dL_law_763 : decode cL_law 763 = .ok (.aload_n 0, 1) := by decide +kernel
theorem dL_law_764 : decode cL_law 764 = .ok (.iload 4, 2) := by decide +kernel
theorem dL_law_766 : decode cL_law 766 = .ok (.iconst 1, 1) := by decide +kernel
theorem dL_law_767 : decode cL_law 767 = .ok (.iadd, 1) := by decide +kernel
theorem dL_law_768 : decode cL_law 768 = .ok (.iaload, 1) := by decide +kernel
theorem dL_law_769 : decode cL_law 769 = .ok (.aload_n 0, 1) := by decide +kernel
theorem dL_law_770 : decode cL_law 770 = .ok (.iload 4, 2) := by decide +kernel
theorem dL_law_772 : decode cL_law 772 = .ok (.iconst 2, 1) := by decide +kernel
theorem dL_law_773 : decode cL_law 773 = .ok (.iadd, 1) := by decide +kernel
theorem dL_law_774 : decode cL_law 774 = .ok (.iaload, 1) := by decide +kernel
theorem dL_law_775 : decode cL_law 775 = .ok (.invokevirtual 90, 3) := by decide +kernel
theorem dL_law_778 : decode cL_law 778 = .ok (.if_icmp .eq 634, 3) := by decide +kernel
theorem dL_law_781 : decode cL_law 781 = .ok (.iconst 0, 1) := by decide +kernel
theorem dL_law_782 : decode cL_law 782 = .ok (.ireturn, 1) := by decide +kernel
theorem dL_law_783 : decode cL_law 783 = .ok (.aload_n 1, 1) := by decide +kernel
theorem dL_law_784 : decode cL_law 784 = .ok (.aload_n 0, 1) := by decide +kernel
theorem dL_law_785 : decode cL_law 785 = .ok (.iload 4, 2) := by decide +kernel
theorem dL_law_787 : decode cL_law 787 = .ok (.iconst 1, 1) := by decide +kernel
theorem dL_law_788 : decode cL_law 788 = .ok (.iadd, 1) := by decide +kernel
theorem dL_law_789 : decode cL_law 789 = .ok (.iaload, 1) := by decide +kernel
theorem dL_law_790 : decode cL_law 790 = .ok (.invokevirtual 91, 3) := by decide +kernel
theorem dL_law_793 : decode cL_law 793 = .ok (.aload_n 2, 1) := by decide +kernel
theorem dL_law_794 : decode cL_law 794 = .ok (.aload_n 0, 1) := by decide +kernel
theorem dL_law_795 : decode cL_law 795 = .ok (.iload 4, 2) := by decide +kernel
theorem dL_law_797 : decode cL_law 797 = .ok (.iconst 1, 1) := by decide +kernel
theorem dL_law_798 : decode cL_law 798 = .ok (.iadd, 1) := by decide +kernel
theorem dL_law_799 : decode cL_law 799 = .ok (.iaload, 1) := by decide +kernel
theorem dL_law_800 : decode cL_law 800 = .ok (.invokevirtual 94, 3) := by decide +kernel
theorem dL_law_803 : decode cL_law 803 = .ok (.if_icmp .eq 609, 3) := by decide +kernel
theorem dL_law_806 : decode cL_law 806 = .ok (.iconst 0, 1) := by decide +kernel
theorem dL_law_807 : decode cL_law 807 = .ok (.ireturn, 1) := by decide +kernel
theorem dL_law_808 : decode cL_law 808 = .ok (.aload_n 1, 1) := by decide +kernel
theorem dL_law_809 : decode cL_law 809 = .ok (.aload_n 0, 1) := by decide +kernel
theorem dL_law_810 : decode cL_law 810 = .ok (.iload 4, 2) := by decide +kernel
theorem dL_law_812 : decode cL_law 812 = .ok (.iconst 1, 1) := by decide +kernel
theorem dL_law_813 : decode cL_law 813 = .ok (.iadd, 1) := by decide +kernel
theorem dL_law_814 : decode cL_law 814 = .ok (.iaload, 1) := by decide +kernel
theorem dL_law_815 : decode cL_law 815 = .ok (.aload_n 0, 1) := by decide +kernel
theorem dL_law_816 : decode cL_law 816 = .ok (.iload 4, 2) := by decide +kernel
theorem dL_law_818 : decode cL_law 818 = .ok (.iconst 2, 1) := by decide +kernel
theorem dL_law_819 : decode cL_law 819 = .ok (.iadd, 1) := by decide +kernel
theorem dL_law_820 : decode cL_law 820 = .ok (.iaload, 1) := by decide +kernel
theorem dL_law_821 : decode cL_law 821 = .ok (.invokevirtual 95, 3) := by decide +kernel
theorem dL_law_824 : decode cL_law 824 = .ok (.aload_n 2, 1) := by decide +kernel
theorem dL_law_825 : decode cL_law 825 = .ok (.aload_n 0, 1) := by decide +kernel
theorem dL_law_826 : decode cL_law 826 = .ok (.iload 4, 2) := by decide +kernel
theorem dL_law_828 : decode cL_law 828 = .ok (.iconst 1, 1) := by decide +kernel
theorem dL_law_829 : decode cL_law 829 = .ok (.iadd, 1) := by decide +kernel
theorem dL_law_830 : decode cL_law 830 = .ok (.iaload, 1) := by decide +kernel
theorem dL_law_831 : decode cL_law 831 = .ok (.aload_n 0, 1) := by decide +kernel
theorem dL_law_832 : decode cL_law 832 = .ok (.iload 4, 2) := by decide +kernel
theorem dL_law_834 : decode cL_law 834 = .ok (.iconst 2, 1) := by decide +kernel
theorem dL_law_835 : decode cL_law 835 = .ok (.iadd, 1) := by decide +kernel
theorem dL_law_836 : decode cL_law 836 = .ok (.iaload, 1) := by decide +kernel
theorem dL_law_837 : decode cL_law 837 = .ok (.invokevirtual 98, 3) := by decide +kernel
theorem dL_law_840 : decode cL_law 840 = .ok (.if_icmp .eq 572, 3) := by decide +kernel
theorem dL_law_843 : decode cL_law 843 = .ok (.iconst 0, 1) := by decide +kernel
theorem dL_law_844 : decode cL_law 844 = .ok (.ireturn, 1) := by decide +kernel
theorem dL_law_845 : decode cL_law 845 = .ok (.aload_n 1, 1) := by decide +kernel
theorem dL_law_846 : decode cL_law 846 = .ok (.aload_n 0, 1) := by decide +kernel
theorem dL_law_847 : decode cL_law 847 = .ok (.iload 4, 2) := by decide +kernel
theorem dL_law_849 : decode cL_law 849 = .ok (.iconst 1, 1) := by decide +kernel
theorem dL_law_850 : decode cL_law 850 = .ok (.iadd, 1) := by decide +kernel
theorem dL_law_851 : decode cL_law 851 = .ok (.iaload, 1) := by decide +kernel
theorem dL_law_852 : decode cL_law 852 = .ok (.invokevirtual 99, 3) := by decide +kernel
theorem dL_law_855 : decode cL_law 855 = .ok (.aload_n 2, 1) := by decide +kernel
theorem dL_law_856 : decode cL_law 856 = .ok (.aload_n 0, 1) := by decide +kernel
theorem dL_law_857 : decode cL_law 857 = .ok (.iload 4, 2) := by decide +kernel
theorem dL_law_859 : decode cL_law 859 = .ok (.iconst 1, 1) := by decide +kernel
theorem dL_law_860 : decode cL_law 860 = .ok (.iadd, 1) := by decide +kernel
theorem dL_law_861 : decode cL_law 861 = .ok (.iaload, 1) := by decide +kernel
theorem dL_law_862 : decode cL_law 862 = .ok (.invokevirtual 102, 3) := by decide +kernel
theorem dL_law_865 : decode cL_law 865 = .ok (.if_icmp .eq 547, 3) := by decide +kernel
theorem dL_law_868 : decode cL_law 868 = .ok (.iconst 0, 1) := by decide +kernel
theorem dL_law_869 : decode cL_law 869 = .ok (.ireturn, 1) := by decide +kernel
theorem dL_law_870 : decode cL_law 870 = .ok (.aload_n 1, 1) := by decide +kernel
theorem dL_law_871 : decode cL_law 871 = .ok (.aload_n 0, 1) := by decide +kernel
theorem dL_law_872 : decode cL_law 872 = .ok (.iload 4, 2) := by decide +kernel
theorem dL_law_874 : decode cL_law 874 = .ok (.iconst 1, 1) := by decide +kernel
theorem dL_law_875 : decode cL_law 875 = .ok (.iadd, 1) := by decide +kernel
theorem dL_law_876 : decode cL_law 876 = .ok (.iaload, 1) := by decide +kernel
theorem dL_law_877 : decode cL_law 877 = .ok (.invokevirtual 103, 3) := by decide +kernel
theorem dL_law_880 : decode cL_law 880 = .ok (.aload_n 2, 1) := by decide +kernel
theorem dL_law_881 : decode cL_law 881 = .ok (.aload_n 0, 1) := by decide +kernel
theorem dL_law_882 : decode cL_law 882 = .ok (.iload 4, 2) := by decide +kernel
theorem dL_law_884 : decode cL_law 884 = .ok (.iconst 1, 1) := by decide +kernel
theorem dL_law_885 : decode cL_law 885 = .ok (.iadd, 1) := by decide +kernel
theorem dL_law_886 : decode cL_law 886 = .ok (.iaload, 1) := by decide +kernel
theorem dL_law_887 : decode cL_law 887 = .ok (.invokevirtual 106, 3) := by decide +kernel
theorem dL_law_890 : decode cL_law 890 = .ok (.if_icmp .eq 522, 3) := by decide +kernel
theorem dL_law_893 : decode cL_law 893 = .ok (.iconst 0, 1) := by decide +kernel
theorem dL_law_894 : decode cL_law 894 = .ok (.ireturn, 1) := by decide +kernel
theorem dL_law_895 : decode cL_law 895 = .ok (.aload_n 1, 1) := by decide +kernel
theorem dL_law_896 : decode cL_law 896 = .ok (.aload_n 0, 1) := by decide +kernel
theorem dL_law_897 : decode cL_law 897 = .ok (.iload 4, 2) := by decide +kernel
theorem dL_law_899 : decode cL_law 899 = .ok (.iconst 1, 1) := by decide +kernel
theorem dL_law_900 : decode cL_law 900 = .ok (.iadd, 1) := by decide +kernel
theorem dL_law_901 : decode cL_law 901 = .ok (.iaload, 1) := by decide +kernel
theorem dL_law_902 : decode cL_law 902 = .ok (.invokevirtual 107, 3) := by decide +kernel
theorem dL_law_905 : decode cL_law 905 = .ok (.aload_n 2, 1) := by decide +kernel
theorem dL_law_906 : decode cL_law 906 = .ok (.aload_n 0, 1) := by decide +kernel
theorem dL_law_907 : decode cL_law 907 = .ok (.iload 4, 2) := by decide +kernel
theorem dL_law_909 : decode cL_law 909 = .ok (.iconst 1, 1) := by decide +kernel
theorem dL_law_910 : decode cL_law 910 = .ok (.iadd, 1) := by decide +kernel
theorem dL_law_911 : decode cL_law 911 = .ok (.iaload, 1) := by decide +kernel
theorem dL_law_912 : decode cL_law 912 = .ok (.invokevirtual 110, 3) := by decide +kernel
theorem dL_law_915 : decode cL_law 915 = .ok (.if_icmp .eq 497, 3) := by decide +kernel
theorem dL_law_918 : decode cL_law 918 = .ok (.iconst 0, 1) := by decide +kernel
theorem dL_law_919 : decode cL_law 919 = .ok (.ireturn, 1) := by decide +kernel
theorem dL_law_920 : decode cL_law 920 = .ok (.aload_n 1, 1) := by decide +kernel
theorem dL_law_921 : decode cL_law 921 = .ok (.aload_n 0, 1) := by decide +kernel
theorem dL_law_922 : decode cL_law 922 = .ok (.iload 4, 2) := by decide +kernel
theorem dL_law_924 : decode cL_law 924 = .ok (.iconst 1, 1) := by decide +kernel
theorem dL_law_925 : decode cL_law 925 = .ok (.iadd, 1) := by decide +kernel
theorem dL_law_926 : decode cL_law 926 = .ok (.iaload, 1) := by decide +kernel
theorem dL_law_927 : decode cL_law 927 = .ok (.invokevirtual 111, 3) := by decide +kernel
theorem dL_law_930 : decode cL_law 930 = .ok (.aload_n 2, 1) := by decide +kernel
theorem dL_law_931 : decode cL_law 931 = .ok (.aload_n 0, 1) := by decide +kernel
theorem dL_law_932 : decode cL_law 932 = .ok (.iload 4, 2) := by decide +kernel
theorem dL_law_934 : decode cL_law 934 = .ok (.iconst 1, 1) := by decide +kernel
theorem dL_law_935 : decode cL_law 935 = .ok (.iadd, 1) := by decide +kernel
theorem dL_law_936 : decode cL_law 936 = .ok (.iaload, 1) := by decide +kernel
theorem dL_law_937 : decode cL_law 937 = .ok (.invokevirtual 114, 3) := by decide +kernel
theorem dL_law_940 : decode cL_law 940 = .ok (.if_icmp .eq 472, 3) := by decide +kernel
theorem dL_law_943 : decode cL_law 943 = .ok (.iconst 0, 1) := by decide +kernel
theorem dL_law_944 : decode cL_law 944 = .ok (.ireturn, 1) := by decide +kernel
theorem dL_law_945 : decode cL_law 945 = .ok (.aload_n 1, 1) := by decide +kernel
theorem dL_law_946 : decode cL_law 946 = .ok (.aload_n 0, 1) := by decide +kernel
theorem dL_law_947 : decode cL_law 947 = .ok (.iload 4, 2) := by decide +kernel
theorem dL_law_949 : decode cL_law 949 = .ok (.iconst 1, 1) := by decide +kernel
theorem dL_law_950 : decode cL_law 950 = .ok (.iadd, 1) := by decide +kernel
theorem dL_law_951 : decode cL_law 951 = .ok (.iaload, 1) := by decide +kernel
theorem dL_law_952 : decode cL_law 952 = .ok (.aload_n 0, 1) := by decide +kernel
theorem dL_law_953 : decode cL_law 953 = .ok (.iload 4, 2) := by decide +kernel
theorem dL_law_955 : decode cL_law 955 = .ok (.iconst 2, 1) := by decide +kernel
theorem dL_law_956 : decode cL_law 956 = .ok (.iadd, 1) := by decide +kernel
theorem dL_law_957 : decode cL_law 957 = .ok (.iaload, 1) := by decide +kernel
theorem dL_law_958 : decode cL_law 958 = .ok (.invokevirtual 115, 3) := by decide +kernel
theorem dL_law_961 : decode cL_law 961 = .ok (.aload_n 2, 1) := by decide +kernel
theorem dL_law_962 : decode cL_law 962 = .ok (.aload_n 0, 1) := by decide +kernel
theorem dL_law_963 : decode cL_law 963 = .ok (.iload 4, 2) := by decide +kernel
theorem dL_law_965 : decode cL_law 965 = .ok (.iconst 1, 1) := by decide +kernel
theorem dL_law_966 : decode cL_law 966 = .ok (.iadd, 1) := by decide +kernel
theorem dL_law_967 : decode cL_law 967 = .ok (.iaload, 1) := by decide +kernel
theorem dL_law_968 : decode cL_law 968 = .ok (.aload_n 0, 1) := by decide +kernel
theorem dL_law_969 : decode cL_law 969 = .ok (.iload 4, 2) := by decide +kernel
theorem dL_law_971 : decode cL_law 971 = .ok (.iconst 2, 1) := by decide +kernel
theorem dL_law_972 : decode cL_law 972 = .ok (.iadd, 1) := by decide +kernel
theorem dL_law_973 : decode cL_law 973 = .ok (.iaload, 1) := by decide +kernel
theorem dL_law_974 : decode cL_law 974 = .ok (.invokevirtual 118, 3) := by decide +kernel
theorem dL_law_977 : decode cL_law 977 = .ok (.if_icmp .eq 435, 3) := by decide +kernel
theorem dL_law_980 : decode cL_law 980 = .ok (.iconst 0, 1) := by decide +kernel
theorem dL_law_981 : decode cL_law 981 = .ok (.ireturn, 1) := by decide +kernel
theorem dL_law_982 : decode cL_law 982 = .ok (.aload_n 1, 1) := by decide +kernel
theorem dL_law_983 : decode cL_law 983 = .ok (.aload_n 0, 1) := by decide +kernel
theorem dL_law_984 : decode cL_law 984 = .ok (.iload 4, 2) := by decide +kernel
theorem dL_law_986 : decode cL_law 986 = .ok (.iconst 1, 1) := by decide +kernel
theorem dL_law_987 : decode cL_law 987 = .ok (.iadd, 1) := by decide +kernel
theorem dL_law_988 : decode cL_law 988 = .ok (.iaload, 1) := by decide +kernel
theorem dL_law_989 : decode cL_law 989 = .ok (.aload_n 0, 1) := by decide +kernel
theorem dL_law_990 : decode cL_law 990 = .ok (.iload 4, 2) := by decide +kernel
theorem dL_law_992 : decode cL_law 992 = .ok (.iconst 2, 1) := by decide +kernel
theorem dL_law_993 : decode cL_law 993 = .ok (.iadd, 1) := by decide +kernel
theorem dL_law_994 : decode cL_law 994 = .ok (.iaload, 1) := by decide +kernel
theorem dL_law_995 : decode cL_law 995 = .ok (.aload_n 0, 1) := by decide +kernel
theorem dL_law_996 : decode cL_law 996 = .ok (.iload 4, 2) := by decide +kernel
theorem dL_law_998 : decode cL_law 998 = .ok (.iconst 3, 1) := by decide +kernel
theorem dL_law_999 : decode cL_law 999 = .ok (.iadd, 1) := by decide +kernel
theorem dL_law_1000 : decode cL_law 1000 = .ok (.iaload, 1) := by decide +kernel
theorem dL_law_1001 : decode cL_law 1001 = .ok (.invokevirtual 119, 3) := by decide +kernel
theorem dL_law_1004 : decode cL_law 1004 = .ok (.aload_n 2, 1) := by decide +kernel
theorem dL_law_1005 : decode cL_law 1005 = .ok (.aload_n 0, 1) := by decide +kernel
theorem dL_law_1006 : decode cL_law 1006 = .ok (.iload 4, 2) := by decide +kernel
theorem dL_law_1008 : decode cL_law 1008 = .ok (.iconst 1, 1) := by decide +kernel
theorem dL_law_1009 : decode cL_law 1009 = .ok (.iadd, 1) := by decide +kernel
theorem dL_law_1010 : decode cL_law 1010 = .ok (.iaload, 1) := by decide +kernel
theorem dL_law_1011 : decode cL_law 1011 = .ok (.aload_n 0, 1) := by decide +kernel
theorem dL_law_1012 : decode cL_law 1012 = .ok (.iload 4, 2) := by decide +kernel
theorem dL_law_1014 : decode cL_law 1014 = .ok (.iconst 2, 1) := by decide +kernel
theorem dL_law_1015 : decode cL_law 1015 = .ok (.iadd, 1) := by decide +kernel
theorem dL_law_1016 : decode cL_law 1016 = .ok (.iaload, 1) := by decide +kernel
theorem dL_law_1017 : decode cL_law 1017 = .ok (.aload_n 0, 1) := by decide +kernel
theorem dL_law_1018 : decode cL_law 1018 = .ok (.iload 4, 2) := by decide +kernel
theorem dL_law_1020 : decode cL_law 1020 = .ok (.iconst 3, 1) := by decide +kernel
theorem dL_law_1021 : decode cL_law 1021 = .ok (.iadd, 1) := by decide +kernel
theorem dL_law_1022 : decode cL_law 1022 = .ok (.iaload, 1) := by decide +kernel
theorem dL_law_1023 : decode cL_law 1023 = .ok (.invokevirtual 123, 3) := by decide +kernel
theorem dL_law_1026 : decode cL_law 1026 = .ok (.if_icmp .eq 386, 3) := by decide +kernel
theorem dL_law_1029 : decode cL_law 1029 = .ok (.iconst 0, 1) := by decide +kernel
theorem dL_law_1030 : decode cL_law 1030 = .ok (.ireturn, 1) := by decide +kernel
theorem dL_law_1031 : decode cL_law 1031 = .ok (.aload_n 1, 1) := by decide +kernel
theorem dL_law_1032 : decode cL_law 1032 = .ok (.aload_n 0, 1) := by decide +kernel
theorem dL_law_1033 : decode cL_law 1033 = .ok (.iload 4, 2) := by decide +kernel
theorem dL_law_1035 : decode cL_law 1035 = .ok (.iconst 1, 1) := by decide +kernel
theorem dL_law_1036 : decode cL_law 1036 = .ok (.iadd, 1) := by decide +kernel
theorem dL_law_1037 : decode cL_law 1037 = .ok (.iaload, 1) := by decide +kernel
theorem dL_law_1038 : decode cL_law 1038 = .ok (.invokevirtual 124, 3) := by decide +kernel
theorem dL_law_1041 : decode cL_law 1041 = .ok (.aload_n 2, 1) := by decide +kernel
theorem dL_law_1042 : decode cL_law 1042 = .ok (.aload_n 0, 1) := by decide +kernel
theorem dL_law_1043 : decode cL_law 1043 = .ok (.iload 4, 2) := by decide +kernel
theorem dL_law_1045 : decode cL_law 1045 = .ok (.iconst 1, 1) := by decide +kernel
theorem dL_law_1046 : decode cL_law 1046 = .ok (.iadd, 1) := by decide +kernel
theorem dL_law_1047 : decode cL_law 1047 = .ok (.iaload, 1) := by decide +kernel
theorem dL_law_1048 : decode cL_law 1048 = .ok (.invokevirtual 127, 3) := by decide +kernel
theorem dL_law_1051 : decode cL_law 1051 = .ok (.if_icmp .eq 361, 3) := by decide +kernel
theorem dL_law_1054 : decode cL_law 1054 = .ok (.iconst 0, 1) := by decide +kernel
theorem dL_law_1055 : decode cL_law 1055 = .ok (.ireturn, 1) := by decide +kernel
theorem dL_law_1056 : decode cL_law 1056 = .ok (.aload_n 1, 1) := by decide +kernel
theorem dL_law_1057 : decode cL_law 1057 = .ok (.invokevirtual 128, 3) := by decide +kernel
theorem dL_law_1060 : decode cL_law 1060 = .ok (.aload_n 2, 1) := by decide +kernel
theorem dL_law_1061 : decode cL_law 1061 = .ok (.invokevirtual 131, 3) := by decide +kernel
theorem dL_law_1064 : decode cL_law 1064 = .ok (.if_icmp .eq 348, 3) := by decide +kernel
theorem dL_law_1067 : decode cL_law 1067 = .ok (.iconst 0, 1) := by decide +kernel
theorem dL_law_1068 : decode cL_law 1068 = .ok (.ireturn, 1) := by decide +kernel
theorem dL_law_1069 : decode cL_law 1069 = .ok (.aload_n 1, 1) := by decide +kernel
theorem dL_law_1070 : decode cL_law 1070 = .ok (.aload_n 0, 1) := by decide +kernel
theorem dL_law_1071 : decode cL_law 1071 = .ok (.iload 4, 2) := by decide +kernel
theorem dL_law_1073 : decode cL_law 1073 = .ok (.iconst 1, 1) := by decide +kernel
theorem dL_law_1074 : decode cL_law 1074 = .ok (.iadd, 1) := by decide +kernel
theorem dL_law_1075 : decode cL_law 1075 = .ok (.iaload, 1) := by decide +kernel
theorem dL_law_1076 : decode cL_law 1076 = .ok (.invokevirtual 132, 3) := by decide +kernel
theorem dL_law_1079 : decode cL_law 1079 = .ok (.aload_n 2, 1) := by decide +kernel
theorem dL_law_1080 : decode cL_law 1080 = .ok (.aload_n 0, 1) := by decide +kernel
theorem dL_law_1081 : decode cL_law 1081 = .ok (.iload 4, 2) := by decide +kernel
theorem dL_law_1083 : decode cL_law 1083 = .ok (.iconst 1, 1) := by decide +kernel
theorem dL_law_1084 : decode cL_law 1084 = .ok (.iadd, 1) := by decide +kernel
theorem dL_law_1085 : decode cL_law 1085 = .ok (.iaload, 1) := by decide +kernel
theorem dL_law_1086 : decode cL_law 1086 = .ok (.invokevirtual 135, 3) := by decide +kernel
theorem dL_law_1089 : decode cL_law 1089 = .ok (.if_icmp .eq 323, 3) := by decide +kernel
theorem dL_law_1092 : decode cL_law 1092 = .ok (.iconst 0, 1) := by decide +kernel
theorem dL_law_1093 : decode cL_law 1093 = .ok (.ireturn, 1) := by decide +kernel
theorem dL_law_1094 : decode cL_law 1094 = .ok (.aload_n 1, 1) := by decide +kernel
theorem dL_law_1095 : decode cL_law 1095 = .ok (.invokevirtual 136, 3) := by decide +kernel
theorem dL_law_1098 : decode cL_law 1098 = .ok (.aload_n 2, 1) := by decide +kernel
theorem dL_law_1099 : decode cL_law 1099 = .ok (.invokevirtual 139, 3) := by decide +kernel
theorem dL_law_1102 : decode cL_law 1102 = .ok (.if_icmp .eq 310, 3) := by decide +kernel
theorem dL_law_1105 : decode cL_law 1105 = .ok (.iconst 0, 1) := by decide +kernel
theorem dL_law_1106 : decode cL_law 1106 = .ok (.ireturn, 1) := by decide +kernel
theorem dL_law_1107 : decode cL_law 1107 = .ok (.aload_n 1, 1) := by decide +kernel
theorem dL_law_1108 : decode cL_law 1108 = .ok (.invokevirtual 140, 3) := by decide +kernel
theorem dL_law_1111 : decode cL_law 1111 = .ok (.aload_n 2, 1) := by decide +kernel
theorem dL_law_1112 : decode cL_law 1112 = .ok (.invokevirtual 143, 3) := by decide +kernel
theorem dL_law_1115 : decode cL_law 1115 = .ok (.if_icmp .eq 297, 3) := by decide +kernel
theorem dL_law_1118 : decode cL_law 1118 = .ok (.iconst 0, 1) := by decide +kernel
theorem dL_law_1119 : decode cL_law 1119 = .ok (.ireturn, 1) := by decide +kernel
theorem dL_law_1120 : decode cL_law 1120 = .ok (.aload_n 1, 1) := by decide +kernel
theorem dL_law_1121 : decode cL_law 1121 = .ok (.aload_n 0, 1) := by decide +kernel
theorem dL_law_1122 : decode cL_law 1122 = .ok (.iload 4, 2) := by decide +kernel
theorem dL_law_1124 : decode cL_law 1124 = .ok (.iconst 1, 1) := by decide +kernel
theorem dL_law_1125 : decode cL_law 1125 = .ok (.iadd, 1) := by decide +kernel
theorem dL_law_1126 : decode cL_law 1126 = .ok (.iaload, 1) := by decide +kernel
theorem dL_law_1127 : decode cL_law 1127 = .ok (.aload_n 0, 1) := by decide +kernel
theorem dL_law_1128 : decode cL_law 1128 = .ok (.iload 4, 2) := by decide +kernel
theorem dL_law_1130 : decode cL_law 1130 = .ok (.iconst 2, 1) := by decide +kernel
theorem dL_law_1131 : decode cL_law 1131 = .ok (.iadd, 1) := by decide +kernel
theorem dL_law_1132 : decode cL_law 1132 = .ok (.iaload, 1) := by decide +kernel
theorem dL_law_1133 : decode cL_law 1133 = .ok (.invokevirtual 144, 3) := by decide +kernel
theorem dL_law_1136 : decode cL_law 1136 = .ok (.aload_n 2, 1) := by decide +kernel
theorem dL_law_1137 : decode cL_law 1137 = .ok (.aload_n 0, 1) := by decide +kernel
theorem dL_law_1138 : decode cL_law 1138 = .ok (.iload 4, 2) := by decide +kernel
theorem dL_law_1140 : decode cL_law 1140 = .ok (.iconst 1, 1) := by decide +kernel
theorem dL_law_1141 : decode cL_law 1141 = .ok (.iadd, 1) := by decide +kernel
theorem dL_law_1142 : decode cL_law 1142 = .ok (.iaload, 1) := by decide +kernel
theorem dL_law_1143 : decode cL_law 1143 = .ok (.aload_n 0, 1) := by decide +kernel
theorem dL_law_1144 : decode cL_law 1144 = .ok (.iload 4, 2) := by decide +kernel
theorem dL_law_1146 : decode cL_law 1146 = .ok (.iconst 2, 1) := by decide +kernel
theorem dL_law_1147 : decode cL_law 1147 = .ok (.iadd, 1) := by decide +kernel
theorem dL_law_1148 : decode cL_law 1148 = .ok (.iaload, 1) := by decide +kernel
theorem dL_law_1149 : decode cL_law 1149 = .ok (.invokevirtual 147, 3) := by decide +kernel
theorem dL_law_1152 : decode cL_law 1152 = .ok (.if_icmp .eq 260, 3) := by decide +kernel
theorem dL_law_1155 : decode cL_law 1155 = .ok (.iconst 0, 1) := by decide +kernel
theorem dL_law_1156 : decode cL_law 1156 = .ok (.ireturn, 1) := by decide +kernel
theorem dL_law_1157 : decode cL_law 1157 = .ok (.aload_n 1, 1) := by decide +kernel
theorem dL_law_1158 : decode cL_law 1158 = .ok (.aload_n 0, 1) := by decide +kernel
theorem dL_law_1159 : decode cL_law 1159 = .ok (.iload 4, 2) := by decide +kernel
theorem dL_law_1161 : decode cL_law 1161 = .ok (.iconst 1, 1) := by decide +kernel
theorem dL_law_1162 : decode cL_law 1162 = .ok (.iadd, 1) := by decide +kernel
theorem dL_law_1163 : decode cL_law 1163 = .ok (.iaload, 1) := by decide +kernel
theorem dL_law_1164 : decode cL_law 1164 = .ok (.invokevirtual 148, 3) := by decide +kernel
theorem dL_law_1167 : decode cL_law 1167 = .ok (.aload_n 2, 1) := by decide +kernel
theorem dL_law_1168 : decode cL_law 1168 = .ok (.aload_n 0, 1) := by decide +kernel
theorem dL_law_1169 : decode cL_law 1169 = .ok (.iload 4, 2) := by decide +kernel
theorem dL_law_1171 : decode cL_law 1171 = .ok (.iconst 1, 1) := by decide +kernel
theorem dL_law_1172 : decode cL_law 1172 = .ok (.iadd, 1) := by decide +kernel
theorem dL_law_1173 : decode cL_law 1173 = .ok (.iaload, 1) := by decide +kernel
theorem dL_law_1174 : decode cL_law 1174 = .ok (.invokevirtual 151, 3) := by decide +kernel
theorem dL_law_1177 : decode cL_law 1177 = .ok (.if_icmp .eq 235, 3) := by decide +kernel
theorem dL_law_1180 : decode cL_law 1180 = .ok (.iconst 0, 1) := by decide +kernel
theorem dL_law_1181 : decode cL_law 1181 = .ok (.ireturn, 1) := by decide +kernel
theorem dL_law_1182 : decode cL_law 1182 = .ok (.aload_n 1, 1) := by decide +kernel
theorem dL_law_1183 : decode cL_law 1183 = .ok (.invokevirtual 152, 3) := by decide +kernel
theorem dL_law_1186 : decode cL_law 1186 = .ok (.aload_n 2, 1) := by decide +kernel
theorem dL_law_1187 : decode cL_law 1187 = .ok (.invokevirtual 155, 3) := by decide +kernel
theorem dL_law_1190 : decode cL_law 1190 = .ok (.if_icmp .eq 222, 3) := by decide +kernel
theorem dL_law_1193 : decode cL_law 1193 = .ok (.iconst 0, 1) := by decide +kernel
theorem dL_law_1194 : decode cL_law 1194 = .ok (.ireturn, 1) := by decide +kernel
theorem dL_law_1195 : decode cL_law 1195 = .ok (.aload_n 1, 1) := by decide +kernel
theorem dL_law_1196 : decode cL_law 1196 = .ok (.aload_n 0, 1) := by decide +kernel
theorem dL_law_1197 : decode cL_law 1197 = .ok (.iload 4, 2) := by decide +kernel
theorem dL_law_1199 : decode cL_law 1199 = .ok (.iconst 1, 1) := by decide +kernel
theorem dL_law_1200 : decode cL_law 1200 = .ok (.iadd, 1) := by decide +kernel
theorem dL_law_1201 : decode cL_law 1201 = .ok (.iaload, 1) := by decide +kernel
theorem dL_law_1202 : decode cL_law 1202 = .ok (.invokevirtual 156, 3) := by decide +kernel
theorem dL_law_1205 : decode cL_law 1205 = .ok (.aload_n 2, 1) := by decide +kernel
theorem dL_law_1206 : decode cL_law 1206 = .ok (.aload_n 0, 1) := by decide +kernel
theorem dL_law_1207 : decode cL_law 1207 = .ok (.iload 4, 2) := by decide +kernel
theorem dL_law_1209 : decode cL_law 1209 = .ok (.iconst 1, 1) := by decide +kernel
theorem dL_law_1210 : decode cL_law 1210 = .ok (.iadd, 1) := by decide +kernel
theorem dL_law_1211 : decode cL_law 1211 = .ok (.iaload, 1) := by decide +kernel
theorem dL_law_1212 : decode cL_law 1212 = .ok (.invokevirtual 159, 3) := by decide +kernel
theorem dL_law_1215 : decode cL_law 1215 = .ok (.if_icmp .eq 197, 3) := by decide +kernel
theorem dL_law_1218 : decode cL_law 1218 = .ok (.iconst 0, 1) := by decide +kernel
theorem dL_law_1219 : decode cL_law 1219 = .ok (.ireturn, 1) := by decide +kernel
theorem dL_law_1220 : decode cL_law 1220 = .ok (.aload_n 1, 1) := by decide +kernel
theorem dL_law_1221 : decode cL_law 1221 = .ok (.aload_n 0, 1) := by decide +kernel
theorem dL_law_1222 : decode cL_law 1222 = .ok (.iload 4, 2) := by decide +kernel
theorem dL_law_1224 : decode cL_law 1224 = .ok (.iconst 1, 1) := by decide +kernel
theorem dL_law_1225 : decode cL_law 1225 = .ok (.iadd, 1) := by decide +kernel
theorem dL_law_1226 : decode cL_law 1226 = .ok (.iaload, 1) := by decide +kernel
theorem dL_law_1227 : decode cL_law 1227 = .ok (.invokevirtual 160, 3) := by decide +kernel
theorem dL_law_1230 : decode cL_law 1230 = .ok (.aload_n 2, 1) := by decide +kernel
theorem dL_law_1231 : decode cL_law 1231 = .ok (.aload_n 0, 1) := by decide +kernel
theorem dL_law_1232 : decode cL_law 1232 = .ok (.iload 4, 2) := by decide +kernel
theorem dL_law_1234 : decode cL_law 1234 = .ok (.iconst 1, 1) := by decide +kernel
theorem dL_law_1235 : decode cL_law 1235 = .ok (.iadd, 1) := by decide +kernel
theorem dL_law_1236 : decode cL_law 1236 = .ok (.iaload, 1) := by decide +kernel
theorem dL_law_1237 : decode cL_law 1237 = .ok (.invokevirtual 163, 3) := by decide +kernel
theorem dL_law_1240 : decode cL_law 1240 = .ok (.if_icmp .eq 172, 3) := by decide +kernel
theorem dL_law_1243 : decode cL_law 1243 = .ok (.iconst 0, 1) := by decide +kernel
theorem dL_law_1244 : decode cL_law 1244 = .ok (.ireturn, 1) := by decide +kernel
theorem dL_law_1245 : decode cL_law 1245 = .ok (.aload_n 1, 1) := by decide +kernel
theorem dL_law_1246 : decode cL_law 1246 = .ok (.invokevirtual 164, 3) := by decide +kernel
theorem dL_law_1249 : decode cL_law 1249 = .ok (.aload_n 2, 1) := by decide +kernel
theorem dL_law_1250 : decode cL_law 1250 = .ok (.invokevirtual 167, 3) := by decide +kernel
theorem dL_law_1253 : decode cL_law 1253 = .ok (.if_icmp .eq 159, 3) := by decide +kernel
theorem dL_law_1256 : decode cL_law 1256 = .ok (.iconst 0, 1) := by decide +kernel
theorem dL_law_1257 : decode cL_law 1257 = .ok (.ireturn, 1) := by decide +kernel
theorem dL_law_1258 : decode cL_law 1258 = .ok (.aload_n 1, 1) := by decide +kernel
theorem dL_law_1259 : decode cL_law 1259 = .ok (.aload_n 0, 1) := by decide +kernel
theorem dL_law_1260 : decode cL_law 1260 = .ok (.iload 4, 2) := by decide +kernel
theorem dL_law_1262 : decode cL_law 1262 = .ok (.iconst 1, 1) := by decide +kernel
theorem dL_law_1263 : decode cL_law 1263 = .ok (.iadd, 1) := by decide +kernel
theorem dL_law_1264 : decode cL_law 1264 = .ok (.iaload, 1) := by decide +kernel
theorem dL_law_1265 : decode cL_law 1265 = .ok (.invokevirtual 168, 3) := by decide +kernel
theorem dL_law_1268 : decode cL_law 1268 = .ok (.aload_n 2, 1) := by decide +kernel
theorem dL_law_1269 : decode cL_law 1269 = .ok (.aload_n 0, 1) := by decide +kernel
theorem dL_law_1270 : decode cL_law 1270 = .ok (.iload 4, 2) := by decide +kernel
theorem dL_law_1272 : decode cL_law 1272 = .ok (.iconst 1, 1) := by decide +kernel
theorem dL_law_1273 : decode cL_law 1273 = .ok (.iadd, 1) := by decide +kernel
theorem dL_law_1274 : decode cL_law 1274 = .ok (.iaload, 1) := by decide +kernel
theorem dL_law_1275 : decode cL_law 1275 = .ok (.invokevirtual 171, 3) := by decide +kernel
theorem dL_law_1278 : decode cL_law 1278 = .ok (.if_icmp .eq 134, 3) := by decide +kernel
theorem dL_law_1281 : decode cL_law 1281 = .ok (.iconst 0, 1) := by decide +kernel
theorem dL_law_1282 : decode cL_law 1282 = .ok (.ireturn, 1) := by decide +kernel
theorem dL_law_1283 : decode cL_law 1283 = .ok (.aload_n 1, 1) := by decide +kernel
theorem dL_law_1284 : decode cL_law 1284 = .ok (.aload_n 0, 1) := by decide +kernel
theorem dL_law_1285 : decode cL_law 1285 = .ok (.iload 4, 2) := by decide +kernel
theorem dL_law_1287 : decode cL_law 1287 = .ok (.iconst 1, 1) := by decide +kernel
theorem dL_law_1288 : decode cL_law 1288 = .ok (.iadd, 1) := by decide +kernel
theorem dL_law_1289 : decode cL_law 1289 = .ok (.iaload, 1) := by decide +kernel
theorem dL_law_1290 : decode cL_law 1290 = .ok (.aload_n 0, 1) := by decide +kernel
theorem dL_law_1291 : decode cL_law 1291 = .ok (.iload 4, 2) := by decide +kernel
theorem dL_law_1293 : decode cL_law 1293 = .ok (.iconst 2, 1) := by decide +kernel
theorem dL_law_1294 : decode cL_law 1294 = .ok (.iadd, 1) := by decide +kernel
theorem dL_law_1295 : decode cL_law 1295 = .ok (.iaload, 1) := by decide +kernel
theorem dL_law_1296 : decode cL_law 1296 = .ok (.aload_n 0, 1) := by decide +kernel
theorem dL_law_1297 : decode cL_law 1297 = .ok (.iload 4, 2) := by decide +kernel
theorem dL_law_1299 : decode cL_law 1299 = .ok (.iconst 3, 1) := by decide +kernel
theorem dL_law_1300 : decode cL_law 1300 = .ok (.iadd, 1) := by decide +kernel
theorem dL_law_1301 : decode cL_law 1301 = .ok (.iaload, 1) := by decide +kernel
theorem dL_law_1302 : decode cL_law 1302 = .ok (.invokevirtual 172, 3) := by decide +kernel
theorem dL_law_1305 : decode cL_law 1305 = .ok (.aload_n 2, 1) := by decide +kernel
theorem dL_law_1306 : decode cL_law 1306 = .ok (.aload_n 0, 1) := by decide +kernel
theorem dL_law_1307 : decode cL_law 1307 = .ok (.iload 4, 2) := by decide +kernel
theorem dL_law_1309 : decode cL_law 1309 = .ok (.iconst 1, 1) := by decide +kernel
theorem dL_law_1310 : decode cL_law 1310 = .ok (.iadd, 1) := by decide +kernel
theorem dL_law_1311 : decode cL_law 1311 = .ok (.iaload, 1) := by decide +kernel
theorem dL_law_1312 : decode cL_law 1312 = .ok (.aload_n 0, 1) := by decide +kernel
theorem dL_law_1313 : decode cL_law 1313 = .ok (.iload 4, 2) := by decide +kernel
theorem dL_law_1315 : decode cL_law 1315 = .ok (.iconst 2, 1) := by decide +kernel
theorem dL_law_1316 : decode cL_law 1316 = .ok (.iadd, 1) := by decide +kernel
theorem dL_law_1317 : decode cL_law 1317 = .ok (.iaload, 1) := by decide +kernel
theorem dL_law_1318 : decode cL_law 1318 = .ok (.aload_n 0, 1) := by decide +kernel
theorem dL_law_1319 : decode cL_law 1319 = .ok (.iload 4, 2) := by decide +kernel
theorem dL_law_1321 : decode cL_law 1321 = .ok (.iconst 3, 1) := by decide +kernel
theorem dL_law_1322 : decode cL_law 1322 = .ok (.iadd, 1) := by decide +kernel
theorem dL_law_1323 : decode cL_law 1323 = .ok (.iaload, 1) := by decide +kernel
theorem dL_law_1324 : decode cL_law 1324 = .ok (.invokevirtual 175, 3) := by decide +kernel
theorem dL_law_1327 : decode cL_law 1327 = .ok (.if_icmp .eq 85, 3) := by decide +kernel
theorem dL_law_1330 : decode cL_law 1330 = .ok (.iconst 0, 1) := by decide +kernel
theorem dL_law_1331 : decode cL_law 1331 = .ok (.ireturn, 1) := by decide +kernel
theorem dL_law_1332 : decode cL_law 1332 = .ok (.aload_n 1, 1) := by decide +kernel
theorem dL_law_1333 : decode cL_law 1333 = .ok (.aload_n 0, 1) := by decide +kernel
theorem dL_law_1334 : decode cL_law 1334 = .ok (.iload 4, 2) := by decide +kernel
theorem dL_law_1336 : decode cL_law 1336 = .ok (.iconst 1, 1) := by decide +kernel
theorem dL_law_1337 : decode cL_law 1337 = .ok (.iadd, 1) := by decide +kernel
theorem dL_law_1338 : decode cL_law 1338 = .ok (.iaload, 1) := by decide +kernel
theorem dL_law_1339 : decode cL_law 1339 = .ok (.invokevirtual 176, 3) := by decide +kernel
theorem dL_law_1342 : decode cL_law 1342 = .ok (.aload_n 2, 1) := by decide +kernel
theorem dL_law_1343 : decode cL_law 1343 = .ok (.aload_n 0, 1) := by decide +kernel
theorem dL_law_1344 : decode cL_law 1344 = .ok (.iload 4, 2) := by decide +kernel
theorem dL_law_1346 : decode cL_law 1346 = .ok (.iconst 1, 1) := by decide +kernel
theorem dL_law_1347 : decode cL_law 1347 = .ok (.iadd, 1) := by decide +kernel
theorem dL_law_1348 : decode cL_law 1348 = .ok (.iaload, 1) := by decide +kernel
theorem dL_law_1349 : decode cL_law 1349 = .ok (.invokevirtual 179, 3) := by decide +kernel
theorem dL_law_1352 : decode cL_law 1352 = .ok (.if_icmp .eq 60, 3) := by decide +kernel
theorem dL_law_1355 : decode cL_law 1355 = .ok (.iconst 0, 1) := by decide +kernel
theorem dL_law_1356 : decode cL_law 1356 = .ok (.ireturn, 1) := by decide +kernel
theorem dL_law_1357 : decode cL_law 1357 = .ok (.aload_n 1, 1) := by decide +kernel
theorem dL_law_1358 : decode cL_law 1358 = .ok (.aload_n 0, 1) := by decide +kernel
theorem dL_law_1359 : decode cL_law 1359 = .ok (.iload 4, 2) := by decide +kernel
theorem dL_law_1361 : decode cL_law 1361 = .ok (.iconst 1, 1) := by decide +kernel
theorem dL_law_1362 : decode cL_law 1362 = .ok (.iadd, 1) := by decide +kernel
theorem dL_law_1363 : decode cL_law 1363 = .ok (.iaload, 1) := by decide +kernel
theorem dL_law_1364 : decode cL_law 1364 = .ok (.aload_n 3, 1) := by decide +kernel
theorem dL_law_1365 : decode cL_law 1365 = .ok (.invokestatic 180, 3) := by decide +kernel
theorem dL_law_1368 : decode cL_law 1368 = .ok (.istore 5, 2) := by decide +kernel
theorem dL_law_1370 : decode cL_law 1370 = .ok (.aload_n 2, 1) := by decide +kernel
theorem dL_law_1371 : decode cL_law 1371 = .ok (.aload_n 0, 1) := by decide +kernel
theorem dL_law_1372 : decode cL_law 1372 = .ok (.iload 4, 2) := by decide +kernel
theorem dL_law_1374 : decode cL_law 1374 = .ok (.iconst 1, 1) := by decide +kernel
theorem dL_law_1375 : decode cL_law 1375 = .ok (.iadd, 1) := by decide +kernel
theorem dL_law_1376 : decode cL_law 1376 = .ok (.iaload, 1) := by decide +kernel
theorem dL_law_1377 : decode cL_law 1377 = .ok (.invokevirtual 183, 3) := by decide +kernel
theorem dL_law_1380 : decode cL_law 1380 = .ok (.lstore 6, 2) := by decide +kernel
theorem dL_law_1382 : decode cL_law 1382 = .ok (.aload_n 2, 1) := by decide +kernel
theorem dL_law_1383 : decode cL_law 1383 = .ok (.invokevirtual 76, 3) := by decide +kernel
theorem dL_law_1386 : decode cL_law 1386 = .ok (.iload 5, 2) := by decide +kernel
theorem dL_law_1388 : decode cL_law 1388 = .ok (.if_icmp .eq 5, 3) := by decide +kernel
theorem dL_law_1391 : decode cL_law 1391 = .ok (.iconst 0, 1) := by decide +kernel
theorem dL_law_1392 : decode cL_law 1392 = .ok (.ireturn, 1) := by decide +kernel
theorem dL_law_1393 : decode cL_law 1393 = .ok (.iload 5, 2) := by decide +kernel
theorem dL_law_1395 : decode cL_law 1395 = .ok (.ifCond .ne 14, 3) := by decide +kernel
theorem dL_law_1398 : decode cL_law 1398 = .ok (.aload_n 3, 1) := by decide +kernel
theorem dL_law_1399 : decode cL_law 1399 = .ok (.iconst 0, 1) := by decide +kernel
theorem dL_law_1400 : decode cL_law 1400 = .ok (.laload, 1) := by decide +kernel
theorem dL_law_1401 : decode cL_law 1401 = .ok (.lload 6, 2) := by decide +kernel
theorem dL_law_1403 : decode cL_law 1403 = .ok (.lcmp, 1) := by decide +kernel
theorem dL_law_1404 : decode cL_law 1404 = .ok (.ifCond .eq 5, 3) := by decide +kernel
theorem dL_law_1407 : decode cL_law 1407 = .ok (.iconst 0, 1) := by decide +kernel
theorem dL_law_1408 : decode cL_law 1408 = .ok (.ireturn, 1) := by decide +kernel
theorem dL_law_1409 : decode cL_law 1409 = .ok (.goto 3, 3) := by decide +kernel
theorem dL_law_1412 : decode cL_law 1412 = .ok (.iinc 4 7, 3) := by decide +kernel
theorem dL_law_1415 : decode cL_law 1415 = .ok (.goto (-1392), 3) := by decide +kernel
theorem dL_law_1418 : decode cL_law 1418 = .ok (.iconst 1, 1) := by decide +kernel
theorem dL_law_1419 : decode cL_law 1419 = .ok (.ireturn, 1) := by decide +kernel
