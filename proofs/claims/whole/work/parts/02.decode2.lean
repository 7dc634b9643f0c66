theorem dX6_arranges_120 : decode cX6_arranges 120 = .ok (.lstore_n 1, 1) := by decide +kernel
theorem dX6_arranges_121 : decode cX6_arranges 121 = .ok (.aload_n 0, 1) := by decide +kernel
theorem dX6_arranges_122 : decode cX6_arranges 122 = .ok (.getfield 37, 3) := by decide +kernel
theorem dX6_arranges_125 : decode cX6_arranges 125 = .ok (.getfield 247, 3) := by decide +kernel
theorem dX6_arranges_128 : decode cX6_arranges 128 = .ok (.lstore_n 3, 1) := by decide +kernel
theorem dX6_arranges_129 : decode cX6_arranges 129 = .ok (.aload_n 0, 1) := by decide +kernel
theorem dX6_arranges_130 : decode cX6_arranges 130 = .ok (.invokevirtual 293, 3) := by decide +kernel
theorem dX6_arranges_133 : decode cX6_arranges 133 = .ok (.istore 5, 2) := by decide +kernel
theorem dX6_arranges_135 : decode cX6_arranges 135 = .ok (.iinc 6 1, 3) := by decide +kernel
theorem dX6_arranges_138 : decode cX6_arranges 138 = .ok (.goto (-77), 3) := by decide +kernel
theorem dX6_arranges_141 : decode cX6_arranges 141 = .ok (.aload_n 0, 1) := by decide +kernel
theorem dX6_arranges_142 : decode cX6_arranges 142 = .ok (.lload_n 1, 1) := by decide +kernel
theorem dX6_arranges_143 : decode cX6_arranges 143 = .ok (.lload_n 3, 1) := by decide +kernel
theorem dX6_arranges_144 : decode cX6_arranges 144 = .ok (.invokevirtual 297, 3) := by decide +kernel
theorem dX6_arranges_147 : decode cX6_arranges 147 = .ok (.ireturn, 1) := by decide +kernel
theorem dX6_fits_0 : decode cX6_fits 0 = .ok (.iload_n 1, 1) := by decide +kernel
theorem dX6_fits_1 : decode cX6_fits 1 = .ok (.invokestatic 300, 3) := by decide +kernel
theorem dX6_fits_4 : decode cX6_fits 4 = .ok (.ifCond .eq 13, 3) := by decide +kernel
theorem dX6_fits_7 : decode cX6_fits 7 = .ok (.aload_n 0, 1) := by decide +kernel
theorem dX6_fits_8 : decode cX6_fits 8 = .ok (.getfield 10, 3) := by decide +kernel
theorem dX6_fits_11 : decode cX6_fits 11 = .ok (.getfield 65, 3) := by decide +kernel
theorem dX6_fits_14 : decode cX6_fits 14 = .ok (.ifCond .ne 5, 3) := by decide +kernel
theorem dX6_fits_17 : decode cX6_fits 17 = .ok (.iconst (-1), 1) := by decide +kernel
theorem dX6_fits_18 : decode cX6_fits 18 = .ok (.ireturn, 1) := by decide +kernel
theorem dX6_fits_19 : decode cX6_fits 19 = .ok (.aload_n 0, 1) := by decide +kernel
theorem dX6_fits_20 : decode cX6_fits 20 = .ok (.getfield 34, 3) := by decide +kernel
theorem dX6_fits_23 : decode cX6_fits 23 = .ok (.aload_n 0, 1) := by decide +kernel
theorem dX6_fits_24 : decode cX6_fits 24 = .ok (.getfield 10, 3) := by decide +kernel
theorem dX6_fits_27 : decode cX6_fits 27 = .ok (.invokevirtual 130, 3) := by decide +kernel
theorem dX6_fits_30 : decode cX6_fits 30 = .ok (.bipush 9, 2) := by decide +kernel
theorem dX6_fits_32 : decode cX6_fits 32 = .ok (.istore_n 2, 1) := by decide +kernel
theorem dX6_fits_33 : decode cX6_fits 33 = .ok (.iload_n 2, 1) := by decide +kernel
theorem dX6_fits_34 : decode cX6_fits 34 = .ok (.ifCond .lt 98, 3) := by decide +kernel
theorem dX6_fits_37 : decode cX6_fits 37 = .ok (.iconst 0, 1) := by decide +kernel
theorem dX6_fits_38 : decode cX6_fits 38 = .ok (.istore_n 3, 1) := by decide +kernel
theorem dX6_fits_39 : decode cX6_fits 39 = .ok (.iload_n 3, 1) := by decide +kernel
theorem dX6_fits_40 : decode cX6_fits 40 = .ok (.aload_n 0, 1) := by decide +kernel
theorem dX6_fits_41 : decode cX6_fits 41 = .ok (.getfield 10, 3) := by decide +kernel
theorem dX6_fits_44 : decode cX6_fits 44 = .ok (.getfield 65, 3) := by decide +kernel
theorem dX6_fits_47 : decode cX6_fits 47 = .ok (.if_icmp .ge 31, 3) := by decide +kernel
theorem dX6_fits_50 : decode cX6_fits 50 = .ok (.aload_n 0, 1) := by decide +kernel
theorem dX6_fits_51 : decode cX6_fits 51 = .ok (.getfield 34, 3) := by decide +kernel
theorem dX6_fits_54 : decode cX6_fits 54 = .ok (.getfield 100, 3) := by decide +kernel
theorem dX6_fits_57 : decode cX6_fits 57 = .ok (.iload_n 3, 1) := by decide +kernel
theorem dX6_fits_58 : decode cX6_fits 58 = .ok (.aload_n 0, 1) := by decide +kernel
theorem dX6_fits_59 : decode cX6_fits 59 = .ok (.getfield 10, 3) := by decide +kernel
theorem dX6_fits_62 : decode cX6_fits 62 = .ok (.getfield 100, 3) := by decide +kernel
theorem dX6_fits_65 : decode cX6_fits 65 = .ok (.iload_n 3, 1) := by decide +kernel
theorem dX6_fits_66 : decode cX6_fits 66 = .ok (.iaload, 1) := by decide +kernel
theorem dX6_fits_67 : decode cX6_fits 67 = .ok (.iload_n 2, 1) := by decide +kernel
theorem dX6_fits_68 : decode cX6_fits 68 = .ok (.invokestatic 303, 3) := by decide +kernel
theorem dX6_fits_71 : decode cX6_fits 71 = .ok (.iastore, 1) := by decide +kernel
theorem dX6_fits_72 : decode cX6_fits 72 = .ok (.iinc 3 1, 3) := by decide +kernel
theorem dX6_fits_75 : decode cX6_fits 75 = .ok (.goto (-36), 3) := by decide +kernel
theorem dX6_fits_78 : decode cX6_fits 78 = .ok (.aload_n 0, 1) := by decide +kernel
theorem dX6_fits_79 : decode cX6_fits 79 = .ok (.invokevirtual 275, 3) := by decide +kernel
theorem dX6_fits_82 : decode cX6_fits 82 = .ok (.aload_n 0, 1) := by decide +kernel
theorem dX6_fits_83 : decode cX6_fits 83 = .ok (.getfield 37, 3) := by decide +kernel
theorem dX6_fits_86 : decode cX6_fits 86 = .ok (.iload_n 1, 1) := by decide +kernel
theorem dX6_fits_87 : decode cX6_fits 87 = .ok (.i2l, 1) := by decide +kernel
theorem dX6_fits_88 : decode cX6_fits 88 = .ok (.lconst 1, 1) := by decide +kernel
theorem dX6_fits_89 : decode cX6_fits 89 = .ok (.invokevirtual 278, 3) := by decide +kernel
theorem dX6_fits_92 : decode cX6_fits 92 = .ok (.ifCond .lt 34, 3) := by decide +kernel
theorem dX6_fits_95 : decode cX6_fits 95 = .ok (.aload_n 0, 1) := by decide +kernel
theorem dX6_fits_96 : decode cX6_fits 96 = .ok (.getfield 50, 3) := by decide +kernel
theorem dX6_fits_99 : decode cX6_fits 99 = .ok (.iconst 0, 1) := by decide +kernel
theorem dX6_fits_100 : decode cX6_fits 100 = .ok (.putfield 157, 3) := by decide +kernel
theorem dX6_fits_103 : decode cX6_fits 103 = .ok (.aload_n 0, 1) := by decide +kernel
theorem dX6_fits_104 : decode cX6_fits 104 = .ok (.getfield 50, 3) := by decide +kernel
theorem dX6_fits_107 : decode cX6_fits 107 = .ok (.aload_n 0, 1) := by decide +kernel
theorem dX6_fits_108 : decode cX6_fits 108 = .ok (.getfield 37, 3) := by decide +kernel
theorem dX6_fits_111 : decode cX6_fits 111 = .ok (.getfield 250, 3) := by decide +kernel
theorem dX6_fits_114 : decode cX6_fits 114 = .ok (.aload_n 0, 1) := by decide +kernel
theorem dX6_fits_115 : decode cX6_fits 115 = .ok (.getfield 37, 3) := by decide +kernel
theorem dX6_fits_118 : decode cX6_fits 118 = .ok (.getfield 247, 3) := by decide +kernel
theorem dX6_fits_121 : decode cX6_fits 121 = .ok (.invokevirtual 172, 3) := by decide +kernel
theorem dX6_fits_124 : decode cX6_fits 124 = .ok (.iload_n 2, 1) := by decide +kernel
theorem dX6_fits_125 : decode cX6_fits 125 = .ok (.ireturn, 1) := by decide +kernel
theorem dX6_fits_126 : decode cX6_fits 126 = .ok (.iinc 2 (-1), 3) := by decide +kernel
theorem dX6_fits_129 : decode cX6_fits 129 = .ok (.goto (-96), 3) := by decide +kernel
theorem dX6_fits_132 : decode cX6_fits 132 = .ok (.bipush (-2), 2) := by decide +kernel
theorem dX6_fits_134 : decode cX6_fits 134 = .ok (.ireturn, 1) := by decide +kernel
theorem dX6_chance_0 : decode cX6_chance 0 = .ok (.iload_n 2, 1) := by decide +kernel
theorem dX6_chance_1 : decode cX6_chance 1 = .ok (.iconst 1, 1) := by decide +kernel
theorem dX6_chance_2 : decode cX6_chance 2 = .ok (.bipush 40, 2) := by decide +kernel
theorem dX6_chance_4 : decode cX6_chance 4 = .ok (.invokestatic 77, 3) := by decide +kernel
theorem dX6_chance_7 : decode cX6_chance 7 = .ok (.ifCond .eq 20, 3) := by decide +kernel
theorem dX6_chance_10 : decode cX6_chance 10 = .ok (.iload_n 3, 1) := by decide +kernel
theorem dX6_chance_11 : decode cX6_chance 11 = .ok (.invokestatic 300, 3) := by decide +kernel
theorem dX6_chance_14 : decode cX6_chance 14 = .ok (.ifCond .eq 13, 3) := by decide +kernel
theorem dX6_chance_17 : decode cX6_chance 17 = .ok (.aload_n 0, 1) := by decide +kernel
theorem dX6_chance_18 : decode cX6_chance 18 = .ok (.getfield 10, 3) := by decide +kernel
theorem dX6_chance_21 : decode cX6_chance 21 = .ok (.getfield 65, 3) := by decide +kernel
theorem dX6_chance_24 : decode cX6_chance 24 = .ok (.ifCond .ne 5, 3) := by decide +kernel
theorem dX6_chance_27 : decode cX6_chance 27 = .ok (.iconst (-1), 1) := by decide +kernel
theorem dX6_chance_28 : decode cX6_chance 28 = .ok (.ireturn, 1) := by decide +kernel
theorem dX6_chance_29 : decode cX6_chance 29 = .ok (.aload_n 0, 1) := by decide +kernel
theorem dX6_chance_30 : decode cX6_chance 30 = .ok (.getfield 34, 3) := by decide +kernel
theorem dX6_chance_33 : decode cX6_chance 33 = .ok (.aload_n 0, 1) := by decide +kernel
theorem dX6_chance_34 : decode cX6_chance 34 = .ok (.getfield 10, 3) := by decide +kernel
theorem dX6_chance_37 : decode cX6_chance 37 = .ok (.invokevirtual 130, 3) := by decide +kernel
theorem dX6_chance_40 : decode cX6_chance 40 = .ok (.iload_n 1, 1) := by decide +kernel
theorem dX6_chance_41 : decode cX6_chance 41 = .ok (.istore 4, 2) := by decide +kernel
theorem dX6_chance_43 : decode cX6_chance 43 = .ok (.iconst 0, 1) := by decide +kernel
theorem dX6_chance_44 : decode cX6_chance 44 = .ok (.istore 5, 2) := by decide +kernel
theorem dX6_chance_46 : decode cX6_chance 46 = .ok (.ldc2_w 308, 3) := by decide +kernel
theorem dX6_chance_49 : decode cX6_chance 49 = .ok (.lstore 6, 2) := by decide +kernel
theorem dX6_chance_51 : decode cX6_chance 51 = .ok (.lconst 1, 1) := by decide +kernel
theorem dX6_chance_52 : decode cX6_chance 52 = .ok (.lstore 8, 2) := by decide +kernel
theorem dX6_chance_54 : decode cX6_chance 54 = .ok (.iconst 0, 1) := by decide +kernel
theorem dX6_chance_55 : decode cX6_chance 55 = .ok (.istore 10, 2) := by decide +kernel
theorem dX6_chance_57 : decode cX6_chance 57 = .ok (.iload 10, 2) := by decide +kernel
theorem dX6_chance_59 : decode cX6_chance 59 = .ok (.iload_n 2, 1) := by decide +kernel
theorem dX6_chance_60 : decode cX6_chance 60 = .ok (.if_icmp .ge 112, 3) := by decide +kernel
theorem dX6_chance_63 : decode cX6_chance 63 = .ok (.iconst 0, 1) := by decide +kernel
theorem dX6_chance_64 : decode cX6_chance 64 = .ok (.istore 11, 2) := by decide +kernel
theorem dX6_chance_66 : decode cX6_chance 66 = .ok (.iload 11, 2) := by decide +kernel
theorem dX6_chance_68 : decode cX6_chance 68 = .ok (.aload_n 0, 1) := by decide +kernel
theorem dX6_chance_69 : decode cX6_chance 69 = .ok (.getfield 10, 3) := by decide +kernel
theorem dX6_chance_72 : decode cX6_chance 72 = .ok (.getfield 65, 3) := by decide +kernel
theorem dX6_chance_75 : decode cX6_chance 75 = .ok (.if_icmp .ge 39, 3) := by decide +kernel
theorem dX6_chance_78 : decode cX6_chance 78 = .ok (.iload 4, 2) := by decide +kernel
theorem dX6_chance_80 : decode cX6_chance 80 = .ok (.ldc_w 310, 3) := by decide +kernel
theorem dX6_chance_83 : decode cX6_chance 83 = .ok (.imul, 1) := by decide +kernel
theorem dX6_chance_84 : decode cX6_chance 84 = .ok (.sipush 12345, 3) := by decide +kernel
theorem dX6_chance_87 : decode cX6_chance 87 = .ok (.iadd, 1) := by decide +kernel
theorem dX6_chance_88 : decode cX6_chance 88 = .ok (.istore 4, 2) := by decide +kernel
theorem dX6_chance_90 : decode cX6_chance 90 = .ok (.aload_n 0, 1) := by decide +kernel
theorem dX6_chance_91 : decode cX6_chance 91 = .ok (.getfield 34, 3) := by decide +kernel
theorem dX6_chance_94 : decode cX6_chance 94 = .ok (.getfield 100, 3) := by decide +kernel
theorem dX6_chance_97 : decode cX6_chance 97 = .ok (.iload 11, 2) := by decide +kernel
theorem dX6_chance_99 : decode cX6_chance 99 = .ok (.iload 4, 2) := by decide +kernel
theorem dX6_chance_101 : decode cX6_chance 101 = .ok (.bipush 16, 2) := by decide +kernel
theorem dX6_chance_103 : decode cX6_chance 103 = .ok (.iushr, 1) := by decide +kernel
theorem dX6_chance_104 : decode cX6_chance 104 = .ok (.bipush 10, 2) := by decide +kernel
theorem dX6_chance_106 : decode cX6_chance 106 = .ok (.irem, 1) := by decide +kernel
theorem dX6_chance_107 : decode cX6_chance 107 = .ok (.iastore, 1) := by decide +kernel
theorem dX6_chance_108 : decode cX6_chance 108 = .ok (.iinc 11 1, 3) := by decide +kernel
theorem dX6_chance_111 : decode cX6_chance 111 = .ok (.goto (-45), 3) := by decide +kernel
theorem dX6_chance_114 : decode cX6_chance 114 = .ok (.aload_n 0, 1) := by decide +kernel
theorem dX6_chance_115 : decode cX6_chance 115 = .ok (.invokevirtual 275, 3) := by decide +kernel
theorem dX6_chance_118 : decode cX6_chance 118 = .ok (.aload_n 0, 1) := by decide +kernel
theorem dX6_chance_119 : decode cX6_chance 119 = .ok (.getfield 37, 3) := by decide +kernel
theorem dX6_chance_122 : decode cX6_chance 122 = .ok (.iload_n 3, 1) := by decide +kernel
theorem dX6_chance_123 : decode cX6_chance 123 = .ok (.i2l, 1) := by decide +kernel
theorem dX6_chance_124 : decode cX6_chance 124 = .ok (.lconst 1, 1) := by decide +kernel
theorem dX6_chance_125 : decode cX6_chance 125 = .ok (.invokevirtual 278, 3) := by decide +kernel
theorem dX6_chance_128 : decode cX6_chance 128 = .ok (.ifCond .lt 6, 3) := by decide +kernel
theorem dX6_chance_131 : decode cX6_chance 131 = .ok (.iinc 5 1, 3) := by decide +kernel
theorem dX6_chance_134 : decode cX6_chance 134 = .ok (.aload_n 0, 1) := by decide +kernel
theorem dX6_chance_135 : decode cX6_chance 135 = .ok (.getfield 37, 3) := by decide +kernel
theorem dX6_chance_138 : decode cX6_chance 138 = .ok (.lload 6, 2) := by decide +kernel
theorem dX6_chance_140 : decode cX6_chance 140 = .ok (.lload 8, 2) := by decide +kernel
theorem dX6_chance_142 : decode cX6_chance 142 = .ok (.invokevirtual 278, 3) := by decide +kernel
theorem dX6_chance_145 : decode cX6_chance 145 = .ok (.ifCond .ge 21, 3) := by decide +kernel
theorem dX6_chance_148 : decode cX6_chance 148 = .ok (.aload_n 0, 1) := by decide +kernel
theorem dX6_chance_149 : decode cX6_chance 149 = .ok (.getfield 37, 3) := by decide +kernel
theorem dX6_chance_152 : decode cX6_chance 152 = .ok (.getfield 250, 3) := by decide +kernel
theorem dX6_chance_155 : decode cX6_chance 155 = .ok (.lstore 6, 2) := by decide +kernel
theorem dX6_chance_157 : decode cX6_chance 157 = .ok (.aload_n 0, 1) := by decide +kernel
theorem dX6_chance_158 : decode cX6_chance 158 = .ok (.getfield 37, 3) := by decide +kernel
theorem dX6_chance_161 : decode cX6_chance 161 = .ok (.getfield 247, 3) := by decide +kernel
theorem dX6_chance_164 : decode cX6_chance 164 = .ok (.lstore 8, 2) := by decide +kernel
theorem dX6_chance_166 : decode cX6_chance 166 = .ok (.iinc 10 1, 3) := by decide +kernel
theorem dX6_chance_169 : decode cX6_chance 169 = .ok (.goto (-112), 3) := by decide +kernel
theorem dX6_chance_172 : decode cX6_chance 172 = .ok (.aload_n 0, 1) := by decide +kernel
theorem dX6_chance_173 : decode cX6_chance 173 = .ok (.getfield 50, 3) := by decide +kernel
theorem dX6_chance_176 : decode cX6_chance 176 = .ok (.iconst 0, 1) := by decide +kernel
theorem dX6_chance_177 : decode cX6_chance 177 = .ok (.putfield 157, 3) := by decide +kernel
theorem dX6_chance_180 : decode cX6_chance 180 = .ok (.aload_n 0, 1) := by decide +kernel
theorem dX6_chance_181 : decode cX6_chance 181 = .ok (.getfield 50, 3) := by decide +kernel
theorem dX6_chance_184 : decode cX6_chance 184 = .ok (.lload 6, 2) := by decide +kernel
theorem dX6_chance_186 : decode cX6_chance 186 = .ok (.lload 8, 2) := by decide +kernel
theorem dX6_chance_188 : decode cX6_chance 188 = .ok (.invokevirtual 172, 3) := by decide +kernel
theorem dX6_chance_191 : decode cX6_chance 191 = .ok (.iload 5, 2) := by decide +kernel
theorem dX6_chance_193 : decode cX6_chance 193 = .ok (.ireturn, 1) := by decide +kernel
theorem dX6_count_0 : decode cX6_count 0 = .ok (.iload_n 1, 1) := by decide +kernel
theorem dX6_count_1 : decode cX6_count 1 = .ok (.tableswitch 140 0 8 #[51, 59, 70, 78, 93, 108, 116, 124, 132], 51) := by decide +kernel
theorem dX6_count_52 : decode cX6_count 52 = .ok (.aload_n 0, 1) := by decide +kernel
theorem dX6_count_53 : decode cX6_count 53 = .ok (.getfield 10, 3) := by decide +kernel
theorem dX6_count_56 : decode cX6_count 56 = .ok (.getfield 65, 3) := by decide +kernel
theorem dX6_count_59 : decode cX6_count 59 = .ok (.ireturn, 1) := by decide +kernel
theorem dX6_count_60 : decode cX6_count 60 = .ok (.aload_n 0, 1) := by decide +kernel
theorem dX6_count_61 : decode cX6_count 61 = .ok (.getfield 10, 3) := by decide +kernel
theorem dX6_count_64 : decode cX6_count 64 = .ok (.invokevirtual 120, 3) := by decide +kernel
theorem dX6_count_67 : decode cX6_count 67 = .ok (.invokestatic 124, 3) := by decide +kernel
theorem dX6_count_70 : decode cX6_count 70 = .ok (.ireturn, 1) := by decide +kernel
theorem dX6_count_71 : decode cX6_count 71 = .ok (.aload_n 0, 1) := by decide +kernel
theorem dX6_count_72 : decode cX6_count 72 = .ok (.getfield 10, 3) := by decide +kernel
theorem dX6_count_75 : decode cX6_count 75 = .ok (.invokevirtual 311, 3) := by decide +kernel
theorem dX6_count_78 : decode cX6_count 78 = .ok (.ireturn, 1) := by decide +kernel
theorem dX6_count_79 : decode cX6_count 79 = .ok (.aload_n 0, 1) := by decide +kernel
theorem dX6_count_80 : decode cX6_count 80 = .ok (.getfield 10, 3) := by decide +kernel
theorem dX6_count_83 : decode cX6_count 83 = .ok (.aload_n 0, 1) := by decide +kernel
theorem dX6_count_84 : decode cX6_count 84 = .ok (.getfield 10, 3) := by decide +kernel
theorem dX6_count_87 : decode cX6_count 87 = .ok (.invokevirtual 120, 3) := by decide +kernel
theorem dX6_count_90 : decode cX6_count 90 = .ok (.invokevirtual 314, 3) := by decide +kernel
theorem dX6_count_93 : decode cX6_count 93 = .ok (.ireturn, 1) := by decide +kernel
theorem dX6_count_94 : decode cX6_count 94 = .ok (.aload_n 0, 1) := by decide +kernel
theorem dX6_count_95 : decode cX6_count 95 = .ok (.getfield 21, 3) := by decide +kernel
theorem dX6_count_98 : decode cX6_count 98 = .ok (.invokevirtual 241, 3) := by decide +kernel
theorem dX6_count_101 : decode cX6_count 101 = .ok (.aload_n 0, 1) := by decide +kernel
theorem dX6_count_102 : decode cX6_count 102 = .ok (.getfield 21, 3) := by decide +kernel
theorem dX6_count_105 : decode cX6_count 105 = .ok (.getfield 195, 3) := by decide +kernel
theorem dX6_count_108 : decode cX6_count 108 = .ok (.ireturn, 1) := by decide +kernel
theorem dX6_count_109 : decode cX6_count 109 = .ok (.aload_n 0, 1) := by decide +kernel
theorem dX6_count_110 : decode cX6_count 110 = .ok (.getfield 50, 3) := by decide +kernel
theorem dX6_count_113 : decode cX6_count 113 = .ok (.getfield 157, 3) := by decide +kernel
theorem dX6_count_116 : decode cX6_count 116 = .ok (.ireturn, 1) := by decide +kernel
theorem dX6_count_117 : decode cX6_count 117 = .ok (.aload_n 0, 1) := by decide +kernel
theorem dX6_count_118 : decode cX6_count 118 = .ok (.getfield 43, 3) := by decide +kernel
theorem dX6_count_121 : decode cX6_count 121 = .ok (.getfield 140, 3) := by decide +kernel
theorem dX6_count_124 : decode cX6_count 124 = .ok (.ireturn, 1) := by decide +kernel
theorem dX6_count_125 : decode cX6_count 125 = .ok (.aload_n 0, 1) := by decide +kernel
theorem dX6_count_126 : decode cX6_count 126 = .ok (.getfield 10, 3) := by decide +kernel
theorem dX6_count_129 : decode cX6_count 129 = .ok (.getfield 81, 3) := by decide +kernel
theorem dX6_count_132 : decode cX6_count 132 = .ok (.ireturn, 1) := by decide +kernel
theorem dX6_count_133 : decode cX6_count 133 = .ok (.aload_n 0, 1) := by decide +kernel
theorem dX6_count_134 : decode cX6_count 134 = .ok (.getfield 10, 3) := by decide +kernel
theorem dX6_count_137 : decode cX6_count 137 = .ok (.getfield 84, 3) := by decide +kernel
theorem dX6_count_140 : decode cX6_count 140 = .ok (.ireturn, 1) := by decide +kernel
theorem dX6_count_141 : decode cX6_count 141 = .ok (.iconst (-1), 1) := by decide +kernel
theorem dX6_count_142 : decode cX6_count 142 = .ok (.ireturn, 1) := by decide +kernel
theorem dX6_row_0 : decode cX6_row 0 = .ok (.iload_n 1, 1) := by decide +kernel
theorem dX6_row_1 : decode cX6_row 1 = .ok (.ifCond .lt 26, 3) := by decide +kernel
theorem dX6_row_4 : decode cX6_row 4 = .ok (.iload_n 1, 1) := by decide +kernel
theorem dX6_row_5 : decode cX6_row 5 = .ok (.aload_n 0, 1) := by decide +kernel
theorem dX6_row_6 : decode cX6_row 6 = .ok (.getfield 50, 3) := by decide +kernel
theorem dX6_row_9 : decode cX6_row 9 = .ok (.getfield 157, 3) := by decide +kernel
theorem dX6_row_12 : decode cX6_row 12 = .ok (.if_icmp .ge 15, 3) := by decide +kernel
theorem dX6_row_15 : decode cX6_row 15 = .ok (.iload_n 1, 1) := by decide +kernel
theorem dX6_row_16 : decode cX6_row 16 = .ok (.aload_n 0, 1) := by decide +kernel
theorem dX6_row_17 : decode cX6_row 17 = .ok (.getfield 50, 3) := by decide +kernel
theorem dX6_row_20 : decode cX6_row 20 = .ok (.getfield 317, 3) := by decide +kernel
theorem dX6_row_23 : decode cX6_row 23 = .ok (.arraylength, 1) := by decide +kernel
theorem dX6_row_24 : decode cX6_row 24 = .ok (.if_icmp .lt 11, 3) := by decide +kernel
theorem dX6_row_27 : decode cX6_row 27 = .ok (.new 150, 3) := by decide +kernel
theorem dX6_row_30 : decode cX6_row 30 = .ok (.dup, 1) := by decide +kernel
theorem dX6_row_31 : decode cX6_row 31 = .ok (.invokespecial 152, 3) := by decide +kernel
theorem dX6_row_34 : decode cX6_row 34 = .ok (.athrow, 1) := by decide +kernel
theorem dX6_row_35 : decode cX6_row 35 = .ok (.aload_n 0, 1) := by decide +kernel
theorem dX6_row_36 : decode cX6_row 36 = .ok (.getfield 50, 3) := by decide +kernel
theorem dX6_row_39 : decode cX6_row 39 = .ok (.getfield 317, 3) := by decide +kernel
theorem dX6_row_42 : decode cX6_row 42 = .ok (.iload_n 1, 1) := by decide +kernel
theorem dX6_row_43 : decode cX6_row 43 = .ok (.laload, 1) := by decide +kernel
theorem dX6_row_44 : decode cX6_row 44 = .ok (.lreturn, 1) := by decide +kernel
theorem dX6_within_0 : decode cX6_within 0 = .ok (.iload_n 0, 1) := by decide +kernel
theorem dX6_within_1 : decode cX6_within 1 = .ok (.iload_n 1, 1) := by decide +kernel
theorem dX6_within_2 : decode cX6_within 2 = .ok (.if_icmp .lt 12, 3) := by decide +kernel
theorem dX6_within_5 : decode cX6_within 5 = .ok (.iload_n 0, 1) := by decide +kernel
theorem dX6_within_6 : decode cX6_within 6 = .ok (.iload_n 2, 1) := by decide +kernel
theorem dX6_within_7 : decode cX6_within 7 = .ok (.if_icmp .gt 7, 3) := by decide +kernel
theorem dX6_within_10 : decode cX6_within 10 = .ok (.iconst 1, 1) := by decide +kernel
theorem dX6_within_11 : decode cX6_within 11 = .ok (.goto 4, 3) := by decide +kernel
theorem dX6_within_14 : decode cX6_within 14 = .ok (.iconst 0, 1) := by decide +kernel
theorem dX6_within_15 : decode cX6_within 15 = .ok (.ireturn, 1) := by decide +kernel
theorem dX6_isLoad_0 : decode cX6_isLoad 0 = .ok (.iload_n 0, 1) := by decide +kernel
theorem dX6_isLoad_1 : decode cX6_isLoad 1 = .ok (.iconst 0, 1) := by decide +kernel
theorem dX6_isLoad_2 : decode cX6_isLoad 2 = .ok (.sipush 300, 3) := by decide +kernel
theorem dX6_isLoad_5 : decode cX6_isLoad 5 = .ok (.invokestatic 77, 3) := by decide +kernel
theorem dX6_isLoad_8 : decode cX6_isLoad 8 = .ok (.ireturn, 1) := by decide +kernel
theorem dX6_fair_0 : decode cX6_fair 0 = .ok (.iload_n 0, 1) := by decide +kernel
theorem dX6_fair_1 : decode cX6_fair 1 = .ok (.iconst 1, 1) := by decide +kernel
theorem dX6_fair_2 : decode cX6_fair 2 = .ok (.iconst 5, 1) := by decide +kernel
theorem dX6_fair_3 : decode cX6_fair 3 = .ok (.invokestatic 77, 3) := by decide +kernel
theorem dX6_fair_6 : decode cX6_fair 6 = .ok (.ifCond .eq 50, 3) := by decide +kernel
theorem dX6_fair_9 : decode cX6_fair 9 = .ok (.iload_n 1, 1) := by decide +kernel
theorem dX6_fair_10 : decode cX6_fair 10 = .ok (.iconst 0, 1) := by decide +kernel
theorem dX6_fair_11 : decode cX6_fair 11 = .ok (.bipush 9, 2) := by decide +kernel
theorem dX6_fair_13 : decode cX6_fair 13 = .ok (.invokestatic 77, 3) := by decide +kernel
theorem dX6_fair_16 : decode cX6_fair 16 = .ok (.ifCond .eq 40, 3) := by decide +kernel
theorem dX6_fair_19 : decode cX6_fair 19 = .ok (.iload_n 2, 1) := by decide +kernel
theorem dX6_fair_20 : decode cX6_fair 20 = .ok (.iconst 1, 1) := by decide +kernel
theorem dX6_fair_21 : decode cX6_fair 21 = .ok (.bipush 30, 2) := by decide +kernel
theorem dX6_fair_23 : decode cX6_fair 23 = .ok (.invokestatic 77, 3) := by decide +kernel
theorem dX6_fair_26 : decode cX6_fair 26 = .ok (.ifCond .eq 30, 3) := by decide +kernel
theorem dX6_fair_29 : decode cX6_fair 29 = .ok (.iload_n 3, 1) := by decide +kernel
theorem dX6_fair_30 : decode cX6_fair 30 = .ok (.iload_n 0, 1) := by decide +kernel
theorem dX6_fair_31 : decode cX6_fair 31 = .ok (.bipush 9, 2) := by decide +kernel
theorem dX6_fair_33 : decode cX6_fair 33 = .ok (.invokestatic 77, 3) := by decide +kernel
theorem dX6_fair_36 : decode cX6_fair 36 = .ok (.ifCond .eq 20, 3) := by decide +kernel
theorem dX6_fair_39 : decode cX6_fair 39 = .ok (.iload 4, 2) := by decide +kernel
theorem dX6_fair_41 : decode cX6_fair 41 = .ok (.iload_n 2, 1) := by decide +kernel
theorem dX6_fair_42 : decode cX6_fair 42 = .ok (.iconst 1, 1) := by decide +kernel
theorem dX6_fair_43 : decode cX6_fair 43 = .ok (.iadd, 1) := by decide +kernel
theorem dX6_fair_44 : decode cX6_fair 44 = .ok (.bipush 60, 2) := by decide +kernel
theorem dX6_fair_46 : decode cX6_fair 46 = .ok (.invokestatic 77, 3) := by decide +kernel
theorem dX6_fair_49 : decode cX6_fair 49 = .ok (.ifCond .eq 7, 3) := by decide +kernel
theorem dX6_fair_52 : decode cX6_fair 52 = .ok (.iconst 1, 1) := by decide +kernel
theorem dX6_fair_53 : decode cX6_fair 53 = .ok (.goto 4, 3) := by decide +kernel
theorem dX6_fair_56 : decode cX6_fair 56 = .ok (.iconst 0, 1) := by decide +kernel
theorem dX6_fair_57 : decode cX6_fair 57 = .ok (.ireturn, 1) := by decide +kernel
theorem dX6_come_0 : decode cX6_come 0 = .ok (.iload_n 1, 1) := by decide +kernel
theorem dX6_come_1 : decode cX6_come 1 = .ok (.invokestatic 300, 3) := by decide +kernel
theorem dX6_come_4 : decode cX6_come 4 = .ok (.ifCond .eq 7, 3) := by decide +kernel
theorem dX6_come_7 : decode cX6_come 7 = .ok (.iload_n 2, 1) := by decide +kernel
theorem dX6_come_8 : decode cX6_come 8 = .ok (.ifCond .ne 5, 3) := by decide +kernel
theorem dX6_come_11 : decode cX6_come 11 = .ok (.iconst (-1), 1) := by decide +kernel
theorem dX6_come_12 : decode cX6_come 12 = .ok (.ireturn, 1) := by decide +kernel
theorem dX6_come_13 : decode cX6_come 13 = .ok (.aload_n 0, 1) := by decide +kernel
theorem dX6_come_14 : decode cX6_come 14 = .ok (.getfield 21, 3) := by decide +kernel
theorem dX6_come_17 : decode cX6_come 17 = .ok (.invokevirtual 241, 3) := by decide +kernel
theorem dX6_come_20 : decode cX6_come 20 = .ok (.aload_n 0, 1) := by decide +kernel
theorem dX6_come_21 : decode cX6_come 21 = .ok (.getfield 21, 3) := by decide +kernel
theorem dX6_come_24 : decode cX6_come 24 = .ok (.iload_n 1, 1) := by decide +kernel
theorem dX6_come_25 : decode cX6_come 25 = .ok (.i2l, 1) := by decide +kernel
theorem dX6_come_26 : decode cX6_come 26 = .ok (.lconst 1, 1) := by decide +kernel
theorem dX6_come_27 : decode cX6_come 27 = .ok (.invokevirtual 278, 3) := by decide +kernel
theorem dX6_come_30 : decode cX6_come 30 = .ok (.ifCond .gt 6, 3) := by decide +kernel
theorem dX6_come_33 : decode cX6_come 33 = .ok (.bipush (-2), 2) := by decide +kernel
theorem dX6_come_35 : decode cX6_come 35 = .ok (.ireturn, 1) := by decide +kernel
theorem dX6_come_36 : decode cX6_come 36 = .ok (.aload_n 0, 1) := by decide +kernel
theorem dX6_come_37 : decode cX6_come 37 = .ok (.getfield 21, 3) := by decide +kernel
theorem dX6_come_40 : decode cX6_come 40 = .ok (.aload_n 0, 1) := by decide +kernel
theorem dX6_come_41 : decode cX6_come 41 = .ok (.getfield 21, 3) := by decide +kernel
theorem dX6_come_44 : decode cX6_come 44 = .ok (.iload_n 1, 1) := by decide +kernel
theorem dX6_come_45 : decode cX6_come 45 = .ok (.invokevirtual 183, 3) := by decide +kernel
theorem dX6_come_48 : decode cX6_come 48 = .ok (.iload_n 1, 1) := by decide +kernel
theorem dX6_come_49 : decode cX6_come 49 = .ok (.i2l, 1) := by decide +kernel
theorem dX6_come_50 : decode cX6_come 50 = .ok (.lconst 1, 1) := by decide +kernel
theorem dX6_come_51 : decode cX6_come 51 = .ok (.invokevirtual 320, 3) := by decide +kernel
theorem dX6_come_54 : decode cX6_come 54 = .ok (.iconst 0, 1) := by decide +kernel
theorem dX6_come_55 : decode cX6_come 55 = .ok (.ireturn, 1) := by decide +kernel
theorem dX6_guessPeak_0 : decode cX6_guessPeak 0 = .ok (.aload_n 0, 1) := by decide +kernel
theorem dX6_guessPeak_1 : decode cX6_guessPeak 1 = .ok (.getfield 37, 3) := by decide +kernel
theorem dX6_guessPeak_4 : decode cX6_guessPeak 4 = .ok (.iconst 0, 1) := by decide +kernel
theorem dX6_guessPeak_5 : decode cX6_guessPeak 5 = .ok (.putfield 73, 3) := by decide +kernel
theorem dX6_guessPeak_8 : decode cX6_guessPeak 8 = .ok (.aload_n 0, 1) := by decide +kernel
theorem dX6_guessPeak_9 : decode cX6_guessPeak 9 = .ok (.getfield 37, 3) := by decide +kernel
theorem dX6_guessPeak_12 : decode cX6_guessPeak 12 = .ok (.invokevirtual 241, 3) := by decide +kernel
theorem dX6_guessPeak_15 : decode cX6_guessPeak 15 = .ok (.return_, 1) := by decide +kernel
theorem dX6_bearingAt_0 : decode cX6_bearingAt 0 = .ok (.iconst 0, 1) := by decide +kernel
theorem dX6_bearingAt_1 : decode cX6_bearingAt 1 = .ok (.istore_n 2, 1) := by decide +kernel
theorem dX6_bearingAt_2 : decode cX6_bearingAt 2 = .ok (.iconst 0, 1) := by decide +kernel
theorem dX6_bearingAt_3 : decode cX6_bearingAt 3 = .ok (.istore_n 3, 1) := by decide +kernel
theorem dX6_bearingAt_4 : decode cX6_bearingAt 4 = .ok (.iload_n 3, 1) := by decide +kernel
theorem dX6_bearingAt_5 : decode cX6_bearingAt 5 = .ok (.aload_n 0, 1) := by decide +kernel
theorem dX6_bearingAt_6 : decode cX6_bearingAt 6 = .ok (.getfield 10, 3) := by decide +kernel
theorem dX6_bearingAt_9 : decode cX6_bearingAt 9 = .ok (.getfield 65, 3) := by decide +kernel
theorem dX6_bearingAt_12 : decode cX6_bearingAt 12 = .ok (.if_icmp .ge 34, 3) := by decide +kernel
theorem dX6_bearingAt_15 : decode cX6_bearingAt 15 = .ok (.aload_n 0, 1) := by decide +kernel
theorem dX6_bearingAt_16 : decode cX6_bearingAt 16 = .ok (.getfield 21, 3) := by decide +kernel
theorem dX6_bearingAt_19 : decode cX6_bearingAt 19 = .ok (.getfield 158, 3) := by decide +kernel
theorem dX6_bearingAt_22 : decode cX6_bearingAt 22 = .ok (.iload_n 3, 1) := by decide +kernel
theorem dX6_bearingAt_23 : decode cX6_bearingAt 23 = .ok (.iload_n 1, 1) := by decide +kernel
theorem dX6_bearingAt_24 : decode cX6_bearingAt 24 = .ok (.i2l, 1) := by decide +kernel
theorem dX6_bearingAt_25 : decode cX6_bearingAt 25 = .ok (.lconst 1, 1) := by decide +kernel
theorem dX6_bearingAt_26 : decode cX6_bearingAt 26 = .ok (.invokevirtual 162, 3) := by decide +kernel
theorem dX6_bearingAt_29 : decode cX6_bearingAt 29 = .ok (.lconst 0, 1) := by decide +kernel
theorem dX6_bearingAt_30 : decode cX6_bearingAt 30 = .ok (.lcmp, 1) := by decide +kernel
theorem dX6_bearingAt_31 : decode cX6_bearingAt 31 = .ok (.ifCond .le 9, 3) := by decide +kernel
theorem dX6_bearingAt_34 : decode cX6_bearingAt 34 = .ok (.iload_n 2, 1) := by decide +kernel
theorem dX6_bearingAt_35 : decode cX6_bearingAt 35 = .ok (.iconst 1, 1) := by decide +kernel
theorem dX6_bearingAt_36 : decode cX6_bearingAt 36 = .ok (.iload_n 3, 1) := by decide +kernel
theorem dX6_bearingAt_37 : decode cX6_bearingAt 37 = .ok (.ishl, 1) := by decide +kernel
theorem dX6_bearingAt_38 : decode cX6_bearingAt 38 = .ok (.ior, 1) := by decide +kernel
theorem dX6_bearingAt_39 : decode cX6_bearingAt 39 = .ok (.istore_n 2, 1) := by decide +kernel
theorem dX6_bearingAt_40 : decode cX6_bearingAt 40 = .ok (.iinc 3 1, 3) := by decide +kernel
theorem dX6_bearingAt_43 : decode cX6_bearingAt 43 = .ok (.goto (-39), 3) := by decide +kernel
theorem dX6_bearingAt_46 : decode cX6_bearingAt 46 = .ok (.iload_n 2, 1) := by decide +kernel
theorem dX6_bearingAt_47 : decode cX6_bearingAt 47 = .ok (.ireturn, 1) := by decide +kernel
theorem dX6_boltWork_0 : decode cX6_boltWork 0 = .ok (.aload_n 0, 1) := by decide +kernel
theorem dX6_boltWork_1 : decode cX6_boltWork 1 = .ok (.getfield 21, 3) := by decide +kernel
theorem dX6_boltWork_4 : decode cX6_boltWork 4 = .ok (.getfield 158, 3) := by decide +kernel
theorem dX6_boltWork_7 : decode cX6_boltWork 7 = .ok (.iload_n 1, 1) := by decide +kernel
theorem dX6_boltWork_8 : decode cX6_boltWork 8 = .ok (.iload_n 2, 1) := by decide +kernel
theorem dX6_boltWork_9 : decode cX6_boltWork 9 = .ok (.i2l, 1) := by decide +kernel
theorem dX6_boltWork_10 : decode cX6_boltWork 10 = .ok (.lconst 1, 1) := by decide +kernel
theorem dX6_boltWork_11 : decode cX6_boltWork 11 = .ok (.invokevirtual 162, 3) := by decide +kernel
theorem dX6_boltWork_14 : decode cX6_boltWork 14 = .ok (.lstore_n 3, 1) := by decide +kernel
theorem dX6_boltWork_15 : decode cX6_boltWork 15 = .ok (.aload_n 0, 1) := by decide +kernel
theorem dX6_boltWork_16 : decode cX6_boltWork 16 = .ok (.getfield 10, 3) := by decide +kernel
theorem dX6_boltWork_19 : decode cX6_boltWork 19 = .ok (.getfield 103, 3) := by decide +kernel
theorem dX6_boltWork_22 : decode cX6_boltWork 22 = .ok (.iload_n 1, 1) := by decide +kernel
theorem dX6_boltWork_23 : decode cX6_boltWork 23 = .ok (.iaload, 1) := by decide +kernel
theorem dX6_boltWork_24 : decode cX6_boltWork 24 = .ok (.i2l, 1) := by decide +kernel
theorem dX6_boltWork_25 : decode cX6_boltWork 25 = .ok (.aload_n 0, 1) := by decide +kernel
theorem dX6_boltWork_26 : decode cX6_boltWork 26 = .ok (.getfield 21, 3) := by decide +kernel
theorem dX6_boltWork_29 : decode cX6_boltWork 29 = .ok (.getfield 158, 3) := by decide +kernel
theorem dX6_boltWork_32 : decode cX6_boltWork 32 = .ok (.getfield 168, 3) := by decide +kernel
theorem dX6_boltWork_35 : decode cX6_boltWork 35 = .ok (.lmul, 1) := by decide +kernel
theorem dX6_boltWork_36 : decode cX6_boltWork 36 = .ok (.lstore 5, 2) := by decide +kernel
theorem dX6_boltWork_38 : decode cX6_boltWork 38 = .ok (.lload_n 3, 1) := by decide +kernel
theorem dX6_boltWork_39 : decode cX6_boltWork 39 = .ok (.lload 5, 2) := by decide +kernel
theorem dX6_boltWork_41 : decode cX6_boltWork 41 = .ok (.lcmp, 1) := by decide +kernel
theorem dX6_boltWork_42 : decode cX6_boltWork 42 = .ok (.ifCond .gt 18, 3) := by decide +kernel
theorem dX6_boltWork_45 : decode cX6_boltWork 45 = .ok (.aload_n 0, 1) := by decide +kernel
theorem dX6_boltWork_46 : decode cX6_boltWork 46 = .ok (.getfield 10, 3) := by decide +kernel
theorem dX6_boltWork_49 : decode cX6_boltWork 49 = .ok (.getfield 97, 3) := by decide +kernel
theorem dX6_boltWork_52 : decode cX6_boltWork 52 = .ok (.iload_n 1, 1) := by decide +kernel
theorem dX6_boltWork_53 : decode cX6_boltWork 53 = .ok (.iaload, 1) := by decide +kernel
theorem dX6_boltWork_54 : decode cX6_boltWork 54 = .ok (.i2l, 1) := by decide +kernel
theorem dX6_boltWork_55 : decode cX6_boltWork 55 = .ok (.lload_n 3, 1) := by decide +kernel
theorem dX6_boltWork_56 : decode cX6_boltWork 56 = .ok (.lmul, 1) := by decide +kernel
theorem dX6_boltWork_57 : decode cX6_boltWork 57 = .ok (.lload_n 3, 1) := by decide +kernel
theorem dX6_boltWork_58 : decode cX6_boltWork 58 = .ok (.lmul, 1) := by decide +kernel
theorem dX6_boltWork_59 : decode cX6_boltWork 59 = .ok (.lreturn, 1) := by decide +kernel
theorem dX6_boltWork_60 : decode cX6_boltWork 60 = .ok (.aload_n 0, 1) := by decide +kernel
theorem dX6_boltWork_61 : decode cX6_boltWork 61 = .ok (.getfield 10, 3) := by decide +kernel
theorem dX6_boltWork_64 : decode cX6_boltWork 64 = .ok (.getfield 97, 3) := by decide +kernel
theorem dX6_boltWork_67 : decode cX6_boltWork 67 = .ok (.iload_n 1, 1) := by decide +kernel
theorem dX6_boltWork_68 : decode cX6_boltWork 68 = .ok (.iaload, 1) := by decide +kernel
theorem dX6_boltWork_69 : decode cX6_boltWork 69 = .ok (.i2l, 1) := by decide +kernel
theorem dX6_boltWork_70 : decode cX6_boltWork 70 = .ok (.lload 5, 2) := by decide +kernel
theorem dX6_boltWork_72 : decode cX6_boltWork 72 = .ok (.lmul, 1) := by decide +kernel
theorem dX6_boltWork_73 : decode cX6_boltWork 73 = .ok (.lload 5, 2) := by decide +kernel
theorem dX6_boltWork_75 : decode cX6_boltWork 75 = .ok (.lmul, 1) := by decide +kernel
theorem dX6_boltWork_76 : decode cX6_boltWork 76 = .ok (.aload_n 0, 1) := by decide +kernel
theorem dX6_boltWork_77 : decode cX6_boltWork 77 = .ok (.getfield 10, 3) := by decide +kernel
theorem dX6_boltWork_80 : decode cX6_boltWork 80 = .ok (.getfield 106, 3) := by decide +kernel
theorem dX6_boltWork_83 : decode cX6_boltWork 83 = .ok (.iload_n 1, 1) := by decide +kernel
theorem dX6_boltWork_84 : decode cX6_boltWork 84 = .ok (.iaload, 1) := by decide +kernel
theorem dX6_boltWork_85 : decode cX6_boltWork 85 = .ok (.i2l, 1) := by decide +kernel
theorem dX6_boltWork_86 : decode cX6_boltWork 86 = .ok (.lload_n 3, 1) := by decide +kernel
theorem dX6_boltWork_87 : decode cX6_boltWork 87 = .ok (.lload_n 3, 1) := by decide +kernel
theorem dX6_boltWork_88 : decode cX6_boltWork 88 = .ok (.lmul, 1) := by decide +kernel
theorem dX6_boltWork_89 : decode cX6_boltWork 89 = .ok (.lload 5, 2) := by decide +kernel
theorem dX6_boltWork_91 : decode cX6_boltWork 91 = .ok (.lload 5, 2) := by decide +kernel
theorem dX6_boltWork_93 : decode cX6_boltWork 93 = .ok (.lmul, 1) := by decide +kernel
theorem dX6_boltWork_94 : decode cX6_boltWork 94 = .ok (.lsub, 1) := by decide +kernel
theorem dX6_boltWork_95 : decode cX6_boltWork 95 = .ok (.lmul, 1) := by decide +kernel
theorem dX6_boltWork_96 : decode cX6_boltWork 96 = .ok (.ladd, 1) := by decide +kernel
theorem dX6_boltWork_97 : decode cX6_boltWork 97 = .ok (.lreturn, 1) := by decide +kernel
theorem dX6_plateWork_0 : decode cX6_plateWork 0 = .ok (.aload_n 0, 1) := by decide +kernel
theorem dX6_plateWork_1 : decode cX6_plateWork 1 = .ok (.getfield 10, 3) := by decide +kernel
theorem dX6_plateWork_4 : decode cX6_plateWork 4 = .ok (.iload_n 1, 1) := by decide +kernel
theorem dX6_plateWork_5 : decode cX6_plateWork 5 = .ok (.invokevirtual 87, 3) := by decide +kernel
theorem dX6_plateWork_8 : decode cX6_plateWork 8 = .ok (.ifCond .ne 5, 3) := by decide +kernel
theorem dX6_plateWork_11 : decode cX6_plateWork 11 = .ok (.lconst 0, 1) := by decide +kernel
theorem dX6_plateWork_12 : decode cX6_plateWork 12 = .ok (.lreturn, 1) := by decide +kernel
theorem dX6_plateWork_13 : decode cX6_plateWork 13 = .ok (.aload_n 0, 1) := by decide +kernel
theorem dX6_plateWork_14 : decode cX6_plateWork 14 = .ok (.getfield 21, 3) := by decide +kernel
theorem dX6_plateWork_17 : decode cX6_plateWork 17 = .ok (.getfield 158, 3) := by decide +kernel
theorem dX6_plateWork_20 : decode cX6_plateWork 20 = .ok (.iload_n 1, 1) := by decide +kernel
theorem dX6_plateWork_21 : decode cX6_plateWork 21 = .ok (.iload_n 2, 1) := by decide +kernel
theorem dX6_plateWork_22 : decode cX6_plateWork 22 = .ok (.i2l, 1) := by decide +kernel
theorem dX6_plateWork_23 : decode cX6_plateWork 23 = .ok (.invokevirtual 179, 3) := by decide +kernel
theorem dX6_plateWork_26 : decode cX6_plateWork 26 = .ok (.lstore_n 3, 1) := by decide +kernel
theorem dX6_plateWork_27 : decode cX6_plateWork 27 = .ok (.iload_n 2, 1) := by decide +kernel
theorem dX6_plateWork_28 : decode cX6_plateWork 28 = .ok (.i2l, 1) := by decide +kernel
theorem dX6_plateWork_29 : decode cX6_plateWork 29 = .ok (.aload_n 0, 1) := by decide +kernel
theorem dX6_plateWork_30 : decode cX6_plateWork 30 = .ok (.getfield 21, 3) := by decide +kernel
theorem dX6_plateWork_33 : decode cX6_plateWork 33 = .ok (.getfield 158, 3) := by decide +kernel
theorem dX6_plateWork_36 : decode cX6_plateWork 36 = .ok (.getfield 168, 3) := by decide +kernel
theorem dX6_plateWork_39 : decode cX6_plateWork 39 = .ok (.lmul, 1) := by decide +kernel
theorem dX6_plateWork_40 : decode cX6_plateWork 40 = .ok (.lload_n 3, 1) := by decide +kernel
theorem dX6_plateWork_41 : decode cX6_plateWork 41 = .ok (.lsub, 1) := by decide +kernel
theorem dX6_plateWork_42 : decode cX6_plateWork 42 = .ok (.lstore 5, 2) := by decide +kernel
theorem dX6_plateWork_44 : decode cX6_plateWork 44 = .ok (.aload_n 0, 1) := by decide +kernel
theorem dX6_plateWork_45 : decode cX6_plateWork 45 = .ok (.getfield 10, 3) := by decide +kernel
theorem dX6_plateWork_48 : decode cX6_plateWork 48 = .ok (.getfield 91, 3) := by decide +kernel
theorem dX6_plateWork_51 : decode cX6_plateWork 51 = .ok (.iload_n 1, 1) := by decide +kernel
theorem dX6_plateWork_52 : decode cX6_plateWork 52 = .ok (.iaload, 1) := by decide +kernel
theorem dX6_plateWork_53 : decode cX6_plateWork 53 = .ok (.i2l, 1) := by decide +kernel
theorem dX6_plateWork_54 : decode cX6_plateWork 54 = .ok (.aload_n 0, 1) := by decide +kernel
theorem dX6_plateWork_55 : decode cX6_plateWork 55 = .ok (.getfield 10, 3) := by decide +kernel
theorem dX6_plateWork_58 : decode cX6_plateWork 58 = .ok (.getfield 81, 3) := by decide +kernel
theorem dX6_plateWork_61 : decode cX6_plateWork 61 = .ok (.i2l, 1) := by decide +kernel
theorem dX6_plateWork_62 : decode cX6_plateWork 62 = .ok (.lload 5, 2) := by decide +kernel
theorem dX6_plateWork_64 : decode cX6_plateWork 64 = .ok (.lmul, 1) := by decide +kernel
theorem dX6_plateWork_65 : decode cX6_plateWork 65 = .ok (.lload 5, 2) := by decide +kernel
theorem dX6_plateWork_67 : decode cX6_plateWork 67 = .ok (.lmul, 1) := by decide +kernel
theorem dX6_plateWork_68 : decode cX6_plateWork 68 = .ok (.aload_n 0, 1) := by decide +kernel
theorem dX6_plateWork_69 : decode cX6_plateWork 69 = .ok (.getfield 10, 3) := by decide +kernel
theorem dX6_plateWork_72 : decode cX6_plateWork 72 = .ok (.getfield 84, 3) := by decide +kernel
theorem dX6_plateWork_75 : decode cX6_plateWork 75 = .ok (.i2l, 1) := by decide +kernel
theorem dX6_plateWork_76 : decode cX6_plateWork 76 = .ok (.lload_n 3, 1) := by decide +kernel
theorem dX6_plateWork_77 : decode cX6_plateWork 77 = .ok (.lmul, 1) := by decide +kernel
theorem dX6_plateWork_78 : decode cX6_plateWork 78 = .ok (.lload_n 3, 1) := by decide +kernel
theorem dX6_plateWork_79 : decode cX6_plateWork 79 = .ok (.lmul, 1) := by decide +kernel
theorem dX6_plateWork_80 : decode cX6_plateWork 80 = .ok (.ladd, 1) := by decide +kernel
theorem dX6_plateWork_81 : decode cX6_plateWork 81 = .ok (.lmul, 1) := by decide +kernel
theorem dX6_plateWork_82 : decode cX6_plateWork 82 = .ok (.lreturn, 1) := by decide +kernel
theorem dX6_tellGains_0 : decode cX6_tellGains 0 = .ok (.aload_n 0, 1) := by decide +kernel
theorem dX6_tellGains_1 : decode cX6_tellGains 1 = .ok (.getfield 21, 3) := by decide +kernel
theorem dX6_tellGains_4 : decode cX6_tellGains 4 = .ok (.getfield 324, 3) := by decide +kernel
theorem dX6_tellGains_7 : decode cX6_tellGains 7 = .ok (.lstore_n 2, 1) := by decide +kernel
theorem dX6_tellGains_8 : decode cX6_tellGains 8 = .ok (.iconst 0, 1) := by decide +kernel
theorem dX6_tellGains_9 : decode cX6_tellGains 9 = .ok (.istore 4, 2) := by decide +kernel
theorem dX6_tellGains_11 : decode cX6_tellGains 11 = .ok (.iload 4, 2) := by decide +kernel
theorem dX6_tellGains_13 : decode cX6_tellGains 13 = .ok (.aload_n 0, 1) := by decide +kernel
theorem dX6_tellGains_14 : decode cX6_tellGains 14 = .ok (.getfield 10, 3) := by decide +kernel
theorem dX6_tellGains_17 : decode cX6_tellGains 17 = .ok (.getfield 65, 3) := by decide +kernel
theorem dX6_tellGains_20 : decode cX6_tellGains 20 = .ok (.if_icmp .ge 24, 3) := by decide +kernel
theorem dX6_tellGains_23 : decode cX6_tellGains 23 = .ok (.lload_n 2, 1) := by decide +kernel
theorem dX6_tellGains_24 : decode cX6_tellGains 24 = .ok (.aload_n 0, 1) := by decide +kernel
theorem dX6_tellGains_25 : decode cX6_tellGains 25 = .ok (.getfield 21, 3) := by decide +kernel
theorem dX6_tellGains_28 : decode cX6_tellGains 28 = .ok (.getfield 327, 3) := by decide +kernel
theorem dX6_tellGains_31 : decode cX6_tellGains 31 = .ok (.iload 4, 2) := by decide +kernel
theorem dX6_tellGains_33 : decode cX6_tellGains 33 = .ok (.laload, 1) := by decide +kernel
theorem dX6_tellGains_34 : decode cX6_tellGains 34 = .ok (.invokestatic 330, 3) := by decide +kernel
theorem dX6_tellGains_37 : decode cX6_tellGains 37 = .ok (.lstore_n 2, 1) := by decide +kernel
theorem dX6_tellGains_38 : decode cX6_tellGains 38 = .ok (.iinc 4 1, 3) := by decide +kernel
theorem dX6_tellGains_41 : decode cX6_tellGains 41 = .ok (.goto (-30), 3) := by decide +kernel
theorem dX6_tellGains_44 : decode cX6_tellGains 44 = .ok (.lload_n 2, 1) := by decide +kernel
theorem dX6_tellGains_45 : decode cX6_tellGains 45 = .ok (.lconst 0, 1) := by decide +kernel
theorem dX6_tellGains_46 : decode cX6_tellGains 46 = .ok (.lcmp, 1) := by decide +kernel
theorem dX6_tellGains_47 : decode cX6_tellGains 47 = .ok (.ifCond .ne 5, 3) := by decide +kernel
theorem dX6_tellGains_50 : decode cX6_tellGains 50 = .ok (.lconst 1, 1) := by decide +kernel
theorem dX6_tellGains_51 : decode cX6_tellGains 51 = .ok (.lstore_n 2, 1) := by decide +kernel
theorem dX6_tellGains_52 : decode cX6_tellGains 52 = .ok (.iconst (-1), 1) := by decide +kernel
theorem dX6_tellGains_53 : decode cX6_tellGains 53 = .ok (.istore 4, 2) := by decide +kernel
theorem dX6_tellGains_55 : decode cX6_tellGains 55 = .ok (.aload_n 0, 1) := by decide +kernel
theorem dX6_tellGains_56 : decode cX6_tellGains 56 = .ok (.getfield 50, 3) := by decide +kernel
theorem dX6_tellGains_59 : decode cX6_tellGains 59 = .ok (.iconst 0, 1) := by decide +kernel
theorem dX6_tellGains_60 : decode cX6_tellGains 60 = .ok (.putfield 157, 3) := by decide +kernel
theorem dX6_tellGains_63 : decode cX6_tellGains 63 = .ok (.aload_n 0, 1) := by decide +kernel
theorem dX6_tellGains_64 : decode cX6_tellGains 64 = .ok (.getfield 50, 3) := by decide +kernel
theorem dX6_tellGains_67 : decode cX6_tellGains 67 = .ok (.aload_n 0, 1) := by decide +kernel
theorem dX6_tellGains_68 : decode cX6_tellGains 68 = .ok (.getfield 21, 3) := by decide +kernel
theorem dX6_tellGains_71 : decode cX6_tellGains 71 = .ok (.getfield 324, 3) := by decide +kernel
theorem dX6_tellGains_74 : decode cX6_tellGains 74 = .ok (.lload_n 2, 1) := by decide +kernel
theorem dX6_tellGains_75 : decode cX6_tellGains 75 = .ok (.ldiv, 1) := by decide +kernel
theorem dX6_tellGains_76 : decode cX6_tellGains 76 = .ok (.invokevirtual 186, 3) := by decide +kernel
theorem dX6_tellGains_79 : decode cX6_tellGains 79 = .ok (.iconst 0, 1) := by decide +kernel
theorem dX6_tellGains_80 : decode cX6_tellGains 80 = .ok (.istore 5, 2) := by decide +kernel
theorem dX6_tellGains_82 : decode cX6_tellGains 82 = .ok (.iload 5, 2) := by decide +kernel
theorem dX6_tellGains_84 : decode cX6_tellGains 84 = .ok (.aload_n 0, 1) := by decide +kernel
theorem dX6_tellGains_85 : decode cX6_tellGains 85 = .ok (.getfield 10, 3) := by decide +kernel
theorem dX6_tellGains_88 : decode cX6_tellGains 88 = .ok (.getfield 65, 3) := by decide +kernel
theorem dX6_tellGains_91 : decode cX6_tellGains 91 = .ok (.if_icmp .ge 92, 3) := by decide +kernel
theorem dX6_tellGains_94 : decode cX6_tellGains 94 = .ok (.iload_n 1, 1) := by decide +kernel
theorem dX6_tellGains_95 : decode cX6_tellGains 95 = .ok (.iload 5, 2) := by decide +kernel
theorem dX6_tellGains_97 : decode cX6_tellGains 97 = .ok (.ishr, 1) := by decide +kernel
theorem dX6_tellGains_98 : decode cX6_tellGains 98 = .ok (.iconst 1, 1) := by decide +kernel
theorem dX6_tellGains_99 : decode cX6_tellGains 99 = .ok (.iand, 1) := by decide +kernel
theorem dX6_tellGains_100 : decode cX6_tellGains 100 = .ok (.iconst 1, 1) := by decide +kernel
theorem dX6_tellGains_101 : decode cX6_tellGains 101 = .ok (.if_icmp .ne 7, 3) := by decide +kernel
theorem dX6_tellGains_104 : decode cX6_tellGains 104 = .ok (.iconst 1, 1) := by decide +kernel
theorem dX6_tellGains_105 : decode cX6_tellGains 105 = .ok (.goto 4, 3) := by decide +kernel
theorem dX6_tellGains_108 : decode cX6_tellGains 108 = .ok (.iconst 0, 1) := by decide +kernel
theorem dX6_tellGains_109 : decode cX6_tellGains 109 = .ok (.istore 6, 2) := by decide +kernel
theorem dX6_tellGains_111 : decode cX6_tellGains 111 = .ok (.aload_n 0, 1) := by decide +kernel
theorem dX6_tellGains_112 : decode cX6_tellGains 112 = .ok (.getfield 50, 3) := by decide +kernel
theorem dX6_tellGains_115 : decode cX6_tellGains 115 = .ok (.iload 6, 2) := by decide +kernel
theorem dX6_tellGains_117 : decode cX6_tellGains 117 = .ok (.ifCond .eq 18, 3) := by decide +kernel
theorem dX6_tellGains_120 : decode cX6_tellGains 120 = .ok (.aload_n 0, 1) := by decide +kernel
theorem dX6_tellGains_121 : decode cX6_tellGains 121 = .ok (.getfield 21, 3) := by decide +kernel
theorem dX6_tellGains_124 : decode cX6_tellGains 124 = .ok (.getfield 327, 3) := by decide +kernel
theorem dX6_tellGains_127 : decode cX6_tellGains 127 = .ok (.iload 5, 2) := by decide +kernel
theorem dX6_tellGains_129 : decode cX6_tellGains 129 = .ok (.laload, 1) := by decide +kernel
theorem dX6_tellGains_130 : decode cX6_tellGains 130 = .ok (.lload_n 2, 1) := by decide +kernel
theorem dX6_tellGains_131 : decode cX6_tellGains 131 = .ok (.ldiv, 1) := by decide +kernel
theorem dX6_tellGains_132 : decode cX6_tellGains 132 = .ok (.goto 4, 3) := by decide +kernel
theorem dX6_tellGains_135 : decode cX6_tellGains 135 = .ok (.lconst 0, 1) := by decide +kernel
theorem dX6_tellGains_136 : decode cX6_tellGains 136 = .ok (.invokevirtual 186, 3) := by decide +kernel
theorem dX6_tellGains_139 : decode cX6_tellGains 139 = .ok (.iload 6, 2) := by decide +kernel
theorem dX6_tellGains_141 : decode cX6_tellGains 141 = .ok (.ifCond .eq 36, 3) := by decide +kernel
theorem dX6_tellGains_144 : decode cX6_tellGains 144 = .ok (.iload 4, 2) := by decide +kernel
theorem dX6_tellGains_146 : decode cX6_tellGains 146 = .ok (.ifCond .lt 27, 3) := by decide +kernel
theorem dX6_tellGains_149 : decode cX6_tellGains 149 = .ok (.aload_n 0, 1) := by decide +kernel
theorem dX6_tellGains_150 : decode cX6_tellGains 150 = .ok (.getfield 21, 3) := by decide +kernel
theorem dX6_tellGains_153 : decode cX6_tellGains 153 = .ok (.getfield 327, 3) := by decide +kernel
theorem dX6_tellGains_156 : decode cX6_tellGains 156 = .ok (.iload 5, 2) := by decide +kernel
theorem dX6_tellGains_158 : decode cX6_tellGains 158 = .ok (.laload, 1) := by decide +kernel
theorem dX6_tellGains_159 : decode cX6_tellGains 159 = .ok (.aload_n 0, 1) := by decide +kernel
theorem dX6_tellGains_160 : decode cX6_tellGains 160 = .ok (.getfield 21, 3) := by decide +kernel
theorem dX6_tellGains_163 : decode cX6_tellGains 163 = .ok (.getfield 327, 3) := by decide +kernel
theorem dX6_tellGains_166 : decode cX6_tellGains 166 = .ok (.iload 4, 2) := by decide +kernel
theorem dX6_tellGains_168 : decode cX6_tellGains 168 = .ok (.laload, 1) := by decide +kernel
theorem dX6_tellGains_169 : decode cX6_tellGains 169 = .ok (.lcmp, 1) := by decide +kernel
theorem dX6_tellGains_170 : decode cX6_tellGains 170 = .ok (.ifCond .le 7, 3) := by decide +kernel
theorem dX6_tellGains_173 : decode cX6_tellGains 173 = .ok (.iload 5, 2) := by decide +kernel
theorem dX6_tellGains_175 : decode cX6_tellGains 175 = .ok (.istore 4, 2) := by decide +kernel
theorem dX6_tellGains_177 : decode cX6_tellGains 177 = .ok (.iinc 5 1, 3) := by decide +kernel
theorem dX6_tellGains_180 : decode cX6_tellGains 180 = .ok (.goto (-98), 3) := by decide +kernel
theorem dX6_tellGains_183 : decode cX6_tellGains 183 = .ok (.iload 4, 2) := by decide +kernel
theorem dX6_tellGains_185 : decode cX6_tellGains 185 = .ok (.ireturn, 1) := by decide +kernel
theorem dX6_seat_0 : decode cX6_seat 0 = .ok (.iconst 0, 1) := by decide +kernel
theorem dX6_seat_1 : decode cX6_seat 1 = .ok (.istore_n 1, 1) := by decide +kernel
theorem dX6_seat_2 : decode cX6_seat 2 = .ok (.iload_n 1, 1) := by decide +kernel
theorem dX6_seat_3 : decode cX6_seat 3 = .ok (.aload_n 0, 1) := by decide +kernel
theorem dX6_seat_4 : decode cX6_seat 4 = .ok (.getfield 10, 3) := by decide +kernel
theorem dX6_seat_7 : decode cX6_seat 7 = .ok (.getfield 65, 3) := by decide +kernel
theorem dX6_seat_10 : decode cX6_seat 10 = .ok (.if_icmp .ge 27, 3) := by decide +kernel
theorem dX6_seat_13 : decode cX6_seat 13 = .ok (.aload_n 0, 1) := by decide +kernel
theorem dX6_seat_14 : decode cX6_seat 14 = .ok (.getfield 34, 3) := by decide +kernel
theorem dX6_seat_17 : decode cX6_seat 17 = .ok (.aload_n 0, 1) := by decide +kernel
theorem dX6_seat_18 : decode cX6_seat 18 = .ok (.getfield 10, 3) := by decide +kernel
theorem dX6_seat_21 : decode cX6_seat 21 = .ok (.aload_n 0, 1) := by decide +kernel
theorem dX6_seat_22 : decode cX6_seat 22 = .ok (.getfield 54, 3) := by decide +kernel
theorem dX6_seat_25 : decode cX6_seat 25 = .ok (.iload_n 1, 1) := by decide +kernel
theorem dX6_seat_26 : decode cX6_seat 26 = .ok (.iaload, 1) := by decide +kernel
theorem dX6_seat_27 : decode cX6_seat 27 = .ok (.iload_n 1, 1) := by decide +kernel
theorem dX6_seat_28 : decode cX6_seat 28 = .ok (.invokevirtual 133, 3) := by decide +kernel
theorem dX6_seat_31 : decode cX6_seat 31 = .ok (.iinc 1 1, 3) := by decide +kernel
theorem dX6_seat_34 : decode cX6_seat 34 = .ok (.goto (-32), 3) := by decide +kernel
theorem dX6_seat_37 : decode cX6_seat 37 = .ok (.return_, 1) := by decide +kernel
theorem dX6_nextSeats_0 : decode cX6_nextSeats 0 = .ok (.aload_n 0, 1) := by decide +kernel
theorem dX6_nextSeats_1 : decode cX6_nextSeats 1 = .ok (.getfield 10, 3) := by decide +kernel
theorem dX6_nextSeats_4 : decode cX6_nextSeats 4 = .ok (.getfield 65, 3) := by decide +kernel
theorem dX6_nextSeats_7 : decode cX6_nextSeats 7 = .ok (.iconst 2, 1) := by decide +kernel
theorem dX6_nextSeats_8 : decode cX6_nextSeats 8 = .ok (.isub, 1) := by decide +kernel
theorem dX6_nextSeats_9 : decode cX6_nextSeats 9 = .ok (.istore_n 1, 1) := by decide +kernel
theorem dX6_nextSeats_10 : decode cX6_nextSeats 10 = .ok (.iload_n 1, 1) := by decide +kernel
theorem dX6_nextSeats_11 : decode cX6_nextSeats 11 = .ok (.ifCond .lt 26, 3) := by decide +kernel
theorem dX6_nextSeats_14 : decode cX6_nextSeats 14 = .ok (.aload_n 0, 1) := by decide +kernel
theorem dX6_nextSeats_15 : decode cX6_nextSeats 15 = .ok (.getfield 54, 3) := by decide +kernel
theorem dX6_nextSeats_18 : decode cX6_nextSeats 18 = .ok (.iload_n 1, 1) := by decide +kernel
theorem dX6_nextSeats_19 : decode cX6_nextSeats 19 = .ok (.iaload, 1) := by decide +kernel
theorem dX6_nextSeats_20 : decode cX6_nextSeats 20 = .ok (.aload_n 0, 1) := by decide +kernel
theorem dX6_nextSeats_21 : decode cX6_nextSeats 21 = .ok (.getfield 54, 3) := by decide +kernel
theorem dX6_nextSeats_24 : decode cX6_nextSeats 24 = .ok (.iload_n 1, 1) := by decide +kernel
theorem dX6_nextSeats_25 : decode cX6_nextSeats 25 = .ok (.iconst 1, 1) := by decide +kernel
theorem dX6_nextSeats_26 : decode cX6_nextSeats 26 = .ok (.iadd, 1) := by decide +kernel
theorem dX6_nextSeats_27 : decode cX6_nextSeats 27 = .ok (.iaload, 1) := by decide +kernel
theorem dX6_nextSeats_28 : decode cX6_nextSeats 28 = .ok (.if_icmp .le 9, 3) := by decide +kernel
theorem dX6_nextSeats_31 : decode cX6_nextSeats 31 = .ok (.iinc 1 (-1), 3) := by decide +kernel
theorem dX6_nextSeats_34 : decode cX6_nextSeats 34 = .ok (.goto (-24), 3) := by decide +kernel
theorem dX6_nextSeats_37 : decode cX6_nextSeats 37 = .ok (.iload_n 1, 1) := by decide +kernel
theorem dX6_nextSeats_38 : decode cX6_nextSeats 38 = .ok (.ifCond .ge 5, 3) := by decide +kernel
theorem dX6_nextSeats_41 : decode cX6_nextSeats 41 = .ok (.iconst 0, 1) := by decide +kernel
theorem dX6_nextSeats_42 : decode cX6_nextSeats 42 = .ok (.ireturn, 1) := by decide +kernel
theorem dX6_nextSeats_43 : decode cX6_nextSeats 43 = .ok (.aload_n 0, 1) := by decide +kernel
theorem dX6_nextSeats_44 : decode cX6_nextSeats 44 = .ok (.getfield 10, 3) := by decide +kernel
theorem dX6_nextSeats_47 : decode cX6_nextSeats 47 = .ok (.getfield 65, 3) := by decide +kernel
theorem dX6_nextSeats_50 : decode cX6_nextSeats 50 = .ok (.iconst 1, 1) := by decide +kernel
theorem dX6_nextSeats_51 : decode cX6_nextSeats 51 = .ok (.isub, 1) := by decide +kernel
theorem dX6_nextSeats_52 : decode cX6_nextSeats 52 = .ok (.istore_n 2, 1) := by decide +kernel
theorem dX6_nextSeats_53 : decode cX6_nextSeats 53 = .ok (.iload_n 2, 1) := by decide +kernel
theorem dX6_nextSeats_54 : decode cX6_nextSeats 54 = .ok (.iload_n 1, 1) := by decide +kernel
theorem dX6_nextSeats_55 : decode cX6_nextSeats 55 = .ok (.if_icmp .le 24, 3) := by decide +kernel
theorem dX6_nextSeats_58 : decode cX6_nextSeats 58 = .ok (.aload_n 0, 1) := by decide +kernel
theorem dX6_nextSeats_59 : decode cX6_nextSeats 59 = .ok (.getfield 54, 3) := by decide +kernel
theorem dX6_nextSeats_62 : decode cX6_nextSeats 62 = .ok (.iload_n 2, 1) := by decide +kernel
theorem dX6_nextSeats_63 : decode cX6_nextSeats 63 = .ok (.iaload, 1) := by decide +kernel
theorem dX6_nextSeats_64 : decode cX6_nextSeats 64 = .ok (.aload_n 0, 1) := by decide +kernel
theorem dX6_nextSeats_65 : decode cX6_nextSeats 65 = .ok (.getfield 54, 3) := by decide +kernel
theorem dX6_nextSeats_68 : decode cX6_nextSeats 68 = .ok (.iload_n 1, 1) := by decide +kernel
theorem dX6_nextSeats_69 : decode cX6_nextSeats 69 = .ok (.iaload, 1) := by decide +kernel
theorem dX6_nextSeats_70 : decode cX6_nextSeats 70 = .ok (.if_icmp .ge 9, 3) := by decide +kernel
theorem dX6_nextSeats_73 : decode cX6_nextSeats 73 = .ok (.iinc 2 (-1), 3) := by decide +kernel
theorem dX6_nextSeats_76 : decode cX6_nextSeats 76 = .ok (.goto (-23), 3) := by decide +kernel
theorem dX6_nextSeats_79 : decode cX6_nextSeats 79 = .ok (.aload_n 0, 1) := by decide +kernel
theorem dX6_nextSeats_80 : decode cX6_nextSeats 80 = .ok (.iload_n 1, 1) := by decide +kernel
theorem dX6_nextSeats_81 : decode cX6_nextSeats 81 = .ok (.iload_n 2, 1) := by decide +kernel
theorem dX6_nextSeats_82 : decode cX6_nextSeats 82 = .ok (.invokevirtual 334, 3) := by decide +kernel
theorem dX6_nextSeats_85 : decode cX6_nextSeats 85 = .ok (.iload_n 1, 1) := by decide +kernel
theorem dX6_nextSeats_86 : decode cX6_nextSeats 86 = .ok (.iconst 1, 1) := by decide +kernel
theorem dX6_nextSeats_87 : decode cX6_nextSeats 87 = .ok (.iadd, 1) := by decide +kernel
theorem dX6_nextSeats_88 : decode cX6_nextSeats 88 = .ok (.istore_n 3, 1) := by decide +kernel
theorem dX6_nextSeats_89 : decode cX6_nextSeats 89 = .ok (.aload_n 0, 1) := by decide +kernel
theorem dX6_nextSeats_90 : decode cX6_nextSeats 90 = .ok (.getfield 10, 3) := by decide +kernel
theorem dX6_nextSeats_93 : decode cX6_nextSeats 93 = .ok (.getfield 65, 3) := by decide +kernel
theorem dX6_nextSeats_96 : decode cX6_nextSeats 96 = .ok (.iconst 1, 1) := by decide +kernel
theorem dX6_nextSeats_97 : decode cX6_nextSeats 97 = .ok (.isub, 1) := by decide +kernel
theorem dX6_nextSeats_98 : decode cX6_nextSeats 98 = .ok (.istore 4, 2) := by decide +kernel
theorem dX6_nextSeats_100 : decode cX6_nextSeats 100 = .ok (.iload_n 3, 1) := by decide +kernel
theorem dX6_nextSeats_101 : decode cX6_nextSeats 101 = .ok (.iload 4, 2) := by decide +kernel
theorem dX6_nextSeats_103 : decode cX6_nextSeats 103 = .ok (.if_icmp .ge 19, 3) := by decide +kernel
theorem dX6_nextSeats_106 : decode cX6_nextSeats 106 = .ok (.aload_n 0, 1) := by decide +kernel
theorem dX6_nextSeats_107 : decode cX6_nextSeats 107 = .ok (.iload_n 3, 1) := by decide +kernel
theorem dX6_nextSeats_108 : decode cX6_nextSeats 108 = .ok (.iload 4, 2) := by decide +kernel
theorem dX6_nextSeats_110 : decode cX6_nextSeats 110 = .ok (.invokevirtual 334, 3) := by decide +kernel
theorem dX6_nextSeats_113 : decode cX6_nextSeats 113 = .ok (.iinc 3 1, 3) := by decide +kernel
theorem dX6_nextSeats_116 : decode cX6_nextSeats 116 = .ok (.iinc 4 (-1), 3) := by decide +kernel
theorem dX6_nextSeats_119 : decode cX6_nextSeats 119 = .ok (.goto (-19), 3) := by decide +kernel
theorem dX6_nextSeats_122 : decode cX6_nextSeats 122 = .ok (.iconst 1, 1) := by decide +kernel
theorem dX6_nextSeats_123 : decode cX6_nextSeats 123 = .ok (.ireturn, 1) := by decide +kernel
theorem dX6_changeSeats_0 : decode cX6_changeSeats 0 = .ok (.aload_n 0, 1) := by decide +kernel
theorem dX6_changeSeats_1 : decode cX6_changeSeats 1 = .ok (.getfield 54, 3) := by decide +kernel
theorem dX6_changeSeats_4 : decode cX6_changeSeats 4 = .ok (.iload_n 1, 1) := by decide +kernel
theorem dX6_changeSeats_5 : decode cX6_changeSeats 5 = .ok (.iaload, 1) := by decide +kernel
theorem dX6_changeSeats_6 : decode cX6_changeSeats 6 = .ok (.istore_n 3, 1) := by decide +kernel
theorem dX6_changeSeats_7 : decode cX6_changeSeats 7 = .ok (.aload_n 0, 1) := by decide +kernel
theorem dX6_changeSeats_8 : decode cX6_changeSeats 8 = .ok (.getfield 54, 3) := by decide +kernel
theorem dX6_changeSeats_11 : decode cX6_changeSeats 11 = .ok (.iload_n 1, 1) := by decide +kernel
theorem dX6_changeSeats_12 : decode cX6_changeSeats 12 = .ok (.aload_n 0, 1) := by decide +kernel
theorem dX6_changeSeats_13 : decode cX6_changeSeats 13 = .ok (.getfield 54, 3) := by decide +kernel
theorem dX6_changeSeats_16 : decode cX6_changeSeats 16 = .ok (.iload_n 2, 1) := by decide +kernel
theorem dX6_changeSeats_17 : decode cX6_changeSeats 17 = .ok (.iaload, 1) := by decide +kernel
theorem dX6_changeSeats_18 : decode cX6_changeSeats 18 = .ok (.iastore, 1) := by decide +kernel
theorem dX6_changeSeats_19 : decode cX6_changeSeats 19 = .ok (.aload_n 0, 1) := by decide +kernel
theorem dX6_changeSeats_20 : decode cX6_changeSeats 20 = .ok (.getfield 54, 3) := by decide +kernel
theorem dX6_changeSeats_23 : decode cX6_changeSeats 23 = .ok (.iload_n 2, 1) := by decide +kernel
theorem dX6_changeSeats_24 : decode cX6_changeSeats 24 = .ok (.iload_n 3, 1) := by decide +kernel
theorem dX6_changeSeats_25 : decode cX6_changeSeats 25 = .ok (.iastore, 1) := by decide +kernel
theorem dX6_changeSeats_26 : decode cX6_changeSeats 26 = .ok (.return_, 1) := by decide +kernel
theorem dX6_tellSeats_0 : decode cX6_tellSeats 0 = .ok (.iconst 0, 1) := by decide +kernel
theorem dX6_tellSeats_1 : decode cX6_tellSeats 1 = .ok (.istore 5, 2) := by decide +kernel
theorem dX6_tellSeats_3 : decode cX6_tellSeats 3 = .ok (.aload_n 0, 1) := by decide +kernel
theorem dX6_tellSeats_4 : decode cX6_tellSeats 4 = .ok (.getfield 50, 3) := by decide +kernel
theorem dX6_tellSeats_7 : decode cX6_tellSeats 7 = .ok (.iconst 0, 1) := by decide +kernel
theorem dX6_tellSeats_8 : decode cX6_tellSeats 8 = .ok (.putfield 157, 3) := by decide +kernel
theorem dX6_tellSeats_11 : decode cX6_tellSeats 11 = .ok (.iconst 0, 1) := by decide +kernel
theorem dX6_tellSeats_12 : decode cX6_tellSeats 12 = .ok (.istore 6, 2) := by decide +kernel
theorem dX6_tellSeats_14 : decode cX6_tellSeats 14 = .ok (.iload 6, 2) := by decide +kernel
theorem dX6_tellSeats_16 : decode cX6_tellSeats 16 = .ok (.aload_n 0, 1) := by decide +kernel
theorem dX6_tellSeats_17 : decode cX6_tellSeats 17 = .ok (.getfield 10, 3) := by decide +kernel
theorem dX6_tellSeats_20 : decode cX6_tellSeats 20 = .ok (.getfield 65, 3) := by decide +kernel
theorem dX6_tellSeats_23 : decode cX6_tellSeats 23 = .ok (.if_icmp .ge 46, 3) := by decide +kernel
theorem dX6_tellSeats_26 : decode cX6_tellSeats 26 = .ok (.aload_n 0, 1) := by decide +kernel
theorem dX6_tellSeats_27 : decode cX6_tellSeats 27 = .ok (.getfield 50, 3) := by decide +kernel
theorem dX6_tellSeats_30 : decode cX6_tellSeats 30 = .ok (.aload_n 0, 1) := by decide +kernel
theorem dX6_tellSeats_31 : decode cX6_tellSeats 31 = .ok (.getfield 58, 3) := by decide +kernel
theorem dX6_tellSeats_34 : decode cX6_tellSeats 34 = .ok (.iload 6, 2) := by decide +kernel
theorem dX6_tellSeats_36 : decode cX6_tellSeats 36 = .ok (.iaload, 1) := by decide +kernel
theorem dX6_tellSeats_37 : decode cX6_tellSeats 37 = .ok (.i2l, 1) := by decide +kernel
theorem dX6_tellSeats_38 : decode cX6_tellSeats 38 = .ok (.invokevirtual 186, 3) := by decide +kernel
theorem dX6_tellSeats_41 : decode cX6_tellSeats 41 = .ok (.iload 5, 2) := by decide +kernel
theorem dX6_tellSeats_43 : decode cX6_tellSeats 43 = .ok (.aload_n 0, 1) := by decide +kernel
theorem dX6_tellSeats_44 : decode cX6_tellSeats 44 = .ok (.getfield 58, 3) := by decide +kernel
theorem dX6_tellSeats_47 : decode cX6_tellSeats 47 = .ok (.iload 6, 2) := by decide +kernel
theorem dX6_tellSeats_49 : decode cX6_tellSeats 49 = .ok (.iaload, 1) := by decide +kernel
theorem dX6_tellSeats_50 : decode cX6_tellSeats 50 = .ok (.iload 6, 2) := by decide +kernel
theorem dX6_tellSeats_52 : decode cX6_tellSeats 52 = .ok (.if_icmp .eq 7, 3) := by decide +kernel
theorem dX6_tellSeats_55 : decode cX6_tellSeats 55 = .ok (.iconst 1, 1) := by decide +kernel
theorem dX6_tellSeats_56 : decode cX6_tellSeats 56 = .ok (.goto 4, 3) := by decide +kernel
theorem dX6_tellSeats_59 : decode cX6_tellSeats 59 = .ok (.iconst 0, 1) := by decide +kernel
theorem dX6_tellSeats_60 : decode cX6_tellSeats 60 = .ok (.ior, 1) := by decide +kernel
theorem dX6_tellSeats_61 : decode cX6_tellSeats 61 = .ok (.istore 5, 2) := by decide +kernel
theorem dX6_tellSeats_63 : decode cX6_tellSeats 63 = .ok (.iinc 6 1, 3) := by decide +kernel
theorem dX6_tellSeats_66 : decode cX6_tellSeats 66 = .ok (.goto (-52), 3) := by decide +kernel
theorem dX6_tellSeats_69 : decode cX6_tellSeats 69 = .ok (.aload_n 0, 1) := by decide +kernel
theorem dX6_tellSeats_70 : decode cX6_tellSeats 70 = .ok (.getfield 50, 3) := by decide +kernel
theorem dX6_tellSeats_73 : decode cX6_tellSeats 73 = .ok (.lload_n 1, 1) := by decide +kernel
theorem dX6_tellSeats_74 : decode cX6_tellSeats 74 = .ok (.lload_n 3, 1) := by decide +kernel
theorem dX6_tellSeats_75 : decode cX6_tellSeats 75 = .ok (.invokevirtual 172, 3) := by decide +kernel
theorem dX6_tellSeats_78 : decode cX6_tellSeats 78 = .ok (.iload 5, 2) := by decide +kernel
theorem dX6_tellSeats_80 : decode cX6_tellSeats 80 = .ok (.ifCond .eq 7, 3) := by decide +kernel
theorem dX6_tellSeats_83 : decode cX6_tellSeats 83 = .ok (.iconst 1, 1) := by decide +kernel
theorem dX6_tellSeats_84 : decode cX6_tellSeats 84 = .ok (.goto 4, 3) := by decide +kernel
theorem dX6_tellSeats_87 : decode cX6_tellSeats 87 = .ok (.iconst 0, 1) := by decide +kernel
theorem dX6_tellSeats_88 : decode cX6_tellSeats 88 = .ok (.ireturn, 1) := by decide +kernel
theorem dX6_divisor_0 : decode cX6_divisor 0 = .ok (.lload_n 0, 1) := by decide +kernel
theorem dX6_divisor_1 : decode cX6_divisor 1 = .ok (.lconst 0, 1) := by decide +kernel
theorem dX6_divisor_2 : decode cX6_divisor 2 = .ok (.lcmp, 1) := by decide +kernel
theorem dX6_divisor_3 : decode cX6_divisor 3 = .ok (.ifCond .ge 8, 3) := by decide +kernel
theorem dX6_divisor_6 : decode cX6_divisor 6 = .ok (.lload_n 0, 1) := by decide +kernel
theorem dX6_divisor_7 : decode cX6_divisor 7 = .ok (.lneg, 1) := by decide +kernel
theorem dX6_divisor_8 : decode cX6_divisor 8 = .ok (.goto 4, 3) := by decide +kernel
theorem dX6_divisor_11 : decode cX6_divisor 11 = .ok (.lload_n 0, 1) := by decide +kernel
theorem dX6_divisor_12 : decode cX6_divisor 12 = .ok (.lstore 4, 2) := by decide +kernel
theorem dX6_divisor_14 : decode cX6_divisor 14 = .ok (.lload_n 2, 1) := by decide +kernel
theorem dX6_divisor_15 : decode cX6_divisor 15 = .ok (.lconst 0, 1) := by decide +kernel
theorem dX6_divisor_16 : decode cX6_divisor 16 = .ok (.lcmp, 1) := by decide +kernel
theorem dX6_divisor_17 : decode cX6_divisor 17 = .ok (.ifCond .ge 8, 3) := by decide +kernel
theorem dX6_divisor_20 : decode cX6_divisor 20 = .ok (.lload_n 2, 1) := by decide +kernel
theorem dX6_divisor_21 : decode cX6_divisor 21 = .ok (.lneg, 1) := by decide +kernel
theorem dX6_divisor_22 : decode cX6_divisor 22 = .ok (.goto 4, 3) := by decide +kernel
theorem dX6_divisor_25 : decode cX6_divisor 25 = .ok (.lload_n 2, 1) := by decide +kernel
theorem dX6_divisor_26 : decode cX6_divisor 26 = .ok (.lstore 6, 2) := by decide +kernel
theorem dX6_divisor_28 : decode cX6_divisor 28 = .ok (.iconst 0, 1) := by decide +kernel
theorem dX6_divisor_29 : decode cX6_divisor 29 = .ok (.istore 8, 2) := by decide +kernel
theorem dX6_divisor_31 : decode cX6_divisor 31 = .ok (.iload 8, 2) := by decide +kernel
theorem dX6_divisor_33 : decode cX6_divisor 33 = .ok (.bipush 100, 2) := by decide +kernel
theorem dX6_divisor_35 : decode cX6_divisor 35 = .ok (.if_icmp .ge 31, 3) := by decide +kernel
theorem dX6_divisor_38 : decode cX6_divisor 38 = .ok (.lload 6, 2) := by decide +kernel
theorem dX6_divisor_40 : decode cX6_divisor 40 = .ok (.lconst 0, 1) := by decide +kernel
theorem dX6_divisor_41 : decode cX6_divisor 41 = .ok (.lcmp, 1) := by decide +kernel
theorem dX6_divisor_42 : decode cX6_divisor 42 = .ok (.ifCond .eq 24, 3) := by decide +kernel
theorem dX6_divisor_45 : decode cX6_divisor 45 = .ok (.lload 4, 2) := by decide +kernel
theorem dX6_divisor_47 : decode cX6_divisor 47 = .ok (.lload 6, 2) := by decide +kernel
theorem dX6_divisor_49 : decode cX6_divisor 49 = .ok (.lrem, 1) := by decide +kernel
theorem dX6_divisor_50 : decode cX6_divisor 50 = .ok (.lstore 9, 2) := by decide +kernel
theorem dX6_divisor_52 : decode cX6_divisor 52 = .ok (.lload 6, 2) := by decide +kernel
theorem dX6_divisor_54 : decode cX6_divisor 54 = .ok (.lstore 4, 2) := by decide +kernel
theorem dX6_divisor_56 : decode cX6_divisor 56 = .ok (.lload 9, 2) := by decide +kernel
theorem dX6_divisor_58 : decode cX6_divisor 58 = .ok (.lstore 6, 2) := by decide +kernel
theorem dX6_divisor_60 : decode cX6_divisor 60 = .ok (.iinc 8 1, 3) := by decide +kernel
theorem dX6_divisor_63 : decode cX6_divisor 63 = .ok (.goto (-32), 3) := by decide +kernel
theorem dX6_divisor_66 : decode cX6_divisor 66 = .ok (.lload 4, 2) := by decide +kernel
theorem dX6_divisor_68 : decode cX6_divisor 68 = .ok (.lreturn, 1) := by decide +kernel
theorem dX7_init_0 : decode cX7_init 0 = .ok (.aload_n 0, 1) := by decide +kernel
theorem dX7_init_1 : decode cX7_init 1 = .ok (.invokespecial 1, 3) := by decide +kernel
theorem dX7_init_4 : decode cX7_init 4 = .ok (.aload_n 0, 1) := by decide +kernel
theorem dX7_init_5 : decode cX7_init 5 = .ok (.bipush 35, 2) := by decide +kernel
theorem dX7_init_7 : decode cX7_init 7 = .ok (.newarray .int, 2) := by decide +kernel
theorem dX7_init_9 : decode cX7_init 9 = .ok (.putfield 9, 3) := by decide +kernel
theorem dX7_init_12 : decode cX7_init 12 = .ok (.aload_n 0, 1) := by decide +kernel
theorem dX7_init_13 : decode cX7_init 13 = .ok (.iconst 1, 1) := by decide +kernel
theorem dX7_init_14 : decode cX7_init 14 = .ok (.putfield 13, 3) := by decide +kernel
theorem dX7_init_17 : decode cX7_init 17 = .ok (.aload_n 0, 1) := by decide +kernel
theorem dX7_init_18 : decode cX7_init 18 = .ok (.iconst 1, 1) := by decide +kernel
theorem dX7_init_19 : decode cX7_init 19 = .ok (.putfield 17, 3) := by decide +kernel
theorem dX7_init_22 : decode cX7_init 22 = .ok (.aload_n 0, 1) := by decide +kernel
theorem dX7_init_23 : decode cX7_init 23 = .ok (.bipush 80, 2) := by decide +kernel
theorem dX7_init_25 : decode cX7_init 25 = .ok (.newarray .byte, 2) := by decide +kernel
theorem dX7_init_27 : decode cX7_init 27 = .ok (.putfield 20, 3) := by decide +kernel
theorem dX7_init_30 : decode cX7_init 30 = .ok (.aload_n 0, 1) := by decide +kernel
theorem dX7_init_31 : decode cX7_init 31 = .ok (.bipush 64, 2) := by decide +kernel
theorem dX7_init_33 : decode cX7_init 33 = .ok (.newarray .long, 2) := by decide +kernel
theorem dX7_init_35 : decode cX7_init 35 = .ok (.putfield 24, 3) := by decide +kernel
theorem dX7_init_38 : decode cX7_init 38 = .ok (.aload_n 0, 1) := by decide +kernel
theorem dX7_init_39 : decode cX7_init 39 = .ok (.bipush 32, 2) := by decide +kernel
theorem dX7_init_41 : decode cX7_init 41 = .ok (.newarray .int, 2) := by decide +kernel
theorem dX7_init_43 : decode cX7_init 43 = .ok (.putfield 28, 3) := by decide +kernel
theorem dX7_init_46 : decode cX7_init 46 = .ok (.aload_n 0, 1) := by decide +kernel
theorem dX7_init_47 : decode cX7_init 47 = .ok (.iconst 5, 1) := by decide +kernel
theorem dX7_init_48 : decode cX7_init 48 = .ok (.newarray .int, 2) := by decide +kernel
theorem dX7_init_50 : decode cX7_init 50 = .ok (.putfield 31, 3) := by decide +kernel
theorem dX7_init_53 : decode cX7_init 53 = .ok (.aload_n 0, 1) := by decide +kernel
theorem dX7_init_54 : decode cX7_init 54 = .ok (.iconst 5, 1) := by decide +kernel
theorem dX7_init_55 : decode cX7_init 55 = .ok (.newarray .long, 2) := by decide +kernel
theorem dX7_init_57 : decode cX7_init 57 = .ok (.putfield 34, 3) := by decide +kernel
theorem dX7_init_60 : decode cX7_init 60 = .ok (.aload_n 0, 1) := by decide +kernel
theorem dX7_init_61 : decode cX7_init 61 = .ok (.iconst 5, 1) := by decide +kernel
theorem dX7_init_62 : decode cX7_init 62 = .ok (.newarray .long, 2) := by decide +kernel
theorem dX7_init_64 : decode cX7_init 64 = .ok (.putfield 37, 3) := by decide +kernel
theorem dX7_init_67 : decode cX7_init 67 = .ok (.aload_n 0, 1) := by decide +kernel
theorem dX7_init_68 : decode cX7_init 68 = .ok (.iconst 5, 1) := by decide +kernel
theorem dX7_init_69 : decode cX7_init 69 = .ok (.newarray .long, 2) := by decide +kernel
theorem dX7_init_71 : decode cX7_init 71 = .ok (.putfield 40, 3) := by decide +kernel
theorem dX7_init_74 : decode cX7_init 74 = .ok (.aload_n 0, 1) := by decide +kernel
theorem dX7_init_75 : decode cX7_init 75 = .ok (.iconst 5, 1) := by decide +kernel
theorem dX7_init_76 : decode cX7_init 76 = .ok (.newarray .long, 2) := by decide +kernel
theorem dX7_init_78 : decode cX7_init 78 = .ok (.putfield 43, 3) := by decide +kernel
theorem dX7_init_81 : decode cX7_init 81 = .ok (.aload_n 0, 1) := by decide +kernel
theorem dX7_init_82 : decode cX7_init 82 = .ok (.iconst 5, 1) := by decide +kernel
theorem dX7_init_83 : decode cX7_init 83 = .ok (.newarray .long, 2) := by decide +kernel
theorem dX7_init_85 : decode cX7_init 85 = .ok (.putfield 46, 3) := by decide +kernel
theorem dX7_init_88 : decode cX7_init 88 = .ok (.aload_n 0, 1) := by decide +kernel
theorem dX7_init_89 : decode cX7_init 89 = .ok (.iconst 5, 1) := by decide +kernel
theorem dX7_init_90 : decode cX7_init 90 = .ok (.newarray .int, 2) := by decide +kernel
theorem dX7_init_92 : decode cX7_init 92 = .ok (.putfield 49, 3) := by decide +kernel
theorem dX7_init_95 : decode cX7_init 95 = .ok (.aload_n 0, 1) := by decide +kernel
theorem dX7_init_96 : decode cX7_init 96 = .ok (.bipush 35, 2) := by decide +kernel
theorem dX7_init_98 : decode cX7_init 98 = .ok (.newarray .long, 2) := by decide +kernel
theorem dX7_init_100 : decode cX7_init 100 = .ok (.putfield 52, 3) := by decide +kernel
theorem dX7_init_103 : decode cX7_init 103 = .ok (.aload_n 0, 1) := by decide +kernel
theorem dX7_init_104 : decode cX7_init 104 = .ok (.bipush 32, 2) := by decide +kernel
theorem dX7_init_106 : decode cX7_init 106 = .ok (.newarray .int, 2) := by decide +kernel
theorem dX7_init_108 : decode cX7_init 108 = .ok (.putfield 55, 3) := by decide +kernel
theorem dX7_init_111 : decode cX7_init 111 = .ok (.aload_n 0, 1) := by decide +kernel
theorem dX7_init_112 : decode cX7_init 112 = .ok (.bipush 32, 2) := by decide +kernel
theorem dX7_init_114 : decode cX7_init 114 = .ok (.newarray .int, 2) := by decide +kernel
theorem dX7_init_116 : decode cX7_init 116 = .ok (.putfield 58, 3) := by decide +kernel
theorem dX7_init_119 : decode cX7_init 119 = .ok (.aload_n 0, 1) := by decide +kernel
theorem dX7_init_120 : decode cX7_init 120 = .ok (.bipush 32, 2) := by decide +kernel
theorem dX7_init_122 : decode cX7_init 122 = .ok (.newarray .long, 2) := by decide +kernel
theorem dX7_init_124 : decode cX7_init 124 = .ok (.putfield 61, 3) := by decide +kernel
theorem dX7_init_127 : decode cX7_init 127 = .ok (.aload_n 0, 1) := by decide +kernel
theorem dX7_init_128 : decode cX7_init 128 = .ok (.bipush 32, 2) := by decide +kernel
theorem dX7_init_130 : decode cX7_init 130 = .ok (.newarray .long, 2) := by decide +kernel
theorem dX7_init_132 : decode cX7_init 132 = .ok (.putfield 64, 3) := by decide +kernel
theorem dX7_init_135 : decode cX7_init 135 = .ok (.aload_n 0, 1) := by decide +kernel
theorem dX7_init_136 : decode cX7_init 136 = .ok (.iconst 5, 1) := by decide +kernel
theorem dX7_init_137 : decode cX7_init 137 = .ok (.newarray .int, 2) := by decide +kernel
theorem dX7_init_139 : decode cX7_init 139 = .ok (.putfield 67, 3) := by decide +kernel
theorem dX7_init_142 : decode cX7_init 142 = .ok (.aload_n 0, 1) := by decide +kernel
theorem dX7_init_143 : decode cX7_init 143 = .ok (.iconst 5, 1) := by decide +kernel
theorem dX7_init_144 : decode cX7_init 144 = .ok (.newarray .boolean, 2) := by decide +kernel
theorem dX7_init_146 : decode cX7_init 146 = .ok (.putfield 70, 3) := by decide +kernel
theorem dX7_init_149 : decode cX7_init 149 = .ok (.aload_n 0, 1) := by decide +kernel
theorem dX7_init_150 : decode cX7_init 150 = .ok (.iconst 5, 1) := by decide +kernel
theorem dX7_init_151 : decode cX7_init 151 = .ok (.newarray .boolean, 2) := by decide +kernel
theorem dX7_init_153 : decode cX7_init 153 = .ok (.putfield 74, 3) := by decide +kernel
theorem dX7_init_156 : decode cX7_init 156 = .ok (.aload_n 0, 1) := by decide +kernel
theorem dX7_init_157 : decode cX7_init 157 = .ok (.bipush 25, 2) := by decide +kernel
theorem dX7_init_159 : decode cX7_init 159 = .ok (.newarray .long, 2) := by decide +kernel
theorem dX7_init_161 : decode cX7_init 161 = .ok (.putfield 77, 3) := by decide +kernel
theorem dX7_init_164 : decode cX7_init 164 = .ok (.aload_n 0, 1) := by decide +kernel
theorem dX7_init_165 : decode cX7_init 165 = .ok (.iconst 5, 1) := by decide +kernel
theorem dX7_init_166 : decode cX7_init 166 = .ok (.newarray .long, 2) := by decide +kernel
theorem dX7_init_168 : decode cX7_init 168 = .ok (.putfield 80, 3) := by decide +kernel
theorem dX7_init_171 : decode cX7_init 171 = .ok (.aload_n 0, 1) := by decide +kernel
theorem dX7_init_172 : decode cX7_init 172 = .ok (.bipush 25, 2) := by decide +kernel
theorem dX7_init_174 : decode cX7_init 174 = .ok (.newarray .long, 2) := by decide +kernel
theorem dX7_init_176 : decode cX7_init 176 = .ok (.putfield 83, 3) := by decide +kernel
theorem dX7_init_179 : decode cX7_init 179 = .ok (.aload_n 0, 1) := by decide +kernel
theorem dX7_init_180 : decode cX7_init 180 = .ok (.iconst 5, 1) := by decide +kernel
theorem dX7_init_181 : decode cX7_init 181 = .ok (.newarray .long, 2) := by decide +kernel
theorem dX7_init_183 : decode cX7_init 183 = .ok (.putfield 86, 3) := by decide +kernel
theorem dX7_init_186 : decode cX7_init 186 = .ok (.aload_n 0, 1) := by decide +kernel
theorem dX7_init_187 : decode cX7_init 187 = .ok (.iconst 5, 1) := by decide +kernel
theorem dX7_init_188 : decode cX7_init 188 = .ok (.newarray .long, 2) := by decide +kernel
theorem dX7_init_190 : decode cX7_init 190 = .ok (.putfield 89, 3) := by decide +kernel
theorem dX7_init_193 : decode cX7_init 193 = .ok (.aload_n 0, 1) := by decide +kernel
theorem dX7_init_194 : decode cX7_init 194 = .ok (.iconst 5, 1) := by decide +kernel
theorem dX7_init_195 : decode cX7_init 195 = .ok (.newarray .long, 2) := by decide +kernel
theorem dX7_init_197 : decode cX7_init 197 = .ok (.putfield 92, 3) := by decide +kernel
theorem dX7_init_200 : decode cX7_init 200 = .ok (.aload_n 0, 1) := by decide +kernel
theorem dX7_init_201 : decode cX7_init 201 = .ok (.iconst 5, 1) := by decide +kernel
theorem dX7_init_202 : decode cX7_init 202 = .ok (.newarray .long, 2) := by decide +kernel
theorem dX7_init_204 : decode cX7_init 204 = .ok (.putfield 95, 3) := by decide +kernel
theorem dX7_init_207 : decode cX7_init 207 = .ok (.aload_n 0, 1) := by decide +kernel
theorem dX7_init_208 : decode cX7_init 208 = .ok (.bipush 35, 2) := by decide +kernel
theorem dX7_init_210 : decode cX7_init 210 = .ok (.newarray .int, 2) := by decide +kernel
theorem dX7_init_212 : decode cX7_init 212 = .ok (.putfield 98, 3) := by decide +kernel
theorem dX7_init_215 : decode cX7_init 215 = .ok (.aload_n 0, 1) := by decide +kernel
theorem dX7_init_216 : decode cX7_init 216 = .ok (.iconst 5, 1) := by decide +kernel
theorem dX7_init_217 : decode cX7_init 217 = .ok (.newarray .int, 2) := by decide +kernel
theorem dX7_init_219 : decode cX7_init 219 = .ok (.putfield 101, 3) := by decide +kernel
theorem dX7_init_222 : decode cX7_init 222 = .ok (.aload_n 0, 1) := by decide +kernel
theorem dX7_init_223 : decode cX7_init 223 = .ok (.iconst 5, 1) := by decide +kernel
theorem dX7_init_224 : decode cX7_init 224 = .ok (.newarray .int, 2) := by decide +kernel
theorem dX7_init_226 : decode cX7_init 226 = .ok (.putfield 104, 3) := by decide +kernel
theorem dX7_init_229 : decode cX7_init 229 = .ok (.return_, 1) := by decide +kernel
theorem dX7_thrown_0 : decode cX7_thrown 0 = .ok (.aload_n 0, 1) := by decide +kernel
theorem dX7_thrown_1 : decode cX7_thrown 1 = .ok (.getfield 107, 3) := by decide +kernel
theorem dX7_thrown_4 : decode cX7_thrown 4 = .ok (.ireturn, 1) := by decide +kernel
theorem dX7_in_0 : decode cX7_in 0 = .ok (.lload_n 0, 1) := by decide +kernel
theorem dX7_in_1 : decode cX7_in 1 = .ok (.lload_n 2, 1) := by decide +kernel
theorem dX7_in_2 : decode cX7_in 2 = .ok (.lcmp, 1) := by decide +kernel
theorem dX7_in_3 : decode cX7_in 3 = .ok (.ifCond .lt 14, 3) := by decide +kernel
theorem dX7_in_6 : decode cX7_in 6 = .ok (.lload_n 0, 1) := by decide +kernel
theorem dX7_in_7 : decode cX7_in 7 = .ok (.lload 4, 2) := by decide +kernel
theorem dX7_in_9 : decode cX7_in 9 = .ok (.lcmp, 1) := by decide +kernel
theorem dX7_in_10 : decode cX7_in 10 = .ok (.ifCond .gt 7, 3) := by decide +kernel
theorem dX7_in_13 : decode cX7_in 13 = .ok (.iconst 1, 1) := by decide +kernel
theorem dX7_in_14 : decode cX7_in 14 = .ok (.goto 4, 3) := by decide +kernel
theorem dX7_in_17 : decode cX7_in 17 = .ok (.iconst 0, 1) := by decide +kernel
theorem dX7_in_18 : decode cX7_in 18 = .ok (.ireturn, 1) := by decide +kernel
theorem dX7_lost_0 : decode cX7_lost 0 = .ok (.aload_n 0, 1) := by decide +kernel
theorem dX7_lost_1 : decode cX7_lost 1 = .ok (.iconst 1, 1) := by decide +kernel
theorem dX7_lost_2 : decode cX7_lost 2 = .ok (.putfield 107, 3) := by decide +kernel
theorem dX7_lost_5 : decode cX7_lost 5 = .ok (.iconst 0, 1) := by decide +kernel
theorem dX7_lost_6 : decode cX7_lost 6 = .ok (.ireturn, 1) := by decide +kernel
theorem dX7_tell_0 : decode cX7_tell 0 = .ok (.aload_n 0, 1) := by decide +kernel
theorem dX7_tell_1 : decode cX7_tell 1 = .ok (.getfield 24, 3) := by decide +kernel
theorem dX7_tell_4 : decode cX7_tell 4 = .ok (.aload_n 0, 1) := by decide +kernel
theorem dX7_tell_5 : decode cX7_tell 5 = .ok (.getfield 110, 3) := by decide +kernel
theorem dX7_tell_8 : decode cX7_tell 8 = .ok (.lload_n 1, 1) := by decide +kernel
theorem dX7_tell_9 : decode cX7_tell 9 = .ok (.lastore, 1) := by decide +kernel
theorem dX7_tell_10 : decode cX7_tell 10 = .ok (.aload_n 0, 1) := by decide +kernel
theorem dX7_tell_11 : decode cX7_tell 11 = .ok (.dup, 1) := by decide +kernel
theorem dX7_tell_12 : decode cX7_tell 12 = .ok (.getfield 110, 3) := by decide +kernel
theorem dX7_tell_15 : decode cX7_tell 15 = .ok (.iconst 1, 1) := by decide +kernel
theorem dX7_tell_16 : decode cX7_tell 16 = .ok (.iadd, 1) := by decide +kernel
theorem dX7_tell_17 : decode cX7_tell 17 = .ok (.putfield 110, 3) := by decide +kernel
theorem dX7_tell_20 : decode cX7_tell 20 = .ok (.return_, 1) := by decide +kernel
theorem dX7_common_0 : decode cX7_common 0 = .ok (.lload_n 0, 1) := by decide +kernel
theorem dX7_common_1 : decode cX7_common 1 = .ok (.invokestatic 113, 3) := by decide +kernel
theorem dX7_common_4 : decode cX7_common 4 = .ok (.lstore 4, 2) := by decide +kernel
theorem dX7_common_6 : decode cX7_common 6 = .ok (.lload_n 2, 1) := by decide +kernel
theorem dX7_common_7 : decode cX7_common 7 = .ok (.lstore 6, 2) := by decide +kernel
theorem dX7_common_9 : decode cX7_common 9 = .ok (.lload 6, 2) := by decide +kernel
theorem dX7_common_11 : decode cX7_common 11 = .ok (.lconst 0, 1) := by decide +kernel
theorem dX7_common_12 : decode cX7_common 12 = .ok (.lcmp, 1) := by decide +kernel
theorem dX7_common_13 : decode cX7_common 13 = .ok (.ifCond .eq 21, 3) := by decide +kernel
theorem dX7_common_16 : decode cX7_common 16 = .ok (.lload 4, 2) := by decide +kernel
theorem dX7_common_18 : decode cX7_common 18 = .ok (.lload 6, 2) := by decide +kernel
theorem dX7_common_20 : decode cX7_common 20 = .ok (.lrem, 1) := by decide +kernel
theorem dX7_common_21 : decode cX7_common 21 = .ok (.lstore 8, 2) := by decide +kernel
theorem dX7_common_23 : decode cX7_common 23 = .ok (.lload 6, 2) := by decide +kernel
theorem dX7_common_25 : decode cX7_common 25 = .ok (.lstore 4, 2) := by decide +kernel
theorem dX7_common_27 : decode cX7_common 27 = .ok (.lload 8, 2) := by decide +kernel
theorem dX7_common_29 : decode cX7_common 29 = .ok (.lstore 6, 2) := by decide +kernel
theorem dX7_common_31 : decode cX7_common 31 = .ok (.goto (-22), 3) := by decide +kernel
theorem dX7_common_34 : decode cX7_common 34 = .ok (.lload 4, 2) := by decide +kernel
theorem dX7_common_36 : decode cX7_common 36 = .ok (.lreturn, 1) := by decide +kernel
theorem dX7_tellFraction_0 : decode cX7_tellFraction 0 = .ok (.lload_n 1, 1) := by decide +kernel
theorem dX7_tellFraction_1 : decode cX7_tellFraction 1 = .ok (.lconst 0, 1) := by decide +kernel
theorem dX7_tellFraction_2 : decode cX7_tellFraction 2 = .ok (.lcmp, 1) := by decide +kernel
theorem dX7_tellFraction_3 : decode cX7_tellFraction 3 = .ok (.ifCond .ne 7, 3) := by decide +kernel
theorem dX7_tellFraction_6 : decode cX7_tellFraction 6 = .ok (.lload_n 3, 1) := by decide +kernel
theorem dX7_tellFraction_7 : decode cX7_tellFraction 7 = .ok (.goto 8, 3) := by decide +kernel
theorem dX7_tellFraction_10 : decode cX7_tellFraction 10 = .ok (.lload_n 1, 1) := by decide +kernel
theorem dX7_tellFraction_11 : decode cX7_tellFraction 11 = .ok (.lload_n 3, 1) := by decide +kernel
theorem dX7_tellFraction_12 : decode cX7_tellFraction 12 = .ok (.invokestatic 119, 3) := by decide +kernel
theorem dX7_tellFraction_15 : decode cX7_tellFraction 15 = .ok (.lstore 5, 2) := by decide +kernel
theorem dX7_tellFraction_17 : decode cX7_tellFraction 17 = .ok (.aload_n 0, 1) := by decide +kernel
theorem dX7_tellFraction_18 : decode cX7_tellFraction 18 = .ok (.lload_n 1, 1) := by decide +kernel
theorem dX7_tellFraction_19 : decode cX7_tellFraction 19 = .ok (.lload 5, 2) := by decide +kernel
theorem dX7_tellFraction_21 : decode cX7_tellFraction 21 = .ok (.ldiv, 1) := by decide +kernel
theorem dX7_tellFraction_22 : decode cX7_tellFraction 22 = .ok (.invokevirtual 123, 3) := by decide +kernel
theorem dX7_tellFraction_25 : decode cX7_tellFraction 25 = .ok (.aload_n 0, 1) := by decide +kernel
theorem dX7_tellFraction_26 : decode cX7_tellFraction 26 = .ok (.lload_n 3, 1) := by decide +kernel
theorem dX7_tellFraction_27 : decode cX7_tellFraction 27 = .ok (.lload 5, 2) := by decide +kernel
theorem dX7_tellFraction_29 : decode cX7_tellFraction 29 = .ok (.ldiv, 1) := by decide +kernel
theorem dX7_tellFraction_30 : decode cX7_tellFraction 30 = .ok (.invokevirtual 123, 3) := by decide +kernel
theorem dX7_tellFraction_33 : decode cX7_tellFraction 33 = .ok (.return_, 1) := by decide +kernel
theorem dX7_of_0 : decode cX7_of 0 = .ok (.aload_n 0, 1) := by decide +kernel
theorem dX7_of_1 : decode cX7_of 1 = .ok (.getfield 9, 3) := by decide +kernel
theorem dX7_of_4 : decode cX7_of 4 = .ok (.bipush 7, 2) := by decide +kernel
theorem dX7_of_6 : decode cX7_of 6 = .ok (.iload_n 1, 1) := by decide +kernel
theorem dX7_of_7 : decode cX7_of 7 = .ok (.imul, 1) := by decide +kernel
theorem dX7_of_8 : decode cX7_of 8 = .ok (.iload_n 2, 1) := by decide +kernel
theorem dX7_of_9 : decode cX7_of 9 = .ok (.iadd, 1) := by decide +kernel
theorem dX7_of_10 : decode cX7_of 10 = .ok (.iaload, 1) := by decide +kernel
theorem dX7_of_11 : decode cX7_of 11 = .ok (.ireturn, 1) := by decide +kernel
theorem dX7_isBolt_0 : decode cX7_isBolt 0 = .ok (.iload_n 1, 1) := by decide +kernel
theorem dX7_isBolt_1 : decode cX7_isBolt 1 = .ok (.i2l, 1) := by decide +kernel
theorem dX7_isBolt_2 : decode cX7_isBolt 2 = .ok (.lconst 0, 1) := by decide +kernel
theorem dX7_isBolt_3 : decode cX7_isBolt 3 = .ok (.aload_n 0, 1) := by decide +kernel
theorem dX7_isBolt_4 : decode cX7_isBolt 4 = .ok (.getfield 127, 3) := by decide +kernel
theorem dX7_isBolt_7 : decode cX7_isBolt 7 = .ok (.iconst 1, 1) := by decide +kernel
theorem dX7_isBolt_8 : decode cX7_isBolt 8 = .ok (.isub, 1) := by decide +kernel
theorem dX7_isBolt_9 : decode cX7_isBolt 9 = .ok (.i2l, 1) := by decide +kernel
theorem dX7_isBolt_10 : decode cX7_isBolt 10 = .ok (.invokestatic 130, 3) := by decide +kernel
theorem dX7_isBolt_13 : decode cX7_isBolt 13 = .ok (.ireturn, 1) := by decide +kernel
theorem dX7_areRight_0 : decode cX7_areRight 0 = .ok (.iload_n 0, 1) := by decide +kernel
theorem dX7_areRight_1 : decode cX7_areRight 1 = .ok (.i2l, 1) := by decide +kernel
theorem dX7_areRight_2 : decode cX7_areRight 2 = .ok (.lconst 1, 1) := by decide +kernel
theorem dX7_areRight_3 : decode cX7_areRight 3 = .ok (.ldc2_w 134, 3) := by decide +kernel
theorem dX7_areRight_6 : decode cX7_areRight 6 = .ok (.invokestatic 130, 3) := by decide +kernel
theorem dX7_areRight_9 : decode cX7_areRight 9 = .ok (.ifCond .eq 60, 3) := by decide +kernel
theorem dX7_areRight_12 : decode cX7_areRight 12 = .ok (.iload_n 1, 1) := by decide +kernel
theorem dX7_areRight_13 : decode cX7_areRight 13 = .ok (.i2l, 1) := by decide +kernel
theorem dX7_areRight_14 : decode cX7_areRight 14 = .ok (.lconst 0, 1) := by decide +kernel
theorem dX7_areRight_15 : decode cX7_areRight 15 = .ok (.ldc2_w 136, 3) := by decide +kernel
theorem dX7_areRight_18 : decode cX7_areRight 18 = .ok (.invokestatic 130, 3) := by decide +kernel
theorem dX7_areRight_21 : decode cX7_areRight 21 = .ok (.ifCond .eq 48, 3) := by decide +kernel
theorem dX7_areRight_24 : decode cX7_areRight 24 = .ok (.iload_n 2, 1) := by decide +kernel
theorem dX7_areRight_25 : decode cX7_areRight 25 = .ok (.i2l, 1) := by decide +kernel
theorem dX7_areRight_26 : decode cX7_areRight 26 = .ok (.lconst 1, 1) := by decide +kernel
theorem dX7_areRight_27 : decode cX7_areRight 27 = .ok (.ldc2_w 138, 3) := by decide +kernel
theorem dX7_areRight_30 : decode cX7_areRight 30 = .ok (.invokestatic 130, 3) := by decide +kernel
theorem dX7_areRight_33 : decode cX7_areRight 33 = .ok (.ifCond .eq 36, 3) := by decide +kernel
theorem dX7_areRight_36 : decode cX7_areRight 36 = .ok (.iload_n 3, 1) := by decide +kernel
theorem dX7_areRight_37 : decode cX7_areRight 37 = .ok (.i2l, 1) := by decide +kernel
theorem dX7_areRight_38 : decode cX7_areRight 38 = .ok (.iload_n 0, 1) := by decide +kernel
theorem dX7_areRight_39 : decode cX7_areRight 39 = .ok (.i2l, 1) := by decide +kernel
theorem dX7_areRight_40 : decode cX7_areRight 40 = .ok (.ldc2_w 136, 3) := by decide +kernel
theorem dX7_areRight_43 : decode cX7_areRight 43 = .ok (.invokestatic 130, 3) := by decide +kernel
theorem dX7_areRight_46 : decode cX7_areRight 46 = .ok (.ifCond .eq 23, 3) := by decide +kernel
theorem dX7_areRight_49 : decode cX7_areRight 49 = .ok (.iload 4, 2) := by decide +kernel
theorem dX7_areRight_51 : decode cX7_areRight 51 = .ok (.i2l, 1) := by decide +kernel
theorem dX7_areRight_52 : decode cX7_areRight 52 = .ok (.iload_n 2, 1) := by decide +kernel
theorem dX7_areRight_53 : decode cX7_areRight 53 = .ok (.iconst 1, 1) := by decide +kernel
theorem dX7_areRight_54 : decode cX7_areRight 54 = .ok (.iadd, 1) := by decide +kernel
theorem dX7_areRight_55 : decode cX7_areRight 55 = .ok (.i2l, 1) := by decide +kernel
theorem dX7_areRight_56 : decode cX7_areRight 56 = .ok (.ldc2_w 140, 3) := by decide +kernel
theorem dX7_areRight_59 : decode cX7_areRight 59 = .ok (.invokestatic 130, 3) := by decide +kernel
theorem dX7_areRight_62 : decode cX7_areRight 62 = .ok (.ifCond .eq 7, 3) := by decide +kernel
theorem dX7_areRight_65 : decode cX7_areRight 65 = .ok (.iconst 1, 1) := by decide +kernel
theorem dX7_areRight_66 : decode cX7_areRight 66 = .ok (.goto 4, 3) := by decide +kernel
theorem dX7_areRight_69 : decode cX7_areRight 69 = .ok (.iconst 0, 1) := by decide +kernel
theorem dX7_areRight_70 : decode cX7_areRight 70 = .ok (.ireturn, 1) := by decide +kernel
theorem dX7_lays_0 : decode cX7_lays 0 = .ok (.aload_n 0, 1) := by decide +kernel
theorem dX7_lays_1 : decode cX7_lays 1 = .ok (.getfield 9, 3) := by decide +kernel
theorem dX7_lays_4 : decode cX7_lays 4 = .ok (.bipush 7, 2) := by decide +kernel
theorem dX7_lays_6 : decode cX7_lays 6 = .ok (.iload_n 1, 1) := by decide +kernel
theorem dX7_lays_7 : decode cX7_lays 7 = .ok (.imul, 1) := by decide +kernel
theorem dX7_lays_8 : decode cX7_lays 8 = .ok (.iconst 0, 1) := by decide +kernel
theorem dX7_lays_9 : decode cX7_lays 9 = .ok (.iadd, 1) := by decide +kernel
theorem dX7_lays_10 : decode cX7_lays 10 = .ok (.iload_n 2, 1) := by decide +kernel
theorem dX7_lays_11 : decode cX7_lays 11 = .ok (.iastore, 1) := by decide +kernel
theorem dX7_lays_12 : decode cX7_lays 12 = .ok (.aload_n 0, 1) := by decide +kernel
theorem dX7_lays_13 : decode cX7_lays 13 = .ok (.getfield 9, 3) := by decide +kernel
theorem dX7_lays_16 : decode cX7_lays 16 = .ok (.bipush 7, 2) := by decide +kernel
theorem dX7_lays_18 : decode cX7_lays 18 = .ok (.iload_n 1, 1) := by decide +kernel
theorem dX7_lays_19 : decode cX7_lays 19 = .ok (.imul, 1) := by decide +kernel
theorem dX7_lays_20 : decode cX7_lays 20 = .ok (.iconst 1, 1) := by decide +kernel
theorem dX7_lays_21 : decode cX7_lays 21 = .ok (.iadd, 1) := by decide +kernel
theorem dX7_lays_22 : decode cX7_lays 22 = .ok (.iload_n 3, 1) := by decide +kernel
theorem dX7_lays_23 : decode cX7_lays 23 = .ok (.iastore, 1) := by decide +kernel
theorem dX7_lays_24 : decode cX7_lays 24 = .ok (.aload_n 0, 1) := by decide +kernel
theorem dX7_lays_25 : decode cX7_lays 25 = .ok (.getfield 9, 3) := by decide +kernel
theorem dX7_lays_28 : decode cX7_lays 28 = .ok (.bipush 7, 2) := by decide +kernel
theorem dX7_lays_30 : decode cX7_lays 30 = .ok (.iload_n 1, 1) := by decide +kernel
theorem dX7_lays_31 : decode cX7_lays 31 = .ok (.imul, 1) := by decide +kernel
theorem dX7_lays_32 : decode cX7_lays 32 = .ok (.iconst 2, 1) := by decide +kernel
theorem dX7_lays_33 : decode cX7_lays 33 = .ok (.iadd, 1) := by decide +kernel
theorem dX7_lays_34 : decode cX7_lays 34 = .ok (.iload 4, 2) := by decide +kernel
theorem dX7_lays_36 : decode cX7_lays 36 = .ok (.iastore, 1) := by decide +kernel
theorem dX7_lays_37 : decode cX7_lays 37 = .ok (.aload_n 0, 1) := by decide +kernel
theorem dX7_lays_38 : decode cX7_lays 38 = .ok (.getfield 9, 3) := by decide +kernel
theorem dX7_lays_41 : decode cX7_lays 41 = .ok (.bipush 7, 2) := by decide +kernel
theorem dX7_lays_43 : decode cX7_lays 43 = .ok (.iload_n 1, 1) := by decide +kernel
theorem dX7_lays_44 : decode cX7_lays 44 = .ok (.imul, 1) := by decide +kernel
theorem dX7_lays_45 : decode cX7_lays 45 = .ok (.iconst 3, 1) := by decide +kernel
theorem dX7_lays_46 : decode cX7_lays 46 = .ok (.iadd, 1) := by decide +kernel
theorem dX7_lays_47 : decode cX7_lays 47 = .ok (.iload 5, 2) := by decide +kernel
theorem dX7_lays_49 : decode cX7_lays 49 = .ok (.iastore, 1) := by decide +kernel
theorem dX7_lays_50 : decode cX7_lays 50 = .ok (.aload_n 0, 1) := by decide +kernel
theorem dX7_lays_51 : decode cX7_lays 51 = .ok (.getfield 9, 3) := by decide +kernel
theorem dX7_lays_54 : decode cX7_lays 54 = .ok (.bipush 7, 2) := by decide +kernel
theorem dX7_lays_56 : decode cX7_lays 56 = .ok (.iload_n 1, 1) := by decide +kernel
theorem dX7_lays_57 : decode cX7_lays 57 = .ok (.imul, 1) := by decide +kernel
theorem dX7_lays_58 : decode cX7_lays 58 = .ok (.iconst 4, 1) := by decide +kernel
theorem dX7_lays_59 : decode cX7_lays 59 = .ok (.iadd, 1) := by decide +kernel
theorem dX7_lays_60 : decode cX7_lays 60 = .ok (.iload 6, 2) := by decide +kernel
theorem dX7_lays_62 : decode cX7_lays 62 = .ok (.iastore, 1) := by decide +kernel
theorem dX7_lays_63 : decode cX7_lays 63 = .ok (.return_, 1) := by decide +kernel
theorem dX7_comes_0 : decode cX7_comes 0 = .ok (.aload_n 0, 1) := by decide +kernel
theorem dX7_comes_1 : decode cX7_comes 1 = .ok (.getfield 9, 3) := by decide +kernel
theorem dX7_comes_4 : decode cX7_comes 4 = .ok (.bipush 7, 2) := by decide +kernel
theorem dX7_comes_6 : decode cX7_comes 6 = .ok (.aload_n 0, 1) := by decide +kernel
theorem dX7_comes_7 : decode cX7_comes 7 = .ok (.getfield 127, 3) := by decide +kernel
theorem dX7_comes_10 : decode cX7_comes 10 = .ok (.imul, 1) := by decide +kernel
theorem dX7_comes_11 : decode cX7_comes 11 = .ok (.iconst 5, 1) := by decide +kernel
theorem dX7_comes_12 : decode cX7_comes 12 = .ok (.iadd, 1) := by decide +kernel
theorem dX7_comes_13 : decode cX7_comes 13 = .ok (.iconst 0, 1) := by decide +kernel
theorem dX7_comes_14 : decode cX7_comes 14 = .ok (.iastore, 1) := by decide +kernel
theorem dX7_comes_15 : decode cX7_comes 15 = .ok (.aload_n 0, 1) := by decide +kernel
theorem dX7_comes_16 : decode cX7_comes 16 = .ok (.getfield 9, 3) := by decide +kernel
theorem dX7_comes_19 : decode cX7_comes 19 = .ok (.bipush 7, 2) := by decide +kernel
theorem dX7_comes_21 : decode cX7_comes 21 = .ok (.aload_n 0, 1) := by decide +kernel
theorem dX7_comes_22 : decode cX7_comes 22 = .ok (.getfield 127, 3) := by decide +kernel
theorem dX7_comes_25 : decode cX7_comes 25 = .ok (.imul, 1) := by decide +kernel
theorem dX7_comes_26 : decode cX7_comes 26 = .ok (.bipush 6, 2) := by decide +kernel
theorem dX7_comes_28 : decode cX7_comes 28 = .ok (.iadd, 1) := by decide +kernel
theorem dX7_comes_29 : decode cX7_comes 29 = .ok (.iconst 0, 1) := by decide +kernel
theorem dX7_comes_30 : decode cX7_comes 30 = .ok (.iastore, 1) := by decide +kernel
theorem dX7_comes_31 : decode cX7_comes 31 = .ok (.aload_n 0, 1) := by decide +kernel
theorem dX7_comes_32 : decode cX7_comes 32 = .ok (.getfield 127, 3) := by decide +kernel
theorem dX7_comes_35 : decode cX7_comes 35 = .ok (.ifCond .le 21, 3) := by decide +kernel
theorem dX7_comes_38 : decode cX7_comes 38 = .ok (.aload_n 0, 1) := by decide +kernel
theorem dX7_comes_39 : decode cX7_comes 39 = .ok (.getfield 9, 3) := by decide +kernel
theorem dX7_comes_42 : decode cX7_comes 42 = .ok (.bipush 7, 2) := by decide +kernel
theorem dX7_comes_44 : decode cX7_comes 44 = .ok (.aload_n 0, 1) := by decide +kernel
theorem dX7_comes_45 : decode cX7_comes 45 = .ok (.getfield 127, 3) := by decide +kernel
theorem dX7_comes_48 : decode cX7_comes 48 = .ok (.iconst 1, 1) := by decide +kernel
theorem dX7_comes_49 : decode cX7_comes 49 = .ok (.isub, 1) := by decide +kernel
theorem dX7_comes_50 : decode cX7_comes 50 = .ok (.imul, 1) := by decide +kernel
theorem dX7_comes_51 : decode cX7_comes 51 = .ok (.bipush 6, 2) := by decide +kernel
theorem dX7_comes_53 : decode cX7_comes 53 = .ok (.iadd, 1) := by decide +kernel
theorem dX7_comes_54 : decode cX7_comes 54 = .ok (.iconst 1, 1) := by decide +kernel
theorem dX7_comes_55 : decode cX7_comes 55 = .ok (.iastore, 1) := by decide +kernel
theorem dX7_comes_56 : decode cX7_comes 56 = .ok (.aload_n 0, 1) := by decide +kernel
theorem dX7_comes_57 : decode cX7_comes 57 = .ok (.dup, 1) := by decide +kernel
theorem dX7_comes_58 : decode cX7_comes 58 = .ok (.getfield 127, 3) := by decide +kernel
theorem dX7_comes_61 : decode cX7_comes 61 = .ok (.iconst 1, 1) := by decide +kernel
theorem dX7_comes_62 : decode cX7_comes 62 = .ok (.iadd, 1) := by decide +kernel
theorem dX7_comes_63 : decode cX7_comes 63 = .ok (.putfield 127, 3) := by decide +kernel
theorem dX7_comes_66 : decode cX7_comes 66 = .ok (.return_, 1) := by decide +kernel
theorem dX7_bolt_0 : decode cX7_bolt 0 = .ok (.aload_n 0, 1) := by decide +kernel
theorem dX7_bolt_1 : decode cX7_bolt 1 = .ok (.iconst 0, 1) := by decide +kernel
theorem dX7_bolt_2 : decode cX7_bolt 2 = .ok (.putfield 107, 3) := by decide +kernel
theorem dX7_bolt_5 : decode cX7_bolt 5 = .ok (.iload_n 1, 1) := by decide +kernel
theorem dX7_bolt_6 : decode cX7_bolt 6 = .ok (.iload_n 2, 1) := by decide +kernel
theorem dX7_bolt_7 : decode cX7_bolt 7 = .ok (.iload_n 3, 1) := by decide +kernel
theorem dX7_bolt_8 : decode cX7_bolt 8 = .ok (.iload 4, 2) := by decide +kernel
theorem dX7_bolt_10 : decode cX7_bolt 10 = .ok (.iload 5, 2) := by decide +kernel
theorem dX7_bolt_12 : decode cX7_bolt 12 = .ok (.invokestatic 142, 3) := by decide +kernel
theorem dX7_bolt_15 : decode cX7_bolt 15 = .ok (.ifCond .ne 5, 3) := by decide +kernel
theorem dX7_bolt_18 : decode cX7_bolt 18 = .ok (.iconst (-1), 1) := by decide +kernel
theorem dX7_bolt_19 : decode cX7_bolt 19 = .ok (.ireturn, 1) := by decide +kernel
theorem dX7_bolt_20 : decode cX7_bolt 20 = .ok (.aload_n 0, 1) := by decide +kernel
theorem dX7_bolt_21 : decode cX7_bolt 21 = .ok (.getfield 127, 3) := by decide +kernel
theorem dX7_bolt_24 : decode cX7_bolt 24 = .ok (.iconst 5, 1) := by decide +kernel
theorem dX7_bolt_25 : decode cX7_bolt 25 = .ok (.if_icmp .ne 6, 3) := by decide +kernel
theorem dX7_bolt_28 : decode cX7_bolt 28 = .ok (.bipush (-2), 2) := by decide +kernel
theorem dX7_bolt_30 : decode cX7_bolt 30 = .ok (.ireturn, 1) := by decide +kernel
theorem dX7_bolt_31 : decode cX7_bolt 31 = .ok (.aload_n 0, 1) := by decide +kernel
theorem dX7_bolt_32 : decode cX7_bolt 32 = .ok (.aload_n 0, 1) := by decide +kernel
theorem dX7_bolt_33 : decode cX7_bolt 33 = .ok (.getfield 127, 3) := by decide +kernel
theorem dX7_bolt_36 : decode cX7_bolt 36 = .ok (.iload_n 1, 1) := by decide +kernel
theorem dX7_bolt_37 : decode cX7_bolt 37 = .ok (.iload_n 2, 1) := by decide +kernel
theorem dX7_bolt_38 : decode cX7_bolt 38 = .ok (.iload_n 3, 1) := by decide +kernel
theorem dX7_bolt_39 : decode cX7_bolt 39 = .ok (.iload 4, 2) := by decide +kernel
theorem dX7_bolt_41 : decode cX7_bolt 41 = .ok (.iload 5, 2) := by decide +kernel
theorem dX7_bolt_43 : decode cX7_bolt 43 = .ok (.invokevirtual 146, 3) := by decide +kernel
theorem dX7_bolt_46 : decode cX7_bolt 46 = .ok (.aload_n 0, 1) := by decide +kernel
theorem dX7_bolt_47 : decode cX7_bolt 47 = .ok (.invokevirtual 150, 3) := by decide +kernel
theorem dX7_bolt_50 : decode cX7_bolt 50 = .ok (.aload_n 0, 1) := by decide +kernel
theorem dX7_bolt_51 : decode cX7_bolt 51 = .ok (.getfield 127, 3) := by decide +kernel
theorem dX7_bolt_54 : decode cX7_bolt 54 = .ok (.ireturn, 1) := by decide +kernel
theorem dX7_plates_0 : decode cX7_plates 0 = .ok (.aload_n 0, 1) := by decide +kernel
theorem dX7_plates_1 : decode cX7_plates 1 = .ok (.iconst 0, 1) := by decide +kernel
theorem dX7_plates_2 : decode cX7_plates 2 = .ok (.putfield 107, 3) := by decide +kernel
theorem dX7_plates_5 : decode cX7_plates 5 = .ok (.iload_n 1, 1) := by decide +kernel
theorem dX7_plates_6 : decode cX7_plates 6 = .ok (.i2l, 1) := by decide +kernel
theorem dX7_plates_7 : decode cX7_plates 7 = .ok (.lconst 0, 1) := by decide +kernel
theorem dX7_plates_8 : decode cX7_plates 8 = .ok (.ldc2_w 153, 3) := by decide +kernel
theorem dX7_plates_11 : decode cX7_plates 11 = .ok (.invokestatic 130, 3) := by decide +kernel
theorem dX7_plates_14 : decode cX7_plates 14 = .ok (.ifCond .eq 15, 3) := by decide +kernel
theorem dX7_plates_17 : decode cX7_plates 17 = .ok (.iload_n 2, 1) := by decide +kernel
theorem dX7_plates_18 : decode cX7_plates 18 = .ok (.i2l, 1) := by decide +kernel
theorem dX7_plates_19 : decode cX7_plates 19 = .ok (.lconst 0, 1) := by decide +kernel
theorem dX7_plates_20 : decode cX7_plates 20 = .ok (.ldc2_w 153, 3) := by decide +kernel
theorem dX7_plates_23 : decode cX7_plates 23 = .ok (.invokestatic 130, 3) := by decide +kernel
theorem dX7_plates_26 : decode cX7_plates 26 = .ok (.ifCond .ne 5, 3) := by decide +kernel
theorem dX7_plates_29 : decode cX7_plates 29 = .ok (.iconst (-1), 1) := by decide +kernel
theorem dX7_plates_30 : decode cX7_plates 30 = .ok (.ireturn, 1) := by decide +kernel
theorem dX7_plates_31 : decode cX7_plates 31 = .ok (.iload_n 1, 1) := by decide +kernel
theorem dX7_plates_32 : decode cX7_plates 32 = .ok (.aload_n 0, 1) := by decide +kernel
theorem dX7_plates_33 : decode cX7_plates 33 = .ok (.getfield 13, 3) := by decide +kernel
theorem dX7_plates_36 : decode cX7_plates 36 = .ok (.if_icmp .ne 14, 3) := by decide +kernel
theorem dX7_plates_39 : decode cX7_plates 39 = .ok (.iload_n 2, 1) := by decide +kernel
theorem dX7_plates_40 : decode cX7_plates 40 = .ok (.aload_n 0, 1) := by decide +kernel
theorem dX7_plates_41 : decode cX7_plates 41 = .ok (.getfield 17, 3) := by decide +kernel
theorem dX7_plates_44 : decode cX7_plates 44 = .ok (.if_icmp .ne 6, 3) := by decide +kernel
theorem dX7_plates_47 : decode cX7_plates 47 = .ok (.bipush (-2), 2) := by decide +kernel
theorem dX7_plates_49 : decode cX7_plates 49 = .ok (.ireturn, 1) := by decide +kernel
theorem dX7_plates_50 : decode cX7_plates 50 = .ok (.bipush 10, 2) := by decide +kernel
theorem dX7_plates_52 : decode cX7_plates 52 = .ok (.aload_n 0, 1) := by decide +kernel
theorem dX7_plates_53 : decode cX7_plates 53 = .ok (.getfield 13, 3) := by decide +kernel
theorem dX7_plates_56 : decode cX7_plates 56 = .ok (.imul, 1) := by decide +kernel
theorem dX7_plates_57 : decode cX7_plates 57 = .ok (.aload_n 0, 1) := by decide +kernel
theorem dX7_plates_58 : decode cX7_plates 58 = .ok (.getfield 17, 3) := by decide +kernel
theorem dX7_plates_61 : decode cX7_plates 61 = .ok (.iadd, 1) := by decide +kernel
theorem dX7_plates_62 : decode cX7_plates 62 = .ok (.istore_n 3, 1) := by decide +kernel
theorem dX7_plates_63 : decode cX7_plates 63 = .ok (.aload_n 0, 1) := by decide +kernel
theorem dX7_plates_64 : decode cX7_plates 64 = .ok (.iload_n 1, 1) := by decide +kernel
theorem dX7_plates_65 : decode cX7_plates 65 = .ok (.putfield 13, 3) := by decide +kernel
theorem dX7_plates_68 : decode cX7_plates 68 = .ok (.aload_n 0, 1) := by decide +kernel
theorem dX7_plates_69 : decode cX7_plates 69 = .ok (.iload_n 2, 1) := by decide +kernel
theorem dX7_plates_70 : decode cX7_plates 70 = .ok (.putfield 17, 3) := by decide +kernel
theorem dX7_plates_73 : decode cX7_plates 73 = .ok (.iload_n 3, 1) := by decide +kernel
theorem dX7_plates_74 : decode cX7_plates 74 = .ok (.ireturn, 1) := by decide +kernel
theorem dX7_pitch_0 : decode cX7_pitch 0 = .ok (.aload_n 0, 1) := by decide +kernel
theorem dX7_pitch_1 : decode cX7_pitch 1 = .ok (.iconst 0, 1) := by decide +kernel
theorem dX7_pitch_2 : decode cX7_pitch 2 = .ok (.putfield 107, 3) := by decide +kernel
theorem dX7_pitch_5 : decode cX7_pitch 5 = .ok (.iload_n 1, 1) := by decide +kernel
theorem dX7_pitch_6 : decode cX7_pitch 6 = .ok (.i2l, 1) := by decide +kernel
theorem dX7_pitch_7 : decode cX7_pitch 7 = .ok (.lconst 0, 1) := by decide +kernel
theorem dX7_pitch_8 : decode cX7_pitch 8 = .ok (.aload_n 0, 1) := by decide +kernel
theorem dX7_pitch_9 : decode cX7_pitch 9 = .ok (.getfield 127, 3) := by decide +kernel
theorem dX7_pitch_12 : decode cX7_pitch 12 = .ok (.iconst 2, 1) := by decide +kernel
theorem dX7_pitch_13 : decode cX7_pitch 13 = .ok (.isub, 1) := by decide +kernel
theorem dX7_pitch_14 : decode cX7_pitch 14 = .ok (.i2l, 1) := by decide +kernel
theorem dX7_pitch_15 : decode cX7_pitch 15 = .ok (.invokestatic 130, 3) := by decide +kernel
theorem dX7_pitch_18 : decode cX7_pitch 18 = .ok (.ifCond .eq 15, 3) := by decide +kernel
theorem dX7_pitch_21 : decode cX7_pitch 21 = .ok (.iload_n 2, 1) := by decide +kernel
theorem dX7_pitch_22 : decode cX7_pitch 22 = .ok (.i2l, 1) := by decide +kernel
theorem dX7_pitch_23 : decode cX7_pitch 23 = .ok (.lconst 0, 1) := by decide +kernel
theorem dX7_pitch_24 : decode cX7_pitch 24 = .ok (.ldc2_w 153, 3) := by decide +kernel
theorem dX7_pitch_27 : decode cX7_pitch 27 = .ok (.invokestatic 130, 3) := by decide +kernel
theorem dX7_pitch_30 : decode cX7_pitch 30 = .ok (.ifCond .ne 5, 3) := by decide +kernel
theorem dX7_pitch_33 : decode cX7_pitch 33 = .ok (.iconst (-1), 1) := by decide +kernel
theorem dX7_pitch_34 : decode cX7_pitch 34 = .ok (.ireturn, 1) := by decide +kernel
theorem dX7_pitch_35 : decode cX7_pitch 35 = .ok (.aload_n 0, 1) := by decide +kernel
theorem dX7_pitch_36 : decode cX7_pitch 36 = .ok (.iload_n 1, 1) := by decide +kernel
theorem dX7_pitch_37 : decode cX7_pitch 37 = .ok (.bipush 6, 2) := by decide +kernel
theorem dX7_pitch_39 : decode cX7_pitch 39 = .ok (.invokevirtual 155, 3) := by decide +kernel
theorem dX7_pitch_42 : decode cX7_pitch 42 = .ok (.istore_n 3, 1) := by decide +kernel
theorem dX7_pitch_43 : decode cX7_pitch 43 = .ok (.iload_n 3, 1) := by decide +kernel
theorem dX7_pitch_44 : decode cX7_pitch 44 = .ok (.iload_n 2, 1) := by decide +kernel
theorem dX7_pitch_45 : decode cX7_pitch 45 = .ok (.if_icmp .ne 6, 3) := by decide +kernel
theorem dX7_pitch_48 : decode cX7_pitch 48 = .ok (.bipush (-2), 2) := by decide +kernel
theorem dX7_pitch_50 : decode cX7_pitch 50 = .ok (.ireturn, 1) := by decide +kernel
theorem dX7_pitch_51 : decode cX7_pitch 51 = .ok (.aload_n 0, 1) := by decide +kernel
theorem dX7_pitch_52 : decode cX7_pitch 52 = .ok (.getfield 9, 3) := by decide +kernel
theorem dX7_pitch_55 : decode cX7_pitch 55 = .ok (.bipush 7, 2) := by decide +kernel
theorem dX7_pitch_57 : decode cX7_pitch 57 = .ok (.iload_n 1, 1) := by decide +kernel
theorem dX7_pitch_58 : decode cX7_pitch 58 = .ok (.imul, 1) := by decide +kernel
theorem dX7_pitch_59 : decode cX7_pitch 59 = .ok (.bipush 6, 2) := by decide +kernel
theorem dX7_pitch_61 : decode cX7_pitch 61 = .ok (.iadd, 1) := by decide +kernel
theorem dX7_pitch_62 : decode cX7_pitch 62 = .ok (.iload_n 2, 1) := by decide +kernel
theorem dX7_pitch_63 : decode cX7_pitch 63 = .ok (.iastore, 1) := by decide +kernel
theorem dX7_pitch_64 : decode cX7_pitch 64 = .ok (.iload_n 3, 1) := by decide +kernel
theorem dX7_pitch_65 : decode cX7_pitch 65 = .ok (.ireturn, 1) := by decide +kernel
theorem dX7_alters_0 : decode cX7_alters 0 = .ok (.aload_n 0, 1) := by decide +kernel
theorem dX7_alters_1 : decode cX7_alters 1 = .ok (.iconst 0, 1) := by decide +kernel
theorem dX7_alters_2 : decode cX7_alters 2 = .ok (.putfield 107, 3) := by decide +kernel
theorem dX7_alters_5 : decode cX7_alters 5 = .ok (.aload_n 0, 1) := by decide +kernel
theorem dX7_alters_6 : decode cX7_alters 6 = .ok (.iload_n 1, 1) := by decide +kernel
theorem dX7_alters_7 : decode cX7_alters 7 = .ok (.invokevirtual 159, 3) := by decide +kernel
theorem dX7_alters_10 : decode cX7_alters 10 = .ok (.ifCond .eq 17, 3) := by decide +kernel
theorem dX7_alters_13 : decode cX7_alters 13 = .ok (.iload_n 2, 1) := by decide +kernel
theorem dX7_alters_14 : decode cX7_alters 14 = .ok (.iload_n 3, 1) := by decide +kernel
theorem dX7_alters_15 : decode cX7_alters 15 = .ok (.iload 4, 2) := by decide +kernel
theorem dX7_alters_17 : decode cX7_alters 17 = .ok (.iload 5, 2) := by decide +kernel
theorem dX7_alters_19 : decode cX7_alters 19 = .ok (.iload 6, 2) := by decide +kernel
theorem dX7_alters_21 : decode cX7_alters 21 = .ok (.invokestatic 142, 3) := by decide +kernel
theorem dX7_alters_24 : decode cX7_alters 24 = .ok (.ifCond .ne 5, 3) := by decide +kernel
theorem dX7_alters_27 : decode cX7_alters 27 = .ok (.iconst (-1), 1) := by decide +kernel
theorem dX7_alters_28 : decode cX7_alters 28 = .ok (.ireturn, 1) := by decide +kernel
theorem dX7_alters_29 : decode cX7_alters 29 = .ok (.iconst 0, 1) := by decide +kernel
theorem dX7_alters_30 : decode cX7_alters 30 = .ok (.istore 7, 2) := by decide +kernel
theorem dX7_alters_32 : decode cX7_alters 32 = .ok (.iconst 0, 1) := by decide +kernel
theorem dX7_alters_33 : decode cX7_alters 33 = .ok (.istore 8, 2) := by decide +kernel
theorem dX7_alters_35 : decode cX7_alters 35 = .ok (.iload 8, 2) := by decide +kernel
theorem dX7_alters_37 : decode cX7_alters 37 = .ok (.iconst 4, 1) := by decide +kernel
theorem dX7_alters_38 : decode cX7_alters 38 = .ok (.if_icmp .gt 23, 3) := by decide +kernel
theorem dX7_alters_41 : decode cX7_alters 41 = .ok (.aload_n 0, 1) := by decide +kernel
theorem dX7_alters_42 : decode cX7_alters 42 = .ok (.getfield 98, 3) := by decide +kernel
theorem dX7_alters_45 : decode cX7_alters 45 = .ok (.iload 8, 2) := by decide +kernel
theorem dX7_alters_47 : decode cX7_alters 47 = .ok (.aload_n 0, 1) := by decide +kernel
theorem dX7_alters_48 : decode cX7_alters 48 = .ok (.iload_n 1, 1) := by decide +kernel
theorem dX7_alters_49 : decode cX7_alters 49 = .ok (.iload 8, 2) := by decide +kernel
theorem dX7_alters_51 : decode cX7_alters 51 = .ok (.invokevirtual 155, 3) := by decide +kernel
theorem dX7_alters_54 : decode cX7_alters 54 = .ok (.iastore, 1) := by decide +kernel
theorem dX7_alters_55 : decode cX7_alters 55 = .ok (.iinc 8 1, 3) := by decide +kernel
theorem dX7_alters_58 : decode cX7_alters 58 = .ok (.goto (-23), 3) := by decide +kernel
theorem dX7_alters_61 : decode cX7_alters 61 = .ok (.aload_n 0, 1) := by decide +kernel
theorem dX7_alters_62 : decode cX7_alters 62 = .ok (.iload_n 1, 1) := by decide +kernel
theorem dX7_alters_63 : decode cX7_alters 63 = .ok (.iload_n 2, 1) := by decide +kernel
theorem dX7_alters_64 : decode cX7_alters 64 = .ok (.iload_n 3, 1) := by decide +kernel
theorem dX7_alters_65 : decode cX7_alters 65 = .ok (.iload 4, 2) := by decide +kernel
theorem dX7_alters_67 : decode cX7_alters 67 = .ok (.iload 5, 2) := by decide +kernel
theorem dX7_alters_69 : decode cX7_alters 69 = .ok (.iload 6, 2) := by decide +kernel
theorem dX7_alters_71 : decode cX7_alters 71 = .ok (.invokevirtual 146, 3) := by decide +kernel
theorem dX7_alters_74 : decode cX7_alters 74 = .ok (.iconst 0, 1) := by decide +kernel
theorem dX7_alters_75 : decode cX7_alters 75 = .ok (.istore 8, 2) := by decide +kernel
theorem dX7_alters_77 : decode cX7_alters 77 = .ok (.iload 8, 2) := by decide +kernel
theorem dX7_alters_79 : decode cX7_alters 79 = .ok (.iconst 4, 1) := by decide +kernel
theorem dX7_alters_80 : decode cX7_alters 80 = .ok (.if_icmp .gt 36, 3) := by decide +kernel
theorem dX7_alters_83 : decode cX7_alters 83 = .ok (.iload 7, 2) := by decide +kernel
theorem dX7_alters_85 : decode cX7_alters 85 = .ok (.aload_n 0, 1) := by decide +kernel
theorem dX7_alters_86 : decode cX7_alters 86 = .ok (.getfield 98, 3) := by decide +kernel
theorem dX7_alters_89 : decode cX7_alters 89 = .ok (.iload 8, 2) := by decide +kernel
theorem dX7_alters_91 : decode cX7_alters 91 = .ok (.iaload, 1) := by decide +kernel
theorem dX7_alters_92 : decode cX7_alters 92 = .ok (.aload_n 0, 1) := by decide +kernel
theorem dX7_alters_93 : decode cX7_alters 93 = .ok (.iload_n 1, 1) := by decide +kernel
theorem dX7_alters_94 : decode cX7_alters 94 = .ok (.iload 8, 2) := by decide +kernel
theorem dX7_alters_96 : decode cX7_alters 96 = .ok (.invokevirtual 155, 3) := by decide +kernel
theorem dX7_alters_99 : decode cX7_alters 99 = .ok (.if_icmp .eq 7, 3) := by decide +kernel
theorem dX7_alters_102 : decode cX7_alters 102 = .ok (.iconst 1, 1) := by decide +kernel
theorem dX7_alters_103 : decode cX7_alters 103 = .ok (.goto 4, 3) := by decide +kernel
theorem dX7_alters_106 : decode cX7_alters 106 = .ok (.iconst 0, 1) := by decide +kernel
theorem dX7_alters_107 : decode cX7_alters 107 = .ok (.iadd, 1) := by decide +kernel
theorem dX7_alters_108 : decode cX7_alters 108 = .ok (.istore 7, 2) := by decide +kernel
theorem dX7_alters_110 : decode cX7_alters 110 = .ok (.iinc 8 1, 3) := by decide +kernel
theorem dX7_alters_113 : decode cX7_alters 113 = .ok (.goto (-36), 3) := by decide +kernel
theorem dX7_alters_116 : decode cX7_alters 116 = .ok (.iload 7, 2) := by decide +kernel
theorem dX7_alters_118 : decode cX7_alters 118 = .ok (.ifCond .ne 8, 3) := by decide +kernel
theorem dX7_alters_121 : decode cX7_alters 121 = .ok (.bipush (-2), 2) := by decide +kernel
theorem dX7_alters_123 : decode cX7_alters 123 = .ok (.goto 5, 3) := by decide +kernel
theorem dX7_alters_126 : decode cX7_alters 126 = .ok (.iload 7, 2) := by decide +kernel
theorem dX7_alters_128 : decode cX7_alters 128 = .ok (.ireturn, 1) := by decide +kernel
theorem dX7_soundMany_0 : decode cX7_soundMany 0 = .ok (.iconst 0, 1) := by decide +kernel
theorem dX7_soundMany_1 : decode cX7_soundMany 1 = .ok (.istore_n 1, 1) := by decide +kernel
theorem dX7_soundMany_2 : decode cX7_soundMany 2 = .ok (.iconst 0, 1) := by decide +kernel
theorem dX7_soundMany_3 : decode cX7_soundMany 3 = .ok (.istore_n 2, 1) := by decide +kernel
theorem dX7_soundMany_4 : decode cX7_soundMany 4 = .ok (.iload_n 2, 1) := by decide +kernel
theorem dX7_soundMany_5 : decode cX7_soundMany 5 = .ok (.aload_n 0, 1) := by decide +kernel
theorem dX7_soundMany_6 : decode cX7_soundMany 6 = .ok (.getfield 127, 3) := by decide +kernel
theorem dX7_soundMany_9 : decode cX7_soundMany 9 = .ok (.if_icmp .ge 20, 3) := by decide +kernel
theorem dX7_soundMany_12 : decode cX7_soundMany 12 = .ok (.iload_n 1, 1) := by decide +kernel
theorem dX7_soundMany_13 : decode cX7_soundMany 13 = .ok (.iconst 1, 1) := by decide +kernel
theorem dX7_soundMany_14 : decode cX7_soundMany 14 = .ok (.aload_n 0, 1) := by decide +kernel
theorem dX7_soundMany_15 : decode cX7_soundMany 15 = .ok (.iload_n 2, 1) := by decide +kernel
theorem dX7_soundMany_16 : decode cX7_soundMany 16 = .ok (.iconst 5, 1) := by decide +kernel
theorem dX7_soundMany_17 : decode cX7_soundMany 17 = .ok (.invokevirtual 155, 3) := by decide +kernel
theorem dX7_soundMany_20 : decode cX7_soundMany 20 = .ok (.isub, 1) := by decide +kernel
theorem dX7_soundMany_21 : decode cX7_soundMany 21 = .ok (.iadd, 1) := by decide +kernel
theorem dX7_soundMany_22 : decode cX7_soundMany 22 = .ok (.istore_n 1, 1) := by decide +kernel
theorem dX7_soundMany_23 : decode cX7_soundMany 23 = .ok (.iinc 2 1, 3) := by decide +kernel
theorem dX7_soundMany_26 : decode cX7_soundMany 26 = .ok (.goto (-22), 3) := by decide +kernel
theorem dX7_soundMany_29 : decode cX7_soundMany 29 = .ok (.iload_n 1, 1) := by decide +kernel
theorem dX7_soundMany_30 : decode cX7_soundMany 30 = .ok (.ireturn, 1) := by decide +kernel
theorem dX7_takes_0 : decode cX7_takes 0 = .ok (.aload_n 0, 1) := by decide +kernel
theorem dX7_takes_1 : decode cX7_takes 1 = .ok (.iconst 0, 1) := by decide +kernel
theorem dX7_takes_2 : decode cX7_takes 2 = .ok (.putfield 107, 3) := by decide +kernel
theorem dX7_takes_5 : decode cX7_takes 5 = .ok (.aload_n 0, 1) := by decide +kernel
theorem dX7_takes_6 : decode cX7_takes 6 = .ok (.iload_n 1, 1) := by decide +kernel
theorem dX7_takes_7 : decode cX7_takes 7 = .ok (.invokevirtual 159, 3) := by decide +kernel
theorem dX7_takes_10 : decode cX7_takes 10 = .ok (.ifCond .ne 5, 3) := by decide +kernel
theorem dX7_takes_13 : decode cX7_takes 13 = .ok (.iconst (-1), 1) := by decide +kernel
theorem dX7_takes_14 : decode cX7_takes 14 = .ok (.ireturn, 1) := by decide +kernel
theorem dX7_takes_15 : decode cX7_takes 15 = .ok (.aload_n 0, 1) := by decide +kernel
theorem dX7_takes_16 : decode cX7_takes 16 = .ok (.iload_n 1, 1) := by decide +kernel
theorem dX7_takes_17 : decode cX7_takes 17 = .ok (.iconst 5, 1) := by decide +kernel
theorem dX7_takes_18 : decode cX7_takes 18 = .ok (.invokevirtual 155, 3) := by decide +kernel
theorem dX7_takes_21 : decode cX7_takes 21 = .ok (.iload_n 2, 1) := by decide +kernel
theorem dX7_takes_22 : decode cX7_takes 22 = .ok (.ifCond .eq 7, 3) := by decide +kernel
theorem dX7_takes_25 : decode cX7_takes 25 = .ok (.iconst 1, 1) := by decide +kernel
theorem dX7_takes_26 : decode cX7_takes 26 = .ok (.goto 4, 3) := by decide +kernel
theorem dX7_takes_29 : decode cX7_takes 29 = .ok (.iconst 0, 1) := by decide +kernel
theorem dX7_takes_30 : decode cX7_takes 30 = .ok (.if_icmp .ne 6, 3) := by decide +kernel
theorem dX7_takes_33 : decode cX7_takes 33 = .ok (.bipush (-2), 2) := by decide +kernel
theorem dX7_takes_35 : decode cX7_takes 35 = .ok (.ireturn, 1) := by decide +kernel
theorem dX7_takes_36 : decode cX7_takes 36 = .ok (.aload_n 0, 1) := by decide +kernel
theorem dX7_takes_37 : decode cX7_takes 37 = .ok (.getfield 9, 3) := by decide +kernel
theorem dX7_takes_40 : decode cX7_takes 40 = .ok (.bipush 7, 2) := by decide +kernel
theorem dX7_takes_42 : decode cX7_takes 42 = .ok (.iload_n 1, 1) := by decide +kernel
theorem dX7_takes_43 : decode cX7_takes 43 = .ok (.imul, 1) := by decide +kernel
theorem dX7_takes_44 : decode cX7_takes 44 = .ok (.iconst 5, 1) := by decide +kernel
theorem dX7_takes_45 : decode cX7_takes 45 = .ok (.iadd, 1) := by decide +kernel
theorem dX7_takes_46 : decode cX7_takes 46 = .ok (.iload_n 2, 1) := by decide +kernel
theorem dX7_takes_47 : decode cX7_takes 47 = .ok (.ifCond .eq 7, 3) := by decide +kernel
theorem dX7_takes_50 : decode cX7_takes 50 = .ok (.iconst 1, 1) := by decide +kernel
theorem dX7_takes_51 : decode cX7_takes 51 = .ok (.goto 4, 3) := by decide +kernel
theorem dX7_takes_54 : decode cX7_takes 54 = .ok (.iconst 0, 1) := by decide +kernel
theorem dX7_takes_55 : decode cX7_takes 55 = .ok (.iastore, 1) := by decide +kernel
theorem dX7_takes_56 : decode cX7_takes 56 = .ok (.aload_n 0, 1) := by decide +kernel
theorem dX7_takes_57 : decode cX7_takes 57 = .ok (.invokevirtual 163, 3) := by decide +kernel
theorem dX7_takes_60 : decode cX7_takes 60 = .ok (.ireturn, 1) := by decide +kernel
theorem dX7_exchange_0 : decode cX7_exchange 0 = .ok (.iconst 0, 1) := by decide +kernel
theorem dX7_exchange_1 : decode cX7_exchange 1 = .ok (.istore_n 3, 1) := by decide +kernel
theorem dX7_exchange_2 : decode cX7_exchange 2 = .ok (.iload_n 3, 1) := by decide +kernel
theorem dX7_exchange_3 : decode cX7_exchange 3 = .ok (.iconst 5, 1) := by decide +kernel
theorem dX7_exchange_4 : decode cX7_exchange 4 = .ok (.if_icmp .gt 47, 3) := by decide +kernel
theorem dX7_exchange_7 : decode cX7_exchange 7 = .ok (.aload_n 0, 1) := by decide +kernel
theorem dX7_exchange_8 : decode cX7_exchange 8 = .ok (.iload_n 1, 1) := by decide +kernel
theorem dX7_exchange_9 : decode cX7_exchange 9 = .ok (.iload_n 3, 1) := by decide +kernel
theorem dX7_exchange_10 : decode cX7_exchange 10 = .ok (.invokevirtual 155, 3) := by decide +kernel
theorem dX7_exchange_13 : decode cX7_exchange 13 = .ok (.istore 4, 2) := by decide +kernel
theorem dX7_exchange_15 : decode cX7_exchange 15 = .ok (.aload_n 0, 1) := by decide +kernel
theorem dX7_exchange_16 : decode cX7_exchange 16 = .ok (.getfield 9, 3) := by decide +kernel
theorem dX7_exchange_19 : decode cX7_exchange 19 = .ok (.bipush 7, 2) := by decide +kernel
theorem dX7_exchange_21 : decode cX7_exchange 21 = .ok (.iload_n 1, 1) := by decide +kernel
theorem dX7_exchange_22 : decode cX7_exchange 22 = .ok (.imul, 1) := by decide +kernel
theorem dX7_exchange_23 : decode cX7_exchange 23 = .ok (.iload_n 3, 1) := by decide +kernel
theorem dX7_exchange_24 : decode cX7_exchange 24 = .ok (.iadd, 1) := by decide +kernel
theorem dX7_exchange_25 : decode cX7_exchange 25 = .ok (.aload_n 0, 1) := by decide +kernel
theorem dX7_exchange_26 : decode cX7_exchange 26 = .ok (.iload_n 2, 1) := by decide +kernel
theorem dX7_exchange_27 : decode cX7_exchange 27 = .ok (.iload_n 3, 1) := by decide +kernel
theorem dX7_exchange_28 : decode cX7_exchange 28 = .ok (.invokevirtual 155, 3) := by decide +kernel
theorem dX7_exchange_31 : decode cX7_exchange 31 = .ok (.iastore, 1) := by decide +kernel
theorem dX7_exchange_32 : decode cX7_exchange 32 = .ok (.aload_n 0, 1) := by decide +kernel
theorem dX7_exchange_33 : decode cX7_exchange 33 = .ok (.getfield 9, 3) := by decide +kernel
theorem dX7_exchange_36 : decode cX7_exchange 36 = .ok (.bipush 7, 2) := by decide +kernel
theorem dX7_exchange_38 : decode cX7_exchange 38 = .ok (.iload_n 2, 1) := by decide +kernel
theorem dX7_exchange_39 : decode cX7_exchange 39 = .ok (.imul, 1) := by decide +kernel
theorem dX7_exchange_40 : decode cX7_exchange 40 = .ok (.iload_n 3, 1) := by decide +kernel
theorem dX7_exchange_41 : decode cX7_exchange 41 = .ok (.iadd, 1) := by decide +kernel
theorem dX7_exchange_42 : decode cX7_exchange 42 = .ok (.iload 4, 2) := by decide +kernel
theorem dX7_exchange_44 : decode cX7_exchange 44 = .ok (.iastore, 1) := by decide +kernel
theorem dX7_exchange_45 : decode cX7_exchange 45 = .ok (.iinc 3 1, 3) := by decide +kernel
theorem dX7_exchange_48 : decode cX7_exchange 48 = .ok (.goto (-46), 3) := by decide +kernel
theorem dX7_exchange_51 : decode cX7_exchange 51 = .ok (.return_, 1) := by decide +kernel
theorem dX7_swaps_0 : decode cX7_swaps 0 = .ok (.aload_n 0, 1) := by decide +kernel
theorem dX7_swaps_1 : decode cX7_swaps 1 = .ok (.iconst 0, 1) := by decide +kernel
theorem dX7_swaps_2 : decode cX7_swaps 2 = .ok (.putfield 107, 3) := by decide +kernel
theorem dX7_swaps_5 : decode cX7_swaps 5 = .ok (.aload_n 0, 1) := by decide +kernel
theorem dX7_swaps_6 : decode cX7_swaps 6 = .ok (.iload_n 1, 1) := by decide +kernel
theorem dX7_swaps_7 : decode cX7_swaps 7 = .ok (.invokevirtual 159, 3) := by decide +kernel
theorem dX7_swaps_10 : decode cX7_swaps 10 = .ok (.ifCond .eq 16, 3) := by decide +kernel
theorem dX7_swaps_13 : decode cX7_swaps 13 = .ok (.aload_n 0, 1) := by decide +kernel
theorem dX7_swaps_14 : decode cX7_swaps 14 = .ok (.iload_n 2, 1) := by decide +kernel
theorem dX7_swaps_15 : decode cX7_swaps 15 = .ok (.invokevirtual 159, 3) := by decide +kernel
theorem dX7_swaps_18 : decode cX7_swaps 18 = .ok (.ifCond .eq 8, 3) := by decide +kernel
theorem dX7_swaps_21 : decode cX7_swaps 21 = .ok (.iload_n 1, 1) := by decide +kernel
theorem dX7_swaps_22 : decode cX7_swaps 22 = .ok (.iload_n 2, 1) := by decide +kernel
theorem dX7_swaps_23 : decode cX7_swaps 23 = .ok (.if_icmp .ne 5, 3) := by decide +kernel
theorem dX7_swaps_26 : decode cX7_swaps 26 = .ok (.iconst 0, 1) := by decide +kernel
theorem dX7_swaps_27 : decode cX7_swaps 27 = .ok (.ireturn, 1) := by decide +kernel
theorem dX7_swaps_28 : decode cX7_swaps 28 = .ok (.aload_n 0, 1) := by decide +kernel
theorem dX7_swaps_29 : decode cX7_swaps 29 = .ok (.iload_n 1, 1) := by decide +kernel
theorem dX7_swaps_30 : decode cX7_swaps 30 = .ok (.iload_n 2, 1) := by decide +kernel
theorem dX7_swaps_31 : decode cX7_swaps 31 = .ok (.invokevirtual 167, 3) := by decide +kernel
theorem dX7_swaps_34 : decode cX7_swaps 34 = .ok (.iconst 1, 1) := by decide +kernel
theorem dX7_swaps_35 : decode cX7_swaps 35 = .ok (.ireturn, 1) := by decide +kernel
theorem dX7_clears_0 : decode cX7_clears 0 = .ok (.aload_n 0, 1) := by decide +kernel
theorem dX7_clears_1 : decode cX7_clears 1 = .ok (.iconst 0, 1) := by decide +kernel
theorem dX7_clears_2 : decode cX7_clears 2 = .ok (.putfield 107, 3) := by decide +kernel
theorem dX7_clears_5 : decode cX7_clears 5 = .ok (.aload_n 0, 1) := by decide +kernel
theorem dX7_clears_6 : decode cX7_clears 6 = .ok (.getfield 127, 3) := by decide +kernel
theorem dX7_clears_9 : decode cX7_clears 9 = .ok (.istore_n 1, 1) := by decide +kernel
theorem dX7_clears_10 : decode cX7_clears 10 = .ok (.aload_n 0, 1) := by decide +kernel
theorem dX7_clears_11 : decode cX7_clears 11 = .ok (.iconst 0, 1) := by decide +kernel
theorem dX7_clears_12 : decode cX7_clears 12 = .ok (.putfield 127, 3) := by decide +kernel
theorem dX7_clears_15 : decode cX7_clears 15 = .ok (.iload_n 1, 1) := by decide +kernel
theorem dX7_clears_16 : decode cX7_clears 16 = .ok (.ireturn, 1) := by decide +kernel
theorem dX7_sign_0 : decode cX7_sign 0 = .ok (.aload_n 0, 1) := by decide +kernel
theorem dX7_sign_1 : decode cX7_sign 1 = .ok (.iconst 0, 1) := by decide +kernel
theorem dX7_sign_2 : decode cX7_sign 2 = .ok (.putfield 107, 3) := by decide +kernel
theorem dX7_sign_5 : decode cX7_sign 5 = .ok (.aload_n 0, 1) := by decide +kernel
theorem dX7_sign_6 : decode cX7_sign 6 = .ok (.getfield 171, 3) := by decide +kernel
theorem dX7_sign_9 : decode cX7_sign 9 = .ok (.iconst 4, 1) := by decide +kernel
theorem dX7_sign_10 : decode cX7_sign 10 = .ok (.iadd, 1) := by decide +kernel
theorem dX7_sign_11 : decode cX7_sign 11 = .ok (.bipush 80, 2) := by decide +kernel
theorem dX7_sign_13 : decode cX7_sign 13 = .ok (.if_icmp .le 5, 3) := by decide +kernel
theorem dX7_sign_16 : decode cX7_sign 16 = .ok (.iconst (-1), 1) := by decide +kernel
theorem dX7_sign_17 : decode cX7_sign 17 = .ok (.ireturn, 1) := by decide +kernel
theorem dX7_sign_18 : decode cX7_sign 18 = .ok (.iconst 3, 1) := by decide +kernel
theorem dX7_sign_19 : decode cX7_sign 19 = .ok (.istore_n 2, 1) := by decide +kernel
theorem dX7_sign_20 : decode cX7_sign 20 = .ok (.iload_n 2, 1) := by decide +kernel
theorem dX7_sign_21 : decode cX7_sign 21 = .ok (.ifCond .lt 32, 3) := by decide +kernel
theorem dX7_sign_24 : decode cX7_sign 24 = .ok (.aload_n 0, 1) := by decide +kernel
theorem dX7_sign_25 : decode cX7_sign 25 = .ok (.getfield 20, 3) := by decide +kernel
theorem dX7_sign_28 : decode cX7_sign 28 = .ok (.aload_n 0, 1) := by decide +kernel
theorem dX7_sign_29 : decode cX7_sign 29 = .ok (.dup, 1) := by decide +kernel
theorem dX7_sign_30 : decode cX7_sign 30 = .ok (.getfield 171, 3) := by decide +kernel
theorem dX7_sign_33 : decode cX7_sign 33 = .ok (.dup_x1, 1) := by decide +kernel
theorem dX7_sign_34 : decode cX7_sign 34 = .ok (.iconst 1, 1) := by decide +kernel
theorem dX7_sign_35 : decode cX7_sign 35 = .ok (.iadd, 1) := by decide +kernel
theorem dX7_sign_36 : decode cX7_sign 36 = .ok (.putfield 171, 3) := by decide +kernel
theorem dX7_sign_39 : decode cX7_sign 39 = .ok (.iload_n 1, 1) := by decide +kernel
theorem dX7_sign_40 : decode cX7_sign 40 = .ok (.bipush 8, 2) := by decide +kernel
theorem dX7_sign_42 : decode cX7_sign 42 = .ok (.iload_n 2, 1) := by decide +kernel
theorem dX7_sign_43 : decode cX7_sign 43 = .ok (.imul, 1) := by decide +kernel
theorem dX7_sign_44 : decode cX7_sign 44 = .ok (.ishr, 1) := by decide +kernel
theorem dX7_sign_45 : decode cX7_sign 45 = .ok (.i2b, 1) := by decide +kernel
theorem dX7_sign_46 : decode cX7_sign 46 = .ok (.bastore, 1) := by decide +kernel
theorem dX7_sign_47 : decode cX7_sign 47 = .ok (.iinc 2 (-1), 3) := by decide +kernel
theorem dX7_sign_50 : decode cX7_sign 50 = .ok (.goto (-30), 3) := by decide +kernel
theorem dX7_sign_53 : decode cX7_sign 53 = .ok (.aload_n 0, 1) := by decide +kernel
theorem dX7_sign_54 : decode cX7_sign 54 = .ok (.getfield 171, 3) := by decide +kernel
theorem dX7_sign_57 : decode cX7_sign 57 = .ok (.ireturn, 1) := by decide +kernel
theorem dX7_end_0 : decode cX7_end 0 = .ok (.aload_n 0, 1) := by decide +kernel
theorem dX7_end_1 : decode cX7_end 1 = .ok (.iconst 0, 1) := by decide +kernel
theorem dX7_end_2 : decode cX7_end 2 = .ok (.putfield 107, 3) := by decide +kernel
theorem dX7_end_5 : decode cX7_end 5 = .ok (.iload_n 1, 1) := by decide +kernel
theorem dX7_end_6 : decode cX7_end 6 = .ok (.i2l, 1) := by decide +kernel
theorem dX7_end_7 : decode cX7_end 7 = .ok (.lconst 0, 1) := by decide +kernel
theorem dX7_end_8 : decode cX7_end 8 = .ok (.aload_n 0, 1) := by decide +kernel
theorem dX7_end_9 : decode cX7_end 9 = .ok (.getfield 171, 3) := by decide +kernel
theorem dX7_end_12 : decode cX7_end 12 = .ok (.i2l, 1) := by decide +kernel
theorem dX7_end_13 : decode cX7_end 13 = .ok (.invokestatic 130, 3) := by decide +kernel
theorem dX7_end_16 : decode cX7_end 16 = .ok (.ifCond .ne 5, 3) := by decide +kernel
theorem dX7_end_19 : decode cX7_end 19 = .ok (.iconst 0, 1) := by decide +kernel
theorem dX7_end_20 : decode cX7_end 20 = .ok (.ireturn, 1) := by decide +kernel
theorem dX7_end_21 : decode cX7_end 21 = .ok (.aload_n 0, 1) := by decide +kernel
theorem dX7_end_22 : decode cX7_end 22 = .ok (.iload_n 1, 1) := by decide +kernel
theorem dX7_end_23 : decode cX7_end 23 = .ok (.putfield 171, 3) := by decide +kernel
theorem dX7_end_26 : decode cX7_end 26 = .ok (.iconst 1, 1) := by decide +kernel
theorem dX7_end_27 : decode cX7_end 27 = .ok (.ireturn, 1) := by decide +kernel
theorem dX7_begin_0 : decode cX7_begin 0 = .ok (.aload_n 0, 1) := by decide +kernel
theorem dX7_begin_1 : decode cX7_begin 1 = .ok (.aload_n 0, 1) := by decide +kernel
theorem dX7_begin_2 : decode cX7_begin 2 = .ok (.getfield 171, 3) := by decide +kernel
theorem dX7_begin_5 : decode cX7_begin 5 = .ok (.putfield 174, 3) := by decide +kernel
theorem dX7_begin_8 : decode cX7_begin 8 = .ok (.aload_n 0, 1) := by decide +kernel
theorem dX7_begin_9 : decode cX7_begin 9 = .ok (.iconst 0, 1) := by decide +kernel
theorem dX7_begin_10 : decode cX7_begin 10 = .ok (.putfield 177, 3) := by decide +kernel
theorem dX7_begin_13 : decode cX7_begin 13 = .ok (.aload_n 0, 1) := by decide +kernel
theorem dX7_begin_14 : decode cX7_begin 14 = .ok (.iconst (-1), 1) := by decide +kernel
theorem dX7_begin_15 : decode cX7_begin 15 = .ok (.putfield 180, 3) := by decide +kernel
theorem dX7_begin_18 : decode cX7_begin 18 = .ok (.aload_n 0, 1) := by decide +kernel
theorem dX7_begin_19 : decode cX7_begin 19 = .ok (.iconst 0, 1) := by decide +kernel
theorem dX7_begin_20 : decode cX7_begin 20 = .ok (.putfield 171, 3) := by decide +kernel
theorem dX7_begin_23 : decode cX7_begin 23 = .ok (.return_, 1) := by decide +kernel
theorem dX7_here_0 : decode cX7_here 0 = .ok (.aload_n 0, 1) := by decide +kernel
theorem dX7_here_1 : decode cX7_here 1 = .ok (.getfield 177, 3) := by decide +kernel
theorem dX7_here_4 : decode cX7_here 4 = .ok (.aload_n 0, 1) := by decide +kernel
theorem dX7_here_5 : decode cX7_here 5 = .ok (.getfield 174, 3) := by decide +kernel
theorem dX7_here_8 : decode cX7_here 8 = .ok (.if_icmp .ge 19, 3) := by decide +kernel
theorem dX7_here_11 : decode cX7_here 11 = .ok (.aload_n 0, 1) := by decide +kernel
theorem dX7_here_12 : decode cX7_here 12 = .ok (.getfield 20, 3) := by decide +kernel
theorem dX7_here_15 : decode cX7_here 15 = .ok (.aload_n 0, 1) := by decide +kernel
theorem dX7_here_16 : decode cX7_here 16 = .ok (.getfield 177, 3) := by decide +kernel
theorem dX7_here_19 : decode cX7_here 19 = .ok (.baload, 1) := by decide +kernel
theorem dX7_here_20 : decode cX7_here 20 = .ok (.sipush 255, 3) := by decide +kernel
theorem dX7_here_23 : decode cX7_here 23 = .ok (.iand, 1) := by decide +kernel
theorem dX7_here_24 : decode cX7_here 24 = .ok (.goto 4, 3) := by decide +kernel
theorem dX7_here_27 : decode cX7_here 27 = .ok (.iconst (-1), 1) := by decide +kernel
theorem dX7_here_28 : decode cX7_here 28 = .ok (.ireturn, 1) := by decide +kernel
theorem dX7_fault_0 : decode cX7_fault 0 = .ok (.aload_n 0, 1) := by decide +kernel
theorem dX7_fault_1 : decode cX7_fault 1 = .ok (.getfield 180, 3) := by decide +kernel
theorem dX7_fault_4 : decode cX7_fault 4 = .ok (.iconst (-1), 1) := by decide +kernel
theorem dX7_fault_5 : decode cX7_fault 5 = .ok (.if_icmp .ne 8, 3) := by decide +kernel
theorem dX7_fault_8 : decode cX7_fault 8 = .ok (.aload_n 0, 1) := by decide +kernel
theorem dX7_fault_9 : decode cX7_fault 9 = .ok (.iload_n 1, 1) := by decide +kernel
theorem dX7_fault_10 : decode cX7_fault 10 = .ok (.putfield 180, 3) := by decide +kernel
theorem dX7_fault_13 : decode cX7_fault 13 = .ok (.return_, 1) := by decide +kernel
theorem dX7_digits_0 : decode cX7_digits 0 = .ok (.iconst 0, 1) := by decide +kernel
theorem dX7_digits_1 : decode cX7_digits 1 = .ok (.istore 4, 2) := by decide +kernel
theorem dX7_digits_3 : decode cX7_digits 3 = .ok (.iconst 0, 1) := by decide +kernel
theorem dX7_digits_4 : decode cX7_digits 4 = .ok (.istore 5, 2) := by decide +kernel
theorem dX7_digits_6 : decode cX7_digits 6 = .ok (.iload 5, 2) := by decide +kernel
theorem dX7_digits_8 : decode cX7_digits 8 = .ok (.iload_n 1, 1) := by decide +kernel
theorem dX7_digits_9 : decode cX7_digits 9 = .ok (.if_icmp .ge 70, 3) := by decide +kernel
theorem dX7_digits_12 : decode cX7_digits 12 = .ok (.aload_n 0, 1) := by decide +kernel
theorem dX7_digits_13 : decode cX7_digits 13 = .ok (.getfield 180, 3) := by decide +kernel
theorem dX7_digits_16 : decode cX7_digits 16 = .ok (.iconst (-1), 1) := by decide +kernel
theorem dX7_digits_17 : decode cX7_digits 17 = .ok (.if_icmp .ne 62, 3) := by decide +kernel
theorem dX7_digits_20 : decode cX7_digits 20 = .ok (.aload_n 0, 1) := by decide +kernel
theorem dX7_digits_21 : decode cX7_digits 21 = .ok (.invokevirtual 183, 3) := by decide +kernel
theorem dX7_digits_24 : decode cX7_digits 24 = .ok (.i2l, 1) := by decide +kernel
theorem dX7_digits_25 : decode cX7_digits 25 = .ok (.ldc2_w 186, 3) := by decide +kernel
theorem dX7_digits_28 : decode cX7_digits 28 = .ok (.ldc2_w 188, 3) := by decide +kernel
theorem dX7_digits_31 : decode cX7_digits 31 = .ok (.invokestatic 130, 3) := by decide +kernel
theorem dX7_digits_34 : decode cX7_digits 34 = .ok (.ifCond .ne 14, 3) := by decide +kernel
theorem dX7_digits_37 : decode cX7_digits 37 = .ok (.aload_n 0, 1) := by decide +kernel
theorem dX7_digits_38 : decode cX7_digits 38 = .ok (.aload_n 0, 1) := by decide +kernel
theorem dX7_digits_39 : decode cX7_digits 39 = .ok (.getfield 177, 3) := by decide +kernel
theorem dX7_digits_42 : decode cX7_digits 42 = .ok (.invokevirtual 190, 3) := by decide +kernel
theorem dX7_digits_45 : decode cX7_digits 45 = .ok (.goto 18, 3) := by decide +kernel
theorem dX7_digits_48 : decode cX7_digits 48 = .ok (.bipush 10, 2) := by decide +kernel
theorem dX7_digits_50 : decode cX7_digits 50 = .ok (.iload 4, 2) := by decide +kernel
theorem dX7_digits_52 : decode cX7_digits 52 = .ok (.imul, 1) := by decide +kernel
theorem dX7_digits_53 : decode cX7_digits 53 = .ok (.aload_n 0, 1) := by decide +kernel
theorem dX7_digits_54 : decode cX7_digits 54 = .ok (.invokevirtual 183, 3) := by decide +kernel
theorem dX7_digits_57 : decode cX7_digits 57 = .ok (.iadd, 1) := by decide +kernel
theorem dX7_digits_58 : decode cX7_digits 58 = .ok (.bipush 48, 2) := by decide +kernel
theorem dX7_digits_60 : decode cX7_digits 60 = .ok (.isub, 1) := by decide +kernel
theorem dX7_digits_61 : decode cX7_digits 61 = .ok (.istore 4, 2) := by decide +kernel
theorem dX7_digits_63 : decode cX7_digits 63 = .ok (.aload_n 0, 1) := by decide +kernel
theorem dX7_digits_64 : decode cX7_digits 64 = .ok (.dup, 1) := by decide +kernel
theorem dX7_digits_65 : decode cX7_digits 65 = .ok (.getfield 177, 3) := by decide +kernel
theorem dX7_digits_68 : decode cX7_digits 68 = .ok (.iconst 1, 1) := by decide +kernel
theorem dX7_digits_69 : decode cX7_digits 69 = .ok (.iadd, 1) := by decide +kernel
theorem dX7_digits_70 : decode cX7_digits 70 = .ok (.putfield 177, 3) := by decide +kernel
theorem dX7_digits_73 : decode cX7_digits 73 = .ok (.iinc 5 1, 3) := by decide +kernel
theorem dX7_digits_76 : decode cX7_digits 76 = .ok (.goto (-70), 3) := by decide +kernel
theorem dX7_digits_79 : decode cX7_digits 79 = .ok (.aload_n 0, 1) := by decide +kernel
theorem dX7_digits_80 : decode cX7_digits 80 = .ok (.getfield 180, 3) := by decide +kernel
theorem dX7_digits_83 : decode cX7_digits 83 = .ok (.iconst (-1), 1) := by decide +kernel
theorem dX7_digits_84 : decode cX7_digits 84 = .ok (.if_icmp .ne 26, 3) := by decide +kernel
theorem dX7_digits_87 : decode cX7_digits 87 = .ok (.iload 4, 2) := by decide +kernel
theorem dX7_digits_89 : decode cX7_digits 89 = .ok (.i2l, 1) := by decide +kernel
theorem dX7_digits_90 : decode cX7_digits 90 = .ok (.iload_n 2, 1) := by decide +kernel
theorem dX7_digits_91 : decode cX7_digits 91 = .ok (.i2l, 1) := by decide +kernel
theorem dX7_digits_92 : decode cX7_digits 92 = .ok (.iload_n 3, 1) := by decide +kernel
theorem dX7_digits_93 : decode cX7_digits 93 = .ok (.i2l, 1) := by decide +kernel
theorem dX7_digits_94 : decode cX7_digits 94 = .ok (.invokestatic 130, 3) := by decide +kernel
theorem dX7_digits_97 : decode cX7_digits 97 = .ok (.ifCond .ne 13, 3) := by decide +kernel
theorem dX7_digits_100 : decode cX7_digits 100 = .ok (.aload_n 0, 1) := by decide +kernel
theorem dX7_digits_101 : decode cX7_digits 101 = .ok (.aload_n 0, 1) := by decide +kernel
theorem dX7_digits_102 : decode cX7_digits 102 = .ok (.getfield 177, 3) := by decide +kernel
theorem dX7_digits_105 : decode cX7_digits 105 = .ok (.iconst 1, 1) := by decide +kernel
theorem dX7_digits_106 : decode cX7_digits 106 = .ok (.isub, 1) := by decide +kernel
theorem dX7_digits_107 : decode cX7_digits 107 = .ok (.invokevirtual 190, 3) := by decide +kernel
theorem dX7_digits_110 : decode cX7_digits 110 = .ok (.iload 4, 2) := by decide +kernel
theorem dX7_digits_112 : decode cX7_digits 112 = .ok (.ireturn, 1) := by decide +kernel
theorem dX7_joint_0 : decode cX7_joint 0 = .ok (.aload_n 0, 1) := by decide +kernel
theorem dX7_joint_1 : decode cX7_joint 1 = .ok (.iconst 0, 1) := by decide +kernel
theorem dX7_joint_2 : decode cX7_joint 2 = .ok (.putfield 107, 3) := by decide +kernel
theorem dX7_joint_5 : decode cX7_joint 5 = .ok (.aload_n 0, 1) := by decide +kernel
theorem dX7_joint_6 : decode cX7_joint 6 = .ok (.invokevirtual 194, 3) := by decide +kernel
theorem dX7_joint_9 : decode cX7_joint 9 = .ok (.iconst 0, 1) := by decide +kernel
theorem dX7_joint_10 : decode cX7_joint 10 = .ok (.istore_n 1, 1) := by decide +kernel
theorem dX7_joint_11 : decode cX7_joint 11 = .ok (.aload_n 0, 1) := by decide +kernel
theorem dX7_joint_12 : decode cX7_joint 12 = .ok (.getfield 28, 3) := by decide +kernel
theorem dX7_joint_15 : decode cX7_joint 15 = .ok (.iconst 0, 1) := by decide +kernel
theorem dX7_joint_16 : decode cX7_joint 16 = .ok (.aload_n 0, 1) := by decide +kernel
theorem dX7_joint_17 : decode cX7_joint 17 = .ok (.iconst 1, 1) := by decide +kernel
theorem dX7_joint_18 : decode cX7_joint 18 = .ok (.iconst 0, 1) := by decide +kernel
theorem dX7_joint_19 : decode cX7_joint 19 = .ok (.iconst 2, 1) := by decide +kernel
theorem dX7_joint_20 : decode cX7_joint 20 = .ok (.invokevirtual 197, 3) := by decide +kernel
theorem dX7_joint_23 : decode cX7_joint 23 = .ok (.iastore, 1) := by decide +kernel
theorem dX7_joint_24 : decode cX7_joint 24 = .ok (.aload_n 0, 1) := by decide +kernel
theorem dX7_joint_25 : decode cX7_joint 25 = .ok (.getfield 28, 3) := by decide +kernel
theorem dX7_joint_28 : decode cX7_joint 28 = .ok (.iconst 1, 1) := by decide +kernel
theorem dX7_joint_29 : decode cX7_joint 29 = .ok (.aload_n 0, 1) := by decide +kernel
theorem dX7_joint_30 : decode cX7_joint 30 = .ok (.iconst 1, 1) := by decide +kernel
theorem dX7_joint_31 : decode cX7_joint 31 = .ok (.iconst 0, 1) := by decide +kernel
theorem dX7_joint_32 : decode cX7_joint 32 = .ok (.iconst 2, 1) := by decide +kernel
theorem dX7_joint_33 : decode cX7_joint 33 = .ok (.invokevirtual 197, 3) := by decide +kernel
theorem dX7_joint_36 : decode cX7_joint 36 = .ok (.iastore, 1) := by decide +kernel
theorem dX7_joint_37 : decode cX7_joint 37 = .ok (.aload_n 0, 1) := by decide +kernel
theorem dX7_joint_38 : decode cX7_joint 38 = .ok (.getfield 180, 3) := by decide +kernel
theorem dX7_joint_41 : decode cX7_joint 41 = .ok (.iconst (-1), 1) := by decide +kernel
theorem dX7_joint_42 : decode cX7_joint 42 = .ok (.if_icmp .ne 188, 3) := by decide +kernel
theorem dX7_joint_45 : decode cX7_joint 45 = .ok (.aload_n 0, 1) := by decide +kernel
theorem dX7_joint_46 : decode cX7_joint 46 = .ok (.getfield 177, 3) := by decide +kernel
theorem dX7_joint_49 : decode cX7_joint 49 = .ok (.aload_n 0, 1) := by decide +kernel
theorem dX7_joint_50 : decode cX7_joint 50 = .ok (.getfield 174, 3) := by decide +kernel
theorem dX7_joint_53 : decode cX7_joint 53 = .ok (.if_icmp .lt 7, 3) := by decide +kernel
theorem dX7_joint_56 : decode cX7_joint 56 = .ok (.iload_n 1, 1) := by decide +kernel
theorem dX7_joint_57 : decode cX7_joint 57 = .ok (.ifCond .ne 173, 3) := by decide +kernel
theorem dX7_joint_60 : decode cX7_joint 60 = .ok (.iconst 2, 1) := by decide +kernel
theorem dX7_joint_61 : decode cX7_joint 61 = .ok (.bipush 6, 2) := by decide +kernel
theorem dX7_joint_63 : decode cX7_joint 63 = .ok (.iload_n 1, 1) := by decide +kernel
theorem dX7_joint_64 : decode cX7_joint 64 = .ok (.imul, 1) := by decide +kernel
theorem dX7_joint_65 : decode cX7_joint 65 = .ok (.iadd, 1) := by decide +kernel
theorem dX7_joint_66 : decode cX7_joint 66 = .ok (.istore_n 2, 1) := by decide +kernel
theorem dX7_joint_67 : decode cX7_joint 67 = .ok (.iload_n 1, 1) := by decide +kernel
theorem dX7_joint_68 : decode cX7_joint 68 = .ok (.ifCond .le 25, 3) := by decide +kernel
theorem dX7_joint_71 : decode cX7_joint 71 = .ok (.aload_n 0, 1) := by decide +kernel
theorem dX7_joint_72 : decode cX7_joint 72 = .ok (.invokevirtual 183, 3) := by decide +kernel
theorem dX7_joint_75 : decode cX7_joint 75 = .ok (.bipush 47, 2) := by decide +kernel
theorem dX7_joint_77 : decode cX7_joint 77 = .ok (.if_icmp .ne 8, 3) := by decide +kernel
theorem dX7_joint_80 : decode cX7_joint 80 = .ok (.iload_n 1, 1) := by decide +kernel
theorem dX7_joint_81 : decode cX7_joint 81 = .ok (.iconst 5, 1) := by decide +kernel
theorem dX7_joint_82 : decode cX7_joint 82 = .ok (.if_icmp .ne 11, 3) := by decide +kernel
theorem dX7_joint_85 : decode cX7_joint 85 = .ok (.aload_n 0, 1) := by decide +kernel
theorem dX7_joint_86 : decode cX7_joint 86 = .ok (.aload_n 0, 1) := by decide +kernel
theorem dX7_joint_87 : decode cX7_joint 87 = .ok (.getfield 177, 3) := by decide +kernel
theorem dX7_joint_90 : decode cX7_joint 90 = .ok (.invokevirtual 190, 3) := by decide +kernel
theorem dX7_joint_93 : decode cX7_joint 93 = .ok (.aload_n 0, 1) := by decide +kernel
theorem dX7_joint_94 : decode cX7_joint 94 = .ok (.getfield 180, 3) := by decide +kernel
theorem dX7_joint_97 : decode cX7_joint 97 = .ok (.iconst (-1), 1) := by decide +kernel
theorem dX7_joint_98 : decode cX7_joint 98 = .ok (.if_icmp .eq 6, 3) := by decide +kernel
theorem dX7_joint_101 : decode cX7_joint 101 = .ok (.goto (-64), 3) := by decide +kernel
theorem dX7_joint_104 : decode cX7_joint 104 = .ok (.iload_n 1, 1) := by decide +kernel
theorem dX7_joint_105 : decode cX7_joint 105 = .ok (.ifCond .le 28, 3) := by decide +kernel
theorem dX7_joint_108 : decode cX7_joint 108 = .ok (.aload_n 0, 1) := by decide +kernel
theorem dX7_joint_109 : decode cX7_joint 109 = .ok (.dup, 1) := by decide +kernel
theorem dX7_joint_110 : decode cX7_joint 110 = .ok (.getfield 177, 3) := by decide +kernel
theorem dX7_joint_113 : decode cX7_joint 113 = .ok (.iconst 1, 1) := by decide +kernel
theorem dX7_joint_114 : decode cX7_joint 114 = .ok (.iadd, 1) := by decide +kernel
theorem dX7_joint_115 : decode cX7_joint 115 = .ok (.putfield 177, 3) := by decide +kernel
theorem dX7_joint_118 : decode cX7_joint 118 = .ok (.aload_n 0, 1) := by decide +kernel
theorem dX7_joint_119 : decode cX7_joint 119 = .ok (.getfield 28, 3) := by decide +kernel
theorem dX7_joint_122 : decode cX7_joint 122 = .ok (.iload_n 2, 1) := by decide +kernel
theorem dX7_joint_123 : decode cX7_joint 123 = .ok (.iconst 5, 1) := by decide +kernel
theorem dX7_joint_124 : decode cX7_joint 124 = .ok (.iadd, 1) := by decide +kernel
theorem dX7_joint_125 : decode cX7_joint 125 = .ok (.aload_n 0, 1) := by decide +kernel
theorem dX7_joint_126 : decode cX7_joint 126 = .ok (.iconst 1, 1) := by decide +kernel
theorem dX7_joint_127 : decode cX7_joint 127 = .ok (.iconst 0, 1) := by decide +kernel
theorem dX7_joint_128 : decode cX7_joint 128 = .ok (.iconst 2, 1) := by decide +kernel
theorem dX7_joint_129 : decode cX7_joint 129 = .ok (.invokevirtual 197, 3) := by decide +kernel
theorem dX7_joint_132 : decode cX7_joint 132 = .ok (.iastore, 1) := by decide +kernel
theorem dX7_joint_133 : decode cX7_joint 133 = .ok (.aload_n 0, 1) := by decide +kernel
theorem dX7_joint_134 : decode cX7_joint 134 = .ok (.getfield 28, 3) := by decide +kernel
theorem dX7_joint_137 : decode cX7_joint 137 = .ok (.iload_n 2, 1) := by decide +kernel
theorem dX7_joint_138 : decode cX7_joint 138 = .ok (.aload_n 0, 1) := by decide +kernel
theorem dX7_joint_139 : decode cX7_joint 139 = .ok (.iconst 1, 1) := by decide +kernel
theorem dX7_joint_140 : decode cX7_joint 140 = .ok (.iconst 1, 1) := by decide +kernel
theorem dX7_joint_141 : decode cX7_joint 141 = .ok (.iconst 5, 1) := by decide +kernel
theorem dX7_joint_142 : decode cX7_joint 142 = .ok (.invokevirtual 197, 3) := by decide +kernel
theorem dX7_joint_145 : decode cX7_joint 145 = .ok (.iastore, 1) := by decide +kernel
theorem dX7_joint_146 : decode cX7_joint 146 = .ok (.aload_n 0, 1) := by decide +kernel
theorem dX7_joint_147 : decode cX7_joint 147 = .ok (.getfield 28, 3) := by decide +kernel
theorem dX7_joint_150 : decode cX7_joint 150 = .ok (.iload_n 2, 1) := by decide +kernel
theorem dX7_joint_151 : decode cX7_joint 151 = .ok (.iconst 1, 1) := by decide +kernel
theorem dX7_joint_152 : decode cX7_joint 152 = .ok (.iadd, 1) := by decide +kernel
theorem dX7_joint_153 : decode cX7_joint 153 = .ok (.aload_n 0, 1) := by decide +kernel
theorem dX7_joint_154 : decode cX7_joint 154 = .ok (.iconst 1, 1) := by decide +kernel
theorem dX7_joint_155 : decode cX7_joint 155 = .ok (.iconst 0, 1) := by decide +kernel
theorem dX7_joint_156 : decode cX7_joint 156 = .ok (.bipush 9, 2) := by decide +kernel
theorem dX7_joint_158 : decode cX7_joint 158 = .ok (.invokevirtual 197, 3) := by decide +kernel
theorem dX7_joint_161 : decode cX7_joint 161 = .ok (.iastore, 1) := by decide +kernel
theorem dX7_joint_162 : decode cX7_joint 162 = .ok (.aload_n 0, 1) := by decide +kernel
theorem dX7_joint_163 : decode cX7_joint 163 = .ok (.getfield 28, 3) := by decide +kernel
theorem dX7_joint_166 : decode cX7_joint 166 = .ok (.iload_n 2, 1) := by decide +kernel
theorem dX7_joint_167 : decode cX7_joint 167 = .ok (.iconst 2, 1) := by decide +kernel
theorem dX7_joint_168 : decode cX7_joint 168 = .ok (.iadd, 1) := by decide +kernel
theorem dX7_joint_169 : decode cX7_joint 169 = .ok (.aload_n 0, 1) := by decide +kernel
theorem dX7_joint_170 : decode cX7_joint 170 = .ok (.iconst 2, 1) := by decide +kernel
theorem dX7_joint_171 : decode cX7_joint 171 = .ok (.iconst 1, 1) := by decide +kernel
theorem dX7_joint_172 : decode cX7_joint 172 = .ok (.bipush 30, 2) := by decide +kernel
theorem dX7_joint_174 : decode cX7_joint 174 = .ok (.invokevirtual 197, 3) := by decide +kernel
theorem dX7_joint_177 : decode cX7_joint 177 = .ok (.iastore, 1) := by decide +kernel
theorem dX7_joint_178 : decode cX7_joint 178 = .ok (.aload_n 0, 1) := by decide +kernel
theorem dX7_joint_179 : decode cX7_joint 179 = .ok (.getfield 28, 3) := by decide +kernel
theorem dX7_joint_182 : decode cX7_joint 182 = .ok (.iload_n 2, 1) := by decide +kernel
theorem dX7_joint_183 : decode cX7_joint 183 = .ok (.iconst 3, 1) := by decide +kernel
theorem dX7_joint_184 : decode cX7_joint 184 = .ok (.iadd, 1) := by decide +kernel
theorem dX7_joint_185 : decode cX7_joint 185 = .ok (.aload_n 0, 1) := by decide +kernel
theorem dX7_joint_186 : decode cX7_joint 186 = .ok (.iconst 2, 1) := by decide +kernel
theorem dX7_joint_187 : decode cX7_joint 187 = .ok (.aload_n 0, 1) := by decide +kernel
theorem dX7_joint_188 : decode cX7_joint 188 = .ok (.getfield 28, 3) := by decide +kernel
theorem dX7_joint_191 : decode cX7_joint 191 = .ok (.iload_n 2, 1) := by decide +kernel
theorem dX7_joint_192 : decode cX7_joint 192 = .ok (.iaload, 1) := by decide +kernel
theorem dX7_joint_193 : decode cX7_joint 193 = .ok (.bipush 9, 2) := by decide +kernel
theorem dX7_joint_195 : decode cX7_joint 195 = .ok (.invokevirtual 197, 3) := by decide +kernel
theorem dX7_joint_198 : decode cX7_joint 198 = .ok (.iastore, 1) := by decide +kernel
theorem dX7_joint_199 : decode cX7_joint 199 = .ok (.aload_n 0, 1) := by decide +kernel
theorem dX7_joint_200 : decode cX7_joint 200 = .ok (.getfield 28, 3) := by decide +kernel
theorem dX7_joint_203 : decode cX7_joint 203 = .ok (.iload_n 2, 1) := by decide +kernel
theorem dX7_joint_204 : decode cX7_joint 204 = .ok (.iconst 4, 1) := by decide +kernel
theorem dX7_joint_205 : decode cX7_joint 205 = .ok (.iadd, 1) := by decide +kernel
theorem dX7_joint_206 : decode cX7_joint 206 = .ok (.aload_n 0, 1) := by decide +kernel
theorem dX7_joint_207 : decode cX7_joint 207 = .ok (.iconst 2, 1) := by decide +kernel
theorem dX7_joint_208 : decode cX7_joint 208 = .ok (.aload_n 0, 1) := by decide +kernel
theorem dX7_joint_209 : decode cX7_joint 209 = .ok (.getfield 28, 3) := by decide +kernel
theorem dX7_joint_212 : decode cX7_joint 212 = .ok (.iload_n 2, 1) := by decide +kernel
theorem dX7_joint_213 : decode cX7_joint 213 = .ok (.iconst 2, 1) := by decide +kernel
theorem dX7_joint_214 : decode cX7_joint 214 = .ok (.iadd, 1) := by decide +kernel
theorem dX7_joint_215 : decode cX7_joint 215 = .ok (.iaload, 1) := by decide +kernel
theorem dX7_joint_216 : decode cX7_joint 216 = .ok (.iconst 1, 1) := by decide +kernel
theorem dX7_joint_217 : decode cX7_joint 217 = .ok (.iadd, 1) := by decide +kernel
theorem dX7_joint_218 : decode cX7_joint 218 = .ok (.bipush 60, 2) := by decide +kernel
theorem dX7_joint_220 : decode cX7_joint 220 = .ok (.invokevirtual 197, 3) := by decide +kernel
theorem dX7_joint_223 : decode cX7_joint 223 = .ok (.iastore, 1) := by decide +kernel
theorem dX7_joint_224 : decode cX7_joint 224 = .ok (.iinc 1 1, 3) := by decide +kernel
theorem dX7_joint_227 : decode cX7_joint 227 = .ok (.goto (-190), 3) := by decide +kernel
theorem dX7_joint_230 : decode cX7_joint 230 = .ok (.aload_n 0, 1) := by decide +kernel
theorem dX7_joint_231 : decode cX7_joint 231 = .ok (.getfield 180, 3) := by decide +kernel
theorem dX7_joint_234 : decode cX7_joint 234 = .ok (.iconst (-1), 1) := by decide +kernel
theorem dX7_joint_235 : decode cX7_joint 235 = .ok (.if_icmp .eq 10, 3) := by decide +kernel
theorem dX7_joint_238 : decode cX7_joint 238 = .ok (.iconst (-1), 1) := by decide +kernel
theorem dX7_joint_239 : decode cX7_joint 239 = .ok (.aload_n 0, 1) := by decide +kernel
theorem dX7_joint_240 : decode cX7_joint 240 = .ok (.getfield 180, 3) := by decide +kernel
theorem dX7_joint_243 : decode cX7_joint 243 = .ok (.isub, 1) := by decide +kernel
theorem dX7_joint_244 : decode cX7_joint 244 = .ok (.ireturn, 1) := by decide +kernel
theorem dX7_joint_245 : decode cX7_joint 245 = .ok (.aload_n 0, 1) := by decide +kernel
theorem dX7_joint_246 : decode cX7_joint 246 = .ok (.aload_n 0, 1) := by decide +kernel
theorem dX7_joint_247 : decode cX7_joint 247 = .ok (.getfield 28, 3) := by decide +kernel
theorem dX7_joint_250 : decode cX7_joint 250 = .ok (.iconst 0, 1) := by decide +kernel
theorem dX7_joint_251 : decode cX7_joint 251 = .ok (.iaload, 1) := by decide +kernel
theorem dX7_joint_252 : decode cX7_joint 252 = .ok (.putfield 13, 3) := by decide +kernel
theorem dX7_joint_255 : decode cX7_joint 255 = .ok (.aload_n 0, 1) := by decide +kernel
theorem dX7_joint_256 : decode cX7_joint 256 = .ok (.aload_n 0, 1) := by decide +kernel
theorem dX7_joint_257 : decode cX7_joint 257 = .ok (.getfield 28, 3) := by decide +kernel
theorem dX7_joint_260 : decode cX7_joint 260 = .ok (.iconst 1, 1) := by decide +kernel
theorem dX7_joint_261 : decode cX7_joint 261 = .ok (.iaload, 1) := by decide +kernel
theorem dX7_joint_262 : decode cX7_joint 262 = .ok (.putfield 17, 3) := by decide +kernel
theorem dX7_joint_265 : decode cX7_joint 265 = .ok (.aload_n 0, 1) := by decide +kernel
theorem dX7_joint_266 : decode cX7_joint 266 = .ok (.iconst 0, 1) := by decide +kernel
theorem dX7_joint_267 : decode cX7_joint 267 = .ok (.putfield 127, 3) := by decide +kernel
theorem dX7_joint_270 : decode cX7_joint 270 = .ok (.iconst 0, 1) := by decide +kernel
theorem dX7_joint_271 : decode cX7_joint 271 = .ok (.istore_n 2, 1) := by decide +kernel
theorem dX7_joint_272 : decode cX7_joint 272 = .ok (.iload_n 2, 1) := by decide +kernel
theorem dX7_joint_273 : decode cX7_joint 273 = .ok (.iload_n 1, 1) := by decide +kernel
theorem dX7_joint_274 : decode cX7_joint 274 = .ok (.if_icmp .ge 92, 3) := by decide +kernel
theorem dX7_joint_277 : decode cX7_joint 277 = .ok (.iconst 2, 1) := by decide +kernel
theorem dX7_joint_278 : decode cX7_joint 278 = .ok (.bipush 6, 2) := by decide +kernel
theorem dX7_joint_280 : decode cX7_joint 280 = .ok (.iload_n 2, 1) := by decide +kernel
theorem dX7_joint_281 : decode cX7_joint 281 = .ok (.imul, 1) := by decide +kernel
theorem dX7_joint_282 : decode cX7_joint 282 = .ok (.iadd, 1) := by decide +kernel
theorem dX7_joint_283 : decode cX7_joint 283 = .ok (.istore_n 3, 1) := by decide +kernel
theorem dX7_joint_284 : decode cX7_joint 284 = .ok (.aload_n 0, 1) := by decide +kernel
theorem dX7_joint_285 : decode cX7_joint 285 = .ok (.aload_n 0, 1) := by decide +kernel
theorem dX7_joint_286 : decode cX7_joint 286 = .ok (.getfield 127, 3) := by decide +kernel
theorem dX7_joint_289 : decode cX7_joint 289 = .ok (.aload_n 0, 1) := by decide +kernel
theorem dX7_joint_290 : decode cX7_joint 290 = .ok (.getfield 28, 3) := by decide +kernel
theorem dX7_joint_293 : decode cX7_joint 293 = .ok (.iload_n 3, 1) := by decide +kernel
theorem dX7_joint_294 : decode cX7_joint 294 = .ok (.iaload, 1) := by decide +kernel
theorem dX7_joint_295 : decode cX7_joint 295 = .ok (.aload_n 0, 1) := by decide +kernel
theorem dX7_joint_296 : decode cX7_joint 296 = .ok (.getfield 28, 3) := by decide +kernel
theorem dX7_joint_299 : decode cX7_joint 299 = .ok (.iload_n 3, 1) := by decide +kernel
theorem dX7_joint_300 : decode cX7_joint 300 = .ok (.iconst 1, 1) := by decide +kernel
theorem dX7_joint_301 : decode cX7_joint 301 = .ok (.iadd, 1) := by decide +kernel
theorem dX7_joint_302 : decode cX7_joint 302 = .ok (.iaload, 1) := by decide +kernel
theorem dX7_joint_303 : decode cX7_joint 303 = .ok (.aload_n 0, 1) := by decide +kernel
theorem dX7_joint_304 : decode cX7_joint 304 = .ok (.getfield 28, 3) := by decide +kernel
theorem dX7_joint_307 : decode cX7_joint 307 = .ok (.iload_n 3, 1) := by decide +kernel
theorem dX7_joint_308 : decode cX7_joint 308 = .ok (.iconst 2, 1) := by decide +kernel
theorem dX7_joint_309 : decode cX7_joint 309 = .ok (.iadd, 1) := by decide +kernel
theorem dX7_joint_310 : decode cX7_joint 310 = .ok (.iaload, 1) := by decide +kernel
theorem dX7_joint_311 : decode cX7_joint 311 = .ok (.aload_n 0, 1) := by decide +kernel
theorem dX7_joint_312 : decode cX7_joint 312 = .ok (.getfield 28, 3) := by decide +kernel
theorem dX7_joint_315 : decode cX7_joint 315 = .ok (.iload_n 3, 1) := by decide +kernel
theorem dX7_joint_316 : decode cX7_joint 316 = .ok (.iconst 3, 1) := by decide +kernel
theorem dX7_joint_317 : decode cX7_joint 317 = .ok (.iadd, 1) := by decide +kernel
theorem dX7_joint_318 : decode cX7_joint 318 = .ok (.iaload, 1) := by decide +kernel
theorem dX7_joint_319 : decode cX7_joint 319 = .ok (.aload_n 0, 1) := by decide +kernel
theorem dX7_joint_320 : decode cX7_joint 320 = .ok (.getfield 28, 3) := by decide +kernel
theorem dX7_joint_323 : decode cX7_joint 323 = .ok (.iload_n 3, 1) := by decide +kernel
theorem dX7_joint_324 : decode cX7_joint 324 = .ok (.iconst 4, 1) := by decide +kernel
theorem dX7_joint_325 : decode cX7_joint 325 = .ok (.iadd, 1) := by decide +kernel
theorem dX7_joint_326 : decode cX7_joint 326 = .ok (.iaload, 1) := by decide +kernel
theorem dX7_joint_327 : decode cX7_joint 327 = .ok (.invokevirtual 146, 3) := by decide +kernel
theorem dX7_joint_330 : decode cX7_joint 330 = .ok (.aload_n 0, 1) := by decide +kernel
theorem dX7_joint_331 : decode cX7_joint 331 = .ok (.invokevirtual 150, 3) := by decide +kernel
theorem dX7_joint_334 : decode cX7_joint 334 = .ok (.iload_n 2, 1) := by decide +kernel
theorem dX7_joint_335 : decode cX7_joint 335 = .ok (.ifCond .le 25, 3) := by decide +kernel
theorem dX7_joint_338 : decode cX7_joint 338 = .ok (.aload_n 0, 1) := by decide +kernel
theorem dX7_joint_339 : decode cX7_joint 339 = .ok (.getfield 9, 3) := by decide +kernel
theorem dX7_joint_342 : decode cX7_joint 342 = .ok (.bipush 7, 2) := by decide +kernel
theorem dX7_joint_344 : decode cX7_joint 344 = .ok (.iload_n 2, 1) := by decide +kernel
theorem dX7_joint_345 : decode cX7_joint 345 = .ok (.iconst 1, 1) := by decide +kernel
theorem dX7_joint_346 : decode cX7_joint 346 = .ok (.isub, 1) := by decide +kernel
theorem dX7_joint_347 : decode cX7_joint 347 = .ok (.imul, 1) := by decide +kernel
theorem dX7_joint_348 : decode cX7_joint 348 = .ok (.bipush 6, 2) := by decide +kernel
theorem dX7_joint_350 : decode cX7_joint 350 = .ok (.iadd, 1) := by decide +kernel
theorem dX7_joint_351 : decode cX7_joint 351 = .ok (.aload_n 0, 1) := by decide +kernel
theorem dX7_joint_352 : decode cX7_joint 352 = .ok (.getfield 28, 3) := by decide +kernel
theorem dX7_joint_355 : decode cX7_joint 355 = .ok (.iload_n 3, 1) := by decide +kernel
theorem dX7_joint_356 : decode cX7_joint 356 = .ok (.iconst 5, 1) := by decide +kernel
theorem dX7_joint_357 : decode cX7_joint 357 = .ok (.iadd, 1) := by decide +kernel
theorem dX7_joint_358 : decode cX7_joint 358 = .ok (.iaload, 1) := by decide +kernel
theorem dX7_joint_359 : decode cX7_joint 359 = .ok (.iastore, 1) := by decide +kernel
theorem dX7_joint_360 : decode cX7_joint 360 = .ok (.iinc 2 1, 3) := by decide +kernel
theorem dX7_joint_363 : decode cX7_joint 363 = .ok (.goto (-91), 3) := by decide +kernel
theorem dX7_joint_366 : decode cX7_joint 366 = .ok (.iload_n 1, 1) := by decide +kernel
theorem dX7_joint_367 : decode cX7_joint 367 = .ok (.ireturn, 1) := by decide +kernel
theorem dX7_part_0 : decode cX7_part 0 = .ok (.aload_n 0, 1) := by decide +kernel
theorem dX7_part_1 : decode cX7_part 1 = .ok (.iconst 0, 1) := by decide +kernel
theorem dX7_part_2 : decode cX7_part 2 = .ok (.putfield 107, 3) := by decide +kernel
theorem dX7_part_5 : decode cX7_part 5 = .ok (.aload_n 0, 1) := by decide +kernel
theorem dX7_part_6 : decode cX7_part 6 = .ok (.iload_n 1, 1) := by decide +kernel
theorem dX7_part_7 : decode cX7_part 7 = .ok (.invokevirtual 159, 3) := by decide +kernel
theorem dX7_part_10 : decode cX7_part 10 = .ok (.ifCond .eq 15, 3) := by decide +kernel
theorem dX7_part_13 : decode cX7_part 13 = .ok (.iload_n 2, 1) := by decide +kernel
theorem dX7_part_14 : decode cX7_part 14 = .ok (.i2l, 1) := by decide +kernel
theorem dX7_part_15 : decode cX7_part 15 = .ok (.lconst 0, 1) := by decide +kernel
theorem dX7_part_16 : decode cX7_part 16 = .ok (.ldc2_w 201, 3) := by decide +kernel
theorem dX7_part_19 : decode cX7_part 19 = .ok (.invokestatic 130, 3) := by decide +kernel
theorem dX7_part_22 : decode cX7_part 22 = .ok (.ifCond .ne 8, 3) := by decide +kernel
theorem dX7_part_25 : decode cX7_part 25 = .ok (.aload_n 0, 1) := by decide +kernel
theorem dX7_part_26 : decode cX7_part 26 = .ok (.invokevirtual 203, 3) := by decide +kernel
theorem dX7_part_29 : decode cX7_part 29 = .ok (.ireturn, 1) := by decide +kernel
theorem dX7_part_30 : decode cX7_part 30 = .ok (.iload_n 2, 1) := by decide +kernel
theorem dX7_part_31 : decode cX7_part 31 = .ok (.bipush 6, 2) := by decide +kernel
theorem dX7_part_33 : decode cX7_part 33 = .ok (.if_icmp .ne 17, 3) := by decide +kernel
theorem dX7_part_36 : decode cX7_part 36 = .ok (.iload_n 1, 1) := by decide +kernel
theorem dX7_part_37 : decode cX7_part 37 = .ok (.aload_n 0, 1) := by decide +kernel
theorem dX7_part_38 : decode cX7_part 38 = .ok (.getfield 127, 3) := by decide +kernel
theorem dX7_part_41 : decode cX7_part 41 = .ok (.iconst 1, 1) := by decide +kernel
theorem dX7_part_42 : decode cX7_part 42 = .ok (.isub, 1) := by decide +kernel
theorem dX7_part_43 : decode cX7_part 43 = .ok (.if_icmp .ne 7, 3) := by decide +kernel
theorem dX7_part_46 : decode cX7_part 46 = .ok (.iconst 0, 1) := by decide +kernel
theorem dX7_part_47 : decode cX7_part 47 = .ok (.goto 9, 3) := by decide +kernel
theorem dX7_part_50 : decode cX7_part 50 = .ok (.aload_n 0, 1) := by decide +kernel
theorem dX7_part_51 : decode cX7_part 51 = .ok (.iload_n 1, 1) := by decide +kernel
theorem dX7_part_52 : decode cX7_part 52 = .ok (.iload_n 2, 1) := by decide +kernel
theorem dX7_part_53 : decode cX7_part 53 = .ok (.invokevirtual 155, 3) := by decide +kernel
theorem dX7_part_56 : decode cX7_part 56 = .ok (.ireturn, 1) := by decide +kernel
theorem dX7_give_0 : decode cX7_give 0 = .ok (.aload_n 0, 1) := by decide +kernel
theorem dX7_give_1 : decode cX7_give 1 = .ok (.getfield 31, 3) := by decide +kernel
theorem dX7_give_4 : decode cX7_give 4 = .ok (.iload_n 1, 1) := by decide +kernel
theorem dX7_give_5 : decode cX7_give 5 = .ok (.iaload, 1) := by decide +kernel
theorem dX7_give_6 : decode cX7_give 6 = .ok (.iconst 2, 1) := by decide +kernel
theorem dX7_give_7 : decode cX7_give 7 = .ok (.if_icmp .ne 12, 3) := by decide +kernel
theorem dX7_give_10 : decode cX7_give 10 = .ok (.aload_n 0, 1) := by decide +kernel
theorem dX7_give_11 : decode cX7_give 11 = .ok (.iload_n 1, 1) := by decide +kernel
theorem dX7_give_12 : decode cX7_give 12 = .ok (.iconst 3, 1) := by decide +kernel
theorem dX7_give_13 : decode cX7_give 13 = .ok (.invokevirtual 155, 3) := by decide +kernel
theorem dX7_give_16 : decode cX7_give 16 = .ok (.goto 9, 3) := by decide +kernel
theorem dX7_give_19 : decode cX7_give 19 = .ok (.aload_n 0, 1) := by decide +kernel
theorem dX7_give_20 : decode cX7_give 20 = .ok (.iload_n 1, 1) := by decide +kernel
theorem dX7_give_21 : decode cX7_give 21 = .ok (.iconst 0, 1) := by decide +kernel
theorem dX7_give_22 : decode cX7_give 22 = .ok (.invokevirtual 155, 3) := by decide +kernel
theorem dX7_give_25 : decode cX7_give 25 = .ok (.ireturn, 1) := by decide +kernel
theorem dX7_layOffsets_0 : decode cX7_layOffsets 0 = .ok (.iconst 0, 1) := by decide +kernel
theorem dX7_layOffsets_1 : decode cX7_layOffsets 1 = .ok (.istore_n 1, 1) := by decide +kernel
theorem dX7_layOffsets_2 : decode cX7_layOffsets 2 = .ok (.iload_n 1, 1) := by decide +kernel
theorem dX7_layOffsets_3 : decode cX7_layOffsets 3 = .ok (.aload_n 0, 1) := by decide +kernel
theorem dX7_layOffsets_4 : decode cX7_layOffsets 4 = .ok (.getfield 127, 3) := by decide +kernel
theorem dX7_layOffsets_7 : decode cX7_layOffsets 7 = .ok (.if_icmp .ge 57, 3) := by decide +kernel
theorem dX7_layOffsets_10 : decode cX7_layOffsets 10 = .ok (.aload_n 0, 1) := by decide +kernel
theorem dX7_layOffsets_11 : decode cX7_layOffsets 11 = .ok (.getfield 46, 3) := by decide +kernel
theorem dX7_layOffsets_14 : decode cX7_layOffsets 14 = .ok (.iload_n 1, 1) := by decide +kernel
theorem dX7_layOffsets_15 : decode cX7_layOffsets 15 = .ok (.aload_n 0, 1) := by decide +kernel
theorem dX7_layOffsets_16 : decode cX7_layOffsets 16 = .ok (.iload_n 1, 1) := by decide +kernel
theorem dX7_layOffsets_17 : decode cX7_layOffsets 17 = .ok (.iconst 1, 1) := by decide +kernel
theorem dX7_layOffsets_18 : decode cX7_layOffsets 18 = .ok (.invokevirtual 155, 3) := by decide +kernel
theorem dX7_layOffsets_21 : decode cX7_layOffsets 21 = .ok (.aload_n 0, 1) := by decide +kernel
theorem dX7_layOffsets_22 : decode cX7_layOffsets 22 = .ok (.getfield 31, 3) := by decide +kernel
theorem dX7_layOffsets_25 : decode cX7_layOffsets 25 = .ok (.iload_n 1, 1) := by decide +kernel
theorem dX7_layOffsets_26 : decode cX7_layOffsets 26 = .ok (.iaload, 1) := by decide +kernel
theorem dX7_layOffsets_27 : decode cX7_layOffsets 27 = .ok (.iconst 2, 1) := by decide +kernel
theorem dX7_layOffsets_28 : decode cX7_layOffsets 28 = .ok (.if_icmp .ne 26, 3) := by decide +kernel
theorem dX7_layOffsets_31 : decode cX7_layOffsets 31 = .ok (.aload_n 0, 1) := by decide +kernel
theorem dX7_layOffsets_32 : decode cX7_layOffsets 32 = .ok (.iload_n 1, 1) := by decide +kernel
theorem dX7_layOffsets_33 : decode cX7_layOffsets 33 = .ok (.iconst 0, 1) := by decide +kernel
theorem dX7_layOffsets_34 : decode cX7_layOffsets 34 = .ok (.invokevirtual 155, 3) := by decide +kernel
theorem dX7_layOffsets_37 : decode cX7_layOffsets 37 = .ok (.aload_n 0, 1) := by decide +kernel
theorem dX7_layOffsets_38 : decode cX7_layOffsets 38 = .ok (.iload_n 1, 1) := by decide +kernel
theorem dX7_layOffsets_39 : decode cX7_layOffsets 39 = .ok (.iconst 3, 1) := by decide +kernel
theorem dX7_layOffsets_40 : decode cX7_layOffsets 40 = .ok (.invokevirtual 155, 3) := by decide +kernel
theorem dX7_layOffsets_43 : decode cX7_layOffsets 43 = .ok (.isub, 1) := by decide +kernel
theorem dX7_layOffsets_44 : decode cX7_layOffsets 44 = .ok (.aload_n 0, 1) := by decide +kernel
theorem dX7_layOffsets_45 : decode cX7_layOffsets 45 = .ok (.iload_n 1, 1) := by decide +kernel
theorem dX7_layOffsets_46 : decode cX7_layOffsets 46 = .ok (.iconst 2, 1) := by decide +kernel
theorem dX7_layOffsets_47 : decode cX7_layOffsets 47 = .ok (.invokevirtual 155, 3) := by decide +kernel
theorem dX7_layOffsets_50 : decode cX7_layOffsets 50 = .ok (.imul, 1) := by decide +kernel
theorem dX7_layOffsets_51 : decode cX7_layOffsets 51 = .ok (.goto 4, 3) := by decide +kernel
theorem dX7_layOffsets_54 : decode cX7_layOffsets 54 = .ok (.iconst 0, 1) := by decide +kernel
theorem dX7_layOffsets_55 : decode cX7_layOffsets 55 = .ok (.iadd, 1) := by decide +kernel
theorem dX7_layOffsets_56 : decode cX7_layOffsets 56 = .ok (.i2l, 1) := by decide +kernel
theorem dX7_layOffsets_57 : decode cX7_layOffsets 57 = .ok (.lastore, 1) := by decide +kernel
theorem dX7_layOffsets_58 : decode cX7_layOffsets 58 = .ok (.iinc 1 1, 3) := by decide +kernel
theorem dX7_layOffsets_61 : decode cX7_layOffsets 61 = .ok (.goto (-59), 3) := by decide +kernel
theorem dX7_layOffsets_64 : decode cX7_layOffsets 64 = .ok (.return_, 1) := by decide +kernel
theorem dX7_pitchesFrom_0 : decode cX7_pitchesFrom 0 = .ok (.iconst 0, 1) := by decide +kernel
theorem dX7_pitchesFrom_1 : decode cX7_pitchesFrom 1 = .ok (.istore_n 3, 1) := by decide +kernel
theorem dX7_pitchesFrom_2 : decode cX7_pitchesFrom 2 = .ok (.iload_n 1, 1) := by decide +kernel
theorem dX7_pitchesFrom_3 : decode cX7_pitchesFrom 3 = .ok (.istore 4, 2) := by decide +kernel
theorem dX7_pitchesFrom_5 : decode cX7_pitchesFrom 5 = .ok (.iload 4, 2) := by decide +kernel
theorem dX7_pitchesFrom_7 : decode cX7_pitchesFrom 7 = .ok (.iload_n 2, 1) := by decide +kernel
theorem dX7_pitchesFrom_8 : decode cX7_pitchesFrom 8 = .ok (.if_icmp .ge 20, 3) := by decide +kernel
theorem dX7_pitchesFrom_11 : decode cX7_pitchesFrom 11 = .ok (.iload_n 3, 1) := by decide +kernel
theorem dX7_pitchesFrom_12 : decode cX7_pitchesFrom 12 = .ok (.aload_n 0, 1) := by decide +kernel
theorem dX7_pitchesFrom_13 : decode cX7_pitchesFrom 13 = .ok (.iload 4, 2) := by decide +kernel
theorem dX7_pitchesFrom_15 : decode cX7_pitchesFrom 15 = .ok (.bipush 6, 2) := by decide +kernel
theorem dX7_pitchesFrom_17 : decode cX7_pitchesFrom 17 = .ok (.invokevirtual 155, 3) := by decide +kernel
theorem dX7_pitchesFrom_20 : decode cX7_pitchesFrom 20 = .ok (.iadd, 1) := by decide +kernel
theorem dX7_pitchesFrom_21 : decode cX7_pitchesFrom 21 = .ok (.istore_n 3, 1) := by decide +kernel
theorem dX7_pitchesFrom_22 : decode cX7_pitchesFrom 22 = .ok (.iinc 4 1, 3) := by decide +kernel
theorem dX7_pitchesFrom_25 : decode cX7_pitchesFrom 25 = .ok (.goto (-20), 3) := by decide +kernel
theorem dX7_pitchesFrom_28 : decode cX7_pitchesFrom 28 = .ok (.iload_n 3, 1) := by decide +kernel
theorem dX7_pitchesFrom_29 : decode cX7_pitchesFrom 29 = .ok (.ireturn, 1) := by decide +kernel
theorem dX7_cell_0 : decode cX7_cell 0 = .ok (.aload_n 0, 1) := by decide +kernel
theorem dX7_cell_1 : decode cX7_cell 1 = .ok (.getfield 52, 3) := by decide +kernel
theorem dX7_cell_4 : decode cX7_cell 4 = .ok (.bipush 7, 2) := by decide +kernel
theorem dX7_cell_6 : decode cX7_cell 6 = .ok (.iload_n 1, 1) := by decide +kernel
theorem dX7_cell_7 : decode cX7_cell 7 = .ok (.imul, 1) := by decide +kernel
theorem dX7_cell_8 : decode cX7_cell 8 = .ok (.iload_n 2, 1) := by decide +kernel
theorem dX7_cell_9 : decode cX7_cell 9 = .ok (.iadd, 1) := by decide +kernel
theorem dX7_cell_10 : decode cX7_cell 10 = .ok (.laload, 1) := by decide +kernel
theorem dX7_cell_11 : decode cX7_cell 11 = .ok (.lreturn, 1) := by decide +kernel
theorem dX7_layMatrix_0 : decode cX7_layMatrix 0 = .ok (.aload_n 0, 1) := by decide +kernel
theorem dX7_layMatrix_1 : decode cX7_layMatrix 1 = .ok (.iconst 0, 1) := by decide +kernel
theorem dX7_layMatrix_2 : decode cX7_layMatrix 2 = .ok (.putfield 206, 3) := by decide +kernel
theorem dX7_layMatrix_5 : decode cX7_layMatrix 5 = .ok (.iconst 0, 1) := by decide +kernel
theorem dX7_layMatrix_6 : decode cX7_layMatrix 6 = .ok (.istore_n 1, 1) := by decide +kernel
theorem dX7_layMatrix_7 : decode cX7_layMatrix 7 = .ok (.iload_n 1, 1) := by decide +kernel
theorem dX7_layMatrix_8 : decode cX7_layMatrix 8 = .ok (.aload_n 0, 1) := by decide +kernel
theorem dX7_layMatrix_9 : decode cX7_layMatrix 9 = .ok (.getfield 127, 3) := by decide +kernel
theorem dX7_layMatrix_12 : decode cX7_layMatrix 12 = .ok (.if_icmp .ge 46, 3) := by decide +kernel
theorem dX7_layMatrix_15 : decode cX7_layMatrix 15 = .ok (.aload_n 0, 1) := by decide +kernel
theorem dX7_layMatrix_16 : decode cX7_layMatrix 16 = .ok (.getfield 31, 3) := by decide +kernel
theorem dX7_layMatrix_19 : decode cX7_layMatrix 19 = .ok (.iload_n 1, 1) := by decide +kernel
theorem dX7_layMatrix_20 : decode cX7_layMatrix 20 = .ok (.iaload, 1) := by decide +kernel
theorem dX7_layMatrix_21 : decode cX7_layMatrix 21 = .ok (.iconst 1, 1) := by decide +kernel
theorem dX7_layMatrix_22 : decode cX7_layMatrix 22 = .ok (.if_icmp .eq 13, 3) := by decide +kernel
theorem dX7_layMatrix_25 : decode cX7_layMatrix 25 = .ok (.aload_n 0, 1) := by decide +kernel
theorem dX7_layMatrix_26 : decode cX7_layMatrix 26 = .ok (.getfield 31, 3) := by decide +kernel
theorem dX7_layMatrix_29 : decode cX7_layMatrix 29 = .ok (.iload_n 1, 1) := by decide +kernel
theorem dX7_layMatrix_30 : decode cX7_layMatrix 30 = .ok (.iaload, 1) := by decide +kernel
theorem dX7_layMatrix_31 : decode cX7_layMatrix 31 = .ok (.iconst 2, 1) := by decide +kernel
theorem dX7_layMatrix_32 : decode cX7_layMatrix 32 = .ok (.if_icmp .ne 20, 3) := by decide +kernel
theorem dX7_layMatrix_35 : decode cX7_layMatrix 35 = .ok (.aload_n 0, 1) := by decide +kernel
theorem dX7_layMatrix_36 : decode cX7_layMatrix 36 = .ok (.getfield 49, 3) := by decide +kernel
theorem dX7_layMatrix_39 : decode cX7_layMatrix 39 = .ok (.aload_n 0, 1) := by decide +kernel
theorem dX7_layMatrix_40 : decode cX7_layMatrix 40 = .ok (.dup, 1) := by decide +kernel
theorem dX7_layMatrix_41 : decode cX7_layMatrix 41 = .ok (.getfield 206, 3) := by decide +kernel
theorem dX7_layMatrix_44 : decode cX7_layMatrix 44 = .ok (.dup_x1, 1) := by decide +kernel
theorem dX7_layMatrix_45 : decode cX7_layMatrix 45 = .ok (.iconst 1, 1) := by decide +kernel
theorem dX7_layMatrix_46 : decode cX7_layMatrix 46 = .ok (.iadd, 1) := by decide +kernel
theorem dX7_layMatrix_47 : decode cX7_layMatrix 47 = .ok (.putfield 206, 3) := by decide +kernel
theorem dX7_layMatrix_50 : decode cX7_layMatrix 50 = .ok (.iload_n 1, 1) := by decide +kernel
theorem dX7_layMatrix_51 : decode cX7_layMatrix 51 = .ok (.iastore, 1) := by decide +kernel
theorem dX7_layMatrix_52 : decode cX7_layMatrix 52 = .ok (.iinc 1 1, 3) := by decide +kernel
theorem dX7_layMatrix_55 : decode cX7_layMatrix 55 = .ok (.goto (-48), 3) := by decide +kernel
theorem dX7_layMatrix_58 : decode cX7_layMatrix 58 = .ok (.iconst 0, 1) := by decide +kernel
theorem dX7_layMatrix_59 : decode cX7_layMatrix 59 = .ok (.istore_n 1, 1) := by decide +kernel
theorem dX7_layMatrix_60 : decode cX7_layMatrix 60 = .ok (.iload_n 1, 1) := by decide +kernel
theorem dX7_layMatrix_61 : decode cX7_layMatrix 61 = .ok (.aload_n 0, 1) := by decide +kernel
theorem dX7_layMatrix_62 : decode cX7_layMatrix 62 = .ok (.getfield 52, 3) := by decide +kernel
theorem dX7_layMatrix_65 : decode cX7_layMatrix 65 = .ok (.arraylength, 1) := by decide +kernel
theorem dX7_layMatrix_66 : decode cX7_layMatrix 66 = .ok (.if_icmp .ge 16, 3) := by decide +kernel
theorem dX7_layMatrix_69 : decode cX7_layMatrix 69 = .ok (.aload_n 0, 1) := by decide +kernel
theorem dX7_layMatrix_70 : decode cX7_layMatrix 70 = .ok (.getfield 52, 3) := by decide +kernel
theorem dX7_layMatrix_73 : decode cX7_layMatrix 73 = .ok (.iload_n 1, 1) := by decide +kernel
theorem dX7_layMatrix_74 : decode cX7_layMatrix 74 = .ok (.lconst 0, 1) := by decide +kernel
theorem dX7_layMatrix_75 : decode cX7_layMatrix 75 = .ok (.lastore, 1) := by decide +kernel
theorem dX7_layMatrix_76 : decode cX7_layMatrix 76 = .ok (.iinc 1 1, 3) := by decide +kernel
theorem dX7_layMatrix_79 : decode cX7_layMatrix 79 = .ok (.goto (-19), 3) := by decide +kernel
theorem dX7_layMatrix_82 : decode cX7_layMatrix 82 = .ok (.iconst 0, 1) := by decide +kernel
theorem dX7_layMatrix_83 : decode cX7_layMatrix 83 = .ok (.istore_n 1, 1) := by decide +kernel
theorem dX7_layMatrix_84 : decode cX7_layMatrix 84 = .ok (.iload_n 1, 1) := by decide +kernel
theorem dX7_layMatrix_85 : decode cX7_layMatrix 85 = .ok (.aload_n 0, 1) := by decide +kernel
theorem dX7_layMatrix_86 : decode cX7_layMatrix 86 = .ok (.getfield 206, 3) := by decide +kernel
theorem dX7_layMatrix_89 : decode cX7_layMatrix 89 = .ok (.if_icmp .ge 232, 3) := by decide +kernel
theorem dX7_layMatrix_92 : decode cX7_layMatrix 92 = .ok (.bipush 7, 2) := by decide +kernel
theorem dX7_layMatrix_94 : decode cX7_layMatrix 94 = .ok (.iload_n 1, 1) := by decide +kernel
theorem dX7_layMatrix_95 : decode cX7_layMatrix 95 = .ok (.imul, 1) := by decide +kernel
theorem dX7_layMatrix_96 : decode cX7_layMatrix 96 = .ok (.istore_n 2, 1) := by decide +kernel
theorem dX7_layMatrix_97 : decode cX7_layMatrix 97 = .ok (.iload_n 1, 1) := by decide +kernel
theorem dX7_layMatrix_98 : decode cX7_layMatrix 98 = .ok (.aload_n 0, 1) := by decide +kernel
theorem dX7_layMatrix_99 : decode cX7_layMatrix 99 = .ok (.getfield 206, 3) := by decide +kernel
theorem dX7_layMatrix_102 : decode cX7_layMatrix 102 = .ok (.iconst 1, 1) := by decide +kernel
theorem dX7_layMatrix_103 : decode cX7_layMatrix 103 = .ok (.isub, 1) := by decide +kernel
theorem dX7_layMatrix_104 : decode cX7_layMatrix 104 = .ok (.if_icmp .ne 7, 3) := by decide +kernel
theorem dX7_layMatrix_107 : decode cX7_layMatrix 107 = .ok (.iconst 1, 1) := by decide +kernel
theorem dX7_layMatrix_108 : decode cX7_layMatrix 108 = .ok (.goto 4, 3) := by decide +kernel
theorem dX7_layMatrix_111 : decode cX7_layMatrix 111 = .ok (.iconst 0, 1) := by decide +kernel
theorem dX7_layMatrix_112 : decode cX7_layMatrix 112 = .ok (.istore_n 3, 1) := by decide +kernel
theorem dX7_layMatrix_113 : decode cX7_layMatrix 113 = .ok (.iload_n 3, 1) := by decide +kernel
theorem dX7_layMatrix_114 : decode cX7_layMatrix 114 = .ok (.ifCond .eq 43, 3) := by decide +kernel
theorem dX7_layMatrix_117 : decode cX7_layMatrix 117 = .ok (.iconst 0, 1) := by decide +kernel
theorem dX7_layMatrix_118 : decode cX7_layMatrix 118 = .ok (.istore 4, 2) := by decide +kernel
theorem dX7_layMatrix_120 : decode cX7_layMatrix 120 = .ok (.iload 4, 2) := by decide +kernel
theorem dX7_layMatrix_122 : decode cX7_layMatrix 122 = .ok (.aload_n 0, 1) := by decide +kernel
theorem dX7_layMatrix_123 : decode cX7_layMatrix 123 = .ok (.getfield 206, 3) := by decide +kernel
theorem dX7_layMatrix_126 : decode cX7_layMatrix 126 = .ok (.if_icmp .ge 19, 3) := by decide +kernel
theorem dX7_layMatrix_129 : decode cX7_layMatrix 129 = .ok (.aload_n 0, 1) := by decide +kernel
theorem dX7_layMatrix_130 : decode cX7_layMatrix 130 = .ok (.getfield 52, 3) := by decide +kernel
theorem dX7_layMatrix_133 : decode cX7_layMatrix 133 = .ok (.iload_n 2, 1) := by decide +kernel
theorem dX7_layMatrix_134 : decode cX7_layMatrix 134 = .ok (.iload 4, 2) := by decide +kernel
theorem dX7_layMatrix_136 : decode cX7_layMatrix 136 = .ok (.iadd, 1) := by decide +kernel
theorem dX7_layMatrix_137 : decode cX7_layMatrix 137 = .ok (.lconst 1, 1) := by decide +kernel
theorem dX7_layMatrix_138 : decode cX7_layMatrix 138 = .ok (.lastore, 1) := by decide +kernel
theorem dX7_layMatrix_139 : decode cX7_layMatrix 139 = .ok (.iinc 4 1, 3) := by decide +kernel
theorem dX7_layMatrix_142 : decode cX7_layMatrix 142 = .ok (.goto (-22), 3) := by decide +kernel
theorem dX7_layMatrix_145 : decode cX7_layMatrix 145 = .ok (.aload_n 0, 1) := by decide +kernel
theorem dX7_layMatrix_146 : decode cX7_layMatrix 146 = .ok (.getfield 52, 3) := by decide +kernel
theorem dX7_layMatrix_149 : decode cX7_layMatrix 149 = .ok (.iload_n 2, 1) := by decide +kernel
theorem dX7_layMatrix_150 : decode cX7_layMatrix 150 = .ok (.iconst 5, 1) := by decide +kernel
theorem dX7_layMatrix_151 : decode cX7_layMatrix 151 = .ok (.iadd, 1) := by decide +kernel
theorem dX7_layMatrix_152 : decode cX7_layMatrix 152 = .ok (.lconst 1, 1) := by decide +kernel
theorem dX7_layMatrix_153 : decode cX7_layMatrix 153 = .ok (.lastore, 1) := by decide +kernel
theorem dX7_layMatrix_154 : decode cX7_layMatrix 154 = .ok (.goto 161, 3) := by decide +kernel
theorem dX7_layMatrix_157 : decode cX7_layMatrix 157 = .ok (.aload_n 0, 1) := by decide +kernel
theorem dX7_layMatrix_158 : decode cX7_layMatrix 158 = .ok (.aload_n 0, 1) := by decide +kernel
theorem dX7_layMatrix_159 : decode cX7_layMatrix 159 = .ok (.getfield 49, 3) := by decide +kernel
theorem dX7_layMatrix_162 : decode cX7_layMatrix 162 = .ok (.iload_n 1, 1) := by decide +kernel
theorem dX7_layMatrix_163 : decode cX7_layMatrix 163 = .ok (.iaload, 1) := by decide +kernel
theorem dX7_layMatrix_164 : decode cX7_layMatrix 164 = .ok (.aload_n 0, 1) := by decide +kernel
theorem dX7_layMatrix_165 : decode cX7_layMatrix 165 = .ok (.getfield 49, 3) := by decide +kernel
theorem dX7_layMatrix_168 : decode cX7_layMatrix 168 = .ok (.iload_n 1, 1) := by decide +kernel
theorem dX7_layMatrix_169 : decode cX7_layMatrix 169 = .ok (.iconst 1, 1) := by decide +kernel
theorem dX7_layMatrix_170 : decode cX7_layMatrix 170 = .ok (.iadd, 1) := by decide +kernel
theorem dX7_layMatrix_171 : decode cX7_layMatrix 171 = .ok (.iaload, 1) := by decide +kernel
theorem dX7_layMatrix_172 : decode cX7_layMatrix 172 = .ok (.invokevirtual 209, 3) := by decide +kernel
theorem dX7_layMatrix_175 : decode cX7_layMatrix 175 = .ok (.istore 4, 2) := by decide +kernel
theorem dX7_layMatrix_177 : decode cX7_layMatrix 177 = .ok (.iconst 0, 1) := by decide +kernel
theorem dX7_layMatrix_178 : decode cX7_layMatrix 178 = .ok (.istore 5, 2) := by decide +kernel
theorem dX7_layMatrix_180 : decode cX7_layMatrix 180 = .ok (.iload 5, 2) := by decide +kernel
theorem dX7_layMatrix_182 : decode cX7_layMatrix 182 = .ok (.iload_n 1, 1) := by decide +kernel
theorem dX7_layMatrix_183 : decode cX7_layMatrix 183 = .ok (.if_icmp .gt 32, 3) := by decide +kernel
theorem dX7_layMatrix_186 : decode cX7_layMatrix 186 = .ok (.aload_n 0, 1) := by decide +kernel
theorem dX7_layMatrix_187 : decode cX7_layMatrix 187 = .ok (.getfield 52, 3) := by decide +kernel
theorem dX7_layMatrix_190 : decode cX7_layMatrix 190 = .ok (.iload_n 2, 1) := by decide +kernel
theorem dX7_layMatrix_191 : decode cX7_layMatrix 191 = .ok (.iload 5, 2) := by decide +kernel
theorem dX7_layMatrix_193 : decode cX7_layMatrix 193 = .ok (.iadd, 1) := by decide +kernel
theorem dX7_layMatrix_194 : decode cX7_layMatrix 194 = .ok (.aload_n 0, 1) := by decide +kernel
theorem dX7_layMatrix_195 : decode cX7_layMatrix 195 = .ok (.getfield 13, 3) := by decide +kernel
theorem dX7_layMatrix_198 : decode cX7_layMatrix 198 = .ok (.aload_n 0, 1) := by decide +kernel
theorem dX7_layMatrix_199 : decode cX7_layMatrix 199 = .ok (.getfield 17, 3) := by decide +kernel
theorem dX7_layMatrix_202 : decode cX7_layMatrix 202 = .ok (.iadd, 1) := by decide +kernel
theorem dX7_layMatrix_203 : decode cX7_layMatrix 203 = .ok (.i2l, 1) := by decide +kernel
theorem dX7_layMatrix_204 : decode cX7_layMatrix 204 = .ok (.iload 4, 2) := by decide +kernel
theorem dX7_layMatrix_206 : decode cX7_layMatrix 206 = .ok (.i2l, 1) := by decide +kernel
theorem dX7_layMatrix_207 : decode cX7_layMatrix 207 = .ok (.lmul, 1) := by decide +kernel
theorem dX7_layMatrix_208 : decode cX7_layMatrix 208 = .ok (.lastore, 1) := by decide +kernel
theorem dX7_layMatrix_209 : decode cX7_layMatrix 209 = .ok (.iinc 5 1, 3) := by decide +kernel
theorem dX7_layMatrix_212 : decode cX7_layMatrix 212 = .ok (.goto (-32), 3) := by decide +kernel
theorem dX7_layMatrix_215 : decode cX7_layMatrix 215 = .ok (.aload_n 0, 1) := by decide +kernel
theorem dX7_layMatrix_216 : decode cX7_layMatrix 216 = .ok (.getfield 52, 3) := by decide +kernel
theorem dX7_layMatrix_219 : decode cX7_layMatrix 219 = .ok (.iload_n 2, 1) := by decide +kernel
theorem dX7_layMatrix_220 : decode cX7_layMatrix 220 = .ok (.iload_n 1, 1) := by decide +kernel
theorem dX7_layMatrix_221 : decode cX7_layMatrix 221 = .ok (.iadd, 1) := by decide +kernel
theorem dX7_layMatrix_222 : decode cX7_layMatrix 222 = .ok (.dup2, 1) := by decide +kernel
theorem dX7_layMatrix_223 : decode cX7_layMatrix 223 = .ok (.laload, 1) := by decide +kernel
theorem dX7_layMatrix_224 : decode cX7_layMatrix 224 = .ok (.aload_n 0, 1) := by decide +kernel
theorem dX7_layMatrix_225 : decode cX7_layMatrix 225 = .ok (.aload_n 0, 1) := by decide +kernel
theorem dX7_layMatrix_226 : decode cX7_layMatrix 226 = .ok (.getfield 49, 3) := by decide +kernel
theorem dX7_layMatrix_229 : decode cX7_layMatrix 229 = .ok (.iload_n 1, 1) := by decide +kernel
theorem dX7_layMatrix_230 : decode cX7_layMatrix 230 = .ok (.iaload, 1) := by decide +kernel
theorem dX7_layMatrix_231 : decode cX7_layMatrix 231 = .ok (.invokevirtual 212, 3) := by decide +kernel
theorem dX7_layMatrix_234 : decode cX7_layMatrix 234 = .ok (.i2l, 1) := by decide +kernel
theorem dX7_layMatrix_235 : decode cX7_layMatrix 235 = .ok (.ladd, 1) := by decide +kernel
theorem dX7_layMatrix_236 : decode cX7_layMatrix 236 = .ok (.lastore, 1) := by decide +kernel
theorem dX7_layMatrix_237 : decode cX7_layMatrix 237 = .ok (.aload_n 0, 1) := by decide +kernel
theorem dX7_layMatrix_238 : decode cX7_layMatrix 238 = .ok (.getfield 52, 3) := by decide +kernel
theorem dX7_layMatrix_241 : decode cX7_layMatrix 241 = .ok (.iload_n 2, 1) := by decide +kernel
theorem dX7_layMatrix_242 : decode cX7_layMatrix 242 = .ok (.iload_n 1, 1) := by decide +kernel
theorem dX7_layMatrix_243 : decode cX7_layMatrix 243 = .ok (.iadd, 1) := by decide +kernel
theorem dX7_layMatrix_244 : decode cX7_layMatrix 244 = .ok (.iconst 1, 1) := by decide +kernel
theorem dX7_layMatrix_245 : decode cX7_layMatrix 245 = .ok (.iadd, 1) := by decide +kernel
theorem dX7_layMatrix_246 : decode cX7_layMatrix 246 = .ok (.dup2, 1) := by decide +kernel
theorem dX7_layMatrix_247 : decode cX7_layMatrix 247 = .ok (.laload, 1) := by decide +kernel
theorem dX7_layMatrix_248 : decode cX7_layMatrix 248 = .ok (.aload_n 0, 1) := by decide +kernel
theorem dX7_layMatrix_249 : decode cX7_layMatrix 249 = .ok (.aload_n 0, 1) := by decide +kernel
theorem dX7_layMatrix_250 : decode cX7_layMatrix 250 = .ok (.getfield 49, 3) := by decide +kernel
theorem dX7_layMatrix_253 : decode cX7_layMatrix 253 = .ok (.iload_n 1, 1) := by decide +kernel
theorem dX7_layMatrix_254 : decode cX7_layMatrix 254 = .ok (.iconst 1, 1) := by decide +kernel
theorem dX7_layMatrix_255 : decode cX7_layMatrix 255 = .ok (.iadd, 1) := by decide +kernel
theorem dX7_layMatrix_256 : decode cX7_layMatrix 256 = .ok (.iaload, 1) := by decide +kernel
theorem dX7_layMatrix_257 : decode cX7_layMatrix 257 = .ok (.invokevirtual 212, 3) := by decide +kernel
theorem dX7_layMatrix_260 : decode cX7_layMatrix 260 = .ok (.i2l, 1) := by decide +kernel
theorem dX7_layMatrix_261 : decode cX7_layMatrix 261 = .ok (.lsub, 1) := by decide +kernel
theorem dX7_layMatrix_262 : decode cX7_layMatrix 262 = .ok (.lastore, 1) := by decide +kernel
theorem dX7_layMatrix_263 : decode cX7_layMatrix 263 = .ok (.aload_n 0, 1) := by decide +kernel
theorem dX7_layMatrix_264 : decode cX7_layMatrix 264 = .ok (.getfield 52, 3) := by decide +kernel
theorem dX7_layMatrix_267 : decode cX7_layMatrix 267 = .ok (.iload_n 2, 1) := by decide +kernel
theorem dX7_layMatrix_268 : decode cX7_layMatrix 268 = .ok (.iconst 5, 1) := by decide +kernel
theorem dX7_layMatrix_269 : decode cX7_layMatrix 269 = .ok (.iadd, 1) := by decide +kernel
theorem dX7_layMatrix_270 : decode cX7_layMatrix 270 = .ok (.aload_n 0, 1) := by decide +kernel
theorem dX7_layMatrix_271 : decode cX7_layMatrix 271 = .ok (.getfield 13, 3) := by decide +kernel
theorem dX7_layMatrix_274 : decode cX7_layMatrix 274 = .ok (.i2l, 1) := by decide +kernel
theorem dX7_layMatrix_275 : decode cX7_layMatrix 275 = .ok (.iload 4, 2) := by decide +kernel
theorem dX7_layMatrix_277 : decode cX7_layMatrix 277 = .ok (.i2l, 1) := by decide +kernel
theorem dX7_layMatrix_278 : decode cX7_layMatrix 278 = .ok (.lmul, 1) := by decide +kernel
theorem dX7_layMatrix_279 : decode cX7_layMatrix 279 = .ok (.lastore, 1) := by decide +kernel
theorem dX7_layMatrix_280 : decode cX7_layMatrix 280 = .ok (.aload_n 0, 1) := by decide +kernel
theorem dX7_layMatrix_281 : decode cX7_layMatrix 281 = .ok (.getfield 52, 3) := by decide +kernel
theorem dX7_layMatrix_284 : decode cX7_layMatrix 284 = .ok (.iload_n 2, 1) := by decide +kernel
theorem dX7_layMatrix_285 : decode cX7_layMatrix 285 = .ok (.iconst 5, 1) := by decide +kernel
theorem dX7_layMatrix_286 : decode cX7_layMatrix 286 = .ok (.iadd, 1) := by decide +kernel
theorem dX7_layMatrix_287 : decode cX7_layMatrix 287 = .ok (.iconst 1, 1) := by decide +kernel
theorem dX7_layMatrix_288 : decode cX7_layMatrix 288 = .ok (.iadd, 1) := by decide +kernel
theorem dX7_layMatrix_289 : decode cX7_layMatrix 289 = .ok (.aload_n 0, 1) := by decide +kernel
theorem dX7_layMatrix_290 : decode cX7_layMatrix 290 = .ok (.getfield 46, 3) := by decide +kernel
theorem dX7_layMatrix_293 : decode cX7_layMatrix 293 = .ok (.aload_n 0, 1) := by decide +kernel
theorem dX7_layMatrix_294 : decode cX7_layMatrix 294 = .ok (.getfield 49, 3) := by decide +kernel
theorem dX7_layMatrix_297 : decode cX7_layMatrix 297 = .ok (.iload_n 1, 1) := by decide +kernel
theorem dX7_layMatrix_298 : decode cX7_layMatrix 298 = .ok (.iconst 1, 1) := by decide +kernel
theorem dX7_layMatrix_299 : decode cX7_layMatrix 299 = .ok (.iadd, 1) := by decide +kernel
theorem dX7_layMatrix_300 : decode cX7_layMatrix 300 = .ok (.iaload, 1) := by decide +kernel
theorem dX7_layMatrix_301 : decode cX7_layMatrix 301 = .ok (.laload, 1) := by decide +kernel
theorem dX7_layMatrix_302 : decode cX7_layMatrix 302 = .ok (.aload_n 0, 1) := by decide +kernel
theorem dX7_layMatrix_303 : decode cX7_layMatrix 303 = .ok (.getfield 46, 3) := by decide +kernel
theorem dX7_layMatrix_306 : decode cX7_layMatrix 306 = .ok (.aload_n 0, 1) := by decide +kernel
theorem dX7_layMatrix_307 : decode cX7_layMatrix 307 = .ok (.getfield 49, 3) := by decide +kernel
theorem dX7_layMatrix_310 : decode cX7_layMatrix 310 = .ok (.iload_n 1, 1) := by decide +kernel
theorem dX7_layMatrix_311 : decode cX7_layMatrix 311 = .ok (.iaload, 1) := by decide +kernel
theorem dX7_layMatrix_312 : decode cX7_layMatrix 312 = .ok (.laload, 1) := by decide +kernel
theorem dX7_layMatrix_313 : decode cX7_layMatrix 313 = .ok (.lsub, 1) := by decide +kernel
theorem dX7_layMatrix_314 : decode cX7_layMatrix 314 = .ok (.lastore, 1) := by decide +kernel
theorem dX7_layMatrix_315 : decode cX7_layMatrix 315 = .ok (.iinc 1 1, 3) := by decide +kernel
theorem dX7_layMatrix_318 : decode cX7_layMatrix 318 = .ok (.goto (-234), 3) := by decide +kernel
theorem dX7_layMatrix_321 : decode cX7_layMatrix 321 = .ok (.return_, 1) := by decide +kernel
theorem dX7_determinant_0 : decode cX7_determinant 0 = .ok (.iload_n 1, 1) := by decide +kernel
theorem dX7_determinant_1 : decode cX7_determinant 1 = .ok (.aload_n 0, 1) := by decide +kernel
theorem dX7_determinant_2 : decode cX7_determinant 2 = .ok (.getfield 206, 3) := by decide +kernel
theorem dX7_determinant_5 : decode cX7_determinant 5 = .ok (.if_icmp .ne 5, 3) := by decide +kernel
theorem dX7_determinant_8 : decode cX7_determinant 8 = .ok (.lconst 1, 1) := by decide +kernel
theorem dX7_determinant_9 : decode cX7_determinant 9 = .ok (.lreturn, 1) := by decide +kernel
theorem dX7_determinant_10 : decode cX7_determinant 10 = .ok (.lconst 0, 1) := by decide +kernel
theorem dX7_determinant_11 : decode cX7_determinant 11 = .ok (.lstore 5, 2) := by decide +kernel
theorem dX7_determinant_13 : decode cX7_determinant 13 = .ok (.iconst 1, 1) := by decide +kernel
theorem dX7_determinant_14 : decode cX7_determinant 14 = .ok (.istore 7, 2) := by decide +kernel
theorem dX7_determinant_16 : decode cX7_determinant 16 = .ok (.iconst 0, 1) := by decide +kernel
theorem dX7_determinant_17 : decode cX7_determinant 17 = .ok (.istore 8, 2) := by decide +kernel
theorem dX7_determinant_19 : decode cX7_determinant 19 = .ok (.iload 8, 2) := by decide +kernel
theorem dX7_determinant_21 : decode cX7_determinant 21 = .ok (.aload_n 0, 1) := by decide +kernel
theorem dX7_determinant_22 : decode cX7_determinant 22 = .ok (.getfield 206, 3) := by decide +kernel
theorem dX7_determinant_25 : decode cX7_determinant 25 = .ok (.if_icmp .ge 83, 3) := by decide +kernel
theorem dX7_determinant_28 : decode cX7_determinant 28 = .ok (.iload_n 2, 1) := by decide +kernel
theorem dX7_determinant_29 : decode cX7_determinant 29 = .ok (.iload 8, 2) := by decide +kernel
theorem dX7_determinant_31 : decode cX7_determinant 31 = .ok (.ishr, 1) := by decide +kernel
theorem dX7_determinant_32 : decode cX7_determinant 32 = .ok (.iconst 1, 1) := by decide +kernel
theorem dX7_determinant_33 : decode cX7_determinant 33 = .ok (.iand, 1) := by decide +kernel
theorem dX7_determinant_34 : decode cX7_determinant 34 = .ok (.ifCond .ne 6, 3) := by decide +kernel
theorem dX7_determinant_37 : decode cX7_determinant 37 = .ok (.goto 65, 3) := by decide +kernel
theorem dX7_determinant_40 : decode cX7_determinant 40 = .ok (.aload_n 0, 1) := by decide +kernel
theorem dX7_determinant_41 : decode cX7_determinant 41 = .ok (.iload_n 1, 1) := by decide +kernel
theorem dX7_determinant_42 : decode cX7_determinant 42 = .ok (.iload 8, 2) := by decide +kernel
theorem dX7_determinant_44 : decode cX7_determinant 44 = .ok (.iload_n 3, 1) := by decide +kernel
theorem dX7_determinant_45 : decode cX7_determinant 45 = .ok (.if_icmp .ne 8, 3) := by decide +kernel
theorem dX7_determinant_48 : decode cX7_determinant 48 = .ok (.iload 4, 2) := by decide +kernel
theorem dX7_determinant_50 : decode cX7_determinant 50 = .ok (.goto 5, 3) := by decide +kernel
theorem dX7_determinant_53 : decode cX7_determinant 53 = .ok (.iload 8, 2) := by decide +kernel
theorem dX7_determinant_55 : decode cX7_determinant 55 = .ok (.invokevirtual 216, 3) := by decide +kernel
theorem dX7_determinant_58 : decode cX7_determinant 58 = .ok (.lstore 9, 2) := by decide +kernel
theorem dX7_determinant_60 : decode cX7_determinant 60 = .ok (.lload 9, 2) := by decide +kernel
theorem dX7_determinant_62 : decode cX7_determinant 62 = .ok (.lconst 0, 1) := by decide +kernel
theorem dX7_determinant_63 : decode cX7_determinant 63 = .ok (.lcmp, 1) := by decide +kernel
theorem dX7_determinant_64 : decode cX7_determinant 64 = .ok (.ifCond .eq 33, 3) := by decide +kernel
theorem dX7_determinant_67 : decode cX7_determinant 67 = .ok (.lload 5, 2) := by decide +kernel
theorem dX7_determinant_69 : decode cX7_determinant 69 = .ok (.iload 7, 2) := by decide +kernel
theorem dX7_determinant_71 : decode cX7_determinant 71 = .ok (.i2l, 1) := by decide +kernel
theorem dX7_determinant_72 : decode cX7_determinant 72 = .ok (.lload 9, 2) := by decide +kernel
theorem dX7_determinant_74 : decode cX7_determinant 74 = .ok (.lmul, 1) := by decide +kernel
theorem dX7_determinant_75 : decode cX7_determinant 75 = .ok (.aload_n 0, 1) := by decide +kernel
theorem dX7_determinant_76 : decode cX7_determinant 76 = .ok (.iload_n 1, 1) := by decide +kernel
theorem dX7_determinant_77 : decode cX7_determinant 77 = .ok (.iconst 1, 1) := by decide +kernel
theorem dX7_determinant_78 : decode cX7_determinant 78 = .ok (.iadd, 1) := by decide +kernel
theorem dX7_determinant_79 : decode cX7_determinant 79 = .ok (.iload_n 2, 1) := by decide +kernel
theorem dX7_determinant_80 : decode cX7_determinant 80 = .ok (.iconst 1, 1) := by decide +kernel
theorem dX7_determinant_81 : decode cX7_determinant 81 = .ok (.iload 8, 2) := by decide +kernel
theorem dX7_determinant_83 : decode cX7_determinant 83 = .ok (.ishl, 1) := by decide +kernel
theorem dX7_determinant_84 : decode cX7_determinant 84 = .ok (.iconst (-1), 1) := by decide +kernel
theorem dX7_determinant_85 : decode cX7_determinant 85 = .ok (.ixor, 1) := by decide +kernel
theorem dX7_determinant_86 : decode cX7_determinant 86 = .ok (.iand, 1) := by decide +kernel
theorem dX7_determinant_87 : decode cX7_determinant 87 = .ok (.iload_n 3, 1) := by decide +kernel
theorem dX7_determinant_88 : decode cX7_determinant 88 = .ok (.iload 4, 2) := by decide +kernel
theorem dX7_determinant_90 : decode cX7_determinant 90 = .ok (.invokevirtual 220, 3) := by decide +kernel
theorem dX7_determinant_93 : decode cX7_determinant 93 = .ok (.lmul, 1) := by decide +kernel
theorem dX7_determinant_94 : decode cX7_determinant 94 = .ok (.ladd, 1) := by decide +kernel
theorem dX7_determinant_95 : decode cX7_determinant 95 = .ok (.lstore 5, 2) := by decide +kernel
theorem dX7_determinant_97 : decode cX7_determinant 97 = .ok (.iload 7, 2) := by decide +kernel
theorem dX7_determinant_99 : decode cX7_determinant 99 = .ok (.ineg, 1) := by decide +kernel
theorem dX7_determinant_100 : decode cX7_determinant 100 = .ok (.istore 7, 2) := by decide +kernel
theorem dX7_determinant_102 : decode cX7_determinant 102 = .ok (.iinc 8 1, 3) := by decide +kernel
theorem dX7_determinant_105 : decode cX7_determinant 105 = .ok (.goto (-86), 3) := by decide +kernel
theorem dX7_determinant_108 : decode cX7_determinant 108 = .ok (.lload 5, 2) := by decide +kernel
theorem dX7_determinant_110 : decode cX7_determinant 110 = .ok (.lreturn, 1) := by decide +kernel
theorem dX7_solve_0 : decode cX7_solve 0 = .ok (.aload_n 0, 1) := by decide +kernel
theorem dX7_solve_1 : decode cX7_solve 1 = .ok (.invokevirtual 224, 3) := by decide +kernel
theorem dX7_solve_4 : decode cX7_solve 4 = .ok (.aload_n 0, 1) := by decide +kernel
theorem dX7_solve_5 : decode cX7_solve 5 = .ok (.invokevirtual 227, 3) := by decide +kernel
theorem dX7_solve_8 : decode cX7_solve 8 = .ok (.return_, 1) := by decide +kernel
theorem dX7_solveBy_0 : decode cX7_solveBy 0 = .ok (.aload_n 0, 1) := by decide +kernel
theorem dX7_solveBy_1 : decode cX7_solveBy 1 = .ok (.invokevirtual 230, 3) := by decide +kernel
theorem dX7_solveBy_4 : decode cX7_solveBy 4 = .ok (.iconst 1, 1) := by decide +kernel
theorem dX7_solveBy_5 : decode cX7_solveBy 5 = .ok (.aload_n 0, 1) := by decide +kernel
theorem dX7_solveBy_6 : decode cX7_solveBy 6 = .ok (.getfield 206, 3) := by decide +kernel
theorem dX7_solveBy_9 : decode cX7_solveBy 9 = .ok (.ishl, 1) := by decide +kernel
theorem dX7_solveBy_10 : decode cX7_solveBy 10 = .ok (.iconst 1, 1) := by decide +kernel
theorem dX7_solveBy_11 : decode cX7_solveBy 11 = .ok (.isub, 1) := by decide +kernel
theorem dX7_solveBy_12 : decode cX7_solveBy 12 = .ok (.istore_n 1, 1) := by decide +kernel
theorem dX7_solveBy_13 : decode cX7_solveBy 13 = .ok (.aload_n 0, 1) := by decide +kernel
theorem dX7_solveBy_14 : decode cX7_solveBy 14 = .ok (.aload_n 0, 1) := by decide +kernel
theorem dX7_solveBy_15 : decode cX7_solveBy 15 = .ok (.iconst 0, 1) := by decide +kernel
theorem dX7_solveBy_16 : decode cX7_solveBy 16 = .ok (.iload_n 1, 1) := by decide +kernel
theorem dX7_solveBy_17 : decode cX7_solveBy 17 = .ok (.iconst (-1), 1) := by decide +kernel
theorem dX7_solveBy_18 : decode cX7_solveBy 18 = .ok (.iconst 0, 1) := by decide +kernel
theorem dX7_solveBy_19 : decode cX7_solveBy 19 = .ok (.invokevirtual 220, 3) := by decide +kernel
theorem dX7_solveBy_22 : decode cX7_solveBy 22 = .ok (.putfield 233, 3) := by decide +kernel
theorem dX7_solveBy_25 : decode cX7_solveBy 25 = .ok (.aload_n 0, 1) := by decide +kernel
theorem dX7_solveBy_26 : decode cX7_solveBy 26 = .ok (.getfield 233, 3) := by decide +kernel
theorem dX7_solveBy_29 : decode cX7_solveBy 29 = .ok (.lconst 0, 1) := by decide +kernel
theorem dX7_solveBy_30 : decode cX7_solveBy 30 = .ok (.lcmp, 1) := by decide +kernel
theorem dX7_solveBy_31 : decode cX7_solveBy 31 = .ok (.ifCond .ge 7, 3) := by decide +kernel
theorem dX7_solveBy_34 : decode cX7_solveBy 34 = .ok (.iconst (-1), 1) := by decide +kernel
theorem dX7_solveBy_35 : decode cX7_solveBy 35 = .ok (.goto 4, 3) := by decide +kernel
theorem dX7_solveBy_38 : decode cX7_solveBy 38 = .ok (.iconst 1, 1) := by decide +kernel
theorem dX7_solveBy_39 : decode cX7_solveBy 39 = .ok (.istore_n 2, 1) := by decide +kernel
theorem dX7_solveBy_40 : decode cX7_solveBy 40 = .ok (.aload_n 0, 1) := by decide +kernel
theorem dX7_solveBy_41 : decode cX7_solveBy 41 = .ok (.dup, 1) := by decide +kernel
theorem dX7_solveBy_42 : decode cX7_solveBy 42 = .ok (.getfield 233, 3) := by decide +kernel
theorem dX7_solveBy_45 : decode cX7_solveBy 45 = .ok (.iload_n 2, 1) := by decide +kernel
theorem dX7_solveBy_46 : decode cX7_solveBy 46 = .ok (.i2l, 1) := by decide +kernel
theorem dX7_solveBy_47 : decode cX7_solveBy 47 = .ok (.lmul, 1) := by decide +kernel
theorem dX7_solveBy_48 : decode cX7_solveBy 48 = .ok (.putfield 233, 3) := by decide +kernel
theorem dX7_solveBy_51 : decode cX7_solveBy 51 = .ok (.iconst 0, 1) := by decide +kernel
theorem dX7_solveBy_52 : decode cX7_solveBy 52 = .ok (.istore_n 3, 1) := by decide +kernel
theorem dX7_solveBy_53 : decode cX7_solveBy 53 = .ok (.iload_n 3, 1) := by decide +kernel
theorem dX7_solveBy_54 : decode cX7_solveBy 54 = .ok (.aload_n 0, 1) := by decide +kernel
theorem dX7_solveBy_55 : decode cX7_solveBy 55 = .ok (.getfield 127, 3) := by decide +kernel
theorem dX7_solveBy_58 : decode cX7_solveBy 58 = .ok (.if_icmp .ge 23, 3) := by decide +kernel
theorem dX7_solveBy_61 : decode cX7_solveBy 61 = .ok (.aload_n 0, 1) := by decide +kernel
theorem dX7_solveBy_62 : decode cX7_solveBy 62 = .ok (.getfield 34, 3) := by decide +kernel
theorem dX7_solveBy_65 : decode cX7_solveBy 65 = .ok (.iload_n 3, 1) := by decide +kernel
theorem dX7_solveBy_66 : decode cX7_solveBy 66 = .ok (.lconst 0, 1) := by decide +kernel
theorem dX7_solveBy_67 : decode cX7_solveBy 67 = .ok (.lastore, 1) := by decide +kernel
theorem dX7_solveBy_68 : decode cX7_solveBy 68 = .ok (.aload_n 0, 1) := by decide +kernel
theorem dX7_solveBy_69 : decode cX7_solveBy 69 = .ok (.getfield 37, 3) := by decide +kernel
theorem dX7_solveBy_72 : decode cX7_solveBy 72 = .ok (.iload_n 3, 1) := by decide +kernel
theorem dX7_solveBy_73 : decode cX7_solveBy 73 = .ok (.lconst 0, 1) := by decide +kernel
theorem dX7_solveBy_74 : decode cX7_solveBy 74 = .ok (.lastore, 1) := by decide +kernel
theorem dX7_solveBy_75 : decode cX7_solveBy 75 = .ok (.iinc 3 1, 3) := by decide +kernel
theorem dX7_solveBy_78 : decode cX7_solveBy 78 = .ok (.goto (-25), 3) := by decide +kernel
theorem dX7_solveBy_81 : decode cX7_solveBy 81 = .ok (.iconst 0, 1) := by decide +kernel
theorem dX7_solveBy_82 : decode cX7_solveBy 82 = .ok (.istore_n 3, 1) := by decide +kernel
theorem dX7_solveBy_83 : decode cX7_solveBy 83 = .ok (.iload_n 3, 1) := by decide +kernel
theorem dX7_solveBy_84 : decode cX7_solveBy 84 = .ok (.aload_n 0, 1) := by decide +kernel
theorem dX7_solveBy_85 : decode cX7_solveBy 85 = .ok (.getfield 206, 3) := by decide +kernel
theorem dX7_solveBy_88 : decode cX7_solveBy 88 = .ok (.if_icmp .ge 54, 3) := by decide +kernel
theorem dX7_solveBy_91 : decode cX7_solveBy 91 = .ok (.aload_n 0, 1) := by decide +kernel
theorem dX7_solveBy_92 : decode cX7_solveBy 92 = .ok (.getfield 34, 3) := by decide +kernel
theorem dX7_solveBy_95 : decode cX7_solveBy 95 = .ok (.aload_n 0, 1) := by decide +kernel
theorem dX7_solveBy_96 : decode cX7_solveBy 96 = .ok (.getfield 49, 3) := by decide +kernel
theorem dX7_solveBy_99 : decode cX7_solveBy 99 = .ok (.iload_n 3, 1) := by decide +kernel
theorem dX7_solveBy_100 : decode cX7_solveBy 100 = .ok (.iaload, 1) := by decide +kernel
theorem dX7_solveBy_101 : decode cX7_solveBy 101 = .ok (.iload_n 2, 1) := by decide +kernel
theorem dX7_solveBy_102 : decode cX7_solveBy 102 = .ok (.i2l, 1) := by decide +kernel
theorem dX7_solveBy_103 : decode cX7_solveBy 103 = .ok (.aload_n 0, 1) := by decide +kernel
theorem dX7_solveBy_104 : decode cX7_solveBy 104 = .ok (.iconst 0, 1) := by decide +kernel
theorem dX7_solveBy_105 : decode cX7_solveBy 105 = .ok (.iload_n 1, 1) := by decide +kernel
theorem dX7_solveBy_106 : decode cX7_solveBy 106 = .ok (.iload_n 3, 1) := by decide +kernel
theorem dX7_solveBy_107 : decode cX7_solveBy 107 = .ok (.iconst 5, 1) := by decide +kernel
theorem dX7_solveBy_108 : decode cX7_solveBy 108 = .ok (.invokevirtual 220, 3) := by decide +kernel
theorem dX7_solveBy_111 : decode cX7_solveBy 111 = .ok (.lmul, 1) := by decide +kernel
theorem dX7_solveBy_112 : decode cX7_solveBy 112 = .ok (.lastore, 1) := by decide +kernel
theorem dX7_solveBy_113 : decode cX7_solveBy 113 = .ok (.aload_n 0, 1) := by decide +kernel
theorem dX7_solveBy_114 : decode cX7_solveBy 114 = .ok (.getfield 37, 3) := by decide +kernel
theorem dX7_solveBy_117 : decode cX7_solveBy 117 = .ok (.aload_n 0, 1) := by decide +kernel
theorem dX7_solveBy_118 : decode cX7_solveBy 118 = .ok (.getfield 49, 3) := by decide +kernel
theorem dX7_solveBy_121 : decode cX7_solveBy 121 = .ok (.iload_n 3, 1) := by decide +kernel
theorem dX7_solveBy_122 : decode cX7_solveBy 122 = .ok (.iaload, 1) := by decide +kernel
theorem dX7_solveBy_123 : decode cX7_solveBy 123 = .ok (.iload_n 2, 1) := by decide +kernel
theorem dX7_solveBy_124 : decode cX7_solveBy 124 = .ok (.i2l, 1) := by decide +kernel
theorem dX7_solveBy_125 : decode cX7_solveBy 125 = .ok (.aload_n 0, 1) := by decide +kernel
theorem dX7_solveBy_126 : decode cX7_solveBy 126 = .ok (.iconst 0, 1) := by decide +kernel
theorem dX7_solveBy_127 : decode cX7_solveBy 127 = .ok (.iload_n 1, 1) := by decide +kernel
theorem dX7_solveBy_128 : decode cX7_solveBy 128 = .ok (.iload_n 3, 1) := by decide +kernel
theorem dX7_solveBy_129 : decode cX7_solveBy 129 = .ok (.bipush 6, 2) := by decide +kernel
theorem dX7_solveBy_131 : decode cX7_solveBy 131 = .ok (.invokevirtual 220, 3) := by decide +kernel
theorem dX7_solveBy_134 : decode cX7_solveBy 134 = .ok (.lmul, 1) := by decide +kernel
theorem dX7_solveBy_135 : decode cX7_solveBy 135 = .ok (.lastore, 1) := by decide +kernel
theorem dX7_solveBy_136 : decode cX7_solveBy 136 = .ok (.iinc 3 1, 3) := by decide +kernel
theorem dX7_solveBy_139 : decode cX7_solveBy 139 = .ok (.goto (-56), 3) := by decide +kernel
theorem dX7_solveBy_142 : decode cX7_solveBy 142 = .ok (.aload_n 0, 1) := by decide +kernel
theorem dX7_solveBy_143 : decode cX7_solveBy 143 = .ok (.invokevirtual 237, 3) := by decide +kernel
theorem dX7_solveBy_146 : decode cX7_solveBy 146 = .ok (.return_, 1) := by decide +kernel
theorem dX7_laySlips_0 : decode cX7_laySlips 0 = .ok (.aload_n 0, 1) := by decide +kernel
theorem dX7_laySlips_1 : decode cX7_laySlips 1 = .ok (.getfield 49, 3) := by decide +kernel
theorem dX7_laySlips_4 : decode cX7_laySlips 4 = .ok (.iconst 0, 1) := by decide +kernel
theorem dX7_laySlips_5 : decode cX7_laySlips 5 = .ok (.iaload, 1) := by decide +kernel
theorem dX7_laySlips_6 : decode cX7_laySlips 6 = .ok (.istore_n 1, 1) := by decide +kernel
theorem dX7_laySlips_7 : decode cX7_laySlips 7 = .ok (.aload_n 0, 1) := by decide +kernel
theorem dX7_laySlips_8 : decode cX7_laySlips 8 = .ok (.getfield 40, 3) := by decide +kernel
theorem dX7_laySlips_11 : decode cX7_laySlips 11 = .ok (.iload_n 1, 1) := by decide +kernel
theorem dX7_laySlips_12 : decode cX7_laySlips 12 = .ok (.aload_n 0, 1) := by decide +kernel
theorem dX7_laySlips_13 : decode cX7_laySlips 13 = .ok (.iload_n 1, 1) := by decide +kernel
theorem dX7_laySlips_14 : decode cX7_laySlips 14 = .ok (.invokevirtual 212, 3) := by decide +kernel
theorem dX7_laySlips_17 : decode cX7_laySlips 17 = .ok (.i2l, 1) := by decide +kernel
theorem dX7_laySlips_18 : decode cX7_laySlips 18 = .ok (.aload_n 0, 1) := by decide +kernel
theorem dX7_laySlips_19 : decode cX7_laySlips 19 = .ok (.getfield 34, 3) := by decide +kernel
theorem dX7_laySlips_22 : decode cX7_laySlips 22 = .ok (.iload_n 1, 1) := by decide +kernel
theorem dX7_laySlips_23 : decode cX7_laySlips 23 = .ok (.laload, 1) := by decide +kernel
theorem dX7_laySlips_24 : decode cX7_laySlips 24 = .ok (.lmul, 1) := by decide +kernel
theorem dX7_laySlips_25 : decode cX7_laySlips 25 = .ok (.lastore, 1) := by decide +kernel
theorem dX7_laySlips_26 : decode cX7_laySlips 26 = .ok (.aload_n 0, 1) := by decide +kernel
theorem dX7_laySlips_27 : decode cX7_laySlips 27 = .ok (.getfield 43, 3) := by decide +kernel
theorem dX7_laySlips_30 : decode cX7_laySlips 30 = .ok (.iload_n 1, 1) := by decide +kernel
theorem dX7_laySlips_31 : decode cX7_laySlips 31 = .ok (.aload_n 0, 1) := by decide +kernel
theorem dX7_laySlips_32 : decode cX7_laySlips 32 = .ok (.iload_n 1, 1) := by decide +kernel
theorem dX7_laySlips_33 : decode cX7_laySlips 33 = .ok (.invokevirtual 212, 3) := by decide +kernel
theorem dX7_laySlips_36 : decode cX7_laySlips 36 = .ok (.i2l, 1) := by decide +kernel
theorem dX7_laySlips_37 : decode cX7_laySlips 37 = .ok (.aload_n 0, 1) := by decide +kernel
theorem dX7_laySlips_38 : decode cX7_laySlips 38 = .ok (.getfield 37, 3) := by decide +kernel
theorem dX7_laySlips_41 : decode cX7_laySlips 41 = .ok (.iload_n 1, 1) := by decide +kernel
theorem dX7_laySlips_42 : decode cX7_laySlips 42 = .ok (.laload, 1) := by decide +kernel
theorem dX7_laySlips_43 : decode cX7_laySlips 43 = .ok (.lmul, 1) := by decide +kernel
theorem dX7_laySlips_44 : decode cX7_laySlips 44 = .ok (.aload_n 0, 1) := by decide +kernel
theorem dX7_laySlips_45 : decode cX7_laySlips 45 = .ok (.getfield 46, 3) := by decide +kernel
theorem dX7_laySlips_48 : decode cX7_laySlips 48 = .ok (.iload_n 1, 1) := by decide +kernel
theorem dX7_laySlips_49 : decode cX7_laySlips 49 = .ok (.laload, 1) := by decide +kernel
theorem dX7_laySlips_50 : decode cX7_laySlips 50 = .ok (.aload_n 0, 1) := by decide +kernel
theorem dX7_laySlips_51 : decode cX7_laySlips 51 = .ok (.getfield 233, 3) := by decide +kernel
theorem dX7_laySlips_54 : decode cX7_laySlips 54 = .ok (.lmul, 1) := by decide +kernel
theorem dX7_laySlips_55 : decode cX7_laySlips 55 = .ok (.ladd, 1) := by decide +kernel
theorem dX7_laySlips_56 : decode cX7_laySlips 56 = .ok (.lastore, 1) := by decide +kernel
theorem dX7_laySlips_57 : decode cX7_laySlips 57 = .ok (.iload_n 1, 1) := by decide +kernel
theorem dX7_laySlips_58 : decode cX7_laySlips 58 = .ok (.iconst 1, 1) := by decide +kernel
theorem dX7_laySlips_59 : decode cX7_laySlips 59 = .ok (.isub, 1) := by decide +kernel
theorem dX7_laySlips_60 : decode cX7_laySlips 60 = .ok (.istore_n 2, 1) := by decide +kernel
theorem dX7_laySlips_61 : decode cX7_laySlips 61 = .ok (.iload_n 2, 1) := by decide +kernel
theorem dX7_laySlips_62 : decode cX7_laySlips 62 = .ok (.ifCond .lt 57, 3) := by decide +kernel
theorem dX7_laySlips_65 : decode cX7_laySlips 65 = .ok (.aload_n 0, 1) := by decide +kernel
theorem dX7_laySlips_66 : decode cX7_laySlips 66 = .ok (.getfield 40, 3) := by decide +kernel
theorem dX7_laySlips_69 : decode cX7_laySlips 69 = .ok (.iload_n 2, 1) := by decide +kernel
theorem dX7_laySlips_70 : decode cX7_laySlips 70 = .ok (.aload_n 0, 1) := by decide +kernel
theorem dX7_laySlips_71 : decode cX7_laySlips 71 = .ok (.getfield 40, 3) := by decide +kernel
theorem dX7_laySlips_74 : decode cX7_laySlips 74 = .ok (.iload_n 2, 1) := by decide +kernel
theorem dX7_laySlips_75 : decode cX7_laySlips 75 = .ok (.iconst 1, 1) := by decide +kernel
theorem dX7_laySlips_76 : decode cX7_laySlips 76 = .ok (.iadd, 1) := by decide +kernel
theorem dX7_laySlips_77 : decode cX7_laySlips 77 = .ok (.laload, 1) := by decide +kernel
theorem dX7_laySlips_78 : decode cX7_laySlips 78 = .ok (.aload_n 0, 1) := by decide +kernel
theorem dX7_laySlips_79 : decode cX7_laySlips 79 = .ok (.getfield 13, 3) := by decide +kernel
theorem dX7_laySlips_82 : decode cX7_laySlips 82 = .ok (.i2l, 1) := by decide +kernel
theorem dX7_laySlips_83 : decode cX7_laySlips 83 = .ok (.aload_n 0, 1) := by decide +kernel
theorem dX7_laySlips_84 : decode cX7_laySlips 84 = .ok (.iload_n 2, 1) := by decide +kernel
theorem dX7_laySlips_85 : decode cX7_laySlips 85 = .ok (.bipush 6, 2) := by decide +kernel
theorem dX7_laySlips_87 : decode cX7_laySlips 87 = .ok (.invokevirtual 155, 3) := by decide +kernel
theorem dX7_laySlips_90 : decode cX7_laySlips 90 = .ok (.i2l, 1) := by decide +kernel
theorem dX7_laySlips_91 : decode cX7_laySlips 91 = .ok (.lmul, 1) := by decide +kernel
theorem dX7_laySlips_92 : decode cX7_laySlips 92 = .ok (.aload_n 0, 1) := by decide +kernel
theorem dX7_laySlips_93 : decode cX7_laySlips 93 = .ok (.getfield 233, 3) := by decide +kernel
theorem dX7_laySlips_96 : decode cX7_laySlips 96 = .ok (.lmul, 1) := by decide +kernel
theorem dX7_laySlips_97 : decode cX7_laySlips 97 = .ok (.ladd, 1) := by decide +kernel
theorem dX7_laySlips_98 : decode cX7_laySlips 98 = .ok (.lastore, 1) := by decide +kernel
theorem dX7_laySlips_99 : decode cX7_laySlips 99 = .ok (.aload_n 0, 1) := by decide +kernel
theorem dX7_laySlips_100 : decode cX7_laySlips 100 = .ok (.getfield 43, 3) := by decide +kernel
theorem dX7_laySlips_103 : decode cX7_laySlips 103 = .ok (.iload_n 2, 1) := by decide +kernel
theorem dX7_laySlips_104 : decode cX7_laySlips 104 = .ok (.aload_n 0, 1) := by decide +kernel
theorem dX7_laySlips_105 : decode cX7_laySlips 105 = .ok (.getfield 43, 3) := by decide +kernel
theorem dX7_laySlips_108 : decode cX7_laySlips 108 = .ok (.iload_n 2, 1) := by decide +kernel
theorem dX7_laySlips_109 : decode cX7_laySlips 109 = .ok (.iconst 1, 1) := by decide +kernel
theorem dX7_laySlips_110 : decode cX7_laySlips 110 = .ok (.iadd, 1) := by decide +kernel
theorem dX7_laySlips_111 : decode cX7_laySlips 111 = .ok (.laload, 1) := by decide +kernel
theorem dX7_laySlips_112 : decode cX7_laySlips 112 = .ok (.lastore, 1) := by decide +kernel
theorem dX7_laySlips_113 : decode cX7_laySlips 113 = .ok (.iinc 2 (-1), 3) := by decide +kernel
theorem dX7_laySlips_116 : decode cX7_laySlips 116 = .ok (.goto (-55), 3) := by decide +kernel
theorem dX7_laySlips_119 : decode cX7_laySlips 119 = .ok (.lconst 0, 1) := by decide +kernel
theorem dX7_laySlips_120 : decode cX7_laySlips 120 = .ok (.lstore_n 2, 1) := by decide +kernel
theorem dX7_laySlips_121 : decode cX7_laySlips 121 = .ok (.lconst 0, 1) := by decide +kernel
theorem dX7_laySlips_122 : decode cX7_laySlips 122 = .ok (.lstore 4, 2) := by decide +kernel
theorem dX7_laySlips_124 : decode cX7_laySlips 124 = .ok (.iconst 0, 1) := by decide +kernel
theorem dX7_laySlips_125 : decode cX7_laySlips 125 = .ok (.istore 6, 2) := by decide +kernel
theorem dX7_laySlips_127 : decode cX7_laySlips 127 = .ok (.iload 6, 2) := by decide +kernel
theorem dX7_laySlips_129 : decode cX7_laySlips 129 = .ok (.aload_n 0, 1) := by decide +kernel
theorem dX7_laySlips_130 : decode cX7_laySlips 130 = .ok (.getfield 127, 3) := by decide +kernel
theorem dX7_laySlips_133 : decode cX7_laySlips 133 = .ok (.iconst 1, 1) := by decide +kernel
theorem dX7_laySlips_134 : decode cX7_laySlips 134 = .ok (.isub, 1) := by decide +kernel
theorem dX7_laySlips_135 : decode cX7_laySlips 135 = .ok (.if_icmp .ge 124, 3) := by decide +kernel
theorem dX7_laySlips_138 : decode cX7_laySlips 138 = .ok (.lload_n 2, 1) := by decide +kernel
theorem dX7_laySlips_139 : decode cX7_laySlips 139 = .ok (.aload_n 0, 1) := by decide +kernel
theorem dX7_laySlips_140 : decode cX7_laySlips 140 = .ok (.getfield 34, 3) := by decide +kernel
theorem dX7_laySlips_143 : decode cX7_laySlips 143 = .ok (.iload 6, 2) := by decide +kernel
theorem dX7_laySlips_145 : decode cX7_laySlips 145 = .ok (.laload, 1) := by decide +kernel
theorem dX7_laySlips_146 : decode cX7_laySlips 146 = .ok (.ladd, 1) := by decide +kernel
theorem dX7_laySlips_147 : decode cX7_laySlips 147 = .ok (.lstore_n 2, 1) := by decide +kernel
theorem dX7_laySlips_148 : decode cX7_laySlips 148 = .ok (.lload 4, 2) := by decide +kernel
theorem dX7_laySlips_150 : decode cX7_laySlips 150 = .ok (.aload_n 0, 1) := by decide +kernel
theorem dX7_laySlips_151 : decode cX7_laySlips 151 = .ok (.getfield 37, 3) := by decide +kernel
theorem dX7_laySlips_154 : decode cX7_laySlips 154 = .ok (.iload 6, 2) := by decide +kernel
theorem dX7_laySlips_156 : decode cX7_laySlips 156 = .ok (.laload, 1) := by decide +kernel
theorem dX7_laySlips_157 : decode cX7_laySlips 157 = .ok (.ladd, 1) := by decide +kernel
theorem dX7_laySlips_158 : decode cX7_laySlips 158 = .ok (.lstore 4, 2) := by decide +kernel
theorem dX7_laySlips_160 : decode cX7_laySlips 160 = .ok (.iload 6, 2) := by decide +kernel
theorem dX7_laySlips_162 : decode cX7_laySlips 162 = .ok (.iload_n 1, 1) := by decide +kernel
theorem dX7_laySlips_163 : decode cX7_laySlips 163 = .ok (.if_icmp .ge 6, 3) := by decide +kernel
theorem dX7_laySlips_166 : decode cX7_laySlips 166 = .ok (.goto 87, 3) := by decide +kernel
theorem dX7_laySlips_169 : decode cX7_laySlips 169 = .ok (.aload_n 0, 1) := by decide +kernel
theorem dX7_laySlips_170 : decode cX7_laySlips 170 = .ok (.iload 6, 2) := by decide +kernel
theorem dX7_laySlips_172 : decode cX7_laySlips 172 = .ok (.bipush 6, 2) := by decide +kernel
theorem dX7_laySlips_174 : decode cX7_laySlips 174 = .ok (.invokevirtual 155, 3) := by decide +kernel
theorem dX7_laySlips_177 : decode cX7_laySlips 177 = .ok (.i2l, 1) := by decide +kernel
theorem dX7_laySlips_178 : decode cX7_laySlips 178 = .ok (.lstore 7, 2) := by decide +kernel
theorem dX7_laySlips_180 : decode cX7_laySlips 180 = .ok (.aload_n 0, 1) := by decide +kernel
theorem dX7_laySlips_181 : decode cX7_laySlips 181 = .ok (.getfield 40, 3) := by decide +kernel
theorem dX7_laySlips_184 : decode cX7_laySlips 184 = .ok (.iload 6, 2) := by decide +kernel
theorem dX7_laySlips_186 : decode cX7_laySlips 186 = .ok (.iconst 1, 1) := by decide +kernel
theorem dX7_laySlips_187 : decode cX7_laySlips 187 = .ok (.iadd, 1) := by decide +kernel
theorem dX7_laySlips_188 : decode cX7_laySlips 188 = .ok (.aload_n 0, 1) := by decide +kernel
theorem dX7_laySlips_189 : decode cX7_laySlips 189 = .ok (.getfield 40, 3) := by decide +kernel
theorem dX7_laySlips_192 : decode cX7_laySlips 192 = .ok (.iload 6, 2) := by decide +kernel
theorem dX7_laySlips_194 : decode cX7_laySlips 194 = .ok (.laload, 1) := by decide +kernel
theorem dX7_laySlips_195 : decode cX7_laySlips 195 = .ok (.lload 7, 2) := by decide +kernel
theorem dX7_laySlips_197 : decode cX7_laySlips 197 = .ok (.aload_n 0, 1) := by decide +kernel
theorem dX7_laySlips_198 : decode cX7_laySlips 198 = .ok (.getfield 13, 3) := by decide +kernel
theorem dX7_laySlips_201 : decode cX7_laySlips 201 = .ok (.i2l, 1) := by decide +kernel
theorem dX7_laySlips_202 : decode cX7_laySlips 202 = .ok (.aload_n 0, 1) := by decide +kernel
theorem dX7_laySlips_203 : decode cX7_laySlips 203 = .ok (.getfield 233, 3) := by decide +kernel
theorem dX7_laySlips_206 : decode cX7_laySlips 206 = .ok (.lload_n 2, 1) := by decide +kernel
theorem dX7_laySlips_207 : decode cX7_laySlips 207 = .ok (.lsub, 1) := by decide +kernel
theorem dX7_laySlips_208 : decode cX7_laySlips 208 = .ok (.lmul, 1) := by decide +kernel
theorem dX7_laySlips_209 : decode cX7_laySlips 209 = .ok (.aload_n 0, 1) := by decide +kernel
theorem dX7_laySlips_210 : decode cX7_laySlips 210 = .ok (.getfield 17, 3) := by decide +kernel
theorem dX7_laySlips_213 : decode cX7_laySlips 213 = .ok (.i2l, 1) := by decide +kernel
theorem dX7_laySlips_214 : decode cX7_laySlips 214 = .ok (.lload_n 2, 1) := by decide +kernel
theorem dX7_laySlips_215 : decode cX7_laySlips 215 = .ok (.lmul, 1) := by decide +kernel
theorem dX7_laySlips_216 : decode cX7_laySlips 216 = .ok (.lsub, 1) := by decide +kernel
theorem dX7_laySlips_217 : decode cX7_laySlips 217 = .ok (.lmul, 1) := by decide +kernel
theorem dX7_laySlips_218 : decode cX7_laySlips 218 = .ok (.lsub, 1) := by decide +kernel
theorem dX7_laySlips_219 : decode cX7_laySlips 219 = .ok (.lastore, 1) := by decide +kernel
theorem dX7_laySlips_220 : decode cX7_laySlips 220 = .ok (.aload_n 0, 1) := by decide +kernel
theorem dX7_laySlips_221 : decode cX7_laySlips 221 = .ok (.getfield 43, 3) := by decide +kernel
theorem dX7_laySlips_224 : decode cX7_laySlips 224 = .ok (.iload 6, 2) := by decide +kernel
theorem dX7_laySlips_226 : decode cX7_laySlips 226 = .ok (.iconst 1, 1) := by decide +kernel
theorem dX7_laySlips_227 : decode cX7_laySlips 227 = .ok (.iadd, 1) := by decide +kernel
theorem dX7_laySlips_228 : decode cX7_laySlips 228 = .ok (.aload_n 0, 1) := by decide +kernel
theorem dX7_laySlips_229 : decode cX7_laySlips 229 = .ok (.getfield 43, 3) := by decide +kernel
theorem dX7_laySlips_232 : decode cX7_laySlips 232 = .ok (.iload 6, 2) := by decide +kernel
theorem dX7_laySlips_234 : decode cX7_laySlips 234 = .ok (.laload, 1) := by decide +kernel
theorem dX7_laySlips_235 : decode cX7_laySlips 235 = .ok (.lload 7, 2) := by decide +kernel
theorem dX7_laySlips_237 : decode cX7_laySlips 237 = .ok (.aload_n 0, 1) := by decide +kernel
theorem dX7_laySlips_238 : decode cX7_laySlips 238 = .ok (.getfield 13, 3) := by decide +kernel
theorem dX7_laySlips_241 : decode cX7_laySlips 241 = .ok (.aload_n 0, 1) := by decide +kernel
theorem dX7_laySlips_242 : decode cX7_laySlips 242 = .ok (.getfield 17, 3) := by decide +kernel
theorem dX7_laySlips_245 : decode cX7_laySlips 245 = .ok (.iadd, 1) := by decide +kernel
theorem dX7_laySlips_246 : decode cX7_laySlips 246 = .ok (.i2l, 1) := by decide +kernel
theorem dX7_laySlips_247 : decode cX7_laySlips 247 = .ok (.lmul, 1) := by decide +kernel
theorem dX7_laySlips_248 : decode cX7_laySlips 248 = .ok (.lload 4, 2) := by decide +kernel
theorem dX7_laySlips_250 : decode cX7_laySlips 250 = .ok (.lmul, 1) := by decide +kernel
theorem dX7_laySlips_251 : decode cX7_laySlips 251 = .ok (.ladd, 1) := by decide +kernel
theorem dX7_laySlips_252 : decode cX7_laySlips 252 = .ok (.lastore, 1) := by decide +kernel
theorem dX7_laySlips_253 : decode cX7_laySlips 253 = .ok (.iinc 6 1, 3) := by decide +kernel
theorem dX7_laySlips_256 : decode cX7_laySlips 256 = .ok (.goto (-129), 3) := by decide +kernel
theorem dX7_laySlips_259 : decode cX7_laySlips 259 = .ok (.return_, 1) := by decide +kernel
theorem dX7_setLoad_0 : decode cX7_setLoad 0 = .ok (.lload_n 1, 1) := by decide +kernel
theorem dX7_setLoad_1 : decode cX7_setLoad 1 = .ok (.lconst 0, 1) := by decide +kernel
theorem dX7_setLoad_2 : decode cX7_setLoad 2 = .ok (.lcmp, 1) := by decide +kernel
theorem dX7_setLoad_3 : decode cX7_setLoad 3 = .ok (.ifCond .ne 7, 3) := by decide +kernel
theorem dX7_setLoad_6 : decode cX7_setLoad 6 = .ok (.lload_n 3, 1) := by decide +kernel
theorem dX7_setLoad_7 : decode cX7_setLoad 7 = .ok (.goto 8, 3) := by decide +kernel
theorem dX7_setLoad_10 : decode cX7_setLoad 10 = .ok (.lload_n 1, 1) := by decide +kernel
theorem dX7_setLoad_11 : decode cX7_setLoad 11 = .ok (.lload_n 3, 1) := by decide +kernel
theorem dX7_setLoad_12 : decode cX7_setLoad 12 = .ok (.invokestatic 119, 3) := by decide +kernel
theorem dX7_setLoad_15 : decode cX7_setLoad 15 = .ok (.lstore 5, 2) := by decide +kernel
theorem dX7_setLoad_17 : decode cX7_setLoad 17 = .ok (.aload_n 0, 1) := by decide +kernel
theorem dX7_setLoad_18 : decode cX7_setLoad 18 = .ok (.lload_n 1, 1) := by decide +kernel
theorem dX7_setLoad_19 : decode cX7_setLoad 19 = .ok (.lload 5, 2) := by decide +kernel
theorem dX7_setLoad_21 : decode cX7_setLoad 21 = .ok (.ldiv, 1) := by decide +kernel
theorem dX7_setLoad_22 : decode cX7_setLoad 22 = .ok (.putfield 240, 3) := by decide +kernel
theorem dX7_setLoad_25 : decode cX7_setLoad 25 = .ok (.aload_n 0, 1) := by decide +kernel
theorem dX7_setLoad_26 : decode cX7_setLoad 26 = .ok (.lload_n 3, 1) := by decide +kernel
theorem dX7_setLoad_27 : decode cX7_setLoad 27 = .ok (.lload 5, 2) := by decide +kernel
theorem dX7_setLoad_29 : decode cX7_setLoad 29 = .ok (.ldiv, 1) := by decide +kernel
theorem dX7_setLoad_30 : decode cX7_setLoad 30 = .ok (.putfield 243, 3) := by decide +kernel
theorem dX7_setLoad_33 : decode cX7_setLoad 33 = .ok (.return_, 1) := by decide +kernel
theorem dX7_forceThere_0 : decode cX7_forceThere 0 = .ok (.aload_n 0, 1) := by decide +kernel
theorem dX7_forceThere_1 : decode cX7_forceThere 1 = .ok (.getfield 34, 3) := by decide +kernel
theorem dX7_forceThere_4 : decode cX7_forceThere 4 = .ok (.iload_n 1, 1) := by decide +kernel
theorem dX7_forceThere_5 : decode cX7_forceThere 5 = .ok (.laload, 1) := by decide +kernel
theorem dX7_forceThere_6 : decode cX7_forceThere 6 = .ok (.aload_n 0, 1) := by decide +kernel
theorem dX7_forceThere_7 : decode cX7_forceThere 7 = .ok (.getfield 240, 3) := by decide +kernel
theorem dX7_forceThere_10 : decode cX7_forceThere 10 = .ok (.lmul, 1) := by decide +kernel
theorem dX7_forceThere_11 : decode cX7_forceThere 11 = .ok (.aload_n 0, 1) := by decide +kernel
theorem dX7_forceThere_12 : decode cX7_forceThere 12 = .ok (.getfield 37, 3) := by decide +kernel
theorem dX7_forceThere_15 : decode cX7_forceThere 15 = .ok (.iload_n 1, 1) := by decide +kernel
theorem dX7_forceThere_16 : decode cX7_forceThere 16 = .ok (.laload, 1) := by decide +kernel
theorem dX7_forceThere_17 : decode cX7_forceThere 17 = .ok (.aload_n 0, 1) := by decide +kernel
theorem dX7_forceThere_18 : decode cX7_forceThere 18 = .ok (.getfield 243, 3) := by decide +kernel
theorem dX7_forceThere_21 : decode cX7_forceThere 21 = .ok (.lmul, 1) := by decide +kernel
theorem dX7_forceThere_22 : decode cX7_forceThere 22 = .ok (.ladd, 1) := by decide +kernel
theorem dX7_forceThere_23 : decode cX7_forceThere 23 = .ok (.lreturn, 1) := by decide +kernel
theorem dX7_slipThere_0 : decode cX7_slipThere 0 = .ok (.aload_n 0, 1) := by decide +kernel
theorem dX7_slipThere_1 : decode cX7_slipThere 1 = .ok (.getfield 40, 3) := by decide +kernel
theorem dX7_slipThere_4 : decode cX7_slipThere 4 = .ok (.iload_n 1, 1) := by decide +kernel
theorem dX7_slipThere_5 : decode cX7_slipThere 5 = .ok (.laload, 1) := by decide +kernel
theorem dX7_slipThere_6 : decode cX7_slipThere 6 = .ok (.aload_n 0, 1) := by decide +kernel
theorem dX7_slipThere_7 : decode cX7_slipThere 7 = .ok (.getfield 240, 3) := by decide +kernel
theorem dX7_slipThere_10 : decode cX7_slipThere 10 = .ok (.lmul, 1) := by decide +kernel
theorem dX7_slipThere_11 : decode cX7_slipThere 11 = .ok (.aload_n 0, 1) := by decide +kernel
theorem dX7_slipThere_12 : decode cX7_slipThere 12 = .ok (.getfield 43, 3) := by decide +kernel
theorem dX7_slipThere_15 : decode cX7_slipThere 15 = .ok (.iload_n 1, 1) := by decide +kernel
theorem dX7_slipThere_16 : decode cX7_slipThere 16 = .ok (.laload, 1) := by decide +kernel
theorem dX7_slipThere_17 : decode cX7_slipThere 17 = .ok (.aload_n 0, 1) := by decide +kernel
theorem dX7_slipThere_18 : decode cX7_slipThere 18 = .ok (.getfield 243, 3) := by decide +kernel
theorem dX7_slipThere_21 : decode cX7_slipThere 21 = .ok (.lmul, 1) := by decide +kernel
theorem dX7_slipThere_22 : decode cX7_slipThere 22 = .ok (.ladd, 1) := by decide +kernel
theorem dX7_slipThere_23 : decode cX7_slipThere 23 = .ok (.lreturn, 1) := by decide +kernel
theorem dX7_unitThere_0 : decode cX7_unitThere 0 = .ok (.aload_n 0, 1) := by decide +kernel
theorem dX7_unitThere_1 : decode cX7_unitThere 1 = .ok (.getfield 233, 3) := by decide +kernel
theorem dX7_unitThere_4 : decode cX7_unitThere 4 = .ok (.aload_n 0, 1) := by decide +kernel
theorem dX7_unitThere_5 : decode cX7_unitThere 5 = .ok (.getfield 243, 3) := by decide +kernel
theorem dX7_unitThere_8 : decode cX7_unitThere 8 = .ok (.lmul, 1) := by decide +kernel
theorem dX7_unitThere_9 : decode cX7_unitThere 9 = .ok (.lreturn, 1) := by decide +kernel
theorem dX7_isLive_0 : decode cX7_isLive 0 = .ok (.aload_n 0, 1) := by decide +kernel
theorem dX7_isLive_1 : decode cX7_isLive 1 = .ok (.getfield 31, 3) := by decide +kernel
theorem dX7_isLive_4 : decode cX7_isLive 4 = .ok (.iload_n 1, 1) := by decide +kernel
theorem dX7_isLive_5 : decode cX7_isLive 5 = .ok (.iaload, 1) := by decide +kernel
theorem dX7_isLive_6 : decode cX7_isLive 6 = .ok (.iconst 3, 1) := by decide +kernel
theorem dX7_isLive_7 : decode cX7_isLive 7 = .ok (.if_icmp .eq 7, 3) := by decide +kernel
theorem dX7_isLive_10 : decode cX7_isLive 10 = .ok (.iconst 1, 1) := by decide +kernel
theorem dX7_isLive_11 : decode cX7_isLive 11 = .ok (.goto 4, 3) := by decide +kernel
theorem dX7_isLive_14 : decode cX7_isLive 14 = .ok (.iconst 0, 1) := by decide +kernel
theorem dX7_isLive_15 : decode cX7_isLive 15 = .ok (.ireturn, 1) := by decide +kernel
theorem dX7_note_0 : decode cX7_note 0 = .ok (.aload_n 0, 1) := by decide +kernel
theorem dX7_note_1 : decode cX7_note 1 = .ok (.getfield 55, 3) := by decide +kernel
theorem dX7_note_4 : decode cX7_note 4 = .ok (.aload_n 0, 1) := by decide +kernel
theorem dX7_note_5 : decode cX7_note 5 = .ok (.getfield 246, 3) := by decide +kernel
theorem dX7_note_8 : decode cX7_note 8 = .ok (.iload_n 1, 1) := by decide +kernel
theorem dX7_note_9 : decode cX7_note 9 = .ok (.iastore, 1) := by decide +kernel
theorem dX7_note_10 : decode cX7_note 10 = .ok (.aload_n 0, 1) := by decide +kernel
theorem dX7_note_11 : decode cX7_note 11 = .ok (.getfield 58, 3) := by decide +kernel
theorem dX7_note_14 : decode cX7_note 14 = .ok (.aload_n 0, 1) := by decide +kernel
theorem dX7_note_15 : decode cX7_note 15 = .ok (.getfield 246, 3) := by decide +kernel
theorem dX7_note_18 : decode cX7_note 18 = .ok (.iload_n 2, 1) := by decide +kernel
theorem dX7_note_19 : decode cX7_note 19 = .ok (.iastore, 1) := by decide +kernel
theorem dX7_note_20 : decode cX7_note 20 = .ok (.aload_n 0, 1) := by decide +kernel
theorem dX7_note_21 : decode cX7_note 21 = .ok (.getfield 61, 3) := by decide +kernel
theorem dX7_note_24 : decode cX7_note 24 = .ok (.aload_n 0, 1) := by decide +kernel
theorem dX7_note_25 : decode cX7_note 25 = .ok (.getfield 246, 3) := by decide +kernel
theorem dX7_note_28 : decode cX7_note 28 = .ok (.aload_n 0, 1) := by decide +kernel
theorem dX7_note_29 : decode cX7_note 29 = .ok (.getfield 240, 3) := by decide +kernel
theorem dX7_note_32 : decode cX7_note 32 = .ok (.lastore, 1) := by decide +kernel
theorem dX7_note_33 : decode cX7_note 33 = .ok (.aload_n 0, 1) := by decide +kernel
theorem dX7_note_34 : decode cX7_note 34 = .ok (.getfield 64, 3) := by decide +kernel
theorem dX7_note_37 : decode cX7_note 37 = .ok (.aload_n 0, 1) := by decide +kernel
theorem dX7_note_38 : decode cX7_note 38 = .ok (.getfield 246, 3) := by decide +kernel
theorem dX7_note_41 : decode cX7_note 41 = .ok (.aload_n 0, 1) := by decide +kernel
theorem dX7_note_42 : decode cX7_note 42 = .ok (.getfield 243, 3) := by decide +kernel
theorem dX7_note_45 : decode cX7_note 45 = .ok (.lastore, 1) := by decide +kernel
theorem dX7_note_46 : decode cX7_note 46 = .ok (.aload_n 0, 1) := by decide +kernel
theorem dX7_note_47 : decode cX7_note 47 = .ok (.dup, 1) := by decide +kernel
theorem dX7_note_48 : decode cX7_note 48 = .ok (.getfield 246, 3) := by decide +kernel
theorem dX7_note_51 : decode cX7_note 51 = .ok (.iconst 1, 1) := by decide +kernel
theorem dX7_note_52 : decode cX7_note 52 = .ok (.iadd, 1) := by decide +kernel
theorem dX7_note_53 : decode cX7_note 53 = .ok (.putfield 246, 3) := by decide +kernel
theorem dX7_note_56 : decode cX7_note 56 = .ok (.aload_n 0, 1) := by decide +kernel
theorem dX7_note_57 : decode cX7_note 57 = .ok (.getfield 67, 3) := by decide +kernel
theorem dX7_note_60 : decode cX7_note 60 = .ok (.iload_n 2, 1) := by decide +kernel
theorem dX7_note_61 : decode cX7_note 61 = .ok (.dup2, 1) := by decide +kernel
theorem dX7_note_62 : decode cX7_note 62 = .ok (.iaload, 1) := by decide +kernel
theorem dX7_note_63 : decode cX7_note 63 = .ok (.iconst 1, 1) := by decide +kernel
theorem dX7_note_64 : decode cX7_note 64 = .ok (.iload_n 1, 1) := by decide +kernel
theorem dX7_note_65 : decode cX7_note 65 = .ok (.ishl, 1) := by decide +kernel
theorem dX7_note_66 : decode cX7_note 66 = .ok (.ior, 1) := by decide +kernel
theorem dX7_note_67 : decode cX7_note 67 = .ok (.iastore, 1) := by decide +kernel
theorem dX7_note_68 : decode cX7_note 68 = .ok (.return_, 1) := by decide +kernel
theorem dX7_leastClear_0 : decode cX7_leastClear 0 = .ok (.bipush 10, 2) := by decide +kernel
theorem dX7_leastClear_2 : decode cX7_leastClear 2 = .ok (.istore_n 1, 1) := by decide +kernel
theorem dX7_leastClear_3 : decode cX7_leastClear 3 = .ok (.iconst 0, 1) := by decide +kernel
theorem dX7_leastClear_4 : decode cX7_leastClear 4 = .ok (.istore_n 2, 1) := by decide +kernel
theorem dX7_leastClear_5 : decode cX7_leastClear 5 = .ok (.iload_n 2, 1) := by decide +kernel
theorem dX7_leastClear_6 : decode cX7_leastClear 6 = .ok (.aload_n 0, 1) := by decide +kernel
theorem dX7_leastClear_7 : decode cX7_leastClear 7 = .ok (.getfield 127, 3) := by decide +kernel
theorem dX7_leastClear_10 : decode cX7_leastClear 10 = .ok (.if_icmp .ge 28, 3) := by decide +kernel
theorem dX7_leastClear_13 : decode cX7_leastClear 13 = .ok (.aload_n 0, 1) := by decide +kernel
theorem dX7_leastClear_14 : decode cX7_leastClear 14 = .ok (.iload_n 2, 1) := by decide +kernel
theorem dX7_leastClear_15 : decode cX7_leastClear 15 = .ok (.invokevirtual 249, 3) := by decide +kernel
theorem dX7_leastClear_18 : decode cX7_leastClear 18 = .ok (.ifCond .eq 14, 3) := by decide +kernel
theorem dX7_leastClear_21 : decode cX7_leastClear 21 = .ok (.iload_n 1, 1) := by decide +kernel
theorem dX7_leastClear_22 : decode cX7_leastClear 22 = .ok (.aload_n 0, 1) := by decide +kernel
theorem dX7_leastClear_23 : decode cX7_leastClear 23 = .ok (.iload_n 2, 1) := by decide +kernel
theorem dX7_leastClear_24 : decode cX7_leastClear 24 = .ok (.iconst 1, 1) := by decide +kernel
theorem dX7_leastClear_25 : decode cX7_leastClear 25 = .ok (.invokevirtual 155, 3) := by decide +kernel
theorem dX7_leastClear_28 : decode cX7_leastClear 28 = .ok (.invokestatic 252, 3) := by decide +kernel
theorem dX7_leastClear_31 : decode cX7_leastClear 31 = .ok (.istore_n 1, 1) := by decide +kernel
theorem dX7_leastClear_32 : decode cX7_leastClear 32 = .ok (.iinc 2 1, 3) := by decide +kernel
theorem dX7_leastClear_35 : decode cX7_leastClear 35 = .ok (.goto (-30), 3) := by decide +kernel
theorem dX7_leastClear_38 : decode cX7_leastClear 38 = .ok (.iload_n 1, 1) := by decide +kernel
theorem dX7_leastClear_39 : decode cX7_leastClear 39 = .ok (.ireturn, 1) := by decide +kernel
theorem dX7_start_0 : decode cX7_start 0 = .ok (.aload_n 0, 1) := by decide +kernel
theorem dX7_start_1 : decode cX7_start 1 = .ok (.iconst 0, 1) := by decide +kernel
theorem dX7_start_2 : decode cX7_start 2 = .ok (.putfield 246, 3) := by decide +kernel
theorem dX7_start_5 : decode cX7_start 5 = .ok (.aload_n 0, 1) := by decide +kernel
theorem dX7_start_6 : decode cX7_start 6 = .ok (.lconst 0, 1) := by decide +kernel
theorem dX7_start_7 : decode cX7_start 7 = .ok (.lconst 1, 1) := by decide +kernel
theorem dX7_start_8 : decode cX7_start 8 = .ok (.invokevirtual 255, 3) := by decide +kernel
theorem dX7_start_11 : decode cX7_start 11 = .ok (.iconst 0, 1) := by decide +kernel
theorem dX7_start_12 : decode cX7_start 12 = .ok (.istore_n 1, 1) := by decide +kernel
theorem dX7_start_13 : decode cX7_start 13 = .ok (.iload_n 1, 1) := by decide +kernel
theorem dX7_start_14 : decode cX7_start 14 = .ok (.aload_n 0, 1) := by decide +kernel
theorem dX7_start_15 : decode cX7_start 15 = .ok (.getfield 127, 3) := by decide +kernel
theorem dX7_start_18 : decode cX7_start 18 = .ok (.if_icmp .ge 37, 3) := by decide +kernel
theorem dX7_start_21 : decode cX7_start 21 = .ok (.aload_n 0, 1) := by decide +kernel
theorem dX7_start_22 : decode cX7_start 22 = .ok (.getfield 31, 3) := by decide +kernel
theorem dX7_start_25 : decode cX7_start 25 = .ok (.iload_n 1, 1) := by decide +kernel
theorem dX7_start_26 : decode cX7_start 26 = .ok (.aload_n 0, 1) := by decide +kernel
theorem dX7_start_27 : decode cX7_start 27 = .ok (.iload_n 1, 1) := by decide +kernel
theorem dX7_start_28 : decode cX7_start 28 = .ok (.iconst 5, 1) := by decide +kernel
theorem dX7_start_29 : decode cX7_start 29 = .ok (.invokevirtual 155, 3) := by decide +kernel
theorem dX7_start_32 : decode cX7_start 32 = .ok (.iconst 1, 1) := by decide +kernel
theorem dX7_start_33 : decode cX7_start 33 = .ok (.if_icmp .ne 7, 3) := by decide +kernel
theorem dX7_start_36 : decode cX7_start 36 = .ok (.iconst 3, 1) := by decide +kernel
theorem dX7_start_37 : decode cX7_start 37 = .ok (.goto 4, 3) := by decide +kernel
theorem dX7_start_40 : decode cX7_start 40 = .ok (.iconst 0, 1) := by decide +kernel
theorem dX7_start_41 : decode cX7_start 41 = .ok (.iastore, 1) := by decide +kernel
theorem dX7_start_42 : decode cX7_start 42 = .ok (.aload_n 0, 1) := by decide +kernel
theorem dX7_start_43 : decode cX7_start 43 = .ok (.getfield 67, 3) := by decide +kernel
theorem dX7_start_46 : decode cX7_start 46 = .ok (.iload_n 1, 1) := by decide +kernel
theorem dX7_start_47 : decode cX7_start 47 = .ok (.iconst 0, 1) := by decide +kernel
theorem dX7_start_48 : decode cX7_start 48 = .ok (.iastore, 1) := by decide +kernel
theorem dX7_start_49 : decode cX7_start 49 = .ok (.iinc 1 1, 3) := by decide +kernel
theorem dX7_start_52 : decode cX7_start 52 = .ok (.goto (-39), 3) := by decide +kernel
theorem dX7_start_55 : decode cX7_start 55 = .ok (.aload_n 0, 1) := by decide +kernel
theorem dX7_start_56 : decode cX7_start 56 = .ok (.invokevirtual 259, 3) := by decide +kernel
theorem dX7_start_59 : decode cX7_start 59 = .ok (.istore_n 1, 1) := by decide +kernel
theorem dX7_start_60 : decode cX7_start 60 = .ok (.iconst 0, 1) := by decide +kernel
theorem dX7_start_61 : decode cX7_start 61 = .ok (.istore_n 2, 1) := by decide +kernel
theorem dX7_start_62 : decode cX7_start 62 = .ok (.iload_n 2, 1) := by decide +kernel
theorem dX7_start_63 : decode cX7_start 63 = .ok (.aload_n 0, 1) := by decide +kernel
theorem dX7_start_64 : decode cX7_start 64 = .ok (.getfield 127, 3) := by decide +kernel
theorem dX7_start_67 : decode cX7_start 67 = .ok (.if_icmp .ge 43, 3) := by decide +kernel
theorem dX7_start_70 : decode cX7_start 70 = .ok (.aload_n 0, 1) := by decide +kernel
theorem dX7_start_71 : decode cX7_start 71 = .ok (.iload_n 2, 1) := by decide +kernel
theorem dX7_start_72 : decode cX7_start 72 = .ok (.invokevirtual 249, 3) := by decide +kernel
theorem dX7_start_75 : decode cX7_start 75 = .ok (.ifCond .eq 29, 3) := by decide +kernel
theorem dX7_start_78 : decode cX7_start 78 = .ok (.aload_n 0, 1) := by decide +kernel
theorem dX7_start_79 : decode cX7_start 79 = .ok (.iload_n 2, 1) := by decide +kernel
theorem dX7_start_80 : decode cX7_start 80 = .ok (.iconst 1, 1) := by decide +kernel
theorem dX7_start_81 : decode cX7_start 81 = .ok (.invokevirtual 155, 3) := by decide +kernel
theorem dX7_start_84 : decode cX7_start 84 = .ok (.iload_n 1, 1) := by decide +kernel
theorem dX7_start_85 : decode cX7_start 85 = .ok (.if_icmp .eq 6, 3) := by decide +kernel
theorem dX7_start_88 : decode cX7_start 88 = .ok (.goto 16, 3) := by decide +kernel
theorem dX7_start_91 : decode cX7_start 91 = .ok (.aload_n 0, 1) := by decide +kernel
theorem dX7_start_92 : decode cX7_start 92 = .ok (.getfield 31, 3) := by decide +kernel
theorem dX7_start_95 : decode cX7_start 95 = .ok (.iload_n 2, 1) := by decide +kernel
theorem dX7_start_96 : decode cX7_start 96 = .ok (.iconst 1, 1) := by decide +kernel
theorem dX7_start_97 : decode cX7_start 97 = .ok (.iastore, 1) := by decide +kernel
theorem dX7_start_98 : decode cX7_start 98 = .ok (.aload_n 0, 1) := by decide +kernel
theorem dX7_start_99 : decode cX7_start 99 = .ok (.iconst 0, 1) := by decide +kernel
theorem dX7_start_100 : decode cX7_start 100 = .ok (.iload_n 2, 1) := by decide +kernel
theorem dX7_start_101 : decode cX7_start 101 = .ok (.invokevirtual 262, 3) := by decide +kernel
theorem dX7_start_104 : decode cX7_start 104 = .ok (.iinc 2 1, 3) := by decide +kernel
theorem dX7_start_107 : decode cX7_start 107 = .ok (.goto (-45), 3) := by decide +kernel
theorem dX7_start_110 : decode cX7_start 110 = .ok (.return_, 1) := by decide +kernel
theorem dX7_isOver_0 : decode cX7_isOver 0 = .ok (.iconst 0, 1) := by decide +kernel
theorem dX7_isOver_1 : decode cX7_isOver 1 = .ok (.istore_n 1, 1) := by decide +kernel
theorem dX7_isOver_2 : decode cX7_isOver 2 = .ok (.iload_n 1, 1) := by decide +kernel
theorem dX7_isOver_3 : decode cX7_isOver 3 = .ok (.aload_n 0, 1) := by decide +kernel
theorem dX7_isOver_4 : decode cX7_isOver 4 = .ok (.getfield 127, 3) := by decide +kernel
theorem dX7_isOver_7 : decode cX7_isOver 7 = .ok (.if_icmp .ge 19, 3) := by decide +kernel
theorem dX7_isOver_10 : decode cX7_isOver 10 = .ok (.aload_n 0, 1) := by decide +kernel
theorem dX7_isOver_11 : decode cX7_isOver 11 = .ok (.iload_n 1, 1) := by decide +kernel
theorem dX7_isOver_12 : decode cX7_isOver 12 = .ok (.invokevirtual 249, 3) := by decide +kernel
theorem dX7_isOver_15 : decode cX7_isOver 15 = .ok (.ifCond .eq 5, 3) := by decide +kernel
theorem dX7_isOver_18 : decode cX7_isOver 18 = .ok (.iconst 0, 1) := by decide +kernel
theorem dX7_isOver_19 : decode cX7_isOver 19 = .ok (.ireturn, 1) := by decide +kernel
theorem dX7_isOver_20 : decode cX7_isOver 20 = .ok (.iinc 1 1, 3) := by decide +kernel
theorem dX7_isOver_23 : decode cX7_isOver 23 = .ok (.goto (-21), 3) := by decide +kernel
theorem dX7_isOver_26 : decode cX7_isOver 26 = .ok (.iconst 1, 1) := by decide +kernel
theorem dX7_isOver_27 : decode cX7_isOver 27 = .ok (.ireturn, 1) := by decide +kernel
theorem dX7_meets_0 : decode cX7_meets 0 = .ok (.lload_n 1, 1) := by decide +kernel
theorem dX7_meets_1 : decode cX7_meets 1 = .ok (.lconst 0, 1) := by decide +kernel
theorem dX7_meets_2 : decode cX7_meets 2 = .ok (.lcmp, 1) := by decide +kernel
theorem dX7_meets_3 : decode cX7_meets 3 = .ok (.ifCond .gt 4, 3) := by decide +kernel
theorem dX7_meets_6 : decode cX7_meets 6 = .ok (.return_, 1) := by decide +kernel
theorem dX7_meets_7 : decode cX7_meets 7 = .ok (.lload 5, 2) := by decide +kernel
theorem dX7_meets_9 : decode cX7_meets 9 = .ok (.lload_n 3, 1) := by decide +kernel
theorem dX7_meets_10 : decode cX7_meets 10 = .ok (.lsub, 1) := by decide +kernel
theorem dX7_meets_11 : decode cX7_meets 11 = .ok (.lstore 7, 2) := by decide +kernel
theorem dX7_meets_13 : decode cX7_meets 13 = .ok (.aload_n 0, 1) := by decide +kernel
theorem dX7_meets_14 : decode cX7_meets 14 = .ok (.getfield 265, 3) := by decide +kernel
theorem dX7_meets_17 : decode cX7_meets 17 = .ok (.lconst 0, 1) := by decide +kernel
theorem dX7_meets_18 : decode cX7_meets 18 = .ok (.lcmp, 1) := by decide +kernel
theorem dX7_meets_19 : decode cX7_meets 19 = .ok (.ifCond .eq 21, 3) := by decide +kernel
theorem dX7_meets_22 : decode cX7_meets 22 = .ok (.lload 7, 2) := by decide +kernel
theorem dX7_meets_24 : decode cX7_meets 24 = .ok (.aload_n 0, 1) := by decide +kernel
theorem dX7_meets_25 : decode cX7_meets 25 = .ok (.getfield 265, 3) := by decide +kernel
theorem dX7_meets_28 : decode cX7_meets 28 = .ok (.lmul, 1) := by decide +kernel
theorem dX7_meets_29 : decode cX7_meets 29 = .ok (.aload_n 0, 1) := by decide +kernel
theorem dX7_meets_30 : decode cX7_meets 30 = .ok (.getfield 268, 3) := by decide +kernel
theorem dX7_meets_33 : decode cX7_meets 33 = .ok (.lload_n 1, 1) := by decide +kernel
theorem dX7_meets_34 : decode cX7_meets 34 = .ok (.lmul, 1) := by decide +kernel
theorem dX7_meets_35 : decode cX7_meets 35 = .ok (.lcmp, 1) := by decide +kernel
theorem dX7_meets_36 : decode cX7_meets 36 = .ok (.ifCond .lt 4, 3) := by decide +kernel
theorem dX7_meets_39 : decode cX7_meets 39 = .ok (.return_, 1) := by decide +kernel
theorem dX7_meets_40 : decode cX7_meets 40 = .ok (.aload_n 0, 1) := by decide +kernel
theorem dX7_meets_41 : decode cX7_meets 41 = .ok (.lload 7, 2) := by decide +kernel
theorem dX7_meets_43 : decode cX7_meets 43 = .ok (.putfield 268, 3) := by decide +kernel
theorem dX7_meets_46 : decode cX7_meets 46 = .ok (.aload_n 0, 1) := by decide +kernel
theorem dX7_meets_47 : decode cX7_meets 47 = .ok (.lload_n 1, 1) := by decide +kernel
theorem dX7_meets_48 : decode cX7_meets 48 = .ok (.putfield 265, 3) := by decide +kernel
theorem dX7_meets_51 : decode cX7_meets 51 = .ok (.return_, 1) := by decide +kernel
theorem dX7_findNext_0 : decode cX7_findNext 0 = .ok (.aload_n 0, 1) := by decide +kernel
theorem dX7_findNext_1 : decode cX7_findNext 1 = .ok (.invokevirtual 271, 3) := by decide +kernel
theorem dX7_findNext_4 : decode cX7_findNext 4 = .ok (.aload_n 0, 1) := by decide +kernel
theorem dX7_findNext_5 : decode cX7_findNext 5 = .ok (.lconst 0, 1) := by decide +kernel
theorem dX7_findNext_6 : decode cX7_findNext 6 = .ok (.putfield 265, 3) := by decide +kernel
theorem dX7_findNext_9 : decode cX7_findNext 9 = .ok (.iconst 0, 1) := by decide +kernel
theorem dX7_findNext_10 : decode cX7_findNext 10 = .ok (.istore_n 1, 1) := by decide +kernel
theorem dX7_findNext_11 : decode cX7_findNext 11 = .ok (.iload_n 1, 1) := by decide +kernel
theorem dX7_findNext_12 : decode cX7_findNext 12 = .ok (.aload_n 0, 1) := by decide +kernel
theorem dX7_findNext_13 : decode cX7_findNext 13 = .ok (.getfield 127, 3) := by decide +kernel
theorem dX7_findNext_16 : decode cX7_findNext 16 = .ok (.if_icmp .ge 122, 3) := by decide +kernel
theorem dX7_findNext_19 : decode cX7_findNext 19 = .ok (.aload_n 0, 1) := by decide +kernel
theorem dX7_findNext_20 : decode cX7_findNext 20 = .ok (.getfield 31, 3) := by decide +kernel
theorem dX7_findNext_23 : decode cX7_findNext 23 = .ok (.iload_n 1, 1) := by decide +kernel
theorem dX7_findNext_24 : decode cX7_findNext 24 = .ok (.iaload, 1) := by decide +kernel
theorem dX7_findNext_25 : decode cX7_findNext 25 = .ok (.ifCond .ne 31, 3) := by decide +kernel
theorem dX7_findNext_28 : decode cX7_findNext 28 = .ok (.aload_n 0, 1) := by decide +kernel
theorem dX7_findNext_29 : decode cX7_findNext 29 = .ok (.aload_n 0, 1) := by decide +kernel
theorem dX7_findNext_30 : decode cX7_findNext 30 = .ok (.getfield 40, 3) := by decide +kernel
theorem dX7_findNext_33 : decode cX7_findNext 33 = .ok (.iload_n 1, 1) := by decide +kernel
theorem dX7_findNext_34 : decode cX7_findNext 34 = .ok (.laload, 1) := by decide +kernel
theorem dX7_findNext_35 : decode cX7_findNext 35 = .ok (.aload_n 0, 1) := by decide +kernel
theorem dX7_findNext_36 : decode cX7_findNext 36 = .ok (.getfield 43, 3) := by decide +kernel
theorem dX7_findNext_39 : decode cX7_findNext 39 = .ok (.iload_n 1, 1) := by decide +kernel
theorem dX7_findNext_40 : decode cX7_findNext 40 = .ok (.laload, 1) := by decide +kernel
theorem dX7_findNext_41 : decode cX7_findNext 41 = .ok (.aload_n 0, 1) := by decide +kernel
theorem dX7_findNext_42 : decode cX7_findNext 42 = .ok (.iload_n 1, 1) := by decide +kernel
theorem dX7_findNext_43 : decode cX7_findNext 43 = .ok (.iconst 1, 1) := by decide +kernel
theorem dX7_findNext_44 : decode cX7_findNext 44 = .ok (.invokevirtual 155, 3) := by decide +kernel
theorem dX7_findNext_47 : decode cX7_findNext 47 = .ok (.i2l, 1) := by decide +kernel
theorem dX7_findNext_48 : decode cX7_findNext 48 = .ok (.aload_n 0, 1) := by decide +kernel
theorem dX7_findNext_49 : decode cX7_findNext 49 = .ok (.getfield 233, 3) := by decide +kernel
theorem dX7_findNext_52 : decode cX7_findNext 52 = .ok (.lmul, 1) := by decide +kernel
theorem dX7_findNext_53 : decode cX7_findNext 53 = .ok (.invokevirtual 274, 3) := by decide +kernel
theorem dX7_findNext_56 : decode cX7_findNext 56 = .ok (.aload_n 0, 1) := by decide +kernel
theorem dX7_findNext_57 : decode cX7_findNext 57 = .ok (.getfield 31, 3) := by decide +kernel
theorem dX7_findNext_60 : decode cX7_findNext 60 = .ok (.iload_n 1, 1) := by decide +kernel
theorem dX7_findNext_61 : decode cX7_findNext 61 = .ok (.iaload, 1) := by decide +kernel
theorem dX7_findNext_62 : decode cX7_findNext 62 = .ok (.iconst 1, 1) := by decide +kernel
theorem dX7_findNext_63 : decode cX7_findNext 63 = .ok (.if_icmp .ne 31, 3) := by decide +kernel
theorem dX7_findNext_66 : decode cX7_findNext 66 = .ok (.aload_n 0, 1) := by decide +kernel
theorem dX7_findNext_67 : decode cX7_findNext 67 = .ok (.aload_n 0, 1) := by decide +kernel
theorem dX7_findNext_68 : decode cX7_findNext 68 = .ok (.getfield 34, 3) := by decide +kernel
theorem dX7_findNext_71 : decode cX7_findNext 71 = .ok (.iload_n 1, 1) := by decide +kernel
theorem dX7_findNext_72 : decode cX7_findNext 72 = .ok (.laload, 1) := by decide +kernel
theorem dX7_findNext_73 : decode cX7_findNext 73 = .ok (.aload_n 0, 1) := by decide +kernel
theorem dX7_findNext_74 : decode cX7_findNext 74 = .ok (.getfield 37, 3) := by decide +kernel
theorem dX7_findNext_77 : decode cX7_findNext 77 = .ok (.iload_n 1, 1) := by decide +kernel
theorem dX7_findNext_78 : decode cX7_findNext 78 = .ok (.laload, 1) := by decide +kernel
theorem dX7_findNext_79 : decode cX7_findNext 79 = .ok (.aload_n 0, 1) := by decide +kernel
theorem dX7_findNext_80 : decode cX7_findNext 80 = .ok (.iload_n 1, 1) := by decide +kernel
theorem dX7_findNext_81 : decode cX7_findNext 81 = .ok (.iconst 2, 1) := by decide +kernel
theorem dX7_findNext_82 : decode cX7_findNext 82 = .ok (.invokevirtual 155, 3) := by decide +kernel
theorem dX7_findNext_85 : decode cX7_findNext 85 = .ok (.i2l, 1) := by decide +kernel
theorem dX7_findNext_86 : decode cX7_findNext 86 = .ok (.aload_n 0, 1) := by decide +kernel
theorem dX7_findNext_87 : decode cX7_findNext 87 = .ok (.getfield 233, 3) := by decide +kernel
theorem dX7_findNext_90 : decode cX7_findNext 90 = .ok (.lmul, 1) := by decide +kernel
theorem dX7_findNext_91 : decode cX7_findNext 91 = .ok (.invokevirtual 274, 3) := by decide +kernel
theorem dX7_findNext_94 : decode cX7_findNext 94 = .ok (.aload_n 0, 1) := by decide +kernel
theorem dX7_findNext_95 : decode cX7_findNext 95 = .ok (.getfield 31, 3) := by decide +kernel
theorem dX7_findNext_98 : decode cX7_findNext 98 = .ok (.iload_n 1, 1) := by decide +kernel
theorem dX7_findNext_99 : decode cX7_findNext 99 = .ok (.iaload, 1) := by decide +kernel
theorem dX7_findNext_100 : decode cX7_findNext 100 = .ok (.iconst 2, 1) := by decide +kernel
theorem dX7_findNext_101 : decode cX7_findNext 101 = .ok (.if_icmp .ne 31, 3) := by decide +kernel
theorem dX7_findNext_104 : decode cX7_findNext 104 = .ok (.aload_n 0, 1) := by decide +kernel
theorem dX7_findNext_105 : decode cX7_findNext 105 = .ok (.aload_n 0, 1) := by decide +kernel
theorem dX7_findNext_106 : decode cX7_findNext 106 = .ok (.getfield 34, 3) := by decide +kernel
theorem dX7_findNext_109 : decode cX7_findNext 109 = .ok (.iload_n 1, 1) := by decide +kernel
theorem dX7_findNext_110 : decode cX7_findNext 110 = .ok (.laload, 1) := by decide +kernel
theorem dX7_findNext_111 : decode cX7_findNext 111 = .ok (.aload_n 0, 1) := by decide +kernel
theorem dX7_findNext_112 : decode cX7_findNext 112 = .ok (.getfield 37, 3) := by decide +kernel
theorem dX7_findNext_115 : decode cX7_findNext 115 = .ok (.iload_n 1, 1) := by decide +kernel
theorem dX7_findNext_116 : decode cX7_findNext 116 = .ok (.laload, 1) := by decide +kernel
theorem dX7_findNext_117 : decode cX7_findNext 117 = .ok (.aload_n 0, 1) := by decide +kernel
theorem dX7_findNext_118 : decode cX7_findNext 118 = .ok (.iload_n 1, 1) := by decide +kernel
theorem dX7_findNext_119 : decode cX7_findNext 119 = .ok (.iconst 4, 1) := by decide +kernel
theorem dX7_findNext_120 : decode cX7_findNext 120 = .ok (.invokevirtual 155, 3) := by decide +kernel
theorem dX7_findNext_123 : decode cX7_findNext 123 = .ok (.i2l, 1) := by decide +kernel
theorem dX7_findNext_124 : decode cX7_findNext 124 = .ok (.aload_n 0, 1) := by decide +kernel
theorem dX7_findNext_125 : decode cX7_findNext 125 = .ok (.getfield 233, 3) := by decide +kernel
theorem dX7_findNext_128 : decode cX7_findNext 128 = .ok (.lmul, 1) := by decide +kernel
theorem dX7_findNext_129 : decode cX7_findNext 129 = .ok (.invokevirtual 274, 3) := by decide +kernel
theorem dX7_findNext_132 : decode cX7_findNext 132 = .ok (.iinc 1 1, 3) := by decide +kernel
theorem dX7_findNext_135 : decode cX7_findNext 135 = .ok (.goto (-124), 3) := by decide +kernel
theorem dX7_findNext_138 : decode cX7_findNext 138 = .ok (.return_, 1) := by decide +kernel
theorem dX7_goNext_0 : decode cX7_goNext 0 = .ok (.aload_n 0, 1) := by decide +kernel
theorem dX7_goNext_1 : decode cX7_goNext 1 = .ok (.aload_n 0, 1) := by decide +kernel
theorem dX7_goNext_2 : decode cX7_goNext 2 = .ok (.getfield 268, 3) := by decide +kernel
theorem dX7_goNext_5 : decode cX7_goNext 5 = .ok (.aload_n 0, 1) := by decide +kernel
theorem dX7_goNext_6 : decode cX7_goNext 6 = .ok (.getfield 265, 3) := by decide +kernel
theorem dX7_goNext_9 : decode cX7_goNext 9 = .ok (.invokevirtual 255, 3) := by decide +kernel
theorem dX7_goNext_12 : decode cX7_goNext 12 = .ok (.iconst 0, 1) := by decide +kernel
theorem dX7_goNext_13 : decode cX7_goNext 13 = .ok (.istore_n 1, 1) := by decide +kernel
theorem dX7_goNext_14 : decode cX7_goNext 14 = .ok (.iload_n 1, 1) := by decide +kernel
theorem dX7_goNext_15 : decode cX7_goNext 15 = .ok (.aload_n 0, 1) := by decide +kernel
theorem dX7_goNext_16 : decode cX7_goNext 16 = .ok (.getfield 127, 3) := by decide +kernel
theorem dX7_goNext_19 : decode cX7_goNext 19 = .ok (.if_icmp .ge 128, 3) := by decide +kernel
theorem dX7_goNext_22 : decode cX7_goNext 22 = .ok (.aload_n 0, 1) := by decide +kernel
theorem dX7_goNext_23 : decode cX7_goNext 23 = .ok (.getfield 70, 3) := by decide +kernel
theorem dX7_goNext_26 : decode cX7_goNext 26 = .ok (.iload_n 1, 1) := by decide +kernel
theorem dX7_goNext_27 : decode cX7_goNext 27 = .ok (.aload_n 0, 1) := by decide +kernel
theorem dX7_goNext_28 : decode cX7_goNext 28 = .ok (.getfield 31, 3) := by decide +kernel
theorem dX7_goNext_31 : decode cX7_goNext 31 = .ok (.iload_n 1, 1) := by decide +kernel
theorem dX7_goNext_32 : decode cX7_goNext 32 = .ok (.iaload, 1) := by decide +kernel
theorem dX7_goNext_33 : decode cX7_goNext 33 = .ok (.ifCond .ne 32, 3) := by decide +kernel
theorem dX7_goNext_36 : decode cX7_goNext 36 = .ok (.aload_n 0, 1) := by decide +kernel
theorem dX7_goNext_37 : decode cX7_goNext 37 = .ok (.iload_n 1, 1) := by decide +kernel
theorem dX7_goNext_38 : decode cX7_goNext 38 = .ok (.invokevirtual 278, 3) := by decide +kernel
theorem dX7_goNext_41 : decode cX7_goNext 41 = .ok (.aload_n 0, 1) := by decide +kernel
theorem dX7_goNext_42 : decode cX7_goNext 42 = .ok (.iload_n 1, 1) := by decide +kernel
theorem dX7_goNext_43 : decode cX7_goNext 43 = .ok (.iconst 1, 1) := by decide +kernel
theorem dX7_goNext_44 : decode cX7_goNext 44 = .ok (.invokevirtual 155, 3) := by decide +kernel
theorem dX7_goNext_47 : decode cX7_goNext 47 = .ok (.i2l, 1) := by decide +kernel
theorem dX7_goNext_48 : decode cX7_goNext 48 = .ok (.aload_n 0, 1) := by decide +kernel
theorem dX7_goNext_49 : decode cX7_goNext 49 = .ok (.invokevirtual 282, 3) := by decide +kernel
theorem dX7_goNext_52 : decode cX7_goNext 52 = .ok (.lmul, 1) := by decide +kernel
theorem dX7_goNext_53 : decode cX7_goNext 53 = .ok (.lcmp, 1) := by decide +kernel
theorem dX7_goNext_54 : decode cX7_goNext 54 = .ok (.ifCond .ne 7, 3) := by decide +kernel
theorem dX7_goNext_57 : decode cX7_goNext 57 = .ok (.iconst 1, 1) := by decide +kernel
theorem dX7_goNext_58 : decode cX7_goNext 58 = .ok (.goto 82, 3) := by decide +kernel
theorem dX7_goNext_61 : decode cX7_goNext 61 = .ok (.iconst 0, 1) := by decide +kernel
theorem dX7_goNext_62 : decode cX7_goNext 62 = .ok (.goto 78, 3) := by decide +kernel
theorem dX7_goNext_65 : decode cX7_goNext 65 = .ok (.aload_n 0, 1) := by decide +kernel
theorem dX7_goNext_66 : decode cX7_goNext 66 = .ok (.getfield 31, 3) := by decide +kernel
theorem dX7_goNext_69 : decode cX7_goNext 69 = .ok (.iload_n 1, 1) := by decide +kernel
theorem dX7_goNext_70 : decode cX7_goNext 70 = .ok (.iaload, 1) := by decide +kernel
theorem dX7_goNext_71 : decode cX7_goNext 71 = .ok (.iconst 1, 1) := by decide +kernel
theorem dX7_goNext_72 : decode cX7_goNext 72 = .ok (.if_icmp .ne 32, 3) := by decide +kernel
theorem dX7_goNext_75 : decode cX7_goNext 75 = .ok (.aload_n 0, 1) := by decide +kernel
theorem dX7_goNext_76 : decode cX7_goNext 76 = .ok (.iload_n 1, 1) := by decide +kernel
theorem dX7_goNext_77 : decode cX7_goNext 77 = .ok (.invokevirtual 286, 3) := by decide +kernel
theorem dX7_goNext_80 : decode cX7_goNext 80 = .ok (.aload_n 0, 1) := by decide +kernel
theorem dX7_goNext_81 : decode cX7_goNext 81 = .ok (.iload_n 1, 1) := by decide +kernel
theorem dX7_goNext_82 : decode cX7_goNext 82 = .ok (.iconst 2, 1) := by decide +kernel
theorem dX7_goNext_83 : decode cX7_goNext 83 = .ok (.invokevirtual 155, 3) := by decide +kernel
theorem dX7_goNext_86 : decode cX7_goNext 86 = .ok (.i2l, 1) := by decide +kernel
theorem dX7_goNext_87 : decode cX7_goNext 87 = .ok (.aload_n 0, 1) := by decide +kernel
theorem dX7_goNext_88 : decode cX7_goNext 88 = .ok (.invokevirtual 282, 3) := by decide +kernel
theorem dX7_goNext_91 : decode cX7_goNext 91 = .ok (.lmul, 1) := by decide +kernel
theorem dX7_goNext_92 : decode cX7_goNext 92 = .ok (.lcmp, 1) := by decide +kernel
theorem dX7_goNext_93 : decode cX7_goNext 93 = .ok (.ifCond .ne 7, 3) := by decide +kernel
theorem dX7_goNext_96 : decode cX7_goNext 96 = .ok (.iconst 1, 1) := by decide +kernel
theorem dX7_goNext_97 : decode cX7_goNext 97 = .ok (.goto 43, 3) := by decide +kernel
theorem dX7_goNext_100 : decode cX7_goNext 100 = .ok (.iconst 0, 1) := by decide +kernel
theorem dX7_goNext_101 : decode cX7_goNext 101 = .ok (.goto 39, 3) := by decide +kernel
theorem dX7_goNext_104 : decode cX7_goNext 104 = .ok (.aload_n 0, 1) := by decide +kernel
theorem dX7_goNext_105 : decode cX7_goNext 105 = .ok (.getfield 31, 3) := by decide +kernel
theorem dX7_goNext_108 : decode cX7_goNext 108 = .ok (.iload_n 1, 1) := by decide +kernel
theorem dX7_goNext_109 : decode cX7_goNext 109 = .ok (.iaload, 1) := by decide +kernel
theorem dX7_goNext_110 : decode cX7_goNext 110 = .ok (.iconst 2, 1) := by decide +kernel
theorem dX7_goNext_111 : decode cX7_goNext 111 = .ok (.if_icmp .ne 28, 3) := by decide +kernel
theorem dX7_goNext_114 : decode cX7_goNext 114 = .ok (.aload_n 0, 1) := by decide +kernel
theorem dX7_goNext_115 : decode cX7_goNext 115 = .ok (.iload_n 1, 1) := by decide +kernel
theorem dX7_goNext_116 : decode cX7_goNext 116 = .ok (.invokevirtual 286, 3) := by decide +kernel
theorem dX7_goNext_119 : decode cX7_goNext 119 = .ok (.aload_n 0, 1) := by decide +kernel
theorem dX7_goNext_120 : decode cX7_goNext 120 = .ok (.iload_n 1, 1) := by decide +kernel
theorem dX7_goNext_121 : decode cX7_goNext 121 = .ok (.iconst 4, 1) := by decide +kernel
theorem dX7_goNext_122 : decode cX7_goNext 122 = .ok (.invokevirtual 155, 3) := by decide +kernel
theorem dX7_goNext_125 : decode cX7_goNext 125 = .ok (.i2l, 1) := by decide +kernel
theorem dX7_goNext_126 : decode cX7_goNext 126 = .ok (.aload_n 0, 1) := by decide +kernel
theorem dX7_goNext_127 : decode cX7_goNext 127 = .ok (.invokevirtual 282, 3) := by decide +kernel
theorem dX7_goNext_130 : decode cX7_goNext 130 = .ok (.lmul, 1) := by decide +kernel
theorem dX7_goNext_131 : decode cX7_goNext 131 = .ok (.lcmp, 1) := by decide +kernel
theorem dX7_goNext_132 : decode cX7_goNext 132 = .ok (.ifCond .ne 7, 3) := by decide +kernel
theorem dX7_goNext_135 : decode cX7_goNext 135 = .ok (.iconst 1, 1) := by decide +kernel
theorem dX7_goNext_136 : decode cX7_goNext 136 = .ok (.goto 4, 3) := by decide +kernel
theorem dX7_goNext_139 : decode cX7_goNext 139 = .ok (.iconst 0, 1) := by decide +kernel
theorem dX7_goNext_140 : decode cX7_goNext 140 = .ok (.bastore, 1) := by decide +kernel
theorem dX7_goNext_141 : decode cX7_goNext 141 = .ok (.iinc 1 1, 3) := by decide +kernel
theorem dX7_goNext_144 : decode cX7_goNext 144 = .ok (.goto (-130), 3) := by decide +kernel
theorem dX7_goNext_147 : decode cX7_goNext 147 = .ok (.iconst 0, 1) := by decide +kernel
theorem dX7_goNext_148 : decode cX7_goNext 148 = .ok (.istore_n 1, 1) := by decide +kernel
theorem dX7_goNext_149 : decode cX7_goNext 149 = .ok (.iload_n 1, 1) := by decide +kernel
theorem dX7_goNext_150 : decode cX7_goNext 150 = .ok (.aload_n 0, 1) := by decide +kernel
theorem dX7_goNext_151 : decode cX7_goNext 151 = .ok (.getfield 127, 3) := by decide +kernel
theorem dX7_goNext_154 : decode cX7_goNext 154 = .ok (.if_icmp .ge 33, 3) := by decide +kernel
theorem dX7_goNext_157 : decode cX7_goNext 157 = .ok (.aload_n 0, 1) := by decide +kernel
theorem dX7_goNext_158 : decode cX7_goNext 158 = .ok (.getfield 70, 3) := by decide +kernel
theorem dX7_goNext_161 : decode cX7_goNext 161 = .ok (.iload_n 1, 1) := by decide +kernel
theorem dX7_goNext_162 : decode cX7_goNext 162 = .ok (.baload, 1) := by decide +kernel
theorem dX7_goNext_163 : decode cX7_goNext 163 = .ok (.ifCond .eq 18, 3) := by decide +kernel
theorem dX7_goNext_166 : decode cX7_goNext 166 = .ok (.aload_n 0, 1) := by decide +kernel
theorem dX7_goNext_167 : decode cX7_goNext 167 = .ok (.getfield 31, 3) := by decide +kernel
theorem dX7_goNext_170 : decode cX7_goNext 170 = .ok (.iload_n 1, 1) := by decide +kernel
theorem dX7_goNext_171 : decode cX7_goNext 171 = .ok (.iaload, 1) := by decide +kernel
theorem dX7_goNext_172 : decode cX7_goNext 172 = .ok (.ifCond .ne 9, 3) := by decide +kernel
theorem dX7_goNext_175 : decode cX7_goNext 175 = .ok (.aload_n 0, 1) := by decide +kernel
theorem dX7_goNext_176 : decode cX7_goNext 176 = .ok (.iload_n 1, 1) := by decide +kernel
theorem dX7_goNext_177 : decode cX7_goNext 177 = .ok (.iconst 0, 1) := by decide +kernel
theorem dX7_goNext_178 : decode cX7_goNext 178 = .ok (.invokevirtual 289, 3) := by decide +kernel
theorem dX7_goNext_181 : decode cX7_goNext 181 = .ok (.iinc 1 1, 3) := by decide +kernel
theorem dX7_goNext_184 : decode cX7_goNext 184 = .ok (.goto (-35), 3) := by decide +kernel
theorem dX7_goNext_187 : decode cX7_goNext 187 = .ok (.iconst 0, 1) := by decide +kernel
theorem dX7_goNext_188 : decode cX7_goNext 188 = .ok (.istore_n 1, 1) := by decide +kernel
theorem dX7_goNext_189 : decode cX7_goNext 189 = .ok (.iload_n 1, 1) := by decide +kernel
theorem dX7_goNext_190 : decode cX7_goNext 190 = .ok (.aload_n 0, 1) := by decide +kernel
theorem dX7_goNext_191 : decode cX7_goNext 191 = .ok (.getfield 127, 3) := by decide +kernel
theorem dX7_goNext_194 : decode cX7_goNext 194 = .ok (.if_icmp .ge 43, 3) := by decide +kernel
theorem dX7_goNext_197 : decode cX7_goNext 197 = .ok (.aload_n 0, 1) := by decide +kernel
theorem dX7_goNext_198 : decode cX7_goNext 198 = .ok (.getfield 70, 3) := by decide +kernel
theorem dX7_goNext_201 : decode cX7_goNext 201 = .ok (.iload_n 1, 1) := by decide +kernel
theorem dX7_goNext_202 : decode cX7_goNext 202 = .ok (.baload, 1) := by decide +kernel
theorem dX7_goNext_203 : decode cX7_goNext 203 = .ok (.ifCond .eq 28, 3) := by decide +kernel
theorem dX7_goNext_206 : decode cX7_goNext 206 = .ok (.aload_n 0, 1) := by decide +kernel
theorem dX7_goNext_207 : decode cX7_goNext 207 = .ok (.getfield 31, 3) := by decide +kernel
theorem dX7_goNext_210 : decode cX7_goNext 210 = .ok (.iload_n 1, 1) := by decide +kernel
theorem dX7_goNext_211 : decode cX7_goNext 211 = .ok (.iaload, 1) := by decide +kernel
theorem dX7_goNext_212 : decode cX7_goNext 212 = .ok (.iconst 1, 1) := by decide +kernel
theorem dX7_goNext_213 : decode cX7_goNext 213 = .ok (.if_icmp .ne 18, 3) := by decide +kernel
theorem dX7_goNext_216 : decode cX7_goNext 216 = .ok (.aload_n 0, 1) := by decide +kernel
theorem dX7_goNext_217 : decode cX7_goNext 217 = .ok (.getfield 74, 3) := by decide +kernel
theorem dX7_goNext_220 : decode cX7_goNext 220 = .ok (.iload_n 1, 1) := by decide +kernel
theorem dX7_goNext_221 : decode cX7_goNext 221 = .ok (.baload, 1) := by decide +kernel
theorem dX7_goNext_222 : decode cX7_goNext 222 = .ok (.ifCond .ne 9, 3) := by decide +kernel
theorem dX7_goNext_225 : decode cX7_goNext 225 = .ok (.aload_n 0, 1) := by decide +kernel
theorem dX7_goNext_226 : decode cX7_goNext 226 = .ok (.iload_n 1, 1) := by decide +kernel
theorem dX7_goNext_227 : decode cX7_goNext 227 = .ok (.iconst 1, 1) := by decide +kernel
theorem dX7_goNext_228 : decode cX7_goNext 228 = .ok (.invokevirtual 289, 3) := by decide +kernel
theorem dX7_goNext_231 : decode cX7_goNext 231 = .ok (.iinc 1 1, 3) := by decide +kernel
theorem dX7_goNext_234 : decode cX7_goNext 234 = .ok (.goto (-45), 3) := by decide +kernel
theorem dX7_goNext_237 : decode cX7_goNext 237 = .ok (.iconst (-1), 1) := by decide +kernel
theorem dX7_goNext_238 : decode cX7_goNext 238 = .ok (.istore_n 1, 1) := by decide +kernel
theorem dX7_goNext_239 : decode cX7_goNext 239 = .ok (.aload_n 0, 1) := by decide +kernel
theorem dX7_goNext_240 : decode cX7_goNext 240 = .ok (.getfield 127, 3) := by decide +kernel
theorem dX7_goNext_243 : decode cX7_goNext 243 = .ok (.iconst 1, 1) := by decide +kernel
theorem dX7_goNext_244 : decode cX7_goNext 244 = .ok (.isub, 1) := by decide +kernel
theorem dX7_goNext_245 : decode cX7_goNext 245 = .ok (.istore_n 2, 1) := by decide +kernel
theorem dX7_goNext_246 : decode cX7_goNext 246 = .ok (.iload_n 2, 1) := by decide +kernel
theorem dX7_goNext_247 : decode cX7_goNext 247 = .ok (.ifCond .lt 46, 3) := by decide +kernel
theorem dX7_goNext_250 : decode cX7_goNext 250 = .ok (.aload_n 0, 1) := by decide +kernel
theorem dX7_goNext_251 : decode cX7_goNext 251 = .ok (.getfield 70, 3) := by decide +kernel
theorem dX7_goNext_254 : decode cX7_goNext 254 = .ok (.iload_n 2, 1) := by decide +kernel
theorem dX7_goNext_255 : decode cX7_goNext 255 = .ok (.baload, 1) := by decide +kernel
theorem dX7_goNext_256 : decode cX7_goNext 256 = .ok (.ifCond .eq 24, 3) := by decide +kernel
theorem dX7_goNext_259 : decode cX7_goNext 259 = .ok (.aload_n 0, 1) := by decide +kernel
theorem dX7_goNext_260 : decode cX7_goNext 260 = .ok (.getfield 31, 3) := by decide +kernel
theorem dX7_goNext_263 : decode cX7_goNext 263 = .ok (.iload_n 2, 1) := by decide +kernel
theorem dX7_goNext_264 : decode cX7_goNext 264 = .ok (.iaload, 1) := by decide +kernel
theorem dX7_goNext_265 : decode cX7_goNext 265 = .ok (.iconst 2, 1) := by decide +kernel
theorem dX7_goNext_266 : decode cX7_goNext 266 = .ok (.if_icmp .ne 14, 3) := by decide +kernel
theorem dX7_goNext_269 : decode cX7_goNext 269 = .ok (.aload_n 0, 1) := by decide +kernel
theorem dX7_goNext_270 : decode cX7_goNext 270 = .ok (.getfield 74, 3) := by decide +kernel
theorem dX7_goNext_273 : decode cX7_goNext 273 = .ok (.iload_n 2, 1) := by decide +kernel
theorem dX7_goNext_274 : decode cX7_goNext 274 = .ok (.baload, 1) := by decide +kernel
theorem dX7_goNext_275 : decode cX7_goNext 275 = .ok (.ifCond .ne 5, 3) := by decide +kernel
theorem dX7_goNext_278 : decode cX7_goNext 278 = .ok (.iload_n 2, 1) := by decide +kernel
theorem dX7_goNext_279 : decode cX7_goNext 279 = .ok (.istore_n 1, 1) := by decide +kernel
theorem dX7_goNext_280 : decode cX7_goNext 280 = .ok (.aload_n 0, 1) := by decide +kernel
theorem dX7_goNext_281 : decode cX7_goNext 281 = .ok (.getfield 74, 3) := by decide +kernel
theorem dX7_goNext_284 : decode cX7_goNext 284 = .ok (.iload_n 2, 1) := by decide +kernel
theorem dX7_goNext_285 : decode cX7_goNext 285 = .ok (.iconst 0, 1) := by decide +kernel
theorem dX7_goNext_286 : decode cX7_goNext 286 = .ok (.bastore, 1) := by decide +kernel
theorem dX7_goNext_287 : decode cX7_goNext 287 = .ok (.iinc 2 (-1), 3) := by decide +kernel
theorem dX7_goNext_290 : decode cX7_goNext 290 = .ok (.goto (-44), 3) := by decide +kernel
theorem dX7_goNext_293 : decode cX7_goNext 293 = .ok (.iload_n 1, 1) := by decide +kernel
theorem dX7_goNext_294 : decode cX7_goNext 294 = .ok (.iconst (-1), 1) := by decide +kernel
theorem dX7_goNext_295 : decode cX7_goNext 295 = .ok (.if_icmp .eq 27, 3) := by decide +kernel
theorem dX7_goNext_298 : decode cX7_goNext 298 = .ok (.aload_n 0, 1) := by decide +kernel
theorem dX7_goNext_299 : decode cX7_goNext 299 = .ok (.iload_n 1, 1) := by decide +kernel
theorem dX7_goNext_300 : decode cX7_goNext 300 = .ok (.invokevirtual 292, 3) := by decide +kernel
theorem dX7_goNext_303 : decode cX7_goNext 303 = .ok (.aload_n 0, 1) := by decide +kernel
theorem dX7_goNext_304 : decode cX7_goNext 304 = .ok (.invokevirtual 295, 3) := by decide +kernel
theorem dX7_goNext_307 : decode cX7_goNext 307 = .ok (.ifCond .eq 7, 3) := by decide +kernel
theorem dX7_goNext_310 : decode cX7_goNext 310 = .ok (.iconst (-1), 1) := by decide +kernel
theorem dX7_goNext_311 : decode cX7_goNext 311 = .ok (.goto 7, 3) := by decide +kernel
theorem dX7_goNext_314 : decode cX7_goNext 314 = .ok (.aload_n 0, 1) := by decide +kernel
theorem dX7_goNext_315 : decode cX7_goNext 315 = .ok (.invokevirtual 299, 3) := by decide +kernel
theorem dX7_goNext_318 : decode cX7_goNext 318 = .ok (.istore_n 1, 1) := by decide +kernel
theorem dX7_goNext_319 : decode cX7_goNext 319 = .ok (.goto (-26), 3) := by decide +kernel
theorem dX7_goNext_322 : decode cX7_goNext 322 = .ok (.return_, 1) := by decide +kernel
theorem dX7_begins_0 : decode cX7_begins 0 = .ok (.aload_n 0, 1) := by decide +kernel
theorem dX7_begins_1 : decode cX7_begins 1 = .ok (.getfield 31, 3) := by decide +kernel
theorem dX7_begins_4 : decode cX7_begins 4 = .ok (.iload_n 1, 1) := by decide +kernel
theorem dX7_begins_5 : decode cX7_begins 5 = .ok (.dup2, 1) := by decide +kernel
theorem dX7_begins_6 : decode cX7_begins 6 = .ok (.iaload, 1) := by decide +kernel
theorem dX7_begins_7 : decode cX7_begins 7 = .ok (.iconst 1, 1) := by decide +kernel
theorem dX7_begins_8 : decode cX7_begins 8 = .ok (.iadd, 1) := by decide +kernel
theorem dX7_begins_9 : decode cX7_begins 9 = .ok (.iastore, 1) := by decide +kernel
theorem dX7_begins_10 : decode cX7_begins 10 = .ok (.aload_n 0, 1) := by decide +kernel
theorem dX7_begins_11 : decode cX7_begins 11 = .ok (.getfield 74, 3) := by decide +kernel
theorem dX7_begins_14 : decode cX7_begins 14 = .ok (.iload_n 1, 1) := by decide +kernel
theorem dX7_begins_15 : decode cX7_begins 15 = .ok (.iconst 1, 1) := by decide +kernel
theorem dX7_begins_16 : decode cX7_begins 16 = .ok (.bastore, 1) := by decide +kernel
theorem dX7_begins_17 : decode cX7_begins 17 = .ok (.aload_n 0, 1) := by decide +kernel
theorem dX7_begins_18 : decode cX7_begins 18 = .ok (.iload_n 2, 1) := by decide +kernel
theorem dX7_begins_19 : decode cX7_begins 19 = .ok (.iload_n 1, 1) := by decide +kernel
theorem dX7_begins_20 : decode cX7_begins 20 = .ok (.invokevirtual 262, 3) := by decide +kernel
theorem dX7_begins_23 : decode cX7_begins 23 = .ok (.return_, 1) := by decide +kernel
theorem dX7_worst_0 : decode cX7_worst 0 = .ok (.iconst (-1), 1) := by decide +kernel
theorem dX7_worst_1 : decode cX7_worst 1 = .ok (.istore_n 1, 1) := by decide +kernel
theorem dX7_worst_2 : decode cX7_worst 2 = .ok (.iconst 0, 1) := by decide +kernel
theorem dX7_worst_3 : decode cX7_worst 3 = .ok (.istore_n 2, 1) := by decide +kernel
theorem dX7_worst_4 : decode cX7_worst 4 = .ok (.iload_n 2, 1) := by decide +kernel
theorem dX7_worst_5 : decode cX7_worst 5 = .ok (.aload_n 0, 1) := by decide +kernel
theorem dX7_worst_6 : decode cX7_worst 6 = .ok (.getfield 127, 3) := by decide +kernel
theorem dX7_worst_9 : decode cX7_worst 9 = .ok (.if_icmp .ge 78, 3) := by decide +kernel
theorem dX7_worst_12 : decode cX7_worst 12 = .ok (.aload_n 0, 1) := by decide +kernel
theorem dX7_worst_13 : decode cX7_worst 13 = .ok (.iload_n 2, 1) := by decide +kernel
theorem dX7_worst_14 : decode cX7_worst 14 = .ok (.invokevirtual 249, 3) := by decide +kernel
theorem dX7_worst_17 : decode cX7_worst 17 = .ok (.ifCond .eq 64, 3) := by decide +kernel
theorem dX7_worst_20 : decode cX7_worst 20 = .ok (.aload_n 0, 1) := by decide +kernel
theorem dX7_worst_21 : decode cX7_worst 21 = .ok (.iload_n 2, 1) := by decide +kernel
theorem dX7_worst_22 : decode cX7_worst 22 = .ok (.invokevirtual 286, 3) := by decide +kernel
theorem dX7_worst_25 : decode cX7_worst 25 = .ok (.aload_n 0, 1) := by decide +kernel
theorem dX7_worst_26 : decode cX7_worst 26 = .ok (.iload_n 2, 1) := by decide +kernel
theorem dX7_worst_27 : decode cX7_worst 27 = .ok (.iconst 4, 1) := by decide +kernel
theorem dX7_worst_28 : decode cX7_worst 28 = .ok (.invokevirtual 155, 3) := by decide +kernel
theorem dX7_worst_31 : decode cX7_worst 31 = .ok (.i2l, 1) := by decide +kernel
theorem dX7_worst_32 : decode cX7_worst 32 = .ok (.aload_n 0, 1) := by decide +kernel
theorem dX7_worst_33 : decode cX7_worst 33 = .ok (.invokevirtual 282, 3) := by decide +kernel
theorem dX7_worst_36 : decode cX7_worst 36 = .ok (.lmul, 1) := by decide +kernel
theorem dX7_worst_37 : decode cX7_worst 37 = .ok (.lcmp, 1) := by decide +kernel
theorem dX7_worst_38 : decode cX7_worst 38 = .ok (.ifCond .ge 6, 3) := by decide +kernel
theorem dX7_worst_41 : decode cX7_worst 41 = .ok (.goto 40, 3) := by decide +kernel
theorem dX7_worst_44 : decode cX7_worst 44 = .ok (.iload_n 1, 1) := by decide +kernel
theorem dX7_worst_45 : decode cX7_worst 45 = .ok (.iconst (-1), 1) := by decide +kernel
theorem dX7_worst_46 : decode cX7_worst 46 = .ok (.if_icmp .eq 33, 3) := by decide +kernel
theorem dX7_worst_49 : decode cX7_worst 49 = .ok (.aload_n 0, 1) := by decide +kernel
theorem dX7_worst_50 : decode cX7_worst 50 = .ok (.iload_n 2, 1) := by decide +kernel
theorem dX7_worst_51 : decode cX7_worst 51 = .ok (.invokevirtual 286, 3) := by decide +kernel
theorem dX7_worst_54 : decode cX7_worst 54 = .ok (.aload_n 0, 1) := by decide +kernel
theorem dX7_worst_55 : decode cX7_worst 55 = .ok (.iload_n 1, 1) := by decide +kernel
theorem dX7_worst_56 : decode cX7_worst 56 = .ok (.iconst 4, 1) := by decide +kernel
theorem dX7_worst_57 : decode cX7_worst 57 = .ok (.invokevirtual 155, 3) := by decide +kernel
theorem dX7_worst_60 : decode cX7_worst 60 = .ok (.i2l, 1) := by decide +kernel
theorem dX7_worst_61 : decode cX7_worst 61 = .ok (.lmul, 1) := by decide +kernel
theorem dX7_worst_62 : decode cX7_worst 62 = .ok (.aload_n 0, 1) := by decide +kernel
theorem dX7_worst_63 : decode cX7_worst 63 = .ok (.iload_n 1, 1) := by decide +kernel
theorem dX7_worst_64 : decode cX7_worst 64 = .ok (.invokevirtual 286, 3) := by decide +kernel
theorem dX7_worst_67 : decode cX7_worst 67 = .ok (.aload_n 0, 1) := by decide +kernel
theorem dX7_worst_68 : decode cX7_worst 68 = .ok (.iload_n 2, 1) := by decide +kernel
theorem dX7_worst_69 : decode cX7_worst 69 = .ok (.iconst 4, 1) := by decide +kernel
theorem dX7_worst_70 : decode cX7_worst 70 = .ok (.invokevirtual 155, 3) := by decide +kernel
theorem dX7_worst_73 : decode cX7_worst 73 = .ok (.i2l, 1) := by decide +kernel
theorem dX7_worst_74 : decode cX7_worst 74 = .ok (.lmul, 1) := by decide +kernel
theorem dX7_worst_75 : decode cX7_worst 75 = .ok (.lcmp, 1) := by decide +kernel
theorem dX7_worst_76 : decode cX7_worst 76 = .ok (.ifCond .le 5, 3) := by decide +kernel
theorem dX7_worst_79 : decode cX7_worst 79 = .ok (.iload_n 2, 1) := by decide +kernel
theorem dX7_worst_80 : decode cX7_worst 80 = .ok (.istore_n 1, 1) := by decide +kernel
theorem dX7_worst_81 : decode cX7_worst 81 = .ok (.iinc 2 1, 3) := by decide +kernel
theorem dX7_worst_84 : decode cX7_worst 84 = .ok (.goto (-80), 3) := by decide +kernel
theorem dX7_worst_87 : decode cX7_worst 87 = .ok (.iload_n 1, 1) := by decide +kernel
theorem dX7_worst_88 : decode cX7_worst 88 = .ok (.ireturn, 1) := by decide +kernel
theorem dX7_breaks_0 : decode cX7_breaks 0 = .ok (.aload_n 0, 1) := by decide +kernel
theorem dX7_breaks_1 : decode cX7_breaks 1 = .ok (.invokevirtual 271, 3) := by decide +kernel
theorem dX7_breaks_4 : decode cX7_breaks 4 = .ok (.iconst 0, 1) := by decide +kernel
theorem dX7_breaks_5 : decode cX7_breaks 5 = .ok (.istore_n 2, 1) := by decide +kernel
theorem dX7_breaks_6 : decode cX7_breaks 6 = .ok (.iload_n 2, 1) := by decide +kernel
theorem dX7_breaks_7 : decode cX7_breaks 7 = .ok (.aload_n 0, 1) := by decide +kernel
theorem dX7_breaks_8 : decode cX7_breaks 8 = .ok (.getfield 127, 3) := by decide +kernel
theorem dX7_breaks_11 : decode cX7_breaks 11 = .ok (.if_icmp .ge 24, 3) := by decide +kernel
theorem dX7_breaks_14 : decode cX7_breaks 14 = .ok (.aload_n 0, 1) := by decide +kernel
theorem dX7_breaks_15 : decode cX7_breaks 15 = .ok (.getfield 77, 3) := by decide +kernel
theorem dX7_breaks_18 : decode cX7_breaks 18 = .ok (.iconst 5, 1) := by decide +kernel
theorem dX7_breaks_19 : decode cX7_breaks 19 = .ok (.iload_n 1, 1) := by decide +kernel
theorem dX7_breaks_20 : decode cX7_breaks 20 = .ok (.imul, 1) := by decide +kernel
theorem dX7_breaks_21 : decode cX7_breaks 21 = .ok (.iload_n 2, 1) := by decide +kernel
theorem dX7_breaks_22 : decode cX7_breaks 22 = .ok (.iadd, 1) := by decide +kernel
theorem dX7_breaks_23 : decode cX7_breaks 23 = .ok (.aload_n 0, 1) := by decide +kernel
theorem dX7_breaks_24 : decode cX7_breaks 24 = .ok (.iload_n 2, 1) := by decide +kernel
theorem dX7_breaks_25 : decode cX7_breaks 25 = .ok (.invokevirtual 286, 3) := by decide +kernel
theorem dX7_breaks_28 : decode cX7_breaks 28 = .ok (.lastore, 1) := by decide +kernel
theorem dX7_breaks_29 : decode cX7_breaks 29 = .ok (.iinc 2 1, 3) := by decide +kernel
theorem dX7_breaks_32 : decode cX7_breaks 32 = .ok (.goto (-26), 3) := by decide +kernel
theorem dX7_breaks_35 : decode cX7_breaks 35 = .ok (.aload_n 0, 1) := by decide +kernel
theorem dX7_breaks_36 : decode cX7_breaks 36 = .ok (.getfield 80, 3) := by decide +kernel
theorem dX7_breaks_39 : decode cX7_breaks 39 = .ok (.iload_n 1, 1) := by decide +kernel
theorem dX7_breaks_40 : decode cX7_breaks 40 = .ok (.aload_n 0, 1) := by decide +kernel
theorem dX7_breaks_41 : decode cX7_breaks 41 = .ok (.invokevirtual 282, 3) := by decide +kernel
theorem dX7_breaks_44 : decode cX7_breaks 44 = .ok (.lastore, 1) := by decide +kernel
theorem dX7_breaks_45 : decode cX7_breaks 45 = .ok (.aload_n 0, 1) := by decide +kernel
theorem dX7_breaks_46 : decode cX7_breaks 46 = .ok (.iconst 2, 1) := by decide +kernel
theorem dX7_breaks_47 : decode cX7_breaks 47 = .ok (.iload_n 1, 1) := by decide +kernel
theorem dX7_breaks_48 : decode cX7_breaks 48 = .ok (.invokevirtual 262, 3) := by decide +kernel
theorem dX7_breaks_51 : decode cX7_breaks 51 = .ok (.aload_n 0, 1) := by decide +kernel
theorem dX7_breaks_52 : decode cX7_breaks 52 = .ok (.getfield 31, 3) := by decide +kernel
theorem dX7_breaks_55 : decode cX7_breaks 55 = .ok (.iload_n 1, 1) := by decide +kernel
theorem dX7_breaks_56 : decode cX7_breaks 56 = .ok (.iconst 3, 1) := by decide +kernel
theorem dX7_breaks_57 : decode cX7_breaks 57 = .ok (.iastore, 1) := by decide +kernel
theorem dX7_breaks_58 : decode cX7_breaks 58 = .ok (.aload_n 0, 1) := by decide +kernel
theorem dX7_breaks_59 : decode cX7_breaks 59 = .ok (.invokevirtual 295, 3) := by decide +kernel
theorem dX7_breaks_62 : decode cX7_breaks 62 = .ok (.ifCond .eq 4, 3) := by decide +kernel
theorem dX7_breaks_65 : decode cX7_breaks 65 = .ok (.return_, 1) := by decide +kernel
theorem dX7_breaks_66 : decode cX7_breaks 66 = .ok (.aload_n 0, 1) := by decide +kernel
theorem dX7_breaks_67 : decode cX7_breaks 67 = .ok (.invokevirtual 302, 3) := by decide +kernel
theorem dX7_breaks_70 : decode cX7_breaks 70 = .ok (.iconst 0, 1) := by decide +kernel
theorem dX7_breaks_71 : decode cX7_breaks 71 = .ok (.istore_n 2, 1) := by decide +kernel
theorem dX7_breaks_72 : decode cX7_breaks 72 = .ok (.iload_n 2, 1) := by decide +kernel
theorem dX7_breaks_73 : decode cX7_breaks 73 = .ok (.aload_n 0, 1) := by decide +kernel
theorem dX7_breaks_74 : decode cX7_breaks 74 = .ok (.getfield 127, 3) := by decide +kernel
theorem dX7_breaks_77 : decode cX7_breaks 77 = .ok (.if_icmp .ge 24, 3) := by decide +kernel
theorem dX7_breaks_80 : decode cX7_breaks 80 = .ok (.aload_n 0, 1) := by decide +kernel
theorem dX7_breaks_81 : decode cX7_breaks 81 = .ok (.getfield 83, 3) := by decide +kernel
theorem dX7_breaks_84 : decode cX7_breaks 84 = .ok (.iconst 5, 1) := by decide +kernel
theorem dX7_breaks_85 : decode cX7_breaks 85 = .ok (.iload_n 1, 1) := by decide +kernel
theorem dX7_breaks_86 : decode cX7_breaks 86 = .ok (.imul, 1) := by decide +kernel
theorem dX7_breaks_87 : decode cX7_breaks 87 = .ok (.iload_n 2, 1) := by decide +kernel
theorem dX7_breaks_88 : decode cX7_breaks 88 = .ok (.iadd, 1) := by decide +kernel
theorem dX7_breaks_89 : decode cX7_breaks 89 = .ok (.aload_n 0, 1) := by decide +kernel
theorem dX7_breaks_90 : decode cX7_breaks 90 = .ok (.iload_n 2, 1) := by decide +kernel
theorem dX7_breaks_91 : decode cX7_breaks 91 = .ok (.invokevirtual 286, 3) := by decide +kernel
theorem dX7_breaks_94 : decode cX7_breaks 94 = .ok (.lastore, 1) := by decide +kernel
theorem dX7_breaks_95 : decode cX7_breaks 95 = .ok (.iinc 2 1, 3) := by decide +kernel
theorem dX7_breaks_98 : decode cX7_breaks 98 = .ok (.goto (-26), 3) := by decide +kernel
theorem dX7_breaks_101 : decode cX7_breaks 101 = .ok (.aload_n 0, 1) := by decide +kernel
theorem dX7_breaks_102 : decode cX7_breaks 102 = .ok (.getfield 86, 3) := by decide +kernel
theorem dX7_breaks_105 : decode cX7_breaks 105 = .ok (.iload_n 1, 1) := by decide +kernel
theorem dX7_breaks_106 : decode cX7_breaks 106 = .ok (.aload_n 0, 1) := by decide +kernel
theorem dX7_breaks_107 : decode cX7_breaks 107 = .ok (.invokevirtual 282, 3) := by decide +kernel
theorem dX7_breaks_110 : decode cX7_breaks 110 = .ok (.lastore, 1) := by decide +kernel
theorem dX7_breaks_111 : decode cX7_breaks 111 = .ok (.iconst 0, 1) := by decide +kernel
theorem dX7_breaks_112 : decode cX7_breaks 112 = .ok (.istore_n 2, 1) := by decide +kernel
theorem dX7_breaks_113 : decode cX7_breaks 113 = .ok (.iload_n 2, 1) := by decide +kernel
theorem dX7_breaks_114 : decode cX7_breaks 114 = .ok (.aload_n 0, 1) := by decide +kernel
theorem dX7_breaks_115 : decode cX7_breaks 115 = .ok (.getfield 127, 3) := by decide +kernel
theorem dX7_breaks_118 : decode cX7_breaks 118 = .ok (.if_icmp .ge 43, 3) := by decide +kernel
theorem dX7_breaks_121 : decode cX7_breaks 121 = .ok (.aload_n 0, 1) := by decide +kernel
theorem dX7_breaks_122 : decode cX7_breaks 122 = .ok (.iload_n 2, 1) := by decide +kernel
theorem dX7_breaks_123 : decode cX7_breaks 123 = .ok (.invokevirtual 249, 3) := by decide +kernel
theorem dX7_breaks_126 : decode cX7_breaks 126 = .ok (.ifCond .eq 29, 3) := by decide +kernel
theorem dX7_breaks_129 : decode cX7_breaks 129 = .ok (.aload_n 0, 1) := by decide +kernel
theorem dX7_breaks_130 : decode cX7_breaks 130 = .ok (.getfield 31, 3) := by decide +kernel
theorem dX7_breaks_133 : decode cX7_breaks 133 = .ok (.iload_n 2, 1) := by decide +kernel
theorem dX7_breaks_134 : decode cX7_breaks 134 = .ok (.iaload, 1) := by decide +kernel
theorem dX7_breaks_135 : decode cX7_breaks 135 = .ok (.ifCond .le 20, 3) := by decide +kernel
theorem dX7_breaks_138 : decode cX7_breaks 138 = .ok (.aload_n 0, 1) := by decide +kernel
theorem dX7_breaks_139 : decode cX7_breaks 139 = .ok (.getfield 67, 3) := by decide +kernel
theorem dX7_breaks_142 : decode cX7_breaks 142 = .ok (.iload_n 2, 1) := by decide +kernel
theorem dX7_breaks_143 : decode cX7_breaks 143 = .ok (.iaload, 1) := by decide +kernel
theorem dX7_breaks_144 : decode cX7_breaks 144 = .ok (.iconst 1, 1) := by decide +kernel
theorem dX7_breaks_145 : decode cX7_breaks 145 = .ok (.iand, 1) := by decide +kernel
theorem dX7_breaks_146 : decode cX7_breaks 146 = .ok (.ifCond .ne 9, 3) := by decide +kernel
theorem dX7_breaks_149 : decode cX7_breaks 149 = .ok (.aload_n 0, 1) := by decide +kernel
theorem dX7_breaks_150 : decode cX7_breaks 150 = .ok (.iconst 0, 1) := by decide +kernel
theorem dX7_breaks_151 : decode cX7_breaks 151 = .ok (.iload_n 2, 1) := by decide +kernel
theorem dX7_breaks_152 : decode cX7_breaks 152 = .ok (.invokevirtual 262, 3) := by decide +kernel
theorem dX7_breaks_155 : decode cX7_breaks 155 = .ok (.iinc 2 1, 3) := by decide +kernel
theorem dX7_breaks_158 : decode cX7_breaks 158 = .ok (.goto (-45), 3) := by decide +kernel
theorem dX7_breaks_161 : decode cX7_breaks 161 = .ok (.iconst 0, 1) := by decide +kernel
theorem dX7_breaks_162 : decode cX7_breaks 162 = .ok (.istore_n 2, 1) := by decide +kernel
theorem dX7_breaks_163 : decode cX7_breaks 163 = .ok (.iload_n 2, 1) := by decide +kernel
theorem dX7_breaks_164 : decode cX7_breaks 164 = .ok (.aload_n 0, 1) := by decide +kernel
theorem dX7_breaks_165 : decode cX7_breaks 165 = .ok (.getfield 127, 3) := by decide +kernel
theorem dX7_breaks_168 : decode cX7_breaks 168 = .ok (.if_icmp .ge 36, 3) := by decide +kernel
theorem dX7_breaks_171 : decode cX7_breaks 171 = .ok (.aload_n 0, 1) := by decide +kernel
theorem dX7_breaks_172 : decode cX7_breaks 172 = .ok (.getfield 31, 3) := by decide +kernel
theorem dX7_breaks_175 : decode cX7_breaks 175 = .ok (.iload_n 2, 1) := by decide +kernel
theorem dX7_breaks_176 : decode cX7_breaks 176 = .ok (.iaload, 1) := by decide +kernel
theorem dX7_breaks_177 : decode cX7_breaks 177 = .ok (.iconst 2, 1) := by decide +kernel
theorem dX7_breaks_178 : decode cX7_breaks 178 = .ok (.if_icmp .ne 20, 3) := by decide +kernel
theorem dX7_breaks_181 : decode cX7_breaks 181 = .ok (.aload_n 0, 1) := by decide +kernel
theorem dX7_breaks_182 : decode cX7_breaks 182 = .ok (.getfield 67, 3) := by decide +kernel
theorem dX7_breaks_185 : decode cX7_breaks 185 = .ok (.iload_n 2, 1) := by decide +kernel
theorem dX7_breaks_186 : decode cX7_breaks 186 = .ok (.iaload, 1) := by decide +kernel
theorem dX7_breaks_187 : decode cX7_breaks 187 = .ok (.iconst 2, 1) := by decide +kernel
theorem dX7_breaks_188 : decode cX7_breaks 188 = .ok (.iand, 1) := by decide +kernel
theorem dX7_breaks_189 : decode cX7_breaks 189 = .ok (.ifCond .ne 9, 3) := by decide +kernel
theorem dX7_breaks_192 : decode cX7_breaks 192 = .ok (.aload_n 0, 1) := by decide +kernel
theorem dX7_breaks_193 : decode cX7_breaks 193 = .ok (.iconst 1, 1) := by decide +kernel
theorem dX7_breaks_194 : decode cX7_breaks 194 = .ok (.iload_n 2, 1) := by decide +kernel
theorem dX7_breaks_195 : decode cX7_breaks 195 = .ok (.invokevirtual 262, 3) := by decide +kernel
theorem dX7_breaks_198 : decode cX7_breaks 198 = .ok (.iinc 2 1, 3) := by decide +kernel
theorem dX7_breaks_201 : decode cX7_breaks 201 = .ok (.goto (-38), 3) := by decide +kernel
theorem dX7_breaks_204 : decode cX7_breaks 204 = .ok (.return_, 1) := by decide +kernel
theorem dX7_settle_0 : decode cX7_settle 0 = .ok (.iconst 1, 1) := by decide +kernel
theorem dX7_settle_1 : decode cX7_settle 1 = .ok (.istore_n 1, 1) := by decide +kernel
theorem dX7_settle_2 : decode cX7_settle 2 = .ok (.iconst 0, 1) := by decide +kernel
theorem dX7_settle_3 : decode cX7_settle 3 = .ok (.istore_n 2, 1) := by decide +kernel
theorem dX7_settle_4 : decode cX7_settle 4 = .ok (.iload_n 2, 1) := by decide +kernel
theorem dX7_settle_5 : decode cX7_settle 5 = .ok (.aload_n 0, 1) := by decide +kernel
theorem dX7_settle_6 : decode cX7_settle 6 = .ok (.getfield 127, 3) := by decide +kernel
theorem dX7_settle_9 : decode cX7_settle 9 = .ok (.if_icmp .ge 25, 3) := by decide +kernel
theorem dX7_settle_12 : decode cX7_settle 12 = .ok (.iload_n 1, 1) := by decide +kernel
theorem dX7_settle_13 : decode cX7_settle 13 = .ok (.aload_n 0, 1) := by decide +kernel
theorem dX7_settle_14 : decode cX7_settle 14 = .ok (.iload_n 2, 1) := by decide +kernel
theorem dX7_settle_15 : decode cX7_settle 15 = .ok (.invokevirtual 249, 3) := by decide +kernel
theorem dX7_settle_18 : decode cX7_settle 18 = .ok (.ifCond .eq 7, 3) := by decide +kernel
theorem dX7_settle_21 : decode cX7_settle 21 = .ok (.iconst 3, 1) := by decide +kernel
theorem dX7_settle_22 : decode cX7_settle 22 = .ok (.goto 4, 3) := by decide +kernel
theorem dX7_settle_25 : decode cX7_settle 25 = .ok (.iconst 1, 1) := by decide +kernel
theorem dX7_settle_26 : decode cX7_settle 26 = .ok (.imul, 1) := by decide +kernel
theorem dX7_settle_27 : decode cX7_settle 27 = .ok (.istore_n 1, 1) := by decide +kernel
theorem dX7_settle_28 : decode cX7_settle 28 = .ok (.iinc 2 1, 3) := by decide +kernel
theorem dX7_settle_31 : decode cX7_settle 31 = .ok (.goto (-27), 3) := by decide +kernel
theorem dX7_settle_34 : decode cX7_settle 34 = .ok (.iconst 1, 1) := by decide +kernel
theorem dX7_settle_35 : decode cX7_settle 35 = .ok (.istore_n 2, 1) := by decide +kernel
theorem dX7_settle_36 : decode cX7_settle 36 = .ok (.iconst 0, 1) := by decide +kernel
theorem dX7_settle_37 : decode cX7_settle 37 = .ok (.istore_n 3, 1) := by decide +kernel
theorem dX7_settle_38 : decode cX7_settle 38 = .ok (.iload_n 3, 1) := by decide +kernel
theorem dX7_settle_39 : decode cX7_settle 39 = .ok (.ifCond .ne 69, 3) := by decide +kernel
theorem dX7_settle_42 : decode cX7_settle 42 = .ok (.iload_n 2, 1) := by decide +kernel
theorem dX7_settle_43 : decode cX7_settle 43 = .ok (.iload_n 1, 1) := by decide +kernel
theorem dX7_settle_44 : decode cX7_settle 44 = .ok (.if_icmp .ge 64, 3) := by decide +kernel
theorem dX7_settle_47 : decode cX7_settle 47 = .ok (.iload_n 2, 1) := by decide +kernel
theorem dX7_settle_48 : decode cX7_settle 48 = .ok (.istore 4, 2) := by decide +kernel
theorem dX7_settle_50 : decode cX7_settle 50 = .ok (.iconst 0, 1) := by decide +kernel
theorem dX7_settle_51 : decode cX7_settle 51 = .ok (.istore 5, 2) := by decide +kernel
theorem dX7_settle_53 : decode cX7_settle 53 = .ok (.iload 5, 2) := by decide +kernel
theorem dX7_settle_55 : decode cX7_settle 55 = .ok (.aload_n 0, 1) := by decide +kernel
theorem dX7_settle_56 : decode cX7_settle 56 = .ok (.getfield 127, 3) := by decide +kernel
theorem dX7_settle_59 : decode cX7_settle 59 = .ok (.if_icmp .ge 38, 3) := by decide +kernel
theorem dX7_settle_62 : decode cX7_settle 62 = .ok (.aload_n 0, 1) := by decide +kernel
theorem dX7_settle_63 : decode cX7_settle 63 = .ok (.iload 5, 2) := by decide +kernel
theorem dX7_settle_65 : decode cX7_settle 65 = .ok (.invokevirtual 249, 3) := by decide +kernel
theorem dX7_settle_68 : decode cX7_settle 68 = .ok (.ifCond .ne 6, 3) := by decide +kernel
theorem dX7_settle_71 : decode cX7_settle 71 = .ok (.goto 20, 3) := by decide +kernel
theorem dX7_settle_74 : decode cX7_settle 74 = .ok (.aload_n 0, 1) := by decide +kernel
theorem dX7_settle_75 : decode cX7_settle 75 = .ok (.getfield 31, 3) := by decide +kernel
theorem dX7_settle_78 : decode cX7_settle 78 = .ok (.iload 5, 2) := by decide +kernel
theorem dX7_settle_80 : decode cX7_settle 80 = .ok (.iload 4, 2) := by decide +kernel
theorem dX7_settle_82 : decode cX7_settle 82 = .ok (.iconst 3, 1) := by decide +kernel
theorem dX7_settle_83 : decode cX7_settle 83 = .ok (.irem, 1) := by decide +kernel
theorem dX7_settle_84 : decode cX7_settle 84 = .ok (.iastore, 1) := by decide +kernel
theorem dX7_settle_85 : decode cX7_settle 85 = .ok (.iload 4, 2) := by decide +kernel
theorem dX7_settle_87 : decode cX7_settle 87 = .ok (.iconst 3, 1) := by decide +kernel
theorem dX7_settle_88 : decode cX7_settle 88 = .ok (.idiv, 1) := by decide +kernel
theorem dX7_settle_89 : decode cX7_settle 89 = .ok (.istore 4, 2) := by decide +kernel
theorem dX7_settle_91 : decode cX7_settle 91 = .ok (.iinc 5 1, 3) := by decide +kernel
theorem dX7_settle_94 : decode cX7_settle 94 = .ok (.goto (-41), 3) := by decide +kernel
theorem dX7_settle_97 : decode cX7_settle 97 = .ok (.aload_n 0, 1) := by decide +kernel
theorem dX7_settle_98 : decode cX7_settle 98 = .ok (.invokevirtual 305, 3) := by decide +kernel
theorem dX7_settle_101 : decode cX7_settle 101 = .ok (.istore_n 3, 1) := by decide +kernel
theorem dX7_settle_102 : decode cX7_settle 102 = .ok (.iinc 2 1, 3) := by decide +kernel
theorem dX7_settle_105 : decode cX7_settle 105 = .ok (.goto (-67), 3) := by decide +kernel
theorem dX7_settle_108 : decode cX7_settle 108 = .ok (.return_, 1) := by decide +kernel
theorem dX7_isSo_0 : decode cX7_isSo 0 = .ok (.aload_n 0, 1) := by decide +kernel
theorem dX7_isSo_1 : decode cX7_isSo 1 = .ok (.invokevirtual 271, 3) := by decide +kernel
theorem dX7_isSo_4 : decode cX7_isSo 4 = .ok (.iconst 0, 1) := by decide +kernel
theorem dX7_isSo_5 : decode cX7_isSo 5 = .ok (.istore_n 1, 1) := by decide +kernel
theorem dX7_isSo_6 : decode cX7_isSo 6 = .ok (.iload_n 1, 1) := by decide +kernel
theorem dX7_isSo_7 : decode cX7_isSo 7 = .ok (.aload_n 0, 1) := by decide +kernel
theorem dX7_isSo_8 : decode cX7_isSo 8 = .ok (.getfield 127, 3) := by decide +kernel
theorem dX7_isSo_11 : decode cX7_isSo 11 = .ok (.if_icmp .ge 117, 3) := by decide +kernel
theorem dX7_isSo_14 : decode cX7_isSo 14 = .ok (.aload_n 0, 1) := by decide +kernel
theorem dX7_isSo_15 : decode cX7_isSo 15 = .ok (.getfield 31, 3) := by decide +kernel
theorem dX7_isSo_18 : decode cX7_isSo 18 = .ok (.iload_n 1, 1) := by decide +kernel
theorem dX7_isSo_19 : decode cX7_isSo 19 = .ok (.iaload, 1) := by decide +kernel
theorem dX7_isSo_20 : decode cX7_isSo 20 = .ok (.ifCond .ne 26, 3) := by decide +kernel
theorem dX7_isSo_23 : decode cX7_isSo 23 = .ok (.aload_n 0, 1) := by decide +kernel
theorem dX7_isSo_24 : decode cX7_isSo 24 = .ok (.iload_n 1, 1) := by decide +kernel
theorem dX7_isSo_25 : decode cX7_isSo 25 = .ok (.invokevirtual 278, 3) := by decide +kernel
theorem dX7_isSo_28 : decode cX7_isSo 28 = .ok (.aload_n 0, 1) := by decide +kernel
theorem dX7_isSo_29 : decode cX7_isSo 29 = .ok (.iload_n 1, 1) := by decide +kernel
theorem dX7_isSo_30 : decode cX7_isSo 30 = .ok (.iconst 1, 1) := by decide +kernel
theorem dX7_isSo_31 : decode cX7_isSo 31 = .ok (.invokevirtual 155, 3) := by decide +kernel
theorem dX7_isSo_34 : decode cX7_isSo 34 = .ok (.i2l, 1) := by decide +kernel
theorem dX7_isSo_35 : decode cX7_isSo 35 = .ok (.aload_n 0, 1) := by decide +kernel
theorem dX7_isSo_36 : decode cX7_isSo 36 = .ok (.invokevirtual 282, 3) := by decide +kernel
theorem dX7_isSo_39 : decode cX7_isSo 39 = .ok (.lmul, 1) := by decide +kernel
theorem dX7_isSo_40 : decode cX7_isSo 40 = .ok (.lcmp, 1) := by decide +kernel
theorem dX7_isSo_41 : decode cX7_isSo 41 = .ok (.ifCond .le 5, 3) := by decide +kernel
theorem dX7_isSo_44 : decode cX7_isSo 44 = .ok (.iconst 0, 1) := by decide +kernel
theorem dX7_isSo_45 : decode cX7_isSo 45 = .ok (.ireturn, 1) := by decide +kernel
theorem dX7_isSo_46 : decode cX7_isSo 46 = .ok (.aload_n 0, 1) := by decide +kernel
theorem dX7_isSo_47 : decode cX7_isSo 47 = .ok (.getfield 31, 3) := by decide +kernel
theorem dX7_isSo_50 : decode cX7_isSo 50 = .ok (.iload_n 1, 1) := by decide +kernel
theorem dX7_isSo_51 : decode cX7_isSo 51 = .ok (.iaload, 1) := by decide +kernel
theorem dX7_isSo_52 : decode cX7_isSo 52 = .ok (.iconst 1, 1) := by decide +kernel
theorem dX7_isSo_53 : decode cX7_isSo 53 = .ok (.if_icmp .ne 36, 3) := by decide +kernel
theorem dX7_isSo_56 : decode cX7_isSo 56 = .ok (.aload_n 0, 1) := by decide +kernel
theorem dX7_isSo_57 : decode cX7_isSo 57 = .ok (.iload_n 1, 1) := by decide +kernel
theorem dX7_isSo_58 : decode cX7_isSo 58 = .ok (.invokevirtual 286, 3) := by decide +kernel
theorem dX7_isSo_61 : decode cX7_isSo 61 = .ok (.lconst 0, 1) := by decide +kernel
theorem dX7_isSo_62 : decode cX7_isSo 62 = .ok (.lcmp, 1) := by decide +kernel
theorem dX7_isSo_63 : decode cX7_isSo 63 = .ok (.ifCond .le 24, 3) := by decide +kernel
theorem dX7_isSo_66 : decode cX7_isSo 66 = .ok (.aload_n 0, 1) := by decide +kernel
theorem dX7_isSo_67 : decode cX7_isSo 67 = .ok (.iload_n 1, 1) := by decide +kernel
theorem dX7_isSo_68 : decode cX7_isSo 68 = .ok (.invokevirtual 286, 3) := by decide +kernel
theorem dX7_isSo_71 : decode cX7_isSo 71 = .ok (.aload_n 0, 1) := by decide +kernel
theorem dX7_isSo_72 : decode cX7_isSo 72 = .ok (.iload_n 1, 1) := by decide +kernel
theorem dX7_isSo_73 : decode cX7_isSo 73 = .ok (.iconst 2, 1) := by decide +kernel
theorem dX7_isSo_74 : decode cX7_isSo 74 = .ok (.invokevirtual 155, 3) := by decide +kernel
theorem dX7_isSo_77 : decode cX7_isSo 77 = .ok (.i2l, 1) := by decide +kernel
theorem dX7_isSo_78 : decode cX7_isSo 78 = .ok (.aload_n 0, 1) := by decide +kernel
theorem dX7_isSo_79 : decode cX7_isSo 79 = .ok (.invokevirtual 282, 3) := by decide +kernel
theorem dX7_isSo_82 : decode cX7_isSo 82 = .ok (.lmul, 1) := by decide +kernel
theorem dX7_isSo_83 : decode cX7_isSo 83 = .ok (.lcmp, 1) := by decide +kernel
theorem dX7_isSo_84 : decode cX7_isSo 84 = .ok (.ifCond .le 5, 3) := by decide +kernel
theorem dX7_isSo_87 : decode cX7_isSo 87 = .ok (.iconst 0, 1) := by decide +kernel
theorem dX7_isSo_88 : decode cX7_isSo 88 = .ok (.ireturn, 1) := by decide +kernel
theorem dX7_isSo_89 : decode cX7_isSo 89 = .ok (.aload_n 0, 1) := by decide +kernel
theorem dX7_isSo_90 : decode cX7_isSo 90 = .ok (.getfield 31, 3) := by decide +kernel
theorem dX7_isSo_93 : decode cX7_isSo 93 = .ok (.iload_n 1, 1) := by decide +kernel
theorem dX7_isSo_94 : decode cX7_isSo 94 = .ok (.iaload, 1) := by decide +kernel
theorem dX7_isSo_95 : decode cX7_isSo 95 = .ok (.iconst 2, 1) := by decide +kernel
theorem dX7_isSo_96 : decode cX7_isSo 96 = .ok (.if_icmp .ne 26, 3) := by decide +kernel
theorem dX7_isSo_99 : decode cX7_isSo 99 = .ok (.aload_n 0, 1) := by decide +kernel
theorem dX7_isSo_100 : decode cX7_isSo 100 = .ok (.iload_n 1, 1) := by decide +kernel
theorem dX7_isSo_101 : decode cX7_isSo 101 = .ok (.invokevirtual 286, 3) := by decide +kernel
theorem dX7_isSo_104 : decode cX7_isSo 104 = .ok (.aload_n 0, 1) := by decide +kernel
theorem dX7_isSo_105 : decode cX7_isSo 105 = .ok (.iload_n 1, 1) := by decide +kernel
theorem dX7_isSo_106 : decode cX7_isSo 106 = .ok (.iconst 2, 1) := by decide +kernel
theorem dX7_isSo_107 : decode cX7_isSo 107 = .ok (.invokevirtual 155, 3) := by decide +kernel
theorem dX7_isSo_110 : decode cX7_isSo 110 = .ok (.i2l, 1) := by decide +kernel
theorem dX7_isSo_111 : decode cX7_isSo 111 = .ok (.aload_n 0, 1) := by decide +kernel
theorem dX7_isSo_112 : decode cX7_isSo 112 = .ok (.invokevirtual 282, 3) := by decide +kernel
theorem dX7_isSo_115 : decode cX7_isSo 115 = .ok (.lmul, 1) := by decide +kernel
theorem dX7_isSo_116 : decode cX7_isSo 116 = .ok (.lcmp, 1) := by decide +kernel
theorem dX7_isSo_117 : decode cX7_isSo 117 = .ok (.ifCond .gt 5, 3) := by decide +kernel
theorem dX7_isSo_120 : decode cX7_isSo 120 = .ok (.iconst 0, 1) := by decide +kernel
theorem dX7_isSo_121 : decode cX7_isSo 121 = .ok (.ireturn, 1) := by decide +kernel
theorem dX7_isSo_122 : decode cX7_isSo 122 = .ok (.iinc 1 1, 3) := by decide +kernel
theorem dX7_isSo_125 : decode cX7_isSo 125 = .ok (.goto (-119), 3) := by decide +kernel
theorem dX7_isSo_128 : decode cX7_isSo 128 = .ok (.iconst 1, 1) := by decide +kernel
theorem dX7_isSo_129 : decode cX7_isSo 129 = .ok (.ireturn, 1) := by decide +kernel
theorem dX7_grow_0 : decode cX7_grow 0 = .ok (.aload_n 0, 1) := by decide +kernel
theorem dX7_grow_1 : decode cX7_grow 1 = .ok (.invokevirtual 308, 3) := by decide +kernel
theorem dX7_grow_4 : decode cX7_grow 4 = .ok (.aload_n 0, 1) := by decide +kernel
theorem dX7_grow_5 : decode cX7_grow 5 = .ok (.invokevirtual 295, 3) := by decide +kernel
theorem dX7_grow_8 : decode cX7_grow 8 = .ok (.ifCond .ne 14, 3) := by decide +kernel
theorem dX7_grow_11 : decode cX7_grow 11 = .ok (.aload_n 0, 1) := by decide +kernel
theorem dX7_grow_12 : decode cX7_grow 12 = .ok (.invokevirtual 311, 3) := by decide +kernel
theorem dX7_grow_15 : decode cX7_grow 15 = .ok (.aload_n 0, 1) := by decide +kernel
theorem dX7_grow_16 : decode cX7_grow 16 = .ok (.invokevirtual 314, 3) := by decide +kernel
theorem dX7_grow_19 : decode cX7_grow 19 = .ok (.goto (-15), 3) := by decide +kernel
theorem dX7_grow_22 : decode cX7_grow 22 = .ok (.return_, 1) := by decide +kernel
theorem dX7_growTo_0 : decode cX7_growTo 0 = .ok (.aload_n 0, 1) := by decide +kernel
theorem dX7_growTo_1 : decode cX7_growTo 1 = .ok (.invokevirtual 308, 3) := by decide +kernel
theorem dX7_growTo_4 : decode cX7_growTo 4 = .ok (.aload_n 0, 1) := by decide +kernel
theorem dX7_growTo_5 : decode cX7_growTo 5 = .ok (.invokevirtual 295, 3) := by decide +kernel
theorem dX7_growTo_8 : decode cX7_growTo 8 = .ok (.ifCond .ne 38, 3) := by decide +kernel
theorem dX7_growTo_11 : decode cX7_growTo 11 = .ok (.aload_n 0, 1) := by decide +kernel
theorem dX7_growTo_12 : decode cX7_growTo 12 = .ok (.invokevirtual 311, 3) := by decide +kernel
theorem dX7_growTo_15 : decode cX7_growTo 15 = .ok (.aload_n 0, 1) := by decide +kernel
theorem dX7_growTo_16 : decode cX7_growTo 16 = .ok (.getfield 268, 3) := by decide +kernel
theorem dX7_growTo_19 : decode cX7_growTo 19 = .ok (.iload_n 1, 1) := by decide +kernel
theorem dX7_growTo_20 : decode cX7_growTo 20 = .ok (.i2l, 1) := by decide +kernel
theorem dX7_growTo_21 : decode cX7_growTo 21 = .ok (.aload_n 0, 1) := by decide +kernel
theorem dX7_growTo_22 : decode cX7_growTo 22 = .ok (.getfield 265, 3) := by decide +kernel
theorem dX7_growTo_25 : decode cX7_growTo 25 = .ok (.lmul, 1) := by decide +kernel
theorem dX7_growTo_26 : decode cX7_growTo 26 = .ok (.lcmp, 1) := by decide +kernel
theorem dX7_growTo_27 : decode cX7_growTo 27 = .ok (.ifCond .le 12, 3) := by decide +kernel
theorem dX7_growTo_30 : decode cX7_growTo 30 = .ok (.aload_n 0, 1) := by decide +kernel
theorem dX7_growTo_31 : decode cX7_growTo 31 = .ok (.iload_n 1, 1) := by decide +kernel
theorem dX7_growTo_32 : decode cX7_growTo 32 = .ok (.i2l, 1) := by decide +kernel
theorem dX7_growTo_33 : decode cX7_growTo 33 = .ok (.lconst 1, 1) := by decide +kernel
theorem dX7_growTo_34 : decode cX7_growTo 34 = .ok (.invokevirtual 255, 3) := by decide +kernel
theorem dX7_growTo_37 : decode cX7_growTo 37 = .ok (.iconst 1, 1) := by decide +kernel
theorem dX7_growTo_38 : decode cX7_growTo 38 = .ok (.ireturn, 1) := by decide +kernel
theorem dX7_growTo_39 : decode cX7_growTo 39 = .ok (.aload_n 0, 1) := by decide +kernel
theorem dX7_growTo_40 : decode cX7_growTo 40 = .ok (.invokevirtual 314, 3) := by decide +kernel
theorem dX7_growTo_43 : decode cX7_growTo 43 = .ok (.goto (-39), 3) := by decide +kernel
theorem dX7_growTo_46 : decode cX7_growTo 46 = .ok (.iconst 0, 1) := by decide +kernel
theorem dX7_growTo_47 : decode cX7_growTo 47 = .ok (.ireturn, 1) := by decide +kernel
theorem dX7_isLoad_0 : decode cX7_isLoad 0 = .ok (.iload_n 0, 1) := by decide +kernel
theorem dX7_isLoad_1 : decode cX7_isLoad 1 = .ok (.i2l, 1) := by decide +kernel
theorem dX7_isLoad_2 : decode cX7_isLoad 2 = .ok (.lconst 0, 1) := by decide +kernel
theorem dX7_isLoad_3 : decode cX7_isLoad 3 = .ok (.ldc2_w 317, 3) := by decide +kernel
theorem dX7_isLoad_6 : decode cX7_isLoad 6 = .ok (.invokestatic 130, 3) := by decide +kernel
theorem dX7_isLoad_9 : decode cX7_isLoad 9 = .ok (.ireturn, 1) := by decide +kernel
theorem dX7_force_0 : decode cX7_force 0 = .ok (.aload_n 0, 1) := by decide +kernel
theorem dX7_force_1 : decode cX7_force 1 = .ok (.iconst 0, 1) := by decide +kernel
theorem dX7_force_2 : decode cX7_force 2 = .ok (.putfield 107, 3) := by decide +kernel
theorem dX7_force_5 : decode cX7_force 5 = .ok (.aload_n 0, 1) := by decide +kernel
theorem dX7_force_6 : decode cX7_force 6 = .ok (.iload_n 2, 1) := by decide +kernel
theorem dX7_force_7 : decode cX7_force 7 = .ok (.invokevirtual 159, 3) := by decide +kernel
theorem dX7_force_10 : decode cX7_force 10 = .ok (.ifCond .eq 10, 3) := by decide +kernel
theorem dX7_force_13 : decode cX7_force 13 = .ok (.iload_n 1, 1) := by decide +kernel
theorem dX7_force_14 : decode cX7_force 14 = .ok (.invokestatic 319, 3) := by decide +kernel
theorem dX7_force_17 : decode cX7_force 17 = .ok (.ifCond .ne 5, 3) := by decide +kernel
theorem dX7_force_20 : decode cX7_force 20 = .ok (.iconst (-1), 1) := by decide +kernel
theorem dX7_force_21 : decode cX7_force 21 = .ok (.ireturn, 1) := by decide +kernel
theorem dX7_force_22 : decode cX7_force 22 = .ok (.aload_n 0, 1) := by decide +kernel
theorem dX7_force_23 : decode cX7_force 23 = .ok (.iload_n 1, 1) := by decide +kernel
theorem dX7_force_24 : decode cX7_force 24 = .ok (.invokevirtual 322, 3) := by decide +kernel
theorem dX7_force_27 : decode cX7_force 27 = .ok (.ifCond .ne 6, 3) := by decide +kernel
theorem dX7_force_30 : decode cX7_force 30 = .ok (.bipush (-2), 2) := by decide +kernel
theorem dX7_force_32 : decode cX7_force 32 = .ok (.ireturn, 1) := by decide +kernel
theorem dX7_force_33 : decode cX7_force 33 = .ok (.aload_n 0, 1) := by decide +kernel
theorem dX7_force_34 : decode cX7_force 34 = .ok (.iconst 0, 1) := by decide +kernel
theorem dX7_force_35 : decode cX7_force 35 = .ok (.putfield 110, 3) := by decide +kernel
theorem dX7_force_38 : decode cX7_force 38 = .ok (.aload_n 0, 1) := by decide +kernel
theorem dX7_force_39 : decode cX7_force 39 = .ok (.aload_n 0, 1) := by decide +kernel
theorem dX7_force_40 : decode cX7_force 40 = .ok (.iload_n 2, 1) := by decide +kernel
theorem dX7_force_41 : decode cX7_force 41 = .ok (.invokevirtual 286, 3) := by decide +kernel
theorem dX7_force_44 : decode cX7_force 44 = .ok (.aload_n 0, 1) := by decide +kernel
theorem dX7_force_45 : decode cX7_force 45 = .ok (.invokevirtual 282, 3) := by decide +kernel
theorem dX7_force_48 : decode cX7_force 48 = .ok (.invokevirtual 325, 3) := by decide +kernel
theorem dX7_force_51 : decode cX7_force 51 = .ok (.iconst 0, 1) := by decide +kernel
theorem dX7_force_52 : decode cX7_force 52 = .ok (.ireturn, 1) := by decide +kernel
theorem dX7_slip_0 : decode cX7_slip 0 = .ok (.aload_n 0, 1) := by decide +kernel
theorem dX7_slip_1 : decode cX7_slip 1 = .ok (.iconst 0, 1) := by decide +kernel
theorem dX7_slip_2 : decode cX7_slip 2 = .ok (.putfield 107, 3) := by decide +kernel
theorem dX7_slip_5 : decode cX7_slip 5 = .ok (.aload_n 0, 1) := by decide +kernel
theorem dX7_slip_6 : decode cX7_slip 6 = .ok (.iload_n 2, 1) := by decide +kernel
theorem dX7_slip_7 : decode cX7_slip 7 = .ok (.invokevirtual 159, 3) := by decide +kernel
theorem dX7_slip_10 : decode cX7_slip 10 = .ok (.ifCond .eq 10, 3) := by decide +kernel
theorem dX7_slip_13 : decode cX7_slip 13 = .ok (.iload_n 1, 1) := by decide +kernel
theorem dX7_slip_14 : decode cX7_slip 14 = .ok (.invokestatic 319, 3) := by decide +kernel
theorem dX7_slip_17 : decode cX7_slip 17 = .ok (.ifCond .ne 5, 3) := by decide +kernel
theorem dX7_slip_20 : decode cX7_slip 20 = .ok (.iconst (-1), 1) := by decide +kernel
theorem dX7_slip_21 : decode cX7_slip 21 = .ok (.ireturn, 1) := by decide +kernel
theorem dX7_slip_22 : decode cX7_slip 22 = .ok (.aload_n 0, 1) := by decide +kernel
theorem dX7_slip_23 : decode cX7_slip 23 = .ok (.iload_n 1, 1) := by decide +kernel
theorem dX7_slip_24 : decode cX7_slip 24 = .ok (.invokevirtual 322, 3) := by decide +kernel
theorem dX7_slip_27 : decode cX7_slip 27 = .ok (.ifCond .ne 6, 3) := by decide +kernel
theorem dX7_slip_30 : decode cX7_slip 30 = .ok (.bipush (-2), 2) := by decide +kernel
theorem dX7_slip_32 : decode cX7_slip 32 = .ok (.ireturn, 1) := by decide +kernel
theorem dX7_slip_33 : decode cX7_slip 33 = .ok (.aload_n 0, 1) := by decide +kernel
theorem dX7_slip_34 : decode cX7_slip 34 = .ok (.iconst 0, 1) := by decide +kernel
theorem dX7_slip_35 : decode cX7_slip 35 = .ok (.putfield 110, 3) := by decide +kernel
theorem dX7_slip_38 : decode cX7_slip 38 = .ok (.aload_n 0, 1) := by decide +kernel
theorem dX7_slip_39 : decode cX7_slip 39 = .ok (.aload_n 0, 1) := by decide +kernel
theorem dX7_slip_40 : decode cX7_slip 40 = .ok (.iload_n 2, 1) := by decide +kernel
theorem dX7_slip_41 : decode cX7_slip 41 = .ok (.invokevirtual 278, 3) := by decide +kernel
theorem dX7_slip_44 : decode cX7_slip 44 = .ok (.aload_n 0, 1) := by decide +kernel
theorem dX7_slip_45 : decode cX7_slip 45 = .ok (.invokevirtual 282, 3) := by decide +kernel
theorem dX7_slip_48 : decode cX7_slip 48 = .ok (.invokevirtual 325, 3) := by decide +kernel
theorem dX7_slip_51 : decode cX7_slip 51 = .ok (.iconst 0, 1) := by decide +kernel
theorem dX7_slip_52 : decode cX7_slip 52 = .ok (.ireturn, 1) := by decide +kernel
theorem dX7_borne_0 : decode cX7_borne 0 = .ok (.lconst 0, 1) := by decide +kernel
theorem dX7_borne_1 : decode cX7_borne 1 = .ok (.lstore_n 2, 1) := by decide +kernel
theorem dX7_borne_2 : decode cX7_borne 2 = .ok (.iconst 0, 1) := by decide +kernel
theorem dX7_borne_3 : decode cX7_borne 3 = .ok (.istore 4, 2) := by decide +kernel
theorem dX7_borne_5 : decode cX7_borne 5 = .ok (.iload 4, 2) := by decide +kernel
theorem dX7_borne_7 : decode cX7_borne 7 = .ok (.iload_n 1, 1) := by decide +kernel
theorem dX7_borne_8 : decode cX7_borne 8 = .ok (.if_icmp .gt 18, 3) := by decide +kernel
theorem dX7_borne_11 : decode cX7_borne 11 = .ok (.lload_n 2, 1) := by decide +kernel
theorem dX7_borne_12 : decode cX7_borne 12 = .ok (.aload_n 0, 1) := by decide +kernel
theorem dX7_borne_13 : decode cX7_borne 13 = .ok (.iload 4, 2) := by decide +kernel
theorem dX7_borne_15 : decode cX7_borne 15 = .ok (.invokevirtual 286, 3) := by decide +kernel
theorem dX7_borne_18 : decode cX7_borne 18 = .ok (.ladd, 1) := by decide +kernel
theorem dX7_borne_19 : decode cX7_borne 19 = .ok (.lstore_n 2, 1) := by decide +kernel
theorem dX7_borne_20 : decode cX7_borne 20 = .ok (.iinc 4 1, 3) := by decide +kernel
theorem dX7_borne_23 : decode cX7_borne 23 = .ok (.goto (-18), 3) := by decide +kernel
theorem dX7_borne_26 : decode cX7_borne 26 = .ok (.lload_n 2, 1) := by decide +kernel
theorem dX7_borne_27 : decode cX7_borne 27 = .ok (.lreturn, 1) := by decide +kernel
theorem dX7_bears_0 : decode cX7_bears 0 = .ok (.aload_n 0, 1) := by decide +kernel
theorem dX7_bears_1 : decode cX7_bears 1 = .ok (.iconst 0, 1) := by decide +kernel
theorem dX7_bears_2 : decode cX7_bears 2 = .ok (.putfield 107, 3) := by decide +kernel
theorem dX7_bears_5 : decode cX7_bears 5 = .ok (.iload_n 2, 1) := by decide +kernel
theorem dX7_bears_6 : decode cX7_bears 6 = .ok (.i2l, 1) := by decide +kernel
theorem dX7_bears_7 : decode cX7_bears 7 = .ok (.lconst 0, 1) := by decide +kernel
theorem dX7_bears_8 : decode cX7_bears 8 = .ok (.aload_n 0, 1) := by decide +kernel
theorem dX7_bears_9 : decode cX7_bears 9 = .ok (.getfield 127, 3) := by decide +kernel
theorem dX7_bears_12 : decode cX7_bears 12 = .ok (.iconst 2, 1) := by decide +kernel
theorem dX7_bears_13 : decode cX7_bears 13 = .ok (.isub, 1) := by decide +kernel
theorem dX7_bears_14 : decode cX7_bears 14 = .ok (.i2l, 1) := by decide +kernel
theorem dX7_bears_15 : decode cX7_bears 15 = .ok (.invokestatic 130, 3) := by decide +kernel
theorem dX7_bears_18 : decode cX7_bears 18 = .ok (.ifCond .eq 10, 3) := by decide +kernel
theorem dX7_bears_21 : decode cX7_bears 21 = .ok (.iload_n 1, 1) := by decide +kernel
theorem dX7_bears_22 : decode cX7_bears 22 = .ok (.invokestatic 319, 3) := by decide +kernel
theorem dX7_bears_25 : decode cX7_bears 25 = .ok (.ifCond .ne 5, 3) := by decide +kernel
theorem dX7_bears_28 : decode cX7_bears 28 = .ok (.iconst (-1), 1) := by decide +kernel
theorem dX7_bears_29 : decode cX7_bears 29 = .ok (.ireturn, 1) := by decide +kernel
theorem dX7_bears_30 : decode cX7_bears 30 = .ok (.aload_n 0, 1) := by decide +kernel
theorem dX7_bears_31 : decode cX7_bears 31 = .ok (.iload_n 1, 1) := by decide +kernel
theorem dX7_bears_32 : decode cX7_bears 32 = .ok (.invokevirtual 322, 3) := by decide +kernel
theorem dX7_bears_35 : decode cX7_bears 35 = .ok (.ifCond .ne 6, 3) := by decide +kernel
theorem dX7_bears_38 : decode cX7_bears 38 = .ok (.bipush (-2), 2) := by decide +kernel
theorem dX7_bears_40 : decode cX7_bears 40 = .ok (.ireturn, 1) := by decide +kernel
theorem dX7_bears_41 : decode cX7_bears 41 = .ok (.aload_n 0, 1) := by decide +kernel
theorem dX7_bears_42 : decode cX7_bears 42 = .ok (.iconst 0, 1) := by decide +kernel
theorem dX7_bears_43 : decode cX7_bears 43 = .ok (.putfield 110, 3) := by decide +kernel
theorem dX7_bears_46 : decode cX7_bears 46 = .ok (.aload_n 0, 1) := by decide +kernel
theorem dX7_bears_47 : decode cX7_bears 47 = .ok (.iload_n 1, 1) := by decide +kernel
theorem dX7_bears_48 : decode cX7_bears 48 = .ok (.i2l, 1) := by decide +kernel
theorem dX7_bears_49 : decode cX7_bears 49 = .ok (.aload_n 0, 1) := by decide +kernel
theorem dX7_bears_50 : decode cX7_bears 50 = .ok (.invokevirtual 282, 3) := by decide +kernel
theorem dX7_bears_53 : decode cX7_bears 53 = .ok (.lmul, 1) := by decide +kernel
theorem dX7_bears_54 : decode cX7_bears 54 = .ok (.aload_n 0, 1) := by decide +kernel
theorem dX7_bears_55 : decode cX7_bears 55 = .ok (.iload_n 2, 1) := by decide +kernel
theorem dX7_bears_56 : decode cX7_bears 56 = .ok (.invokevirtual 328, 3) := by decide +kernel
theorem dX7_bears_59 : decode cX7_bears 59 = .ok (.lsub, 1) := by decide +kernel
theorem dX7_bears_60 : decode cX7_bears 60 = .ok (.aload_n 0, 1) := by decide +kernel
theorem dX7_bears_61 : decode cX7_bears 61 = .ok (.invokevirtual 282, 3) := by decide +kernel
theorem dX7_bears_64 : decode cX7_bears 64 = .ok (.invokevirtual 325, 3) := by decide +kernel
theorem dX7_bears_67 : decode cX7_bears 67 = .ok (.aload_n 0, 1) := by decide +kernel
theorem dX7_bears_68 : decode cX7_bears 68 = .ok (.aload_n 0, 1) := by decide +kernel
theorem dX7_bears_69 : decode cX7_bears 69 = .ok (.iload_n 2, 1) := by decide +kernel
theorem dX7_bears_70 : decode cX7_bears 70 = .ok (.invokevirtual 328, 3) := by decide +kernel
theorem dX7_bears_73 : decode cX7_bears 73 = .ok (.aload_n 0, 1) := by decide +kernel
theorem dX7_bears_74 : decode cX7_bears 74 = .ok (.invokevirtual 282, 3) := by decide +kernel
theorem dX7_bears_77 : decode cX7_bears 77 = .ok (.invokevirtual 325, 3) := by decide +kernel
theorem dX7_bears_80 : decode cX7_bears 80 = .ok (.iconst 0, 1) := by decide +kernel
theorem dX7_bears_81 : decode cX7_bears 81 = .ok (.ireturn, 1) := by decide +kernel
theorem dX7_stretch_0 : decode cX7_stretch 0 = .ok (.aload_n 0, 1) := by decide +kernel
theorem dX7_stretch_1 : decode cX7_stretch 1 = .ok (.iconst 0, 1) := by decide +kernel
theorem dX7_stretch_2 : decode cX7_stretch 2 = .ok (.putfield 107, 3) := by decide +kernel
theorem dX7_stretch_5 : decode cX7_stretch 5 = .ok (.aload_n 0, 1) := by decide +kernel
theorem dX7_stretch_6 : decode cX7_stretch 6 = .ok (.getfield 127, 3) := by decide +kernel
theorem dX7_stretch_9 : decode cX7_stretch 9 = .ok (.ifCond .eq 10, 3) := by decide +kernel
theorem dX7_stretch_12 : decode cX7_stretch 12 = .ok (.iload_n 1, 1) := by decide +kernel
theorem dX7_stretch_13 : decode cX7_stretch 13 = .ok (.invokestatic 319, 3) := by decide +kernel
theorem dX7_stretch_16 : decode cX7_stretch 16 = .ok (.ifCond .ne 5, 3) := by decide +kernel
theorem dX7_stretch_19 : decode cX7_stretch 19 = .ok (.iconst (-1), 1) := by decide +kernel
theorem dX7_stretch_20 : decode cX7_stretch 20 = .ok (.ireturn, 1) := by decide +kernel
theorem dX7_stretch_21 : decode cX7_stretch 21 = .ok (.aload_n 0, 1) := by decide +kernel
theorem dX7_stretch_22 : decode cX7_stretch 22 = .ok (.iload_n 1, 1) := by decide +kernel
theorem dX7_stretch_23 : decode cX7_stretch 23 = .ok (.invokevirtual 322, 3) := by decide +kernel
theorem dX7_stretch_26 : decode cX7_stretch 26 = .ok (.ifCond .ne 6, 3) := by decide +kernel
theorem dX7_stretch_29 : decode cX7_stretch 29 = .ok (.bipush (-2), 2) := by decide +kernel
theorem dX7_stretch_31 : decode cX7_stretch 31 = .ok (.ireturn, 1) := by decide +kernel
theorem dX7_stretch_32 : decode cX7_stretch 32 = .ok (.aload_n 0, 1) := by decide +kernel
theorem dX7_stretch_33 : decode cX7_stretch 33 = .ok (.iconst 0, 1) := by decide +kernel
theorem dX7_stretch_34 : decode cX7_stretch 34 = .ok (.invokevirtual 278, 3) := by decide +kernel
theorem dX7_stretch_37 : decode cX7_stretch 37 = .ok (.lstore_n 2, 1) := by decide +kernel
theorem dX7_stretch_38 : decode cX7_stretch 38 = .ok (.iconst 0, 1) := by decide +kernel
theorem dX7_stretch_39 : decode cX7_stretch 39 = .ok (.istore 4, 2) := by decide +kernel
theorem dX7_stretch_41 : decode cX7_stretch 41 = .ok (.iload 4, 2) := by decide +kernel
theorem dX7_stretch_43 : decode cX7_stretch 43 = .ok (.aload_n 0, 1) := by decide +kernel
theorem dX7_stretch_44 : decode cX7_stretch 44 = .ok (.getfield 127, 3) := by decide +kernel
theorem dX7_stretch_47 : decode cX7_stretch 47 = .ok (.iconst 1, 1) := by decide +kernel
theorem dX7_stretch_48 : decode cX7_stretch 48 = .ok (.isub, 1) := by decide +kernel
theorem dX7_stretch_49 : decode cX7_stretch 49 = .ok (.if_icmp .ge 34, 3) := by decide +kernel
theorem dX7_stretch_52 : decode cX7_stretch 52 = .ok (.lload_n 2, 1) := by decide +kernel
theorem dX7_stretch_53 : decode cX7_stretch 53 = .ok (.aload_n 0, 1) := by decide +kernel
theorem dX7_stretch_54 : decode cX7_stretch 54 = .ok (.getfield 17, 3) := by decide +kernel
theorem dX7_stretch_57 : decode cX7_stretch 57 = .ok (.i2l, 1) := by decide +kernel
theorem dX7_stretch_58 : decode cX7_stretch 58 = .ok (.aload_n 0, 1) := by decide +kernel
theorem dX7_stretch_59 : decode cX7_stretch 59 = .ok (.iload 4, 2) := by decide +kernel
theorem dX7_stretch_61 : decode cX7_stretch 61 = .ok (.bipush 6, 2) := by decide +kernel
theorem dX7_stretch_63 : decode cX7_stretch 63 = .ok (.invokevirtual 155, 3) := by decide +kernel
theorem dX7_stretch_66 : decode cX7_stretch 66 = .ok (.i2l, 1) := by decide +kernel
theorem dX7_stretch_67 : decode cX7_stretch 67 = .ok (.lmul, 1) := by decide +kernel
theorem dX7_stretch_68 : decode cX7_stretch 68 = .ok (.aload_n 0, 1) := by decide +kernel
theorem dX7_stretch_69 : decode cX7_stretch 69 = .ok (.iload 4, 2) := by decide +kernel
theorem dX7_stretch_71 : decode cX7_stretch 71 = .ok (.invokevirtual 328, 3) := by decide +kernel
theorem dX7_stretch_74 : decode cX7_stretch 74 = .ok (.lmul, 1) := by decide +kernel
theorem dX7_stretch_75 : decode cX7_stretch 75 = .ok (.ladd, 1) := by decide +kernel
theorem dX7_stretch_76 : decode cX7_stretch 76 = .ok (.lstore_n 2, 1) := by decide +kernel
theorem dX7_stretch_77 : decode cX7_stretch 77 = .ok (.iinc 4 1, 3) := by decide +kernel
theorem dX7_stretch_80 : decode cX7_stretch 80 = .ok (.goto (-39), 3) := by decide +kernel
theorem dX7_stretch_83 : decode cX7_stretch 83 = .ok (.aload_n 0, 1) := by decide +kernel
theorem dX7_stretch_84 : decode cX7_stretch 84 = .ok (.iconst 0, 1) := by decide +kernel
theorem dX7_stretch_85 : decode cX7_stretch 85 = .ok (.putfield 110, 3) := by decide +kernel
theorem dX7_stretch_88 : decode cX7_stretch 88 = .ok (.aload_n 0, 1) := by decide +kernel
theorem dX7_stretch_89 : decode cX7_stretch 89 = .ok (.lload_n 2, 1) := by decide +kernel
theorem dX7_stretch_90 : decode cX7_stretch 90 = .ok (.aload_n 0, 1) := by decide +kernel
theorem dX7_stretch_91 : decode cX7_stretch 91 = .ok (.invokevirtual 282, 3) := by decide +kernel
theorem dX7_stretch_94 : decode cX7_stretch 94 = .ok (.invokevirtual 325, 3) := by decide +kernel
theorem dX7_stretch_97 : decode cX7_stretch 97 = .ok (.iconst 0, 1) := by decide +kernel
theorem dX7_stretch_98 : decode cX7_stretch 98 = .ok (.ireturn, 1) := by decide +kernel
theorem dX7_stateOf_0 : decode cX7_stateOf 0 = .ok (.aload_n 0, 1) := by decide +kernel
theorem dX7_stateOf_1 : decode cX7_stateOf 1 = .ok (.iload_n 1, 1) := by decide +kernel
theorem dX7_stateOf_2 : decode cX7_stateOf 2 = .ok (.iconst 5, 1) := by decide +kernel
theorem dX7_stateOf_3 : decode cX7_stateOf 3 = .ok (.invokevirtual 155, 3) := by decide +kernel
theorem dX7_stateOf_6 : decode cX7_stateOf 6 = .ok (.iconst 1, 1) := by decide +kernel
theorem dX7_stateOf_7 : decode cX7_stateOf 7 = .ok (.if_icmp .ne 5, 3) := by decide +kernel
theorem dX7_stateOf_10 : decode cX7_stateOf 10 = .ok (.iconst 4, 1) := by decide +kernel
theorem dX7_stateOf_11 : decode cX7_stateOf 11 = .ok (.ireturn, 1) := by decide +kernel
theorem dX7_stateOf_12 : decode cX7_stateOf 12 = .ok (.aload_n 0, 1) := by decide +kernel
theorem dX7_stateOf_13 : decode cX7_stateOf 13 = .ok (.getfield 31, 3) := by decide +kernel
theorem dX7_stateOf_16 : decode cX7_stateOf 16 = .ok (.iload_n 1, 1) := by decide +kernel
theorem dX7_stateOf_17 : decode cX7_stateOf 17 = .ok (.iaload, 1) := by decide +kernel
theorem dX7_stateOf_18 : decode cX7_stateOf 18 = .ok (.iconst 3, 1) := by decide +kernel
theorem dX7_stateOf_19 : decode cX7_stateOf 19 = .ok (.if_icmp .ne 5, 3) := by decide +kernel
theorem dX7_stateOf_22 : decode cX7_stateOf 22 = .ok (.iconst 3, 1) := by decide +kernel
theorem dX7_stateOf_23 : decode cX7_stateOf 23 = .ok (.ireturn, 1) := by decide +kernel
theorem dX7_stateOf_24 : decode cX7_stateOf 24 = .ok (.aload_n 0, 1) := by decide +kernel
theorem dX7_stateOf_25 : decode cX7_stateOf 25 = .ok (.iload_n 1, 1) := by decide +kernel
theorem dX7_stateOf_26 : decode cX7_stateOf 26 = .ok (.invokevirtual 286, 3) := by decide +kernel
theorem dX7_stateOf_29 : decode cX7_stateOf 29 = .ok (.lconst 0, 1) := by decide +kernel
theorem dX7_stateOf_30 : decode cX7_stateOf 30 = .ok (.lcmp, 1) := by decide +kernel
theorem dX7_stateOf_31 : decode cX7_stateOf 31 = .ok (.ifCond .ne 7, 3) := by decide +kernel
theorem dX7_stateOf_34 : decode cX7_stateOf 34 = .ok (.iconst 0, 1) := by decide +kernel
theorem dX7_stateOf_35 : decode cX7_stateOf 35 = .ok (.goto 29, 3) := by decide +kernel
theorem dX7_stateOf_38 : decode cX7_stateOf 38 = .ok (.aload_n 0, 1) := by decide +kernel
theorem dX7_stateOf_39 : decode cX7_stateOf 39 = .ok (.iload_n 1, 1) := by decide +kernel
theorem dX7_stateOf_40 : decode cX7_stateOf 40 = .ok (.invokevirtual 286, 3) := by decide +kernel
theorem dX7_stateOf_43 : decode cX7_stateOf 43 = .ok (.aload_n 0, 1) := by decide +kernel
theorem dX7_stateOf_44 : decode cX7_stateOf 44 = .ok (.iload_n 1, 1) := by decide +kernel
theorem dX7_stateOf_45 : decode cX7_stateOf 45 = .ok (.iconst 2, 1) := by decide +kernel
theorem dX7_stateOf_46 : decode cX7_stateOf 46 = .ok (.invokevirtual 155, 3) := by decide +kernel
theorem dX7_stateOf_49 : decode cX7_stateOf 49 = .ok (.i2l, 1) := by decide +kernel
theorem dX7_stateOf_50 : decode cX7_stateOf 50 = .ok (.aload_n 0, 1) := by decide +kernel
theorem dX7_stateOf_51 : decode cX7_stateOf 51 = .ok (.invokevirtual 282, 3) := by decide +kernel
theorem dX7_stateOf_54 : decode cX7_stateOf 54 = .ok (.lmul, 1) := by decide +kernel
theorem dX7_stateOf_55 : decode cX7_stateOf 55 = .ok (.lcmp, 1) := by decide +kernel
theorem dX7_stateOf_56 : decode cX7_stateOf 56 = .ok (.ifCond .le 7, 3) := by decide +kernel
theorem dX7_stateOf_59 : decode cX7_stateOf 59 = .ok (.iconst 2, 1) := by decide +kernel
theorem dX7_stateOf_60 : decode cX7_stateOf 60 = .ok (.goto 4, 3) := by decide +kernel
theorem dX7_stateOf_63 : decode cX7_stateOf 63 = .ok (.iconst 1, 1) := by decide +kernel
theorem dX7_stateOf_64 : decode cX7_stateOf 64 = .ok (.ireturn, 1) := by decide +kernel
theorem dX7_state_0 : decode cX7_state 0 = .ok (.aload_n 0, 1) := by decide +kernel
theorem dX7_state_1 : decode cX7_state 1 = .ok (.iconst 0, 1) := by decide +kernel
theorem dX7_state_2 : decode cX7_state 2 = .ok (.putfield 107, 3) := by decide +kernel
theorem dX7_state_5 : decode cX7_state 5 = .ok (.aload_n 0, 1) := by decide +kernel
theorem dX7_state_6 : decode cX7_state 6 = .ok (.iload_n 2, 1) := by decide +kernel
theorem dX7_state_7 : decode cX7_state 7 = .ok (.invokevirtual 159, 3) := by decide +kernel
theorem dX7_state_10 : decode cX7_state 10 = .ok (.ifCond .eq 10, 3) := by decide +kernel
theorem dX7_state_13 : decode cX7_state 13 = .ok (.iload_n 1, 1) := by decide +kernel
theorem dX7_state_14 : decode cX7_state 14 = .ok (.invokestatic 319, 3) := by decide +kernel
theorem dX7_state_17 : decode cX7_state 17 = .ok (.ifCond .ne 5, 3) := by decide +kernel
theorem dX7_state_20 : decode cX7_state 20 = .ok (.iconst (-1), 1) := by decide +kernel
theorem dX7_state_21 : decode cX7_state 21 = .ok (.ireturn, 1) := by decide +kernel
theorem dX7_state_22 : decode cX7_state 22 = .ok (.aload_n 0, 1) := by decide +kernel
theorem dX7_state_23 : decode cX7_state 23 = .ok (.iload_n 1, 1) := by decide +kernel
theorem dX7_state_24 : decode cX7_state 24 = .ok (.invokevirtual 322, 3) := by decide +kernel
theorem dX7_state_27 : decode cX7_state 27 = .ok (.istore_n 3, 1) := by decide +kernel
theorem dX7_state_28 : decode cX7_state 28 = .ok (.iload_n 3, 1) := by decide +kernel
theorem dX7_state_29 : decode cX7_state 29 = .ok (.ifCond .eq 11, 3) := by decide +kernel
theorem dX7_state_32 : decode cX7_state 32 = .ok (.aload_n 0, 1) := by decide +kernel
theorem dX7_state_33 : decode cX7_state 33 = .ok (.iload_n 2, 1) := by decide +kernel
theorem dX7_state_34 : decode cX7_state 34 = .ok (.invokevirtual 331, 3) := by decide +kernel
theorem dX7_state_37 : decode cX7_state 37 = .ok (.goto 18, 3) := by decide +kernel
theorem dX7_state_40 : decode cX7_state 40 = .ok (.aload_n 0, 1) := by decide +kernel
theorem dX7_state_41 : decode cX7_state 41 = .ok (.iload_n 2, 1) := by decide +kernel
theorem dX7_state_42 : decode cX7_state 42 = .ok (.iconst 5, 1) := by decide +kernel
theorem dX7_state_43 : decode cX7_state 43 = .ok (.invokevirtual 155, 3) := by decide +kernel
theorem dX7_state_46 : decode cX7_state 46 = .ok (.iconst 1, 1) := by decide +kernel
theorem dX7_state_47 : decode cX7_state 47 = .ok (.if_icmp .ne 7, 3) := by decide +kernel
theorem dX7_state_50 : decode cX7_state 50 = .ok (.iconst 4, 1) := by decide +kernel
theorem dX7_state_51 : decode cX7_state 51 = .ok (.goto 4, 3) := by decide +kernel
theorem dX7_state_54 : decode cX7_state 54 = .ok (.iconst 3, 1) := by decide +kernel
theorem dX7_state_55 : decode cX7_state 55 = .ok (.ireturn, 1) := by decide +kernel
theorem dX7_idle_0 : decode cX7_idle 0 = .ok (.aload_n 0, 1) := by decide +kernel
theorem dX7_idle_1 : decode cX7_idle 1 = .ok (.iconst 0, 1) := by decide +kernel
theorem dX7_idle_2 : decode cX7_idle 2 = .ok (.putfield 107, 3) := by decide +kernel
theorem dX7_idle_5 : decode cX7_idle 5 = .ok (.iload_n 1, 1) := by decide +kernel
theorem dX7_idle_6 : decode cX7_idle 6 = .ok (.invokestatic 319, 3) := by decide +kernel
theorem dX7_idle_9 : decode cX7_idle 9 = .ok (.ifCond .ne 5, 3) := by decide +kernel
theorem dX7_idle_12 : decode cX7_idle 12 = .ok (.iconst (-1), 1) := by decide +kernel
theorem dX7_idle_13 : decode cX7_idle 13 = .ok (.ireturn, 1) := by decide +kernel
theorem dX7_idle_14 : decode cX7_idle 14 = .ok (.aload_n 0, 1) := by decide +kernel
theorem dX7_idle_15 : decode cX7_idle 15 = .ok (.iload_n 1, 1) := by decide +kernel
theorem dX7_idle_16 : decode cX7_idle 16 = .ok (.invokevirtual 322, 3) := by decide +kernel
theorem dX7_idle_19 : decode cX7_idle 19 = .ok (.istore_n 2, 1) := by decide +kernel
theorem dX7_idle_20 : decode cX7_idle 20 = .ok (.iconst 0, 1) := by decide +kernel
theorem dX7_idle_21 : decode cX7_idle 21 = .ok (.istore_n 3, 1) := by decide +kernel
theorem dX7_idle_22 : decode cX7_idle 22 = .ok (.iconst 0, 1) := by decide +kernel
theorem dX7_idle_23 : decode cX7_idle 23 = .ok (.istore 4, 2) := by decide +kernel
theorem dX7_idle_25 : decode cX7_idle 25 = .ok (.iconst 0, 1) := by decide +kernel
theorem dX7_idle_26 : decode cX7_idle 26 = .ok (.istore 5, 2) := by decide +kernel
theorem dX7_idle_28 : decode cX7_idle 28 = .ok (.iload 5, 2) := by decide +kernel
theorem dX7_idle_30 : decode cX7_idle 30 = .ok (.aload_n 0, 1) := by decide +kernel
theorem dX7_idle_31 : decode cX7_idle 31 = .ok (.getfield 127, 3) := by decide +kernel
theorem dX7_idle_34 : decode cX7_idle 34 = .ok (.if_icmp .ge 67, 3) := by decide +kernel
theorem dX7_idle_37 : decode cX7_idle 37 = .ok (.iload_n 3, 1) := by decide +kernel
theorem dX7_idle_38 : decode cX7_idle 38 = .ok (.iload_n 2, 1) := by decide +kernel
theorem dX7_idle_39 : decode cX7_idle 39 = .ok (.ifCond .eq 19, 3) := by decide +kernel
theorem dX7_idle_42 : decode cX7_idle 42 = .ok (.aload_n 0, 1) := by decide +kernel
theorem dX7_idle_43 : decode cX7_idle 43 = .ok (.iload 5, 2) := by decide +kernel
theorem dX7_idle_45 : decode cX7_idle 45 = .ok (.invokevirtual 331, 3) := by decide +kernel
theorem dX7_idle_48 : decode cX7_idle 48 = .ok (.ifCond .ne 10, 3) := by decide +kernel
theorem dX7_idle_51 : decode cX7_idle 51 = .ok (.iconst 1, 1) := by decide +kernel
theorem dX7_idle_52 : decode cX7_idle 52 = .ok (.iload 5, 2) := by decide +kernel
theorem dX7_idle_54 : decode cX7_idle 54 = .ok (.ishl, 1) := by decide +kernel
theorem dX7_idle_55 : decode cX7_idle 55 = .ok (.goto 4, 3) := by decide +kernel
theorem dX7_idle_58 : decode cX7_idle 58 = .ok (.iconst 0, 1) := by decide +kernel
theorem dX7_idle_59 : decode cX7_idle 59 = .ok (.ior, 1) := by decide +kernel
theorem dX7_idle_60 : decode cX7_idle 60 = .ok (.istore_n 3, 1) := by decide +kernel
theorem dX7_idle_61 : decode cX7_idle 61 = .ok (.iload 4, 2) := by decide +kernel
theorem dX7_idle_63 : decode cX7_idle 63 = .ok (.aload_n 0, 1) := by decide +kernel
theorem dX7_idle_64 : decode cX7_idle 64 = .ok (.getfield 31, 3) := by decide +kernel
theorem dX7_idle_67 : decode cX7_idle 67 = .ok (.iload 5, 2) := by decide +kernel
theorem dX7_idle_69 : decode cX7_idle 69 = .ok (.iaload, 1) := by decide +kernel
theorem dX7_idle_70 : decode cX7_idle 70 = .ok (.iconst 3, 1) := by decide +kernel
theorem dX7_idle_71 : decode cX7_idle 71 = .ok (.if_icmp .ne 20, 3) := by decide +kernel
theorem dX7_idle_74 : decode cX7_idle 74 = .ok (.aload_n 0, 1) := by decide +kernel
theorem dX7_idle_75 : decode cX7_idle 75 = .ok (.iload 5, 2) := by decide +kernel
theorem dX7_idle_77 : decode cX7_idle 77 = .ok (.iconst 5, 1) := by decide +kernel
theorem dX7_idle_78 : decode cX7_idle 78 = .ok (.invokevirtual 155, 3) := by decide +kernel
theorem dX7_idle_81 : decode cX7_idle 81 = .ok (.ifCond .ne 10, 3) := by decide +kernel
theorem dX7_idle_84 : decode cX7_idle 84 = .ok (.iconst 1, 1) := by decide +kernel
theorem dX7_idle_85 : decode cX7_idle 85 = .ok (.iload 5, 2) := by decide +kernel
theorem dX7_idle_87 : decode cX7_idle 87 = .ok (.ishl, 1) := by decide +kernel
theorem dX7_idle_88 : decode cX7_idle 88 = .ok (.goto 4, 3) := by decide +kernel
theorem dX7_idle_91 : decode cX7_idle 91 = .ok (.iconst 0, 1) := by decide +kernel
theorem dX7_idle_92 : decode cX7_idle 92 = .ok (.ior, 1) := by decide +kernel
theorem dX7_idle_93 : decode cX7_idle 93 = .ok (.istore 4, 2) := by decide +kernel
theorem dX7_idle_95 : decode cX7_idle 95 = .ok (.iinc 5 1, 3) := by decide +kernel
theorem dX7_idle_98 : decode cX7_idle 98 = .ok (.goto (-70), 3) := by decide +kernel
theorem dX7_idle_101 : decode cX7_idle 101 = .ok (.aload_n 0, 1) := by decide +kernel
theorem dX7_idle_102 : decode cX7_idle 102 = .ok (.iconst 0, 1) := by decide +kernel
theorem dX7_idle_103 : decode cX7_idle 103 = .ok (.putfield 110, 3) := by decide +kernel
theorem dX7_idle_106 : decode cX7_idle 106 = .ok (.aload_n 0, 1) := by decide +kernel
theorem dX7_idle_107 : decode cX7_idle 107 = .ok (.iload 4, 2) := by decide +kernel
theorem dX7_idle_109 : decode cX7_idle 109 = .ok (.i2l, 1) := by decide +kernel
theorem dX7_idle_110 : decode cX7_idle 110 = .ok (.invokevirtual 123, 3) := by decide +kernel
theorem dX7_idle_113 : decode cX7_idle 113 = .ok (.iload_n 3, 1) := by decide +kernel
theorem dX7_idle_114 : decode cX7_idle 114 = .ok (.ireturn, 1) := by decide +kernel
theorem dX7_hardest_0 : decode cX7_hardest 0 = .ok (.aload_n 0, 1) := by decide +kernel
theorem dX7_hardest_1 : decode cX7_hardest 1 = .ok (.iconst 0, 1) := by decide +kernel
theorem dX7_hardest_2 : decode cX7_hardest 2 = .ok (.putfield 107, 3) := by decide +kernel
theorem dX7_hardest_5 : decode cX7_hardest 5 = .ok (.aload_n 0, 1) := by decide +kernel
theorem dX7_hardest_6 : decode cX7_hardest 6 = .ok (.getfield 127, 3) := by decide +kernel
theorem dX7_hardest_9 : decode cX7_hardest 9 = .ok (.ifCond .eq 10, 3) := by decide +kernel
theorem dX7_hardest_12 : decode cX7_hardest 12 = .ok (.iload_n 1, 1) := by decide +kernel
theorem dX7_hardest_13 : decode cX7_hardest 13 = .ok (.invokestatic 319, 3) := by decide +kernel
theorem dX7_hardest_16 : decode cX7_hardest 16 = .ok (.ifCond .ne 5, 3) := by decide +kernel
theorem dX7_hardest_19 : decode cX7_hardest 19 = .ok (.iconst (-1), 1) := by decide +kernel
theorem dX7_hardest_20 : decode cX7_hardest 20 = .ok (.ireturn, 1) := by decide +kernel
theorem dX7_hardest_21 : decode cX7_hardest 21 = .ok (.aload_n 0, 1) := by decide +kernel
theorem dX7_hardest_22 : decode cX7_hardest 22 = .ok (.iload_n 1, 1) := by decide +kernel
theorem dX7_hardest_23 : decode cX7_hardest 23 = .ok (.invokevirtual 322, 3) := by decide +kernel
theorem dX7_hardest_26 : decode cX7_hardest 26 = .ok (.ifCond .ne 6, 3) := by decide +kernel
theorem dX7_hardest_29 : decode cX7_hardest 29 = .ok (.bipush (-2), 2) := by decide +kernel
theorem dX7_hardest_31 : decode cX7_hardest 31 = .ok (.ireturn, 1) := by decide +kernel
theorem dX7_hardest_32 : decode cX7_hardest 32 = .ok (.iconst 0, 1) := by decide +kernel
theorem dX7_hardest_33 : decode cX7_hardest 33 = .ok (.istore_n 2, 1) := by decide +kernel
theorem dX7_hardest_34 : decode cX7_hardest 34 = .ok (.iconst 0, 1) := by decide +kernel
theorem dX7_hardest_35 : decode cX7_hardest 35 = .ok (.istore_n 3, 1) := by decide +kernel
theorem dX7_hardest_36 : decode cX7_hardest 36 = .ok (.iconst 0, 1) := by decide +kernel
theorem dX7_hardest_37 : decode cX7_hardest 37 = .ok (.istore 4, 2) := by decide +kernel
theorem dX7_hardest_39 : decode cX7_hardest 39 = .ok (.iload 4, 2) := by decide +kernel
theorem dX7_hardest_41 : decode cX7_hardest 41 = .ok (.aload_n 0, 1) := by decide +kernel
theorem dX7_hardest_42 : decode cX7_hardest 42 = .ok (.getfield 127, 3) := by decide +kernel
theorem dX7_hardest_45 : decode cX7_hardest 45 = .ok (.if_icmp .ge 46, 3) := by decide +kernel
theorem dX7_hardest_48 : decode cX7_hardest 48 = .ok (.aload_n 0, 1) := by decide +kernel
theorem dX7_hardest_49 : decode cX7_hardest 49 = .ok (.iload 4, 2) := by decide +kernel
theorem dX7_hardest_51 : decode cX7_hardest 51 = .ok (.invokevirtual 286, 3) := by decide +kernel
theorem dX7_hardest_54 : decode cX7_hardest 54 = .ok (.aload_n 0, 1) := by decide +kernel
theorem dX7_hardest_55 : decode cX7_hardest 55 = .ok (.iload_n 2, 1) := by decide +kernel
theorem dX7_hardest_56 : decode cX7_hardest 56 = .ok (.invokevirtual 286, 3) := by decide +kernel
theorem dX7_hardest_59 : decode cX7_hardest 59 = .ok (.lcmp, 1) := by decide +kernel
theorem dX7_hardest_60 : decode cX7_hardest 60 = .ok (.ifCond .le 6, 3) := by decide +kernel
theorem dX7_hardest_63 : decode cX7_hardest 63 = .ok (.iload 4, 2) := by decide +kernel
theorem dX7_hardest_65 : decode cX7_hardest 65 = .ok (.istore_n 2, 1) := by decide +kernel
theorem dX7_hardest_66 : decode cX7_hardest 66 = .ok (.iload_n 3, 1) := by decide +kernel
theorem dX7_hardest_67 : decode cX7_hardest 67 = .ok (.aload_n 0, 1) := by decide +kernel
theorem dX7_hardest_68 : decode cX7_hardest 68 = .ok (.iload 4, 2) := by decide +kernel
theorem dX7_hardest_70 : decode cX7_hardest 70 = .ok (.invokevirtual 286, 3) := by decide +kernel
theorem dX7_hardest_73 : decode cX7_hardest 73 = .ok (.lconst 0, 1) := by decide +kernel
theorem dX7_hardest_74 : decode cX7_hardest 74 = .ok (.lcmp, 1) := by decide +kernel
theorem dX7_hardest_75 : decode cX7_hardest 75 = .ok (.ifCond .le 7, 3) := by decide +kernel
theorem dX7_hardest_78 : decode cX7_hardest 78 = .ok (.iconst 1, 1) := by decide +kernel
theorem dX7_hardest_79 : decode cX7_hardest 79 = .ok (.goto 4, 3) := by decide +kernel
theorem dX7_hardest_82 : decode cX7_hardest 82 = .ok (.iconst 0, 1) := by decide +kernel
theorem dX7_hardest_83 : decode cX7_hardest 83 = .ok (.iadd, 1) := by decide +kernel
theorem dX7_hardest_84 : decode cX7_hardest 84 = .ok (.istore_n 3, 1) := by decide +kernel
theorem dX7_hardest_85 : decode cX7_hardest 85 = .ok (.iinc 4 1, 3) := by decide +kernel
theorem dX7_hardest_88 : decode cX7_hardest 88 = .ok (.goto (-49), 3) := by decide +kernel
theorem dX7_hardest_91 : decode cX7_hardest 91 = .ok (.aload_n 0, 1) := by decide +kernel
theorem dX7_hardest_92 : decode cX7_hardest 92 = .ok (.iconst 0, 1) := by decide +kernel
theorem dX7_hardest_93 : decode cX7_hardest 93 = .ok (.putfield 110, 3) := by decide +kernel
theorem dX7_hardest_96 : decode cX7_hardest 96 = .ok (.aload_n 0, 1) := by decide +kernel
theorem dX7_hardest_97 : decode cX7_hardest 97 = .ok (.iload_n 1, 1) := by decide +kernel
theorem dX7_hardest_98 : decode cX7_hardest 98 = .ok (.ifCond .ne 7, 3) := by decide +kernel
theorem dX7_hardest_101 : decode cX7_hardest 101 = .ok (.lconst 0, 1) := by decide +kernel
theorem dX7_hardest_102 : decode cX7_hardest 102 = .ok (.goto 20, 3) := by decide +kernel
theorem dX7_hardest_105 : decode cX7_hardest 105 = .ok (.ldc2_w 334, 3) := by decide +kernel
theorem dX7_hardest_108 : decode cX7_hardest 108 = .ok (.aload_n 0, 1) := by decide +kernel
theorem dX7_hardest_109 : decode cX7_hardest 109 = .ok (.iload_n 2, 1) := by decide +kernel
theorem dX7_hardest_110 : decode cX7_hardest 110 = .ok (.invokevirtual 286, 3) := by decide +kernel
theorem dX7_hardest_113 : decode cX7_hardest 113 = .ok (.lmul, 1) := by decide +kernel
theorem dX7_hardest_114 : decode cX7_hardest 114 = .ok (.iload_n 1, 1) := by decide +kernel
theorem dX7_hardest_115 : decode cX7_hardest 115 = .ok (.i2l, 1) := by decide +kernel
theorem dX7_hardest_116 : decode cX7_hardest 116 = .ok (.aload_n 0, 1) := by decide +kernel
theorem dX7_hardest_117 : decode cX7_hardest 117 = .ok (.invokevirtual 282, 3) := by decide +kernel
theorem dX7_hardest_120 : decode cX7_hardest 120 = .ok (.lmul, 1) := by decide +kernel
theorem dX7_hardest_121 : decode cX7_hardest 121 = .ok (.ldiv, 1) := by decide +kernel
theorem dX7_hardest_122 : decode cX7_hardest 122 = .ok (.invokevirtual 123, 3) := by decide +kernel
theorem dX7_hardest_125 : decode cX7_hardest 125 = .ok (.aload_n 0, 1) := by decide +kernel
theorem dX7_hardest_126 : decode cX7_hardest 126 = .ok (.iload_n 3, 1) := by decide +kernel
theorem dX7_hardest_127 : decode cX7_hardest 127 = .ok (.i2l, 1) := by decide +kernel
theorem dX7_hardest_128 : decode cX7_hardest 128 = .ok (.invokevirtual 123, 3) := by decide +kernel
theorem dX7_hardest_131 : decode cX7_hardest 131 = .ok (.iload_n 2, 1) := by decide +kernel
theorem dX7_hardest_132 : decode cX7_hardest 132 = .ok (.ireturn, 1) := by decide +kernel
theorem dX7_margin_0 : decode cX7_margin 0 = .ok (.aload_n 0, 1) := by decide +kernel
theorem dX7_margin_1 : decode cX7_margin 1 = .ok (.iconst 0, 1) := by decide +kernel
theorem dX7_margin_2 : decode cX7_margin 2 = .ok (.putfield 107, 3) := by decide +kernel
theorem dX7_margin_5 : decode cX7_margin 5 = .ok (.aload_n 0, 1) := by decide +kernel
theorem dX7_margin_6 : decode cX7_margin 6 = .ok (.getfield 127, 3) := by decide +kernel
theorem dX7_margin_9 : decode cX7_margin 9 = .ok (.ifCond .eq 10, 3) := by decide +kernel
theorem dX7_margin_12 : decode cX7_margin 12 = .ok (.iload_n 1, 1) := by decide +kernel
theorem dX7_margin_13 : decode cX7_margin 13 = .ok (.invokestatic 319, 3) := by decide +kernel
theorem dX7_margin_16 : decode cX7_margin 16 = .ok (.ifCond .ne 5, 3) := by decide +kernel
theorem dX7_margin_19 : decode cX7_margin 19 = .ok (.iconst (-1), 1) := by decide +kernel
theorem dX7_margin_20 : decode cX7_margin 20 = .ok (.ireturn, 1) := by decide +kernel
theorem dX7_margin_21 : decode cX7_margin 21 = .ok (.aload_n 0, 1) := by decide +kernel
theorem dX7_margin_22 : decode cX7_margin 22 = .ok (.iload_n 1, 1) := by decide +kernel
theorem dX7_margin_23 : decode cX7_margin 23 = .ok (.invokevirtual 322, 3) := by decide +kernel
theorem dX7_margin_26 : decode cX7_margin 26 = .ok (.ifCond .ne 6, 3) := by decide +kernel
theorem dX7_margin_29 : decode cX7_margin 29 = .ok (.bipush (-2), 2) := by decide +kernel
theorem dX7_margin_31 : decode cX7_margin 31 = .ok (.ireturn, 1) := by decide +kernel
theorem dX7_margin_32 : decode cX7_margin 32 = .ok (.aload_n 0, 1) := by decide +kernel
theorem dX7_margin_33 : decode cX7_margin 33 = .ok (.invokevirtual 336, 3) := by decide +kernel
theorem dX7_margin_36 : decode cX7_margin 36 = .ok (.iconst 0, 1) := by decide +kernel
theorem dX7_margin_37 : decode cX7_margin 37 = .ok (.istore_n 2, 1) := by decide +kernel
theorem dX7_margin_38 : decode cX7_margin 38 = .ok (.aload_n 0, 1) := by decide +kernel
theorem dX7_margin_39 : decode cX7_margin 39 = .ok (.getfield 61, 3) := by decide +kernel
theorem dX7_margin_42 : decode cX7_margin 42 = .ok (.iload_n 2, 1) := by decide +kernel
theorem dX7_margin_43 : decode cX7_margin 43 = .ok (.laload, 1) := by decide +kernel
theorem dX7_margin_44 : decode cX7_margin 44 = .ok (.iload_n 1, 1) := by decide +kernel
theorem dX7_margin_45 : decode cX7_margin 45 = .ok (.i2l, 1) := by decide +kernel
theorem dX7_margin_46 : decode cX7_margin 46 = .ok (.aload_n 0, 1) := by decide +kernel
theorem dX7_margin_47 : decode cX7_margin 47 = .ok (.getfield 64, 3) := by decide +kernel
theorem dX7_margin_50 : decode cX7_margin 50 = .ok (.iload_n 2, 1) := by decide +kernel
theorem dX7_margin_51 : decode cX7_margin 51 = .ok (.laload, 1) := by decide +kernel
theorem dX7_margin_52 : decode cX7_margin 52 = .ok (.lmul, 1) := by decide +kernel
theorem dX7_margin_53 : decode cX7_margin 53 = .ok (.lcmp, 1) := by decide +kernel
theorem dX7_margin_54 : decode cX7_margin 54 = .ok (.ifCond .gt 9, 3) := by decide +kernel
theorem dX7_margin_57 : decode cX7_margin 57 = .ok (.iinc 2 1, 3) := by decide +kernel
theorem dX7_margin_60 : decode cX7_margin 60 = .ok (.goto (-22), 3) := by decide +kernel
theorem dX7_margin_63 : decode cX7_margin 63 = .ok (.aload_n 0, 1) := by decide +kernel
theorem dX7_margin_64 : decode cX7_margin 64 = .ok (.iconst 0, 1) := by decide +kernel
theorem dX7_margin_65 : decode cX7_margin 65 = .ok (.putfield 110, 3) := by decide +kernel
theorem dX7_margin_68 : decode cX7_margin 68 = .ok (.aload_n 0, 1) := by decide +kernel
theorem dX7_margin_69 : decode cX7_margin 69 = .ok (.aload_n 0, 1) := by decide +kernel
theorem dX7_margin_70 : decode cX7_margin 70 = .ok (.getfield 61, 3) := by decide +kernel
theorem dX7_margin_73 : decode cX7_margin 73 = .ok (.iload_n 2, 1) := by decide +kernel
theorem dX7_margin_74 : decode cX7_margin 74 = .ok (.laload, 1) := by decide +kernel
theorem dX7_margin_75 : decode cX7_margin 75 = .ok (.iload_n 1, 1) := by decide +kernel
theorem dX7_margin_76 : decode cX7_margin 76 = .ok (.i2l, 1) := by decide +kernel
theorem dX7_margin_77 : decode cX7_margin 77 = .ok (.aload_n 0, 1) := by decide +kernel
theorem dX7_margin_78 : decode cX7_margin 78 = .ok (.getfield 64, 3) := by decide +kernel
theorem dX7_margin_81 : decode cX7_margin 81 = .ok (.iload_n 2, 1) := by decide +kernel
theorem dX7_margin_82 : decode cX7_margin 82 = .ok (.laload, 1) := by decide +kernel
theorem dX7_margin_83 : decode cX7_margin 83 = .ok (.lmul, 1) := by decide +kernel
theorem dX7_margin_84 : decode cX7_margin 84 = .ok (.lsub, 1) := by decide +kernel
theorem dX7_margin_85 : decode cX7_margin 85 = .ok (.aload_n 0, 1) := by decide +kernel
theorem dX7_margin_86 : decode cX7_margin 86 = .ok (.getfield 64, 3) := by decide +kernel
theorem dX7_margin_89 : decode cX7_margin 89 = .ok (.iload_n 2, 1) := by decide +kernel
theorem dX7_margin_90 : decode cX7_margin 90 = .ok (.laload, 1) := by decide +kernel
theorem dX7_margin_91 : decode cX7_margin 91 = .ok (.invokevirtual 325, 3) := by decide +kernel
theorem dX7_margin_94 : decode cX7_margin 94 = .ok (.aload_n 0, 1) := by decide +kernel
theorem dX7_margin_95 : decode cX7_margin 95 = .ok (.aload_n 0, 1) := by decide +kernel
theorem dX7_margin_96 : decode cX7_margin 96 = .ok (.getfield 55, 3) := by decide +kernel
theorem dX7_margin_99 : decode cX7_margin 99 = .ok (.iload_n 2, 1) := by decide +kernel
theorem dX7_margin_100 : decode cX7_margin 100 = .ok (.iaload, 1) := by decide +kernel
theorem dX7_margin_101 : decode cX7_margin 101 = .ok (.i2l, 1) := by decide +kernel
theorem dX7_margin_102 : decode cX7_margin 102 = .ok (.invokevirtual 123, 3) := by decide +kernel
theorem dX7_margin_105 : decode cX7_margin 105 = .ok (.aload_n 0, 1) := by decide +kernel
theorem dX7_margin_106 : decode cX7_margin 106 = .ok (.aload_n 0, 1) := by decide +kernel
theorem dX7_margin_107 : decode cX7_margin 107 = .ok (.getfield 58, 3) := by decide +kernel
theorem dX7_margin_110 : decode cX7_margin 110 = .ok (.iload_n 2, 1) := by decide +kernel
theorem dX7_margin_111 : decode cX7_margin 111 = .ok (.iaload, 1) := by decide +kernel
theorem dX7_margin_112 : decode cX7_margin 112 = .ok (.i2l, 1) := by decide +kernel
theorem dX7_margin_113 : decode cX7_margin 113 = .ok (.invokevirtual 123, 3) := by decide +kernel
theorem dX7_margin_116 : decode cX7_margin 116 = .ok (.iconst 0, 1) := by decide +kernel
theorem dX7_margin_117 : decode cX7_margin 117 = .ok (.ireturn, 1) := by decide +kernel
theorem dX7_square_0 : decode cX7_square 0 = .ok (.lload_n 1, 1) := by decide +kernel
theorem dX7_square_1 : decode cX7_square 1 = .ok (.lload_n 1, 1) := by decide +kernel
theorem dX7_square_2 : decode cX7_square 2 = .ok (.lmul, 1) := by decide +kernel
theorem dX7_square_3 : decode cX7_square 3 = .ok (.lreturn, 1) := by decide +kernel
theorem dX7_work_0 : decode cX7_work 0 = .ok (.aload_n 0, 1) := by decide +kernel
theorem dX7_work_1 : decode cX7_work 1 = .ok (.iconst 0, 1) := by decide +kernel
theorem dX7_work_2 : decode cX7_work 2 = .ok (.putfield 107, 3) := by decide +kernel
theorem dX7_work_5 : decode cX7_work 5 = .ok (.aload_n 0, 1) := by decide +kernel
theorem dX7_work_6 : decode cX7_work 6 = .ok (.getfield 127, 3) := by decide +kernel
theorem dX7_work_9 : decode cX7_work 9 = .ok (.ifCond .eq 10, 3) := by decide +kernel
theorem dX7_work_12 : decode cX7_work 12 = .ok (.iload_n 1, 1) := by decide +kernel
theorem dX7_work_13 : decode cX7_work 13 = .ok (.invokestatic 319, 3) := by decide +kernel
theorem dX7_work_16 : decode cX7_work 16 = .ok (.ifCond .ne 5, 3) := by decide +kernel
theorem dX7_work_19 : decode cX7_work 19 = .ok (.iconst (-1), 1) := by decide +kernel
theorem dX7_work_20 : decode cX7_work 20 = .ok (.ireturn, 1) := by decide +kernel
theorem dX7_work_21 : decode cX7_work 21 = .ok (.aload_n 0, 1) := by decide +kernel
theorem dX7_work_22 : decode cX7_work 22 = .ok (.iload_n 1, 1) := by decide +kernel
theorem dX7_work_23 : decode cX7_work 23 = .ok (.invokevirtual 322, 3) := by decide +kernel
theorem dX7_work_26 : decode cX7_work 26 = .ok (.ifCond .ne 6, 3) := by decide +kernel
theorem dX7_work_29 : decode cX7_work 29 = .ok (.bipush (-2), 2) := by decide +kernel
theorem dX7_work_31 : decode cX7_work 31 = .ok (.ireturn, 1) := by decide +kernel
theorem dX7_work_32 : decode cX7_work 32 = .ok (.aload_n 0, 1) := by decide +kernel
theorem dX7_work_33 : decode cX7_work 33 = .ok (.invokevirtual 282, 3) := by decide +kernel
theorem dX7_work_36 : decode cX7_work 36 = .ok (.lstore_n 2, 1) := by decide +kernel
theorem dX7_work_37 : decode cX7_work 37 = .ok (.lconst 0, 1) := by decide +kernel
theorem dX7_work_38 : decode cX7_work 38 = .ok (.lstore 4, 2) := by decide +kernel
theorem dX7_work_40 : decode cX7_work 40 = .ok (.lconst 0, 1) := by decide +kernel
theorem dX7_work_41 : decode cX7_work 41 = .ok (.lstore 6, 2) := by decide +kernel
theorem dX7_work_43 : decode cX7_work 43 = .ok (.iconst 0, 1) := by decide +kernel
theorem dX7_work_44 : decode cX7_work 44 = .ok (.istore 8, 2) := by decide +kernel
theorem dX7_work_46 : decode cX7_work 46 = .ok (.iload 8, 2) := by decide +kernel
theorem dX7_work_48 : decode cX7_work 48 = .ok (.aload_n 0, 1) := by decide +kernel
theorem dX7_work_49 : decode cX7_work 49 = .ok (.getfield 127, 3) := by decide +kernel
theorem dX7_work_52 : decode cX7_work 52 = .ok (.if_icmp .ge 165, 3) := by decide +kernel
theorem dX7_work_55 : decode cX7_work 55 = .ok (.aload_n 0, 1) := by decide +kernel
theorem dX7_work_56 : decode cX7_work 56 = .ok (.iload 8, 2) := by decide +kernel
theorem dX7_work_58 : decode cX7_work 58 = .ok (.invokevirtual 286, 3) := by decide +kernel
theorem dX7_work_61 : decode cX7_work 61 = .ok (.lstore 9, 2) := by decide +kernel
theorem dX7_work_63 : decode cX7_work 63 = .ok (.aload_n 0, 1) := by decide +kernel
theorem dX7_work_64 : decode cX7_work 64 = .ok (.iload 8, 2) := by decide +kernel
theorem dX7_work_66 : decode cX7_work 66 = .ok (.iconst 2, 1) := by decide +kernel
theorem dX7_work_67 : decode cX7_work 67 = .ok (.invokevirtual 155, 3) := by decide +kernel
theorem dX7_work_70 : decode cX7_work 70 = .ok (.i2l, 1) := by decide +kernel
theorem dX7_work_71 : decode cX7_work 71 = .ok (.lload_n 2, 1) := by decide +kernel
theorem dX7_work_72 : decode cX7_work 72 = .ok (.lmul, 1) := by decide +kernel
theorem dX7_work_73 : decode cX7_work 73 = .ok (.lstore 11, 2) := by decide +kernel
theorem dX7_work_75 : decode cX7_work 75 = .ok (.lload 4, 2) := by decide +kernel
theorem dX7_work_77 : decode cX7_work 77 = .ok (.lload 9, 2) := by decide +kernel
theorem dX7_work_79 : decode cX7_work 79 = .ok (.lload 11, 2) := by decide +kernel
theorem dX7_work_81 : decode cX7_work 81 = .ok (.lcmp, 1) := by decide +kernel
theorem dX7_work_82 : decode cX7_work 82 = .ok (.ifCond .le 44, 3) := by decide +kernel
theorem dX7_work_85 : decode cX7_work 85 = .ok (.aload_n 0, 1) := by decide +kernel
theorem dX7_work_86 : decode cX7_work 86 = .ok (.iload 8, 2) := by decide +kernel
theorem dX7_work_88 : decode cX7_work 88 = .ok (.iconst 0, 1) := by decide +kernel
theorem dX7_work_89 : decode cX7_work 89 = .ok (.invokevirtual 155, 3) := by decide +kernel
theorem dX7_work_92 : decode cX7_work 92 = .ok (.i2l, 1) := by decide +kernel
theorem dX7_work_93 : decode cX7_work 93 = .ok (.aload_n 0, 1) := by decide +kernel
theorem dX7_work_94 : decode cX7_work 94 = .ok (.lload 11, 2) := by decide +kernel
theorem dX7_work_96 : decode cX7_work 96 = .ok (.invokevirtual 339, 3) := by decide +kernel
theorem dX7_work_99 : decode cX7_work 99 = .ok (.lmul, 1) := by decide +kernel
theorem dX7_work_100 : decode cX7_work 100 = .ok (.aload_n 0, 1) := by decide +kernel
theorem dX7_work_101 : decode cX7_work 101 = .ok (.iload 8, 2) := by decide +kernel
theorem dX7_work_103 : decode cX7_work 103 = .ok (.iconst 3, 1) := by decide +kernel
theorem dX7_work_104 : decode cX7_work 104 = .ok (.invokevirtual 155, 3) := by decide +kernel
theorem dX7_work_107 : decode cX7_work 107 = .ok (.i2l, 1) := by decide +kernel
theorem dX7_work_108 : decode cX7_work 108 = .ok (.aload_n 0, 1) := by decide +kernel
theorem dX7_work_109 : decode cX7_work 109 = .ok (.lload 9, 2) := by decide +kernel
theorem dX7_work_111 : decode cX7_work 111 = .ok (.invokevirtual 339, 3) := by decide +kernel
theorem dX7_work_114 : decode cX7_work 114 = .ok (.aload_n 0, 1) := by decide +kernel
theorem dX7_work_115 : decode cX7_work 115 = .ok (.lload 11, 2) := by decide +kernel
theorem dX7_work_117 : decode cX7_work 117 = .ok (.invokevirtual 339, 3) := by decide +kernel
theorem dX7_work_120 : decode cX7_work 120 = .ok (.lsub, 1) := by decide +kernel
theorem dX7_work_121 : decode cX7_work 121 = .ok (.lmul, 1) := by decide +kernel
theorem dX7_work_122 : decode cX7_work 122 = .ok (.ladd, 1) := by decide +kernel
theorem dX7_work_123 : decode cX7_work 123 = .ok (.goto 18, 3) := by decide +kernel
theorem dX7_work_126 : decode cX7_work 126 = .ok (.aload_n 0, 1) := by decide +kernel
theorem dX7_work_127 : decode cX7_work 127 = .ok (.iload 8, 2) := by decide +kernel
theorem dX7_work_129 : decode cX7_work 129 = .ok (.iconst 0, 1) := by decide +kernel
theorem dX7_work_130 : decode cX7_work 130 = .ok (.invokevirtual 155, 3) := by decide +kernel
theorem dX7_work_133 : decode cX7_work 133 = .ok (.i2l, 1) := by decide +kernel
theorem dX7_work_134 : decode cX7_work 134 = .ok (.aload_n 0, 1) := by decide +kernel
theorem dX7_work_135 : decode cX7_work 135 = .ok (.lload 9, 2) := by decide +kernel
theorem dX7_work_137 : decode cX7_work 137 = .ok (.invokevirtual 339, 3) := by decide +kernel
theorem dX7_work_140 : decode cX7_work 140 = .ok (.lmul, 1) := by decide +kernel
theorem dX7_work_141 : decode cX7_work 141 = .ok (.ladd, 1) := by decide +kernel
theorem dX7_work_142 : decode cX7_work 142 = .ok (.lstore 4, 2) := by decide +kernel
theorem dX7_work_144 : decode cX7_work 144 = .ok (.iload 8, 2) := by decide +kernel
theorem dX7_work_146 : decode cX7_work 146 = .ok (.aload_n 0, 1) := by decide +kernel
theorem dX7_work_147 : decode cX7_work 147 = .ok (.getfield 127, 3) := by decide +kernel
theorem dX7_work_150 : decode cX7_work 150 = .ok (.iconst 1, 1) := by decide +kernel
theorem dX7_work_151 : decode cX7_work 151 = .ok (.isub, 1) := by decide +kernel
theorem dX7_work_152 : decode cX7_work 152 = .ok (.if_icmp .ne 6, 3) := by decide +kernel
theorem dX7_work_155 : decode cX7_work 155 = .ok (.goto 56, 3) := by decide +kernel
theorem dX7_work_158 : decode cX7_work 158 = .ok (.lload 6, 2) := by decide +kernel
theorem dX7_work_160 : decode cX7_work 160 = .ok (.aload_n 0, 1) := by decide +kernel
theorem dX7_work_161 : decode cX7_work 161 = .ok (.iload 8, 2) := by decide +kernel
theorem dX7_work_163 : decode cX7_work 163 = .ok (.bipush 6, 2) := by decide +kernel
theorem dX7_work_165 : decode cX7_work 165 = .ok (.invokevirtual 155, 3) := by decide +kernel
theorem dX7_work_168 : decode cX7_work 168 = .ok (.i2l, 1) := by decide +kernel
theorem dX7_work_169 : decode cX7_work 169 = .ok (.aload_n 0, 1) := by decide +kernel
theorem dX7_work_170 : decode cX7_work 170 = .ok (.getfield 13, 3) := by decide +kernel
theorem dX7_work_173 : decode cX7_work 173 = .ok (.i2l, 1) := by decide +kernel
theorem dX7_work_174 : decode cX7_work 174 = .ok (.aload_n 0, 1) := by decide +kernel
theorem dX7_work_175 : decode cX7_work 175 = .ok (.iload_n 1, 1) := by decide +kernel
theorem dX7_work_176 : decode cX7_work 176 = .ok (.i2l, 1) := by decide +kernel
theorem dX7_work_177 : decode cX7_work 177 = .ok (.lload_n 2, 1) := by decide +kernel
theorem dX7_work_178 : decode cX7_work 178 = .ok (.lmul, 1) := by decide +kernel
theorem dX7_work_179 : decode cX7_work 179 = .ok (.aload_n 0, 1) := by decide +kernel
theorem dX7_work_180 : decode cX7_work 180 = .ok (.iload 8, 2) := by decide +kernel
theorem dX7_work_182 : decode cX7_work 182 = .ok (.invokevirtual 328, 3) := by decide +kernel
theorem dX7_work_185 : decode cX7_work 185 = .ok (.lsub, 1) := by decide +kernel
theorem dX7_work_186 : decode cX7_work 186 = .ok (.invokevirtual 339, 3) := by decide +kernel
theorem dX7_work_189 : decode cX7_work 189 = .ok (.lmul, 1) := by decide +kernel
theorem dX7_work_190 : decode cX7_work 190 = .ok (.aload_n 0, 1) := by decide +kernel
theorem dX7_work_191 : decode cX7_work 191 = .ok (.getfield 17, 3) := by decide +kernel
theorem dX7_work_194 : decode cX7_work 194 = .ok (.i2l, 1) := by decide +kernel
theorem dX7_work_195 : decode cX7_work 195 = .ok (.aload_n 0, 1) := by decide +kernel
theorem dX7_work_196 : decode cX7_work 196 = .ok (.aload_n 0, 1) := by decide +kernel
theorem dX7_work_197 : decode cX7_work 197 = .ok (.iload 8, 2) := by decide +kernel
theorem dX7_work_199 : decode cX7_work 199 = .ok (.invokevirtual 328, 3) := by decide +kernel
theorem dX7_work_202 : decode cX7_work 202 = .ok (.invokevirtual 339, 3) := by decide +kernel
theorem dX7_work_205 : decode cX7_work 205 = .ok (.lmul, 1) := by decide +kernel
theorem dX7_work_206 : decode cX7_work 206 = .ok (.ladd, 1) := by decide +kernel
theorem dX7_work_207 : decode cX7_work 207 = .ok (.lmul, 1) := by decide +kernel
theorem dX7_work_208 : decode cX7_work 208 = .ok (.ladd, 1) := by decide +kernel
theorem dX7_work_209 : decode cX7_work 209 = .ok (.lstore 6, 2) := by decide +kernel
theorem dX7_work_211 : decode cX7_work 211 = .ok (.iinc 8 1, 3) := by decide +kernel
theorem dX7_work_214 : decode cX7_work 214 = .ok (.goto (-168), 3) := by decide +kernel
theorem dX7_work_217 : decode cX7_work 217 = .ok (.aload_n 0, 1) := by decide +kernel
theorem dX7_work_218 : decode cX7_work 218 = .ok (.iconst 0, 1) := by decide +kernel
theorem dX7_work_219 : decode cX7_work 219 = .ok (.putfield 110, 3) := by decide +kernel
theorem dX7_work_222 : decode cX7_work 222 = .ok (.aload_n 0, 1) := by decide +kernel
theorem dX7_work_223 : decode cX7_work 223 = .ok (.lload 4, 2) := by decide +kernel
theorem dX7_work_225 : decode cX7_work 225 = .ok (.aload_n 0, 1) := by decide +kernel
theorem dX7_work_226 : decode cX7_work 226 = .ok (.lload_n 2, 1) := by decide +kernel
theorem dX7_work_227 : decode cX7_work 227 = .ok (.invokevirtual 339, 3) := by decide +kernel
theorem dX7_work_230 : decode cX7_work 230 = .ok (.invokevirtual 325, 3) := by decide +kernel
theorem dX7_work_233 : decode cX7_work 233 = .ok (.aload_n 0, 1) := by decide +kernel
theorem dX7_work_234 : decode cX7_work 234 = .ok (.lload 6, 2) := by decide +kernel
theorem dX7_work_236 : decode cX7_work 236 = .ok (.aload_n 0, 1) := by decide +kernel
theorem dX7_work_237 : decode cX7_work 237 = .ok (.lload_n 2, 1) := by decide +kernel
theorem dX7_work_238 : decode cX7_work 238 = .ok (.invokevirtual 339, 3) := by decide +kernel
theorem dX7_work_241 : decode cX7_work 241 = .ok (.invokevirtual 325, 3) := by decide +kernel
theorem dX7_work_244 : decode cX7_work 244 = .ok (.iconst 0, 1) := by decide +kernel
theorem dX7_work_245 : decode cX7_work 245 = .ok (.ireturn, 1) := by decide +kernel
theorem dX7_laySets_0 : decode cX7_laySets 0 = .ok (.aload_n 0, 1) := by decide +kernel
theorem dX7_laySets_1 : decode cX7_laySets 1 = .ok (.aload_n 0, 1) := by decide +kernel
theorem dX7_laySets_2 : decode cX7_laySets 2 = .ok (.invokevirtual 282, 3) := by decide +kernel
theorem dX7_laySets_5 : decode cX7_laySets 5 = .ok (.putfield 342, 3) := by decide +kernel
theorem dX7_laySets_8 : decode cX7_laySets 8 = .ok (.iconst 0, 1) := by decide +kernel
theorem dX7_laySets_9 : decode cX7_laySets 9 = .ok (.istore_n 1, 1) := by decide +kernel
theorem dX7_laySets_10 : decode cX7_laySets 10 = .ok (.iload_n 1, 1) := by decide +kernel
theorem dX7_laySets_11 : decode cX7_laySets 11 = .ok (.aload_n 0, 1) := by decide +kernel
theorem dX7_laySets_12 : decode cX7_laySets 12 = .ok (.getfield 127, 3) := by decide +kernel
theorem dX7_laySets_15 : decode cX7_laySets 15 = .ok (.if_icmp .ge 73, 3) := by decide +kernel
theorem dX7_laySets_18 : decode cX7_laySets 18 = .ok (.aload_n 0, 1) := by decide +kernel
theorem dX7_laySets_19 : decode cX7_laySets 19 = .ok (.iload_n 1, 1) := by decide +kernel
theorem dX7_laySets_20 : decode cX7_laySets 20 = .ok (.invokevirtual 286, 3) := by decide +kernel
theorem dX7_laySets_23 : decode cX7_laySets 23 = .ok (.aload_n 0, 1) := by decide +kernel
theorem dX7_laySets_24 : decode cX7_laySets 24 = .ok (.iload_n 1, 1) := by decide +kernel
theorem dX7_laySets_25 : decode cX7_laySets 25 = .ok (.iconst 2, 1) := by decide +kernel
theorem dX7_laySets_26 : decode cX7_laySets 26 = .ok (.invokevirtual 155, 3) := by decide +kernel
theorem dX7_laySets_29 : decode cX7_laySets 29 = .ok (.i2l, 1) := by decide +kernel
theorem dX7_laySets_30 : decode cX7_laySets 30 = .ok (.aload_n 0, 1) := by decide +kernel
theorem dX7_laySets_31 : decode cX7_laySets 31 = .ok (.getfield 342, 3) := by decide +kernel
theorem dX7_laySets_34 : decode cX7_laySets 34 = .ok (.lmul, 1) := by decide +kernel
theorem dX7_laySets_35 : decode cX7_laySets 35 = .ok (.lsub, 1) := by decide +kernel
theorem dX7_laySets_36 : decode cX7_laySets 36 = .ok (.lstore_n 2, 1) := by decide +kernel
theorem dX7_laySets_37 : decode cX7_laySets 37 = .ok (.aload_n 0, 1) := by decide +kernel
theorem dX7_laySets_38 : decode cX7_laySets 38 = .ok (.getfield 89, 3) := by decide +kernel
theorem dX7_laySets_41 : decode cX7_laySets 41 = .ok (.iload_n 1, 1) := by decide +kernel
theorem dX7_laySets_42 : decode cX7_laySets 42 = .ok (.aload_n 0, 1) := by decide +kernel
theorem dX7_laySets_43 : decode cX7_laySets 43 = .ok (.iload_n 1, 1) := by decide +kernel
theorem dX7_laySets_44 : decode cX7_laySets 44 = .ok (.iconst 1, 1) := by decide +kernel
