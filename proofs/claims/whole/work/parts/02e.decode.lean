theorem dX10_factorial_6 : decode cX10_factorial 6 = .ok (.if_icmp .gt 13, 3) := by decide +kernel
theorem dX10_factorial_9 : decode cX10_factorial 9 = .ok (.iload_n 1, 1) := by decide +kernel
theorem dX10_factorial_10 : decode cX10_factorial 10 = .ok (.iload_n 2, 1) := by decide +kernel
theorem dX10_factorial_11 : decode cX10_factorial 11 = .ok (.imul, 1) := by decide +kernel
theorem dX10_factorial_12 : decode cX10_factorial 12 = .ok (.istore_n 1, 1) := by decide +kernel
theorem dX10_factorial_13 : decode cX10_factorial 13 = .ok (.iinc 2 1, 3) := by decide +kernel
theorem dX10_factorial_16 : decode cX10_factorial 16 = .ok (.goto (-12), 3) := by decide +kernel
theorem dX10_factorial_19 : decode cX10_factorial 19 = .ok (.iload_n 1, 1) := by decide +kernel
theorem dX10_factorial_20 : decode cX10_factorial 20 = .ok (.ireturn, 1) := by decide +kernel
theorem dX10_thereBy_0 : decode cX10_thereBy 0 = .ok (.iconst 0, 1) := by decide +kernel
theorem dX10_thereBy_1 : decode cX10_thereBy 1 = .ok (.istore_n 2, 1) := by decide +kernel
theorem dX10_thereBy_2 : decode cX10_thereBy 2 = .ok (.iconst 0, 1) := by decide +kernel
theorem dX10_thereBy_3 : decode cX10_thereBy 3 = .ok (.istore_n 3, 1) := by decide +kernel
theorem dX10_thereBy_4 : decode cX10_thereBy 4 = .ok (.iload_n 3, 1) := by decide +kernel
theorem dX10_thereBy_5 : decode cX10_thereBy 5 = .ok (.aload_n 0, 1) := by decide +kernel
theorem dX10_thereBy_6 : decode cX10_thereBy 6 = .ok (.getfield 87, 3) := by decide +kernel
theorem dX10_thereBy_9 : decode cX10_thereBy 9 = .ok (.if_icmp .ge 35, 3) := by decide +kernel
theorem dX10_thereBy_12 : decode cX10_thereBy 12 = .ok (.iload_n 2, 1) := by decide +kernel
theorem dX10_thereBy_13 : decode cX10_thereBy 13 = .ok (.iload_n 1, 1) := by decide +kernel
theorem dX10_thereBy_14 : decode cX10_thereBy 14 = .ok (.aload_n 0, 1) := by decide +kernel
theorem dX10_thereBy_15 : decode cX10_thereBy 15 = .ok (.getfield 44, 3) := by decide +kernel
theorem dX10_thereBy_18 : decode cX10_thereBy 18 = .ok (.bipush 10, 2) := by decide +kernel
theorem dX10_thereBy_20 : decode cX10_thereBy 20 = .ok (.iload_n 3, 1) := by decide +kernel
theorem dX10_thereBy_21 : decode cX10_thereBy 21 = .ok (.iadd, 1) := by decide +kernel
theorem dX10_thereBy_22 : decode cX10_thereBy 22 = .ok (.iaload, 1) := by decide +kernel
theorem dX10_thereBy_23 : decode cX10_thereBy 23 = .ok (.invokestatic 144, 3) := by decide +kernel
theorem dX10_thereBy_26 : decode cX10_thereBy 26 = .ok (.ifCond .eq 9, 3) := by decide +kernel
theorem dX10_thereBy_29 : decode cX10_thereBy 29 = .ok (.iconst 1, 1) := by decide +kernel
theorem dX10_thereBy_30 : decode cX10_thereBy 30 = .ok (.iload_n 3, 1) := by decide +kernel
theorem dX10_thereBy_31 : decode cX10_thereBy 31 = .ok (.ishl, 1) := by decide +kernel
theorem dX10_thereBy_32 : decode cX10_thereBy 32 = .ok (.goto 4, 3) := by decide +kernel
theorem dX10_thereBy_35 : decode cX10_thereBy 35 = .ok (.iconst 0, 1) := by decide +kernel
theorem dX10_thereBy_36 : decode cX10_thereBy 36 = .ok (.ior, 1) := by decide +kernel
theorem dX10_thereBy_37 : decode cX10_thereBy 37 = .ok (.istore_n 2, 1) := by decide +kernel
theorem dX10_thereBy_38 : decode cX10_thereBy 38 = .ok (.iinc 3 1, 3) := by decide +kernel
theorem dX10_thereBy_41 : decode cX10_thereBy 41 = .ok (.goto (-37), 3) := by decide +kernel
theorem dX10_thereBy_44 : decode cX10_thereBy 44 = .ok (.iconst 0, 1) := by decide +kernel
theorem dX10_thereBy_45 : decode cX10_thereBy 45 = .ok (.istore_n 3, 1) := by decide +kernel
theorem dX10_thereBy_46 : decode cX10_thereBy 46 = .ok (.iload_n 3, 1) := by decide +kernel
theorem dX10_thereBy_47 : decode cX10_thereBy 47 = .ok (.aload_n 0, 1) := by decide +kernel
theorem dX10_thereBy_48 : decode cX10_thereBy 48 = .ok (.getfield 87, 3) := by decide +kernel
theorem dX10_thereBy_51 : decode cX10_thereBy 51 = .ok (.if_icmp .ge 104, 3) := by decide +kernel
theorem dX10_thereBy_54 : decode cX10_thereBy 54 = .ok (.iconst 0, 1) := by decide +kernel
theorem dX10_thereBy_55 : decode cX10_thereBy 55 = .ok (.istore 4, 2) := by decide +kernel
theorem dX10_thereBy_57 : decode cX10_thereBy 57 = .ok (.iload 4, 2) := by decide +kernel
theorem dX10_thereBy_59 : decode cX10_thereBy 59 = .ok (.aload_n 0, 1) := by decide +kernel
theorem dX10_thereBy_60 : decode cX10_thereBy 60 = .ok (.getfield 87, 3) := by decide +kernel
theorem dX10_thereBy_63 : decode cX10_thereBy 63 = .ok (.if_icmp .ge 86, 3) := by decide +kernel
theorem dX10_thereBy_66 : decode cX10_thereBy 66 = .ok (.aload_n 0, 1) := by decide +kernel
theorem dX10_thereBy_67 : decode cX10_thereBy 67 = .ok (.getfield 20, 3) := by decide +kernel
theorem dX10_thereBy_70 : decode cX10_thereBy 70 = .ok (.iload 4, 2) := by decide +kernel
theorem dX10_thereBy_72 : decode cX10_thereBy 72 = .ok (.iaload, 1) := by decide +kernel
theorem dX10_thereBy_73 : decode cX10_thereBy 73 = .ok (.bipush (-9), 2) := by decide +kernel
theorem dX10_thereBy_75 : decode cX10_thereBy 75 = .ok (.if_icmp .eq 17, 3) := by decide +kernel
theorem dX10_thereBy_78 : decode cX10_thereBy 78 = .ok (.iload_n 2, 1) := by decide +kernel
theorem dX10_thereBy_79 : decode cX10_thereBy 79 = .ok (.aload_n 0, 1) := by decide +kernel
theorem dX10_thereBy_80 : decode cX10_thereBy 80 = .ok (.getfield 20, 3) := by decide +kernel
theorem dX10_thereBy_83 : decode cX10_thereBy 83 = .ok (.iload 4, 2) := by decide +kernel
theorem dX10_thereBy_85 : decode cX10_thereBy 85 = .ok (.iaload, 1) := by decide +kernel
theorem dX10_thereBy_86 : decode cX10_thereBy 86 = .ok (.invokestatic 144, 3) := by decide +kernel
theorem dX10_thereBy_89 : decode cX10_thereBy 89 = .ok (.ifCond .eq 29, 3) := by decide +kernel
theorem dX10_thereBy_92 : decode cX10_thereBy 92 = .ok (.aload_n 0, 1) := by decide +kernel
theorem dX10_thereBy_93 : decode cX10_thereBy 93 = .ok (.getfield 23, 3) := by decide +kernel
theorem dX10_thereBy_96 : decode cX10_thereBy 96 = .ok (.iload 4, 2) := by decide +kernel
theorem dX10_thereBy_98 : decode cX10_thereBy 98 = .ok (.iaload, 1) := by decide +kernel
theorem dX10_thereBy_99 : decode cX10_thereBy 99 = .ok (.bipush (-9), 2) := by decide +kernel
theorem dX10_thereBy_101 : decode cX10_thereBy 101 = .ok (.if_icmp .eq 21, 3) := by decide +kernel
theorem dX10_thereBy_104 : decode cX10_thereBy 104 = .ok (.iload_n 2, 1) := by decide +kernel
theorem dX10_thereBy_105 : decode cX10_thereBy 105 = .ok (.aload_n 0, 1) := by decide +kernel
theorem dX10_thereBy_106 : decode cX10_thereBy 106 = .ok (.getfield 23, 3) := by decide +kernel
theorem dX10_thereBy_109 : decode cX10_thereBy 109 = .ok (.iload 4, 2) := by decide +kernel
theorem dX10_thereBy_111 : decode cX10_thereBy 111 = .ok (.iaload, 1) := by decide +kernel
theorem dX10_thereBy_112 : decode cX10_thereBy 112 = .ok (.invokestatic 144, 3) := by decide +kernel
theorem dX10_thereBy_115 : decode cX10_thereBy 115 = .ok (.ifCond .ne 7, 3) := by decide +kernel
theorem dX10_thereBy_118 : decode cX10_thereBy 118 = .ok (.iconst 1, 1) := by decide +kernel
theorem dX10_thereBy_119 : decode cX10_thereBy 119 = .ok (.goto 4, 3) := by decide +kernel
theorem dX10_thereBy_122 : decode cX10_thereBy 122 = .ok (.iconst 0, 1) := by decide +kernel
theorem dX10_thereBy_123 : decode cX10_thereBy 123 = .ok (.istore 5, 2) := by decide +kernel
theorem dX10_thereBy_125 : decode cX10_thereBy 125 = .ok (.iload_n 2, 1) := by decide +kernel
theorem dX10_thereBy_126 : decode cX10_thereBy 126 = .ok (.iload 5, 2) := by decide +kernel
theorem dX10_thereBy_128 : decode cX10_thereBy 128 = .ok (.ifCond .eq 12, 3) := by decide +kernel
theorem dX10_thereBy_131 : decode cX10_thereBy 131 = .ok (.iconst 1, 1) := by decide +kernel
theorem dX10_thereBy_132 : decode cX10_thereBy 132 = .ok (.iload 4, 2) := by decide +kernel
theorem dX10_thereBy_134 : decode cX10_thereBy 134 = .ok (.ishl, 1) := by decide +kernel
theorem dX10_thereBy_135 : decode cX10_thereBy 135 = .ok (.iconst (-1), 1) := by decide +kernel
theorem dX10_thereBy_136 : decode cX10_thereBy 136 = .ok (.ixor, 1) := by decide +kernel
theorem dX10_thereBy_137 : decode cX10_thereBy 137 = .ok (.goto 4, 3) := by decide +kernel
theorem dX10_thereBy_140 : decode cX10_thereBy 140 = .ok (.iconst (-1), 1) := by decide +kernel
theorem dX10_thereBy_141 : decode cX10_thereBy 141 = .ok (.iand, 1) := by decide +kernel
theorem dX10_thereBy_142 : decode cX10_thereBy 142 = .ok (.istore_n 2, 1) := by decide +kernel
theorem dX10_thereBy_143 : decode cX10_thereBy 143 = .ok (.iinc 4 1, 3) := by decide +kernel
theorem dX10_thereBy_146 : decode cX10_thereBy 146 = .ok (.goto (-89), 3) := by decide +kernel
theorem dX10_thereBy_149 : decode cX10_thereBy 149 = .ok (.iinc 3 1, 3) := by decide +kernel
theorem dX10_thereBy_152 : decode cX10_thereBy 152 = .ok (.goto (-106), 3) := by decide +kernel
theorem dX10_thereBy_155 : decode cX10_thereBy 155 = .ok (.iload_n 2, 1) := by decide +kernel
theorem dX10_thereBy_156 : decode cX10_thereBy 156 = .ok (.invokestatic 240, 3) := by decide +kernel
theorem dX10_thereBy_159 : decode cX10_thereBy 159 = .ok (.ireturn, 1) := by decide +kernel
theorem dX10_share_0 : decode cX10_share 0 = .ok (.aload_n 0, 1) := by decide +kernel
theorem dX10_share_1 : decode cX10_share 1 = .ok (.iconst 0, 1) := by decide +kernel
theorem dX10_share_2 : decode cX10_share 2 = .ok (.putfield 84, 3) := by decide +kernel
theorem dX10_share_5 : decode cX10_share 5 = .ok (.aload_n 0, 1) := by decide +kernel
theorem dX10_share_6 : decode cX10_share 6 = .ok (.iload_n 1, 1) := by decide +kernel
theorem dX10_share_7 : decode cX10_share 7 = .ok (.invokevirtual 200, 3) := by decide +kernel
theorem dX10_share_10 : decode cX10_share 10 = .ok (.ifCond .eq 5, 3) := by decide +kernel
theorem dX10_share_13 : decode cX10_share 13 = .ok (.iconst (-1), 1) := by decide +kernel
theorem dX10_share_14 : decode cX10_share 14 = .ok (.ireturn, 1) := by decide +kernel
theorem dX10_share_15 : decode cX10_share 15 = .ok (.iconst 0, 1) := by decide +kernel
theorem dX10_share_16 : decode cX10_share 16 = .ok (.istore_n 3, 1) := by decide +kernel
theorem dX10_share_17 : decode cX10_share 17 = .ok (.iconst 0, 1) := by decide +kernel
theorem dX10_share_18 : decode cX10_share 18 = .ok (.istore 4, 2) := by decide +kernel
theorem dX10_share_20 : decode cX10_share 20 = .ok (.iload 4, 2) := by decide +kernel
theorem dX10_share_22 : decode cX10_share 22 = .ok (.iconst 1, 1) := by decide +kernel
theorem dX10_share_23 : decode cX10_share 23 = .ok (.aload_n 0, 1) := by decide +kernel
theorem dX10_share_24 : decode cX10_share 24 = .ok (.getfield 13, 3) := by decide +kernel
theorem dX10_share_27 : decode cX10_share 27 = .ok (.ishl, 1) := by decide +kernel
theorem dX10_share_28 : decode cX10_share 28 = .ok (.if_icmp .ge 68, 3) := by decide +kernel
theorem dX10_share_31 : decode cX10_share 31 = .ok (.iload 4, 2) := by decide +kernel
theorem dX10_share_33 : decode cX10_share 33 = .ok (.invokestatic 240, 3) := by decide +kernel
theorem dX10_share_36 : decode cX10_share 36 = .ok (.istore 5, 2) := by decide +kernel
theorem dX10_share_38 : decode cX10_share 38 = .ok (.iload_n 3, 1) := by decide +kernel
theorem dX10_share_39 : decode cX10_share 39 = .ok (.iload 4, 2) := by decide +kernel
theorem dX10_share_41 : decode cX10_share 41 = .ok (.iload_n 1, 1) := by decide +kernel
theorem dX10_share_42 : decode cX10_share 42 = .ok (.invokestatic 144, 3) := by decide +kernel
theorem dX10_share_45 : decode cX10_share 45 = .ok (.ifCond .eq 7, 3) := by decide +kernel
theorem dX10_share_48 : decode cX10_share 48 = .ok (.iconst 0, 1) := by decide +kernel
theorem dX10_share_49 : decode cX10_share 49 = .ok (.goto 39, 3) := by decide +kernel
theorem dX10_share_52 : decode cX10_share 52 = .ok (.iload 5, 2) := by decide +kernel
theorem dX10_share_54 : decode cX10_share 54 = .ok (.invokestatic 243, 3) := by decide +kernel
theorem dX10_share_57 : decode cX10_share 57 = .ok (.aload_n 0, 1) := by decide +kernel
theorem dX10_share_58 : decode cX10_share 58 = .ok (.getfield 13, 3) := by decide +kernel
theorem dX10_share_61 : decode cX10_share 61 = .ok (.iconst 1, 1) := by decide +kernel
theorem dX10_share_62 : decode cX10_share 62 = .ok (.isub, 1) := by decide +kernel
theorem dX10_share_63 : decode cX10_share 63 = .ok (.iload 5, 2) := by decide +kernel
theorem dX10_share_65 : decode cX10_share 65 = .ok (.isub, 1) := by decide +kernel
theorem dX10_share_66 : decode cX10_share 66 = .ok (.invokestatic 243, 3) := by decide +kernel
theorem dX10_share_69 : decode cX10_share 69 = .ok (.imul, 1) := by decide +kernel
theorem dX10_share_70 : decode cX10_share 70 = .ok (.aload_n 0, 1) := by decide +kernel
theorem dX10_share_71 : decode cX10_share 71 = .ok (.iload 4, 2) := by decide +kernel
theorem dX10_share_73 : decode cX10_share 73 = .ok (.iconst 1, 1) := by decide +kernel
theorem dX10_share_74 : decode cX10_share 74 = .ok (.iload_n 1, 1) := by decide +kernel
theorem dX10_share_75 : decode cX10_share 75 = .ok (.ishl, 1) := by decide +kernel
theorem dX10_share_76 : decode cX10_share 76 = .ok (.ior, 1) := by decide +kernel
theorem dX10_share_77 : decode cX10_share 77 = .ok (.invokevirtual 246, 3) := by decide +kernel
theorem dX10_share_80 : decode cX10_share 80 = .ok (.aload_n 0, 1) := by decide +kernel
theorem dX10_share_81 : decode cX10_share 81 = .ok (.iload 4, 2) := by decide +kernel
theorem dX10_share_83 : decode cX10_share 83 = .ok (.invokevirtual 246, 3) := by decide +kernel
theorem dX10_share_86 : decode cX10_share 86 = .ok (.isub, 1) := by decide +kernel
theorem dX10_share_87 : decode cX10_share 87 = .ok (.imul, 1) := by decide +kernel
theorem dX10_share_88 : decode cX10_share 88 = .ok (.iadd, 1) := by decide +kernel
theorem dX10_share_89 : decode cX10_share 89 = .ok (.istore_n 3, 1) := by decide +kernel
theorem dX10_share_90 : decode cX10_share 90 = .ok (.iinc 4 1, 3) := by decide +kernel
theorem dX10_share_93 : decode cX10_share 93 = .ok (.goto (-73), 3) := by decide +kernel
theorem dX10_share_96 : decode cX10_share 96 = .ok (.iload_n 3, 1) := by decide +kernel
theorem dX10_share_97 : decode cX10_share 97 = .ok (.aload_n 0, 1) := by decide +kernel
theorem dX10_share_98 : decode cX10_share 98 = .ok (.getfield 13, 3) := by decide +kernel
theorem dX10_share_101 : decode cX10_share 101 = .ok (.invokestatic 243, 3) := by decide +kernel
theorem dX10_share_104 : decode cX10_share 104 = .ok (.iload_n 2, 1) := by decide +kernel
theorem dX10_share_105 : decode cX10_share 105 = .ok (.invokestatic 249, 3) := by decide +kernel
theorem dX10_share_108 : decode cX10_share 108 = .ok (.ireturn, 1) := by decide +kernel
theorem dX10_fails_0 : decode cX10_fails 0 = .ok (.aload_n 0, 1) := by decide +kernel
theorem dX10_fails_1 : decode cX10_fails 1 = .ok (.iconst 0, 1) := by decide +kernel
theorem dX10_fails_2 : decode cX10_fails 2 = .ok (.putfield 84, 3) := by decide +kernel
theorem dX10_fails_5 : decode cX10_fails 5 = .ok (.aload_n 0, 1) := by decide +kernel
theorem dX10_fails_6 : decode cX10_fails 6 = .ok (.iload_n 1, 1) := by decide +kernel
theorem dX10_fails_7 : decode cX10_fails 7 = .ok (.invokevirtual 182, 3) := by decide +kernel
theorem dX10_fails_10 : decode cX10_fails 10 = .ok (.ifCond .ne 11, 3) := by decide +kernel
theorem dX10_fails_13 : decode cX10_fails 13 = .ok (.aload_n 0, 1) := by decide +kernel
theorem dX10_fails_14 : decode cX10_fails 14 = .ok (.iload_n 2, 1) := by decide +kernel
theorem dX10_fails_15 : decode cX10_fails 15 = .ok (.invokevirtual 200, 3) := by decide +kernel
theorem dX10_fails_18 : decode cX10_fails 18 = .ok (.ifCond .eq 5, 3) := by decide +kernel
theorem dX10_fails_21 : decode cX10_fails 21 = .ok (.iconst (-1), 1) := by decide +kernel
theorem dX10_fails_22 : decode cX10_fails 22 = .ok (.ireturn, 1) := by decide +kernel
theorem dX10_fails_23 : decode cX10_fails 23 = .ok (.iload_n 3, 1) := by decide +kernel
theorem dX10_fails_24 : decode cX10_fails 24 = .ok (.i2l, 1) := by decide +kernel
theorem dX10_fails_25 : decode cX10_fails 25 = .ok (.lconst 0, 1) := by decide +kernel
theorem dX10_fails_26 : decode cX10_fails 26 = .ok (.ldc2_w 253, 3) := by decide +kernel
theorem dX10_fails_29 : decode cX10_fails 29 = .ok (.invokestatic 90, 3) := by decide +kernel
theorem dX10_fails_32 : decode cX10_fails 32 = .ok (.ifCond .eq 16, 3) := by decide +kernel
theorem dX10_fails_35 : decode cX10_fails 35 = .ok (.iload 4, 2) := by decide +kernel
theorem dX10_fails_37 : decode cX10_fails 37 = .ok (.i2l, 1) := by decide +kernel
theorem dX10_fails_38 : decode cX10_fails 38 = .ok (.lconst 0, 1) := by decide +kernel
theorem dX10_fails_39 : decode cX10_fails 39 = .ok (.ldc2_w 255, 3) := by decide +kernel
theorem dX10_fails_42 : decode cX10_fails 42 = .ok (.invokestatic 90, 3) := by decide +kernel
theorem dX10_fails_45 : decode cX10_fails 45 = .ok (.ifCond .ne 6, 3) := by decide +kernel
theorem dX10_fails_48 : decode cX10_fails 48 = .ok (.bipush (-2), 2) := by decide +kernel
theorem dX10_fails_50 : decode cX10_fails 50 = .ok (.ireturn, 1) := by decide +kernel
theorem dX10_fails_51 : decode cX10_fails 51 = .ok (.iconst 0, 1) := by decide +kernel
theorem dX10_fails_52 : decode cX10_fails 52 = .ok (.istore 6, 2) := by decide +kernel
theorem dX10_fails_54 : decode cX10_fails 54 = .ok (.iconst 0, 1) := by decide +kernel
theorem dX10_fails_55 : decode cX10_fails 55 = .ok (.istore 7, 2) := by decide +kernel
theorem dX10_fails_57 : decode cX10_fails 57 = .ok (.iload 7, 2) := by decide +kernel
theorem dX10_fails_59 : decode cX10_fails 59 = .ok (.iconst 1, 1) := by decide +kernel
theorem dX10_fails_60 : decode cX10_fails 60 = .ok (.iload_n 3, 1) := by decide +kernel
theorem dX10_fails_61 : decode cX10_fails 61 = .ok (.ishl, 1) := by decide +kernel
theorem dX10_fails_62 : decode cX10_fails 62 = .ok (.if_icmp .ge 87, 3) := by decide +kernel
theorem dX10_fails_65 : decode cX10_fails 65 = .ok (.aload_n 0, 1) := by decide +kernel
theorem dX10_fails_66 : decode cX10_fails 66 = .ok (.aload_n 0, 1) := by decide +kernel
theorem dX10_fails_67 : decode cX10_fails 67 = .ok (.getfield 44, 3) := by decide +kernel
theorem dX10_fails_70 : decode cX10_fails 70 = .ok (.aload_n 0, 1) := by decide +kernel
theorem dX10_fails_71 : decode cX10_fails 71 = .ok (.getfield 44, 3) := by decide +kernel
theorem dX10_fails_74 : decode cX10_fails 74 = .ok (.bipush 20, 2) := by decide +kernel
theorem dX10_fails_76 : decode cX10_fails 76 = .ok (.iaload, 1) := by decide +kernel
theorem dX10_fails_77 : decode cX10_fails 77 = .ok (.iload 7, 2) := by decide +kernel
theorem dX10_fails_79 : decode cX10_fails 79 = .ok (.iload_n 3, 1) := by decide +kernel
theorem dX10_fails_80 : decode cX10_fails 80 = .ok (.invokevirtual 212, 3) := by decide +kernel
theorem dX10_fails_83 : decode cX10_fails 83 = .ok (.aload_n 0, 1) := by decide +kernel
theorem dX10_fails_84 : decode cX10_fails 84 = .ok (.getfield 75, 3) := by decide +kernel
theorem dX10_fails_87 : decode cX10_fails 87 = .ok (.iconst 4, 1) := by decide +kernel
theorem dX10_fails_88 : decode cX10_fails 88 = .ok (.iload_n 1, 1) := by decide +kernel
theorem dX10_fails_89 : decode cX10_fails 89 = .ok (.imul, 1) := by decide +kernel
theorem dX10_fails_90 : decode cX10_fails 90 = .ok (.iload_n 2, 1) := by decide +kernel
theorem dX10_fails_91 : decode cX10_fails 91 = .ok (.iadd, 1) := by decide +kernel
theorem dX10_fails_92 : decode cX10_fails 92 = .ok (.iaload, 1) := by decide +kernel
theorem dX10_fails_93 : decode cX10_fails 93 = .ok (.istore 8, 2) := by decide +kernel
theorem dX10_fails_95 : decode cX10_fails 95 = .ok (.iload 6, 2) := by decide +kernel
theorem dX10_fails_97 : decode cX10_fails 97 = .ok (.iload 8, 2) := by decide +kernel
theorem dX10_fails_99 : decode cX10_fails 99 = .ok (.bipush (-9), 2) := by decide +kernel
theorem dX10_fails_101 : decode cX10_fails 101 = .ok (.if_icmp .eq 38, 3) := by decide +kernel
theorem dX10_fails_104 : decode cX10_fails 104 = .ok (.iload 8, 2) := by decide +kernel
theorem dX10_fails_106 : decode cX10_fails 106 = .ok (.iload_n 3, 1) := by decide +kernel
theorem dX10_fails_107 : decode cX10_fails 107 = .ok (.if_icmp .gt 32, 3) := by decide +kernel
theorem dX10_fails_110 : decode cX10_fails 110 = .ok (.iload 4, 2) := by decide +kernel
theorem dX10_fails_112 : decode cX10_fails 112 = .ok (.iload 7, 2) := by decide +kernel
theorem dX10_fails_114 : decode cX10_fails 114 = .ok (.invokestatic 240, 3) := by decide +kernel
theorem dX10_fails_117 : decode cX10_fails 117 = .ok (.invokestatic 257, 3) := by decide +kernel
theorem dX10_fails_120 : decode cX10_fails 120 = .ok (.bipush 10, 2) := by decide +kernel
theorem dX10_fails_122 : decode cX10_fails 122 = .ok (.iload 4, 2) := by decide +kernel
theorem dX10_fails_124 : decode cX10_fails 124 = .ok (.isub, 1) := by decide +kernel
theorem dX10_fails_125 : decode cX10_fails 125 = .ok (.iload_n 3, 1) := by decide +kernel
theorem dX10_fails_126 : decode cX10_fails 126 = .ok (.iload 7, 2) := by decide +kernel
theorem dX10_fails_128 : decode cX10_fails 128 = .ok (.invokestatic 240, 3) := by decide +kernel
theorem dX10_fails_131 : decode cX10_fails 131 = .ok (.isub, 1) := by decide +kernel
theorem dX10_fails_132 : decode cX10_fails 132 = .ok (.invokestatic 257, 3) := by decide +kernel
theorem dX10_fails_135 : decode cX10_fails 135 = .ok (.imul, 1) := by decide +kernel
theorem dX10_fails_136 : decode cX10_fails 136 = .ok (.goto 4, 3) := by decide +kernel
theorem dX10_fails_139 : decode cX10_fails 139 = .ok (.iconst 0, 1) := by decide +kernel
theorem dX10_fails_140 : decode cX10_fails 140 = .ok (.iadd, 1) := by decide +kernel
theorem dX10_fails_141 : decode cX10_fails 141 = .ok (.istore 6, 2) := by decide +kernel
theorem dX10_fails_143 : decode cX10_fails 143 = .ok (.iinc 7 1, 3) := by decide +kernel
theorem dX10_fails_146 : decode cX10_fails 146 = .ok (.goto (-89), 3) := by decide +kernel
theorem dX10_fails_149 : decode cX10_fails 149 = .ok (.iload 6, 2) := by decide +kernel
theorem dX10_fails_151 : decode cX10_fails 151 = .ok (.bipush 10, 2) := by decide +kernel
theorem dX10_fails_153 : decode cX10_fails 153 = .ok (.iload_n 3, 1) := by decide +kernel
theorem dX10_fails_154 : decode cX10_fails 154 = .ok (.invokestatic 257, 3) := by decide +kernel
theorem dX10_fails_157 : decode cX10_fails 157 = .ok (.iload 5, 2) := by decide +kernel
theorem dX10_fails_159 : decode cX10_fails 159 = .ok (.invokestatic 249, 3) := by decide +kernel
theorem dX10_fails_162 : decode cX10_fails 162 = .ok (.ireturn, 1) := by decide +kernel
theorem dX10_seed_0 : decode cX10_seed 0 = .ok (.aload_n 0, 1) := by decide +kernel
theorem dX10_seed_1 : decode cX10_seed 1 = .ok (.iconst 0, 1) := by decide +kernel
theorem dX10_seed_2 : decode cX10_seed 2 = .ok (.putfield 84, 3) := by decide +kernel
theorem dX10_seed_5 : decode cX10_seed 5 = .ok (.aload_n 0, 1) := by decide +kernel
theorem dX10_seed_6 : decode cX10_seed 6 = .ok (.getfield 260, 3) := by decide +kernel
theorem dX10_seed_9 : decode cX10_seed 9 = .ok (.lstore_n 3, 1) := by decide +kernel
theorem dX10_seed_10 : decode cX10_seed 10 = .ok (.aload_n 0, 1) := by decide +kernel
theorem dX10_seed_11 : decode cX10_seed 11 = .ok (.lload_n 1, 1) := by decide +kernel
theorem dX10_seed_12 : decode cX10_seed 12 = .ok (.putfield 260, 3) := by decide +kernel
theorem dX10_seed_15 : decode cX10_seed 15 = .ok (.lload_n 3, 1) := by decide +kernel
theorem dX10_seed_16 : decode cX10_seed 16 = .ok (.lreturn, 1) := by decide +kernel
theorem dX10_drawn_0 : decode cX10_drawn 0 = .ok (.aload_n 0, 1) := by decide +kernel
theorem dX10_drawn_1 : decode cX10_drawn 1 = .ok (.iconst 0, 1) := by decide +kernel
theorem dX10_drawn_2 : decode cX10_drawn 2 = .ok (.putfield 84, 3) := by decide +kernel
theorem dX10_drawn_5 : decode cX10_drawn 5 = .ok (.iload_n 1, 1) := by decide +kernel
theorem dX10_drawn_6 : decode cX10_drawn 6 = .ok (.i2l, 1) := by decide +kernel
theorem dX10_drawn_7 : decode cX10_drawn 7 = .ok (.lconst 1, 1) := by decide +kernel
theorem dX10_drawn_8 : decode cX10_drawn 8 = .ok (.ldc2_w 264, 3) := by decide +kernel
theorem dX10_drawn_11 : decode cX10_drawn 11 = .ok (.invokestatic 90, 3) := by decide +kernel
theorem dX10_drawn_14 : decode cX10_drawn 14 = .ok (.ifCond .ne 6, 3) := by decide +kernel
theorem dX10_drawn_17 : decode cX10_drawn 17 = .ok (.bipush (-2), 2) := by decide +kernel
theorem dX10_drawn_19 : decode cX10_drawn 19 = .ok (.ireturn, 1) := by decide +kernel
theorem dX10_drawn_20 : decode cX10_drawn 20 = .ok (.aload_n 0, 1) := by decide +kernel
theorem dX10_drawn_21 : decode cX10_drawn 21 = .ok (.invokevirtual 205, 3) := by decide +kernel
theorem dX10_drawn_24 : decode cX10_drawn 24 = .ok (.iconst 0, 1) := by decide +kernel
theorem dX10_drawn_25 : decode cX10_drawn 25 = .ok (.istore_n 2, 1) := by decide +kernel
theorem dX10_drawn_26 : decode cX10_drawn 26 = .ok (.iconst 0, 1) := by decide +kernel
theorem dX10_drawn_27 : decode cX10_drawn 27 = .ok (.istore_n 3, 1) := by decide +kernel
theorem dX10_drawn_28 : decode cX10_drawn 28 = .ok (.iload_n 3, 1) := by decide +kernel
theorem dX10_drawn_29 : decode cX10_drawn 29 = .ok (.iload_n 1, 1) := by decide +kernel
theorem dX10_drawn_30 : decode cX10_drawn 30 = .ok (.if_icmp .ge 141, 3) := by decide +kernel
theorem dX10_drawn_33 : decode cX10_drawn 33 = .ok (.aload_n 0, 1) := by decide +kernel
theorem dX10_drawn_34 : decode cX10_drawn 34 = .ok (.aload_n 0, 1) := by decide +kernel
theorem dX10_drawn_35 : decode cX10_drawn 35 = .ok (.getfield 260, 3) := by decide +kernel
theorem dX10_drawn_38 : decode cX10_drawn 38 = .ok (.ldc2_w 266, 3) := by decide +kernel
theorem dX10_drawn_41 : decode cX10_drawn 41 = .ok (.lmul, 1) := by decide +kernel
theorem dX10_drawn_42 : decode cX10_drawn 42 = .ok (.ldc2_w 268, 3) := by decide +kernel
theorem dX10_drawn_45 : decode cX10_drawn 45 = .ok (.ladd, 1) := by decide +kernel
theorem dX10_drawn_46 : decode cX10_drawn 46 = .ok (.putfield 260, 3) := by decide +kernel
theorem dX10_drawn_49 : decode cX10_drawn 49 = .ok (.aload_n 0, 1) := by decide +kernel
theorem dX10_drawn_50 : decode cX10_drawn 50 = .ok (.getfield 260, 3) := by decide +kernel
theorem dX10_drawn_53 : decode cX10_drawn 53 = .ok (.bipush 33, 2) := by decide +kernel
theorem dX10_drawn_55 : decode cX10_drawn 55 = .ok (.lushr, 1) := by decide +kernel
theorem dX10_drawn_56 : decode cX10_drawn 56 = .ok (.l2i, 1) := by decide +kernel
theorem dX10_drawn_57 : decode cX10_drawn 57 = .ok (.istore 4, 2) := by decide +kernel
theorem dX10_drawn_59 : decode cX10_drawn 59 = .ok (.iconst 0, 1) := by decide +kernel
theorem dX10_drawn_60 : decode cX10_drawn 60 = .ok (.istore 5, 2) := by decide +kernel
theorem dX10_drawn_62 : decode cX10_drawn 62 = .ok (.iconst 0, 1) := by decide +kernel
theorem dX10_drawn_63 : decode cX10_drawn 63 = .ok (.istore 6, 2) := by decide +kernel
theorem dX10_drawn_65 : decode cX10_drawn 65 = .ok (.iload 6, 2) := by decide +kernel
theorem dX10_drawn_67 : decode cX10_drawn 67 = .ok (.aload_n 0, 1) := by decide +kernel
theorem dX10_drawn_68 : decode cX10_drawn 68 = .ok (.getfield 87, 3) := by decide +kernel
theorem dX10_drawn_71 : decode cX10_drawn 71 = .ok (.if_icmp .ge 36, 3) := by decide +kernel
theorem dX10_drawn_74 : decode cX10_drawn 74 = .ok (.aload_n 0, 1) := by decide +kernel
theorem dX10_drawn_75 : decode cX10_drawn 75 = .ok (.getfield 17, 3) := by decide +kernel
theorem dX10_drawn_78 : decode cX10_drawn 78 = .ok (.iload 6, 2) := by decide +kernel
theorem dX10_drawn_80 : decode cX10_drawn 80 = .ok (.iaload, 1) := by decide +kernel
theorem dX10_drawn_81 : decode cX10_drawn 81 = .ok (.ifCond .ne 20, 3) := by decide +kernel
theorem dX10_drawn_84 : decode cX10_drawn 84 = .ok (.aload_n 0, 1) := by decide +kernel
theorem dX10_drawn_85 : decode cX10_drawn 85 = .ok (.getfield 47, 3) := by decide +kernel
theorem dX10_drawn_88 : decode cX10_drawn 88 = .ok (.iload 6, 2) := by decide +kernel
theorem dX10_drawn_90 : decode cX10_drawn 90 = .ok (.iload 4, 2) := by decide +kernel
theorem dX10_drawn_92 : decode cX10_drawn 92 = .ok (.iload 5, 2) := by decide +kernel
theorem dX10_drawn_94 : decode cX10_drawn 94 = .ok (.ishr, 1) := by decide +kernel
theorem dX10_drawn_95 : decode cX10_drawn 95 = .ok (.iconst 1, 1) := by decide +kernel
theorem dX10_drawn_96 : decode cX10_drawn 96 = .ok (.iand, 1) := by decide +kernel
theorem dX10_drawn_97 : decode cX10_drawn 97 = .ok (.iastore, 1) := by decide +kernel
theorem dX10_drawn_98 : decode cX10_drawn 98 = .ok (.iinc 5 1, 3) := by decide +kernel
theorem dX10_drawn_101 : decode cX10_drawn 101 = .ok (.iinc 6 1, 3) := by decide +kernel
theorem dX10_drawn_104 : decode cX10_drawn 104 = .ok (.goto (-39), 3) := by decide +kernel
theorem dX10_drawn_107 : decode cX10_drawn 107 = .ok (.aload_n 0, 1) := by decide +kernel
theorem dX10_drawn_108 : decode cX10_drawn 108 = .ok (.aload_n 0, 1) := by decide +kernel
theorem dX10_drawn_109 : decode cX10_drawn 109 = .ok (.getfield 47, 3) := by decide +kernel
theorem dX10_drawn_112 : decode cX10_drawn 112 = .ok (.bipush (-9), 2) := by decide +kernel
theorem dX10_drawn_114 : decode cX10_drawn 114 = .ok (.invokevirtual 197, 3) := by decide +kernel
theorem dX10_drawn_117 : decode cX10_drawn 117 = .ok (.iconst 0, 1) := by decide +kernel
theorem dX10_drawn_118 : decode cX10_drawn 118 = .ok (.istore 6, 2) := by decide +kernel
theorem dX10_drawn_120 : decode cX10_drawn 120 = .ok (.iload 6, 2) := by decide +kernel
theorem dX10_drawn_122 : decode cX10_drawn 122 = .ok (.aload_n 0, 1) := by decide +kernel
theorem dX10_drawn_123 : decode cX10_drawn 123 = .ok (.getfield 87, 3) := by decide +kernel
theorem dX10_drawn_126 : decode cX10_drawn 126 = .ok (.if_icmp .ge 39, 3) := by decide +kernel
theorem dX10_drawn_129 : decode cX10_drawn 129 = .ok (.iload_n 2, 1) := by decide +kernel
theorem dX10_drawn_130 : decode cX10_drawn 130 = .ok (.aload_n 0, 1) := by decide +kernel
theorem dX10_drawn_131 : decode cX10_drawn 131 = .ok (.getfield 17, 3) := by decide +kernel
theorem dX10_drawn_134 : decode cX10_drawn 134 = .ok (.iload 6, 2) := by decide +kernel
theorem dX10_drawn_136 : decode cX10_drawn 136 = .ok (.iaload, 1) := by decide +kernel
theorem dX10_drawn_137 : decode cX10_drawn 137 = .ok (.iconst 5, 1) := by decide +kernel
theorem dX10_drawn_138 : decode cX10_drawn 138 = .ok (.if_icmp .ne 18, 3) := by decide +kernel
theorem dX10_drawn_141 : decode cX10_drawn 141 = .ok (.aload_n 0, 1) := by decide +kernel
theorem dX10_drawn_142 : decode cX10_drawn 142 = .ok (.getfield 47, 3) := by decide +kernel
theorem dX10_drawn_145 : decode cX10_drawn 145 = .ok (.iload 6, 2) := by decide +kernel
theorem dX10_drawn_147 : decode cX10_drawn 147 = .ok (.iaload, 1) := by decide +kernel
theorem dX10_drawn_148 : decode cX10_drawn 148 = .ok (.iconst 1, 1) := by decide +kernel
theorem dX10_drawn_149 : decode cX10_drawn 149 = .ok (.if_icmp .ne 7, 3) := by decide +kernel
theorem dX10_drawn_152 : decode cX10_drawn 152 = .ok (.iconst 1, 1) := by decide +kernel
theorem dX10_drawn_153 : decode cX10_drawn 153 = .ok (.goto 4, 3) := by decide +kernel
theorem dX10_drawn_156 : decode cX10_drawn 156 = .ok (.iconst 0, 1) := by decide +kernel
theorem dX10_drawn_157 : decode cX10_drawn 157 = .ok (.iadd, 1) := by decide +kernel
theorem dX10_drawn_158 : decode cX10_drawn 158 = .ok (.istore_n 2, 1) := by decide +kernel
theorem dX10_drawn_159 : decode cX10_drawn 159 = .ok (.iinc 6 1, 3) := by decide +kernel
theorem dX10_drawn_162 : decode cX10_drawn 162 = .ok (.goto (-42), 3) := by decide +kernel
theorem dX10_drawn_165 : decode cX10_drawn 165 = .ok (.iinc 3 1, 3) := by decide +kernel
theorem dX10_drawn_168 : decode cX10_drawn 168 = .ok (.goto (-140), 3) := by decide +kernel
theorem dX10_drawn_171 : decode cX10_drawn 171 = .ok (.iload_n 2, 1) := by decide +kernel
theorem dX10_drawn_172 : decode cX10_drawn 172 = .ok (.ireturn, 1) := by decide +kernel
theorem dX10_keep_0 : decode cX10_keep 0 = .ok (.aload_n 0, 1) := by decide +kernel
theorem dX10_keep_1 : decode cX10_keep 1 = .ok (.iconst 0, 1) := by decide +kernel
theorem dX10_keep_2 : decode cX10_keep 2 = .ok (.putfield 84, 3) := by decide +kernel
theorem dX10_keep_5 : decode cX10_keep 5 = .ok (.iload_n 1, 1) := by decide +kernel
theorem dX10_keep_6 : decode cX10_keep 6 = .ok (.i2l, 1) := by decide +kernel
theorem dX10_keep_7 : decode cX10_keep 7 = .ok (.lconst 0, 1) := by decide +kernel
theorem dX10_keep_8 : decode cX10_keep 8 = .ok (.lconst 1, 1) := by decide +kernel
theorem dX10_keep_9 : decode cX10_keep 9 = .ok (.invokestatic 90, 3) := by decide +kernel
theorem dX10_keep_12 : decode cX10_keep 12 = .ok (.ifCond .ne 5, 3) := by decide +kernel
theorem dX10_keep_15 : decode cX10_keep 15 = .ok (.iconst (-1), 1) := by decide +kernel
theorem dX10_keep_16 : decode cX10_keep 16 = .ok (.ireturn, 1) := by decide +kernel
theorem dX10_keep_17 : decode cX10_keep 17 = .ok (.aload_n 0, 1) := by decide +kernel
theorem dX10_keep_18 : decode cX10_keep 18 = .ok (.getfield 56, 3) := by decide +kernel
theorem dX10_keep_21 : decode cX10_keep 21 = .ok (.iload_n 1, 1) := by decide +kernel
theorem dX10_keep_22 : decode cX10_keep 22 = .ok (.iconst 1, 1) := by decide +kernel
theorem dX10_keep_23 : decode cX10_keep 23 = .ok (.bastore, 1) := by decide +kernel
theorem dX10_keep_24 : decode cX10_keep 24 = .ok (.iconst 0, 1) := by decide +kernel
theorem dX10_keep_25 : decode cX10_keep 25 = .ok (.istore_n 2, 1) := by decide +kernel
theorem dX10_keep_26 : decode cX10_keep 26 = .ok (.iload_n 2, 1) := by decide +kernel
theorem dX10_keep_27 : decode cX10_keep 27 = .ok (.bipush 22, 2) := by decide +kernel
theorem dX10_keep_29 : decode cX10_keep 29 = .ok (.if_icmp .ge 26, 3) := by decide +kernel
theorem dX10_keep_32 : decode cX10_keep 32 = .ok (.aload_n 0, 1) := by decide +kernel
theorem dX10_keep_33 : decode cX10_keep 33 = .ok (.getfield 53, 3) := by decide +kernel
theorem dX10_keep_36 : decode cX10_keep 36 = .ok (.bipush 22, 2) := by decide +kernel
theorem dX10_keep_38 : decode cX10_keep 38 = .ok (.iload_n 1, 1) := by decide +kernel
theorem dX10_keep_39 : decode cX10_keep 39 = .ok (.imul, 1) := by decide +kernel
theorem dX10_keep_40 : decode cX10_keep 40 = .ok (.iload_n 2, 1) := by decide +kernel
theorem dX10_keep_41 : decode cX10_keep 41 = .ok (.iadd, 1) := by decide +kernel
theorem dX10_keep_42 : decode cX10_keep 42 = .ok (.aload_n 0, 1) := by decide +kernel
theorem dX10_keep_43 : decode cX10_keep 43 = .ok (.getfield 44, 3) := by decide +kernel
theorem dX10_keep_46 : decode cX10_keep 46 = .ok (.iload_n 2, 1) := by decide +kernel
theorem dX10_keep_47 : decode cX10_keep 47 = .ok (.iaload, 1) := by decide +kernel
theorem dX10_keep_48 : decode cX10_keep 48 = .ok (.iastore, 1) := by decide +kernel
theorem dX10_keep_49 : decode cX10_keep 49 = .ok (.iinc 2 1, 3) := by decide +kernel
theorem dX10_keep_52 : decode cX10_keep 52 = .ok (.goto (-26), 3) := by decide +kernel
theorem dX10_keep_55 : decode cX10_keep 55 = .ok (.aload_n 0, 1) := by decide +kernel
theorem dX10_keep_56 : decode cX10_keep 56 = .ok (.getfield 44, 3) := by decide +kernel
theorem dX10_keep_59 : decode cX10_keep 59 = .ok (.bipush 21, 2) := by decide +kernel
theorem dX10_keep_61 : decode cX10_keep 61 = .ok (.iaload, 1) := by decide +kernel
theorem dX10_keep_62 : decode cX10_keep 62 = .ok (.ireturn, 1) := by decide +kernel
theorem dX10_again_0 : decode cX10_again 0 = .ok (.aload_n 0, 1) := by decide +kernel
theorem dX10_again_1 : decode cX10_again 1 = .ok (.iconst 0, 1) := by decide +kernel
theorem dX10_again_2 : decode cX10_again 2 = .ok (.putfield 84, 3) := by decide +kernel
theorem dX10_again_5 : decode cX10_again 5 = .ok (.iload_n 1, 1) := by decide +kernel
theorem dX10_again_6 : decode cX10_again 6 = .ok (.i2l, 1) := by decide +kernel
theorem dX10_again_7 : decode cX10_again 7 = .ok (.lconst 0, 1) := by decide +kernel
theorem dX10_again_8 : decode cX10_again 8 = .ok (.lconst 1, 1) := by decide +kernel
theorem dX10_again_9 : decode cX10_again 9 = .ok (.invokestatic 90, 3) := by decide +kernel
theorem dX10_again_12 : decode cX10_again 12 = .ok (.ifCond .ne 5, 3) := by decide +kernel
theorem dX10_again_15 : decode cX10_again 15 = .ok (.iconst (-1), 1) := by decide +kernel
theorem dX10_again_16 : decode cX10_again 16 = .ok (.ireturn, 1) := by decide +kernel
theorem dX10_again_17 : decode cX10_again 17 = .ok (.aload_n 0, 1) := by decide +kernel
theorem dX10_again_18 : decode cX10_again 18 = .ok (.getfield 56, 3) := by decide +kernel
theorem dX10_again_21 : decode cX10_again 21 = .ok (.iload_n 1, 1) := by decide +kernel
theorem dX10_again_22 : decode cX10_again 22 = .ok (.baload, 1) := by decide +kernel
theorem dX10_again_23 : decode cX10_again 23 = .ok (.ifCond .ne 6, 3) := by decide +kernel
theorem dX10_again_26 : decode cX10_again 26 = .ok (.bipush (-3), 2) := by decide +kernel
theorem dX10_again_28 : decode cX10_again 28 = .ok (.ireturn, 1) := by decide +kernel
theorem dX10_again_29 : decode cX10_again 29 = .ok (.iconst 0, 1) := by decide +kernel
theorem dX10_again_30 : decode cX10_again 30 = .ok (.istore_n 2, 1) := by decide +kernel
theorem dX10_again_31 : decode cX10_again 31 = .ok (.iload_n 2, 1) := by decide +kernel
theorem dX10_again_32 : decode cX10_again 32 = .ok (.bipush 22, 2) := by decide +kernel
theorem dX10_again_34 : decode cX10_again 34 = .ok (.if_icmp .ge 26, 3) := by decide +kernel
theorem dX10_again_37 : decode cX10_again 37 = .ok (.aload_n 0, 1) := by decide +kernel
theorem dX10_again_38 : decode cX10_again 38 = .ok (.getfield 44, 3) := by decide +kernel
theorem dX10_again_41 : decode cX10_again 41 = .ok (.iload_n 2, 1) := by decide +kernel
theorem dX10_again_42 : decode cX10_again 42 = .ok (.aload_n 0, 1) := by decide +kernel
theorem dX10_again_43 : decode cX10_again 43 = .ok (.getfield 53, 3) := by decide +kernel
theorem dX10_again_46 : decode cX10_again 46 = .ok (.bipush 22, 2) := by decide +kernel
theorem dX10_again_48 : decode cX10_again 48 = .ok (.iload_n 1, 1) := by decide +kernel
theorem dX10_again_49 : decode cX10_again 49 = .ok (.imul, 1) := by decide +kernel
theorem dX10_again_50 : decode cX10_again 50 = .ok (.iload_n 2, 1) := by decide +kernel
theorem dX10_again_51 : decode cX10_again 51 = .ok (.iadd, 1) := by decide +kernel
theorem dX10_again_52 : decode cX10_again 52 = .ok (.iaload, 1) := by decide +kernel
theorem dX10_again_53 : decode cX10_again 53 = .ok (.iastore, 1) := by decide +kernel
theorem dX10_again_54 : decode cX10_again 54 = .ok (.iinc 2 1, 3) := by decide +kernel
theorem dX10_again_57 : decode cX10_again 57 = .ok (.goto (-26), 3) := by decide +kernel
theorem dX10_again_60 : decode cX10_again 60 = .ok (.aload_n 0, 1) := by decide +kernel
theorem dX10_again_61 : decode cX10_again 61 = .ok (.iconst 0, 1) := by decide +kernel
theorem dX10_again_62 : decode cX10_again 62 = .ok (.putfield 134, 3) := by decide +kernel
theorem dX10_again_65 : decode cX10_again 65 = .ok (.aload_n 0, 1) := by decide +kernel
theorem dX10_again_66 : decode cX10_again 66 = .ok (.getfield 44, 3) := by decide +kernel
theorem dX10_again_69 : decode cX10_again 69 = .ok (.bipush 21, 2) := by decide +kernel
theorem dX10_again_71 : decode cX10_again 71 = .ok (.iaload, 1) := by decide +kernel
theorem dX10_again_72 : decode cX10_again 72 = .ok (.ireturn, 1) := by decide +kernel
theorem dX10_ofKind_0 : decode cX10_ofKind 0 = .ok (.iconst 0, 1) := by decide +kernel
theorem dX10_ofKind_1 : decode cX10_ofKind 1 = .ok (.istore_n 2, 1) := by decide +kernel
theorem dX10_ofKind_2 : decode cX10_ofKind 2 = .ok (.iconst 0, 1) := by decide +kernel
theorem dX10_ofKind_3 : decode cX10_ofKind 3 = .ok (.istore_n 3, 1) := by decide +kernel
theorem dX10_ofKind_4 : decode cX10_ofKind 4 = .ok (.iload_n 3, 1) := by decide +kernel
theorem dX10_ofKind_5 : decode cX10_ofKind 5 = .ok (.aload_n 0, 1) := by decide +kernel
theorem dX10_ofKind_6 : decode cX10_ofKind 6 = .ok (.getfield 87, 3) := by decide +kernel
theorem dX10_ofKind_9 : decode cX10_ofKind 9 = .ok (.if_icmp .ge 29, 3) := by decide +kernel
theorem dX10_ofKind_12 : decode cX10_ofKind 12 = .ok (.iload_n 2, 1) := by decide +kernel
theorem dX10_ofKind_13 : decode cX10_ofKind 13 = .ok (.aload_n 0, 1) := by decide +kernel
theorem dX10_ofKind_14 : decode cX10_ofKind 14 = .ok (.getfield 17, 3) := by decide +kernel
theorem dX10_ofKind_17 : decode cX10_ofKind 17 = .ok (.iload_n 3, 1) := by decide +kernel
theorem dX10_ofKind_18 : decode cX10_ofKind 18 = .ok (.iaload, 1) := by decide +kernel
theorem dX10_ofKind_19 : decode cX10_ofKind 19 = .ok (.iload_n 1, 1) := by decide +kernel
theorem dX10_ofKind_20 : decode cX10_ofKind 20 = .ok (.if_icmp .ne 9, 3) := by decide +kernel
theorem dX10_ofKind_23 : decode cX10_ofKind 23 = .ok (.iconst 1, 1) := by decide +kernel
theorem dX10_ofKind_24 : decode cX10_ofKind 24 = .ok (.iload_n 3, 1) := by decide +kernel
theorem dX10_ofKind_25 : decode cX10_ofKind 25 = .ok (.ishl, 1) := by decide +kernel
theorem dX10_ofKind_26 : decode cX10_ofKind 26 = .ok (.goto 4, 3) := by decide +kernel
theorem dX10_ofKind_29 : decode cX10_ofKind 29 = .ok (.iconst 0, 1) := by decide +kernel
theorem dX10_ofKind_30 : decode cX10_ofKind 30 = .ok (.ior, 1) := by decide +kernel
theorem dX10_ofKind_31 : decode cX10_ofKind 31 = .ok (.istore_n 2, 1) := by decide +kernel
theorem dX10_ofKind_32 : decode cX10_ofKind 32 = .ok (.iinc 3 1, 3) := by decide +kernel
theorem dX10_ofKind_35 : decode cX10_ofKind 35 = .ok (.goto (-31), 3) := by decide +kernel
theorem dX10_ofKind_38 : decode cX10_ofKind 38 = .ok (.iload_n 2, 1) := by decide +kernel
theorem dX10_ofKind_39 : decode cX10_ofKind 39 = .ok (.ireturn, 1) := by decide +kernel
theorem dX10_worthSo_0 : decode cX10_worthSo 0 = .ok (.aload_n 0, 1) := by decide +kernel
theorem dX10_worthSo_1 : decode cX10_worthSo 1 = .ok (.aload_n 0, 1) := by decide +kernel
theorem dX10_worthSo_2 : decode cX10_worthSo 2 = .ok (.getfield 44, 3) := by decide +kernel
theorem dX10_worthSo_5 : decode cX10_worthSo 5 = .ok (.bipush (-9), 2) := by decide +kernel
theorem dX10_worthSo_7 : decode cX10_worthSo 7 = .ok (.invokevirtual 152, 3) := by decide +kernel
theorem dX10_worthSo_10 : decode cX10_worthSo 10 = .ok (.iconst 0, 1) := by decide +kernel
theorem dX10_worthSo_11 : decode cX10_worthSo 11 = .ok (.istore_n 2, 1) := by decide +kernel
theorem dX10_worthSo_12 : decode cX10_worthSo 12 = .ok (.iconst 0, 1) := by decide +kernel
theorem dX10_worthSo_13 : decode cX10_worthSo 13 = .ok (.istore_n 3, 1) := by decide +kernel
theorem dX10_worthSo_14 : decode cX10_worthSo 14 = .ok (.iload_n 3, 1) := by decide +kernel
theorem dX10_worthSo_15 : decode cX10_worthSo 15 = .ok (.aload_n 0, 1) := by decide +kernel
theorem dX10_worthSo_16 : decode cX10_worthSo 16 = .ok (.getfield 87, 3) := by decide +kernel
theorem dX10_worthSo_19 : decode cX10_worthSo 19 = .ok (.if_icmp .ge 29, 3) := by decide +kernel
theorem dX10_worthSo_22 : decode cX10_worthSo 22 = .ok (.iload_n 2, 1) := by decide +kernel
theorem dX10_worthSo_23 : decode cX10_worthSo 23 = .ok (.aload_n 0, 1) := by decide +kernel
theorem dX10_worthSo_24 : decode cX10_worthSo 24 = .ok (.getfield 72, 3) := by decide +kernel
theorem dX10_worthSo_27 : decode cX10_worthSo 27 = .ok (.iload_n 3, 1) := by decide +kernel
theorem dX10_worthSo_28 : decode cX10_worthSo 28 = .ok (.iaload, 1) := by decide +kernel
theorem dX10_worthSo_29 : decode cX10_worthSo 29 = .ok (.iload_n 1, 1) := by decide +kernel
theorem dX10_worthSo_30 : decode cX10_worthSo 30 = .ok (.if_icmp .ne 9, 3) := by decide +kernel
theorem dX10_worthSo_33 : decode cX10_worthSo 33 = .ok (.iconst 1, 1) := by decide +kernel
theorem dX10_worthSo_34 : decode cX10_worthSo 34 = .ok (.iload_n 3, 1) := by decide +kernel
theorem dX10_worthSo_35 : decode cX10_worthSo 35 = .ok (.ishl, 1) := by decide +kernel
theorem dX10_worthSo_36 : decode cX10_worthSo 36 = .ok (.goto 4, 3) := by decide +kernel
theorem dX10_worthSo_39 : decode cX10_worthSo 39 = .ok (.iconst 0, 1) := by decide +kernel
theorem dX10_worthSo_40 : decode cX10_worthSo 40 = .ok (.ior, 1) := by decide +kernel
theorem dX10_worthSo_41 : decode cX10_worthSo 41 = .ok (.istore_n 2, 1) := by decide +kernel
theorem dX10_worthSo_42 : decode cX10_worthSo 42 = .ok (.iinc 3 1, 3) := by decide +kernel
theorem dX10_worthSo_45 : decode cX10_worthSo 45 = .ok (.goto (-31), 3) := by decide +kernel
theorem dX10_worthSo_48 : decode cX10_worthSo 48 = .ok (.iload_n 2, 1) := by decide +kernel
theorem dX10_worthSo_49 : decode cX10_worthSo 49 = .ok (.ireturn, 1) := by decide +kernel
theorem dX10_count_0 : decode cX10_count 0 = .ok (.aload_n 0, 1) := by decide +kernel
theorem dX10_count_1 : decode cX10_count 1 = .ok (.iconst 0, 1) := by decide +kernel
theorem dX10_count_2 : decode cX10_count 2 = .ok (.putfield 84, 3) := by decide +kernel
theorem dX10_count_5 : decode cX10_count 5 = .ok (.iload_n 1, 1) := by decide +kernel
theorem dX10_count_6 : decode cX10_count 6 = .ok (.tableswitch 123 0 10 #[58, 63, 68, 73, 81, 89, 95, 101, 107, 113, 118], 58) := by decide +kernel
theorem dX10_count_64 : decode cX10_count 64 = .ok (.aload_n 0, 1) := by decide +kernel
theorem dX10_count_65 : decode cX10_count 65 = .ok (.getfield 96, 3) := by decide +kernel
theorem dX10_count_68 : decode cX10_count 68 = .ok (.ireturn, 1) := by decide +kernel
theorem dX10_count_69 : decode cX10_count 69 = .ok (.aload_n 0, 1) := by decide +kernel
theorem dX10_count_70 : decode cX10_count 70 = .ok (.getfield 13, 3) := by decide +kernel
theorem dX10_count_73 : decode cX10_count 73 = .ok (.ireturn, 1) := by decide +kernel
theorem dX10_count_74 : decode cX10_count 74 = .ok (.aload_n 0, 1) := by decide +kernel
theorem dX10_count_75 : decode cX10_count 75 = .ok (.getfield 87, 3) := by decide +kernel
theorem dX10_count_78 : decode cX10_count 78 = .ok (.ireturn, 1) := by decide +kernel
theorem dX10_count_79 : decode cX10_count 79 = .ok (.aload_n 0, 1) := by decide +kernel
theorem dX10_count_80 : decode cX10_count 80 = .ok (.getfield 44, 3) := by decide +kernel
theorem dX10_count_83 : decode cX10_count 83 = .ok (.bipush 20, 2) := by decide +kernel
theorem dX10_count_85 : decode cX10_count 85 = .ok (.iaload, 1) := by decide +kernel
theorem dX10_count_86 : decode cX10_count 86 = .ok (.ireturn, 1) := by decide +kernel
theorem dX10_count_87 : decode cX10_count 87 = .ok (.aload_n 0, 1) := by decide +kernel
theorem dX10_count_88 : decode cX10_count 88 = .ok (.getfield 44, 3) := by decide +kernel
theorem dX10_count_91 : decode cX10_count 91 = .ok (.bipush 21, 2) := by decide +kernel
theorem dX10_count_93 : decode cX10_count 93 = .ok (.iaload, 1) := by decide +kernel
theorem dX10_count_94 : decode cX10_count 94 = .ok (.ireturn, 1) := by decide +kernel
theorem dX10_count_95 : decode cX10_count 95 = .ok (.aload_n 0, 1) := by decide +kernel
theorem dX10_count_96 : decode cX10_count 96 = .ok (.iconst 0, 1) := by decide +kernel
theorem dX10_count_97 : decode cX10_count 97 = .ok (.invokevirtual 270, 3) := by decide +kernel
theorem dX10_count_100 : decode cX10_count 100 = .ok (.ireturn, 1) := by decide +kernel
theorem dX10_count_101 : decode cX10_count 101 = .ok (.aload_n 0, 1) := by decide +kernel
theorem dX10_count_102 : decode cX10_count 102 = .ok (.iconst 5, 1) := by decide +kernel
theorem dX10_count_103 : decode cX10_count 103 = .ok (.invokevirtual 270, 3) := by decide +kernel
theorem dX10_count_106 : decode cX10_count 106 = .ok (.ireturn, 1) := by decide +kernel
theorem dX10_count_107 : decode cX10_count 107 = .ok (.aload_n 0, 1) := by decide +kernel
theorem dX10_count_108 : decode cX10_count 108 = .ok (.iconst 1, 1) := by decide +kernel
theorem dX10_count_109 : decode cX10_count 109 = .ok (.invokevirtual 273, 3) := by decide +kernel
theorem dX10_count_112 : decode cX10_count 112 = .ok (.ireturn, 1) := by decide +kernel
theorem dX10_count_113 : decode cX10_count 113 = .ok (.aload_n 0, 1) := by decide +kernel
theorem dX10_count_114 : decode cX10_count 114 = .ok (.iconst 2, 1) := by decide +kernel
theorem dX10_count_115 : decode cX10_count 115 = .ok (.invokevirtual 273, 3) := by decide +kernel
theorem dX10_count_118 : decode cX10_count 118 = .ok (.ireturn, 1) := by decide +kernel
theorem dX10_count_119 : decode cX10_count 119 = .ok (.aload_n 0, 1) := by decide +kernel
theorem dX10_count_120 : decode cX10_count 120 = .ok (.getfield 134, 3) := by decide +kernel
theorem dX10_count_123 : decode cX10_count 123 = .ok (.ireturn, 1) := by decide +kernel
theorem dX10_count_124 : decode cX10_count 124 = .ok (.aload_n 0, 1) := by decide +kernel
theorem dX10_count_125 : decode cX10_count 125 = .ok (.getfield 231, 3) := by decide +kernel
theorem dX10_count_128 : decode cX10_count 128 = .ok (.ireturn, 1) := by decide +kernel
theorem dX10_count_129 : decode cX10_count 129 = .ok (.bipush (-2), 2) := by decide +kernel
theorem dX10_count_131 : decode cX10_count 131 = .ok (.ireturn, 1) := by decide +kernel
theorem dJ6_bitCount_0f7a4_0 : decode cJ6_bitCount_0f7a4 0 = .ok (.iload_n 0, 1) := by decide +kernel
theorem dJ6_bitCount_0f7a4_1 : decode cJ6_bitCount_0f7a4 1 = .ok (.iload_n 0, 1) := by decide +kernel
theorem dJ6_bitCount_0f7a4_2 : decode cJ6_bitCount_0f7a4 2 = .ok (.iconst 1, 1) := by decide +kernel
theorem dJ6_bitCount_0f7a4_3 : decode cJ6_bitCount_0f7a4 3 = .ok (.iushr, 1) := by decide +kernel
theorem dJ6_bitCount_0f7a4_4 : decode cJ6_bitCount_0f7a4 4 = .ok (.ldc_w 265, 3) := by decide +kernel
theorem dJ6_bitCount_0f7a4_7 : decode cJ6_bitCount_0f7a4 7 = .ok (.iand, 1) := by decide +kernel
theorem dJ6_bitCount_0f7a4_8 : decode cJ6_bitCount_0f7a4 8 = .ok (.isub, 1) := by decide +kernel
theorem dJ6_bitCount_0f7a4_9 : decode cJ6_bitCount_0f7a4 9 = .ok (.istore_n 0, 1) := by decide +kernel
theorem dJ6_bitCount_0f7a4_10 : decode cJ6_bitCount_0f7a4 10 = .ok (.iload_n 0, 1) := by decide +kernel
theorem dJ6_bitCount_0f7a4_11 : decode cJ6_bitCount_0f7a4 11 = .ok (.ldc_w 266, 3) := by decide +kernel
theorem dJ6_bitCount_0f7a4_14 : decode cJ6_bitCount_0f7a4 14 = .ok (.iand, 1) := by decide +kernel
theorem dJ6_bitCount_0f7a4_15 : decode cJ6_bitCount_0f7a4 15 = .ok (.iload_n 0, 1) := by decide +kernel
theorem dJ6_bitCount_0f7a4_16 : decode cJ6_bitCount_0f7a4 16 = .ok (.iconst 2, 1) := by decide +kernel
theorem dJ6_bitCount_0f7a4_17 : decode cJ6_bitCount_0f7a4 17 = .ok (.iushr, 1) := by decide +kernel
theorem dJ6_bitCount_0f7a4_18 : decode cJ6_bitCount_0f7a4 18 = .ok (.ldc_w 266, 3) := by decide +kernel
theorem dJ6_bitCount_0f7a4_21 : decode cJ6_bitCount_0f7a4 21 = .ok (.iand, 1) := by decide +kernel
theorem dJ6_bitCount_0f7a4_22 : decode cJ6_bitCount_0f7a4 22 = .ok (.iadd, 1) := by decide +kernel
theorem dJ6_bitCount_0f7a4_23 : decode cJ6_bitCount_0f7a4 23 = .ok (.istore_n 0, 1) := by decide +kernel
theorem dJ6_bitCount_0f7a4_24 : decode cJ6_bitCount_0f7a4 24 = .ok (.iload_n 0, 1) := by decide +kernel
theorem dJ6_bitCount_0f7a4_25 : decode cJ6_bitCount_0f7a4 25 = .ok (.iload_n 0, 1) := by decide +kernel
theorem dJ6_bitCount_0f7a4_26 : decode cJ6_bitCount_0f7a4 26 = .ok (.iconst 4, 1) := by decide +kernel
theorem dJ6_bitCount_0f7a4_27 : decode cJ6_bitCount_0f7a4 27 = .ok (.iushr, 1) := by decide +kernel
theorem dJ6_bitCount_0f7a4_28 : decode cJ6_bitCount_0f7a4 28 = .ok (.iadd, 1) := by decide +kernel
theorem dJ6_bitCount_0f7a4_29 : decode cJ6_bitCount_0f7a4 29 = .ok (.ldc_w 267, 3) := by decide +kernel
theorem dJ6_bitCount_0f7a4_32 : decode cJ6_bitCount_0f7a4 32 = .ok (.iand, 1) := by decide +kernel
theorem dJ6_bitCount_0f7a4_33 : decode cJ6_bitCount_0f7a4 33 = .ok (.istore_n 0, 1) := by decide +kernel
theorem dJ6_bitCount_0f7a4_34 : decode cJ6_bitCount_0f7a4 34 = .ok (.iload_n 0, 1) := by decide +kernel
theorem dJ6_bitCount_0f7a4_35 : decode cJ6_bitCount_0f7a4 35 = .ok (.iload_n 0, 1) := by decide +kernel
theorem dJ6_bitCount_0f7a4_36 : decode cJ6_bitCount_0f7a4 36 = .ok (.bipush 8, 2) := by decide +kernel
theorem dJ6_bitCount_0f7a4_38 : decode cJ6_bitCount_0f7a4 38 = .ok (.iushr, 1) := by decide +kernel
theorem dJ6_bitCount_0f7a4_39 : decode cJ6_bitCount_0f7a4 39 = .ok (.iadd, 1) := by decide +kernel
theorem dJ6_bitCount_0f7a4_40 : decode cJ6_bitCount_0f7a4 40 = .ok (.istore_n 0, 1) := by decide +kernel
theorem dJ6_bitCount_0f7a4_41 : decode cJ6_bitCount_0f7a4 41 = .ok (.iload_n 0, 1) := by decide +kernel
theorem dJ6_bitCount_0f7a4_42 : decode cJ6_bitCount_0f7a4 42 = .ok (.iload_n 0, 1) := by decide +kernel
theorem dJ6_bitCount_0f7a4_43 : decode cJ6_bitCount_0f7a4 43 = .ok (.bipush 16, 2) := by decide +kernel
theorem dJ6_bitCount_0f7a4_45 : decode cJ6_bitCount_0f7a4 45 = .ok (.iushr, 1) := by decide +kernel
theorem dJ6_bitCount_0f7a4_46 : decode cJ6_bitCount_0f7a4 46 = .ok (.iadd, 1) := by decide +kernel
theorem dJ6_bitCount_0f7a4_47 : decode cJ6_bitCount_0f7a4 47 = .ok (.istore_n 0, 1) := by decide +kernel
theorem dJ6_bitCount_0f7a4_48 : decode cJ6_bitCount_0f7a4 48 = .ok (.iload_n 0, 1) := by decide +kernel
theorem dJ6_bitCount_0f7a4_49 : decode cJ6_bitCount_0f7a4 49 = .ok (.bipush 63, 2) := by decide +kernel
theorem dJ6_bitCount_0f7a4_51 : decode cJ6_bitCount_0f7a4 51 = .ok (.iand, 1) := by decide +kernel
theorem dJ6_bitCount_0f7a4_52 : decode cJ6_bitCount_0f7a4 52 = .ok (.ireturn, 1) := by decide +kernel
theorem dJ9_max_7cf53_0 : decode cJ9_max_7cf53 0 = .ok (.iload_n 0, 1) := by decide +kernel
theorem dJ9_max_7cf53_1 : decode cJ9_max_7cf53 1 = .ok (.iload_n 1, 1) := by decide +kernel
theorem dJ9_max_7cf53_2 : decode cJ9_max_7cf53 2 = .ok (.if_icmp .lt 7, 3) := by decide +kernel
theorem dJ9_max_7cf53_5 : decode cJ9_max_7cf53 5 = .ok (.iload_n 0, 1) := by decide +kernel
theorem dJ9_max_7cf53_6 : decode cJ9_max_7cf53 6 = .ok (.goto 4, 3) := by decide +kernel
theorem dJ9_max_7cf53_9 : decode cJ9_max_7cf53 9 = .ok (.iload_n 1, 1) := by decide +kernel
theorem dJ9_max_7cf53_10 : decode cJ9_max_7cf53 10 = .ok (.ireturn, 1) := by decide +kernel
theorem dJ9_min_7cf53_0 : decode cJ9_min_7cf53 0 = .ok (.iload_n 0, 1) := by decide +kernel
theorem dJ9_min_7cf53_1 : decode cJ9_min_7cf53 1 = .ok (.iload_n 1, 1) := by decide +kernel
theorem dJ9_min_7cf53_2 : decode cJ9_min_7cf53 2 = .ok (.if_icmp .gt 7, 3) := by decide +kernel
theorem dJ9_min_7cf53_5 : decode cJ9_min_7cf53 5 = .ok (.iload_n 0, 1) := by decide +kernel
theorem dJ9_min_7cf53_6 : decode cJ9_min_7cf53 6 = .ok (.goto 4, 3) := by decide +kernel
theorem dJ9_min_7cf53_9 : decode cJ9_min_7cf53 9 = .ok (.iload_n 1, 1) := by decide +kernel
theorem dJ9_min_7cf53_10 : decode cJ9_min_7cf53 10 = .ok (.ireturn, 1) := by decide +kernel
theorem dL_law_0 : decode cL_law 0 = .ok (.new 7, 3) := by decide +kernel
theorem dL_law_3 : decode cL_law 3 = .ok (.dup, 1) := by decide +kernel
theorem dL_law_4 : decode cL_law 4 = .ok (.invokespecial 9, 3) := by decide +kernel
theorem dL_law_7 : decode cL_law 7 = .ok (.astore_n 1, 1) := by decide +kernel
theorem dL_law_8 : decode cL_law 8 = .ok (.new 10, 3) := by decide +kernel
theorem dL_law_11 : decode cL_law 11 = .ok (.dup, 1) := by decide +kernel
theorem dL_law_12 : decode cL_law 12 = .ok (.invokespecial 12, 3) := by decide +kernel
theorem dL_law_15 : decode cL_law 15 = .ok (.astore_n 2, 1) := by decide +kernel
theorem dL_law_16 : decode cL_law 16 = .ok (.iconst 0, 1) := by decide +kernel
theorem dL_law_17 : decode cL_law 17 = .ok (.istore_n 3, 1) := by decide +kernel
theorem dL_law_18 : decode cL_law 18 = .ok (.iload_n 3, 1) := by decide +kernel
theorem dL_law_19 : decode cL_law 19 = .ok (.aload_n 0, 1) := by decide +kernel
theorem dL_law_20 : decode cL_law 20 = .ok (.arraylength, 1) := by decide +kernel
theorem dL_law_21 : decode cL_law 21 = .ok (.bipush 6, 2) := by decide +kernel
theorem dL_law_23 : decode cL_law 23 = .ok (.isub, 1) := by decide +kernel
theorem dL_law_24 : decode cL_law 24 = .ok (.if_icmp .gt 905, 3) := by decide +kernel
theorem dL_law_27 : decode cL_law 27 = .ok (.aload_n 0, 1) := by decide +kernel
theorem dL_law_28 : decode cL_law 28 = .ok (.iload_n 3, 1) := by decide +kernel
theorem dL_law_29 : decode cL_law 29 = .ok (.iaload, 1) := by decide +kernel
theorem dL_law_30 : decode cL_law 30 = .ok (.bipush 31, 2) := by decide +kernel
theorem dL_law_32 : decode cL_law 32 = .ok (.iand, 1) := by decide +kernel
theorem dL_law_33 : decode cL_law 33 = .ok (.tableswitch 890 0 25 #[119, 142, 155, 168, 181, 214, 237, 270, 303, 326, 339, 372, 395, 428, 451, 474, 537, 590, 603, 616, 665, 744, 798, 821, 844, 867], 119) := by decide +kernel
theorem dL_law_152 : decode cL_law 152 = .ok (.aload_n 1, 1) := by decide +kernel
theorem dL_law_153 : decode cL_law 153 = .ok (.aload_n 0, 1) := by decide +kernel
theorem dL_law_154 : decode cL_law 154 = .ok (.iload_n 3, 1) := by decide +kernel
theorem dL_law_155 : decode cL_law 155 = .ok (.iconst 1, 1) := by decide +kernel
theorem dL_law_156 : decode cL_law 156 = .ok (.iadd, 1) := by decide +kernel
theorem dL_law_157 : decode cL_law 157 = .ok (.iaload, 1) := by decide +kernel
theorem dL_law_158 : decode cL_law 158 = .ok (.invokevirtual 13, 3) := by decide +kernel
theorem dL_law_161 : decode cL_law 161 = .ok (.aload_n 2, 1) := by decide +kernel
theorem dL_law_162 : decode cL_law 162 = .ok (.aload_n 0, 1) := by decide +kernel
theorem dL_law_163 : decode cL_law 163 = .ok (.iload_n 3, 1) := by decide +kernel
theorem dL_law_164 : decode cL_law 164 = .ok (.iconst 1, 1) := by decide +kernel
theorem dL_law_165 : decode cL_law 165 = .ok (.iadd, 1) := by decide +kernel
theorem dL_law_166 : decode cL_law 166 = .ok (.iaload, 1) := by decide +kernel
theorem dL_law_167 : decode cL_law 167 = .ok (.invokevirtual 17, 3) := by decide +kernel
theorem dL_law_170 : decode cL_law 170 = .ok (.if_icmp .eq 753, 3) := by decide +kernel
theorem dL_law_173 : decode cL_law 173 = .ok (.iconst 0, 1) := by decide +kernel
theorem dL_law_174 : decode cL_law 174 = .ok (.ireturn, 1) := by decide +kernel
theorem dL_law_175 : decode cL_law 175 = .ok (.aload_n 1, 1) := by decide +kernel
theorem dL_law_176 : decode cL_law 176 = .ok (.invokevirtual 18, 3) := by decide +kernel
theorem dL_law_179 : decode cL_law 179 = .ok (.aload_n 2, 1) := by decide +kernel
theorem dL_law_180 : decode cL_law 180 = .ok (.invokevirtual 22, 3) := by decide +kernel
theorem dL_law_183 : decode cL_law 183 = .ok (.if_icmp .eq 740, 3) := by decide +kernel
theorem dL_law_186 : decode cL_law 186 = .ok (.iconst 0, 1) := by decide +kernel
theorem dL_law_187 : decode cL_law 187 = .ok (.ireturn, 1) := by decide +kernel
theorem dL_law_188 : decode cL_law 188 = .ok (.aload_n 1, 1) := by decide +kernel
theorem dL_law_189 : decode cL_law 189 = .ok (.invokevirtual 23, 3) := by decide +kernel
theorem dL_law_192 : decode cL_law 192 = .ok (.aload_n 2, 1) := by decide +kernel
theorem dL_law_193 : decode cL_law 193 = .ok (.invokevirtual 26, 3) := by decide +kernel
theorem dL_law_196 : decode cL_law 196 = .ok (.if_icmp .eq 727, 3) := by decide +kernel
theorem dL_law_199 : decode cL_law 199 = .ok (.iconst 0, 1) := by decide +kernel
theorem dL_law_200 : decode cL_law 200 = .ok (.ireturn, 1) := by decide +kernel
theorem dL_law_201 : decode cL_law 201 = .ok (.aload_n 1, 1) := by decide +kernel
theorem dL_law_202 : decode cL_law 202 = .ok (.invokevirtual 27, 3) := by decide +kernel
theorem dL_law_205 : decode cL_law 205 = .ok (.aload_n 2, 1) := by decide +kernel
theorem dL_law_206 : decode cL_law 206 = .ok (.invokevirtual 30, 3) := by decide +kernel
theorem dL_law_209 : decode cL_law 209 = .ok (.if_icmp .eq 714, 3) := by decide +kernel
theorem dL_law_212 : decode cL_law 212 = .ok (.iconst 0, 1) := by decide +kernel
theorem dL_law_213 : decode cL_law 213 = .ok (.ireturn, 1) := by decide +kernel
theorem dL_law_214 : decode cL_law 214 = .ok (.aload_n 1, 1) := by decide +kernel
theorem dL_law_215 : decode cL_law 215 = .ok (.aload_n 0, 1) := by decide +kernel
theorem dL_law_216 : decode cL_law 216 = .ok (.iload_n 3, 1) := by decide +kernel
theorem dL_law_217 : decode cL_law 217 = .ok (.iconst 1, 1) := by decide +kernel
theorem dL_law_218 : decode cL_law 218 = .ok (.iadd, 1) := by decide +kernel
theorem dL_law_219 : decode cL_law 219 = .ok (.iaload, 1) := by decide +kernel
theorem dL_law_220 : decode cL_law 220 = .ok (.aload_n 0, 1) := by decide +kernel
theorem dL_law_221 : decode cL_law 221 = .ok (.iload_n 3, 1) := by decide +kernel
theorem dL_law_222 : decode cL_law 222 = .ok (.iconst 2, 1) := by decide +kernel
theorem dL_law_223 : decode cL_law 223 = .ok (.iadd, 1) := by decide +kernel
theorem dL_law_224 : decode cL_law 224 = .ok (.iaload, 1) := by decide +kernel
theorem dL_law_225 : decode cL_law 225 = .ok (.invokevirtual 31, 3) := by decide +kernel
theorem dL_law_228 : decode cL_law 228 = .ok (.aload_n 2, 1) := by decide +kernel
theorem dL_law_229 : decode cL_law 229 = .ok (.aload_n 0, 1) := by decide +kernel
theorem dL_law_230 : decode cL_law 230 = .ok (.iload_n 3, 1) := by decide +kernel
theorem dL_law_231 : decode cL_law 231 = .ok (.iconst 1, 1) := by decide +kernel
theorem dL_law_232 : decode cL_law 232 = .ok (.iadd, 1) := by decide +kernel
theorem dL_law_233 : decode cL_law 233 = .ok (.iaload, 1) := by decide +kernel
theorem dL_law_234 : decode cL_law 234 = .ok (.aload_n 0, 1) := by decide +kernel
theorem dL_law_235 : decode cL_law 235 = .ok (.iload_n 3, 1) := by decide +kernel
theorem dL_law_236 : decode cL_law 236 = .ok (.iconst 2, 1) := by decide +kernel
theorem dL_law_237 : decode cL_law 237 = .ok (.iadd, 1) := by decide +kernel
theorem dL_law_238 : decode cL_law 238 = .ok (.iaload, 1) := by decide +kernel
theorem dL_law_239 : decode cL_law 239 = .ok (.invokevirtual 35, 3) := by decide +kernel
theorem dL_law_242 : decode cL_law 242 = .ok (.if_icmp .eq 681, 3) := by decide +kernel
theorem dL_law_245 : decode cL_law 245 = .ok (.iconst 0, 1) := by decide +kernel
theorem dL_law_246 : decode cL_law 246 = .ok (.ireturn, 1) := by decide +kernel
theorem dL_law_247 : decode cL_law 247 = .ok (.aload_n 1, 1) := by decide +kernel
theorem dL_law_248 : decode cL_law 248 = .ok (.aload_n 0, 1) := by decide +kernel
theorem dL_law_249 : decode cL_law 249 = .ok (.iload_n 3, 1) := by decide +kernel
theorem dL_law_250 : decode cL_law 250 = .ok (.iconst 1, 1) := by decide +kernel
theorem dL_law_251 : decode cL_law 251 = .ok (.iadd, 1) := by decide +kernel
theorem dL_law_252 : decode cL_law 252 = .ok (.iaload, 1) := by decide +kernel
theorem dL_law_253 : decode cL_law 253 = .ok (.invokevirtual 36, 3) := by decide +kernel
theorem dL_law_256 : decode cL_law 256 = .ok (.aload_n 2, 1) := by decide +kernel
theorem dL_law_257 : decode cL_law 257 = .ok (.aload_n 0, 1) := by decide +kernel
theorem dL_law_258 : decode cL_law 258 = .ok (.iload_n 3, 1) := by decide +kernel
theorem dL_law_259 : decode cL_law 259 = .ok (.iconst 1, 1) := by decide +kernel
theorem dL_law_260 : decode cL_law 260 = .ok (.iadd, 1) := by decide +kernel
theorem dL_law_261 : decode cL_law 261 = .ok (.iaload, 1) := by decide +kernel
theorem dL_law_262 : decode cL_law 262 = .ok (.invokevirtual 39, 3) := by decide +kernel
theorem dL_law_265 : decode cL_law 265 = .ok (.if_icmp .eq 658, 3) := by decide +kernel
theorem dL_law_268 : decode cL_law 268 = .ok (.iconst 0, 1) := by decide +kernel
theorem dL_law_269 : decode cL_law 269 = .ok (.ireturn, 1) := by decide +kernel
theorem dL_law_270 : decode cL_law 270 = .ok (.aload_n 1, 1) := by decide +kernel
theorem dL_law_271 : decode cL_law 271 = .ok (.aload_n 0, 1) := by decide +kernel
theorem dL_law_272 : decode cL_law 272 = .ok (.iload_n 3, 1) := by decide +kernel
theorem dL_law_273 : decode cL_law 273 = .ok (.iconst 1, 1) := by decide +kernel
theorem dL_law_274 : decode cL_law 274 = .ok (.iadd, 1) := by decide +kernel
theorem dL_law_275 : decode cL_law 275 = .ok (.iaload, 1) := by decide +kernel
theorem dL_law_276 : decode cL_law 276 = .ok (.aload_n 0, 1) := by decide +kernel
theorem dL_law_277 : decode cL_law 277 = .ok (.iload_n 3, 1) := by decide +kernel
theorem dL_law_278 : decode cL_law 278 = .ok (.iconst 2, 1) := by decide +kernel
theorem dL_law_279 : decode cL_law 279 = .ok (.iadd, 1) := by decide +kernel
theorem dL_law_280 : decode cL_law 280 = .ok (.iaload, 1) := by decide +kernel
theorem dL_law_281 : decode cL_law 281 = .ok (.invokevirtual 40, 3) := by decide +kernel
theorem dL_law_284 : decode cL_law 284 = .ok (.aload_n 2, 1) := by decide +kernel
theorem dL_law_285 : decode cL_law 285 = .ok (.aload_n 0, 1) := by decide +kernel
theorem dL_law_286 : decode cL_law 286 = .ok (.iload_n 3, 1) := by decide +kernel
theorem dL_law_287 : decode cL_law 287 = .ok (.iconst 1, 1) := by decide +kernel
theorem dL_law_288 : decode cL_law 288 = .ok (.iadd, 1) := by decide +kernel
theorem dL_law_289 : decode cL_law 289 = .ok (.iaload, 1) := by decide +kernel
theorem dL_law_290 : decode cL_law 290 = .ok (.aload_n 0, 1) := by decide +kernel
theorem dL_law_291 : decode cL_law 291 = .ok (.iload_n 3, 1) := by decide +kernel
theorem dL_law_292 : decode cL_law 292 = .ok (.iconst 2, 1) := by decide +kernel
theorem dL_law_293 : decode cL_law 293 = .ok (.iadd, 1) := by decide +kernel
theorem dL_law_294 : decode cL_law 294 = .ok (.iaload, 1) := by decide +kernel
theorem dL_law_295 : decode cL_law 295 = .ok (.invokevirtual 43, 3) := by decide +kernel
theorem dL_law_298 : decode cL_law 298 = .ok (.if_icmp .eq 625, 3) := by decide +kernel
theorem dL_law_301 : decode cL_law 301 = .ok (.iconst 0, 1) := by decide +kernel
theorem dL_law_302 : decode cL_law 302 = .ok (.ireturn, 1) := by decide +kernel
theorem dL_law_303 : decode cL_law 303 = .ok (.aload_n 1, 1) := by decide +kernel
theorem dL_law_304 : decode cL_law 304 = .ok (.aload_n 0, 1) := by decide +kernel
theorem dL_law_305 : decode cL_law 305 = .ok (.iload_n 3, 1) := by decide +kernel
theorem dL_law_306 : decode cL_law 306 = .ok (.iconst 1, 1) := by decide +kernel
theorem dL_law_307 : decode cL_law 307 = .ok (.iadd, 1) := by decide +kernel
theorem dL_law_308 : decode cL_law 308 = .ok (.iaload, 1) := by decide +kernel
theorem dL_law_309 : decode cL_law 309 = .ok (.aload_n 0, 1) := by decide +kernel
theorem dL_law_310 : decode cL_law 310 = .ok (.iload_n 3, 1) := by decide +kernel
theorem dL_law_311 : decode cL_law 311 = .ok (.iconst 2, 1) := by decide +kernel
theorem dL_law_312 : decode cL_law 312 = .ok (.iadd, 1) := by decide +kernel
theorem dL_law_313 : decode cL_law 313 = .ok (.iaload, 1) := by decide +kernel
theorem dL_law_314 : decode cL_law 314 = .ok (.invokevirtual 44, 3) := by decide +kernel
theorem dL_law_317 : decode cL_law 317 = .ok (.aload_n 2, 1) := by decide +kernel
theorem dL_law_318 : decode cL_law 318 = .ok (.aload_n 0, 1) := by decide +kernel
theorem dL_law_319 : decode cL_law 319 = .ok (.iload_n 3, 1) := by decide +kernel
theorem dL_law_320 : decode cL_law 320 = .ok (.iconst 1, 1) := by decide +kernel
theorem dL_law_321 : decode cL_law 321 = .ok (.iadd, 1) := by decide +kernel
theorem dL_law_322 : decode cL_law 322 = .ok (.iaload, 1) := by decide +kernel
theorem dL_law_323 : decode cL_law 323 = .ok (.aload_n 0, 1) := by decide +kernel
theorem dL_law_324 : decode cL_law 324 = .ok (.iload_n 3, 1) := by decide +kernel
theorem dL_law_325 : decode cL_law 325 = .ok (.iconst 2, 1) := by decide +kernel
theorem dL_law_326 : decode cL_law 326 = .ok (.iadd, 1) := by decide +kernel
theorem dL_law_327 : decode cL_law 327 = .ok (.iaload, 1) := by decide +kernel
theorem dL_law_328 : decode cL_law 328 = .ok (.invokevirtual 47, 3) := by decide +kernel
theorem dL_law_331 : decode cL_law 331 = .ok (.if_icmp .eq 592, 3) := by decide +kernel
theorem dL_law_334 : decode cL_law 334 = .ok (.iconst 0, 1) := by decide +kernel
theorem dL_law_335 : decode cL_law 335 = .ok (.ireturn, 1) := by decide +kernel
theorem dL_law_336 : decode cL_law 336 = .ok (.aload_n 1, 1) := by decide +kernel
theorem dL_law_337 : decode cL_law 337 = .ok (.aload_n 0, 1) := by decide +kernel
theorem dL_law_338 : decode cL_law 338 = .ok (.iload_n 3, 1) := by decide +kernel
theorem dL_law_339 : decode cL_law 339 = .ok (.iconst 1, 1) := by decide +kernel
theorem dL_law_340 : decode cL_law 340 = .ok (.iadd, 1) := by decide +kernel
theorem dL_law_341 : decode cL_law 341 = .ok (.iaload, 1) := by decide +kernel
theorem dL_law_342 : decode cL_law 342 = .ok (.invokevirtual 48, 3) := by decide +kernel
theorem dL_law_345 : decode cL_law 345 = .ok (.aload_n 2, 1) := by decide +kernel
theorem dL_law_346 : decode cL_law 346 = .ok (.aload_n 0, 1) := by decide +kernel
theorem dL_law_347 : decode cL_law 347 = .ok (.iload_n 3, 1) := by decide +kernel
theorem dL_law_348 : decode cL_law 348 = .ok (.iconst 1, 1) := by decide +kernel
theorem dL_law_349 : decode cL_law 349 = .ok (.iadd, 1) := by decide +kernel
theorem dL_law_350 : decode cL_law 350 = .ok (.iaload, 1) := by decide +kernel
theorem dL_law_351 : decode cL_law 351 = .ok (.invokevirtual 51, 3) := by decide +kernel
theorem dL_law_354 : decode cL_law 354 = .ok (.if_icmp .eq 569, 3) := by decide +kernel
theorem dL_law_357 : decode cL_law 357 = .ok (.iconst 0, 1) := by decide +kernel
theorem dL_law_358 : decode cL_law 358 = .ok (.ireturn, 1) := by decide +kernel
theorem dL_law_359 : decode cL_law 359 = .ok (.aload_n 1, 1) := by decide +kernel
theorem dL_law_360 : decode cL_law 360 = .ok (.invokevirtual 52, 3) := by decide +kernel
theorem dL_law_363 : decode cL_law 363 = .ok (.aload_n 2, 1) := by decide +kernel
theorem dL_law_364 : decode cL_law 364 = .ok (.invokevirtual 55, 3) := by decide +kernel
theorem dL_law_367 : decode cL_law 367 = .ok (.if_icmp .eq 556, 3) := by decide +kernel
theorem dL_law_370 : decode cL_law 370 = .ok (.iconst 0, 1) := by decide +kernel
theorem dL_law_371 : decode cL_law 371 = .ok (.ireturn, 1) := by decide +kernel
theorem dL_law_372 : decode cL_law 372 = .ok (.aload_n 1, 1) := by decide +kernel
theorem dL_law_373 : decode cL_law 373 = .ok (.aload_n 0, 1) := by decide +kernel
theorem dL_law_374 : decode cL_law 374 = .ok (.iload_n 3, 1) := by decide +kernel
theorem dL_law_375 : decode cL_law 375 = .ok (.iconst 1, 1) := by decide +kernel
theorem dL_law_376 : decode cL_law 376 = .ok (.iadd, 1) := by decide +kernel
theorem dL_law_377 : decode cL_law 377 = .ok (.iaload, 1) := by decide +kernel
theorem dL_law_378 : decode cL_law 378 = .ok (.aload_n 0, 1) := by decide +kernel
theorem dL_law_379 : decode cL_law 379 = .ok (.iload_n 3, 1) := by decide +kernel
theorem dL_law_380 : decode cL_law 380 = .ok (.iconst 2, 1) := by decide +kernel
theorem dL_law_381 : decode cL_law 381 = .ok (.iadd, 1) := by decide +kernel
theorem dL_law_382 : decode cL_law 382 = .ok (.iaload, 1) := by decide +kernel
theorem dL_law_383 : decode cL_law 383 = .ok (.invokevirtual 56, 3) := by decide +kernel
theorem dL_law_386 : decode cL_law 386 = .ok (.aload_n 2, 1) := by decide +kernel
theorem dL_law_387 : decode cL_law 387 = .ok (.aload_n 0, 1) := by decide +kernel
theorem dL_law_388 : decode cL_law 388 = .ok (.iload_n 3, 1) := by decide +kernel
theorem dL_law_389 : decode cL_law 389 = .ok (.iconst 1, 1) := by decide +kernel
theorem dL_law_390 : decode cL_law 390 = .ok (.iadd, 1) := by decide +kernel
theorem dL_law_391 : decode cL_law 391 = .ok (.iaload, 1) := by decide +kernel
theorem dL_law_392 : decode cL_law 392 = .ok (.aload_n 0, 1) := by decide +kernel
theorem dL_law_393 : decode cL_law 393 = .ok (.iload_n 3, 1) := by decide +kernel
theorem dL_law_394 : decode cL_law 394 = .ok (.iconst 2, 1) := by decide +kernel
theorem dL_law_395 : decode cL_law 395 = .ok (.iadd, 1) := by decide +kernel
theorem dL_law_396 : decode cL_law 396 = .ok (.iaload, 1) := by decide +kernel
theorem dL_law_397 : decode cL_law 397 = .ok (.invokevirtual 59, 3) := by decide +kernel
theorem dL_law_400 : decode cL_law 400 = .ok (.if_icmp .eq 523, 3) := by decide +kernel
theorem dL_law_403 : decode cL_law 403 = .ok (.iconst 0, 1) := by decide +kernel
theorem dL_law_404 : decode cL_law 404 = .ok (.ireturn, 1) := by decide +kernel
theorem dL_law_405 : decode cL_law 405 = .ok (.aload_n 1, 1) := by decide +kernel
theorem dL_law_406 : decode cL_law 406 = .ok (.aload_n 0, 1) := by decide +kernel
theorem dL_law_407 : decode cL_law 407 = .ok (.iload_n 3, 1) := by decide +kernel
theorem dL_law_408 : decode cL_law 408 = .ok (.iconst 1, 1) := by decide +kernel
theorem dL_law_409 : decode cL_law 409 = .ok (.iadd, 1) := by decide +kernel
theorem dL_law_410 : decode cL_law 410 = .ok (.iaload, 1) := by decide +kernel
theorem dL_law_411 : decode cL_law 411 = .ok (.invokevirtual 60, 3) := by decide +kernel
theorem dL_law_414 : decode cL_law 414 = .ok (.aload_n 2, 1) := by decide +kernel
theorem dL_law_415 : decode cL_law 415 = .ok (.aload_n 0, 1) := by decide +kernel
theorem dL_law_416 : decode cL_law 416 = .ok (.iload_n 3, 1) := by decide +kernel
theorem dL_law_417 : decode cL_law 417 = .ok (.iconst 1, 1) := by decide +kernel
theorem dL_law_418 : decode cL_law 418 = .ok (.iadd, 1) := by decide +kernel
theorem dL_law_419 : decode cL_law 419 = .ok (.iaload, 1) := by decide +kernel
theorem dL_law_420 : decode cL_law 420 = .ok (.invokevirtual 63, 3) := by decide +kernel
theorem dL_law_423 : decode cL_law 423 = .ok (.if_icmp .eq 500, 3) := by decide +kernel
theorem dL_law_426 : decode cL_law 426 = .ok (.iconst 0, 1) := by decide +kernel
theorem dL_law_427 : decode cL_law 427 = .ok (.ireturn, 1) := by decide +kernel
theorem dL_law_428 : decode cL_law 428 = .ok (.aload_n 1, 1) := by decide +kernel
theorem dL_law_429 : decode cL_law 429 = .ok (.aload_n 0, 1) := by decide +kernel
theorem dL_law_430 : decode cL_law 430 = .ok (.iload_n 3, 1) := by decide +kernel
theorem dL_law_431 : decode cL_law 431 = .ok (.iconst 1, 1) := by decide +kernel
theorem dL_law_432 : decode cL_law 432 = .ok (.iadd, 1) := by decide +kernel
theorem dL_law_433 : decode cL_law 433 = .ok (.iaload, 1) := by decide +kernel
theorem dL_law_434 : decode cL_law 434 = .ok (.aload_n 0, 1) := by decide +kernel
theorem dL_law_435 : decode cL_law 435 = .ok (.iload_n 3, 1) := by decide +kernel
theorem dL_law_436 : decode cL_law 436 = .ok (.iconst 2, 1) := by decide +kernel
theorem dL_law_437 : decode cL_law 437 = .ok (.iadd, 1) := by decide +kernel
theorem dL_law_438 : decode cL_law 438 = .ok (.iaload, 1) := by decide +kernel
theorem dL_law_439 : decode cL_law 439 = .ok (.invokevirtual 64, 3) := by decide +kernel
theorem dL_law_442 : decode cL_law 442 = .ok (.aload_n 2, 1) := by decide +kernel
theorem dL_law_443 : decode cL_law 443 = .ok (.aload_n 0, 1) := by decide +kernel
theorem dL_law_444 : decode cL_law 444 = .ok (.iload_n 3, 1) := by decide +kernel
theorem dL_law_445 : decode cL_law 445 = .ok (.iconst 1, 1) := by decide +kernel
theorem dL_law_446 : decode cL_law 446 = .ok (.iadd, 1) := by decide +kernel
theorem dL_law_447 : decode cL_law 447 = .ok (.iaload, 1) := by decide +kernel
theorem dL_law_448 : decode cL_law 448 = .ok (.aload_n 0, 1) := by decide +kernel
theorem dL_law_449 : decode cL_law 449 = .ok (.iload_n 3, 1) := by decide +kernel
theorem dL_law_450 : decode cL_law 450 = .ok (.iconst 2, 1) := by decide +kernel
theorem dL_law_451 : decode cL_law 451 = .ok (.iadd, 1) := by decide +kernel
theorem dL_law_452 : decode cL_law 452 = .ok (.iaload, 1) := by decide +kernel
theorem dL_law_453 : decode cL_law 453 = .ok (.invokevirtual 67, 3) := by decide +kernel
theorem dL_law_456 : decode cL_law 456 = .ok (.if_icmp .eq 467, 3) := by decide +kernel
theorem dL_law_459 : decode cL_law 459 = .ok (.iconst 0, 1) := by decide +kernel
theorem dL_law_460 : decode cL_law 460 = .ok (.ireturn, 1) := by decide +kernel
theorem dL_law_461 : decode cL_law 461 = .ok (.aload_n 1, 1) := by decide +kernel
theorem dL_law_462 : decode cL_law 462 = .ok (.aload_n 0, 1) := by decide +kernel
theorem dL_law_463 : decode cL_law 463 = .ok (.iload_n 3, 1) := by decide +kernel
theorem dL_law_464 : decode cL_law 464 = .ok (.iconst 1, 1) := by decide +kernel
theorem dL_law_465 : decode cL_law 465 = .ok (.iadd, 1) := by decide +kernel
theorem dL_law_466 : decode cL_law 466 = .ok (.iaload, 1) := by decide +kernel
theorem dL_law_467 : decode cL_law 467 = .ok (.invokevirtual 68, 3) := by decide +kernel
theorem dL_law_470 : decode cL_law 470 = .ok (.aload_n 2, 1) := by decide +kernel
theorem dL_law_471 : decode cL_law 471 = .ok (.aload_n 0, 1) := by decide +kernel
theorem dL_law_472 : decode cL_law 472 = .ok (.iload_n 3, 1) := by decide +kernel
theorem dL_law_473 : decode cL_law 473 = .ok (.iconst 1, 1) := by decide +kernel
theorem dL_law_474 : decode cL_law 474 = .ok (.iadd, 1) := by decide +kernel
theorem dL_law_475 : decode cL_law 475 = .ok (.iaload, 1) := by decide +kernel
theorem dL_law_476 : decode cL_law 476 = .ok (.invokevirtual 71, 3) := by decide +kernel
theorem dL_law_479 : decode cL_law 479 = .ok (.if_icmp .eq 444, 3) := by decide +kernel
theorem dL_law_482 : decode cL_law 482 = .ok (.iconst 0, 1) := by decide +kernel
theorem dL_law_483 : decode cL_law 483 = .ok (.ireturn, 1) := by decide +kernel
theorem dL_law_484 : decode cL_law 484 = .ok (.aload_n 1, 1) := by decide +kernel
theorem dL_law_485 : decode cL_law 485 = .ok (.aload_n 0, 1) := by decide +kernel
theorem dL_law_486 : decode cL_law 486 = .ok (.iload_n 3, 1) := by decide +kernel
theorem dL_law_487 : decode cL_law 487 = .ok (.iconst 1, 1) := by decide +kernel
theorem dL_law_488 : decode cL_law 488 = .ok (.iadd, 1) := by decide +kernel
theorem dL_law_489 : decode cL_law 489 = .ok (.iaload, 1) := by decide +kernel
theorem dL_law_490 : decode cL_law 490 = .ok (.invokevirtual 72, 3) := by decide +kernel
theorem dL_law_493 : decode cL_law 493 = .ok (.aload_n 2, 1) := by decide +kernel
theorem dL_law_494 : decode cL_law 494 = .ok (.aload_n 0, 1) := by decide +kernel
theorem dL_law_495 : decode cL_law 495 = .ok (.iload_n 3, 1) := by decide +kernel
theorem dL_law_496 : decode cL_law 496 = .ok (.iconst 1, 1) := by decide +kernel
theorem dL_law_497 : decode cL_law 497 = .ok (.iadd, 1) := by decide +kernel
theorem dL_law_498 : decode cL_law 498 = .ok (.iaload, 1) := by decide +kernel
theorem dL_law_499 : decode cL_law 499 = .ok (.invokevirtual 75, 3) := by decide +kernel
theorem dL_law_502 : decode cL_law 502 = .ok (.if_icmp .eq 421, 3) := by decide +kernel
theorem dL_law_505 : decode cL_law 505 = .ok (.iconst 0, 1) := by decide +kernel
theorem dL_law_506 : decode cL_law 506 = .ok (.ireturn, 1) := by decide +kernel
theorem dL_law_507 : decode cL_law 507 = .ok (.aload_n 1, 1) := by decide +kernel
theorem dL_law_508 : decode cL_law 508 = .ok (.aload_n 0, 1) := by decide +kernel
theorem dL_law_509 : decode cL_law 509 = .ok (.iload_n 3, 1) := by decide +kernel
theorem dL_law_510 : decode cL_law 510 = .ok (.iconst 1, 1) := by decide +kernel
theorem dL_law_511 : decode cL_law 511 = .ok (.iadd, 1) := by decide +kernel
theorem dL_law_512 : decode cL_law 512 = .ok (.iaload, 1) := by decide +kernel
theorem dL_law_513 : decode cL_law 513 = .ok (.aload_n 0, 1) := by decide +kernel
theorem dL_law_514 : decode cL_law 514 = .ok (.iload_n 3, 1) := by decide +kernel
theorem dL_law_515 : decode cL_law 515 = .ok (.iconst 2, 1) := by decide +kernel
theorem dL_law_516 : decode cL_law 516 = .ok (.iadd, 1) := by decide +kernel
theorem dL_law_517 : decode cL_law 517 = .ok (.iaload, 1) := by decide +kernel
theorem dL_law_518 : decode cL_law 518 = .ok (.i2l, 1) := by decide +kernel
theorem dL_law_519 : decode cL_law 519 = .ok (.bipush 32, 2) := by decide +kernel
theorem dL_law_521 : decode cL_law 521 = .ok (.lshl, 1) := by decide +kernel
theorem dL_law_522 : decode cL_law 522 = .ok (.aload_n 0, 1) := by decide +kernel
theorem dL_law_523 : decode cL_law 523 = .ok (.iload_n 3, 1) := by decide +kernel
theorem dL_law_524 : decode cL_law 524 = .ok (.iconst 3, 1) := by decide +kernel
theorem dL_law_525 : decode cL_law 525 = .ok (.iadd, 1) := by decide +kernel
theorem dL_law_526 : decode cL_law 526 = .ok (.iaload, 1) := by decide +kernel
theorem dL_law_527 : decode cL_law 527 = .ok (.i2l, 1) := by decide +kernel
theorem dL_law_528 : decode cL_law 528 = .ok (.ldc2_w 76, 3) := by decide +kernel
theorem dL_law_531 : decode cL_law 531 = .ok (.land, 1) := by decide +kernel
theorem dL_law_532 : decode cL_law 532 = .ok (.lor, 1) := by decide +kernel
theorem dL_law_533 : decode cL_law 533 = .ok (.invokevirtual 78, 3) := by decide +kernel
theorem dL_law_536 : decode cL_law 536 = .ok (.aload_n 2, 1) := by decide +kernel
theorem dL_law_537 : decode cL_law 537 = .ok (.aload_n 0, 1) := by decide +kernel
theorem dL_law_538 : decode cL_law 538 = .ok (.iload_n 3, 1) := by decide +kernel
theorem dL_law_539 : decode cL_law 539 = .ok (.iconst 1, 1) := by decide +kernel
theorem dL_law_540 : decode cL_law 540 = .ok (.iadd, 1) := by decide +kernel
theorem dL_law_541 : decode cL_law 541 = .ok (.iaload, 1) := by decide +kernel
theorem dL_law_542 : decode cL_law 542 = .ok (.aload_n 0, 1) := by decide +kernel
theorem dL_law_543 : decode cL_law 543 = .ok (.iload_n 3, 1) := by decide +kernel
theorem dL_law_544 : decode cL_law 544 = .ok (.iconst 2, 1) := by decide +kernel
theorem dL_law_545 : decode cL_law 545 = .ok (.iadd, 1) := by decide +kernel
theorem dL_law_546 : decode cL_law 546 = .ok (.iaload, 1) := by decide +kernel
theorem dL_law_547 : decode cL_law 547 = .ok (.i2l, 1) := by decide +kernel
theorem dL_law_548 : decode cL_law 548 = .ok (.bipush 32, 2) := by decide +kernel
theorem dL_law_550 : decode cL_law 550 = .ok (.lshl, 1) := by decide +kernel
theorem dL_law_551 : decode cL_law 551 = .ok (.aload_n 0, 1) := by decide +kernel
theorem dL_law_552 : decode cL_law 552 = .ok (.iload_n 3, 1) := by decide +kernel
theorem dL_law_553 : decode cL_law 553 = .ok (.iconst 3, 1) := by decide +kernel
theorem dL_law_554 : decode cL_law 554 = .ok (.iadd, 1) := by decide +kernel
theorem dL_law_555 : decode cL_law 555 = .ok (.iaload, 1) := by decide +kernel
theorem dL_law_556 : decode cL_law 556 = .ok (.i2l, 1) := by decide +kernel
theorem dL_law_557 : decode cL_law 557 = .ok (.ldc2_w 76, 3) := by decide +kernel
theorem dL_law_560 : decode cL_law 560 = .ok (.land, 1) := by decide +kernel
theorem dL_law_561 : decode cL_law 561 = .ok (.lor, 1) := by decide +kernel
theorem dL_law_562 : decode cL_law 562 = .ok (.invokevirtual 82, 3) := by decide +kernel
theorem dL_law_565 : decode cL_law 565 = .ok (.if_icmp .eq 358, 3) := by decide +kernel
theorem dL_law_568 : decode cL_law 568 = .ok (.iconst 0, 1) := by decide +kernel
theorem dL_law_569 : decode cL_law 569 = .ok (.ireturn, 1) := by decide +kernel
theorem dL_law_570 : decode cL_law 570 = .ok (.aload_n 1, 1) := by decide +kernel
theorem dL_law_571 : decode cL_law 571 = .ok (.aload_n 0, 1) := by decide +kernel
theorem dL_law_572 : decode cL_law 572 = .ok (.iload_n 3, 1) := by decide +kernel
theorem dL_law_573 : decode cL_law 573 = .ok (.iconst 1, 1) := by decide +kernel
theorem dL_law_574 : decode cL_law 574 = .ok (.iadd, 1) := by decide +kernel
theorem dL_law_575 : decode cL_law 575 = .ok (.iaload, 1) := by decide +kernel
theorem dL_law_576 : decode cL_law 576 = .ok (.aload_n 0, 1) := by decide +kernel
theorem dL_law_577 : decode cL_law 577 = .ok (.iload_n 3, 1) := by decide +kernel
theorem dL_law_578 : decode cL_law 578 = .ok (.iconst 2, 1) := by decide +kernel
theorem dL_law_579 : decode cL_law 579 = .ok (.iadd, 1) := by decide +kernel
theorem dL_law_580 : decode cL_law 580 = .ok (.iaload, 1) := by decide +kernel
theorem dL_law_581 : decode cL_law 581 = .ok (.aload_n 0, 1) := by decide +kernel
theorem dL_law_582 : decode cL_law 582 = .ok (.iload_n 3, 1) := by decide +kernel
theorem dL_law_583 : decode cL_law 583 = .ok (.iconst 3, 1) := by decide +kernel
theorem dL_law_584 : decode cL_law 584 = .ok (.iadd, 1) := by decide +kernel
theorem dL_law_585 : decode cL_law 585 = .ok (.iaload, 1) := by decide +kernel
theorem dL_law_586 : decode cL_law 586 = .ok (.aload_n 0, 1) := by decide +kernel
theorem dL_law_587 : decode cL_law 587 = .ok (.iload_n 3, 1) := by decide +kernel
theorem dL_law_588 : decode cL_law 588 = .ok (.iconst 4, 1) := by decide +kernel
theorem dL_law_589 : decode cL_law 589 = .ok (.iadd, 1) := by decide +kernel
theorem dL_law_590 : decode cL_law 590 = .ok (.iaload, 1) := by decide +kernel
theorem dL_law_591 : decode cL_law 591 = .ok (.invokevirtual 83, 3) := by decide +kernel
theorem dL_law_594 : decode cL_law 594 = .ok (.aload_n 2, 1) := by decide +kernel
theorem dL_law_595 : decode cL_law 595 = .ok (.aload_n 0, 1) := by decide +kernel
theorem dL_law_596 : decode cL_law 596 = .ok (.iload_n 3, 1) := by decide +kernel
theorem dL_law_597 : decode cL_law 597 = .ok (.iconst 1, 1) := by decide +kernel
theorem dL_law_598 : decode cL_law 598 = .ok (.iadd, 1) := by decide +kernel
theorem dL_law_599 : decode cL_law 599 = .ok (.iaload, 1) := by decide +kernel
theorem dL_law_600 : decode cL_law 600 = .ok (.aload_n 0, 1) := by decide +kernel
theorem dL_law_601 : decode cL_law 601 = .ok (.iload_n 3, 1) := by decide +kernel
theorem dL_law_602 : decode cL_law 602 = .ok (.iconst 2, 1) := by decide +kernel
theorem dL_law_603 : decode cL_law 603 = .ok (.iadd, 1) := by decide +kernel
theorem dL_law_604 : decode cL_law 604 = .ok (.iaload, 1) := by decide +kernel
theorem dL_law_605 : decode cL_law 605 = .ok (.aload_n 0, 1) := by decide +kernel
theorem dL_law_606 : decode cL_law 606 = .ok (.iload_n 3, 1) := by decide +kernel
theorem dL_law_607 : decode cL_law 607 = .ok (.iconst 3, 1) := by decide +kernel
theorem dL_law_608 : decode cL_law 608 = .ok (.iadd, 1) := by decide +kernel
theorem dL_law_609 : decode cL_law 609 = .ok (.iaload, 1) := by decide +kernel
theorem dL_law_610 : decode cL_law 610 = .ok (.aload_n 0, 1) := by decide +kernel
theorem dL_law_611 : decode cL_law 611 = .ok (.iload_n 3, 1) := by decide +kernel
theorem dL_law_612 : decode cL_law 612 = .ok (.iconst 4, 1) := by decide +kernel
theorem dL_law_613 : decode cL_law 613 = .ok (.iadd, 1) := by decide +kernel
theorem dL_law_614 : decode cL_law 614 = .ok (.iaload, 1) := by decide +kernel
theorem dL_law_615 : decode cL_law 615 = .ok (.invokevirtual 87, 3) := by decide +kernel
theorem dL_law_618 : decode cL_law 618 = .ok (.if_icmp .eq 305, 3) := by decide +kernel
theorem dL_law_621 : decode cL_law 621 = .ok (.iconst 0, 1) := by decide +kernel
theorem dL_law_622 : decode cL_law 622 = .ok (.ireturn, 1) := by decide +kernel
theorem dL_law_623 : decode cL_law 623 = .ok (.aload_n 1, 1) := by decide +kernel
theorem dL_law_624 : decode cL_law 624 = .ok (.invokevirtual 88, 3) := by decide +kernel
theorem dL_law_627 : decode cL_law 627 = .ok (.aload_n 2, 1) := by decide +kernel
theorem dL_law_628 : decode cL_law 628 = .ok (.invokevirtual 91, 3) := by decide +kernel
theorem dL_law_631 : decode cL_law 631 = .ok (.if_icmp .eq 292, 3) := by decide +kernel
theorem dL_law_634 : decode cL_law 634 = .ok (.iconst 0, 1) := by decide +kernel
theorem dL_law_635 : decode cL_law 635 = .ok (.ireturn, 1) := by decide +kernel
theorem dL_law_636 : decode cL_law 636 = .ok (.aload_n 1, 1) := by decide +kernel
theorem dL_law_637 : decode cL_law 637 = .ok (.invokevirtual 92, 3) := by decide +kernel
theorem dL_law_640 : decode cL_law 640 = .ok (.aload_n 2, 1) := by decide +kernel
theorem dL_law_641 : decode cL_law 641 = .ok (.invokevirtual 95, 3) := by decide +kernel
theorem dL_law_644 : decode cL_law 644 = .ok (.if_icmp .eq 279, 3) := by decide +kernel
theorem dL_law_647 : decode cL_law 647 = .ok (.iconst 0, 1) := by decide +kernel
theorem dL_law_648 : decode cL_law 648 = .ok (.ireturn, 1) := by decide +kernel
theorem dL_law_649 : decode cL_law 649 = .ok (.aload_n 1, 1) := by decide +kernel
theorem dL_law_650 : decode cL_law 650 = .ok (.aload_n 0, 1) := by decide +kernel
theorem dL_law_651 : decode cL_law 651 = .ok (.iload_n 3, 1) := by decide +kernel
theorem dL_law_652 : decode cL_law 652 = .ok (.iconst 1, 1) := by decide +kernel
theorem dL_law_653 : decode cL_law 653 = .ok (.iadd, 1) := by decide +kernel
theorem dL_law_654 : decode cL_law 654 = .ok (.iaload, 1) := by decide +kernel
theorem dL_law_655 : decode cL_law 655 = .ok (.aload_n 0, 1) := by decide +kernel
theorem dL_law_656 : decode cL_law 656 = .ok (.iload_n 3, 1) := by decide +kernel
theorem dL_law_657 : decode cL_law 657 = .ok (.iconst 2, 1) := by decide +kernel
theorem dL_law_658 : decode cL_law 658 = .ok (.iadd, 1) := by decide +kernel
theorem dL_law_659 : decode cL_law 659 = .ok (.iaload, 1) := by decide +kernel
theorem dL_law_660 : decode cL_law 660 = .ok (.ifCond .eq 7, 3) := by decide +kernel
theorem dL_law_663 : decode cL_law 663 = .ok (.iconst 1, 1) := by decide +kernel
theorem dL_law_664 : decode cL_law 664 = .ok (.goto 4, 3) := by decide +kernel
theorem dL_law_667 : decode cL_law 667 = .ok (.iconst 0, 1) := by decide +kernel
theorem dL_law_668 : decode cL_law 668 = .ok (.invokevirtual 96, 3) := by decide +kernel
theorem dL_law_671 : decode cL_law 671 = .ok (.aload_n 2, 1) := by decide +kernel
theorem dL_law_672 : decode cL_law 672 = .ok (.aload_n 0, 1) := by decide +kernel
theorem dL_law_673 : decode cL_law 673 = .ok (.iload_n 3, 1) := by decide +kernel
theorem dL_law_674 : decode cL_law 674 = .ok (.iconst 1, 1) := by decide +kernel
theorem dL_law_675 : decode cL_law 675 = .ok (.iadd, 1) := by decide +kernel
theorem dL_law_676 : decode cL_law 676 = .ok (.iaload, 1) := by decide +kernel
theorem dL_law_677 : decode cL_law 677 = .ok (.aload_n 0, 1) := by decide +kernel
theorem dL_law_678 : decode cL_law 678 = .ok (.iload_n 3, 1) := by decide +kernel
theorem dL_law_679 : decode cL_law 679 = .ok (.iconst 2, 1) := by decide +kernel
theorem dL_law_680 : decode cL_law 680 = .ok (.iadd, 1) := by decide +kernel
theorem dL_law_681 : decode cL_law 681 = .ok (.iaload, 1) := by decide +kernel
theorem dL_law_682 : decode cL_law 682 = .ok (.ifCond .eq 7, 3) := by decide +kernel
theorem dL_law_685 : decode cL_law 685 = .ok (.iconst 1, 1) := by decide +kernel
theorem dL_law_686 : decode cL_law 686 = .ok (.goto 4, 3) := by decide +kernel
theorem dL_law_689 : decode cL_law 689 = .ok (.iconst 0, 1) := by decide +kernel
theorem dL_law_690 : decode cL_law 690 = .ok (.invokevirtual 100, 3) := by decide +kernel
theorem dL_law_693 : decode cL_law 693 = .ok (.if_icmp .eq 230, 3) := by decide +kernel
theorem dL_law_696 : decode cL_law 696 = .ok (.iconst 0, 1) := by decide +kernel
theorem dL_law_697 : decode cL_law 697 = .ok (.ireturn, 1) := by decide +kernel
theorem dL_law_698 : decode cL_law 698 = .ok (.aload_n 1, 1) := by decide +kernel
theorem dL_law_699 : decode cL_law 699 = .ok (.aload_n 0, 1) := by decide +kernel
theorem dL_law_700 : decode cL_law 700 = .ok (.iload_n 3, 1) := by decide +kernel
theorem dL_law_701 : decode cL_law 701 = .ok (.iconst 1, 1) := by decide +kernel
theorem dL_law_702 : decode cL_law 702 = .ok (.iadd, 1) := by decide +kernel
theorem dL_law_703 : decode cL_law 703 = .ok (.iaload, 1) := by decide +kernel
theorem dL_law_704 : decode cL_law 704 = .ok (.aload_n 0, 1) := by decide +kernel
theorem dL_law_705 : decode cL_law 705 = .ok (.iload_n 3, 1) := by decide +kernel
theorem dL_law_706 : decode cL_law 706 = .ok (.iconst 2, 1) := by decide +kernel
theorem dL_law_707 : decode cL_law 707 = .ok (.iadd, 1) := by decide +kernel
theorem dL_law_708 : decode cL_law 708 = .ok (.iaload, 1) := by decide +kernel
theorem dL_law_709 : decode cL_law 709 = .ok (.aload_n 0, 1) := by decide +kernel
theorem dL_law_710 : decode cL_law 710 = .ok (.iload_n 3, 1) := by decide +kernel
theorem dL_law_711 : decode cL_law 711 = .ok (.iconst 3, 1) := by decide +kernel
theorem dL_law_712 : decode cL_law 712 = .ok (.iadd, 1) := by decide +kernel
theorem dL_law_713 : decode cL_law 713 = .ok (.iaload, 1) := by decide +kernel
theorem dL_law_714 : decode cL_law 714 = .ok (.aload_n 0, 1) := by decide +kernel
theorem dL_law_715 : decode cL_law 715 = .ok (.iload_n 3, 1) := by decide +kernel
theorem dL_law_716 : decode cL_law 716 = .ok (.iconst 4, 1) := by decide +kernel
theorem dL_law_717 : decode cL_law 717 = .ok (.iadd, 1) := by decide +kernel
theorem dL_law_718 : decode cL_law 718 = .ok (.iaload, 1) := by decide +kernel
theorem dL_law_719 : decode cL_law 719 = .ok (.aload_n 0, 1) := by decide +kernel
theorem dL_law_720 : decode cL_law 720 = .ok (.iload_n 3, 1) := by decide +kernel
theorem dL_law_721 : decode cL_law 721 = .ok (.iconst 5, 1) := by decide +kernel
theorem dL_law_722 : decode cL_law 722 = .ok (.iadd, 1) := by decide +kernel
theorem dL_law_723 : decode cL_law 723 = .ok (.iaload, 1) := by decide +kernel
theorem dL_law_724 : decode cL_law 724 = .ok (.ifCond .eq 7, 3) := by decide +kernel
theorem dL_law_727 : decode cL_law 727 = .ok (.iconst 1, 1) := by decide +kernel
theorem dL_law_728 : decode cL_law 728 = .ok (.goto 4, 3) := by decide +kernel
theorem dL_law_731 : decode cL_law 731 = .ok (.iconst 0, 1) := by decide +kernel
theorem dL_law_732 : decode cL_law 732 = .ok (.invokevirtual 101, 3) := by decide +kernel
theorem dL_law_735 : decode cL_law 735 = .ok (.aload_n 2, 1) := by decide +kernel
theorem dL_law_736 : decode cL_law 736 = .ok (.aload_n 0, 1) := by decide +kernel
theorem dL_law_737 : decode cL_law 737 = .ok (.iload_n 3, 1) := by decide +kernel
theorem dL_law_738 : decode cL_law 738 = .ok (.iconst 1, 1) := by decide +kernel
theorem dL_law_739 : decode cL_law 739 = .ok (.iadd, 1) := by decide +kernel
theorem dL_law_740 : decode cL_law 740 = .ok (.iaload, 1) := by decide +kernel
theorem dL_law_741 : decode cL_law 741 = .ok (.aload_n 0, 1) := by decide +kernel
theorem dL_law_742 : decode cL_law 742 = .ok (.iload_n 3, 1) := by decide +kernel
theorem dL_law_743 : decode cL_law 743 = .ok (.iconst 2, 1) := by decide +kernel
theorem dL_law_744 : decode cL_law 744 = .ok (.iadd, 1) := by decide +kernel
theorem dL_law_745 : decode cL_law 745 = .ok (.iaload, 1) := by decide +kernel
theorem dL_law_746 : decode cL_law 746 = .ok (.aload_n 0, 1) := by decide +kernel
theorem dL_law_747 : decode cL_law 747 = .ok (.iload_n 3, 1) := by decide +kernel
theorem dL_law_748 : decode cL_law 748 = .ok (.iconst 3, 1) := by decide +kernel
theorem dL_law_749 : decode cL_law 749 = .ok (.iadd, 1) := by decide +kernel
theorem dL_law_750 : decode cL_law 750 = .ok (.iaload, 1) := by decide +kernel
theorem dL_law_751 : decode cL_law 751 = .ok (.aload_n 0, 1) := by decide +kernel
theorem dL_law_752 : decode cL_law 752 = .ok (.iload_n 3, 1) := by decide +kernel
theorem dL_law_753 : decode cL_law 753 = .ok (.iconst 4, 1) := by decide +kernel
theorem dL_law_754 : decode cL_law 754 = .ok (.iadd, 1) := by decide +kernel
theorem dL_law_755 : decode cL_law 755 = .ok (.iaload, 1) := by decide +kernel
theorem dL_law_756 : decode cL_law 756 = .ok (.aload_n 0, 1) := by decide +kernel
theorem dL_law_757 : decode cL_law 757 = .ok (.iload_n 3, 1) := by decide +kernel
theorem dL_law_758 : decode cL_law 758 = .ok (.iconst 5, 1) := by decide +kernel
theorem dL_law_759 : decode cL_law 759 = .ok (.iadd, 1) := by decide +kernel
theorem dL_law_760 : decode cL_law 760 = .ok (.iaload, 1) := by decide +kernel
theorem dL_law_761 : decode cL_law 761 = .ok (.ifCond .eq 7, 3) := by decide +kernel
theorem dL_law_764 : decode cL_law 764 = .ok (.iconst 1, 1) := by decide +kernel
theorem dL_law_765 : decode cL_law 765 = .ok (.goto 4, 3) := by decide +kernel
theorem dL_law_768 : decode cL_law 768 = .ok (.iconst 0, 1) := by decide +kernel
theorem dL_law_769 : decode cL_law 769 = .ok (.invokevirtual 105, 3) := by decide +kernel
theorem dL_law_772 : decode cL_law 772 = .ok (.if_icmp .eq 151, 3) := by decide +kernel
theorem dL_law_775 : decode cL_law 775 = .ok (.iconst 0, 1) := by decide +kernel
theorem dL_law_776 : decode cL_law 776 = .ok (.ireturn, 1) := by decide +kernel
theorem dL_law_777 : decode cL_law 777 = .ok (.aload_n 1, 1) := by decide +kernel
theorem dL_law_778 : decode cL_law 778 = .ok (.aload_n 0, 1) := by decide +kernel
theorem dL_law_779 : decode cL_law 779 = .ok (.iload_n 3, 1) := by decide +kernel
theorem dL_law_780 : decode cL_law 780 = .ok (.iconst 1, 1) := by decide +kernel
theorem dL_law_781 : decode cL_law 781 = .ok (.iadd, 1) := by decide +kernel
theorem dL_law_782 : decode cL_law 782 = .ok (.iaload, 1) := by decide +kernel
theorem dL_law_783 : decode cL_law 783 = .ok (.i2l, 1) := by decide +kernel
theorem dL_law_784 : decode cL_law 784 = .ok (.bipush 32, 2) := by decide +kernel
theorem dL_law_786 : decode cL_law 786 = .ok (.lshl, 1) := by decide +kernel
theorem dL_law_787 : decode cL_law 787 = .ok (.aload_n 0, 1) := by decide +kernel
theorem dL_law_788 : decode cL_law 788 = .ok (.iload_n 3, 1) := by decide +kernel
theorem dL_law_789 : decode cL_law 789 = .ok (.iconst 2, 1) := by decide +kernel
theorem dL_law_790 : decode cL_law 790 = .ok (.iadd, 1) := by decide +kernel
theorem dL_law_791 : decode cL_law 791 = .ok (.iaload, 1) := by decide +kernel
theorem dL_law_792 : decode cL_law 792 = .ok (.i2l, 1) := by decide +kernel
theorem dL_law_793 : decode cL_law 793 = .ok (.ldc2_w 76, 3) := by decide +kernel
theorem dL_law_796 : decode cL_law 796 = .ok (.land, 1) := by decide +kernel
theorem dL_law_797 : decode cL_law 797 = .ok (.lor, 1) := by decide +kernel
theorem dL_law_798 : decode cL_law 798 = .ok (.invokevirtual 106, 3) := by decide +kernel
theorem dL_law_801 : decode cL_law 801 = .ok (.aload_n 2, 1) := by decide +kernel
theorem dL_law_802 : decode cL_law 802 = .ok (.aload_n 0, 1) := by decide +kernel
theorem dL_law_803 : decode cL_law 803 = .ok (.iload_n 3, 1) := by decide +kernel
theorem dL_law_804 : decode cL_law 804 = .ok (.iconst 1, 1) := by decide +kernel
theorem dL_law_805 : decode cL_law 805 = .ok (.iadd, 1) := by decide +kernel
theorem dL_law_806 : decode cL_law 806 = .ok (.iaload, 1) := by decide +kernel
theorem dL_law_807 : decode cL_law 807 = .ok (.i2l, 1) := by decide +kernel
theorem dL_law_808 : decode cL_law 808 = .ok (.bipush 32, 2) := by decide +kernel
theorem dL_law_810 : decode cL_law 810 = .ok (.lshl, 1) := by decide +kernel
theorem dL_law_811 : decode cL_law 811 = .ok (.aload_n 0, 1) := by decide +kernel
theorem dL_law_812 : decode cL_law 812 = .ok (.iload_n 3, 1) := by decide +kernel
theorem dL_law_813 : decode cL_law 813 = .ok (.iconst 2, 1) := by decide +kernel
theorem dL_law_814 : decode cL_law 814 = .ok (.iadd, 1) := by decide +kernel
theorem dL_law_815 : decode cL_law 815 = .ok (.iaload, 1) := by decide +kernel
theorem dL_law_816 : decode cL_law 816 = .ok (.i2l, 1) := by decide +kernel
theorem dL_law_817 : decode cL_law 817 = .ok (.ldc2_w 76, 3) := by decide +kernel
theorem dL_law_820 : decode cL_law 820 = .ok (.land, 1) := by decide +kernel
theorem dL_law_821 : decode cL_law 821 = .ok (.lor, 1) := by decide +kernel
theorem dL_law_822 : decode cL_law 822 = .ok (.invokevirtual 110, 3) := by decide +kernel
theorem dL_law_825 : decode cL_law 825 = .ok (.lcmp, 1) := by decide +kernel
theorem dL_law_826 : decode cL_law 826 = .ok (.ifCond .eq 97, 3) := by decide +kernel
theorem dL_law_829 : decode cL_law 829 = .ok (.iconst 0, 1) := by decide +kernel
theorem dL_law_830 : decode cL_law 830 = .ok (.ireturn, 1) := by decide +kernel
theorem dL_law_831 : decode cL_law 831 = .ok (.aload_n 1, 1) := by decide +kernel
theorem dL_law_832 : decode cL_law 832 = .ok (.aload_n 0, 1) := by decide +kernel
theorem dL_law_833 : decode cL_law 833 = .ok (.iload_n 3, 1) := by decide +kernel
theorem dL_law_834 : decode cL_law 834 = .ok (.iconst 1, 1) := by decide +kernel
theorem dL_law_835 : decode cL_law 835 = .ok (.iadd, 1) := by decide +kernel
theorem dL_law_836 : decode cL_law 836 = .ok (.iaload, 1) := by decide +kernel
theorem dL_law_837 : decode cL_law 837 = .ok (.invokevirtual 111, 3) := by decide +kernel
theorem dL_law_840 : decode cL_law 840 = .ok (.aload_n 2, 1) := by decide +kernel
theorem dL_law_841 : decode cL_law 841 = .ok (.aload_n 0, 1) := by decide +kernel
theorem dL_law_842 : decode cL_law 842 = .ok (.iload_n 3, 1) := by decide +kernel
theorem dL_law_843 : decode cL_law 843 = .ok (.iconst 1, 1) := by decide +kernel
theorem dL_law_844 : decode cL_law 844 = .ok (.iadd, 1) := by decide +kernel
theorem dL_law_845 : decode cL_law 845 = .ok (.iaload, 1) := by decide +kernel
theorem dL_law_846 : decode cL_law 846 = .ok (.invokevirtual 114, 3) := by decide +kernel
theorem dL_law_849 : decode cL_law 849 = .ok (.if_icmp .eq 74, 3) := by decide +kernel
theorem dL_law_852 : decode cL_law 852 = .ok (.iconst 0, 1) := by decide +kernel
theorem dL_law_853 : decode cL_law 853 = .ok (.ireturn, 1) := by decide +kernel
theorem dL_law_854 : decode cL_law 854 = .ok (.aload_n 1, 1) := by decide +kernel
theorem dL_law_855 : decode cL_law 855 = .ok (.aload_n 0, 1) := by decide +kernel
theorem dL_law_856 : decode cL_law 856 = .ok (.iload_n 3, 1) := by decide +kernel
theorem dL_law_857 : decode cL_law 857 = .ok (.iconst 1, 1) := by decide +kernel
theorem dL_law_858 : decode cL_law 858 = .ok (.iadd, 1) := by decide +kernel
theorem dL_law_859 : decode cL_law 859 = .ok (.iaload, 1) := by decide +kernel
theorem dL_law_860 : decode cL_law 860 = .ok (.invokevirtual 115, 3) := by decide +kernel
theorem dL_law_863 : decode cL_law 863 = .ok (.aload_n 2, 1) := by decide +kernel
theorem dL_law_864 : decode cL_law 864 = .ok (.aload_n 0, 1) := by decide +kernel
theorem dL_law_865 : decode cL_law 865 = .ok (.iload_n 3, 1) := by decide +kernel
theorem dL_law_866 : decode cL_law 866 = .ok (.iconst 1, 1) := by decide +kernel
theorem dL_law_867 : decode cL_law 867 = .ok (.iadd, 1) := by decide +kernel
theorem dL_law_868 : decode cL_law 868 = .ok (.iaload, 1) := by decide +kernel
theorem dL_law_869 : decode cL_law 869 = .ok (.invokevirtual 118, 3) := by decide +kernel
theorem dL_law_872 : decode cL_law 872 = .ok (.if_icmp .eq 51, 3) := by decide +kernel
theorem dL_law_875 : decode cL_law 875 = .ok (.iconst 0, 1) := by decide +kernel
theorem dL_law_876 : decode cL_law 876 = .ok (.ireturn, 1) := by decide +kernel
theorem dL_law_877 : decode cL_law 877 = .ok (.aload_n 1, 1) := by decide +kernel
theorem dL_law_878 : decode cL_law 878 = .ok (.aload_n 0, 1) := by decide +kernel
theorem dL_law_879 : decode cL_law 879 = .ok (.iload_n 3, 1) := by decide +kernel
theorem dL_law_880 : decode cL_law 880 = .ok (.iconst 1, 1) := by decide +kernel
theorem dL_law_881 : decode cL_law 881 = .ok (.iadd, 1) := by decide +kernel
theorem dL_law_882 : decode cL_law 882 = .ok (.iaload, 1) := by decide +kernel
theorem dL_law_883 : decode cL_law 883 = .ok (.invokevirtual 119, 3) := by decide +kernel
theorem dL_law_886 : decode cL_law 886 = .ok (.aload_n 2, 1) := by decide +kernel
theorem dL_law_887 : decode cL_law 887 = .ok (.aload_n 0, 1) := by decide +kernel
theorem dL_law_888 : decode cL_law 888 = .ok (.iload_n 3, 1) := by decide +kernel
theorem dL_law_889 : decode cL_law 889 = .ok (.iconst 1, 1) := by decide +kernel
theorem dL_law_890 : decode cL_law 890 = .ok (.iadd, 1) := by decide +kernel
theorem dL_law_891 : decode cL_law 891 = .ok (.iaload, 1) := by decide +kernel
theorem dL_law_892 : decode cL_law 892 = .ok (.invokevirtual 122, 3) := by decide +kernel
theorem dL_law_895 : decode cL_law 895 = .ok (.if_icmp .eq 28, 3) := by decide +kernel
theorem dL_law_898 : decode cL_law 898 = .ok (.iconst 0, 1) := by decide +kernel
theorem dL_law_899 : decode cL_law 899 = .ok (.ireturn, 1) := by decide +kernel
theorem dL_law_900 : decode cL_law 900 = .ok (.aload_n 1, 1) := by decide +kernel
theorem dL_law_901 : decode cL_law 901 = .ok (.aload_n 0, 1) := by decide +kernel
theorem dL_law_902 : decode cL_law 902 = .ok (.iload_n 3, 1) := by decide +kernel
theorem dL_law_903 : decode cL_law 903 = .ok (.iconst 1, 1) := by decide +kernel
theorem dL_law_904 : decode cL_law 904 = .ok (.iadd, 1) := by decide +kernel
theorem dL_law_905 : decode cL_law 905 = .ok (.iaload, 1) := by decide +kernel
theorem dL_law_906 : decode cL_law 906 = .ok (.invokevirtual 123, 3) := by decide +kernel
theorem dL_law_909 : decode cL_law 909 = .ok (.aload_n 2, 1) := by decide +kernel
theorem dL_law_910 : decode cL_law 910 = .ok (.aload_n 0, 1) := by decide +kernel
theorem dL_law_911 : decode cL_law 911 = .ok (.iload_n 3, 1) := by decide +kernel
theorem dL_law_912 : decode cL_law 912 = .ok (.iconst 1, 1) := by decide +kernel
theorem dL_law_913 : decode cL_law 913 = .ok (.iadd, 1) := by decide +kernel
theorem dL_law_914 : decode cL_law 914 = .ok (.iaload, 1) := by decide +kernel
theorem dL_law_915 : decode cL_law 915 = .ok (.invokevirtual 126, 3) := by decide +kernel
theorem dL_law_918 : decode cL_law 918 = .ok (.if_icmp .eq 5, 3) := by decide +kernel
theorem dL_law_921 : decode cL_law 921 = .ok (.iconst 0, 1) := by decide +kernel
theorem dL_law_922 : decode cL_law 922 = .ok (.ireturn, 1) := by decide +kernel
theorem dL_law_923 : decode cL_law 923 = .ok (.iinc 3 6, 3) := by decide +kernel
theorem dL_law_926 : decode cL_law 926 = .ok (.goto (-908), 3) := by decide +kernel
theorem dL_law_929 : decode cL_law 929 = .ok (.iconst 1, 1) := by decide +kernel
theorem dL_law_930 : decode cL_law 930 = .ok (.ireturn, 1) := by decide +kernel
