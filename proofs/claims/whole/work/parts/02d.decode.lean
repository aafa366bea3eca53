theorem dX10_layReady_84 : decode cX10_layReady 84 = .ok (.iload 4, 2) := by decide +kernel
theorem dX10_layReady_86 : decode cX10_layReady 86 = .ok (.iaload, 1) := by decide +kernel
theorem dX10_layReady_87 : decode cX10_layReady 87 = .ok (.iload 5, 2) := by decide +kernel
theorem dX10_layReady_89 : decode cX10_layReady 89 = .ok (.invokevirtual 156, 3) := by decide +kernel
theorem dX10_layReady_92 : decode cX10_layReady 92 = .ok (.ifCond .eq 7, 3) := by decide +kernel
theorem dX10_layReady_95 : decode cX10_layReady 95 = .ok (.iconst 1, 1) := by decide +kernel
theorem dX10_layReady_96 : decode cX10_layReady 96 = .ok (.goto 4, 3) := by decide +kernel
theorem dX10_layReady_99 : decode cX10_layReady 99 = .ok (.iconst 0, 1) := by decide +kernel
theorem dX10_layReady_100 : decode cX10_layReady 100 = .ok (.istore 6, 2) := by decide +kernel
theorem dX10_layReady_102 : decode cX10_layReady 102 = .ok (.aload_n 0, 1) := by decide +kernel
theorem dX10_layReady_103 : decode cX10_layReady 103 = .ok (.getfield 75, 3) := by decide +kernel
theorem dX10_layReady_106 : decode cX10_layReady 106 = .ok (.iconst 4, 1) := by decide +kernel
theorem dX10_layReady_107 : decode cX10_layReady 107 = .ok (.iload 4, 2) := by decide +kernel
theorem dX10_layReady_109 : decode cX10_layReady 109 = .ok (.imul, 1) := by decide +kernel
theorem dX10_layReady_110 : decode cX10_layReady 110 = .ok (.iload 5, 2) := by decide +kernel
theorem dX10_layReady_112 : decode cX10_layReady 112 = .ok (.iadd, 1) := by decide +kernel
theorem dX10_layReady_113 : decode cX10_layReady 113 = .ok (.iload 6, 2) := by decide +kernel
theorem dX10_layReady_115 : decode cX10_layReady 115 = .ok (.ifCond .eq 7, 3) := by decide +kernel
theorem dX10_layReady_118 : decode cX10_layReady 118 = .ok (.iload_n 2, 1) := by decide +kernel
theorem dX10_layReady_119 : decode cX10_layReady 119 = .ok (.goto 15, 3) := by decide +kernel
theorem dX10_layReady_122 : decode cX10_layReady 122 = .ok (.aload_n 0, 1) := by decide +kernel
theorem dX10_layReady_123 : decode cX10_layReady 123 = .ok (.getfield 75, 3) := by decide +kernel
theorem dX10_layReady_126 : decode cX10_layReady 126 = .ok (.iconst 4, 1) := by decide +kernel
theorem dX10_layReady_127 : decode cX10_layReady 127 = .ok (.iload 4, 2) := by decide +kernel
theorem dX10_layReady_129 : decode cX10_layReady 129 = .ok (.imul, 1) := by decide +kernel
theorem dX10_layReady_130 : decode cX10_layReady 130 = .ok (.iload 5, 2) := by decide +kernel
theorem dX10_layReady_132 : decode cX10_layReady 132 = .ok (.iadd, 1) := by decide +kernel
theorem dX10_layReady_133 : decode cX10_layReady 133 = .ok (.iaload, 1) := by decide +kernel
theorem dX10_layReady_134 : decode cX10_layReady 134 = .ok (.iastore, 1) := by decide +kernel
theorem dX10_layReady_135 : decode cX10_layReady 135 = .ok (.iinc 4 1, 3) := by decide +kernel
theorem dX10_layReady_138 : decode cX10_layReady 138 = .ok (.goto (-125), 3) := by decide +kernel
theorem dX10_layReady_141 : decode cX10_layReady 141 = .ok (.iinc 3 1, 3) := by decide +kernel
theorem dX10_layReady_144 : decode cX10_layReady 144 = .ok (.goto (-142), 3) := by decide +kernel
theorem dX10_layReady_147 : decode cX10_layReady 147 = .ok (.return_, 1) := by decide +kernel
theorem dX10_isWanted_0 : decode cX10_isWanted 0 = .ok (.aload_n 1, 1) := by decide +kernel
theorem dX10_isWanted_1 : decode cX10_isWanted 1 = .ok (.bipush 10, 2) := by decide +kernel
theorem dX10_isWanted_3 : decode cX10_isWanted 3 = .ok (.iload_n 2, 1) := by decide +kernel
theorem dX10_isWanted_4 : decode cX10_isWanted 4 = .ok (.iadd, 1) := by decide +kernel
theorem dX10_isWanted_5 : decode cX10_isWanted 5 = .ok (.iaload, 1) := by decide +kernel
theorem dX10_isWanted_6 : decode cX10_isWanted 6 = .ok (.istore 4, 2) := by decide +kernel
theorem dX10_isWanted_8 : decode cX10_isWanted 8 = .ok (.iconst 0, 1) := by decide +kernel
theorem dX10_isWanted_9 : decode cX10_isWanted 9 = .ok (.istore 5, 2) := by decide +kernel
theorem dX10_isWanted_11 : decode cX10_isWanted 11 = .ok (.iconst 0, 1) := by decide +kernel
theorem dX10_isWanted_12 : decode cX10_isWanted 12 = .ok (.istore 6, 2) := by decide +kernel
theorem dX10_isWanted_14 : decode cX10_isWanted 14 = .ok (.iload 6, 2) := by decide +kernel
theorem dX10_isWanted_16 : decode cX10_isWanted 16 = .ok (.aload_n 0, 1) := by decide +kernel
theorem dX10_isWanted_17 : decode cX10_isWanted 17 = .ok (.getfield 87, 3) := by decide +kernel
theorem dX10_isWanted_20 : decode cX10_isWanted 20 = .ok (.if_icmp .ge 79, 3) := by decide +kernel
theorem dX10_isWanted_23 : decode cX10_isWanted 23 = .ok (.aload_n 1, 1) := by decide +kernel
theorem dX10_isWanted_24 : decode cX10_isWanted 24 = .ok (.bipush 10, 2) := by decide +kernel
theorem dX10_isWanted_26 : decode cX10_isWanted 26 = .ok (.iload 6, 2) := by decide +kernel
theorem dX10_isWanted_28 : decode cX10_isWanted 28 = .ok (.iadd, 1) := by decide +kernel
theorem dX10_isWanted_29 : decode cX10_isWanted 29 = .ok (.iaload, 1) := by decide +kernel
theorem dX10_isWanted_30 : decode cX10_isWanted 30 = .ok (.istore 7, 2) := by decide +kernel
theorem dX10_isWanted_32 : decode cX10_isWanted 32 = .ok (.iload 5, 2) := by decide +kernel
theorem dX10_isWanted_34 : decode cX10_isWanted 34 = .ok (.ifCond .ne 52, 3) := by decide +kernel
theorem dX10_isWanted_37 : decode cX10_isWanted 37 = .ok (.aload_n 0, 1) := by decide +kernel
theorem dX10_isWanted_38 : decode cX10_isWanted 38 = .ok (.getfield 20, 3) := by decide +kernel
theorem dX10_isWanted_41 : decode cX10_isWanted 41 = .ok (.iload 6, 2) := by decide +kernel
theorem dX10_isWanted_43 : decode cX10_isWanted 43 = .ok (.iaload, 1) := by decide +kernel
theorem dX10_isWanted_44 : decode cX10_isWanted 44 = .ok (.iload_n 2, 1) := by decide +kernel
theorem dX10_isWanted_45 : decode cX10_isWanted 45 = .ok (.if_icmp .eq 14, 3) := by decide +kernel
theorem dX10_isWanted_48 : decode cX10_isWanted 48 = .ok (.aload_n 0, 1) := by decide +kernel
theorem dX10_isWanted_49 : decode cX10_isWanted 49 = .ok (.getfield 23, 3) := by decide +kernel
theorem dX10_isWanted_52 : decode cX10_isWanted 52 = .ok (.iload 6, 2) := by decide +kernel
theorem dX10_isWanted_54 : decode cX10_isWanted 54 = .ok (.iaload, 1) := by decide +kernel
theorem dX10_isWanted_55 : decode cX10_isWanted 55 = .ok (.iload_n 2, 1) := by decide +kernel
theorem dX10_isWanted_56 : decode cX10_isWanted 56 = .ok (.if_icmp .ne 34, 3) := by decide +kernel
theorem dX10_isWanted_59 : decode cX10_isWanted 59 = .ok (.iload_n 3, 1) := by decide +kernel
theorem dX10_isWanted_60 : decode cX10_isWanted 60 = .ok (.iload 4, 2) := by decide +kernel
theorem dX10_isWanted_62 : decode cX10_isWanted 62 = .ok (.if_icmp .le 12, 3) := by decide +kernel
theorem dX10_isWanted_65 : decode cX10_isWanted 65 = .ok (.iload 7, 2) := by decide +kernel
theorem dX10_isWanted_67 : decode cX10_isWanted 67 = .ok (.iload_n 3, 1) := by decide +kernel
theorem dX10_isWanted_68 : decode cX10_isWanted 68 = .ok (.if_icmp .lt 22, 3) := by decide +kernel
theorem dX10_isWanted_71 : decode cX10_isWanted 71 = .ok (.goto 15, 3) := by decide +kernel
theorem dX10_isWanted_74 : decode cX10_isWanted 74 = .ok (.iload_n 3, 1) := by decide +kernel
theorem dX10_isWanted_75 : decode cX10_isWanted 75 = .ok (.iload 4, 2) := by decide +kernel
theorem dX10_isWanted_77 : decode cX10_isWanted 77 = .ok (.if_icmp .ge 13, 3) := by decide +kernel
theorem dX10_isWanted_80 : decode cX10_isWanted 80 = .ok (.iload 7, 2) := by decide +kernel
theorem dX10_isWanted_82 : decode cX10_isWanted 82 = .ok (.iload_n 3, 1) := by decide +kernel
theorem dX10_isWanted_83 : decode cX10_isWanted 83 = .ok (.if_icmp .gt 7, 3) := by decide +kernel
theorem dX10_isWanted_86 : decode cX10_isWanted 86 = .ok (.iconst 1, 1) := by decide +kernel
theorem dX10_isWanted_87 : decode cX10_isWanted 87 = .ok (.goto 4, 3) := by decide +kernel
theorem dX10_isWanted_90 : decode cX10_isWanted 90 = .ok (.iconst 0, 1) := by decide +kernel
theorem dX10_isWanted_91 : decode cX10_isWanted 91 = .ok (.istore 5, 2) := by decide +kernel
theorem dX10_isWanted_93 : decode cX10_isWanted 93 = .ok (.iinc 6 1, 3) := by decide +kernel
theorem dX10_isWanted_96 : decode cX10_isWanted 96 = .ok (.goto (-82), 3) := by decide +kernel
theorem dX10_isWanted_99 : decode cX10_isWanted 99 = .ok (.iload 5, 2) := by decide +kernel
theorem dX10_isWanted_101 : decode cX10_isWanted 101 = .ok (.ireturn, 1) := by decide +kernel
theorem dX10_layGoing_0 : decode cX10_layGoing 0 = .ok (.iconst 0, 1) := by decide +kernel
theorem dX10_layGoing_1 : decode cX10_layGoing 1 = .ok (.istore 5, 2) := by decide +kernel
theorem dX10_layGoing_3 : decode cX10_layGoing 3 = .ok (.iconst 0, 1) := by decide +kernel
theorem dX10_layGoing_4 : decode cX10_layGoing 4 = .ok (.istore 6, 2) := by decide +kernel
theorem dX10_layGoing_6 : decode cX10_layGoing 6 = .ok (.iload 6, 2) := by decide +kernel
theorem dX10_layGoing_8 : decode cX10_layGoing 8 = .ok (.aload_n 0, 1) := by decide +kernel
theorem dX10_layGoing_9 : decode cX10_layGoing 9 = .ok (.getfield 87, 3) := by decide +kernel
theorem dX10_layGoing_12 : decode cX10_layGoing 12 = .ok (.if_icmp .ge 134, 3) := by decide +kernel
theorem dX10_layGoing_15 : decode cX10_layGoing 15 = .ok (.iload 5, 2) := by decide +kernel
theorem dX10_layGoing_17 : decode cX10_layGoing 17 = .ok (.iload_n 2, 1) := by decide +kernel
theorem dX10_layGoing_18 : decode cX10_layGoing 18 = .ok (.if_icmp .ge 40, 3) := by decide +kernel
theorem dX10_layGoing_21 : decode cX10_layGoing 21 = .ok (.aload_n 0, 1) := by decide +kernel
theorem dX10_layGoing_22 : decode cX10_layGoing 22 = .ok (.iload 6, 2) := by decide +kernel
theorem dX10_layGoing_24 : decode cX10_layGoing 24 = .ok (.iload_n 3, 1) := by decide +kernel
theorem dX10_layGoing_25 : decode cX10_layGoing 25 = .ok (.invokevirtual 156, 3) := by decide +kernel
theorem dX10_layGoing_28 : decode cX10_layGoing 28 = .ok (.ifCond .eq 30, 3) := by decide +kernel
theorem dX10_layGoing_31 : decode cX10_layGoing 31 = .ok (.aload_n 0, 1) := by decide +kernel
theorem dX10_layGoing_32 : decode cX10_layGoing 32 = .ok (.iload 6, 2) := by decide +kernel
theorem dX10_layGoing_34 : decode cX10_layGoing 34 = .ok (.iload 4, 2) := by decide +kernel
theorem dX10_layGoing_36 : decode cX10_layGoing 36 = .ok (.invokevirtual 156, 3) := by decide +kernel
theorem dX10_layGoing_39 : decode cX10_layGoing 39 = .ok (.ifCond .ne 19, 3) := by decide +kernel
theorem dX10_layGoing_42 : decode cX10_layGoing 42 = .ok (.aload_n 0, 1) := by decide +kernel
theorem dX10_layGoing_43 : decode cX10_layGoing 43 = .ok (.aload_n 1, 1) := by decide +kernel
theorem dX10_layGoing_44 : decode cX10_layGoing 44 = .ok (.iload 6, 2) := by decide +kernel
theorem dX10_layGoing_46 : decode cX10_layGoing 46 = .ok (.iload 4, 2) := by decide +kernel
theorem dX10_layGoing_48 : decode cX10_layGoing 48 = .ok (.invokevirtual 159, 3) := by decide +kernel
theorem dX10_layGoing_51 : decode cX10_layGoing 51 = .ok (.ifCond .eq 7, 3) := by decide +kernel
theorem dX10_layGoing_54 : decode cX10_layGoing 54 = .ok (.iconst 1, 1) := by decide +kernel
theorem dX10_layGoing_55 : decode cX10_layGoing 55 = .ok (.goto 4, 3) := by decide +kernel
theorem dX10_layGoing_58 : decode cX10_layGoing 58 = .ok (.iconst 0, 1) := by decide +kernel
theorem dX10_layGoing_59 : decode cX10_layGoing 59 = .ok (.istore 7, 2) := by decide +kernel
theorem dX10_layGoing_61 : decode cX10_layGoing 61 = .ok (.aload_n 0, 1) := by decide +kernel
theorem dX10_layGoing_62 : decode cX10_layGoing 62 = .ok (.getfield 78, 3) := by decide +kernel
theorem dX10_layGoing_65 : decode cX10_layGoing 65 = .ok (.iconst 4, 1) := by decide +kernel
theorem dX10_layGoing_66 : decode cX10_layGoing 66 = .ok (.iload 6, 2) := by decide +kernel
theorem dX10_layGoing_68 : decode cX10_layGoing 68 = .ok (.imul, 1) := by decide +kernel
theorem dX10_layGoing_69 : decode cX10_layGoing 69 = .ok (.iload 4, 2) := by decide +kernel
theorem dX10_layGoing_71 : decode cX10_layGoing 71 = .ok (.iadd, 1) := by decide +kernel
theorem dX10_layGoing_72 : decode cX10_layGoing 72 = .ok (.aload_n 0, 1) := by decide +kernel
theorem dX10_layGoing_73 : decode cX10_layGoing 73 = .ok (.getfield 78, 3) := by decide +kernel
theorem dX10_layGoing_76 : decode cX10_layGoing 76 = .ok (.iconst 4, 1) := by decide +kernel
theorem dX10_layGoing_77 : decode cX10_layGoing 77 = .ok (.iload 6, 2) := by decide +kernel
theorem dX10_layGoing_79 : decode cX10_layGoing 79 = .ok (.imul, 1) := by decide +kernel
theorem dX10_layGoing_80 : decode cX10_layGoing 80 = .ok (.iload 4, 2) := by decide +kernel
theorem dX10_layGoing_82 : decode cX10_layGoing 82 = .ok (.iadd, 1) := by decide +kernel
theorem dX10_layGoing_83 : decode cX10_layGoing 83 = .ok (.baload, 1) := by decide +kernel
theorem dX10_layGoing_84 : decode cX10_layGoing 84 = .ok (.ifCond .ne 8, 3) := by decide +kernel
theorem dX10_layGoing_87 : decode cX10_layGoing 87 = .ok (.iload 7, 2) := by decide +kernel
theorem dX10_layGoing_89 : decode cX10_layGoing 89 = .ok (.ifCond .eq 7, 3) := by decide +kernel
theorem dX10_layGoing_92 : decode cX10_layGoing 92 = .ok (.iconst 1, 1) := by decide +kernel
theorem dX10_layGoing_93 : decode cX10_layGoing 93 = .ok (.goto 4, 3) := by decide +kernel
theorem dX10_layGoing_96 : decode cX10_layGoing 96 = .ok (.iconst 0, 1) := by decide +kernel
theorem dX10_layGoing_97 : decode cX10_layGoing 97 = .ok (.bastore, 1) := by decide +kernel
theorem dX10_layGoing_98 : decode cX10_layGoing 98 = .ok (.iload 5, 2) := by decide +kernel
theorem dX10_layGoing_100 : decode cX10_layGoing 100 = .ok (.iload 7, 2) := by decide +kernel
theorem dX10_layGoing_102 : decode cX10_layGoing 102 = .ok (.ifCond .eq 7, 3) := by decide +kernel
theorem dX10_layGoing_105 : decode cX10_layGoing 105 = .ok (.iconst 1, 1) := by decide +kernel
theorem dX10_layGoing_106 : decode cX10_layGoing 106 = .ok (.goto 4, 3) := by decide +kernel
theorem dX10_layGoing_109 : decode cX10_layGoing 109 = .ok (.iconst 0, 1) := by decide +kernel
theorem dX10_layGoing_110 : decode cX10_layGoing 110 = .ok (.iadd, 1) := by decide +kernel
theorem dX10_layGoing_111 : decode cX10_layGoing 111 = .ok (.istore 5, 2) := by decide +kernel
theorem dX10_layGoing_113 : decode cX10_layGoing 113 = .ok (.aload_n 0, 1) := by decide +kernel
theorem dX10_layGoing_114 : decode cX10_layGoing 114 = .ok (.iload 7, 2) := by decide +kernel
theorem dX10_layGoing_116 : decode cX10_layGoing 116 = .ok (.ifCond .eq 17, 3) := by decide +kernel
theorem dX10_layGoing_119 : decode cX10_layGoing 119 = .ok (.iload 6, 2) := by decide +kernel
theorem dX10_layGoing_121 : decode cX10_layGoing 121 = .ok (.aload_n 0, 1) := by decide +kernel
theorem dX10_layGoing_122 : decode cX10_layGoing 122 = .ok (.getfield 163, 3) := by decide +kernel
theorem dX10_layGoing_125 : decode cX10_layGoing 125 = .ok (.if_icmp .le 8, 3) := by decide +kernel
theorem dX10_layGoing_128 : decode cX10_layGoing 128 = .ok (.iload 6, 2) := by decide +kernel
theorem dX10_layGoing_130 : decode cX10_layGoing 130 = .ok (.goto 7, 3) := by decide +kernel
theorem dX10_layGoing_133 : decode cX10_layGoing 133 = .ok (.aload_n 0, 1) := by decide +kernel
theorem dX10_layGoing_134 : decode cX10_layGoing 134 = .ok (.getfield 163, 3) := by decide +kernel
theorem dX10_layGoing_137 : decode cX10_layGoing 137 = .ok (.putfield 163, 3) := by decide +kernel
theorem dX10_layGoing_140 : decode cX10_layGoing 140 = .ok (.iinc 6 1, 3) := by decide +kernel
theorem dX10_layGoing_143 : decode cX10_layGoing 143 = .ok (.goto (-137), 3) := by decide +kernel
theorem dX10_layGoing_146 : decode cX10_layGoing 146 = .ok (.iload 5, 2) := by decide +kernel
theorem dX10_layGoing_148 : decode cX10_layGoing 148 = .ok (.ireturn, 1) := by decide +kernel
theorem dX10_laySchedule_0 : decode cX10_laySchedule 0 = .ok (.iconst 0, 1) := by decide +kernel
theorem dX10_laySchedule_1 : decode cX10_laySchedule 1 = .ok (.istore 5, 2) := by decide +kernel
theorem dX10_laySchedule_3 : decode cX10_laySchedule 3 = .ok (.iload 5, 2) := by decide +kernel
theorem dX10_laySchedule_5 : decode cX10_laySchedule 5 = .ok (.bipush 40, 2) := by decide +kernel
theorem dX10_laySchedule_7 : decode cX10_laySchedule 7 = .ok (.if_icmp .ge 18, 3) := by decide +kernel
theorem dX10_laySchedule_10 : decode cX10_laySchedule 10 = .ok (.aload_n 0, 1) := by decide +kernel
theorem dX10_laySchedule_11 : decode cX10_laySchedule 11 = .ok (.getfield 75, 3) := by decide +kernel
theorem dX10_laySchedule_14 : decode cX10_laySchedule 14 = .ok (.iload 5, 2) := by decide +kernel
theorem dX10_laySchedule_16 : decode cX10_laySchedule 16 = .ok (.bipush (-9), 2) := by decide +kernel
theorem dX10_laySchedule_18 : decode cX10_laySchedule 18 = .ok (.iastore, 1) := by decide +kernel
theorem dX10_laySchedule_19 : decode cX10_laySchedule 19 = .ok (.iinc 5 1, 3) := by decide +kernel
theorem dX10_laySchedule_22 : decode cX10_laySchedule 22 = .ok (.goto (-19), 3) := by decide +kernel
theorem dX10_laySchedule_25 : decode cX10_laySchedule 25 = .ok (.iconst 0, 1) := by decide +kernel
theorem dX10_laySchedule_26 : decode cX10_laySchedule 26 = .ok (.istore 5, 2) := by decide +kernel
theorem dX10_laySchedule_28 : decode cX10_laySchedule 28 = .ok (.iload 5, 2) := by decide +kernel
theorem dX10_laySchedule_30 : decode cX10_laySchedule 30 = .ok (.aload_n 0, 1) := by decide +kernel
theorem dX10_laySchedule_31 : decode cX10_laySchedule 31 = .ok (.getfield 87, 3) := by decide +kernel
theorem dX10_laySchedule_34 : decode cX10_laySchedule 34 = .ok (.if_icmp .ge 41, 3) := by decide +kernel
theorem dX10_laySchedule_37 : decode cX10_laySchedule 37 = .ok (.aload_n 0, 1) := by decide +kernel
theorem dX10_laySchedule_38 : decode cX10_laySchedule 38 = .ok (.getfield 75, 3) := by decide +kernel
theorem dX10_laySchedule_41 : decode cX10_laySchedule 41 = .ok (.iconst 4, 1) := by decide +kernel
theorem dX10_laySchedule_42 : decode cX10_laySchedule 42 = .ok (.iload 5, 2) := by decide +kernel
theorem dX10_laySchedule_44 : decode cX10_laySchedule 44 = .ok (.imul, 1) := by decide +kernel
theorem dX10_laySchedule_45 : decode cX10_laySchedule 45 = .ok (.aload_n 1, 1) := by decide +kernel
theorem dX10_laySchedule_46 : decode cX10_laySchedule 46 = .ok (.bipush 10, 2) := by decide +kernel
theorem dX10_laySchedule_48 : decode cX10_laySchedule 48 = .ok (.iload 5, 2) := by decide +kernel
theorem dX10_laySchedule_50 : decode cX10_laySchedule 50 = .ok (.iadd, 1) := by decide +kernel
theorem dX10_laySchedule_51 : decode cX10_laySchedule 51 = .ok (.iaload, 1) := by decide +kernel
theorem dX10_laySchedule_52 : decode cX10_laySchedule 52 = .ok (.iadd, 1) := by decide +kernel
theorem dX10_laySchedule_53 : decode cX10_laySchedule 53 = .ok (.aload_n 0, 1) := by decide +kernel
theorem dX10_laySchedule_54 : decode cX10_laySchedule 54 = .ok (.iload 5, 2) := by decide +kernel
theorem dX10_laySchedule_56 : decode cX10_laySchedule 56 = .ok (.invokevirtual 140, 3) := by decide +kernel
theorem dX10_laySchedule_59 : decode cX10_laySchedule 59 = .ok (.ifCond .eq 7, 3) := by decide +kernel
theorem dX10_laySchedule_62 : decode cX10_laySchedule 62 = .ok (.iconst 0, 1) := by decide +kernel
theorem dX10_laySchedule_63 : decode cX10_laySchedule 63 = .ok (.goto 5, 3) := by decide +kernel
theorem dX10_laySchedule_66 : decode cX10_laySchedule 66 = .ok (.bipush (-9), 2) := by decide +kernel
theorem dX10_laySchedule_68 : decode cX10_laySchedule 68 = .ok (.iastore, 1) := by decide +kernel
theorem dX10_laySchedule_69 : decode cX10_laySchedule 69 = .ok (.iinc 5 1, 3) := by decide +kernel
theorem dX10_laySchedule_72 : decode cX10_laySchedule 72 = .ok (.goto (-44), 3) := by decide +kernel
theorem dX10_laySchedule_75 : decode cX10_laySchedule 75 = .ok (.aload_n 0, 1) := by decide +kernel
theorem dX10_laySchedule_76 : decode cX10_laySchedule 76 = .ok (.iconst 0, 1) := by decide +kernel
theorem dX10_laySchedule_77 : decode cX10_laySchedule 77 = .ok (.putfield 166, 3) := by decide +kernel
theorem dX10_laySchedule_80 : decode cX10_laySchedule 80 = .ok (.aload_n 0, 1) := by decide +kernel
theorem dX10_laySchedule_81 : decode cX10_laySchedule 81 = .ok (.iconst 0, 1) := by decide +kernel
theorem dX10_laySchedule_82 : decode cX10_laySchedule 82 = .ok (.putfield 169, 3) := by decide +kernel
theorem dX10_laySchedule_85 : decode cX10_laySchedule 85 = .ok (.aload_n 0, 1) := by decide +kernel
theorem dX10_laySchedule_86 : decode cX10_laySchedule 86 = .ok (.bipush (-9), 2) := by decide +kernel
theorem dX10_laySchedule_88 : decode cX10_laySchedule 88 = .ok (.putfield 172, 3) := by decide +kernel
theorem dX10_laySchedule_91 : decode cX10_laySchedule 91 = .ok (.iconst 1, 1) := by decide +kernel
theorem dX10_laySchedule_92 : decode cX10_laySchedule 92 = .ok (.istore 5, 2) := by decide +kernel
theorem dX10_laySchedule_94 : decode cX10_laySchedule 94 = .ok (.iconst 0, 1) := by decide +kernel
theorem dX10_laySchedule_95 : decode cX10_laySchedule 95 = .ok (.istore 6, 2) := by decide +kernel
theorem dX10_laySchedule_97 : decode cX10_laySchedule 97 = .ok (.iload 6, 2) := by decide +kernel
theorem dX10_laySchedule_99 : decode cX10_laySchedule 99 = .ok (.bipush 99, 2) := by decide +kernel
theorem dX10_laySchedule_101 : decode cX10_laySchedule 101 = .ok (.if_icmp .ge 227, 3) := by decide +kernel
theorem dX10_laySchedule_104 : decode cX10_laySchedule 104 = .ok (.iload 5, 2) := by decide +kernel
theorem dX10_laySchedule_106 : decode cX10_laySchedule 106 = .ok (.ifCond .gt 10, 3) := by decide +kernel
theorem dX10_laySchedule_109 : decode cX10_laySchedule 109 = .ok (.iload 6, 2) := by decide +kernel
theorem dX10_laySchedule_111 : decode cX10_laySchedule 111 = .ok (.iload 4, 2) := by decide +kernel
theorem dX10_laySchedule_113 : decode cX10_laySchedule 113 = .ok (.if_icmp .gt 215, 3) := by decide +kernel
theorem dX10_laySchedule_116 : decode cX10_laySchedule 116 = .ok (.aload_n 0, 1) := by decide +kernel
theorem dX10_laySchedule_117 : decode cX10_laySchedule 117 = .ok (.aload_n 1, 1) := by decide +kernel
theorem dX10_laySchedule_118 : decode cX10_laySchedule 118 = .ok (.iload 6, 2) := by decide +kernel
theorem dX10_laySchedule_120 : decode cX10_laySchedule 120 = .ok (.invokevirtual 175, 3) := by decide +kernel
theorem dX10_laySchedule_123 : decode cX10_laySchedule 123 = .ok (.iconst 0, 1) := by decide +kernel
theorem dX10_laySchedule_124 : decode cX10_laySchedule 124 = .ok (.istore 7, 2) := by decide +kernel
theorem dX10_laySchedule_126 : decode cX10_laySchedule 126 = .ok (.iload 7, 2) := by decide +kernel
theorem dX10_laySchedule_128 : decode cX10_laySchedule 128 = .ok (.bipush 40, 2) := by decide +kernel
theorem dX10_laySchedule_130 : decode cX10_laySchedule 130 = .ok (.if_icmp .ge 17, 3) := by decide +kernel
theorem dX10_laySchedule_133 : decode cX10_laySchedule 133 = .ok (.aload_n 0, 1) := by decide +kernel
theorem dX10_laySchedule_134 : decode cX10_laySchedule 134 = .ok (.getfield 78, 3) := by decide +kernel
theorem dX10_laySchedule_137 : decode cX10_laySchedule 137 = .ok (.iload 7, 2) := by decide +kernel
theorem dX10_laySchedule_139 : decode cX10_laySchedule 139 = .ok (.iconst 0, 1) := by decide +kernel
theorem dX10_laySchedule_140 : decode cX10_laySchedule 140 = .ok (.bastore, 1) := by decide +kernel
theorem dX10_laySchedule_141 : decode cX10_laySchedule 141 = .ok (.iinc 7 1, 3) := by decide +kernel
theorem dX10_laySchedule_144 : decode cX10_laySchedule 144 = .ok (.goto (-18), 3) := by decide +kernel
theorem dX10_laySchedule_147 : decode cX10_laySchedule 147 = .ok (.iconst 0, 1) := by decide +kernel
theorem dX10_laySchedule_148 : decode cX10_laySchedule 148 = .ok (.istore 5, 2) := by decide +kernel
theorem dX10_laySchedule_150 : decode cX10_laySchedule 150 = .ok (.aload_n 0, 1) := by decide +kernel
theorem dX10_laySchedule_151 : decode cX10_laySchedule 151 = .ok (.bipush (-9), 2) := by decide +kernel
theorem dX10_laySchedule_153 : decode cX10_laySchedule 153 = .ok (.putfield 163, 3) := by decide +kernel
theorem dX10_laySchedule_156 : decode cX10_laySchedule 156 = .ok (.iload 6, 2) := by decide +kernel
theorem dX10_laySchedule_158 : decode cX10_laySchedule 158 = .ok (.iload 4, 2) := by decide +kernel
theorem dX10_laySchedule_160 : decode cX10_laySchedule 160 = .ok (.if_icmp .ge 16, 3) := by decide +kernel
theorem dX10_laySchedule_163 : decode cX10_laySchedule 163 = .ok (.iload_n 3, 1) := by decide +kernel
theorem dX10_laySchedule_164 : decode cX10_laySchedule 164 = .ok (.iload 6, 2) := by decide +kernel
theorem dX10_laySchedule_166 : decode cX10_laySchedule 166 = .ok (.invokestatic 144, 3) := by decide +kernel
theorem dX10_laySchedule_169 : decode cX10_laySchedule 169 = .ok (.ifCond .eq 7, 3) := by decide +kernel
theorem dX10_laySchedule_172 : decode cX10_laySchedule 172 = .ok (.iconst 1, 1) := by decide +kernel
theorem dX10_laySchedule_173 : decode cX10_laySchedule 173 = .ok (.goto 4, 3) := by decide +kernel
theorem dX10_laySchedule_176 : decode cX10_laySchedule 176 = .ok (.iconst 0, 1) := by decide +kernel
theorem dX10_laySchedule_177 : decode cX10_laySchedule 177 = .ok (.istore 7, 2) := by decide +kernel
theorem dX10_laySchedule_179 : decode cX10_laySchedule 179 = .ok (.iconst 0, 1) := by decide +kernel
theorem dX10_laySchedule_180 : decode cX10_laySchedule 180 = .ok (.istore 8, 2) := by decide +kernel
theorem dX10_laySchedule_182 : decode cX10_laySchedule 182 = .ok (.iload 8, 2) := by decide +kernel
theorem dX10_laySchedule_184 : decode cX10_laySchedule 184 = .ok (.iconst 1, 1) := by decide +kernel
theorem dX10_laySchedule_185 : decode cX10_laySchedule 185 = .ok (.iadd, 1) := by decide +kernel
theorem dX10_laySchedule_186 : decode cX10_laySchedule 186 = .ok (.aload_n 0, 1) := by decide +kernel
theorem dX10_laySchedule_187 : decode cX10_laySchedule 187 = .ok (.getfield 13, 3) := by decide +kernel
theorem dX10_laySchedule_190 : decode cX10_laySchedule 190 = .ok (.if_icmp .ge 44, 3) := by decide +kernel
theorem dX10_laySchedule_193 : decode cX10_laySchedule 193 = .ok (.iload 7, 2) := by decide +kernel
theorem dX10_laySchedule_195 : decode cX10_laySchedule 195 = .ok (.ifCond .ne 39, 3) := by decide +kernel
theorem dX10_laySchedule_198 : decode cX10_laySchedule 198 = .ok (.iload 5, 2) := by decide +kernel
theorem dX10_laySchedule_200 : decode cX10_laySchedule 200 = .ok (.aload_n 0, 1) := by decide +kernel
theorem dX10_laySchedule_201 : decode cX10_laySchedule 201 = .ok (.aload_n 1, 1) := by decide +kernel
theorem dX10_laySchedule_202 : decode cX10_laySchedule 202 = .ok (.iload_n 2, 1) := by decide +kernel
theorem dX10_laySchedule_203 : decode cX10_laySchedule 203 = .ok (.iload 8, 2) := by decide +kernel
theorem dX10_laySchedule_205 : decode cX10_laySchedule 205 = .ok (.iload 8, 2) := by decide +kernel
theorem dX10_laySchedule_207 : decode cX10_laySchedule 207 = .ok (.iconst 1, 1) := by decide +kernel
theorem dX10_laySchedule_208 : decode cX10_laySchedule 208 = .ok (.iadd, 1) := by decide +kernel
theorem dX10_laySchedule_209 : decode cX10_laySchedule 209 = .ok (.invokevirtual 178, 3) := by decide +kernel
theorem dX10_laySchedule_212 : decode cX10_laySchedule 212 = .ok (.aload_n 0, 1) := by decide +kernel
theorem dX10_laySchedule_213 : decode cX10_laySchedule 213 = .ok (.aload_n 1, 1) := by decide +kernel
theorem dX10_laySchedule_214 : decode cX10_laySchedule 214 = .ok (.iload_n 2, 1) := by decide +kernel
theorem dX10_laySchedule_215 : decode cX10_laySchedule 215 = .ok (.iload 8, 2) := by decide +kernel
theorem dX10_laySchedule_217 : decode cX10_laySchedule 217 = .ok (.iconst 1, 1) := by decide +kernel
theorem dX10_laySchedule_218 : decode cX10_laySchedule 218 = .ok (.iadd, 1) := by decide +kernel
theorem dX10_laySchedule_219 : decode cX10_laySchedule 219 = .ok (.iload 8, 2) := by decide +kernel
theorem dX10_laySchedule_221 : decode cX10_laySchedule 221 = .ok (.invokevirtual 178, 3) := by decide +kernel
theorem dX10_laySchedule_224 : decode cX10_laySchedule 224 = .ok (.iadd, 1) := by decide +kernel
theorem dX10_laySchedule_225 : decode cX10_laySchedule 225 = .ok (.iadd, 1) := by decide +kernel
theorem dX10_laySchedule_226 : decode cX10_laySchedule 226 = .ok (.istore 5, 2) := by decide +kernel
theorem dX10_laySchedule_228 : decode cX10_laySchedule 228 = .ok (.iinc 8 1, 3) := by decide +kernel
theorem dX10_laySchedule_231 : decode cX10_laySchedule 231 = .ok (.goto (-49), 3) := by decide +kernel
theorem dX10_laySchedule_234 : decode cX10_laySchedule 234 = .ok (.iconst 0, 1) := by decide +kernel
theorem dX10_laySchedule_235 : decode cX10_laySchedule 235 = .ok (.istore 8, 2) := by decide +kernel
theorem dX10_laySchedule_237 : decode cX10_laySchedule 237 = .ok (.iload 8, 2) := by decide +kernel
theorem dX10_laySchedule_239 : decode cX10_laySchedule 239 = .ok (.bipush 40, 2) := by decide +kernel
theorem dX10_laySchedule_241 : decode cX10_laySchedule 241 = .ok (.if_icmp .ge 40, 3) := by decide +kernel
theorem dX10_laySchedule_244 : decode cX10_laySchedule 244 = .ok (.aload_n 0, 1) := by decide +kernel
theorem dX10_laySchedule_245 : decode cX10_laySchedule 245 = .ok (.getfield 75, 3) := by decide +kernel
theorem dX10_laySchedule_248 : decode cX10_laySchedule 248 = .ok (.iload 8, 2) := by decide +kernel
theorem dX10_laySchedule_250 : decode cX10_laySchedule 250 = .ok (.aload_n 0, 1) := by decide +kernel
theorem dX10_laySchedule_251 : decode cX10_laySchedule 251 = .ok (.getfield 78, 3) := by decide +kernel
theorem dX10_laySchedule_254 : decode cX10_laySchedule 254 = .ok (.iload 8, 2) := by decide +kernel
theorem dX10_laySchedule_256 : decode cX10_laySchedule 256 = .ok (.baload, 1) := by decide +kernel
theorem dX10_laySchedule_257 : decode cX10_laySchedule 257 = .ok (.ifCond .eq 10, 3) := by decide +kernel
theorem dX10_laySchedule_260 : decode cX10_laySchedule 260 = .ok (.iload 6, 2) := by decide +kernel
theorem dX10_laySchedule_262 : decode cX10_laySchedule 262 = .ok (.iconst 1, 1) := by decide +kernel
theorem dX10_laySchedule_263 : decode cX10_laySchedule 263 = .ok (.iadd, 1) := by decide +kernel
theorem dX10_laySchedule_264 : decode cX10_laySchedule 264 = .ok (.goto 10, 3) := by decide +kernel
theorem dX10_laySchedule_267 : decode cX10_laySchedule 267 = .ok (.aload_n 0, 1) := by decide +kernel
theorem dX10_laySchedule_268 : decode cX10_laySchedule 268 = .ok (.getfield 75, 3) := by decide +kernel
theorem dX10_laySchedule_271 : decode cX10_laySchedule 271 = .ok (.iload 8, 2) := by decide +kernel
theorem dX10_laySchedule_273 : decode cX10_laySchedule 273 = .ok (.iaload, 1) := by decide +kernel
theorem dX10_laySchedule_274 : decode cX10_laySchedule 274 = .ok (.iastore, 1) := by decide +kernel
theorem dX10_laySchedule_275 : decode cX10_laySchedule 275 = .ok (.iinc 8 1, 3) := by decide +kernel
theorem dX10_laySchedule_278 : decode cX10_laySchedule 278 = .ok (.goto (-41), 3) := by decide +kernel
theorem dX10_laySchedule_281 : decode cX10_laySchedule 281 = .ok (.aload_n 0, 1) := by decide +kernel
theorem dX10_laySchedule_282 : decode cX10_laySchedule 282 = .ok (.dup, 1) := by decide +kernel
theorem dX10_laySchedule_283 : decode cX10_laySchedule 283 = .ok (.getfield 166, 3) := by decide +kernel
theorem dX10_laySchedule_286 : decode cX10_laySchedule 286 = .ok (.iconst 1, 1) := by decide +kernel
theorem dX10_laySchedule_287 : decode cX10_laySchedule 287 = .ok (.iadd, 1) := by decide +kernel
theorem dX10_laySchedule_288 : decode cX10_laySchedule 288 = .ok (.putfield 166, 3) := by decide +kernel
theorem dX10_laySchedule_291 : decode cX10_laySchedule 291 = .ok (.aload_n 0, 1) := by decide +kernel
theorem dX10_laySchedule_292 : decode cX10_laySchedule 292 = .ok (.dup, 1) := by decide +kernel
theorem dX10_laySchedule_293 : decode cX10_laySchedule 293 = .ok (.getfield 169, 3) := by decide +kernel
theorem dX10_laySchedule_296 : decode cX10_laySchedule 296 = .ok (.iload 5, 2) := by decide +kernel
theorem dX10_laySchedule_298 : decode cX10_laySchedule 298 = .ok (.iadd, 1) := by decide +kernel
theorem dX10_laySchedule_299 : decode cX10_laySchedule 299 = .ok (.putfield 169, 3) := by decide +kernel
theorem dX10_laySchedule_302 : decode cX10_laySchedule 302 = .ok (.aload_n 0, 1) := by decide +kernel
theorem dX10_laySchedule_303 : decode cX10_laySchedule 303 = .ok (.iload 5, 2) := by decide +kernel
theorem dX10_laySchedule_305 : decode cX10_laySchedule 305 = .ok (.ifCond .le 10, 3) := by decide +kernel
theorem dX10_laySchedule_308 : decode cX10_laySchedule 308 = .ok (.aload_n 0, 1) := by decide +kernel
theorem dX10_laySchedule_309 : decode cX10_laySchedule 309 = .ok (.getfield 163, 3) := by decide +kernel
theorem dX10_laySchedule_312 : decode cX10_laySchedule 312 = .ok (.goto 7, 3) := by decide +kernel
theorem dX10_laySchedule_315 : decode cX10_laySchedule 315 = .ok (.aload_n 0, 1) := by decide +kernel
theorem dX10_laySchedule_316 : decode cX10_laySchedule 316 = .ok (.getfield 172, 3) := by decide +kernel
theorem dX10_laySchedule_319 : decode cX10_laySchedule 319 = .ok (.putfield 172, 3) := by decide +kernel
theorem dX10_laySchedule_322 : decode cX10_laySchedule 322 = .ok (.iinc 6 1, 3) := by decide +kernel
theorem dX10_laySchedule_325 : decode cX10_laySchedule 325 = .ok (.goto (-228), 3) := by decide +kernel
theorem dX10_laySchedule_328 : decode cX10_laySchedule 328 = .ok (.return_, 1) := by decide +kernel
theorem dX10_usedBy_0 : decode cX10_usedBy 0 = .ok (.iconst 0, 1) := by decide +kernel
theorem dX10_usedBy_1 : decode cX10_usedBy 1 = .ok (.istore_n 2, 1) := by decide +kernel
theorem dX10_usedBy_2 : decode cX10_usedBy 2 = .ok (.iconst 0, 1) := by decide +kernel
theorem dX10_usedBy_3 : decode cX10_usedBy 3 = .ok (.istore_n 3, 1) := by decide +kernel
theorem dX10_usedBy_4 : decode cX10_usedBy 4 = .ok (.iload_n 3, 1) := by decide +kernel
theorem dX10_usedBy_5 : decode cX10_usedBy 5 = .ok (.aload_n 0, 1) := by decide +kernel
theorem dX10_usedBy_6 : decode cX10_usedBy 6 = .ok (.getfield 87, 3) := by decide +kernel
theorem dX10_usedBy_9 : decode cX10_usedBy 9 = .ok (.if_icmp .ge 39, 3) := by decide +kernel
theorem dX10_usedBy_12 : decode cX10_usedBy 12 = .ok (.iload_n 2, 1) := by decide +kernel
theorem dX10_usedBy_13 : decode cX10_usedBy 13 = .ok (.aload_n 0, 1) := by decide +kernel
theorem dX10_usedBy_14 : decode cX10_usedBy 14 = .ok (.getfield 20, 3) := by decide +kernel
theorem dX10_usedBy_17 : decode cX10_usedBy 17 = .ok (.iload_n 3, 1) := by decide +kernel
theorem dX10_usedBy_18 : decode cX10_usedBy 18 = .ok (.iaload, 1) := by decide +kernel
theorem dX10_usedBy_19 : decode cX10_usedBy 19 = .ok (.iload_n 1, 1) := by decide +kernel
theorem dX10_usedBy_20 : decode cX10_usedBy 20 = .ok (.if_icmp .eq 13, 3) := by decide +kernel
theorem dX10_usedBy_23 : decode cX10_usedBy 23 = .ok (.aload_n 0, 1) := by decide +kernel
theorem dX10_usedBy_24 : decode cX10_usedBy 24 = .ok (.getfield 23, 3) := by decide +kernel
theorem dX10_usedBy_27 : decode cX10_usedBy 27 = .ok (.iload_n 3, 1) := by decide +kernel
theorem dX10_usedBy_28 : decode cX10_usedBy 28 = .ok (.iaload, 1) := by decide +kernel
theorem dX10_usedBy_29 : decode cX10_usedBy 29 = .ok (.iload_n 1, 1) := by decide +kernel
theorem dX10_usedBy_30 : decode cX10_usedBy 30 = .ok (.if_icmp .ne 9, 3) := by decide +kernel
theorem dX10_usedBy_33 : decode cX10_usedBy 33 = .ok (.iconst 1, 1) := by decide +kernel
theorem dX10_usedBy_34 : decode cX10_usedBy 34 = .ok (.iload_n 3, 1) := by decide +kernel
theorem dX10_usedBy_35 : decode cX10_usedBy 35 = .ok (.ishl, 1) := by decide +kernel
theorem dX10_usedBy_36 : decode cX10_usedBy 36 = .ok (.goto 4, 3) := by decide +kernel
theorem dX10_usedBy_39 : decode cX10_usedBy 39 = .ok (.iconst 0, 1) := by decide +kernel
theorem dX10_usedBy_40 : decode cX10_usedBy 40 = .ok (.ior, 1) := by decide +kernel
theorem dX10_usedBy_41 : decode cX10_usedBy 41 = .ok (.istore_n 2, 1) := by decide +kernel
theorem dX10_usedBy_42 : decode cX10_usedBy 42 = .ok (.iinc 3 1, 3) := by decide +kernel
theorem dX10_usedBy_45 : decode cX10_usedBy 45 = .ok (.goto (-41), 3) := by decide +kernel
theorem dX10_usedBy_48 : decode cX10_usedBy 48 = .ok (.iload_n 2, 1) := by decide +kernel
theorem dX10_usedBy_49 : decode cX10_usedBy 49 = .ok (.ireturn, 1) := by decide +kernel
theorem dX10_gate_0 : decode cX10_gate 0 = .ok (.aload_n 0, 1) := by decide +kernel
theorem dX10_gate_1 : decode cX10_gate 1 = .ok (.iconst 0, 1) := by decide +kernel
theorem dX10_gate_2 : decode cX10_gate 2 = .ok (.putfield 84, 3) := by decide +kernel
theorem dX10_gate_5 : decode cX10_gate 5 = .ok (.aload_n 0, 1) := by decide +kernel
theorem dX10_gate_6 : decode cX10_gate 6 = .ok (.iload_n 1, 1) := by decide +kernel
theorem dX10_gate_7 : decode cX10_gate 7 = .ok (.invokevirtual 182, 3) := by decide +kernel
theorem dX10_gate_10 : decode cX10_gate 10 = .ok (.ifCond .eq 5, 3) := by decide +kernel
theorem dX10_gate_13 : decode cX10_gate 13 = .ok (.iconst (-1), 1) := by decide +kernel
theorem dX10_gate_14 : decode cX10_gate 14 = .ok (.ireturn, 1) := by decide +kernel
theorem dX10_gate_15 : decode cX10_gate 15 = .ok (.iload_n 2, 1) := by decide +kernel
theorem dX10_gate_16 : decode cX10_gate 16 = .ok (.tableswitch 98 0 6 #[44, 51, 61, 68, 75, 82, 92], 44) := by decide +kernel
theorem dX10_gate_60 : decode cX10_gate 60 = .ok (.aload_n 0, 1) := by decide +kernel
theorem dX10_gate_61 : decode cX10_gate 61 = .ok (.getfield 17, 3) := by decide +kernel
theorem dX10_gate_64 : decode cX10_gate 64 = .ok (.iload_n 1, 1) := by decide +kernel
theorem dX10_gate_65 : decode cX10_gate 65 = .ok (.iaload, 1) := by decide +kernel
theorem dX10_gate_66 : decode cX10_gate 66 = .ok (.ireturn, 1) := by decide +kernel
theorem dX10_gate_67 : decode cX10_gate 67 = .ok (.aload_n 0, 1) := by decide +kernel
theorem dX10_gate_68 : decode cX10_gate 68 = .ok (.getfield 44, 3) := by decide +kernel
theorem dX10_gate_71 : decode cX10_gate 71 = .ok (.bipush 10, 2) := by decide +kernel
theorem dX10_gate_73 : decode cX10_gate 73 = .ok (.iload_n 1, 1) := by decide +kernel
theorem dX10_gate_74 : decode cX10_gate 74 = .ok (.iadd, 1) := by decide +kernel
theorem dX10_gate_75 : decode cX10_gate 75 = .ok (.iaload, 1) := by decide +kernel
theorem dX10_gate_76 : decode cX10_gate 76 = .ok (.ireturn, 1) := by decide +kernel
theorem dX10_gate_77 : decode cX10_gate 77 = .ok (.aload_n 0, 1) := by decide +kernel
theorem dX10_gate_78 : decode cX10_gate 78 = .ok (.getfield 20, 3) := by decide +kernel
theorem dX10_gate_81 : decode cX10_gate 81 = .ok (.iload_n 1, 1) := by decide +kernel
theorem dX10_gate_82 : decode cX10_gate 82 = .ok (.iaload, 1) := by decide +kernel
theorem dX10_gate_83 : decode cX10_gate 83 = .ok (.ireturn, 1) := by decide +kernel
theorem dX10_gate_84 : decode cX10_gate 84 = .ok (.aload_n 0, 1) := by decide +kernel
theorem dX10_gate_85 : decode cX10_gate 85 = .ok (.getfield 23, 3) := by decide +kernel
theorem dX10_gate_88 : decode cX10_gate 88 = .ok (.iload_n 1, 1) := by decide +kernel
theorem dX10_gate_89 : decode cX10_gate 89 = .ok (.iaload, 1) := by decide +kernel
theorem dX10_gate_90 : decode cX10_gate 90 = .ok (.ireturn, 1) := by decide +kernel
theorem dX10_gate_91 : decode cX10_gate 91 = .ok (.aload_n 0, 1) := by decide +kernel
theorem dX10_gate_92 : decode cX10_gate 92 = .ok (.getfield 26, 3) := by decide +kernel
theorem dX10_gate_95 : decode cX10_gate 95 = .ok (.iload_n 1, 1) := by decide +kernel
theorem dX10_gate_96 : decode cX10_gate 96 = .ok (.iaload, 1) := by decide +kernel
theorem dX10_gate_97 : decode cX10_gate 97 = .ok (.ireturn, 1) := by decide +kernel
theorem dX10_gate_98 : decode cX10_gate 98 = .ok (.aload_n 0, 1) := by decide +kernel
theorem dX10_gate_99 : decode cX10_gate 99 = .ok (.aload_n 0, 1) := by decide +kernel
theorem dX10_gate_100 : decode cX10_gate 100 = .ok (.getfield 44, 3) := by decide +kernel
theorem dX10_gate_103 : decode cX10_gate 103 = .ok (.iload_n 1, 1) := by decide +kernel
theorem dX10_gate_104 : decode cX10_gate 104 = .ok (.invokevirtual 185, 3) := by decide +kernel
theorem dX10_gate_107 : decode cX10_gate 107 = .ok (.ireturn, 1) := by decide +kernel
theorem dX10_gate_108 : decode cX10_gate 108 = .ok (.aload_n 0, 1) := by decide +kernel
theorem dX10_gate_109 : decode cX10_gate 109 = .ok (.iload_n 1, 1) := by decide +kernel
theorem dX10_gate_110 : decode cX10_gate 110 = .ok (.invokevirtual 189, 3) := by decide +kernel
theorem dX10_gate_113 : decode cX10_gate 113 = .ok (.ireturn, 1) := by decide +kernel
theorem dX10_gate_114 : decode cX10_gate 114 = .ok (.bipush (-2), 2) := by decide +kernel
theorem dX10_gate_116 : decode cX10_gate 116 = .ok (.ireturn, 1) := by decide +kernel
theorem dX10_note_0 : decode cX10_note 0 = .ok (.aload_n 0, 1) := by decide +kernel
theorem dX10_note_1 : decode cX10_note 1 = .ok (.getfield 134, 3) := by decide +kernel
theorem dX10_note_4 : decode cX10_note 4 = .ok (.bipush 14, 2) := by decide +kernel
theorem dX10_note_6 : decode cX10_note 6 = .ok (.if_icmp .ne 43, 3) := by decide +kernel
theorem dX10_note_9 : decode cX10_note 9 = .ok (.iconst 0, 1) := by decide +kernel
theorem dX10_note_10 : decode cX10_note 10 = .ok (.istore_n 1, 1) := by decide +kernel
theorem dX10_note_11 : decode cX10_note 11 = .ok (.iload_n 1, 1) := by decide +kernel
theorem dX10_note_12 : decode cX10_note 12 = .ok (.sipush 286, 3) := by decide +kernel
theorem dX10_note_15 : decode cX10_note 15 = .ok (.if_icmp .ge 24, 3) := by decide +kernel
theorem dX10_note_18 : decode cX10_note 18 = .ok (.aload_n 0, 1) := by decide +kernel
theorem dX10_note_19 : decode cX10_note 19 = .ok (.getfield 50, 3) := by decide +kernel
theorem dX10_note_22 : decode cX10_note 22 = .ok (.iload_n 1, 1) := by decide +kernel
theorem dX10_note_23 : decode cX10_note 23 = .ok (.aload_n 0, 1) := by decide +kernel
theorem dX10_note_24 : decode cX10_note 24 = .ok (.getfield 50, 3) := by decide +kernel
theorem dX10_note_27 : decode cX10_note 27 = .ok (.iload_n 1, 1) := by decide +kernel
theorem dX10_note_28 : decode cX10_note 28 = .ok (.bipush 22, 2) := by decide +kernel
theorem dX10_note_30 : decode cX10_note 30 = .ok (.iadd, 1) := by decide +kernel
theorem dX10_note_31 : decode cX10_note 31 = .ok (.iaload, 1) := by decide +kernel
theorem dX10_note_32 : decode cX10_note 32 = .ok (.iastore, 1) := by decide +kernel
theorem dX10_note_33 : decode cX10_note 33 = .ok (.iinc 1 1, 3) := by decide +kernel
theorem dX10_note_36 : decode cX10_note 36 = .ok (.goto (-25), 3) := by decide +kernel
theorem dX10_note_39 : decode cX10_note 39 = .ok (.aload_n 0, 1) := by decide +kernel
theorem dX10_note_40 : decode cX10_note 40 = .ok (.dup, 1) := by decide +kernel
theorem dX10_note_41 : decode cX10_note 41 = .ok (.getfield 134, 3) := by decide +kernel
theorem dX10_note_44 : decode cX10_note 44 = .ok (.iconst 1, 1) := by decide +kernel
theorem dX10_note_45 : decode cX10_note 45 = .ok (.isub, 1) := by decide +kernel
theorem dX10_note_46 : decode cX10_note 46 = .ok (.putfield 134, 3) := by decide +kernel
theorem dX10_note_49 : decode cX10_note 49 = .ok (.iconst 0, 1) := by decide +kernel
theorem dX10_note_50 : decode cX10_note 50 = .ok (.istore_n 1, 1) := by decide +kernel
theorem dX10_note_51 : decode cX10_note 51 = .ok (.iload_n 1, 1) := by decide +kernel
theorem dX10_note_52 : decode cX10_note 52 = .ok (.bipush 22, 2) := by decide +kernel
theorem dX10_note_54 : decode cX10_note 54 = .ok (.if_icmp .ge 29, 3) := by decide +kernel
theorem dX10_note_57 : decode cX10_note 57 = .ok (.aload_n 0, 1) := by decide +kernel
theorem dX10_note_58 : decode cX10_note 58 = .ok (.getfield 50, 3) := by decide +kernel
theorem dX10_note_61 : decode cX10_note 61 = .ok (.bipush 22, 2) := by decide +kernel
theorem dX10_note_63 : decode cX10_note 63 = .ok (.aload_n 0, 1) := by decide +kernel
theorem dX10_note_64 : decode cX10_note 64 = .ok (.getfield 134, 3) := by decide +kernel
theorem dX10_note_67 : decode cX10_note 67 = .ok (.imul, 1) := by decide +kernel
theorem dX10_note_68 : decode cX10_note 68 = .ok (.iload_n 1, 1) := by decide +kernel
theorem dX10_note_69 : decode cX10_note 69 = .ok (.iadd, 1) := by decide +kernel
theorem dX10_note_70 : decode cX10_note 70 = .ok (.aload_n 0, 1) := by decide +kernel
theorem dX10_note_71 : decode cX10_note 71 = .ok (.getfield 44, 3) := by decide +kernel
theorem dX10_note_74 : decode cX10_note 74 = .ok (.iload_n 1, 1) := by decide +kernel
theorem dX10_note_75 : decode cX10_note 75 = .ok (.iaload, 1) := by decide +kernel
theorem dX10_note_76 : decode cX10_note 76 = .ok (.iastore, 1) := by decide +kernel
theorem dX10_note_77 : decode cX10_note 77 = .ok (.iinc 1 1, 3) := by decide +kernel
theorem dX10_note_80 : decode cX10_note 80 = .ok (.goto (-29), 3) := by decide +kernel
theorem dX10_note_83 : decode cX10_note 83 = .ok (.aload_n 0, 1) := by decide +kernel
theorem dX10_note_84 : decode cX10_note 84 = .ok (.dup, 1) := by decide +kernel
theorem dX10_note_85 : decode cX10_note 85 = .ok (.getfield 134, 3) := by decide +kernel
theorem dX10_note_88 : decode cX10_note 88 = .ok (.iconst 1, 1) := by decide +kernel
theorem dX10_note_89 : decode cX10_note 89 = .ok (.iadd, 1) := by decide +kernel
theorem dX10_note_90 : decode cX10_note 90 = .ok (.putfield 134, 3) := by decide +kernel
theorem dX10_note_93 : decode cX10_note 93 = .ok (.return_, 1) := by decide +kernel
theorem dX10_step_0 : decode cX10_step 0 = .ok (.aload_n 0, 1) := by decide +kernel
theorem dX10_step_1 : decode cX10_step 1 = .ok (.iconst 0, 1) := by decide +kernel
theorem dX10_step_2 : decode cX10_step 2 = .ok (.putfield 84, 3) := by decide +kernel
theorem dX10_step_5 : decode cX10_step 5 = .ok (.iload_n 1, 1) := by decide +kernel
theorem dX10_step_6 : decode cX10_step 6 = .ok (.i2l, 1) := by decide +kernel
theorem dX10_step_7 : decode cX10_step 7 = .ok (.lconst 1, 1) := by decide +kernel
theorem dX10_step_8 : decode cX10_step 8 = .ok (.ldc2_w 192, 3) := by decide +kernel
theorem dX10_step_11 : decode cX10_step 11 = .ok (.invokestatic 90, 3) := by decide +kernel
theorem dX10_step_14 : decode cX10_step 14 = .ok (.ifCond .ne 6, 3) := by decide +kernel
theorem dX10_step_17 : decode cX10_step 17 = .ok (.bipush (-2), 2) := by decide +kernel
theorem dX10_step_19 : decode cX10_step 19 = .ok (.ireturn, 1) := by decide +kernel
theorem dX10_step_20 : decode cX10_step 20 = .ok (.aload_n 0, 1) := by decide +kernel
theorem dX10_step_21 : decode cX10_step 21 = .ok (.invokevirtual 194, 3) := by decide +kernel
theorem dX10_step_24 : decode cX10_step 24 = .ok (.iconst 0, 1) := by decide +kernel
theorem dX10_step_25 : decode cX10_step 25 = .ok (.istore_n 2, 1) := by decide +kernel
theorem dX10_step_26 : decode cX10_step 26 = .ok (.iload_n 2, 1) := by decide +kernel
theorem dX10_step_27 : decode cX10_step 27 = .ok (.iload_n 1, 1) := by decide +kernel
theorem dX10_step_28 : decode cX10_step 28 = .ok (.if_icmp .ge 19, 3) := by decide +kernel
theorem dX10_step_31 : decode cX10_step 31 = .ok (.aload_n 0, 1) := by decide +kernel
theorem dX10_step_32 : decode cX10_step 32 = .ok (.aload_n 0, 1) := by decide +kernel
theorem dX10_step_33 : decode cX10_step 33 = .ok (.getfield 44, 3) := by decide +kernel
theorem dX10_step_36 : decode cX10_step 36 = .ok (.bipush (-9), 2) := by decide +kernel
theorem dX10_step_38 : decode cX10_step 38 = .ok (.invokevirtual 197, 3) := by decide +kernel
theorem dX10_step_41 : decode cX10_step 41 = .ok (.iinc 2 1, 3) := by decide +kernel
theorem dX10_step_44 : decode cX10_step 44 = .ok (.goto (-18), 3) := by decide +kernel
theorem dX10_step_47 : decode cX10_step 47 = .ok (.aload_n 0, 1) := by decide +kernel
theorem dX10_step_48 : decode cX10_step 48 = .ok (.getfield 44, 3) := by decide +kernel
theorem dX10_step_51 : decode cX10_step 51 = .ok (.bipush 21, 2) := by decide +kernel
theorem dX10_step_53 : decode cX10_step 53 = .ok (.iaload, 1) := by decide +kernel
theorem dX10_step_54 : decode cX10_step 54 = .ok (.ireturn, 1) := by decide +kernel
theorem dX10_input_0 : decode cX10_input 0 = .ok (.aload_n 0, 1) := by decide +kernel
theorem dX10_input_1 : decode cX10_input 1 = .ok (.iconst 0, 1) := by decide +kernel
theorem dX10_input_2 : decode cX10_input 2 = .ok (.putfield 84, 3) := by decide +kernel
theorem dX10_input_5 : decode cX10_input 5 = .ok (.aload_n 0, 1) := by decide +kernel
theorem dX10_input_6 : decode cX10_input 6 = .ok (.iload_n 1, 1) := by decide +kernel
theorem dX10_input_7 : decode cX10_input 7 = .ok (.invokevirtual 182, 3) := by decide +kernel
theorem dX10_input_10 : decode cX10_input 10 = .ok (.ifCond .eq 5, 3) := by decide +kernel
theorem dX10_input_13 : decode cX10_input 13 = .ok (.iconst (-1), 1) := by decide +kernel
theorem dX10_input_14 : decode cX10_input 14 = .ok (.ireturn, 1) := by decide +kernel
theorem dX10_input_15 : decode cX10_input 15 = .ok (.aload_n 0, 1) := by decide +kernel
theorem dX10_input_16 : decode cX10_input 16 = .ok (.getfield 17, 3) := by decide +kernel
theorem dX10_input_19 : decode cX10_input 19 = .ok (.iload_n 1, 1) := by decide +kernel
theorem dX10_input_20 : decode cX10_input 20 = .ok (.iaload, 1) := by decide +kernel
theorem dX10_input_21 : decode cX10_input 21 = .ok (.ifCond .eq 6, 3) := by decide +kernel
theorem dX10_input_24 : decode cX10_input 24 = .ok (.bipush (-3), 2) := by decide +kernel
theorem dX10_input_26 : decode cX10_input 26 = .ok (.ireturn, 1) := by decide +kernel
theorem dX10_input_27 : decode cX10_input 27 = .ok (.iload_n 2, 1) := by decide +kernel
theorem dX10_input_28 : decode cX10_input 28 = .ok (.i2l, 1) := by decide +kernel
theorem dX10_input_29 : decode cX10_input 29 = .ok (.lconst 0, 1) := by decide +kernel
theorem dX10_input_30 : decode cX10_input 30 = .ok (.ldc2_w 119, 3) := by decide +kernel
theorem dX10_input_33 : decode cX10_input 33 = .ok (.invokestatic 90, 3) := by decide +kernel
theorem dX10_input_36 : decode cX10_input 36 = .ok (.ifCond .ne 6, 3) := by decide +kernel
theorem dX10_input_39 : decode cX10_input 39 = .ok (.bipush (-2), 2) := by decide +kernel
theorem dX10_input_41 : decode cX10_input 41 = .ok (.ireturn, 1) := by decide +kernel
theorem dX10_input_42 : decode cX10_input 42 = .ok (.aload_n 0, 1) := by decide +kernel
theorem dX10_input_43 : decode cX10_input 43 = .ok (.invokevirtual 194, 3) := by decide +kernel
theorem dX10_input_46 : decode cX10_input 46 = .ok (.aload_n 0, 1) := by decide +kernel
theorem dX10_input_47 : decode cX10_input 47 = .ok (.getfield 44, 3) := by decide +kernel
theorem dX10_input_50 : decode cX10_input 50 = .ok (.iload_n 1, 1) := by decide +kernel
theorem dX10_input_51 : decode cX10_input 51 = .ok (.iaload, 1) := by decide +kernel
theorem dX10_input_52 : decode cX10_input 52 = .ok (.istore_n 3, 1) := by decide +kernel
theorem dX10_input_53 : decode cX10_input 53 = .ok (.aload_n 0, 1) := by decide +kernel
theorem dX10_input_54 : decode cX10_input 54 = .ok (.getfield 44, 3) := by decide +kernel
theorem dX10_input_57 : decode cX10_input 57 = .ok (.iload_n 1, 1) := by decide +kernel
theorem dX10_input_58 : decode cX10_input 58 = .ok (.iload_n 2, 1) := by decide +kernel
theorem dX10_input_59 : decode cX10_input 59 = .ok (.iastore, 1) := by decide +kernel
theorem dX10_input_60 : decode cX10_input 60 = .ok (.iload_n 3, 1) := by decide +kernel
theorem dX10_input_61 : decode cX10_input 61 = .ok (.ireturn, 1) := by decide +kernel
theorem dX10_lay_0 : decode cX10_lay 0 = .ok (.aload_n 0, 1) := by decide +kernel
theorem dX10_lay_1 : decode cX10_lay 1 = .ok (.iconst 0, 1) := by decide +kernel
theorem dX10_lay_2 : decode cX10_lay 2 = .ok (.putfield 84, 3) := by decide +kernel
theorem dX10_lay_5 : decode cX10_lay 5 = .ok (.aload_n 0, 1) := by decide +kernel
theorem dX10_lay_6 : decode cX10_lay 6 = .ok (.iload_n 1, 1) := by decide +kernel
theorem dX10_lay_7 : decode cX10_lay 7 = .ok (.invokevirtual 182, 3) := by decide +kernel
theorem dX10_lay_10 : decode cX10_lay 10 = .ok (.ifCond .ne 11, 3) := by decide +kernel
theorem dX10_lay_13 : decode cX10_lay 13 = .ok (.aload_n 0, 1) := by decide +kernel
theorem dX10_lay_14 : decode cX10_lay 14 = .ok (.iload_n 2, 1) := by decide +kernel
theorem dX10_lay_15 : decode cX10_lay 15 = .ok (.invokevirtual 200, 3) := by decide +kernel
theorem dX10_lay_18 : decode cX10_lay 18 = .ok (.ifCond .eq 5, 3) := by decide +kernel
theorem dX10_lay_21 : decode cX10_lay 21 = .ok (.iconst (-1), 1) := by decide +kernel
theorem dX10_lay_22 : decode cX10_lay 22 = .ok (.ireturn, 1) := by decide +kernel
theorem dX10_lay_23 : decode cX10_lay 23 = .ok (.aload_n 0, 1) := by decide +kernel
theorem dX10_lay_24 : decode cX10_lay 24 = .ok (.getfield 44, 3) := by decide +kernel
theorem dX10_lay_27 : decode cX10_lay 27 = .ok (.bipush 10, 2) := by decide +kernel
theorem dX10_lay_29 : decode cX10_lay 29 = .ok (.iload_n 1, 1) := by decide +kernel
theorem dX10_lay_30 : decode cX10_lay 30 = .ok (.iadd, 1) := by decide +kernel
theorem dX10_lay_31 : decode cX10_lay 31 = .ok (.iaload, 1) := by decide +kernel
theorem dX10_lay_32 : decode cX10_lay 32 = .ok (.iload_n 2, 1) := by decide +kernel
theorem dX10_lay_33 : decode cX10_lay 33 = .ok (.if_icmp .ne 6, 3) := by decide +kernel
theorem dX10_lay_36 : decode cX10_lay 36 = .ok (.bipush (-3), 2) := by decide +kernel
theorem dX10_lay_38 : decode cX10_lay 38 = .ok (.ireturn, 1) := by decide +kernel
theorem dX10_lay_39 : decode cX10_lay 39 = .ok (.aload_n 0, 1) := by decide +kernel
theorem dX10_lay_40 : decode cX10_lay 40 = .ok (.invokevirtual 194, 3) := by decide +kernel
theorem dX10_lay_43 : decode cX10_lay 43 = .ok (.aload_n 0, 1) := by decide +kernel
theorem dX10_lay_44 : decode cX10_lay 44 = .ok (.getfield 44, 3) := by decide +kernel
theorem dX10_lay_47 : decode cX10_lay 47 = .ok (.bipush 10, 2) := by decide +kernel
theorem dX10_lay_49 : decode cX10_lay 49 = .ok (.iload_n 1, 1) := by decide +kernel
theorem dX10_lay_50 : decode cX10_lay 50 = .ok (.iadd, 1) := by decide +kernel
theorem dX10_lay_51 : decode cX10_lay 51 = .ok (.iaload, 1) := by decide +kernel
theorem dX10_lay_52 : decode cX10_lay 52 = .ok (.istore_n 3, 1) := by decide +kernel
theorem dX10_lay_53 : decode cX10_lay 53 = .ok (.aload_n 0, 1) := by decide +kernel
theorem dX10_lay_54 : decode cX10_lay 54 = .ok (.getfield 44, 3) := by decide +kernel
theorem dX10_lay_57 : decode cX10_lay 57 = .ok (.bipush 10, 2) := by decide +kernel
theorem dX10_lay_59 : decode cX10_lay 59 = .ok (.iload_n 1, 1) := by decide +kernel
theorem dX10_lay_60 : decode cX10_lay 60 = .ok (.iadd, 1) := by decide +kernel
theorem dX10_lay_61 : decode cX10_lay 61 = .ok (.iload_n 2, 1) := by decide +kernel
theorem dX10_lay_62 : decode cX10_lay 62 = .ok (.iastore, 1) := by decide +kernel
theorem dX10_lay_63 : decode cX10_lay 63 = .ok (.iload_n 3, 1) := by decide +kernel
theorem dX10_lay_64 : decode cX10_lay 64 = .ok (.ireturn, 1) := by decide +kernel
theorem dX10_pins_0 : decode cX10_pins 0 = .ok (.aload_n 0, 1) := by decide +kernel
theorem dX10_pins_1 : decode cX10_pins 1 = .ok (.iconst 0, 1) := by decide +kernel
theorem dX10_pins_2 : decode cX10_pins 2 = .ok (.putfield 84, 3) := by decide +kernel
theorem dX10_pins_5 : decode cX10_pins 5 = .ok (.iload_n 1, 1) := by decide +kernel
theorem dX10_pins_6 : decode cX10_pins 6 = .ok (.i2l, 1) := by decide +kernel
theorem dX10_pins_7 : decode cX10_pins 7 = .ok (.lconst 1, 1) := by decide +kernel
theorem dX10_pins_8 : decode cX10_pins 8 = .ok (.ldc2_w 203, 3) := by decide +kernel
theorem dX10_pins_11 : decode cX10_pins 11 = .ok (.invokestatic 90, 3) := by decide +kernel
theorem dX10_pins_14 : decode cX10_pins 14 = .ok (.ifCond .ne 6, 3) := by decide +kernel
theorem dX10_pins_17 : decode cX10_pins 17 = .ok (.bipush (-2), 2) := by decide +kernel
theorem dX10_pins_19 : decode cX10_pins 19 = .ok (.ireturn, 1) := by decide +kernel
theorem dX10_pins_20 : decode cX10_pins 20 = .ok (.aload_n 0, 1) := by decide +kernel
theorem dX10_pins_21 : decode cX10_pins 21 = .ok (.invokevirtual 194, 3) := by decide +kernel
theorem dX10_pins_24 : decode cX10_pins 24 = .ok (.aload_n 0, 1) := by decide +kernel
theorem dX10_pins_25 : decode cX10_pins 25 = .ok (.getfield 44, 3) := by decide +kernel
theorem dX10_pins_28 : decode cX10_pins 28 = .ok (.bipush 20, 2) := by decide +kernel
theorem dX10_pins_30 : decode cX10_pins 30 = .ok (.iaload, 1) := by decide +kernel
theorem dX10_pins_31 : decode cX10_pins 31 = .ok (.istore_n 2, 1) := by decide +kernel
theorem dX10_pins_32 : decode cX10_pins 32 = .ok (.aload_n 0, 1) := by decide +kernel
theorem dX10_pins_33 : decode cX10_pins 33 = .ok (.getfield 44, 3) := by decide +kernel
theorem dX10_pins_36 : decode cX10_pins 36 = .ok (.bipush 20, 2) := by decide +kernel
theorem dX10_pins_38 : decode cX10_pins 38 = .ok (.iload_n 1, 1) := by decide +kernel
theorem dX10_pins_39 : decode cX10_pins 39 = .ok (.iastore, 1) := by decide +kernel
theorem dX10_pins_40 : decode cX10_pins 40 = .ok (.iload_n 2, 1) := by decide +kernel
theorem dX10_pins_41 : decode cX10_pins 41 = .ok (.ireturn, 1) := by decide +kernel
theorem dX10_undo_0 : decode cX10_undo 0 = .ok (.aload_n 0, 1) := by decide +kernel
theorem dX10_undo_1 : decode cX10_undo 1 = .ok (.iconst 0, 1) := by decide +kernel
theorem dX10_undo_2 : decode cX10_undo 2 = .ok (.putfield 84, 3) := by decide +kernel
theorem dX10_undo_5 : decode cX10_undo 5 = .ok (.aload_n 0, 1) := by decide +kernel
theorem dX10_undo_6 : decode cX10_undo 6 = .ok (.getfield 134, 3) := by decide +kernel
theorem dX10_undo_9 : decode cX10_undo 9 = .ok (.ifCond .ne 6, 3) := by decide +kernel
theorem dX10_undo_12 : decode cX10_undo 12 = .ok (.bipush (-3), 2) := by decide +kernel
theorem dX10_undo_14 : decode cX10_undo 14 = .ok (.ireturn, 1) := by decide +kernel
theorem dX10_undo_15 : decode cX10_undo 15 = .ok (.aload_n 0, 1) := by decide +kernel
theorem dX10_undo_16 : decode cX10_undo 16 = .ok (.dup, 1) := by decide +kernel
theorem dX10_undo_17 : decode cX10_undo 17 = .ok (.getfield 134, 3) := by decide +kernel
theorem dX10_undo_20 : decode cX10_undo 20 = .ok (.iconst 1, 1) := by decide +kernel
theorem dX10_undo_21 : decode cX10_undo 21 = .ok (.isub, 1) := by decide +kernel
theorem dX10_undo_22 : decode cX10_undo 22 = .ok (.putfield 134, 3) := by decide +kernel
theorem dX10_undo_25 : decode cX10_undo 25 = .ok (.iconst 0, 1) := by decide +kernel
theorem dX10_undo_26 : decode cX10_undo 26 = .ok (.istore_n 1, 1) := by decide +kernel
theorem dX10_undo_27 : decode cX10_undo 27 = .ok (.iload_n 1, 1) := by decide +kernel
theorem dX10_undo_28 : decode cX10_undo 28 = .ok (.bipush 22, 2) := by decide +kernel
theorem dX10_undo_30 : decode cX10_undo 30 = .ok (.if_icmp .ge 29, 3) := by decide +kernel
theorem dX10_undo_33 : decode cX10_undo 33 = .ok (.aload_n 0, 1) := by decide +kernel
theorem dX10_undo_34 : decode cX10_undo 34 = .ok (.getfield 44, 3) := by decide +kernel
theorem dX10_undo_37 : decode cX10_undo 37 = .ok (.iload_n 1, 1) := by decide +kernel
theorem dX10_undo_38 : decode cX10_undo 38 = .ok (.aload_n 0, 1) := by decide +kernel
theorem dX10_undo_39 : decode cX10_undo 39 = .ok (.getfield 50, 3) := by decide +kernel
theorem dX10_undo_42 : decode cX10_undo 42 = .ok (.bipush 22, 2) := by decide +kernel
theorem dX10_undo_44 : decode cX10_undo 44 = .ok (.aload_n 0, 1) := by decide +kernel
theorem dX10_undo_45 : decode cX10_undo 45 = .ok (.getfield 134, 3) := by decide +kernel
theorem dX10_undo_48 : decode cX10_undo 48 = .ok (.imul, 1) := by decide +kernel
theorem dX10_undo_49 : decode cX10_undo 49 = .ok (.iload_n 1, 1) := by decide +kernel
theorem dX10_undo_50 : decode cX10_undo 50 = .ok (.iadd, 1) := by decide +kernel
theorem dX10_undo_51 : decode cX10_undo 51 = .ok (.iaload, 1) := by decide +kernel
theorem dX10_undo_52 : decode cX10_undo 52 = .ok (.iastore, 1) := by decide +kernel
theorem dX10_undo_53 : decode cX10_undo 53 = .ok (.iinc 1 1, 3) := by decide +kernel
theorem dX10_undo_56 : decode cX10_undo 56 = .ok (.goto (-29), 3) := by decide +kernel
theorem dX10_undo_59 : decode cX10_undo 59 = .ok (.aload_n 0, 1) := by decide +kernel
theorem dX10_undo_60 : decode cX10_undo 60 = .ok (.getfield 134, 3) := by decide +kernel
theorem dX10_undo_63 : decode cX10_undo 63 = .ok (.ireturn, 1) := by decide +kernel
theorem dX10_ahead_0 : decode cX10_ahead 0 = .ok (.aload_n 0, 1) := by decide +kernel
theorem dX10_ahead_1 : decode cX10_ahead 1 = .ok (.iconst 0, 1) := by decide +kernel
theorem dX10_ahead_2 : decode cX10_ahead 2 = .ok (.putfield 84, 3) := by decide +kernel
theorem dX10_ahead_5 : decode cX10_ahead 5 = .ok (.iload_n 1, 1) := by decide +kernel
theorem dX10_ahead_6 : decode cX10_ahead 6 = .ok (.i2l, 1) := by decide +kernel
theorem dX10_ahead_7 : decode cX10_ahead 7 = .ok (.lconst 0, 1) := by decide +kernel
theorem dX10_ahead_8 : decode cX10_ahead 8 = .ok (.ldc2_w 192, 3) := by decide +kernel
theorem dX10_ahead_11 : decode cX10_ahead 11 = .ok (.invokestatic 90, 3) := by decide +kernel
theorem dX10_ahead_14 : decode cX10_ahead 14 = .ok (.ifCond .ne 6, 3) := by decide +kernel
theorem dX10_ahead_17 : decode cX10_ahead 17 = .ok (.bipush (-2), 2) := by decide +kernel
theorem dX10_ahead_19 : decode cX10_ahead 19 = .ok (.ireturn, 1) := by decide +kernel
theorem dX10_ahead_20 : decode cX10_ahead 20 = .ok (.aload_n 0, 1) := by decide +kernel
theorem dX10_ahead_21 : decode cX10_ahead 21 = .ok (.iload_n 2, 1) := by decide +kernel
theorem dX10_ahead_22 : decode cX10_ahead 22 = .ok (.invokevirtual 182, 3) := by decide +kernel
theorem dX10_ahead_25 : decode cX10_ahead 25 = .ok (.ifCond .eq 5, 3) := by decide +kernel
theorem dX10_ahead_28 : decode cX10_ahead 28 = .ok (.iconst (-1), 1) := by decide +kernel
theorem dX10_ahead_29 : decode cX10_ahead 29 = .ok (.ireturn, 1) := by decide +kernel
theorem dX10_ahead_30 : decode cX10_ahead 30 = .ok (.aload_n 0, 1) := by decide +kernel
theorem dX10_ahead_31 : decode cX10_ahead 31 = .ok (.invokevirtual 205, 3) := by decide +kernel
theorem dX10_ahead_34 : decode cX10_ahead 34 = .ok (.iconst 0, 1) := by decide +kernel
theorem dX10_ahead_35 : decode cX10_ahead 35 = .ok (.istore_n 3, 1) := by decide +kernel
theorem dX10_ahead_36 : decode cX10_ahead 36 = .ok (.iload_n 3, 1) := by decide +kernel
theorem dX10_ahead_37 : decode cX10_ahead 37 = .ok (.iload_n 1, 1) := by decide +kernel
theorem dX10_ahead_38 : decode cX10_ahead 38 = .ok (.if_icmp .ge 19, 3) := by decide +kernel
theorem dX10_ahead_41 : decode cX10_ahead 41 = .ok (.aload_n 0, 1) := by decide +kernel
theorem dX10_ahead_42 : decode cX10_ahead 42 = .ok (.aload_n 0, 1) := by decide +kernel
theorem dX10_ahead_43 : decode cX10_ahead 43 = .ok (.getfield 47, 3) := by decide +kernel
theorem dX10_ahead_46 : decode cX10_ahead 46 = .ok (.bipush (-9), 2) := by decide +kernel
theorem dX10_ahead_48 : decode cX10_ahead 48 = .ok (.invokevirtual 197, 3) := by decide +kernel
theorem dX10_ahead_51 : decode cX10_ahead 51 = .ok (.iinc 3 1, 3) := by decide +kernel
theorem dX10_ahead_54 : decode cX10_ahead 54 = .ok (.goto (-18), 3) := by decide +kernel
theorem dX10_ahead_57 : decode cX10_ahead 57 = .ok (.aload_n 0, 1) := by decide +kernel
theorem dX10_ahead_58 : decode cX10_ahead 58 = .ok (.aload_n 0, 1) := by decide +kernel
theorem dX10_ahead_59 : decode cX10_ahead 59 = .ok (.getfield 47, 3) := by decide +kernel
theorem dX10_ahead_62 : decode cX10_ahead 62 = .ok (.iload_n 2, 1) := by decide +kernel
theorem dX10_ahead_63 : decode cX10_ahead 63 = .ok (.invokevirtual 185, 3) := by decide +kernel
theorem dX10_ahead_66 : decode cX10_ahead 66 = .ok (.ireturn, 1) := by decide +kernel
theorem dX10_stateOf_0 : decode cX10_stateOf 0 = .ok (.aload_n 0, 1) := by decide +kernel
theorem dX10_stateOf_1 : decode cX10_stateOf 1 = .ok (.aload_n 1, 1) := by decide +kernel
theorem dX10_stateOf_2 : decode cX10_stateOf 2 = .ok (.bipush (-9), 2) := by decide +kernel
theorem dX10_stateOf_4 : decode cX10_stateOf 4 = .ok (.invokevirtual 152, 3) := by decide +kernel
theorem dX10_stateOf_7 : decode cX10_stateOf 7 = .ok (.aload_n 1, 1) := by decide +kernel
theorem dX10_stateOf_8 : decode cX10_stateOf 8 = .ok (.bipush 21, 2) := by decide +kernel
theorem dX10_stateOf_10 : decode cX10_stateOf 10 = .ok (.iaload, 1) := by decide +kernel
theorem dX10_stateOf_11 : decode cX10_stateOf 11 = .ok (.iconst 2, 1) := by decide +kernel
theorem dX10_stateOf_12 : decode cX10_stateOf 12 = .ok (.irem, 1) := by decide +kernel
theorem dX10_stateOf_13 : decode cX10_stateOf 13 = .ok (.istore_n 2, 1) := by decide +kernel
theorem dX10_stateOf_14 : decode cX10_stateOf 14 = .ok (.iconst 0, 1) := by decide +kernel
theorem dX10_stateOf_15 : decode cX10_stateOf 15 = .ok (.istore_n 3, 1) := by decide +kernel
theorem dX10_stateOf_16 : decode cX10_stateOf 16 = .ok (.iload_n 3, 1) := by decide +kernel
theorem dX10_stateOf_17 : decode cX10_stateOf 17 = .ok (.aload_n 0, 1) := by decide +kernel
theorem dX10_stateOf_18 : decode cX10_stateOf 18 = .ok (.getfield 87, 3) := by decide +kernel
theorem dX10_stateOf_21 : decode cX10_stateOf 21 = .ok (.if_icmp .ge 20, 3) := by decide +kernel
theorem dX10_stateOf_24 : decode cX10_stateOf 24 = .ok (.iconst 3, 1) := by decide +kernel
theorem dX10_stateOf_25 : decode cX10_stateOf 25 = .ok (.iload_n 2, 1) := by decide +kernel
theorem dX10_stateOf_26 : decode cX10_stateOf 26 = .ok (.imul, 1) := by decide +kernel
theorem dX10_stateOf_27 : decode cX10_stateOf 27 = .ok (.aload_n 0, 1) := by decide +kernel
theorem dX10_stateOf_28 : decode cX10_stateOf 28 = .ok (.getfield 72, 3) := by decide +kernel
theorem dX10_stateOf_31 : decode cX10_stateOf 31 = .ok (.iload_n 3, 1) := by decide +kernel
theorem dX10_stateOf_32 : decode cX10_stateOf 32 = .ok (.iaload, 1) := by decide +kernel
theorem dX10_stateOf_33 : decode cX10_stateOf 33 = .ok (.iadd, 1) := by decide +kernel
theorem dX10_stateOf_34 : decode cX10_stateOf 34 = .ok (.istore_n 2, 1) := by decide +kernel
theorem dX10_stateOf_35 : decode cX10_stateOf 35 = .ok (.iinc 3 1, 3) := by decide +kernel
theorem dX10_stateOf_38 : decode cX10_stateOf 38 = .ok (.goto (-22), 3) := by decide +kernel
theorem dX10_stateOf_41 : decode cX10_stateOf 41 = .ok (.iload_n 2, 1) := by decide +kernel
theorem dX10_stateOf_42 : decode cX10_stateOf 42 = .ok (.ireturn, 1) := by decide +kernel
theorem dX10_round_0 : decode cX10_round 0 = .ok (.aload_n 0, 1) := by decide +kernel
theorem dX10_round_1 : decode cX10_round 1 = .ok (.iconst 0, 1) := by decide +kernel
theorem dX10_round_2 : decode cX10_round 2 = .ok (.putfield 84, 3) := by decide +kernel
theorem dX10_round_5 : decode cX10_round 5 = .ok (.iload_n 1, 1) := by decide +kernel
theorem dX10_round_6 : decode cX10_round 6 = .ok (.i2l, 1) := by decide +kernel
theorem dX10_round_7 : decode cX10_round 7 = .ok (.lconst 0, 1) := by decide +kernel
theorem dX10_round_8 : decode cX10_round 8 = .ok (.lconst 1, 1) := by decide +kernel
theorem dX10_round_9 : decode cX10_round 9 = .ok (.invokestatic 90, 3) := by decide +kernel
theorem dX10_round_12 : decode cX10_round 12 = .ok (.ifCond .ne 6, 3) := by decide +kernel
theorem dX10_round_15 : decode cX10_round 15 = .ok (.bipush (-2), 2) := by decide +kernel
theorem dX10_round_17 : decode cX10_round 17 = .ok (.ireturn, 1) := by decide +kernel
theorem dX10_round_18 : decode cX10_round 18 = .ok (.aload_n 0, 1) := by decide +kernel
theorem dX10_round_19 : decode cX10_round 19 = .ok (.invokevirtual 205, 3) := by decide +kernel
theorem dX10_round_22 : decode cX10_round 22 = .ok (.iconst 0, 1) := by decide +kernel
theorem dX10_round_23 : decode cX10_round 23 = .ok (.istore_n 2, 1) := by decide +kernel
theorem dX10_round_24 : decode cX10_round 24 = .ok (.iload_n 2, 1) := by decide +kernel
theorem dX10_round_25 : decode cX10_round 25 = .ok (.bipush 121, 2) := by decide +kernel
theorem dX10_round_27 : decode cX10_round 27 = .ok (.if_icmp .ge 33, 3) := by decide +kernel
theorem dX10_round_30 : decode cX10_round 30 = .ok (.aload_n 0, 1) := by decide +kernel
theorem dX10_round_31 : decode cX10_round 31 = .ok (.getfield 81, 3) := by decide +kernel
theorem dX10_round_34 : decode cX10_round 34 = .ok (.iload_n 2, 1) := by decide +kernel
theorem dX10_round_35 : decode cX10_round 35 = .ok (.aload_n 0, 1) := by decide +kernel
theorem dX10_round_36 : decode cX10_round 36 = .ok (.aload_n 0, 1) := by decide +kernel
theorem dX10_round_37 : decode cX10_round 37 = .ok (.getfield 47, 3) := by decide +kernel
theorem dX10_round_40 : decode cX10_round 40 = .ok (.invokevirtual 208, 3) := by decide +kernel
theorem dX10_round_43 : decode cX10_round 43 = .ok (.iastore, 1) := by decide +kernel
theorem dX10_round_44 : decode cX10_round 44 = .ok (.aload_n 0, 1) := by decide +kernel
theorem dX10_round_45 : decode cX10_round 45 = .ok (.aload_n 0, 1) := by decide +kernel
theorem dX10_round_46 : decode cX10_round 46 = .ok (.getfield 47, 3) := by decide +kernel
theorem dX10_round_49 : decode cX10_round 49 = .ok (.bipush (-9), 2) := by decide +kernel
theorem dX10_round_51 : decode cX10_round 51 = .ok (.invokevirtual 197, 3) := by decide +kernel
theorem dX10_round_54 : decode cX10_round 54 = .ok (.iinc 2 1, 3) := by decide +kernel
theorem dX10_round_57 : decode cX10_round 57 = .ok (.goto (-33), 3) := by decide +kernel
theorem dX10_round_60 : decode cX10_round 60 = .ok (.iconst 0, 1) := by decide +kernel
theorem dX10_round_61 : decode cX10_round 61 = .ok (.istore_n 2, 1) := by decide +kernel
theorem dX10_round_62 : decode cX10_round 62 = .ok (.iload_n 2, 1) := by decide +kernel
theorem dX10_round_63 : decode cX10_round 63 = .ok (.bipush 60, 2) := by decide +kernel
theorem dX10_round_65 : decode cX10_round 65 = .ok (.if_icmp .gt 50, 3) := by decide +kernel
theorem dX10_round_68 : decode cX10_round 68 = .ok (.iconst 1, 1) := by decide +kernel
theorem dX10_round_69 : decode cX10_round 69 = .ok (.istore_n 3, 1) := by decide +kernel
theorem dX10_round_70 : decode cX10_round 70 = .ok (.iload_n 3, 1) := by decide +kernel
theorem dX10_round_71 : decode cX10_round 71 = .ok (.bipush 60, 2) := by decide +kernel
theorem dX10_round_73 : decode cX10_round 73 = .ok (.if_icmp .gt 36, 3) := by decide +kernel
theorem dX10_round_76 : decode cX10_round 76 = .ok (.aload_n 0, 1) := by decide +kernel
theorem dX10_round_77 : decode cX10_round 77 = .ok (.getfield 81, 3) := by decide +kernel
theorem dX10_round_80 : decode cX10_round 80 = .ok (.iload_n 2, 1) := by decide +kernel
theorem dX10_round_81 : decode cX10_round 81 = .ok (.iaload, 1) := by decide +kernel
theorem dX10_round_82 : decode cX10_round 82 = .ok (.aload_n 0, 1) := by decide +kernel
theorem dX10_round_83 : decode cX10_round 83 = .ok (.getfield 81, 3) := by decide +kernel
theorem dX10_round_86 : decode cX10_round 86 = .ok (.iload_n 2, 1) := by decide +kernel
theorem dX10_round_87 : decode cX10_round 87 = .ok (.iload_n 3, 1) := by decide +kernel
theorem dX10_round_88 : decode cX10_round 88 = .ok (.iadd, 1) := by decide +kernel
theorem dX10_round_89 : decode cX10_round 89 = .ok (.iaload, 1) := by decide +kernel
theorem dX10_round_90 : decode cX10_round 90 = .ok (.if_icmp .ne 13, 3) := by decide +kernel
theorem dX10_round_93 : decode cX10_round 93 = .ok (.iload_n 1, 1) := by decide +kernel
theorem dX10_round_94 : decode cX10_round 94 = .ok (.ifCond .ne 7, 3) := by decide +kernel
theorem dX10_round_97 : decode cX10_round 97 = .ok (.iload_n 2, 1) := by decide +kernel
theorem dX10_round_98 : decode cX10_round 98 = .ok (.goto 4, 3) := by decide +kernel
theorem dX10_round_101 : decode cX10_round 101 = .ok (.iload_n 3, 1) := by decide +kernel
theorem dX10_round_102 : decode cX10_round 102 = .ok (.ireturn, 1) := by decide +kernel
theorem dX10_round_103 : decode cX10_round 103 = .ok (.iinc 3 1, 3) := by decide +kernel
theorem dX10_round_106 : decode cX10_round 106 = .ok (.goto (-36), 3) := by decide +kernel
theorem dX10_round_109 : decode cX10_round 109 = .ok (.iinc 2 1, 3) := by decide +kernel
theorem dX10_round_112 : decode cX10_round 112 = .ok (.goto (-50), 3) := by decide +kernel
theorem dX10_round_115 : decode cX10_round 115 = .ok (.bipush (-9), 2) := by decide +kernel
theorem dX10_round_117 : decode cX10_round 117 = .ok (.ireturn, 1) := by decide +kernel
theorem dX10_when_0 : decode cX10_when 0 = .ok (.aload_n 0, 1) := by decide +kernel
theorem dX10_when_1 : decode cX10_when 1 = .ok (.iconst 0, 1) := by decide +kernel
theorem dX10_when_2 : decode cX10_when 2 = .ok (.putfield 84, 3) := by decide +kernel
theorem dX10_when_5 : decode cX10_when 5 = .ok (.aload_n 0, 1) := by decide +kernel
theorem dX10_when_6 : decode cX10_when 6 = .ok (.iload_n 1, 1) := by decide +kernel
theorem dX10_when_7 : decode cX10_when 7 = .ok (.invokevirtual 182, 3) := by decide +kernel
theorem dX10_when_10 : decode cX10_when 10 = .ok (.ifCond .ne 11, 3) := by decide +kernel
theorem dX10_when_13 : decode cX10_when 13 = .ok (.aload_n 0, 1) := by decide +kernel
theorem dX10_when_14 : decode cX10_when 14 = .ok (.iload_n 2, 1) := by decide +kernel
theorem dX10_when_15 : decode cX10_when 15 = .ok (.invokevirtual 200, 3) := by decide +kernel
theorem dX10_when_18 : decode cX10_when 18 = .ok (.ifCond .eq 5, 3) := by decide +kernel
theorem dX10_when_21 : decode cX10_when 21 = .ok (.iconst (-1), 1) := by decide +kernel
theorem dX10_when_22 : decode cX10_when 22 = .ok (.ireturn, 1) := by decide +kernel
theorem dX10_when_23 : decode cX10_when 23 = .ok (.aload_n 0, 1) := by decide +kernel
theorem dX10_when_24 : decode cX10_when 24 = .ok (.aload_n 0, 1) := by decide +kernel
theorem dX10_when_25 : decode cX10_when 25 = .ok (.getfield 44, 3) := by decide +kernel
theorem dX10_when_28 : decode cX10_when 28 = .ok (.aload_n 0, 1) := by decide +kernel
theorem dX10_when_29 : decode cX10_when 29 = .ok (.getfield 44, 3) := by decide +kernel
theorem dX10_when_32 : decode cX10_when 32 = .ok (.bipush 20, 2) := by decide +kernel
theorem dX10_when_34 : decode cX10_when 34 = .ok (.iaload, 1) := by decide +kernel
theorem dX10_when_35 : decode cX10_when 35 = .ok (.iconst 0, 1) := by decide +kernel
theorem dX10_when_36 : decode cX10_when 36 = .ok (.iconst 0, 1) := by decide +kernel
theorem dX10_when_37 : decode cX10_when 37 = .ok (.invokevirtual 212, 3) := by decide +kernel
theorem dX10_when_40 : decode cX10_when 40 = .ok (.aload_n 0, 1) := by decide +kernel
theorem dX10_when_41 : decode cX10_when 41 = .ok (.getfield 75, 3) := by decide +kernel
theorem dX10_when_44 : decode cX10_when 44 = .ok (.iconst 4, 1) := by decide +kernel
theorem dX10_when_45 : decode cX10_when 45 = .ok (.iload_n 1, 1) := by decide +kernel
theorem dX10_when_46 : decode cX10_when 46 = .ok (.imul, 1) := by decide +kernel
theorem dX10_when_47 : decode cX10_when 47 = .ok (.iload_n 2, 1) := by decide +kernel
theorem dX10_when_48 : decode cX10_when 48 = .ok (.iadd, 1) := by decide +kernel
theorem dX10_when_49 : decode cX10_when 49 = .ok (.iaload, 1) := by decide +kernel
theorem dX10_when_50 : decode cX10_when 50 = .ok (.ireturn, 1) := by decide +kernel
theorem dX10_best_0 : decode cX10_best 0 = .ok (.aload_n 0, 1) := by decide +kernel
theorem dX10_best_1 : decode cX10_best 1 = .ok (.aload_n 0, 1) := by decide +kernel
theorem dX10_best_2 : decode cX10_best 2 = .ok (.getfield 44, 3) := by decide +kernel
theorem dX10_best_5 : decode cX10_best 5 = .ok (.aload_n 0, 1) := by decide +kernel
theorem dX10_best_6 : decode cX10_best 6 = .ok (.getfield 44, 3) := by decide +kernel
theorem dX10_best_9 : decode cX10_best 9 = .ok (.bipush 20, 2) := by decide +kernel
theorem dX10_best_11 : decode cX10_best 11 = .ok (.iaload, 1) := by decide +kernel
theorem dX10_best_12 : decode cX10_best 12 = .ok (.iconst 0, 1) := by decide +kernel
theorem dX10_best_13 : decode cX10_best 13 = .ok (.iconst 0, 1) := by decide +kernel
theorem dX10_best_14 : decode cX10_best 14 = .ok (.invokevirtual 212, 3) := by decide +kernel
theorem dX10_best_17 : decode cX10_best 17 = .ok (.bipush 100, 2) := by decide +kernel
theorem dX10_best_19 : decode cX10_best 19 = .ok (.istore_n 1, 1) := by decide +kernel
theorem dX10_best_20 : decode cX10_best 20 = .ok (.aload_n 0, 1) := by decide +kernel
theorem dX10_best_21 : decode cX10_best 21 = .ok (.getfield 166, 3) := by decide +kernel
theorem dX10_best_24 : decode cX10_best 24 = .ok (.istore_n 2, 1) := by decide +kernel
theorem dX10_best_25 : decode cX10_best 25 = .ok (.aload_n 0, 1) := by decide +kernel
theorem dX10_best_26 : decode cX10_best 26 = .ok (.getfield 169, 3) := by decide +kernel
theorem dX10_best_29 : decode cX10_best 29 = .ok (.istore_n 3, 1) := by decide +kernel
theorem dX10_best_30 : decode cX10_best 30 = .ok (.iconst 0, 1) := by decide +kernel
theorem dX10_best_31 : decode cX10_best 31 = .ok (.istore 4, 2) := by decide +kernel
theorem dX10_best_33 : decode cX10_best 33 = .ok (.iload 4, 2) := by decide +kernel
theorem dX10_best_35 : decode cX10_best 35 = .ok (.aload_n 0, 1) := by decide +kernel
theorem dX10_best_36 : decode cX10_best 36 = .ok (.getfield 87, 3) := by decide +kernel
theorem dX10_best_39 : decode cX10_best 39 = .ok (.if_icmp .ge 118, 3) := by decide +kernel
theorem dX10_best_42 : decode cX10_best 42 = .ok (.iconst 0, 1) := by decide +kernel
theorem dX10_best_43 : decode cX10_best 43 = .ok (.istore 5, 2) := by decide +kernel
theorem dX10_best_45 : decode cX10_best 45 = .ok (.iload 5, 2) := by decide +kernel
theorem dX10_best_47 : decode cX10_best 47 = .ok (.aload_n 0, 1) := by decide +kernel
theorem dX10_best_48 : decode cX10_best 48 = .ok (.getfield 13, 3) := by decide +kernel
theorem dX10_best_51 : decode cX10_best 51 = .ok (.if_icmp .ge 100, 3) := by decide +kernel
theorem dX10_best_54 : decode cX10_best 54 = .ok (.iload 5, 2) := by decide +kernel
theorem dX10_best_56 : decode cX10_best 56 = .ok (.aload_n 0, 1) := by decide +kernel
theorem dX10_best_57 : decode cX10_best 57 = .ok (.getfield 44, 3) := by decide +kernel
theorem dX10_best_60 : decode cX10_best 60 = .ok (.bipush 10, 2) := by decide +kernel
theorem dX10_best_62 : decode cX10_best 62 = .ok (.iload 4, 2) := by decide +kernel
theorem dX10_best_64 : decode cX10_best 64 = .ok (.iadd, 1) := by decide +kernel
theorem dX10_best_65 : decode cX10_best 65 = .ok (.iaload, 1) := by decide +kernel
theorem dX10_best_66 : decode cX10_best 66 = .ok (.if_icmp .eq 79, 3) := by decide +kernel
theorem dX10_best_69 : decode cX10_best 69 = .ok (.aload_n 0, 1) := by decide +kernel
theorem dX10_best_70 : decode cX10_best 70 = .ok (.invokevirtual 205, 3) := by decide +kernel
theorem dX10_best_73 : decode cX10_best 73 = .ok (.aload_n 0, 1) := by decide +kernel
theorem dX10_best_74 : decode cX10_best 74 = .ok (.getfield 47, 3) := by decide +kernel
theorem dX10_best_77 : decode cX10_best 77 = .ok (.bipush 10, 2) := by decide +kernel
theorem dX10_best_79 : decode cX10_best 79 = .ok (.iload 4, 2) := by decide +kernel
theorem dX10_best_81 : decode cX10_best 81 = .ok (.iadd, 1) := by decide +kernel
theorem dX10_best_82 : decode cX10_best 82 = .ok (.iload 5, 2) := by decide +kernel
theorem dX10_best_84 : decode cX10_best 84 = .ok (.iastore, 1) := by decide +kernel
theorem dX10_best_85 : decode cX10_best 85 = .ok (.aload_n 0, 1) := by decide +kernel
theorem dX10_best_86 : decode cX10_best 86 = .ok (.aload_n 0, 1) := by decide +kernel
theorem dX10_best_87 : decode cX10_best 87 = .ok (.getfield 47, 3) := by decide +kernel
theorem dX10_best_90 : decode cX10_best 90 = .ok (.aload_n 0, 1) := by decide +kernel
theorem dX10_best_91 : decode cX10_best 91 = .ok (.getfield 47, 3) := by decide +kernel
theorem dX10_best_94 : decode cX10_best 94 = .ok (.bipush 20, 2) := by decide +kernel
theorem dX10_best_96 : decode cX10_best 96 = .ok (.iaload, 1) := by decide +kernel
theorem dX10_best_97 : decode cX10_best 97 = .ok (.iconst 0, 1) := by decide +kernel
theorem dX10_best_98 : decode cX10_best 98 = .ok (.iconst 0, 1) := by decide +kernel
theorem dX10_best_99 : decode cX10_best 99 = .ok (.invokevirtual 212, 3) := by decide +kernel
theorem dX10_best_102 : decode cX10_best 102 = .ok (.aload_n 0, 1) := by decide +kernel
theorem dX10_best_103 : decode cX10_best 103 = .ok (.getfield 166, 3) := by decide +kernel
theorem dX10_best_106 : decode cX10_best 106 = .ok (.iload_n 2, 1) := by decide +kernel
theorem dX10_best_107 : decode cX10_best 107 = .ok (.if_icmp .lt 19, 3) := by decide +kernel
theorem dX10_best_110 : decode cX10_best 110 = .ok (.aload_n 0, 1) := by decide +kernel
theorem dX10_best_111 : decode cX10_best 111 = .ok (.getfield 166, 3) := by decide +kernel
theorem dX10_best_114 : decode cX10_best 114 = .ok (.iload_n 2, 1) := by decide +kernel
theorem dX10_best_115 : decode cX10_best 115 = .ok (.if_icmp .ne 30, 3) := by decide +kernel
theorem dX10_best_118 : decode cX10_best 118 = .ok (.aload_n 0, 1) := by decide +kernel
theorem dX10_best_119 : decode cX10_best 119 = .ok (.getfield 169, 3) := by decide +kernel
theorem dX10_best_122 : decode cX10_best 122 = .ok (.iload_n 3, 1) := by decide +kernel
theorem dX10_best_123 : decode cX10_best 123 = .ok (.if_icmp .ge 22, 3) := by decide +kernel
theorem dX10_best_126 : decode cX10_best 126 = .ok (.bipush 10, 2) := by decide +kernel
theorem dX10_best_128 : decode cX10_best 128 = .ok (.iload 4, 2) := by decide +kernel
theorem dX10_best_130 : decode cX10_best 130 = .ok (.imul, 1) := by decide +kernel
theorem dX10_best_131 : decode cX10_best 131 = .ok (.iload 5, 2) := by decide +kernel
theorem dX10_best_133 : decode cX10_best 133 = .ok (.iadd, 1) := by decide +kernel
theorem dX10_best_134 : decode cX10_best 134 = .ok (.istore_n 1, 1) := by decide +kernel
theorem dX10_best_135 : decode cX10_best 135 = .ok (.aload_n 0, 1) := by decide +kernel
theorem dX10_best_136 : decode cX10_best 136 = .ok (.getfield 166, 3) := by decide +kernel
theorem dX10_best_139 : decode cX10_best 139 = .ok (.istore_n 2, 1) := by decide +kernel
theorem dX10_best_140 : decode cX10_best 140 = .ok (.aload_n 0, 1) := by decide +kernel
theorem dX10_best_141 : decode cX10_best 141 = .ok (.getfield 169, 3) := by decide +kernel
theorem dX10_best_144 : decode cX10_best 144 = .ok (.istore_n 3, 1) := by decide +kernel
theorem dX10_best_145 : decode cX10_best 145 = .ok (.iinc 5 1, 3) := by decide +kernel
theorem dX10_best_148 : decode cX10_best 148 = .ok (.goto (-103), 3) := by decide +kernel
theorem dX10_best_151 : decode cX10_best 151 = .ok (.iinc 4 1, 3) := by decide +kernel
theorem dX10_best_154 : decode cX10_best 154 = .ok (.goto (-121), 3) := by decide +kernel
theorem dX10_best_157 : decode cX10_best 157 = .ok (.iload_n 1, 1) := by decide +kernel
theorem dX10_best_158 : decode cX10_best 158 = .ok (.ireturn, 1) := by decide +kernel
theorem dX10_slots_0 : decode cX10_slots 0 = .ok (.aload_n 0, 1) := by decide +kernel
theorem dX10_slots_1 : decode cX10_slots 1 = .ok (.iconst 0, 1) := by decide +kernel
theorem dX10_slots_2 : decode cX10_slots 2 = .ok (.putfield 84, 3) := by decide +kernel
theorem dX10_slots_5 : decode cX10_slots 5 = .ok (.iload_n 1, 1) := by decide +kernel
theorem dX10_slots_6 : decode cX10_slots 6 = .ok (.i2l, 1) := by decide +kernel
theorem dX10_slots_7 : decode cX10_slots 7 = .ok (.lconst 0, 1) := by decide +kernel
theorem dX10_slots_8 : decode cX10_slots 8 = .ok (.ldc2_w 216, 3) := by decide +kernel
theorem dX10_slots_11 : decode cX10_slots 11 = .ok (.invokestatic 90, 3) := by decide +kernel
theorem dX10_slots_14 : decode cX10_slots 14 = .ok (.ifCond .ne 6, 3) := by decide +kernel
theorem dX10_slots_17 : decode cX10_slots 17 = .ok (.bipush (-2), 2) := by decide +kernel
theorem dX10_slots_19 : decode cX10_slots 19 = .ok (.ireturn, 1) := by decide +kernel
theorem dX10_slots_20 : decode cX10_slots 20 = .ok (.iload_n 1, 1) := by decide +kernel
theorem dX10_slots_21 : decode cX10_slots 21 = .ok (.iconst 3, 1) := by decide +kernel
theorem dX10_slots_22 : decode cX10_slots 22 = .ok (.if_icmp .ne 8, 3) := by decide +kernel
theorem dX10_slots_25 : decode cX10_slots 25 = .ok (.aload_n 0, 1) := by decide +kernel
theorem dX10_slots_26 : decode cX10_slots 26 = .ok (.invokevirtual 218, 3) := by decide +kernel
theorem dX10_slots_29 : decode cX10_slots 29 = .ok (.ireturn, 1) := by decide +kernel
theorem dX10_slots_30 : decode cX10_slots 30 = .ok (.aload_n 0, 1) := by decide +kernel
theorem dX10_slots_31 : decode cX10_slots 31 = .ok (.aload_n 0, 1) := by decide +kernel
theorem dX10_slots_32 : decode cX10_slots 32 = .ok (.getfield 44, 3) := by decide +kernel
theorem dX10_slots_35 : decode cX10_slots 35 = .ok (.aload_n 0, 1) := by decide +kernel
theorem dX10_slots_36 : decode cX10_slots 36 = .ok (.getfield 44, 3) := by decide +kernel
theorem dX10_slots_39 : decode cX10_slots 39 = .ok (.bipush 20, 2) := by decide +kernel
theorem dX10_slots_41 : decode cX10_slots 41 = .ok (.iaload, 1) := by decide +kernel
theorem dX10_slots_42 : decode cX10_slots 42 = .ok (.iconst 0, 1) := by decide +kernel
theorem dX10_slots_43 : decode cX10_slots 43 = .ok (.iconst 0, 1) := by decide +kernel
theorem dX10_slots_44 : decode cX10_slots 44 = .ok (.invokevirtual 212, 3) := by decide +kernel
theorem dX10_slots_47 : decode cX10_slots 47 = .ok (.iload_n 1, 1) := by decide +kernel
theorem dX10_slots_48 : decode cX10_slots 48 = .ok (.ifCond .ne 10, 3) := by decide +kernel
theorem dX10_slots_51 : decode cX10_slots 51 = .ok (.aload_n 0, 1) := by decide +kernel
theorem dX10_slots_52 : decode cX10_slots 52 = .ok (.getfield 166, 3) := by decide +kernel
theorem dX10_slots_55 : decode cX10_slots 55 = .ok (.goto 19, 3) := by decide +kernel
theorem dX10_slots_58 : decode cX10_slots 58 = .ok (.iload_n 1, 1) := by decide +kernel
theorem dX10_slots_59 : decode cX10_slots 59 = .ok (.iconst 1, 1) := by decide +kernel
theorem dX10_slots_60 : decode cX10_slots 60 = .ok (.if_icmp .ne 10, 3) := by decide +kernel
theorem dX10_slots_63 : decode cX10_slots 63 = .ok (.aload_n 0, 1) := by decide +kernel
theorem dX10_slots_64 : decode cX10_slots 64 = .ok (.getfield 169, 3) := by decide +kernel
theorem dX10_slots_67 : decode cX10_slots 67 = .ok (.goto 7, 3) := by decide +kernel
theorem dX10_slots_70 : decode cX10_slots 70 = .ok (.aload_n 0, 1) := by decide +kernel
theorem dX10_slots_71 : decode cX10_slots 71 = .ok (.getfield 172, 3) := by decide +kernel
theorem dX10_slots_74 : decode cX10_slots 74 = .ok (.ireturn, 1) := by decide +kernel
theorem dX10_fewest_0 : decode cX10_fewest 0 = .ok (.aload_n 0, 1) := by decide +kernel
theorem dX10_fewest_1 : decode cX10_fewest 1 = .ok (.iconst 0, 1) := by decide +kernel
theorem dX10_fewest_2 : decode cX10_fewest 2 = .ok (.putfield 84, 3) := by decide +kernel
theorem dX10_fewest_5 : decode cX10_fewest 5 = .ok (.iload_n 1, 1) := by decide +kernel
theorem dX10_fewest_6 : decode cX10_fewest 6 = .ok (.i2l, 1) := by decide +kernel
theorem dX10_fewest_7 : decode cX10_fewest 7 = .ok (.lconst 1, 1) := by decide +kernel
theorem dX10_fewest_8 : decode cX10_fewest 8 = .ok (.ldc2_w 192, 3) := by decide +kernel
theorem dX10_fewest_11 : decode cX10_fewest 11 = .ok (.invokestatic 90, 3) := by decide +kernel
theorem dX10_fewest_14 : decode cX10_fewest 14 = .ok (.ifCond .ne 6, 3) := by decide +kernel
theorem dX10_fewest_17 : decode cX10_fewest 17 = .ok (.bipush (-2), 2) := by decide +kernel
theorem dX10_fewest_19 : decode cX10_fewest 19 = .ok (.ireturn, 1) := by decide +kernel
theorem dX10_fewest_20 : decode cX10_fewest 20 = .ok (.iconst 1, 1) := by decide +kernel
theorem dX10_fewest_21 : decode cX10_fewest 21 = .ok (.istore_n 2, 1) := by decide +kernel
theorem dX10_fewest_22 : decode cX10_fewest 22 = .ok (.iload_n 2, 1) := by decide +kernel
theorem dX10_fewest_23 : decode cX10_fewest 23 = .ok (.bipush 10, 2) := by decide +kernel
theorem dX10_fewest_25 : decode cX10_fewest 25 = .ok (.if_icmp .ge 30, 3) := by decide +kernel
theorem dX10_fewest_28 : decode cX10_fewest 28 = .ok (.aload_n 0, 1) := by decide +kernel
theorem dX10_fewest_29 : decode cX10_fewest 29 = .ok (.aload_n 0, 1) := by decide +kernel
theorem dX10_fewest_30 : decode cX10_fewest 30 = .ok (.getfield 44, 3) := by decide +kernel
theorem dX10_fewest_33 : decode cX10_fewest 33 = .ok (.iload_n 2, 1) := by decide +kernel
theorem dX10_fewest_34 : decode cX10_fewest 34 = .ok (.iconst 0, 1) := by decide +kernel
theorem dX10_fewest_35 : decode cX10_fewest 35 = .ok (.iconst 0, 1) := by decide +kernel
theorem dX10_fewest_36 : decode cX10_fewest 36 = .ok (.invokevirtual 212, 3) := by decide +kernel
theorem dX10_fewest_39 : decode cX10_fewest 39 = .ok (.aload_n 0, 1) := by decide +kernel
theorem dX10_fewest_40 : decode cX10_fewest 40 = .ok (.getfield 166, 3) := by decide +kernel
theorem dX10_fewest_43 : decode cX10_fewest 43 = .ok (.iload_n 1, 1) := by decide +kernel
theorem dX10_fewest_44 : decode cX10_fewest 44 = .ok (.if_icmp .gt 5, 3) := by decide +kernel
theorem dX10_fewest_47 : decode cX10_fewest 47 = .ok (.iload_n 2, 1) := by decide +kernel
theorem dX10_fewest_48 : decode cX10_fewest 48 = .ok (.ireturn, 1) := by decide +kernel
theorem dX10_fewest_49 : decode cX10_fewest 49 = .ok (.iinc 2 1, 3) := by decide +kernel
theorem dX10_fewest_52 : decode cX10_fewest 52 = .ok (.goto (-30), 3) := by decide +kernel
theorem dX10_fewest_55 : decode cX10_fewest 55 = .ok (.bipush (-9), 2) := by decide +kernel
theorem dX10_fewest_57 : decode cX10_fewest 57 = .ok (.ireturn, 1) := by decide +kernel
theorem dX10_does_0 : decode cX10_does 0 = .ok (.iload_n 1, 1) := by decide +kernel
theorem dX10_does_1 : decode cX10_does 1 = .ok (.tableswitch 241 1 6 #[39, 82, 115, 158, 185, 221], 39) := by decide +kernel
theorem dX10_does_40 : decode cX10_does 40 = .ok (.bipush 10, 2) := by decide +kernel
theorem dX10_does_42 : decode cX10_does 42 = .ok (.iload_n 2, 1) := by decide +kernel
theorem dX10_does_43 : decode cX10_does 43 = .ok (.imul, 1) := by decide +kernel
theorem dX10_does_44 : decode cX10_does 44 = .ok (.iload_n 3, 1) := by decide +kernel
theorem dX10_does_45 : decode cX10_does 45 = .ok (.iadd, 1) := by decide +kernel
theorem dX10_does_46 : decode cX10_does 46 = .ok (.ifCond .ne 5, 3) := by decide +kernel
theorem dX10_does_49 : decode cX10_does 49 = .ok (.iconst 0, 1) := by decide +kernel
theorem dX10_does_50 : decode cX10_does 50 = .ok (.ireturn, 1) := by decide +kernel
theorem dX10_does_51 : decode cX10_does 51 = .ok (.iconst 0, 1) := by decide +kernel
theorem dX10_does_52 : decode cX10_does 52 = .ok (.istore 4, 2) := by decide +kernel
theorem dX10_does_54 : decode cX10_does 54 = .ok (.iload 4, 2) := by decide +kernel
theorem dX10_does_56 : decode cX10_does 56 = .ok (.bipush 10, 2) := by decide +kernel
theorem dX10_does_58 : decode cX10_does 58 = .ok (.iload_n 2, 1) := by decide +kernel
theorem dX10_does_59 : decode cX10_does 59 = .ok (.imul, 1) := by decide +kernel
theorem dX10_does_60 : decode cX10_does 60 = .ok (.iload_n 3, 1) := by decide +kernel
theorem dX10_does_61 : decode cX10_does 61 = .ok (.iadd, 1) := by decide +kernel
theorem dX10_does_62 : decode cX10_does 62 = .ok (.if_icmp .ge 19, 3) := by decide +kernel
theorem dX10_does_65 : decode cX10_does 65 = .ok (.aload_n 0, 1) := by decide +kernel
theorem dX10_does_66 : decode cX10_does 66 = .ok (.aload_n 0, 1) := by decide +kernel
theorem dX10_does_67 : decode cX10_does 67 = .ok (.getfield 47, 3) := by decide +kernel
theorem dX10_does_70 : decode cX10_does 70 = .ok (.bipush (-9), 2) := by decide +kernel
theorem dX10_does_72 : decode cX10_does 72 = .ok (.invokevirtual 197, 3) := by decide +kernel
theorem dX10_does_75 : decode cX10_does 75 = .ok (.iinc 4 1, 3) := by decide +kernel
theorem dX10_does_78 : decode cX10_does 78 = .ok (.goto (-24), 3) := by decide +kernel
theorem dX10_does_81 : decode cX10_does 81 = .ok (.iconst 1, 1) := by decide +kernel
theorem dX10_does_82 : decode cX10_does 82 = .ok (.ireturn, 1) := by decide +kernel
theorem dX10_does_83 : decode cX10_does 83 = .ok (.aload_n 0, 1) := by decide +kernel
theorem dX10_does_84 : decode cX10_does 84 = .ok (.iload_n 2, 1) := by decide +kernel
theorem dX10_does_85 : decode cX10_does 85 = .ok (.invokevirtual 182, 3) := by decide +kernel
theorem dX10_does_88 : decode cX10_does 88 = .ok (.ifCond .ne 17, 3) := by decide +kernel
theorem dX10_does_91 : decode cX10_does 91 = .ok (.aload_n 0, 1) := by decide +kernel
theorem dX10_does_92 : decode cX10_does 92 = .ok (.getfield 17, 3) := by decide +kernel
theorem dX10_does_95 : decode cX10_does 95 = .ok (.iload_n 2, 1) := by decide +kernel
theorem dX10_does_96 : decode cX10_does 96 = .ok (.iaload, 1) := by decide +kernel
theorem dX10_does_97 : decode cX10_does 97 = .ok (.ifCond .ne 8, 3) := by decide +kernel
theorem dX10_does_100 : decode cX10_does 100 = .ok (.iload_n 3, 1) := by decide +kernel
theorem dX10_does_101 : decode cX10_does 101 = .ok (.iconst 2, 1) := by decide +kernel
theorem dX10_does_102 : decode cX10_does 102 = .ok (.if_icmp .le 5, 3) := by decide +kernel
theorem dX10_does_105 : decode cX10_does 105 = .ok (.iconst 0, 1) := by decide +kernel
theorem dX10_does_106 : decode cX10_does 106 = .ok (.ireturn, 1) := by decide +kernel
theorem dX10_does_107 : decode cX10_does 107 = .ok (.aload_n 0, 1) := by decide +kernel
theorem dX10_does_108 : decode cX10_does 108 = .ok (.getfield 47, 3) := by decide +kernel
theorem dX10_does_111 : decode cX10_does 111 = .ok (.iload_n 2, 1) := by decide +kernel
theorem dX10_does_112 : decode cX10_does 112 = .ok (.iload_n 3, 1) := by decide +kernel
theorem dX10_does_113 : decode cX10_does 113 = .ok (.iastore, 1) := by decide +kernel
theorem dX10_does_114 : decode cX10_does 114 = .ok (.iconst 1, 1) := by decide +kernel
theorem dX10_does_115 : decode cX10_does 115 = .ok (.ireturn, 1) := by decide +kernel
theorem dX10_does_116 : decode cX10_does 116 = .ok (.aload_n 0, 1) := by decide +kernel
theorem dX10_does_117 : decode cX10_does 117 = .ok (.iload_n 2, 1) := by decide +kernel
theorem dX10_does_118 : decode cX10_does 118 = .ok (.invokevirtual 182, 3) := by decide +kernel
theorem dX10_does_121 : decode cX10_does 121 = .ok (.ifCond .ne 24, 3) := by decide +kernel
theorem dX10_does_124 : decode cX10_does 124 = .ok (.aload_n 0, 1) := by decide +kernel
theorem dX10_does_125 : decode cX10_does 125 = .ok (.iload_n 3, 1) := by decide +kernel
theorem dX10_does_126 : decode cX10_does 126 = .ok (.invokevirtual 200, 3) := by decide +kernel
theorem dX10_does_129 : decode cX10_does 129 = .ok (.ifCond .ne 16, 3) := by decide +kernel
theorem dX10_does_132 : decode cX10_does 132 = .ok (.aload_n 0, 1) := by decide +kernel
theorem dX10_does_133 : decode cX10_does 133 = .ok (.getfield 47, 3) := by decide +kernel
theorem dX10_does_136 : decode cX10_does 136 = .ok (.bipush 10, 2) := by decide +kernel
theorem dX10_does_138 : decode cX10_does 138 = .ok (.iload_n 2, 1) := by decide +kernel
theorem dX10_does_139 : decode cX10_does 139 = .ok (.iadd, 1) := by decide +kernel
theorem dX10_does_140 : decode cX10_does 140 = .ok (.iaload, 1) := by decide +kernel
theorem dX10_does_141 : decode cX10_does 141 = .ok (.iload_n 3, 1) := by decide +kernel
theorem dX10_does_142 : decode cX10_does 142 = .ok (.if_icmp .ne 5, 3) := by decide +kernel
theorem dX10_does_145 : decode cX10_does 145 = .ok (.iconst 0, 1) := by decide +kernel
theorem dX10_does_146 : decode cX10_does 146 = .ok (.ireturn, 1) := by decide +kernel
theorem dX10_does_147 : decode cX10_does 147 = .ok (.aload_n 0, 1) := by decide +kernel
theorem dX10_does_148 : decode cX10_does 148 = .ok (.getfield 47, 3) := by decide +kernel
theorem dX10_does_151 : decode cX10_does 151 = .ok (.bipush 10, 2) := by decide +kernel
theorem dX10_does_153 : decode cX10_does 153 = .ok (.iload_n 2, 1) := by decide +kernel
theorem dX10_does_154 : decode cX10_does 154 = .ok (.iadd, 1) := by decide +kernel
theorem dX10_does_155 : decode cX10_does 155 = .ok (.iload_n 3, 1) := by decide +kernel
theorem dX10_does_156 : decode cX10_does 156 = .ok (.iastore, 1) := by decide +kernel
theorem dX10_does_157 : decode cX10_does 157 = .ok (.iconst 1, 1) := by decide +kernel
theorem dX10_does_158 : decode cX10_does 158 = .ok (.ireturn, 1) := by decide +kernel
theorem dX10_does_159 : decode cX10_does 159 = .ok (.aload_n 0, 1) := by decide +kernel
theorem dX10_does_160 : decode cX10_does 160 = .ok (.iload_n 2, 1) := by decide +kernel
theorem dX10_does_161 : decode cX10_does 161 = .ok (.invokevirtual 182, 3) := by decide +kernel
theorem dX10_does_164 : decode cX10_does 164 = .ok (.ifCond .ne 20, 3) := by decide +kernel
theorem dX10_does_167 : decode cX10_does 167 = .ok (.aload_n 0, 1) := by decide +kernel
theorem dX10_does_168 : decode cX10_does 168 = .ok (.aload_n 0, 1) := by decide +kernel
theorem dX10_does_169 : decode cX10_does 169 = .ok (.getfield 47, 3) := by decide +kernel
theorem dX10_does_172 : decode cX10_does 172 = .ok (.iload_n 2, 1) := by decide +kernel
theorem dX10_does_173 : decode cX10_does 173 = .ok (.invokevirtual 185, 3) := by decide +kernel
theorem dX10_does_176 : decode cX10_does 176 = .ok (.iload_n 3, 1) := by decide +kernel
theorem dX10_does_177 : decode cX10_does 177 = .ok (.if_icmp .ne 7, 3) := by decide +kernel
theorem dX10_does_180 : decode cX10_does 180 = .ok (.iconst 1, 1) := by decide +kernel
theorem dX10_does_181 : decode cX10_does 181 = .ok (.goto 4, 3) := by decide +kernel
theorem dX10_does_184 : decode cX10_does 184 = .ok (.iconst 0, 1) := by decide +kernel
theorem dX10_does_185 : decode cX10_does 185 = .ok (.ireturn, 1) := by decide +kernel
theorem dX10_does_186 : decode cX10_does 186 = .ok (.aload_n 0, 1) := by decide +kernel
theorem dX10_does_187 : decode cX10_does 187 = .ok (.aload_n 0, 1) := by decide +kernel
theorem dX10_does_188 : decode cX10_does 188 = .ok (.getfield 47, 3) := by decide +kernel
theorem dX10_does_191 : decode cX10_does 191 = .ok (.aload_n 0, 1) := by decide +kernel
theorem dX10_does_192 : decode cX10_does 192 = .ok (.getfield 47, 3) := by decide +kernel
theorem dX10_does_195 : decode cX10_does 195 = .ok (.bipush 20, 2) := by decide +kernel
theorem dX10_does_197 : decode cX10_does 197 = .ok (.iaload, 1) := by decide +kernel
theorem dX10_does_198 : decode cX10_does 198 = .ok (.iconst 0, 1) := by decide +kernel
theorem dX10_does_199 : decode cX10_does 199 = .ok (.iconst 0, 1) := by decide +kernel
theorem dX10_does_200 : decode cX10_does 200 = .ok (.invokevirtual 212, 3) := by decide +kernel
theorem dX10_does_203 : decode cX10_does 203 = .ok (.aload_n 0, 1) := by decide +kernel
theorem dX10_does_204 : decode cX10_does 204 = .ok (.getfield 166, 3) := by decide +kernel
theorem dX10_does_207 : decode cX10_does 207 = .ok (.bipush 10, 2) := by decide +kernel
theorem dX10_does_209 : decode cX10_does 209 = .ok (.iload_n 2, 1) := by decide +kernel
theorem dX10_does_210 : decode cX10_does 210 = .ok (.imul, 1) := by decide +kernel
theorem dX10_does_211 : decode cX10_does 211 = .ok (.iload_n 3, 1) := by decide +kernel
theorem dX10_does_212 : decode cX10_does 212 = .ok (.iadd, 1) := by decide +kernel
theorem dX10_does_213 : decode cX10_does 213 = .ok (.if_icmp .ne 7, 3) := by decide +kernel
theorem dX10_does_216 : decode cX10_does 216 = .ok (.iconst 1, 1) := by decide +kernel
theorem dX10_does_217 : decode cX10_does 217 = .ok (.goto 4, 3) := by decide +kernel
theorem dX10_does_220 : decode cX10_does 220 = .ok (.iconst 0, 1) := by decide +kernel
theorem dX10_does_221 : decode cX10_does 221 = .ok (.ireturn, 1) := by decide +kernel
theorem dX10_does_222 : decode cX10_does 222 = .ok (.iload_n 2, 1) := by decide +kernel
theorem dX10_does_223 : decode cX10_does 223 = .ok (.ifCond .ne 7, 3) := by decide +kernel
theorem dX10_does_226 : decode cX10_does 226 = .ok (.iload_n 3, 1) := by decide +kernel
theorem dX10_does_227 : decode cX10_does 227 = .ok (.ifCond .ne 5, 3) := by decide +kernel
theorem dX10_does_230 : decode cX10_does 230 = .ok (.iconst 0, 1) := by decide +kernel
theorem dX10_does_231 : decode cX10_does 231 = .ok (.ireturn, 1) := by decide +kernel
theorem dX10_does_232 : decode cX10_does 232 = .ok (.aload_n 0, 1) := by decide +kernel
theorem dX10_does_233 : decode cX10_does 233 = .ok (.getfield 47, 3) := by decide +kernel
theorem dX10_does_236 : decode cX10_does 236 = .ok (.bipush 20, 2) := by decide +kernel
theorem dX10_does_238 : decode cX10_does 238 = .ok (.iload_n 3, 1) := by decide +kernel
theorem dX10_does_239 : decode cX10_does 239 = .ok (.iastore, 1) := by decide +kernel
theorem dX10_does_240 : decode cX10_does 240 = .ok (.iconst 1, 1) := by decide +kernel
theorem dX10_does_241 : decode cX10_does 241 = .ok (.ireturn, 1) := by decide +kernel
theorem dX10_does_242 : decode cX10_does 242 = .ok (.iconst 0, 1) := by decide +kernel
theorem dX10_does_243 : decode cX10_does 243 = .ok (.ireturn, 1) := by decide +kernel
theorem dX10_longPower_0 : decode cX10_longPower 0 = .ok (.lconst 1, 1) := by decide +kernel
theorem dX10_longPower_1 : decode cX10_longPower 1 = .ok (.lstore_n 3, 1) := by decide +kernel
theorem dX10_longPower_2 : decode cX10_longPower 2 = .ok (.iconst 0, 1) := by decide +kernel
theorem dX10_longPower_3 : decode cX10_longPower 3 = .ok (.istore 5, 2) := by decide +kernel
theorem dX10_longPower_5 : decode cX10_longPower 5 = .ok (.iload 5, 2) := by decide +kernel
theorem dX10_longPower_7 : decode cX10_longPower 7 = .ok (.iload_n 2, 1) := by decide +kernel
theorem dX10_longPower_8 : decode cX10_longPower 8 = .ok (.if_icmp .ge 13, 3) := by decide +kernel
theorem dX10_longPower_11 : decode cX10_longPower 11 = .ok (.lload_n 3, 1) := by decide +kernel
theorem dX10_longPower_12 : decode cX10_longPower 12 = .ok (.lload_n 0, 1) := by decide +kernel
theorem dX10_longPower_13 : decode cX10_longPower 13 = .ok (.lmul, 1) := by decide +kernel
theorem dX10_longPower_14 : decode cX10_longPower 14 = .ok (.lstore_n 3, 1) := by decide +kernel
theorem dX10_longPower_15 : decode cX10_longPower 15 = .ok (.iinc 5 1, 3) := by decide +kernel
theorem dX10_longPower_18 : decode cX10_longPower 18 = .ok (.goto (-13), 3) := by decide +kernel
theorem dX10_longPower_21 : decode cX10_longPower 21 = .ok (.lload_n 3, 1) := by decide +kernel
theorem dX10_longPower_22 : decode cX10_longPower 22 = .ok (.lreturn, 1) := by decide +kernel
theorem dX10_judge_0 : decode cX10_judge 0 = .ok (.aload_n 0, 1) := by decide +kernel
theorem dX10_judge_1 : decode cX10_judge 1 = .ok (.iconst 0, 1) := by decide +kernel
theorem dX10_judge_2 : decode cX10_judge 2 = .ok (.putfield 84, 3) := by decide +kernel
theorem dX10_judge_5 : decode cX10_judge 5 = .ok (.iload_n 1, 1) := by decide +kernel
theorem dX10_judge_6 : decode cX10_judge 6 = .ok (.i2l, 1) := by decide +kernel
theorem dX10_judge_7 : decode cX10_judge 7 = .ok (.lconst 1, 1) := by decide +kernel
theorem dX10_judge_8 : decode cX10_judge 8 = .ok (.ldc2_w 121, 3) := by decide +kernel
theorem dX10_judge_11 : decode cX10_judge 11 = .ok (.invokestatic 90, 3) := by decide +kernel
theorem dX10_judge_14 : decode cX10_judge 14 = .ok (.ifCond .eq 20, 3) := by decide +kernel
theorem dX10_judge_17 : decode cX10_judge 17 = .ok (.lload_n 2, 1) := by decide +kernel
theorem dX10_judge_18 : decode cX10_judge 18 = .ok (.lconst 0, 1) := by decide +kernel
theorem dX10_judge_19 : decode cX10_judge 19 = .ok (.ldc2_w 221, 3) := by decide +kernel
theorem dX10_judge_22 : decode cX10_judge 22 = .ok (.iload_n 1, 1) := by decide +kernel
theorem dX10_judge_23 : decode cX10_judge 23 = .ok (.invokestatic 223, 3) := by decide +kernel
theorem dX10_judge_26 : decode cX10_judge 26 = .ok (.lconst 1, 1) := by decide +kernel
theorem dX10_judge_27 : decode cX10_judge 27 = .ok (.lsub, 1) := by decide +kernel
theorem dX10_judge_28 : decode cX10_judge 28 = .ok (.invokestatic 90, 3) := by decide +kernel
theorem dX10_judge_31 : decode cX10_judge 31 = .ok (.ifCond .ne 6, 3) := by decide +kernel
theorem dX10_judge_34 : decode cX10_judge 34 = .ok (.bipush (-2), 2) := by decide +kernel
theorem dX10_judge_36 : decode cX10_judge 36 = .ok (.ireturn, 1) := by decide +kernel
theorem dX10_judge_37 : decode cX10_judge 37 = .ok (.aload_n 0, 1) := by decide +kernel
theorem dX10_judge_38 : decode cX10_judge 38 = .ok (.invokevirtual 205, 3) := by decide +kernel
theorem dX10_judge_41 : decode cX10_judge 41 = .ok (.iconst 0, 1) := by decide +kernel
theorem dX10_judge_42 : decode cX10_judge 42 = .ok (.istore 4, 2) := by decide +kernel
theorem dX10_judge_44 : decode cX10_judge 44 = .ok (.iload 4, 2) := by decide +kernel
theorem dX10_judge_46 : decode cX10_judge 46 = .ok (.iload_n 1, 1) := by decide +kernel
theorem dX10_judge_47 : decode cX10_judge 47 = .ok (.if_icmp .ge 58, 3) := by decide +kernel
theorem dX10_judge_50 : decode cX10_judge 50 = .ok (.lload_n 2, 1) := by decide +kernel
theorem dX10_judge_51 : decode cX10_judge 51 = .ok (.ldc2_w 221, 3) := by decide +kernel
theorem dX10_judge_54 : decode cX10_judge 54 = .ok (.iload_n 1, 1) := by decide +kernel
theorem dX10_judge_55 : decode cX10_judge 55 = .ok (.iconst 1, 1) := by decide +kernel
theorem dX10_judge_56 : decode cX10_judge 56 = .ok (.isub, 1) := by decide +kernel
theorem dX10_judge_57 : decode cX10_judge 57 = .ok (.iload 4, 2) := by decide +kernel
theorem dX10_judge_59 : decode cX10_judge 59 = .ok (.isub, 1) := by decide +kernel
theorem dX10_judge_60 : decode cX10_judge 60 = .ok (.invokestatic 223, 3) := by decide +kernel
theorem dX10_judge_63 : decode cX10_judge 63 = .ok (.ldiv, 1) := by decide +kernel
theorem dX10_judge_64 : decode cX10_judge 64 = .ok (.ldc2_w 221, 3) := by decide +kernel
theorem dX10_judge_67 : decode cX10_judge 67 = .ok (.lrem, 1) := by decide +kernel
theorem dX10_judge_68 : decode cX10_judge 68 = .ok (.l2i, 1) := by decide +kernel
theorem dX10_judge_69 : decode cX10_judge 69 = .ok (.istore 5, 2) := by decide +kernel
theorem dX10_judge_71 : decode cX10_judge 71 = .ok (.aload_n 0, 1) := by decide +kernel
theorem dX10_judge_72 : decode cX10_judge 72 = .ok (.iload 5, 2) := by decide +kernel
theorem dX10_judge_74 : decode cX10_judge 74 = .ok (.bipush 100, 2) := by decide +kernel
theorem dX10_judge_76 : decode cX10_judge 76 = .ok (.idiv, 1) := by decide +kernel
theorem dX10_judge_77 : decode cX10_judge 77 = .ok (.iload 5, 2) := by decide +kernel
theorem dX10_judge_79 : decode cX10_judge 79 = .ok (.bipush 10, 2) := by decide +kernel
theorem dX10_judge_81 : decode cX10_judge 81 = .ok (.idiv, 1) := by decide +kernel
theorem dX10_judge_82 : decode cX10_judge 82 = .ok (.bipush 10, 2) := by decide +kernel
theorem dX10_judge_84 : decode cX10_judge 84 = .ok (.irem, 1) := by decide +kernel
theorem dX10_judge_85 : decode cX10_judge 85 = .ok (.iload 5, 2) := by decide +kernel
theorem dX10_judge_87 : decode cX10_judge 87 = .ok (.bipush 10, 2) := by decide +kernel
theorem dX10_judge_89 : decode cX10_judge 89 = .ok (.irem, 1) := by decide +kernel
theorem dX10_judge_90 : decode cX10_judge 90 = .ok (.invokevirtual 227, 3) := by decide +kernel
theorem dX10_judge_93 : decode cX10_judge 93 = .ok (.ifCond .ne 6, 3) := by decide +kernel
theorem dX10_judge_96 : decode cX10_judge 96 = .ok (.iload 4, 2) := by decide +kernel
theorem dX10_judge_98 : decode cX10_judge 98 = .ok (.ireturn, 1) := by decide +kernel
theorem dX10_judge_99 : decode cX10_judge 99 = .ok (.iinc 4 1, 3) := by decide +kernel
theorem dX10_judge_102 : decode cX10_judge 102 = .ok (.goto (-58), 3) := by decide +kernel
theorem dX10_judge_105 : decode cX10_judge 105 = .ok (.bipush (-9), 2) := by decide +kernel
theorem dX10_judge_107 : decode cX10_judge 107 = .ok (.ireturn, 1) := by decide +kernel
theorem dX10_see_0 : decode cX10_see 0 = .ok (.aload_n 0, 1) := by decide +kernel
theorem dX10_see_1 : decode cX10_see 1 = .ok (.iconst 0, 1) := by decide +kernel
theorem dX10_see_2 : decode cX10_see 2 = .ok (.putfield 84, 3) := by decide +kernel
theorem dX10_see_5 : decode cX10_see 5 = .ok (.aload_n 0, 1) := by decide +kernel
theorem dX10_see_6 : decode cX10_see 6 = .ok (.iload_n 2, 1) := by decide +kernel
theorem dX10_see_7 : decode cX10_see 7 = .ok (.invokevirtual 182, 3) := by decide +kernel
theorem dX10_see_10 : decode cX10_see 10 = .ok (.ifCond .eq 5, 3) := by decide +kernel
theorem dX10_see_13 : decode cX10_see 13 = .ok (.iconst (-1), 1) := by decide +kernel
theorem dX10_see_14 : decode cX10_see 14 = .ok (.ireturn, 1) := by decide +kernel
theorem dX10_see_15 : decode cX10_see 15 = .ok (.iload_n 1, 1) := by decide +kernel
theorem dX10_see_16 : decode cX10_see 16 = .ok (.i2l, 1) := by decide +kernel
theorem dX10_see_17 : decode cX10_see 17 = .ok (.lconst 0, 1) := by decide +kernel
theorem dX10_see_18 : decode cX10_see 18 = .ok (.ldc2_w 203, 3) := by decide +kernel
theorem dX10_see_21 : decode cX10_see 21 = .ok (.invokestatic 90, 3) := by decide +kernel
theorem dX10_see_24 : decode cX10_see 24 = .ok (.ifCond .eq 26, 3) := by decide +kernel
theorem dX10_see_27 : decode cX10_see 27 = .ok (.iload_n 3, 1) := by decide +kernel
theorem dX10_see_28 : decode cX10_see 28 = .ok (.i2l, 1) := by decide +kernel
theorem dX10_see_29 : decode cX10_see 29 = .ok (.lconst 0, 1) := by decide +kernel
theorem dX10_see_30 : decode cX10_see 30 = .ok (.ldc2_w 119, 3) := by decide +kernel
theorem dX10_see_33 : decode cX10_see 33 = .ok (.invokestatic 90, 3) := by decide +kernel
theorem dX10_see_36 : decode cX10_see 36 = .ok (.ifCond .eq 14, 3) := by decide +kernel
theorem dX10_see_39 : decode cX10_see 39 = .ok (.iload 4, 2) := by decide +kernel
theorem dX10_see_41 : decode cX10_see 41 = .ok (.i2l, 1) := by decide +kernel
theorem dX10_see_42 : decode cX10_see 42 = .ok (.lconst 0, 1) := by decide +kernel
theorem dX10_see_43 : decode cX10_see 43 = .ok (.lconst 1, 1) := by decide +kernel
theorem dX10_see_44 : decode cX10_see 44 = .ok (.invokestatic 90, 3) := by decide +kernel
theorem dX10_see_47 : decode cX10_see 47 = .ok (.ifCond .ne 6, 3) := by decide +kernel
theorem dX10_see_50 : decode cX10_see 50 = .ok (.bipush (-2), 2) := by decide +kernel
theorem dX10_see_52 : decode cX10_see 52 = .ok (.ireturn, 1) := by decide +kernel
theorem dX10_see_53 : decode cX10_see 53 = .ok (.aload_n 0, 1) := by decide +kernel
theorem dX10_see_54 : decode cX10_see 54 = .ok (.getfield 231, 3) := by decide +kernel
theorem dX10_see_57 : decode cX10_see 57 = .ok (.bipush 6, 2) := by decide +kernel
theorem dX10_see_59 : decode cX10_see 59 = .ok (.if_icmp .ne 6, 3) := by decide +kernel
theorem dX10_see_62 : decode cX10_see 62 = .ok (.bipush (-4), 2) := by decide +kernel
theorem dX10_see_64 : decode cX10_see 64 = .ok (.ireturn, 1) := by decide +kernel
theorem dX10_see_65 : decode cX10_see 65 = .ok (.aload_n 0, 1) := by decide +kernel
theorem dX10_see_66 : decode cX10_see 66 = .ok (.getfield 60, 3) := by decide +kernel
theorem dX10_see_69 : decode cX10_see 69 = .ok (.aload_n 0, 1) := by decide +kernel
theorem dX10_see_70 : decode cX10_see 70 = .ok (.getfield 231, 3) := by decide +kernel
theorem dX10_see_73 : decode cX10_see 73 = .ok (.iload_n 1, 1) := by decide +kernel
theorem dX10_see_74 : decode cX10_see 74 = .ok (.iastore, 1) := by decide +kernel
theorem dX10_see_75 : decode cX10_see 75 = .ok (.aload_n 0, 1) := by decide +kernel
theorem dX10_see_76 : decode cX10_see 76 = .ok (.getfield 63, 3) := by decide +kernel
theorem dX10_see_79 : decode cX10_see 79 = .ok (.aload_n 0, 1) := by decide +kernel
theorem dX10_see_80 : decode cX10_see 80 = .ok (.getfield 231, 3) := by decide +kernel
theorem dX10_see_83 : decode cX10_see 83 = .ok (.iload_n 2, 1) := by decide +kernel
theorem dX10_see_84 : decode cX10_see 84 = .ok (.iastore, 1) := by decide +kernel
theorem dX10_see_85 : decode cX10_see 85 = .ok (.aload_n 0, 1) := by decide +kernel
theorem dX10_see_86 : decode cX10_see 86 = .ok (.getfield 66, 3) := by decide +kernel
theorem dX10_see_89 : decode cX10_see 89 = .ok (.aload_n 0, 1) := by decide +kernel
theorem dX10_see_90 : decode cX10_see 90 = .ok (.getfield 231, 3) := by decide +kernel
theorem dX10_see_93 : decode cX10_see 93 = .ok (.iload_n 3, 1) := by decide +kernel
theorem dX10_see_94 : decode cX10_see 94 = .ok (.iastore, 1) := by decide +kernel
theorem dX10_see_95 : decode cX10_see 95 = .ok (.aload_n 0, 1) := by decide +kernel
theorem dX10_see_96 : decode cX10_see 96 = .ok (.getfield 69, 3) := by decide +kernel
theorem dX10_see_99 : decode cX10_see 99 = .ok (.aload_n 0, 1) := by decide +kernel
theorem dX10_see_100 : decode cX10_see 100 = .ok (.getfield 231, 3) := by decide +kernel
theorem dX10_see_103 : decode cX10_see 103 = .ok (.iload 4, 2) := by decide +kernel
theorem dX10_see_105 : decode cX10_see 105 = .ok (.iastore, 1) := by decide +kernel
theorem dX10_see_106 : decode cX10_see 106 = .ok (.aload_n 0, 1) := by decide +kernel
theorem dX10_see_107 : decode cX10_see 107 = .ok (.dup, 1) := by decide +kernel
theorem dX10_see_108 : decode cX10_see 108 = .ok (.getfield 231, 3) := by decide +kernel
theorem dX10_see_111 : decode cX10_see 111 = .ok (.iconst 1, 1) := by decide +kernel
theorem dX10_see_112 : decode cX10_see 112 = .ok (.iadd, 1) := by decide +kernel
theorem dX10_see_113 : decode cX10_see 113 = .ok (.putfield 231, 3) := by decide +kernel
theorem dX10_see_116 : decode cX10_see 116 = .ok (.aload_n 0, 1) := by decide +kernel
theorem dX10_see_117 : decode cX10_see 117 = .ok (.getfield 231, 3) := by decide +kernel
theorem dX10_see_120 : decode cX10_see 120 = .ok (.ireturn, 1) := by decide +kernel
theorem dX10_unsee_0 : decode cX10_unsee 0 = .ok (.aload_n 0, 1) := by decide +kernel
theorem dX10_unsee_1 : decode cX10_unsee 1 = .ok (.iconst 0, 1) := by decide +kernel
theorem dX10_unsee_2 : decode cX10_unsee 2 = .ok (.putfield 84, 3) := by decide +kernel
theorem dX10_unsee_5 : decode cX10_unsee 5 = .ok (.aload_n 0, 1) := by decide +kernel
theorem dX10_unsee_6 : decode cX10_unsee 6 = .ok (.getfield 231, 3) := by decide +kernel
theorem dX10_unsee_9 : decode cX10_unsee 9 = .ok (.istore_n 1, 1) := by decide +kernel
theorem dX10_unsee_10 : decode cX10_unsee 10 = .ok (.aload_n 0, 1) := by decide +kernel
theorem dX10_unsee_11 : decode cX10_unsee 11 = .ok (.iconst 0, 1) := by decide +kernel
theorem dX10_unsee_12 : decode cX10_unsee 12 = .ok (.putfield 231, 3) := by decide +kernel
theorem dX10_unsee_15 : decode cX10_unsee 15 = .ok (.iload_n 1, 1) := by decide +kernel
theorem dX10_unsee_16 : decode cX10_unsee 16 = .ok (.ireturn, 1) := by decide +kernel
theorem dX10_isSo_0 : decode cX10_isSo 0 = .ok (.aload_n 0, 1) := by decide +kernel
theorem dX10_isSo_1 : decode cX10_isSo 1 = .ok (.aload_n 0, 1) := by decide +kernel
theorem dX10_isSo_2 : decode cX10_isSo 2 = .ok (.getfield 63, 3) := by decide +kernel
theorem dX10_isSo_5 : decode cX10_isSo 5 = .ok (.iload_n 2, 1) := by decide +kernel
theorem dX10_isSo_6 : decode cX10_isSo 6 = .ok (.iaload, 1) := by decide +kernel
theorem dX10_isSo_7 : decode cX10_isSo 7 = .ok (.invokevirtual 182, 3) := by decide +kernel
theorem dX10_isSo_10 : decode cX10_isSo 10 = .ok (.ifCond .eq 5, 3) := by decide +kernel
theorem dX10_isSo_13 : decode cX10_isSo 13 = .ok (.iconst 1, 1) := by decide +kernel
theorem dX10_isSo_14 : decode cX10_isSo 14 = .ok (.ireturn, 1) := by decide +kernel
theorem dX10_isSo_15 : decode cX10_isSo 15 = .ok (.aload_n 0, 1) := by decide +kernel
theorem dX10_isSo_16 : decode cX10_isSo 16 = .ok (.invokevirtual 205, 3) := by decide +kernel
theorem dX10_isSo_19 : decode cX10_isSo 19 = .ok (.iconst 0, 1) := by decide +kernel
theorem dX10_isSo_20 : decode cX10_isSo 20 = .ok (.istore_n 3, 1) := by decide +kernel
theorem dX10_isSo_21 : decode cX10_isSo 21 = .ok (.iload_n 3, 1) := by decide +kernel
theorem dX10_isSo_22 : decode cX10_isSo 22 = .ok (.aload_n 0, 1) := by decide +kernel
theorem dX10_isSo_23 : decode cX10_isSo 23 = .ok (.getfield 60, 3) := by decide +kernel
theorem dX10_isSo_26 : decode cX10_isSo 26 = .ok (.iload_n 2, 1) := by decide +kernel
theorem dX10_isSo_27 : decode cX10_isSo 27 = .ok (.iaload, 1) := by decide +kernel
theorem dX10_isSo_28 : decode cX10_isSo 28 = .ok (.if_icmp .ge 18, 3) := by decide +kernel
theorem dX10_isSo_31 : decode cX10_isSo 31 = .ok (.aload_n 0, 1) := by decide +kernel
theorem dX10_isSo_32 : decode cX10_isSo 32 = .ok (.aload_n 0, 1) := by decide +kernel
theorem dX10_isSo_33 : decode cX10_isSo 33 = .ok (.getfield 47, 3) := by decide +kernel
theorem dX10_isSo_36 : decode cX10_isSo 36 = .ok (.iload_n 1, 1) := by decide +kernel
theorem dX10_isSo_37 : decode cX10_isSo 37 = .ok (.invokevirtual 197, 3) := by decide +kernel
theorem dX10_isSo_40 : decode cX10_isSo 40 = .ok (.iinc 3 1, 3) := by decide +kernel
theorem dX10_isSo_43 : decode cX10_isSo 43 = .ok (.goto (-22), 3) := by decide +kernel
theorem dX10_isSo_46 : decode cX10_isSo 46 = .ok (.aload_n 0, 1) := by decide +kernel
theorem dX10_isSo_47 : decode cX10_isSo 47 = .ok (.aload_n 0, 1) := by decide +kernel
theorem dX10_isSo_48 : decode cX10_isSo 48 = .ok (.getfield 47, 3) := by decide +kernel
theorem dX10_isSo_51 : decode cX10_isSo 51 = .ok (.iload_n 1, 1) := by decide +kernel
theorem dX10_isSo_52 : decode cX10_isSo 52 = .ok (.invokevirtual 152, 3) := by decide +kernel
theorem dX10_isSo_55 : decode cX10_isSo 55 = .ok (.aload_n 0, 1) := by decide +kernel
theorem dX10_isSo_56 : decode cX10_isSo 56 = .ok (.getfield 72, 3) := by decide +kernel
theorem dX10_isSo_59 : decode cX10_isSo 59 = .ok (.aload_n 0, 1) := by decide +kernel
theorem dX10_isSo_60 : decode cX10_isSo 60 = .ok (.getfield 63, 3) := by decide +kernel
theorem dX10_isSo_63 : decode cX10_isSo 63 = .ok (.iload_n 2, 1) := by decide +kernel
theorem dX10_isSo_64 : decode cX10_isSo 64 = .ok (.iaload, 1) := by decide +kernel
theorem dX10_isSo_65 : decode cX10_isSo 65 = .ok (.iaload, 1) := by decide +kernel
theorem dX10_isSo_66 : decode cX10_isSo 66 = .ok (.aload_n 0, 1) := by decide +kernel
theorem dX10_isSo_67 : decode cX10_isSo 67 = .ok (.getfield 66, 3) := by decide +kernel
theorem dX10_isSo_70 : decode cX10_isSo 70 = .ok (.iload_n 2, 1) := by decide +kernel
theorem dX10_isSo_71 : decode cX10_isSo 71 = .ok (.iaload, 1) := by decide +kernel
theorem dX10_isSo_72 : decode cX10_isSo 72 = .ok (.if_icmp .ne 7, 3) := by decide +kernel
theorem dX10_isSo_75 : decode cX10_isSo 75 = .ok (.iconst 1, 1) := by decide +kernel
theorem dX10_isSo_76 : decode cX10_isSo 76 = .ok (.goto 4, 3) := by decide +kernel
theorem dX10_isSo_79 : decode cX10_isSo 79 = .ok (.iconst 0, 1) := by decide +kernel
theorem dX10_isSo_80 : decode cX10_isSo 80 = .ok (.aload_n 0, 1) := by decide +kernel
theorem dX10_isSo_81 : decode cX10_isSo 81 = .ok (.getfield 69, 3) := by decide +kernel
theorem dX10_isSo_84 : decode cX10_isSo 84 = .ok (.iload_n 2, 1) := by decide +kernel
theorem dX10_isSo_85 : decode cX10_isSo 85 = .ok (.iaload, 1) := by decide +kernel
theorem dX10_isSo_86 : decode cX10_isSo 86 = .ok (.iconst 1, 1) := by decide +kernel
theorem dX10_isSo_87 : decode cX10_isSo 87 = .ok (.if_icmp .ne 7, 3) := by decide +kernel
theorem dX10_isSo_90 : decode cX10_isSo 90 = .ok (.iconst 1, 1) := by decide +kernel
theorem dX10_isSo_91 : decode cX10_isSo 91 = .ok (.goto 4, 3) := by decide +kernel
theorem dX10_isSo_94 : decode cX10_isSo 94 = .ok (.iconst 0, 1) := by decide +kernel
theorem dX10_isSo_95 : decode cX10_isSo 95 = .ok (.if_icmp .ne 7, 3) := by decide +kernel
theorem dX10_isSo_98 : decode cX10_isSo 98 = .ok (.iconst 1, 1) := by decide +kernel
theorem dX10_isSo_99 : decode cX10_isSo 99 = .ok (.goto 4, 3) := by decide +kernel
theorem dX10_isSo_102 : decode cX10_isSo 102 = .ok (.iconst 0, 1) := by decide +kernel
theorem dX10_isSo_103 : decode cX10_isSo 103 = .ok (.ireturn, 1) := by decide +kernel
theorem dX10_which_0 : decode cX10_which 0 = .ok (.aload_n 0, 1) := by decide +kernel
theorem dX10_which_1 : decode cX10_which 1 = .ok (.iconst 0, 1) := by decide +kernel
theorem dX10_which_2 : decode cX10_which 2 = .ok (.putfield 84, 3) := by decide +kernel
theorem dX10_which_5 : decode cX10_which 5 = .ok (.iconst 0, 1) := by decide +kernel
theorem dX10_which_6 : decode cX10_which 6 = .ok (.istore_n 1, 1) := by decide +kernel
theorem dX10_which_7 : decode cX10_which 7 = .ok (.iconst 0, 1) := by decide +kernel
theorem dX10_which_8 : decode cX10_which 8 = .ok (.istore_n 2, 1) := by decide +kernel
theorem dX10_which_9 : decode cX10_which 9 = .ok (.iload_n 2, 1) := by decide +kernel
theorem dX10_which_10 : decode cX10_which 10 = .ok (.aload_n 0, 1) := by decide +kernel
theorem dX10_which_11 : decode cX10_which 11 = .ok (.getfield 87, 3) := by decide +kernel
theorem dX10_which_14 : decode cX10_which 14 = .ok (.if_icmp .ge 63, 3) := by decide +kernel
theorem dX10_which_17 : decode cX10_which 17 = .ok (.iconst 1, 1) := by decide +kernel
theorem dX10_which_18 : decode cX10_which 18 = .ok (.istore_n 3, 1) := by decide +kernel
theorem dX10_which_19 : decode cX10_which 19 = .ok (.iconst 0, 1) := by decide +kernel
theorem dX10_which_20 : decode cX10_which 20 = .ok (.istore 4, 2) := by decide +kernel
theorem dX10_which_22 : decode cX10_which 22 = .ok (.iload 4, 2) := by decide +kernel
theorem dX10_which_24 : decode cX10_which 24 = .ok (.aload_n 0, 1) := by decide +kernel
theorem dX10_which_25 : decode cX10_which 25 = .ok (.getfield 231, 3) := by decide +kernel
theorem dX10_which_28 : decode cX10_which 28 = .ok (.if_icmp .ge 29, 3) := by decide +kernel
theorem dX10_which_31 : decode cX10_which 31 = .ok (.iload_n 3, 1) := by decide +kernel
theorem dX10_which_32 : decode cX10_which 32 = .ok (.ifCond .eq 17, 3) := by decide +kernel
theorem dX10_which_35 : decode cX10_which 35 = .ok (.aload_n 0, 1) := by decide +kernel
theorem dX10_which_36 : decode cX10_which 36 = .ok (.iload_n 2, 1) := by decide +kernel
theorem dX10_which_37 : decode cX10_which 37 = .ok (.iload 4, 2) := by decide +kernel
theorem dX10_which_39 : decode cX10_which 39 = .ok (.invokevirtual 234, 3) := by decide +kernel
theorem dX10_which_42 : decode cX10_which 42 = .ok (.ifCond .eq 7, 3) := by decide +kernel
theorem dX10_which_45 : decode cX10_which 45 = .ok (.iconst 1, 1) := by decide +kernel
theorem dX10_which_46 : decode cX10_which 46 = .ok (.goto 4, 3) := by decide +kernel
theorem dX10_which_49 : decode cX10_which 49 = .ok (.iconst 0, 1) := by decide +kernel
theorem dX10_which_50 : decode cX10_which 50 = .ok (.istore_n 3, 1) := by decide +kernel
theorem dX10_which_51 : decode cX10_which 51 = .ok (.iinc 4 1, 3) := by decide +kernel
theorem dX10_which_54 : decode cX10_which 54 = .ok (.goto (-32), 3) := by decide +kernel
theorem dX10_which_57 : decode cX10_which 57 = .ok (.iload_n 1, 1) := by decide +kernel
theorem dX10_which_58 : decode cX10_which 58 = .ok (.iload_n 3, 1) := by decide +kernel
theorem dX10_which_59 : decode cX10_which 59 = .ok (.ifCond .eq 9, 3) := by decide +kernel
theorem dX10_which_62 : decode cX10_which 62 = .ok (.iconst 1, 1) := by decide +kernel
theorem dX10_which_63 : decode cX10_which 63 = .ok (.iload_n 2, 1) := by decide +kernel
theorem dX10_which_64 : decode cX10_which 64 = .ok (.ishl, 1) := by decide +kernel
theorem dX10_which_65 : decode cX10_which 65 = .ok (.goto 4, 3) := by decide +kernel
theorem dX10_which_68 : decode cX10_which 68 = .ok (.iconst 0, 1) := by decide +kernel
theorem dX10_which_69 : decode cX10_which 69 = .ok (.ior, 1) := by decide +kernel
theorem dX10_which_70 : decode cX10_which 70 = .ok (.istore_n 1, 1) := by decide +kernel
theorem dX10_which_71 : decode cX10_which 71 = .ok (.iinc 2 1, 3) := by decide +kernel
theorem dX10_which_74 : decode cX10_which 74 = .ok (.goto (-65), 3) := by decide +kernel
theorem dX10_which_77 : decode cX10_which 77 = .ok (.iload_n 1, 1) := by decide +kernel
theorem dX10_which_78 : decode cX10_which 78 = .ok (.ireturn, 1) := by decide +kernel
theorem dX10_divisor_0 : decode cX10_divisor 0 = .ok (.iload_n 0, 1) := by decide +kernel
theorem dX10_divisor_1 : decode cX10_divisor 1 = .ok (.ifCond .ge 8, 3) := by decide +kernel
theorem dX10_divisor_4 : decode cX10_divisor 4 = .ok (.iload_n 0, 1) := by decide +kernel
theorem dX10_divisor_5 : decode cX10_divisor 5 = .ok (.ineg, 1) := by decide +kernel
theorem dX10_divisor_6 : decode cX10_divisor 6 = .ok (.goto 4, 3) := by decide +kernel
theorem dX10_divisor_9 : decode cX10_divisor 9 = .ok (.iload_n 0, 1) := by decide +kernel
theorem dX10_divisor_10 : decode cX10_divisor 10 = .ok (.istore_n 2, 1) := by decide +kernel
theorem dX10_divisor_11 : decode cX10_divisor 11 = .ok (.iload_n 1, 1) := by decide +kernel
theorem dX10_divisor_12 : decode cX10_divisor 12 = .ok (.istore_n 3, 1) := by decide +kernel
theorem dX10_divisor_13 : decode cX10_divisor 13 = .ok (.iload_n 3, 1) := by decide +kernel
theorem dX10_divisor_14 : decode cX10_divisor 14 = .ok (.ifCond .eq 16, 3) := by decide +kernel
theorem dX10_divisor_17 : decode cX10_divisor 17 = .ok (.iload_n 2, 1) := by decide +kernel
theorem dX10_divisor_18 : decode cX10_divisor 18 = .ok (.iload_n 3, 1) := by decide +kernel
theorem dX10_divisor_19 : decode cX10_divisor 19 = .ok (.irem, 1) := by decide +kernel
theorem dX10_divisor_20 : decode cX10_divisor 20 = .ok (.istore 4, 2) := by decide +kernel
theorem dX10_divisor_22 : decode cX10_divisor 22 = .ok (.iload_n 3, 1) := by decide +kernel
theorem dX10_divisor_23 : decode cX10_divisor 23 = .ok (.istore_n 2, 1) := by decide +kernel
theorem dX10_divisor_24 : decode cX10_divisor 24 = .ok (.iload 4, 2) := by decide +kernel
theorem dX10_divisor_26 : decode cX10_divisor 26 = .ok (.istore_n 3, 1) := by decide +kernel
theorem dX10_divisor_27 : decode cX10_divisor 27 = .ok (.goto (-14), 3) := by decide +kernel
theorem dX10_divisor_30 : decode cX10_divisor 30 = .ok (.iload_n 2, 1) := by decide +kernel
theorem dX10_divisor_31 : decode cX10_divisor 31 = .ok (.ireturn, 1) := by decide +kernel
theorem dX10_fraction_0 : decode cX10_fraction 0 = .ok (.iload_n 0, 1) := by decide +kernel
theorem dX10_fraction_1 : decode cX10_fraction 1 = .ok (.iload_n 1, 1) := by decide +kernel
theorem dX10_fraction_2 : decode cX10_fraction 2 = .ok (.invokestatic 237, 3) := by decide +kernel
theorem dX10_fraction_5 : decode cX10_fraction 5 = .ok (.istore_n 3, 1) := by decide +kernel
theorem dX10_fraction_6 : decode cX10_fraction 6 = .ok (.iload_n 2, 1) := by decide +kernel
theorem dX10_fraction_7 : decode cX10_fraction 7 = .ok (.ifCond .eq 9, 3) := by decide +kernel
theorem dX10_fraction_10 : decode cX10_fraction 10 = .ok (.iload_n 0, 1) := by decide +kernel
theorem dX10_fraction_11 : decode cX10_fraction 11 = .ok (.iload_n 3, 1) := by decide +kernel
theorem dX10_fraction_12 : decode cX10_fraction 12 = .ok (.idiv, 1) := by decide +kernel
theorem dX10_fraction_13 : decode cX10_fraction 13 = .ok (.goto 6, 3) := by decide +kernel
theorem dX10_fraction_16 : decode cX10_fraction 16 = .ok (.iload_n 1, 1) := by decide +kernel
theorem dX10_fraction_17 : decode cX10_fraction 17 = .ok (.iload_n 3, 1) := by decide +kernel
theorem dX10_fraction_18 : decode cX10_fraction 18 = .ok (.idiv, 1) := by decide +kernel
theorem dX10_fraction_19 : decode cX10_fraction 19 = .ok (.ireturn, 1) := by decide +kernel
theorem dX10_factorial_0 : decode cX10_factorial 0 = .ok (.iconst 1, 1) := by decide +kernel
theorem dX10_factorial_1 : decode cX10_factorial 1 = .ok (.istore_n 1, 1) := by decide +kernel
theorem dX10_factorial_2 : decode cX10_factorial 2 = .ok (.iconst 2, 1) := by decide +kernel
theorem dX10_factorial_3 : decode cX10_factorial 3 = .ok (.istore_n 2, 1) := by decide +kernel
theorem dX10_factorial_4 : decode cX10_factorial 4 = .ok (.iload_n 2, 1) := by decide +kernel
theorem dX10_factorial_5 : decode cX10_factorial 5 = .ok (.iload_n 0, 1) := by decide +kernel
