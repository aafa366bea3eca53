theorem dX9_bestMove_147 : decode cX9_bestMove 147 = .ok (.aload_n 0, 1) := by decide +kernel
theorem dX9_bestMove_148 : decode cX9_bestMove 148 = .ok (.getfield 53, 3) := by decide +kernel
theorem dX9_bestMove_151 : decode cX9_bestMove 151 = .ok (.getfield 210, 3) := by decide +kernel
theorem dX9_bestMove_154 : decode cX9_bestMove 154 = .ok (.istore_n 2, 1) := by decide +kernel
theorem dX9_bestMove_155 : decode cX9_bestMove 155 = .ok (.aload_n 0, 1) := by decide +kernel
theorem dX9_bestMove_156 : decode cX9_bestMove 156 = .ok (.getfield 53, 3) := by decide +kernel
theorem dX9_bestMove_159 : decode cX9_bestMove 159 = .ok (.getfield 213, 3) := by decide +kernel
theorem dX9_bestMove_162 : decode cX9_bestMove 162 = .ok (.istore_n 3, 1) := by decide +kernel
theorem dX9_bestMove_163 : decode cX9_bestMove 163 = .ok (.iinc 5 1, 3) := by decide +kernel
theorem dX9_bestMove_166 : decode cX9_bestMove 166 = .ok (.goto (-104), 3) := by decide +kernel
theorem dX9_bestMove_169 : decode cX9_bestMove 169 = .ok (.iinc 4 1, 3) := by decide +kernel
theorem dX9_bestMove_172 : decode cX9_bestMove 172 = .ok (.goto (-125), 3) := by decide +kernel
theorem dX9_bestMove_175 : decode cX9_bestMove 175 = .ok (.iload_n 1, 1) := by decide +kernel
theorem dX9_bestMove_176 : decode cX9_bestMove 176 = .ok (.ireturn, 1) := by decide +kernel
theorem dX9_statementOf_0 : decode cX9_statementOf 0 = .ok (.lload_n 0, 1) := by decide +kernel
theorem dX9_statementOf_1 : decode cX9_statementOf 1 = .ok (.lstore_n 3, 1) := by decide +kernel
theorem dX9_statementOf_2 : decode cX9_statementOf 2 = .ok (.iconst 0, 1) := by decide +kernel
theorem dX9_statementOf_3 : decode cX9_statementOf 3 = .ok (.istore 5, 2) := by decide +kernel
theorem dX9_statementOf_5 : decode cX9_statementOf 5 = .ok (.iload 5, 2) := by decide +kernel
theorem dX9_statementOf_7 : decode cX9_statementOf 7 = .ok (.iload_n 2, 1) := by decide +kernel
theorem dX9_statementOf_8 : decode cX9_statementOf 8 = .ok (.if_icmp .ge 15, 3) := by decide +kernel
theorem dX9_statementOf_11 : decode cX9_statementOf 11 = .ok (.lload_n 3, 1) := by decide +kernel
theorem dX9_statementOf_12 : decode cX9_statementOf 12 = .ok (.ldc2_w 311, 3) := by decide +kernel
theorem dX9_statementOf_15 : decode cX9_statementOf 15 = .ok (.ldiv, 1) := by decide +kernel
theorem dX9_statementOf_16 : decode cX9_statementOf 16 = .ok (.lstore_n 3, 1) := by decide +kernel
theorem dX9_statementOf_17 : decode cX9_statementOf 17 = .ok (.iinc 5 1, 3) := by decide +kernel
theorem dX9_statementOf_20 : decode cX9_statementOf 20 = .ok (.goto (-15), 3) := by decide +kernel
theorem dX9_statementOf_23 : decode cX9_statementOf 23 = .ok (.lload_n 3, 1) := by decide +kernel
theorem dX9_statementOf_24 : decode cX9_statementOf 24 = .ok (.ldc2_w 311, 3) := by decide +kernel
theorem dX9_statementOf_27 : decode cX9_statementOf 27 = .ok (.lrem, 1) := by decide +kernel
theorem dX9_statementOf_28 : decode cX9_statementOf 28 = .ok (.l2i, 1) := by decide +kernel
theorem dX9_statementOf_29 : decode cX9_statementOf 29 = .ok (.ireturn, 1) := by decide +kernel
theorem dX9_holds_0 : decode cX9_holds 0 = .ok (.iload_n 1, 1) := by decide +kernel
theorem dX9_holds_1 : decode cX9_holds 1 = .ok (.bipush 100, 2) := by decide +kernel
theorem dX9_holds_3 : decode cX9_holds 3 = .ok (.irem, 1) := by decide +kernel
theorem dX9_holds_4 : decode cX9_holds 4 = .ok (.istore_n 2, 1) := by decide +kernel
theorem dX9_holds_5 : decode cX9_holds 5 = .ok (.iload_n 2, 1) := by decide +kernel
theorem dX9_holds_6 : decode cX9_holds 6 = .ok (.bipush 10, 2) := by decide +kernel
theorem dX9_holds_8 : decode cX9_holds 8 = .ok (.idiv, 1) := by decide +kernel
theorem dX9_holds_9 : decode cX9_holds 9 = .ok (.istore_n 3, 1) := by decide +kernel
theorem dX9_holds_10 : decode cX9_holds 10 = .ok (.iload_n 2, 1) := by decide +kernel
theorem dX9_holds_11 : decode cX9_holds 11 = .ok (.bipush 10, 2) := by decide +kernel
theorem dX9_holds_13 : decode cX9_holds 13 = .ok (.irem, 1) := by decide +kernel
theorem dX9_holds_14 : decode cX9_holds 14 = .ok (.istore 4, 2) := by decide +kernel
theorem dX9_holds_16 : decode cX9_holds 16 = .ok (.iload_n 1, 1) := by decide +kernel
theorem dX9_holds_17 : decode cX9_holds 17 = .ok (.bipush 100, 2) := by decide +kernel
theorem dX9_holds_19 : decode cX9_holds 19 = .ok (.idiv, 1) := by decide +kernel
theorem dX9_holds_20 : decode cX9_holds 20 = .ok (.tableswitch 164 1 6 #[40, 59, 67, 75, 103, 145], 40) := by decide +kernel
theorem dX9_holds_60 : decode cX9_holds 60 = .ok (.aload_n 0, 1) := by decide +kernel
theorem dX9_holds_61 : decode cX9_holds 61 = .ok (.aload_n 0, 1) := by decide +kernel
theorem dX9_holds_62 : decode cX9_holds 62 = .ok (.getfield 40, 3) := by decide +kernel
theorem dX9_holds_65 : decode cX9_holds 65 = .ok (.iload_n 2, 1) := by decide +kernel
theorem dX9_holds_66 : decode cX9_holds 66 = .ok (.invokevirtual 147, 3) := by decide +kernel
theorem dX9_holds_69 : decode cX9_holds 69 = .ok (.iload_n 2, 1) := by decide +kernel
theorem dX9_holds_70 : decode cX9_holds 70 = .ok (.ifCond .eq 7, 3) := by decide +kernel
theorem dX9_holds_73 : decode cX9_holds 73 = .ok (.iconst 1, 1) := by decide +kernel
theorem dX9_holds_74 : decode cX9_holds 74 = .ok (.goto 4, 3) := by decide +kernel
theorem dX9_holds_77 : decode cX9_holds 77 = .ok (.iconst 0, 1) := by decide +kernel
theorem dX9_holds_78 : decode cX9_holds 78 = .ok (.ireturn, 1) := by decide +kernel
theorem dX9_holds_79 : decode cX9_holds 79 = .ok (.aload_n 0, 1) := by decide +kernel
theorem dX9_holds_80 : decode cX9_holds 80 = .ok (.iload_n 3, 1) := by decide +kernel
theorem dX9_holds_81 : decode cX9_holds 81 = .ok (.iload 4, 2) := by decide +kernel
theorem dX9_holds_83 : decode cX9_holds 83 = .ok (.invokevirtual 313, 3) := by decide +kernel
theorem dX9_holds_86 : decode cX9_holds 86 = .ok (.ireturn, 1) := by decide +kernel
theorem dX9_holds_87 : decode cX9_holds 87 = .ok (.aload_n 0, 1) := by decide +kernel
theorem dX9_holds_88 : decode cX9_holds 88 = .ok (.iload_n 3, 1) := by decide +kernel
theorem dX9_holds_89 : decode cX9_holds 89 = .ok (.iload 4, 2) := by decide +kernel
theorem dX9_holds_91 : decode cX9_holds 91 = .ok (.invokevirtual 316, 3) := by decide +kernel
theorem dX9_holds_94 : decode cX9_holds 94 = .ok (.ireturn, 1) := by decide +kernel
theorem dX9_holds_95 : decode cX9_holds 95 = .ok (.aload_n 0, 1) := by decide +kernel
theorem dX9_holds_96 : decode cX9_holds 96 = .ok (.iload_n 3, 1) := by decide +kernel
theorem dX9_holds_97 : decode cX9_holds 97 = .ok (.invokevirtual 113, 3) := by decide +kernel
theorem dX9_holds_100 : decode cX9_holds 100 = .ok (.ifCond .eq 21, 3) := by decide +kernel
theorem dX9_holds_103 : decode cX9_holds 103 = .ok (.aload_n 0, 1) := by decide +kernel
theorem dX9_holds_104 : decode cX9_holds 104 = .ok (.aload_n 0, 1) := by decide +kernel
theorem dX9_holds_105 : decode cX9_holds 105 = .ok (.getfield 40, 3) := by decide +kernel
theorem dX9_holds_108 : decode cX9_holds 108 = .ok (.iload_n 3, 1) := by decide +kernel
theorem dX9_holds_109 : decode cX9_holds 109 = .ok (.invokevirtual 136, 3) := by decide +kernel
theorem dX9_holds_112 : decode cX9_holds 112 = .ok (.iload 4, 2) := by decide +kernel
theorem dX9_holds_114 : decode cX9_holds 114 = .ok (.if_icmp .ne 7, 3) := by decide +kernel
theorem dX9_holds_117 : decode cX9_holds 117 = .ok (.iconst 1, 1) := by decide +kernel
theorem dX9_holds_118 : decode cX9_holds 118 = .ok (.goto 4, 3) := by decide +kernel
theorem dX9_holds_121 : decode cX9_holds 121 = .ok (.iconst 0, 1) := by decide +kernel
theorem dX9_holds_122 : decode cX9_holds 122 = .ok (.ireturn, 1) := by decide +kernel
theorem dX9_holds_123 : decode cX9_holds 123 = .ok (.aload_n 0, 1) := by decide +kernel
theorem dX9_holds_124 : decode cX9_holds 124 = .ok (.getfield 53, 3) := by decide +kernel
theorem dX9_holds_127 : decode cX9_holds 127 = .ok (.aload_n 0, 1) := by decide +kernel
theorem dX9_holds_128 : decode cX9_holds 128 = .ok (.getfield 26, 3) := by decide +kernel
theorem dX9_holds_131 : decode cX9_holds 131 = .ok (.aload_n 0, 1) := by decide +kernel
theorem dX9_holds_132 : decode cX9_holds 132 = .ok (.getfield 40, 3) := by decide +kernel
theorem dX9_holds_135 : decode cX9_holds 135 = .ok (.getfield 120, 3) := by decide +kernel
theorem dX9_holds_138 : decode cX9_holds 138 = .ok (.aload_n 0, 1) := by decide +kernel
theorem dX9_holds_139 : decode cX9_holds 139 = .ok (.getfield 40, 3) := by decide +kernel
theorem dX9_holds_142 : decode cX9_holds 142 = .ok (.getfield 180, 3) := by decide +kernel
theorem dX9_holds_145 : decode cX9_holds 145 = .ok (.invokevirtual 206, 3) := by decide +kernel
theorem dX9_holds_148 : decode cX9_holds 148 = .ok (.aload_n 0, 1) := by decide +kernel
theorem dX9_holds_149 : decode cX9_holds 149 = .ok (.getfield 53, 3) := by decide +kernel
theorem dX9_holds_152 : decode cX9_holds 152 = .ok (.getfield 210, 3) := by decide +kernel
theorem dX9_holds_155 : decode cX9_holds 155 = .ok (.iload_n 2, 1) := by decide +kernel
theorem dX9_holds_156 : decode cX9_holds 156 = .ok (.if_icmp .ne 7, 3) := by decide +kernel
theorem dX9_holds_159 : decode cX9_holds 159 = .ok (.iconst 1, 1) := by decide +kernel
theorem dX9_holds_160 : decode cX9_holds 160 = .ok (.goto 4, 3) := by decide +kernel
theorem dX9_holds_163 : decode cX9_holds 163 = .ok (.iconst 0, 1) := by decide +kernel
theorem dX9_holds_164 : decode cX9_holds 164 = .ok (.ireturn, 1) := by decide +kernel
theorem dX9_holds_165 : decode cX9_holds 165 = .ok (.iload_n 3, 1) := by decide +kernel
theorem dX9_holds_166 : decode cX9_holds 166 = .ok (.ifCond .ne 16, 3) := by decide +kernel
theorem dX9_holds_169 : decode cX9_holds 169 = .ok (.aload_n 0, 1) := by decide +kernel
theorem dX9_holds_170 : decode cX9_holds 170 = .ok (.iload 4, 2) := by decide +kernel
theorem dX9_holds_172 : decode cX9_holds 172 = .ok (.invokevirtual 319, 3) := by decide +kernel
theorem dX9_holds_175 : decode cX9_holds 175 = .ok (.ifCond .eq 7, 3) := by decide +kernel
theorem dX9_holds_178 : decode cX9_holds 178 = .ok (.iconst 1, 1) := by decide +kernel
theorem dX9_holds_179 : decode cX9_holds 179 = .ok (.goto 4, 3) := by decide +kernel
theorem dX9_holds_182 : decode cX9_holds 182 = .ok (.iconst 0, 1) := by decide +kernel
theorem dX9_holds_183 : decode cX9_holds 183 = .ok (.ireturn, 1) := by decide +kernel
theorem dX9_holds_184 : decode cX9_holds 184 = .ok (.iconst 0, 1) := by decide +kernel
theorem dX9_holds_185 : decode cX9_holds 185 = .ok (.ireturn, 1) := by decide +kernel
theorem dX9_setsInput_0 : decode cX9_setsInput 0 = .ok (.aload_n 0, 1) := by decide +kernel
theorem dX9_setsInput_1 : decode cX9_setsInput 1 = .ok (.iload_n 1, 1) := by decide +kernel
theorem dX9_setsInput_2 : decode cX9_setsInput 2 = .ok (.invokevirtual 113, 3) := by decide +kernel
theorem dX9_setsInput_5 : decode cX9_setsInput 5 = .ok (.ifCond .eq 21, 3) := by decide +kernel
theorem dX9_setsInput_8 : decode cX9_setsInput 8 = .ok (.aload_n 0, 1) := by decide +kernel
theorem dX9_setsInput_9 : decode cX9_setsInput 9 = .ok (.getfield 26, 3) := by decide +kernel
theorem dX9_setsInput_12 : decode cX9_setsInput 12 = .ok (.iload_n 1, 1) := by decide +kernel
theorem dX9_setsInput_13 : decode cX9_setsInput 13 = .ok (.invokevirtual 116, 3) := by decide +kernel
theorem dX9_setsInput_16 : decode cX9_setsInput 16 = .ok (.ifCond .ne 10, 3) := by decide +kernel
theorem dX9_setsInput_19 : decode cX9_setsInput 19 = .ok (.iload_n 2, 1) := by decide +kernel
theorem dX9_setsInput_20 : decode cX9_setsInput 20 = .ok (.invokestatic 154, 3) := by decide +kernel
theorem dX9_setsInput_23 : decode cX9_setsInput 23 = .ok (.ifCond .ne 5, 3) := by decide +kernel
theorem dX9_setsInput_26 : decode cX9_setsInput 26 = .ok (.iconst 0, 1) := by decide +kernel
theorem dX9_setsInput_27 : decode cX9_setsInput 27 = .ok (.ireturn, 1) := by decide +kernel
theorem dX9_setsInput_28 : decode cX9_setsInput 28 = .ok (.aload_n 0, 1) := by decide +kernel
theorem dX9_setsInput_29 : decode cX9_setsInput 29 = .ok (.getfield 40, 3) := by decide +kernel
theorem dX9_setsInput_32 : decode cX9_setsInput 32 = .ok (.iload_n 1, 1) := by decide +kernel
theorem dX9_setsInput_33 : decode cX9_setsInput 33 = .ok (.iload_n 2, 1) := by decide +kernel
theorem dX9_setsInput_34 : decode cX9_setsInput 34 = .ok (.invokevirtual 167, 3) := by decide +kernel
theorem dX9_setsInput_37 : decode cX9_setsInput 37 = .ok (.iconst 1, 1) := by decide +kernel
theorem dX9_setsInput_38 : decode cX9_setsInput 38 = .ok (.ireturn, 1) := by decide +kernel
theorem dX9_movesGate_0 : decode cX9_movesGate 0 = .ok (.aload_n 0, 1) := by decide +kernel
theorem dX9_movesGate_1 : decode cX9_movesGate 1 = .ok (.iload_n 1, 1) := by decide +kernel
theorem dX9_movesGate_2 : decode cX9_movesGate 2 = .ok (.invokevirtual 113, 3) := by decide +kernel
theorem dX9_movesGate_5 : decode cX9_movesGate 5 = .ok (.ifCond .eq 26, 3) := by decide +kernel
theorem dX9_movesGate_8 : decode cX9_movesGate 8 = .ok (.aload_n 0, 1) := by decide +kernel
theorem dX9_movesGate_9 : decode cX9_movesGate 9 = .ok (.iload_n 2, 1) := by decide +kernel
theorem dX9_movesGate_10 : decode cX9_movesGate 10 = .ok (.invokevirtual 171, 3) := by decide +kernel
theorem dX9_movesGate_13 : decode cX9_movesGate 13 = .ok (.ifCond .eq 18, 3) := by decide +kernel
theorem dX9_movesGate_16 : decode cX9_movesGate 16 = .ok (.aload_n 0, 1) := by decide +kernel
theorem dX9_movesGate_17 : decode cX9_movesGate 17 = .ok (.getfield 40, 3) := by decide +kernel
theorem dX9_movesGate_20 : decode cX9_movesGate 20 = .ok (.getfield 120, 3) := by decide +kernel
theorem dX9_movesGate_23 : decode cX9_movesGate 23 = .ok (.iload_n 1, 1) := by decide +kernel
theorem dX9_movesGate_24 : decode cX9_movesGate 24 = .ok (.invokestatic 123, 3) := by decide +kernel
theorem dX9_movesGate_27 : decode cX9_movesGate 27 = .ok (.iload_n 2, 1) := by decide +kernel
theorem dX9_movesGate_28 : decode cX9_movesGate 28 = .ok (.if_icmp .ne 5, 3) := by decide +kernel
theorem dX9_movesGate_31 : decode cX9_movesGate 31 = .ok (.iconst 0, 1) := by decide +kernel
theorem dX9_movesGate_32 : decode cX9_movesGate 32 = .ok (.ireturn, 1) := by decide +kernel
theorem dX9_movesGate_33 : decode cX9_movesGate 33 = .ok (.aload_n 0, 1) := by decide +kernel
theorem dX9_movesGate_34 : decode cX9_movesGate 34 = .ok (.getfield 40, 3) := by decide +kernel
theorem dX9_movesGate_37 : decode cX9_movesGate 37 = .ok (.aload_n 0, 1) := by decide +kernel
theorem dX9_movesGate_38 : decode cX9_movesGate 38 = .ok (.getfield 40, 3) := by decide +kernel
theorem dX9_movesGate_41 : decode cX9_movesGate 41 = .ok (.getfield 120, 3) := by decide +kernel
theorem dX9_movesGate_44 : decode cX9_movesGate 44 = .ok (.iload_n 1, 1) := by decide +kernel
theorem dX9_movesGate_45 : decode cX9_movesGate 45 = .ok (.iload_n 2, 1) := by decide +kernel
theorem dX9_movesGate_46 : decode cX9_movesGate 46 = .ok (.invokestatic 174, 3) := by decide +kernel
theorem dX9_movesGate_49 : decode cX9_movesGate 49 = .ok (.putfield 120, 3) := by decide +kernel
theorem dX9_movesGate_52 : decode cX9_movesGate 52 = .ok (.iconst 1, 1) := by decide +kernel
theorem dX9_movesGate_53 : decode cX9_movesGate 53 = .ok (.ireturn, 1) := by decide +kernel
theorem dX9_setsPins_0 : decode cX9_setsPins 0 = .ok (.iload_n 1, 1) := by decide +kernel
theorem dX9_setsPins_1 : decode cX9_setsPins 1 = .ok (.invokestatic 177, 3) := by decide +kernel
theorem dX9_setsPins_4 : decode cX9_setsPins 4 = .ok (.ifCond .ne 5, 3) := by decide +kernel
theorem dX9_setsPins_7 : decode cX9_setsPins 7 = .ok (.iconst 0, 1) := by decide +kernel
theorem dX9_setsPins_8 : decode cX9_setsPins 8 = .ok (.ireturn, 1) := by decide +kernel
theorem dX9_setsPins_9 : decode cX9_setsPins 9 = .ok (.aload_n 0, 1) := by decide +kernel
theorem dX9_setsPins_10 : decode cX9_setsPins 10 = .ok (.getfield 40, 3) := by decide +kernel
theorem dX9_setsPins_13 : decode cX9_setsPins 13 = .ok (.iload_n 1, 1) := by decide +kernel
theorem dX9_setsPins_14 : decode cX9_setsPins 14 = .ok (.putfield 180, 3) := by decide +kernel
theorem dX9_setsPins_17 : decode cX9_setsPins 17 = .ok (.iconst 1, 1) := by decide +kernel
theorem dX9_setsPins_18 : decode cX9_setsPins 18 = .ok (.ireturn, 1) := by decide +kernel
theorem dX9_chipsNeeded_0 : decode cX9_chipsNeeded 0 = .ok (.aload_n 0, 1) := by decide +kernel
theorem dX9_chipsNeeded_1 : decode cX9_chipsNeeded 1 = .ok (.getfield 26, 3) := by decide +kernel
theorem dX9_chipsNeeded_4 : decode cX9_chipsNeeded 4 = .ok (.iload_n 1, 1) := by decide +kernel
theorem dX9_chipsNeeded_5 : decode cX9_chipsNeeded 5 = .ok (.invokevirtual 322, 3) := by decide +kernel
theorem dX9_chipsNeeded_8 : decode cX9_chipsNeeded 8 = .ok (.istore_n 2, 1) := by decide +kernel
theorem dX9_chipsNeeded_9 : decode cX9_chipsNeeded 9 = .ok (.iconst 0, 1) := by decide +kernel
theorem dX9_chipsNeeded_10 : decode cX9_chipsNeeded 10 = .ok (.istore_n 3, 1) := by decide +kernel
theorem dX9_chipsNeeded_11 : decode cX9_chipsNeeded 11 = .ok (.iconst 0, 1) := by decide +kernel
theorem dX9_chipsNeeded_12 : decode cX9_chipsNeeded 12 = .ok (.istore 4, 2) := by decide +kernel
theorem dX9_chipsNeeded_14 : decode cX9_chipsNeeded 14 = .ok (.iload 4, 2) := by decide +kernel
theorem dX9_chipsNeeded_16 : decode cX9_chipsNeeded 16 = .ok (.aload_n 0, 1) := by decide +kernel
theorem dX9_chipsNeeded_17 : decode cX9_chipsNeeded 17 = .ok (.getfield 26, 3) := by decide +kernel
theorem dX9_chipsNeeded_20 : decode cX9_chipsNeeded 20 = .ok (.getfield 110, 3) := by decide +kernel
theorem dX9_chipsNeeded_23 : decode cX9_chipsNeeded 23 = .ok (.if_icmp .ge 36, 3) := by decide +kernel
theorem dX9_chipsNeeded_26 : decode cX9_chipsNeeded 26 = .ok (.iload_n 2, 1) := by decide +kernel
theorem dX9_chipsNeeded_27 : decode cX9_chipsNeeded 27 = .ok (.iload 4, 2) := by decide +kernel
theorem dX9_chipsNeeded_29 : decode cX9_chipsNeeded 29 = .ok (.invokestatic 241, 3) := by decide +kernel
theorem dX9_chipsNeeded_32 : decode cX9_chipsNeeded 32 = .ok (.iand, 1) := by decide +kernel
theorem dX9_chipsNeeded_33 : decode cX9_chipsNeeded 33 = .ok (.ifCond .eq 20, 3) := by decide +kernel
theorem dX9_chipsNeeded_36 : decode cX9_chipsNeeded 36 = .ok (.iload_n 3, 1) := by decide +kernel
theorem dX9_chipsNeeded_37 : decode cX9_chipsNeeded 37 = .ok (.iconst 1, 1) := by decide +kernel
theorem dX9_chipsNeeded_38 : decode cX9_chipsNeeded 38 = .ok (.aload_n 0, 1) := by decide +kernel
theorem dX9_chipsNeeded_39 : decode cX9_chipsNeeded 39 = .ok (.getfield 36, 3) := by decide +kernel
theorem dX9_chipsNeeded_42 : decode cX9_chipsNeeded 42 = .ok (.getfield 120, 3) := by decide +kernel
theorem dX9_chipsNeeded_45 : decode cX9_chipsNeeded 45 = .ok (.iload 4, 2) := by decide +kernel
theorem dX9_chipsNeeded_47 : decode cX9_chipsNeeded 47 = .ok (.invokestatic 123, 3) := by decide +kernel
theorem dX9_chipsNeeded_50 : decode cX9_chipsNeeded 50 = .ok (.ishl, 1) := by decide +kernel
theorem dX9_chipsNeeded_51 : decode cX9_chipsNeeded 51 = .ok (.ior, 1) := by decide +kernel
theorem dX9_chipsNeeded_52 : decode cX9_chipsNeeded 52 = .ok (.istore_n 3, 1) := by decide +kernel
theorem dX9_chipsNeeded_53 : decode cX9_chipsNeeded 53 = .ok (.iinc 4 1, 3) := by decide +kernel
theorem dX9_chipsNeeded_56 : decode cX9_chipsNeeded 56 = .ok (.goto (-42), 3) := by decide +kernel
theorem dX9_chipsNeeded_59 : decode cX9_chipsNeeded 59 = .ok (.iload_n 3, 1) := by decide +kernel
theorem dX9_chipsNeeded_60 : decode cX9_chipsNeeded 60 = .ok (.ireturn, 1) := by decide +kernel
theorem dX9_weightOfGoodSlots_0 : decode cX9_weightOfGoodSlots 0 = .ok (.lconst 0, 1) := by decide +kernel
theorem dX9_weightOfGoodSlots_1 : decode cX9_weightOfGoodSlots 1 = .ok (.lstore_n 3, 1) := by decide +kernel
theorem dX9_weightOfGoodSlots_2 : decode cX9_weightOfGoodSlots 2 = .ok (.iload_n 0, 1) := by decide +kernel
theorem dX9_weightOfGoodSlots_3 : decode cX9_weightOfGoodSlots 3 = .ok (.istore 5, 2) := by decide +kernel
theorem dX9_weightOfGoodSlots_5 : decode cX9_weightOfGoodSlots 5 = .ok (.iload 5, 2) := by decide +kernel
theorem dX9_weightOfGoodSlots_7 : decode cX9_weightOfGoodSlots 7 = .ok (.iload_n 1, 1) := by decide +kernel
theorem dX9_weightOfGoodSlots_8 : decode cX9_weightOfGoodSlots 8 = .ok (.if_icmp .gt 37, 3) := by decide +kernel
theorem dX9_weightOfGoodSlots_11 : decode cX9_weightOfGoodSlots 11 = .ok (.lload_n 3, 1) := by decide +kernel
theorem dX9_weightOfGoodSlots_12 : decode cX9_weightOfGoodSlots 12 = .ok (.iload_n 1, 1) := by decide +kernel
theorem dX9_weightOfGoodSlots_13 : decode cX9_weightOfGoodSlots 13 = .ok (.iload 5, 2) := by decide +kernel
theorem dX9_weightOfGoodSlots_15 : decode cX9_weightOfGoodSlots 15 = .ok (.invokestatic 325, 3) := by decide +kernel
theorem dX9_weightOfGoodSlots_18 : decode cX9_weightOfGoodSlots 18 = .ok (.bipush 10, 2) := by decide +kernel
theorem dX9_weightOfGoodSlots_20 : decode cX9_weightOfGoodSlots 20 = .ok (.iload_n 2, 1) := by decide +kernel
theorem dX9_weightOfGoodSlots_21 : decode cX9_weightOfGoodSlots 21 = .ok (.isub, 1) := by decide +kernel
theorem dX9_weightOfGoodSlots_22 : decode cX9_weightOfGoodSlots 22 = .ok (.iload 5, 2) := by decide +kernel
theorem dX9_weightOfGoodSlots_24 : decode cX9_weightOfGoodSlots 24 = .ok (.invokestatic 222, 3) := by decide +kernel
theorem dX9_weightOfGoodSlots_27 : decode cX9_weightOfGoodSlots 27 = .ok (.lmul, 1) := by decide +kernel
theorem dX9_weightOfGoodSlots_28 : decode cX9_weightOfGoodSlots 28 = .ok (.iload_n 2, 1) := by decide +kernel
theorem dX9_weightOfGoodSlots_29 : decode cX9_weightOfGoodSlots 29 = .ok (.iload_n 1, 1) := by decide +kernel
theorem dX9_weightOfGoodSlots_30 : decode cX9_weightOfGoodSlots 30 = .ok (.iload 5, 2) := by decide +kernel
theorem dX9_weightOfGoodSlots_32 : decode cX9_weightOfGoodSlots 32 = .ok (.isub, 1) := by decide +kernel
theorem dX9_weightOfGoodSlots_33 : decode cX9_weightOfGoodSlots 33 = .ok (.invokestatic 222, 3) := by decide +kernel
theorem dX9_weightOfGoodSlots_36 : decode cX9_weightOfGoodSlots 36 = .ok (.lmul, 1) := by decide +kernel
theorem dX9_weightOfGoodSlots_37 : decode cX9_weightOfGoodSlots 37 = .ok (.ladd, 1) := by decide +kernel
theorem dX9_weightOfGoodSlots_38 : decode cX9_weightOfGoodSlots 38 = .ok (.lstore_n 3, 1) := by decide +kernel
theorem dX9_weightOfGoodSlots_39 : decode cX9_weightOfGoodSlots 39 = .ok (.iinc 5 1, 3) := by decide +kernel
theorem dX9_weightOfGoodSlots_42 : decode cX9_weightOfGoodSlots 42 = .ok (.goto (-37), 3) := by decide +kernel
theorem dX9_weightOfGoodSlots_45 : decode cX9_weightOfGoodSlots 45 = .ok (.lload_n 3, 1) := by decide +kernel
theorem dX9_weightOfGoodSlots_46 : decode cX9_weightOfGoodSlots 46 = .ok (.lreturn, 1) := by decide +kernel
theorem dX9_choices_0 : decode cX9_choices 0 = .ok (.lconst 1, 1) := by decide +kernel
theorem dX9_choices_1 : decode cX9_choices 1 = .ok (.lstore_n 2, 1) := by decide +kernel
theorem dX9_choices_2 : decode cX9_choices 2 = .ok (.iconst 1, 1) := by decide +kernel
theorem dX9_choices_3 : decode cX9_choices 3 = .ok (.istore 4, 2) := by decide +kernel
theorem dX9_choices_5 : decode cX9_choices 5 = .ok (.iload 4, 2) := by decide +kernel
theorem dX9_choices_7 : decode cX9_choices 7 = .ok (.iload_n 1, 1) := by decide +kernel
theorem dX9_choices_8 : decode cX9_choices 8 = .ok (.if_icmp .gt 23, 3) := by decide +kernel
theorem dX9_choices_11 : decode cX9_choices 11 = .ok (.lload_n 2, 1) := by decide +kernel
theorem dX9_choices_12 : decode cX9_choices 12 = .ok (.iload_n 0, 1) := by decide +kernel
theorem dX9_choices_13 : decode cX9_choices 13 = .ok (.iload_n 1, 1) := by decide +kernel
theorem dX9_choices_14 : decode cX9_choices 14 = .ok (.isub, 1) := by decide +kernel
theorem dX9_choices_15 : decode cX9_choices 15 = .ok (.iload 4, 2) := by decide +kernel
theorem dX9_choices_17 : decode cX9_choices 17 = .ok (.iadd, 1) := by decide +kernel
theorem dX9_choices_18 : decode cX9_choices 18 = .ok (.i2l, 1) := by decide +kernel
theorem dX9_choices_19 : decode cX9_choices 19 = .ok (.lmul, 1) := by decide +kernel
theorem dX9_choices_20 : decode cX9_choices 20 = .ok (.iload 4, 2) := by decide +kernel
theorem dX9_choices_22 : decode cX9_choices 22 = .ok (.i2l, 1) := by decide +kernel
theorem dX9_choices_23 : decode cX9_choices 23 = .ok (.ldiv, 1) := by decide +kernel
theorem dX9_choices_24 : decode cX9_choices 24 = .ok (.lstore_n 2, 1) := by decide +kernel
theorem dX9_choices_25 : decode cX9_choices 25 = .ok (.iinc 4 1, 3) := by decide +kernel
theorem dX9_choices_28 : decode cX9_choices 28 = .ok (.goto (-23), 3) := by decide +kernel
theorem dX9_choices_31 : decode cX9_choices 31 = .ok (.lload_n 2, 1) := by decide +kernel
theorem dX9_choices_32 : decode cX9_choices 32 = .ok (.lreturn, 1) := by decide +kernel
theorem dX9_power_0 : decode cX9_power 0 = .ok (.lconst 1, 1) := by decide +kernel
theorem dX9_power_1 : decode cX9_power 1 = .ok (.lstore_n 2, 1) := by decide +kernel
theorem dX9_power_2 : decode cX9_power 2 = .ok (.iconst 0, 1) := by decide +kernel
theorem dX9_power_3 : decode cX9_power 3 = .ok (.istore 4, 2) := by decide +kernel
theorem dX9_power_5 : decode cX9_power 5 = .ok (.iload 4, 2) := by decide +kernel
theorem dX9_power_7 : decode cX9_power 7 = .ok (.iload_n 1, 1) := by decide +kernel
theorem dX9_power_8 : decode cX9_power 8 = .ok (.if_icmp .ge 14, 3) := by decide +kernel
theorem dX9_power_11 : decode cX9_power 11 = .ok (.lload_n 2, 1) := by decide +kernel
theorem dX9_power_12 : decode cX9_power 12 = .ok (.iload_n 0, 1) := by decide +kernel
theorem dX9_power_13 : decode cX9_power 13 = .ok (.i2l, 1) := by decide +kernel
theorem dX9_power_14 : decode cX9_power 14 = .ok (.lmul, 1) := by decide +kernel
theorem dX9_power_15 : decode cX9_power 15 = .ok (.lstore_n 2, 1) := by decide +kernel
theorem dX9_power_16 : decode cX9_power 16 = .ok (.iinc 4 1, 3) := by decide +kernel
theorem dX9_power_19 : decode cX9_power 19 = .ok (.goto (-14), 3) := by decide +kernel
theorem dX9_power_22 : decode cX9_power 22 = .ok (.lload_n 2, 1) := by decide +kernel
theorem dX9_power_23 : decode cX9_power 23 = .ok (.lreturn, 1) := by decide +kernel
theorem dX9_fraction_0 : decode cX9_fraction 0 = .ok (.iload_n 0, 1) := by decide +kernel
theorem dX9_fraction_1 : decode cX9_fraction 1 = .ok (.iload_n 1, 1) := by decide +kernel
theorem dX9_fraction_2 : decode cX9_fraction 2 = .ok (.invokestatic 328, 3) := by decide +kernel
theorem dX9_fraction_5 : decode cX9_fraction 5 = .ok (.istore_n 3, 1) := by decide +kernel
theorem dX9_fraction_6 : decode cX9_fraction 6 = .ok (.iload_n 3, 1) := by decide +kernel
theorem dX9_fraction_7 : decode cX9_fraction 7 = .ok (.ifCond .ne 13, 3) := by decide +kernel
theorem dX9_fraction_10 : decode cX9_fraction 10 = .ok (.iload_n 2, 1) := by decide +kernel
theorem dX9_fraction_11 : decode cX9_fraction 11 = .ok (.ifCond .eq 7, 3) := by decide +kernel
theorem dX9_fraction_14 : decode cX9_fraction 14 = .ok (.iconst 0, 1) := by decide +kernel
theorem dX9_fraction_15 : decode cX9_fraction 15 = .ok (.goto 4, 3) := by decide +kernel
theorem dX9_fraction_18 : decode cX9_fraction 18 = .ok (.iconst 1, 1) := by decide +kernel
theorem dX9_fraction_19 : decode cX9_fraction 19 = .ok (.ireturn, 1) := by decide +kernel
theorem dX9_fraction_20 : decode cX9_fraction 20 = .ok (.iload_n 2, 1) := by decide +kernel
theorem dX9_fraction_21 : decode cX9_fraction 21 = .ok (.ifCond .eq 9, 3) := by decide +kernel
theorem dX9_fraction_24 : decode cX9_fraction 24 = .ok (.iload_n 0, 1) := by decide +kernel
theorem dX9_fraction_25 : decode cX9_fraction 25 = .ok (.iload_n 3, 1) := by decide +kernel
theorem dX9_fraction_26 : decode cX9_fraction 26 = .ok (.idiv, 1) := by decide +kernel
theorem dX9_fraction_27 : decode cX9_fraction 27 = .ok (.goto 6, 3) := by decide +kernel
theorem dX9_fraction_30 : decode cX9_fraction 30 = .ok (.iload_n 1, 1) := by decide +kernel
theorem dX9_fraction_31 : decode cX9_fraction 31 = .ok (.iload_n 3, 1) := by decide +kernel
theorem dX9_fraction_32 : decode cX9_fraction 32 = .ok (.idiv, 1) := by decide +kernel
theorem dX9_fraction_33 : decode cX9_fraction 33 = .ok (.ireturn, 1) := by decide +kernel
theorem dX9_commonDivisor_0 : decode cX9_commonDivisor 0 = .ok (.iload_n 0, 1) := by decide +kernel
theorem dX9_commonDivisor_1 : decode cX9_commonDivisor 1 = .ok (.istore_n 2, 1) := by decide +kernel
theorem dX9_commonDivisor_2 : decode cX9_commonDivisor 2 = .ok (.iload_n 1, 1) := by decide +kernel
theorem dX9_commonDivisor_3 : decode cX9_commonDivisor 3 = .ok (.istore_n 3, 1) := by decide +kernel
theorem dX9_commonDivisor_4 : decode cX9_commonDivisor 4 = .ok (.iconst 0, 1) := by decide +kernel
theorem dX9_commonDivisor_5 : decode cX9_commonDivisor 5 = .ok (.istore 4, 2) := by decide +kernel
theorem dX9_commonDivisor_7 : decode cX9_commonDivisor 7 = .ok (.iload 4, 2) := by decide +kernel
theorem dX9_commonDivisor_9 : decode cX9_commonDivisor 9 = .ok (.bipush 64, 2) := by decide +kernel
theorem dX9_commonDivisor_11 : decode cX9_commonDivisor 11 = .ok (.if_icmp .ge 23, 3) := by decide +kernel
theorem dX9_commonDivisor_14 : decode cX9_commonDivisor 14 = .ok (.iload_n 3, 1) := by decide +kernel
theorem dX9_commonDivisor_15 : decode cX9_commonDivisor 15 = .ok (.ifCond .eq 19, 3) := by decide +kernel
theorem dX9_commonDivisor_18 : decode cX9_commonDivisor 18 = .ok (.iload_n 2, 1) := by decide +kernel
theorem dX9_commonDivisor_19 : decode cX9_commonDivisor 19 = .ok (.iload_n 3, 1) := by decide +kernel
theorem dX9_commonDivisor_20 : decode cX9_commonDivisor 20 = .ok (.irem, 1) := by decide +kernel
theorem dX9_commonDivisor_21 : decode cX9_commonDivisor 21 = .ok (.istore 5, 2) := by decide +kernel
theorem dX9_commonDivisor_23 : decode cX9_commonDivisor 23 = .ok (.iload_n 3, 1) := by decide +kernel
theorem dX9_commonDivisor_24 : decode cX9_commonDivisor 24 = .ok (.istore_n 2, 1) := by decide +kernel
theorem dX9_commonDivisor_25 : decode cX9_commonDivisor 25 = .ok (.iload 5, 2) := by decide +kernel
theorem dX9_commonDivisor_27 : decode cX9_commonDivisor 27 = .ok (.istore_n 3, 1) := by decide +kernel
theorem dX9_commonDivisor_28 : decode cX9_commonDivisor 28 = .ok (.iinc 4 1, 3) := by decide +kernel
theorem dX9_commonDivisor_31 : decode cX9_commonDivisor 31 = .ok (.goto (-24), 3) := by decide +kernel
theorem dX9_commonDivisor_34 : decode cX9_commonDivisor 34 = .ok (.iload_n 2, 1) := by decide +kernel
theorem dX9_commonDivisor_35 : decode cX9_commonDivisor 35 = .ok (.ireturn, 1) := by decide +kernel
theorem dX9_bit_0 : decode cX9_bit 0 = .ok (.iload_n 0, 1) := by decide +kernel
theorem dX9_bit_1 : decode cX9_bit 1 = .ok (.ifCond .lt 15, 3) := by decide +kernel
theorem dX9_bit_4 : decode cX9_bit 4 = .ok (.iload_n 0, 1) := by decide +kernel
theorem dX9_bit_5 : decode cX9_bit 5 = .ok (.bipush 10, 2) := by decide +kernel
theorem dX9_bit_7 : decode cX9_bit 7 = .ok (.if_icmp .ge 9, 3) := by decide +kernel
theorem dX9_bit_10 : decode cX9_bit 10 = .ok (.iconst 1, 1) := by decide +kernel
theorem dX9_bit_11 : decode cX9_bit 11 = .ok (.iload_n 0, 1) := by decide +kernel
theorem dX9_bit_12 : decode cX9_bit 12 = .ok (.ishl, 1) := by decide +kernel
theorem dX9_bit_13 : decode cX9_bit 13 = .ok (.goto 4, 3) := by decide +kernel
theorem dX9_bit_16 : decode cX9_bit 16 = .ok (.iconst 0, 1) := by decide +kernel
theorem dX9_bit_17 : decode cX9_bit 17 = .ok (.ireturn, 1) := by decide +kernel
theorem dX9_greatestOf_0 : decode cX9_greatestOf 0 = .ok (.bipush 9, 2) := by decide +kernel
theorem dX9_greatestOf_2 : decode cX9_greatestOf 2 = .ok (.istore_n 1, 1) := by decide +kernel
theorem dX9_greatestOf_3 : decode cX9_greatestOf 3 = .ok (.iload_n 1, 1) := by decide +kernel
theorem dX9_greatestOf_4 : decode cX9_greatestOf 4 = .ok (.ifCond .lt 20, 3) := by decide +kernel
theorem dX9_greatestOf_7 : decode cX9_greatestOf 7 = .ok (.iload_n 0, 1) := by decide +kernel
theorem dX9_greatestOf_8 : decode cX9_greatestOf 8 = .ok (.iload_n 1, 1) := by decide +kernel
theorem dX9_greatestOf_9 : decode cX9_greatestOf 9 = .ok (.invokestatic 241, 3) := by decide +kernel
theorem dX9_greatestOf_12 : decode cX9_greatestOf 12 = .ok (.iand, 1) := by decide +kernel
theorem dX9_greatestOf_13 : decode cX9_greatestOf 13 = .ok (.ifCond .eq 5, 3) := by decide +kernel
theorem dX9_greatestOf_16 : decode cX9_greatestOf 16 = .ok (.iload_n 1, 1) := by decide +kernel
theorem dX9_greatestOf_17 : decode cX9_greatestOf 17 = .ok (.ireturn, 1) := by decide +kernel
theorem dX9_greatestOf_18 : decode cX9_greatestOf 18 = .ok (.iinc 1 (-1), 3) := by decide +kernel
theorem dX9_greatestOf_21 : decode cX9_greatestOf 21 = .ok (.goto (-18), 3) := by decide +kernel
theorem dX9_greatestOf_24 : decode cX9_greatestOf 24 = .ok (.bipush (-9), 2) := by decide +kernel
theorem dX9_greatestOf_26 : decode cX9_greatestOf 26 = .ok (.ireturn, 1) := by decide +kernel
theorem dX9_lowestOf_0 : decode cX9_lowestOf 0 = .ok (.iload_n 0, 1) := by decide +kernel
theorem dX9_lowestOf_1 : decode cX9_lowestOf 1 = .ok (.istore_n 2, 1) := by decide +kernel
theorem dX9_lowestOf_2 : decode cX9_lowestOf 2 = .ok (.iconst 0, 1) := by decide +kernel
theorem dX9_lowestOf_3 : decode cX9_lowestOf 3 = .ok (.istore_n 3, 1) := by decide +kernel
theorem dX9_lowestOf_4 : decode cX9_lowestOf 4 = .ok (.iload_n 3, 1) := by decide +kernel
theorem dX9_lowestOf_5 : decode cX9_lowestOf 5 = .ok (.iload_n 1, 1) := by decide +kernel
theorem dX9_lowestOf_6 : decode cX9_lowestOf 6 = .ok (.if_icmp .ge 19, 3) := by decide +kernel
theorem dX9_lowestOf_9 : decode cX9_lowestOf 9 = .ok (.iload_n 2, 1) := by decide +kernel
theorem dX9_lowestOf_10 : decode cX9_lowestOf 10 = .ok (.ifCond .eq 15, 3) := by decide +kernel
theorem dX9_lowestOf_13 : decode cX9_lowestOf 13 = .ok (.iload_n 2, 1) := by decide +kernel
theorem dX9_lowestOf_14 : decode cX9_lowestOf 14 = .ok (.iload_n 2, 1) := by decide +kernel
theorem dX9_lowestOf_15 : decode cX9_lowestOf 15 = .ok (.iconst 1, 1) := by decide +kernel
theorem dX9_lowestOf_16 : decode cX9_lowestOf 16 = .ok (.isub, 1) := by decide +kernel
theorem dX9_lowestOf_17 : decode cX9_lowestOf 17 = .ok (.iand, 1) := by decide +kernel
theorem dX9_lowestOf_18 : decode cX9_lowestOf 18 = .ok (.istore_n 2, 1) := by decide +kernel
theorem dX9_lowestOf_19 : decode cX9_lowestOf 19 = .ok (.iinc 3 1, 3) := by decide +kernel
theorem dX9_lowestOf_22 : decode cX9_lowestOf 22 = .ok (.goto (-18), 3) := by decide +kernel
theorem dX9_lowestOf_25 : decode cX9_lowestOf 25 = .ok (.iload_n 0, 1) := by decide +kernel
theorem dX9_lowestOf_26 : decode cX9_lowestOf 26 = .ok (.iload_n 2, 1) := by decide +kernel
theorem dX9_lowestOf_27 : decode cX9_lowestOf 27 = .ok (.iconst (-1), 1) := by decide +kernel
theorem dX9_lowestOf_28 : decode cX9_lowestOf 28 = .ok (.ixor, 1) := by decide +kernel
theorem dX9_lowestOf_29 : decode cX9_lowestOf 29 = .ok (.iand, 1) := by decide +kernel
theorem dX9_lowestOf_30 : decode cX9_lowestOf 30 = .ok (.ireturn, 1) := by decide +kernel
theorem dX9_valueIn_0 : decode cX9_valueIn 0 = .ok (.iload_n 1, 1) := by decide +kernel
theorem dX9_valueIn_1 : decode cX9_valueIn 1 = .ok (.iload_n 2, 1) := by decide +kernel
theorem dX9_valueIn_2 : decode cX9_valueIn 2 = .ok (.invokestatic 241, 3) := by decide +kernel
theorem dX9_valueIn_5 : decode cX9_valueIn 5 = .ok (.iand, 1) := by decide +kernel
theorem dX9_valueIn_6 : decode cX9_valueIn 6 = .ok (.ifCond .eq 5, 3) := by decide +kernel
theorem dX9_valueIn_9 : decode cX9_valueIn 9 = .ok (.iconst 2, 1) := by decide +kernel
theorem dX9_valueIn_10 : decode cX9_valueIn 10 = .ok (.ireturn, 1) := by decide +kernel
theorem dX9_valueIn_11 : decode cX9_valueIn 11 = .ok (.iload_n 0, 1) := by decide +kernel
theorem dX9_valueIn_12 : decode cX9_valueIn 12 = .ok (.iload_n 2, 1) := by decide +kernel
theorem dX9_valueIn_13 : decode cX9_valueIn 13 = .ok (.invokestatic 241, 3) := by decide +kernel
theorem dX9_valueIn_16 : decode cX9_valueIn 16 = .ok (.iand, 1) := by decide +kernel
theorem dX9_valueIn_17 : decode cX9_valueIn 17 = .ok (.ifCond .eq 7, 3) := by decide +kernel
theorem dX9_valueIn_20 : decode cX9_valueIn 20 = .ok (.iconst 1, 1) := by decide +kernel
theorem dX9_valueIn_21 : decode cX9_valueIn 21 = .ok (.goto 4, 3) := by decide +kernel
theorem dX9_valueIn_24 : decode cX9_valueIn 24 = .ok (.iconst 0, 1) := by decide +kernel
theorem dX9_valueIn_25 : decode cX9_valueIn 25 = .ok (.ireturn, 1) := by decide +kernel
theorem dX9_chipIn_0 : decode cX9_chipIn 0 = .ok (.iload_n 0, 1) := by decide +kernel
theorem dX9_chipIn_1 : decode cX9_chipIn 1 = .ok (.iconst 2, 1) := by decide +kernel
theorem dX9_chipIn_2 : decode cX9_chipIn 2 = .ok (.iload_n 1, 1) := by decide +kernel
theorem dX9_chipIn_3 : decode cX9_chipIn 3 = .ok (.imul, 1) := by decide +kernel
theorem dX9_chipIn_4 : decode cX9_chipIn 4 = .ok (.iushr, 1) := by decide +kernel
theorem dX9_chipIn_5 : decode cX9_chipIn 5 = .ok (.iconst 3, 1) := by decide +kernel
theorem dX9_chipIn_6 : decode cX9_chipIn 6 = .ok (.iand, 1) := by decide +kernel
theorem dX9_chipIn_7 : decode cX9_chipIn 7 = .ok (.ireturn, 1) := by decide +kernel
theorem dX9_placed_0 : decode cX9_placed 0 = .ok (.iload_n 0, 1) := by decide +kernel
theorem dX9_placed_1 : decode cX9_placed 1 = .ok (.iconst 3, 1) := by decide +kernel
theorem dX9_placed_2 : decode cX9_placed 2 = .ok (.iconst 2, 1) := by decide +kernel
theorem dX9_placed_3 : decode cX9_placed 3 = .ok (.iload_n 1, 1) := by decide +kernel
theorem dX9_placed_4 : decode cX9_placed 4 = .ok (.imul, 1) := by decide +kernel
theorem dX9_placed_5 : decode cX9_placed 5 = .ok (.ishl, 1) := by decide +kernel
theorem dX9_placed_6 : decode cX9_placed 6 = .ok (.iconst (-1), 1) := by decide +kernel
theorem dX9_placed_7 : decode cX9_placed 7 = .ok (.ixor, 1) := by decide +kernel
theorem dX9_placed_8 : decode cX9_placed 8 = .ok (.iand, 1) := by decide +kernel
theorem dX9_placed_9 : decode cX9_placed 9 = .ok (.iload_n 2, 1) := by decide +kernel
theorem dX9_placed_10 : decode cX9_placed 10 = .ok (.iconst 3, 1) := by decide +kernel
theorem dX9_placed_11 : decode cX9_placed 11 = .ok (.iand, 1) := by decide +kernel
theorem dX9_placed_12 : decode cX9_placed 12 = .ok (.iconst 2, 1) := by decide +kernel
theorem dX9_placed_13 : decode cX9_placed 13 = .ok (.iload_n 1, 1) := by decide +kernel
theorem dX9_placed_14 : decode cX9_placed 14 = .ok (.imul, 1) := by decide +kernel
theorem dX9_placed_15 : decode cX9_placed 15 = .ok (.ishl, 1) := by decide +kernel
theorem dX9_placed_16 : decode cX9_placed 16 = .ok (.ior, 1) := by decide +kernel
theorem dX9_placed_17 : decode cX9_placed 17 = .ok (.ireturn, 1) := by decide +kernel
theorem dX9_cell_0 : decode cX9_cell 0 = .ok (.iload_n 1, 1) := by decide +kernel
theorem dX9_cell_1 : decode cX9_cell 1 = .ok (.ifCond .lt 15, 3) := by decide +kernel
theorem dX9_cell_4 : decode cX9_cell 4 = .ok (.iload_n 1, 1) := by decide +kernel
theorem dX9_cell_5 : decode cX9_cell 5 = .ok (.aload_n 0, 1) := by decide +kernel
theorem dX9_cell_6 : decode cX9_cell 6 = .ok (.arraylength, 1) := by decide +kernel
theorem dX9_cell_7 : decode cX9_cell 7 = .ok (.if_icmp .ge 9, 3) := by decide +kernel
theorem dX9_cell_10 : decode cX9_cell 10 = .ok (.aload_n 0, 1) := by decide +kernel
theorem dX9_cell_11 : decode cX9_cell 11 = .ok (.iload_n 1, 1) := by decide +kernel
theorem dX9_cell_12 : decode cX9_cell 12 = .ok (.iaload, 1) := by decide +kernel
theorem dX9_cell_13 : decode cX9_cell 13 = .ok (.goto 4, 3) := by decide +kernel
theorem dX9_cell_16 : decode cX9_cell 16 = .ok (.iconst 0, 1) := by decide +kernel
theorem dX9_cell_17 : decode cX9_cell 17 = .ok (.ireturn, 1) := by decide +kernel
theorem dX9_setCell_0 : decode cX9_setCell 0 = .ok (.iload_n 1, 1) := by decide +kernel
theorem dX9_setCell_1 : decode cX9_setCell 1 = .ok (.ifCond .lt 13, 3) := by decide +kernel
theorem dX9_setCell_4 : decode cX9_setCell 4 = .ok (.iload_n 1, 1) := by decide +kernel
theorem dX9_setCell_5 : decode cX9_setCell 5 = .ok (.aload_n 0, 1) := by decide +kernel
theorem dX9_setCell_6 : decode cX9_setCell 6 = .ok (.arraylength, 1) := by decide +kernel
theorem dX9_setCell_7 : decode cX9_setCell 7 = .ok (.if_icmp .ge 7, 3) := by decide +kernel
theorem dX9_setCell_10 : decode cX9_setCell 10 = .ok (.aload_n 0, 1) := by decide +kernel
theorem dX9_setCell_11 : decode cX9_setCell 11 = .ok (.iload_n 1, 1) := by decide +kernel
theorem dX9_setCell_12 : decode cX9_setCell 12 = .ok (.iload_n 2, 1) := by decide +kernel
theorem dX9_setCell_13 : decode cX9_setCell 13 = .ok (.iastore, 1) := by decide +kernel
theorem dX9_setCell_14 : decode cX9_setCell 14 = .ok (.return_, 1) := by decide +kernel
theorem dX10_init_0 : decode cX10_init 0 = .ok (.aload_n 0, 1) := by decide +kernel
theorem dX10_init_1 : decode cX10_init 1 = .ok (.invokespecial 1, 3) := by decide +kernel
theorem dX10_init_4 : decode cX10_init 4 = .ok (.aload_n 0, 1) := by decide +kernel
theorem dX10_init_5 : decode cX10_init 5 = .ok (.bipush 90, 2) := by decide +kernel
theorem dX10_init_7 : decode cX10_init 7 = .ok (.newarray .int, 2) := by decide +kernel
theorem dX10_init_9 : decode cX10_init 9 = .ok (.putfield 7, 3) := by decide +kernel
theorem dX10_init_12 : decode cX10_init 12 = .ok (.aload_n 0, 1) := by decide +kernel
theorem dX10_init_13 : decode cX10_init 13 = .ok (.iconst 1, 1) := by decide +kernel
theorem dX10_init_14 : decode cX10_init 14 = .ok (.putfield 13, 3) := by decide +kernel
theorem dX10_init_17 : decode cX10_init 17 = .ok (.aload_n 0, 1) := by decide +kernel
theorem dX10_init_18 : decode cX10_init 18 = .ok (.bipush 10, 2) := by decide +kernel
theorem dX10_init_20 : decode cX10_init 20 = .ok (.newarray .int, 2) := by decide +kernel
theorem dX10_init_22 : decode cX10_init 22 = .ok (.putfield 17, 3) := by decide +kernel
theorem dX10_init_25 : decode cX10_init 25 = .ok (.aload_n 0, 1) := by decide +kernel
theorem dX10_init_26 : decode cX10_init 26 = .ok (.bipush 10, 2) := by decide +kernel
theorem dX10_init_28 : decode cX10_init 28 = .ok (.newarray .int, 2) := by decide +kernel
theorem dX10_init_30 : decode cX10_init 30 = .ok (.putfield 20, 3) := by decide +kernel
theorem dX10_init_33 : decode cX10_init 33 = .ok (.aload_n 0, 1) := by decide +kernel
theorem dX10_init_34 : decode cX10_init 34 = .ok (.bipush 10, 2) := by decide +kernel
theorem dX10_init_36 : decode cX10_init 36 = .ok (.newarray .int, 2) := by decide +kernel
theorem dX10_init_38 : decode cX10_init 38 = .ok (.putfield 23, 3) := by decide +kernel
theorem dX10_init_41 : decode cX10_init 41 = .ok (.aload_n 0, 1) := by decide +kernel
theorem dX10_init_42 : decode cX10_init 42 = .ok (.bipush 10, 2) := by decide +kernel
theorem dX10_init_44 : decode cX10_init 44 = .ok (.newarray .int, 2) := by decide +kernel
theorem dX10_init_46 : decode cX10_init 46 = .ok (.putfield 26, 3) := by decide +kernel
theorem dX10_init_49 : decode cX10_init 49 = .ok (.aload_n 0, 1) := by decide +kernel
theorem dX10_init_50 : decode cX10_init 50 = .ok (.bipush 10, 2) := by decide +kernel
theorem dX10_init_52 : decode cX10_init 52 = .ok (.newarray .int, 2) := by decide +kernel
theorem dX10_init_54 : decode cX10_init 54 = .ok (.putfield 29, 3) := by decide +kernel
theorem dX10_init_57 : decode cX10_init 57 = .ok (.aload_n 0, 1) := by decide +kernel
theorem dX10_init_58 : decode cX10_init 58 = .ok (.bipush 10, 2) := by decide +kernel
theorem dX10_init_60 : decode cX10_init 60 = .ok (.newarray .int, 2) := by decide +kernel
theorem dX10_init_62 : decode cX10_init 62 = .ok (.putfield 32, 3) := by decide +kernel
theorem dX10_init_65 : decode cX10_init 65 = .ok (.aload_n 0, 1) := by decide +kernel
theorem dX10_init_66 : decode cX10_init 66 = .ok (.bipush 10, 2) := by decide +kernel
theorem dX10_init_68 : decode cX10_init 68 = .ok (.newarray .int, 2) := by decide +kernel
theorem dX10_init_70 : decode cX10_init 70 = .ok (.putfield 35, 3) := by decide +kernel
theorem dX10_init_73 : decode cX10_init 73 = .ok (.aload_n 0, 1) := by decide +kernel
theorem dX10_init_74 : decode cX10_init 74 = .ok (.bipush 10, 2) := by decide +kernel
theorem dX10_init_76 : decode cX10_init 76 = .ok (.newarray .int, 2) := by decide +kernel
theorem dX10_init_78 : decode cX10_init 78 = .ok (.putfield 38, 3) := by decide +kernel
theorem dX10_init_81 : decode cX10_init 81 = .ok (.aload_n 0, 1) := by decide +kernel
theorem dX10_init_82 : decode cX10_init 82 = .ok (.bipush 10, 2) := by decide +kernel
theorem dX10_init_84 : decode cX10_init 84 = .ok (.newarray .int, 2) := by decide +kernel
theorem dX10_init_86 : decode cX10_init 86 = .ok (.putfield 41, 3) := by decide +kernel
theorem dX10_init_89 : decode cX10_init 89 = .ok (.aload_n 0, 1) := by decide +kernel
theorem dX10_init_90 : decode cX10_init 90 = .ok (.bipush 22, 2) := by decide +kernel
theorem dX10_init_92 : decode cX10_init 92 = .ok (.newarray .int, 2) := by decide +kernel
theorem dX10_init_94 : decode cX10_init 94 = .ok (.putfield 44, 3) := by decide +kernel
theorem dX10_init_97 : decode cX10_init 97 = .ok (.aload_n 0, 1) := by decide +kernel
theorem dX10_init_98 : decode cX10_init 98 = .ok (.bipush 22, 2) := by decide +kernel
theorem dX10_init_100 : decode cX10_init 100 = .ok (.newarray .int, 2) := by decide +kernel
theorem dX10_init_102 : decode cX10_init 102 = .ok (.putfield 47, 3) := by decide +kernel
theorem dX10_init_105 : decode cX10_init 105 = .ok (.aload_n 0, 1) := by decide +kernel
theorem dX10_init_106 : decode cX10_init 106 = .ok (.sipush 308, 3) := by decide +kernel
theorem dX10_init_109 : decode cX10_init 109 = .ok (.newarray .int, 2) := by decide +kernel
theorem dX10_init_111 : decode cX10_init 111 = .ok (.putfield 50, 3) := by decide +kernel
theorem dX10_init_114 : decode cX10_init 114 = .ok (.aload_n 0, 1) := by decide +kernel
theorem dX10_init_115 : decode cX10_init 115 = .ok (.bipush 44, 2) := by decide +kernel
theorem dX10_init_117 : decode cX10_init 117 = .ok (.newarray .int, 2) := by decide +kernel
theorem dX10_init_119 : decode cX10_init 119 = .ok (.putfield 53, 3) := by decide +kernel
theorem dX10_init_122 : decode cX10_init 122 = .ok (.aload_n 0, 1) := by decide +kernel
theorem dX10_init_123 : decode cX10_init 123 = .ok (.iconst 2, 1) := by decide +kernel
theorem dX10_init_124 : decode cX10_init 124 = .ok (.newarray .boolean, 2) := by decide +kernel
theorem dX10_init_126 : decode cX10_init 126 = .ok (.putfield 56, 3) := by decide +kernel
theorem dX10_init_129 : decode cX10_init 129 = .ok (.aload_n 0, 1) := by decide +kernel
theorem dX10_init_130 : decode cX10_init 130 = .ok (.bipush 6, 2) := by decide +kernel
theorem dX10_init_132 : decode cX10_init 132 = .ok (.newarray .int, 2) := by decide +kernel
theorem dX10_init_134 : decode cX10_init 134 = .ok (.putfield 60, 3) := by decide +kernel
theorem dX10_init_137 : decode cX10_init 137 = .ok (.aload_n 0, 1) := by decide +kernel
theorem dX10_init_138 : decode cX10_init 138 = .ok (.bipush 6, 2) := by decide +kernel
theorem dX10_init_140 : decode cX10_init 140 = .ok (.newarray .int, 2) := by decide +kernel
theorem dX10_init_142 : decode cX10_init 142 = .ok (.putfield 63, 3) := by decide +kernel
theorem dX10_init_145 : decode cX10_init 145 = .ok (.aload_n 0, 1) := by decide +kernel
theorem dX10_init_146 : decode cX10_init 146 = .ok (.bipush 6, 2) := by decide +kernel
theorem dX10_init_148 : decode cX10_init 148 = .ok (.newarray .int, 2) := by decide +kernel
theorem dX10_init_150 : decode cX10_init 150 = .ok (.putfield 66, 3) := by decide +kernel
theorem dX10_init_153 : decode cX10_init 153 = .ok (.aload_n 0, 1) := by decide +kernel
theorem dX10_init_154 : decode cX10_init 154 = .ok (.bipush 6, 2) := by decide +kernel
theorem dX10_init_156 : decode cX10_init 156 = .ok (.newarray .int, 2) := by decide +kernel
theorem dX10_init_158 : decode cX10_init 158 = .ok (.putfield 69, 3) := by decide +kernel
theorem dX10_init_161 : decode cX10_init 161 = .ok (.aload_n 0, 1) := by decide +kernel
theorem dX10_init_162 : decode cX10_init 162 = .ok (.bipush 10, 2) := by decide +kernel
theorem dX10_init_164 : decode cX10_init 164 = .ok (.newarray .int, 2) := by decide +kernel
theorem dX10_init_166 : decode cX10_init 166 = .ok (.putfield 72, 3) := by decide +kernel
theorem dX10_init_169 : decode cX10_init 169 = .ok (.aload_n 0, 1) := by decide +kernel
theorem dX10_init_170 : decode cX10_init 170 = .ok (.bipush 40, 2) := by decide +kernel
theorem dX10_init_172 : decode cX10_init 172 = .ok (.newarray .int, 2) := by decide +kernel
theorem dX10_init_174 : decode cX10_init 174 = .ok (.putfield 75, 3) := by decide +kernel
theorem dX10_init_177 : decode cX10_init 177 = .ok (.aload_n 0, 1) := by decide +kernel
theorem dX10_init_178 : decode cX10_init 178 = .ok (.bipush 40, 2) := by decide +kernel
theorem dX10_init_180 : decode cX10_init 180 = .ok (.newarray .boolean, 2) := by decide +kernel
theorem dX10_init_182 : decode cX10_init 182 = .ok (.putfield 78, 3) := by decide +kernel
theorem dX10_init_185 : decode cX10_init 185 = .ok (.aload_n 0, 1) := by decide +kernel
theorem dX10_init_186 : decode cX10_init 186 = .ok (.bipush 121, 2) := by decide +kernel
theorem dX10_init_188 : decode cX10_init 188 = .ok (.newarray .int, 2) := by decide +kernel
theorem dX10_init_190 : decode cX10_init 190 = .ok (.putfield 81, 3) := by decide +kernel
theorem dX10_init_193 : decode cX10_init 193 = .ok (.aload_n 0, 1) := by decide +kernel
theorem dX10_init_194 : decode cX10_init 194 = .ok (.getfield 44, 3) := by decide +kernel
theorem dX10_init_197 : decode cX10_init 197 = .ok (.bipush 20, 2) := by decide +kernel
theorem dX10_init_199 : decode cX10_init 199 = .ok (.iconst 1, 1) := by decide +kernel
theorem dX10_init_200 : decode cX10_init 200 = .ok (.iastore, 1) := by decide +kernel
theorem dX10_init_201 : decode cX10_init 201 = .ok (.return_, 1) := by decide +kernel
theorem dX10_in_0 : decode cX10_in 0 = .ok (.lload_n 0, 1) := by decide +kernel
theorem dX10_in_1 : decode cX10_in 1 = .ok (.lload_n 2, 1) := by decide +kernel
theorem dX10_in_2 : decode cX10_in 2 = .ok (.lcmp, 1) := by decide +kernel
theorem dX10_in_3 : decode cX10_in 3 = .ok (.ifCond .lt 14, 3) := by decide +kernel
theorem dX10_in_6 : decode cX10_in 6 = .ok (.lload_n 0, 1) := by decide +kernel
theorem dX10_in_7 : decode cX10_in 7 = .ok (.lload 4, 2) := by decide +kernel
theorem dX10_in_9 : decode cX10_in 9 = .ok (.lcmp, 1) := by decide +kernel
theorem dX10_in_10 : decode cX10_in 10 = .ok (.ifCond .gt 7, 3) := by decide +kernel
theorem dX10_in_13 : decode cX10_in 13 = .ok (.iconst 1, 1) := by decide +kernel
theorem dX10_in_14 : decode cX10_in 14 = .ok (.goto 4, 3) := by decide +kernel
theorem dX10_in_17 : decode cX10_in 17 = .ok (.iconst 0, 1) := by decide +kernel
theorem dX10_in_18 : decode cX10_in 18 = .ok (.ireturn, 1) := by decide +kernel
theorem dX10_has_0 : decode cX10_has 0 = .ok (.iload_n 0, 1) := by decide +kernel
theorem dX10_has_1 : decode cX10_has 1 = .ok (.iload_n 1, 1) := by decide +kernel
theorem dX10_has_2 : decode cX10_has 2 = .ok (.ishr, 1) := by decide +kernel
theorem dX10_has_3 : decode cX10_has 3 = .ok (.iconst 1, 1) := by decide +kernel
theorem dX10_has_4 : decode cX10_has 4 = .ok (.iand, 1) := by decide +kernel
theorem dX10_has_5 : decode cX10_has 5 = .ok (.iconst 1, 1) := by decide +kernel
theorem dX10_has_6 : decode cX10_has 6 = .ok (.if_icmp .ne 7, 3) := by decide +kernel
theorem dX10_has_9 : decode cX10_has 9 = .ok (.iconst 1, 1) := by decide +kernel
theorem dX10_has_10 : decode cX10_has 10 = .ok (.goto 4, 3) := by decide +kernel
theorem dX10_has_13 : decode cX10_has 13 = .ok (.iconst 0, 1) := by decide +kernel
theorem dX10_has_14 : decode cX10_has 14 = .ok (.ireturn, 1) := by decide +kernel
theorem dX10_ones_0 : decode cX10_ones 0 = .ok (.iconst 0, 1) := by decide +kernel
theorem dX10_ones_1 : decode cX10_ones 1 = .ok (.istore_n 1, 1) := by decide +kernel
theorem dX10_ones_2 : decode cX10_ones 2 = .ok (.iconst 0, 1) := by decide +kernel
theorem dX10_ones_3 : decode cX10_ones 3 = .ok (.istore_n 2, 1) := by decide +kernel
theorem dX10_ones_4 : decode cX10_ones 4 = .ok (.iload_n 2, 1) := by decide +kernel
theorem dX10_ones_5 : decode cX10_ones 5 = .ok (.bipush 10, 2) := by decide +kernel
theorem dX10_ones_7 : decode cX10_ones 7 = .ok (.if_icmp .ge 17, 3) := by decide +kernel
theorem dX10_ones_10 : decode cX10_ones 10 = .ok (.iload_n 1, 1) := by decide +kernel
theorem dX10_ones_11 : decode cX10_ones 11 = .ok (.iload_n 0, 1) := by decide +kernel
theorem dX10_ones_12 : decode cX10_ones 12 = .ok (.iload_n 2, 1) := by decide +kernel
theorem dX10_ones_13 : decode cX10_ones 13 = .ok (.ishr, 1) := by decide +kernel
theorem dX10_ones_14 : decode cX10_ones 14 = .ok (.iconst 1, 1) := by decide +kernel
theorem dX10_ones_15 : decode cX10_ones 15 = .ok (.iand, 1) := by decide +kernel
theorem dX10_ones_16 : decode cX10_ones 16 = .ok (.iadd, 1) := by decide +kernel
theorem dX10_ones_17 : decode cX10_ones 17 = .ok (.istore_n 1, 1) := by decide +kernel
theorem dX10_ones_18 : decode cX10_ones 18 = .ok (.iinc 2 1, 3) := by decide +kernel
theorem dX10_ones_21 : decode cX10_ones 21 = .ok (.goto (-17), 3) := by decide +kernel
theorem dX10_ones_24 : decode cX10_ones 24 = .ok (.iload_n 1, 1) := by decide +kernel
theorem dX10_ones_25 : decode cX10_ones 25 = .ok (.ireturn, 1) := by decide +kernel
theorem dX10_power_0 : decode cX10_power 0 = .ok (.iconst 1, 1) := by decide +kernel
theorem dX10_power_1 : decode cX10_power 1 = .ok (.istore_n 2, 1) := by decide +kernel
theorem dX10_power_2 : decode cX10_power 2 = .ok (.iconst 0, 1) := by decide +kernel
theorem dX10_power_3 : decode cX10_power 3 = .ok (.istore_n 3, 1) := by decide +kernel
theorem dX10_power_4 : decode cX10_power 4 = .ok (.iload_n 3, 1) := by decide +kernel
theorem dX10_power_5 : decode cX10_power 5 = .ok (.iload_n 1, 1) := by decide +kernel
theorem dX10_power_6 : decode cX10_power 6 = .ok (.if_icmp .ge 13, 3) := by decide +kernel
theorem dX10_power_9 : decode cX10_power 9 = .ok (.iload_n 2, 1) := by decide +kernel
theorem dX10_power_10 : decode cX10_power 10 = .ok (.iload_n 0, 1) := by decide +kernel
theorem dX10_power_11 : decode cX10_power 11 = .ok (.imul, 1) := by decide +kernel
theorem dX10_power_12 : decode cX10_power 12 = .ok (.istore_n 2, 1) := by decide +kernel
theorem dX10_power_13 : decode cX10_power 13 = .ok (.iinc 3 1, 3) := by decide +kernel
theorem dX10_power_16 : decode cX10_power 16 = .ok (.goto (-12), 3) := by decide +kernel
theorem dX10_power_19 : decode cX10_power 19 = .ok (.iload_n 2, 1) := by decide +kernel
theorem dX10_power_20 : decode cX10_power 20 = .ok (.ireturn, 1) := by decide +kernel
theorem dX10_layTrial_0 : decode cX10_layTrial 0 = .ok (.iconst 0, 1) := by decide +kernel
theorem dX10_layTrial_1 : decode cX10_layTrial 1 = .ok (.istore_n 1, 1) := by decide +kernel
theorem dX10_layTrial_2 : decode cX10_layTrial 2 = .ok (.iload_n 1, 1) := by decide +kernel
theorem dX10_layTrial_3 : decode cX10_layTrial 3 = .ok (.bipush 22, 2) := by decide +kernel
theorem dX10_layTrial_5 : decode cX10_layTrial 5 = .ok (.if_icmp .ge 21, 3) := by decide +kernel
theorem dX10_layTrial_8 : decode cX10_layTrial 8 = .ok (.aload_n 0, 1) := by decide +kernel
theorem dX10_layTrial_9 : decode cX10_layTrial 9 = .ok (.getfield 47, 3) := by decide +kernel
theorem dX10_layTrial_12 : decode cX10_layTrial 12 = .ok (.iload_n 1, 1) := by decide +kernel
theorem dX10_layTrial_13 : decode cX10_layTrial 13 = .ok (.aload_n 0, 1) := by decide +kernel
theorem dX10_layTrial_14 : decode cX10_layTrial 14 = .ok (.getfield 44, 3) := by decide +kernel
theorem dX10_layTrial_17 : decode cX10_layTrial 17 = .ok (.iload_n 1, 1) := by decide +kernel
theorem dX10_layTrial_18 : decode cX10_layTrial 18 = .ok (.iaload, 1) := by decide +kernel
theorem dX10_layTrial_19 : decode cX10_layTrial 19 = .ok (.iastore, 1) := by decide +kernel
theorem dX10_layTrial_20 : decode cX10_layTrial 20 = .ok (.iinc 1 1, 3) := by decide +kernel
theorem dX10_layTrial_23 : decode cX10_layTrial 23 = .ok (.goto (-21), 3) := by decide +kernel
theorem dX10_layTrial_26 : decode cX10_layTrial 26 = .ok (.return_, 1) := by decide +kernel
theorem dX10_noGate_0 : decode cX10_noGate 0 = .ok (.iload_n 1, 1) := by decide +kernel
theorem dX10_noGate_1 : decode cX10_noGate 1 = .ok (.i2l, 1) := by decide +kernel
theorem dX10_noGate_2 : decode cX10_noGate 2 = .ok (.lconst 0, 1) := by decide +kernel
theorem dX10_noGate_3 : decode cX10_noGate 3 = .ok (.aload_n 0, 1) := by decide +kernel
theorem dX10_noGate_4 : decode cX10_noGate 4 = .ok (.getfield 87, 3) := by decide +kernel
theorem dX10_noGate_7 : decode cX10_noGate 7 = .ok (.iconst 1, 1) := by decide +kernel
theorem dX10_noGate_8 : decode cX10_noGate 8 = .ok (.isub, 1) := by decide +kernel
theorem dX10_noGate_9 : decode cX10_noGate 9 = .ok (.i2l, 1) := by decide +kernel
theorem dX10_noGate_10 : decode cX10_noGate 10 = .ok (.invokestatic 90, 3) := by decide +kernel
theorem dX10_noGate_13 : decode cX10_noGate 13 = .ok (.ifCond .ne 7, 3) := by decide +kernel
theorem dX10_noGate_16 : decode cX10_noGate 16 = .ok (.iconst 1, 1) := by decide +kernel
theorem dX10_noGate_17 : decode cX10_noGate 17 = .ok (.goto 4, 3) := by decide +kernel
theorem dX10_noGate_20 : decode cX10_noGate 20 = .ok (.iconst 0, 1) := by decide +kernel
theorem dX10_noGate_21 : decode cX10_noGate 21 = .ok (.ireturn, 1) := by decide +kernel
theorem dX10_noChip_0 : decode cX10_noChip 0 = .ok (.iload_n 1, 1) := by decide +kernel
theorem dX10_noChip_1 : decode cX10_noChip 1 = .ok (.i2l, 1) := by decide +kernel
theorem dX10_noChip_2 : decode cX10_noChip 2 = .ok (.lconst 0, 1) := by decide +kernel
theorem dX10_noChip_3 : decode cX10_noChip 3 = .ok (.aload_n 0, 1) := by decide +kernel
theorem dX10_noChip_4 : decode cX10_noChip 4 = .ok (.getfield 13, 3) := by decide +kernel
theorem dX10_noChip_7 : decode cX10_noChip 7 = .ok (.iconst 1, 1) := by decide +kernel
theorem dX10_noChip_8 : decode cX10_noChip 8 = .ok (.isub, 1) := by decide +kernel
theorem dX10_noChip_9 : decode cX10_noChip 9 = .ok (.i2l, 1) := by decide +kernel
theorem dX10_noChip_10 : decode cX10_noChip 10 = .ok (.invokestatic 90, 3) := by decide +kernel
theorem dX10_noChip_13 : decode cX10_noChip 13 = .ok (.ifCond .ne 7, 3) := by decide +kernel
theorem dX10_noChip_16 : decode cX10_noChip 16 = .ok (.iconst 1, 1) := by decide +kernel
theorem dX10_noChip_17 : decode cX10_noChip 17 = .ok (.goto 4, 3) := by decide +kernel
theorem dX10_noChip_20 : decode cX10_noChip 20 = .ok (.iconst 0, 1) := by decide +kernel
theorem dX10_noChip_21 : decode cX10_noChip 21 = .ok (.ireturn, 1) := by decide +kernel
theorem dX10_write_0 : decode cX10_write 0 = .ok (.aload_n 0, 1) := by decide +kernel
theorem dX10_write_1 : decode cX10_write 1 = .ok (.iconst 0, 1) := by decide +kernel
theorem dX10_write_2 : decode cX10_write 2 = .ok (.putfield 84, 3) := by decide +kernel
theorem dX10_write_5 : decode cX10_write 5 = .ok (.iload_n 1, 1) := by decide +kernel
theorem dX10_write_6 : decode cX10_write 6 = .ok (.i2l, 1) := by decide +kernel
theorem dX10_write_7 : decode cX10_write 7 = .ok (.lconst 0, 1) := by decide +kernel
theorem dX10_write_8 : decode cX10_write 8 = .ok (.ldc2_w 94, 3) := by decide +kernel
theorem dX10_write_11 : decode cX10_write 11 = .ok (.invokestatic 90, 3) := by decide +kernel
theorem dX10_write_14 : decode cX10_write 14 = .ok (.ifCond .ne 6, 3) := by decide +kernel
theorem dX10_write_17 : decode cX10_write 17 = .ok (.bipush (-2), 2) := by decide +kernel
theorem dX10_write_19 : decode cX10_write 19 = .ok (.ireturn, 1) := by decide +kernel
theorem dX10_write_20 : decode cX10_write 20 = .ok (.aload_n 0, 1) := by decide +kernel
theorem dX10_write_21 : decode cX10_write 21 = .ok (.getfield 96, 3) := by decide +kernel
theorem dX10_write_24 : decode cX10_write 24 = .ok (.bipush 90, 2) := by decide +kernel
theorem dX10_write_26 : decode cX10_write 26 = .ok (.if_icmp .ne 6, 3) := by decide +kernel
theorem dX10_write_29 : decode cX10_write 29 = .ok (.bipush (-4), 2) := by decide +kernel
theorem dX10_write_31 : decode cX10_write 31 = .ok (.ireturn, 1) := by decide +kernel
theorem dX10_write_32 : decode cX10_write 32 = .ok (.aload_n 0, 1) := by decide +kernel
theorem dX10_write_33 : decode cX10_write 33 = .ok (.getfield 7, 3) := by decide +kernel
theorem dX10_write_36 : decode cX10_write 36 = .ok (.aload_n 0, 1) := by decide +kernel
theorem dX10_write_37 : decode cX10_write 37 = .ok (.getfield 96, 3) := by decide +kernel
theorem dX10_write_40 : decode cX10_write 40 = .ok (.iload_n 1, 1) := by decide +kernel
theorem dX10_write_41 : decode cX10_write 41 = .ok (.iastore, 1) := by decide +kernel
theorem dX10_write_42 : decode cX10_write 42 = .ok (.aload_n 0, 1) := by decide +kernel
theorem dX10_write_43 : decode cX10_write 43 = .ok (.dup, 1) := by decide +kernel
theorem dX10_write_44 : decode cX10_write 44 = .ok (.getfield 96, 3) := by decide +kernel
theorem dX10_write_47 : decode cX10_write 47 = .ok (.iconst 1, 1) := by decide +kernel
theorem dX10_write_48 : decode cX10_write 48 = .ok (.iadd, 1) := by decide +kernel
theorem dX10_write_49 : decode cX10_write 49 = .ok (.putfield 96, 3) := by decide +kernel
theorem dX10_write_52 : decode cX10_write 52 = .ok (.aload_n 0, 1) := by decide +kernel
theorem dX10_write_53 : decode cX10_write 53 = .ok (.getfield 96, 3) := by decide +kernel
theorem dX10_write_56 : decode cX10_write 56 = .ok (.ireturn, 1) := by decide +kernel
theorem dX10_wipe_0 : decode cX10_wipe 0 = .ok (.aload_n 0, 1) := by decide +kernel
theorem dX10_wipe_1 : decode cX10_wipe 1 = .ok (.iconst 0, 1) := by decide +kernel
theorem dX10_wipe_2 : decode cX10_wipe 2 = .ok (.putfield 84, 3) := by decide +kernel
theorem dX10_wipe_5 : decode cX10_wipe 5 = .ok (.aload_n 0, 1) := by decide +kernel
theorem dX10_wipe_6 : decode cX10_wipe 6 = .ok (.getfield 96, 3) := by decide +kernel
theorem dX10_wipe_9 : decode cX10_wipe 9 = .ok (.istore_n 1, 1) := by decide +kernel
theorem dX10_wipe_10 : decode cX10_wipe 10 = .ok (.aload_n 0, 1) := by decide +kernel
theorem dX10_wipe_11 : decode cX10_wipe 11 = .ok (.iconst 0, 1) := by decide +kernel
theorem dX10_wipe_12 : decode cX10_wipe 12 = .ok (.putfield 96, 3) := by decide +kernel
theorem dX10_wipe_15 : decode cX10_wipe 15 = .ok (.iload_n 1, 1) := by decide +kernel
theorem dX10_wipe_16 : decode cX10_wipe 16 = .ok (.ireturn, 1) := by decide +kernel
theorem dX10_figure_0 : decode cX10_figure 0 = .ok (.aload_n 0, 1) := by decide +kernel
theorem dX10_figure_1 : decode cX10_figure 1 = .ok (.getfield 99, 3) := by decide +kernel
theorem dX10_figure_4 : decode cX10_figure 4 = .ok (.aload_n 0, 1) := by decide +kernel
theorem dX10_figure_5 : decode cX10_figure 5 = .ok (.getfield 96, 3) := by decide +kernel
theorem dX10_figure_8 : decode cX10_figure 8 = .ok (.if_icmp .ge 18, 3) := by decide +kernel
theorem dX10_figure_11 : decode cX10_figure 11 = .ok (.aload_n 0, 1) := by decide +kernel
theorem dX10_figure_12 : decode cX10_figure 12 = .ok (.getfield 7, 3) := by decide +kernel
theorem dX10_figure_15 : decode cX10_figure 15 = .ok (.aload_n 0, 1) := by decide +kernel
theorem dX10_figure_16 : decode cX10_figure 16 = .ok (.getfield 99, 3) := by decide +kernel
theorem dX10_figure_19 : decode cX10_figure 19 = .ok (.iaload, 1) := by decide +kernel
theorem dX10_figure_20 : decode cX10_figure 20 = .ok (.bipush 48, 2) := by decide +kernel
theorem dX10_figure_22 : decode cX10_figure 22 = .ok (.isub, 1) := by decide +kernel
theorem dX10_figure_23 : decode cX10_figure 23 = .ok (.goto 5, 3) := by decide +kernel
theorem dX10_figure_26 : decode cX10_figure 26 = .ok (.bipush (-9), 2) := by decide +kernel
theorem dX10_figure_28 : decode cX10_figure 28 = .ok (.istore_n 3, 1) := by decide +kernel
theorem dX10_figure_29 : decode cX10_figure 29 = .ok (.iload_n 3, 1) := by decide +kernel
theorem dX10_figure_30 : decode cX10_figure 30 = .ok (.i2l, 1) := by decide +kernel
theorem dX10_figure_31 : decode cX10_figure 31 = .ok (.iload_n 1, 1) := by decide +kernel
theorem dX10_figure_32 : decode cX10_figure 32 = .ok (.i2l, 1) := by decide +kernel
theorem dX10_figure_33 : decode cX10_figure 33 = .ok (.iload_n 2, 1) := by decide +kernel
theorem dX10_figure_34 : decode cX10_figure 34 = .ok (.i2l, 1) := by decide +kernel
theorem dX10_figure_35 : decode cX10_figure 35 = .ok (.invokestatic 90, 3) := by decide +kernel
theorem dX10_figure_38 : decode cX10_figure 38 = .ok (.ifCond .ne 6, 3) := by decide +kernel
theorem dX10_figure_41 : decode cX10_figure 41 = .ok (.bipush (-9), 2) := by decide +kernel
theorem dX10_figure_43 : decode cX10_figure 43 = .ok (.ireturn, 1) := by decide +kernel
theorem dX10_figure_44 : decode cX10_figure 44 = .ok (.aload_n 0, 1) := by decide +kernel
theorem dX10_figure_45 : decode cX10_figure 45 = .ok (.dup, 1) := by decide +kernel
theorem dX10_figure_46 : decode cX10_figure 46 = .ok (.getfield 99, 3) := by decide +kernel
theorem dX10_figure_49 : decode cX10_figure 49 = .ok (.iconst 1, 1) := by decide +kernel
theorem dX10_figure_50 : decode cX10_figure 50 = .ok (.iadd, 1) := by decide +kernel
theorem dX10_figure_51 : decode cX10_figure 51 = .ok (.putfield 99, 3) := by decide +kernel
theorem dX10_figure_54 : decode cX10_figure 54 = .ok (.iload_n 3, 1) := by decide +kernel
theorem dX10_figure_55 : decode cX10_figure 55 = .ok (.ireturn, 1) := by decide +kernel
theorem dX10_readHead_0 : decode cX10_readHead 0 = .ok (.aload_n 0, 1) := by decide +kernel
theorem dX10_readHead_1 : decode cX10_readHead 1 = .ok (.getfield 96, 3) := by decide +kernel
theorem dX10_readHead_4 : decode cX10_readHead 4 = .ok (.ifCond .eq 14, 3) := by decide +kernel
theorem dX10_readHead_7 : decode cX10_readHead 7 = .ok (.aload_n 0, 1) := by decide +kernel
theorem dX10_readHead_8 : decode cX10_readHead 8 = .ok (.getfield 7, 3) := by decide +kernel
theorem dX10_readHead_11 : decode cX10_readHead 11 = .ok (.iconst 0, 1) := by decide +kernel
theorem dX10_readHead_12 : decode cX10_readHead 12 = .ok (.iaload, 1) := by decide +kernel
theorem dX10_readHead_13 : decode cX10_readHead 13 = .ok (.bipush 66, 2) := by decide +kernel
theorem dX10_readHead_15 : decode cX10_readHead 15 = .ok (.if_icmp .eq 5, 3) := by decide +kernel
theorem dX10_readHead_18 : decode cX10_readHead 18 = .ok (.iconst 0, 1) := by decide +kernel
theorem dX10_readHead_19 : decode cX10_readHead 19 = .ok (.ireturn, 1) := by decide +kernel
theorem dX10_readHead_20 : decode cX10_readHead 20 = .ok (.aload_n 0, 1) := by decide +kernel
theorem dX10_readHead_21 : decode cX10_readHead 21 = .ok (.iconst 1, 1) := by decide +kernel
theorem dX10_readHead_22 : decode cX10_readHead 22 = .ok (.putfield 99, 3) := by decide +kernel
theorem dX10_readHead_25 : decode cX10_readHead 25 = .ok (.aload_n 0, 1) := by decide +kernel
theorem dX10_readHead_26 : decode cX10_readHead 26 = .ok (.aload_n 0, 1) := by decide +kernel
theorem dX10_readHead_27 : decode cX10_readHead 27 = .ok (.iconst 1, 1) := by decide +kernel
theorem dX10_readHead_28 : decode cX10_readHead 28 = .ok (.iconst 4, 1) := by decide +kernel
theorem dX10_readHead_29 : decode cX10_readHead 29 = .ok (.invokevirtual 102, 3) := by decide +kernel
theorem dX10_readHead_32 : decode cX10_readHead 32 = .ok (.putfield 106, 3) := by decide +kernel
theorem dX10_readHead_35 : decode cX10_readHead 35 = .ok (.aload_n 0, 1) := by decide +kernel
theorem dX10_readHead_36 : decode cX10_readHead 36 = .ok (.getfield 106, 3) := by decide +kernel
theorem dX10_readHead_39 : decode cX10_readHead 39 = .ok (.bipush (-9), 2) := by decide +kernel
theorem dX10_readHead_41 : decode cX10_readHead 41 = .ok (.if_icmp .ne 5, 3) := by decide +kernel
theorem dX10_readHead_44 : decode cX10_readHead 44 = .ok (.iconst 0, 1) := by decide +kernel
theorem dX10_readHead_45 : decode cX10_readHead 45 = .ok (.ireturn, 1) := by decide +kernel
theorem dX10_readHead_46 : decode cX10_readHead 46 = .ok (.aload_n 0, 1) := by decide +kernel
theorem dX10_readHead_47 : decode cX10_readHead 47 = .ok (.aload_n 0, 1) := by decide +kernel
theorem dX10_readHead_48 : decode cX10_readHead 48 = .ok (.iconst 1, 1) := by decide +kernel
theorem dX10_readHead_49 : decode cX10_readHead 49 = .ok (.bipush 9, 2) := by decide +kernel
theorem dX10_readHead_51 : decode cX10_readHead 51 = .ok (.invokevirtual 102, 3) := by decide +kernel
theorem dX10_readHead_54 : decode cX10_readHead 54 = .ok (.putfield 109, 3) := by decide +kernel
theorem dX10_readHead_57 : decode cX10_readHead 57 = .ok (.aload_n 0, 1) := by decide +kernel
theorem dX10_readHead_58 : decode cX10_readHead 58 = .ok (.getfield 109, 3) := by decide +kernel
theorem dX10_readHead_61 : decode cX10_readHead 61 = .ok (.bipush (-9), 2) := by decide +kernel
theorem dX10_readHead_63 : decode cX10_readHead 63 = .ok (.if_icmp .eq 7, 3) := by decide +kernel
theorem dX10_readHead_66 : decode cX10_readHead 66 = .ok (.iconst 1, 1) := by decide +kernel
theorem dX10_readHead_67 : decode cX10_readHead 67 = .ok (.goto 4, 3) := by decide +kernel
theorem dX10_readHead_70 : decode cX10_readHead 70 = .ok (.iconst 0, 1) := by decide +kernel
theorem dX10_readHead_71 : decode cX10_readHead 71 = .ok (.ireturn, 1) := by decide +kernel
theorem dX10_kindOf_0 : decode cX10_kindOf 0 = .ok (.iload_n 0, 1) := by decide +kernel
theorem dX10_kindOf_1 : decode cX10_kindOf 1 = .ok (.lookupswitch 71 #[(97, 63), (105, 59), (110, 61), (111, 65), (114, 69), (120, 67)], 59) := by decide +kernel
theorem dX10_kindOf_60 : decode cX10_kindOf 60 = .ok (.iconst 0, 1) := by decide +kernel
theorem dX10_kindOf_61 : decode cX10_kindOf 61 = .ok (.ireturn, 1) := by decide +kernel
theorem dX10_kindOf_62 : decode cX10_kindOf 62 = .ok (.iconst 1, 1) := by decide +kernel
theorem dX10_kindOf_63 : decode cX10_kindOf 63 = .ok (.ireturn, 1) := by decide +kernel
theorem dX10_kindOf_64 : decode cX10_kindOf 64 = .ok (.iconst 2, 1) := by decide +kernel
theorem dX10_kindOf_65 : decode cX10_kindOf 65 = .ok (.ireturn, 1) := by decide +kernel
theorem dX10_kindOf_66 : decode cX10_kindOf 66 = .ok (.iconst 3, 1) := by decide +kernel
theorem dX10_kindOf_67 : decode cX10_kindOf 67 = .ok (.ireturn, 1) := by decide +kernel
theorem dX10_kindOf_68 : decode cX10_kindOf 68 = .ok (.iconst 4, 1) := by decide +kernel
theorem dX10_kindOf_69 : decode cX10_kindOf 69 = .ok (.ireturn, 1) := by decide +kernel
theorem dX10_kindOf_70 : decode cX10_kindOf 70 = .ok (.iconst 5, 1) := by decide +kernel
theorem dX10_kindOf_71 : decode cX10_kindOf 71 = .ok (.ireturn, 1) := by decide +kernel
theorem dX10_kindOf_72 : decode cX10_kindOf 72 = .ok (.bipush (-9), 2) := by decide +kernel
theorem dX10_kindOf_74 : decode cX10_kindOf 74 = .ok (.ireturn, 1) := by decide +kernel
theorem dX10_readPart_0 : decode cX10_readPart 0 = .ok (.aload_n 0, 1) := by decide +kernel
theorem dX10_readPart_1 : decode cX10_readPart 1 = .ok (.getfield 7, 3) := by decide +kernel
theorem dX10_readPart_4 : decode cX10_readPart 4 = .ok (.aload_n 0, 1) := by decide +kernel
theorem dX10_readPart_5 : decode cX10_readPart 5 = .ok (.getfield 99, 3) := by decide +kernel
theorem dX10_readPart_8 : decode cX10_readPart 8 = .ok (.iaload, 1) := by decide +kernel
theorem dX10_readPart_9 : decode cX10_readPart 9 = .ok (.invokestatic 112, 3) := by decide +kernel
theorem dX10_readPart_12 : decode cX10_readPart 12 = .ok (.istore_n 1, 1) := by decide +kernel
theorem dX10_readPart_13 : decode cX10_readPart 13 = .ok (.iload_n 1, 1) := by decide +kernel
theorem dX10_readPart_14 : decode cX10_readPart 14 = .ok (.bipush (-9), 2) := by decide +kernel
theorem dX10_readPart_16 : decode cX10_readPart 16 = .ok (.if_icmp .eq 12, 3) := by decide +kernel
theorem dX10_readPart_19 : decode cX10_readPart 19 = .ok (.aload_n 0, 1) := by decide +kernel
theorem dX10_readPart_20 : decode cX10_readPart 20 = .ok (.getfield 116, 3) := by decide +kernel
theorem dX10_readPart_23 : decode cX10_readPart 23 = .ok (.bipush 10, 2) := by decide +kernel
theorem dX10_readPart_25 : decode cX10_readPart 25 = .ok (.if_icmp .ne 5, 3) := by decide +kernel
theorem dX10_readPart_28 : decode cX10_readPart 28 = .ok (.iconst 0, 1) := by decide +kernel
theorem dX10_readPart_29 : decode cX10_readPart 29 = .ok (.ireturn, 1) := by decide +kernel
theorem dX10_readPart_30 : decode cX10_readPart 30 = .ok (.aload_n 0, 1) := by decide +kernel
theorem dX10_readPart_31 : decode cX10_readPart 31 = .ok (.dup, 1) := by decide +kernel
theorem dX10_readPart_32 : decode cX10_readPart 32 = .ok (.getfield 99, 3) := by decide +kernel
theorem dX10_readPart_35 : decode cX10_readPart 35 = .ok (.iconst 1, 1) := by decide +kernel
theorem dX10_readPart_36 : decode cX10_readPart 36 = .ok (.iadd, 1) := by decide +kernel
theorem dX10_readPart_37 : decode cX10_readPart 37 = .ok (.putfield 99, 3) := by decide +kernel
theorem dX10_readPart_40 : decode cX10_readPart 40 = .ok (.aload_n 0, 1) := by decide +kernel
theorem dX10_readPart_41 : decode cX10_readPart 41 = .ok (.getfield 116, 3) := by decide +kernel
theorem dX10_readPart_44 : decode cX10_readPart 44 = .ok (.istore_n 2, 1) := by decide +kernel
theorem dX10_readPart_45 : decode cX10_readPart 45 = .ok (.aload_n 0, 1) := by decide +kernel
theorem dX10_readPart_46 : decode cX10_readPart 46 = .ok (.getfield 29, 3) := by decide +kernel
theorem dX10_readPart_49 : decode cX10_readPart 49 = .ok (.iload_n 2, 1) := by decide +kernel
theorem dX10_readPart_50 : decode cX10_readPart 50 = .ok (.iload_n 1, 1) := by decide +kernel
theorem dX10_readPart_51 : decode cX10_readPart 51 = .ok (.iastore, 1) := by decide +kernel
theorem dX10_readPart_52 : decode cX10_readPart 52 = .ok (.aload_n 0, 1) := by decide +kernel
theorem dX10_readPart_53 : decode cX10_readPart 53 = .ok (.getfield 35, 3) := by decide +kernel
theorem dX10_readPart_56 : decode cX10_readPart 56 = .ok (.iload_n 2, 1) := by decide +kernel
theorem dX10_readPart_57 : decode cX10_readPart 57 = .ok (.bipush (-9), 2) := by decide +kernel
theorem dX10_readPart_59 : decode cX10_readPart 59 = .ok (.iastore, 1) := by decide +kernel
theorem dX10_readPart_60 : decode cX10_readPart 60 = .ok (.aload_n 0, 1) := by decide +kernel
theorem dX10_readPart_61 : decode cX10_readPart 61 = .ok (.getfield 38, 3) := by decide +kernel
theorem dX10_readPart_64 : decode cX10_readPart 64 = .ok (.iload_n 2, 1) := by decide +kernel
theorem dX10_readPart_65 : decode cX10_readPart 65 = .ok (.bipush (-9), 2) := by decide +kernel
theorem dX10_readPart_67 : decode cX10_readPart 67 = .ok (.iastore, 1) := by decide +kernel
theorem dX10_readPart_68 : decode cX10_readPart 68 = .ok (.aload_n 0, 1) := by decide +kernel
theorem dX10_readPart_69 : decode cX10_readPart 69 = .ok (.getfield 41, 3) := by decide +kernel
theorem dX10_readPart_72 : decode cX10_readPart 72 = .ok (.iload_n 2, 1) := by decide +kernel
theorem dX10_readPart_73 : decode cX10_readPart 73 = .ok (.bipush (-9), 2) := by decide +kernel
theorem dX10_readPart_75 : decode cX10_readPart 75 = .ok (.iastore, 1) := by decide +kernel
theorem dX10_readPart_76 : decode cX10_readPart 76 = .ok (.aload_n 0, 1) := by decide +kernel
theorem dX10_readPart_77 : decode cX10_readPart 77 = .ok (.getfield 32, 3) := by decide +kernel
theorem dX10_readPart_80 : decode cX10_readPart 80 = .ok (.iload_n 2, 1) := by decide +kernel
theorem dX10_readPart_81 : decode cX10_readPart 81 = .ok (.aload_n 0, 1) := by decide +kernel
theorem dX10_readPart_82 : decode cX10_readPart 82 = .ok (.iconst 0, 1) := by decide +kernel
theorem dX10_readPart_83 : decode cX10_readPart 83 = .ok (.aload_n 0, 1) := by decide +kernel
theorem dX10_readPart_84 : decode cX10_readPart 84 = .ok (.getfield 106, 3) := by decide +kernel
theorem dX10_readPart_87 : decode cX10_readPart 87 = .ok (.iconst 1, 1) := by decide +kernel
theorem dX10_readPart_88 : decode cX10_readPart 88 = .ok (.isub, 1) := by decide +kernel
theorem dX10_readPart_89 : decode cX10_readPart 89 = .ok (.invokevirtual 102, 3) := by decide +kernel
theorem dX10_readPart_92 : decode cX10_readPart 92 = .ok (.iastore, 1) := by decide +kernel
theorem dX10_readPart_93 : decode cX10_readPart 93 = .ok (.aload_n 0, 1) := by decide +kernel
theorem dX10_readPart_94 : decode cX10_readPart 94 = .ok (.getfield 32, 3) := by decide +kernel
theorem dX10_readPart_97 : decode cX10_readPart 97 = .ok (.iload_n 2, 1) := by decide +kernel
theorem dX10_readPart_98 : decode cX10_readPart 98 = .ok (.iaload, 1) := by decide +kernel
theorem dX10_readPart_99 : decode cX10_readPart 99 = .ok (.bipush (-9), 2) := by decide +kernel
theorem dX10_readPart_101 : decode cX10_readPart 101 = .ok (.if_icmp .ne 5, 3) := by decide +kernel
theorem dX10_readPart_104 : decode cX10_readPart 104 = .ok (.iconst 0, 1) := by decide +kernel
theorem dX10_readPart_105 : decode cX10_readPart 105 = .ok (.ireturn, 1) := by decide +kernel
theorem dX10_readPart_106 : decode cX10_readPart 106 = .ok (.iload_n 1, 1) := by decide +kernel
theorem dX10_readPart_107 : decode cX10_readPart 107 = .ok (.ifCond .eq 29, 3) := by decide +kernel
theorem dX10_readPart_110 : decode cX10_readPart 110 = .ok (.aload_n 0, 1) := by decide +kernel
theorem dX10_readPart_111 : decode cX10_readPart 111 = .ok (.getfield 35, 3) := by decide +kernel
theorem dX10_readPart_114 : decode cX10_readPart 114 = .ok (.iload_n 2, 1) := by decide +kernel
theorem dX10_readPart_115 : decode cX10_readPart 115 = .ok (.aload_n 0, 1) := by decide +kernel
theorem dX10_readPart_116 : decode cX10_readPart 116 = .ok (.iconst 0, 1) := by decide +kernel
theorem dX10_readPart_117 : decode cX10_readPart 117 = .ok (.bipush 9, 2) := by decide +kernel
theorem dX10_readPart_119 : decode cX10_readPart 119 = .ok (.invokevirtual 102, 3) := by decide +kernel
theorem dX10_readPart_122 : decode cX10_readPart 122 = .ok (.iastore, 1) := by decide +kernel
theorem dX10_readPart_123 : decode cX10_readPart 123 = .ok (.aload_n 0, 1) := by decide +kernel
theorem dX10_readPart_124 : decode cX10_readPart 124 = .ok (.getfield 35, 3) := by decide +kernel
theorem dX10_readPart_127 : decode cX10_readPart 127 = .ok (.iload_n 2, 1) := by decide +kernel
theorem dX10_readPart_128 : decode cX10_readPart 128 = .ok (.iaload, 1) := by decide +kernel
theorem dX10_readPart_129 : decode cX10_readPart 129 = .ok (.bipush (-9), 2) := by decide +kernel
theorem dX10_readPart_131 : decode cX10_readPart 131 = .ok (.if_icmp .ne 5, 3) := by decide +kernel
theorem dX10_readPart_134 : decode cX10_readPart 134 = .ok (.iconst 0, 1) := by decide +kernel
theorem dX10_readPart_135 : decode cX10_readPart 135 = .ok (.ireturn, 1) := by decide +kernel
theorem dX10_readPart_136 : decode cX10_readPart 136 = .ok (.iload_n 1, 1) := by decide +kernel
theorem dX10_readPart_137 : decode cX10_readPart 137 = .ok (.i2l, 1) := by decide +kernel
theorem dX10_readPart_138 : decode cX10_readPart 138 = .ok (.ldc2_w 119, 3) := by decide +kernel
theorem dX10_readPart_141 : decode cX10_readPart 141 = .ok (.ldc2_w 121, 3) := by decide +kernel
theorem dX10_readPart_144 : decode cX10_readPart 144 = .ok (.invokestatic 90, 3) := by decide +kernel
theorem dX10_readPart_147 : decode cX10_readPart 147 = .ok (.ifCond .eq 29, 3) := by decide +kernel
theorem dX10_readPart_150 : decode cX10_readPart 150 = .ok (.aload_n 0, 1) := by decide +kernel
theorem dX10_readPart_151 : decode cX10_readPart 151 = .ok (.getfield 38, 3) := by decide +kernel
theorem dX10_readPart_154 : decode cX10_readPart 154 = .ok (.iload_n 2, 1) := by decide +kernel
theorem dX10_readPart_155 : decode cX10_readPart 155 = .ok (.aload_n 0, 1) := by decide +kernel
theorem dX10_readPart_156 : decode cX10_readPart 156 = .ok (.iconst 0, 1) := by decide +kernel
theorem dX10_readPart_157 : decode cX10_readPart 157 = .ok (.bipush 9, 2) := by decide +kernel
theorem dX10_readPart_159 : decode cX10_readPart 159 = .ok (.invokevirtual 102, 3) := by decide +kernel
theorem dX10_readPart_162 : decode cX10_readPart 162 = .ok (.iastore, 1) := by decide +kernel
theorem dX10_readPart_163 : decode cX10_readPart 163 = .ok (.aload_n 0, 1) := by decide +kernel
theorem dX10_readPart_164 : decode cX10_readPart 164 = .ok (.getfield 38, 3) := by decide +kernel
theorem dX10_readPart_167 : decode cX10_readPart 167 = .ok (.iload_n 2, 1) := by decide +kernel
theorem dX10_readPart_168 : decode cX10_readPart 168 = .ok (.iaload, 1) := by decide +kernel
theorem dX10_readPart_169 : decode cX10_readPart 169 = .ok (.bipush (-9), 2) := by decide +kernel
theorem dX10_readPart_171 : decode cX10_readPart 171 = .ok (.if_icmp .ne 5, 3) := by decide +kernel
theorem dX10_readPart_174 : decode cX10_readPart 174 = .ok (.iconst 0, 1) := by decide +kernel
theorem dX10_readPart_175 : decode cX10_readPart 175 = .ok (.ireturn, 1) := by decide +kernel
theorem dX10_readPart_176 : decode cX10_readPart 176 = .ok (.iload_n 1, 1) := by decide +kernel
theorem dX10_readPart_177 : decode cX10_readPart 177 = .ok (.iconst 5, 1) := by decide +kernel
theorem dX10_readPart_178 : decode cX10_readPart 178 = .ok (.if_icmp .ne 28, 3) := by decide +kernel
theorem dX10_readPart_181 : decode cX10_readPart 181 = .ok (.aload_n 0, 1) := by decide +kernel
theorem dX10_readPart_182 : decode cX10_readPart 182 = .ok (.getfield 41, 3) := by decide +kernel
theorem dX10_readPart_185 : decode cX10_readPart 185 = .ok (.iload_n 2, 1) := by decide +kernel
theorem dX10_readPart_186 : decode cX10_readPart 186 = .ok (.aload_n 0, 1) := by decide +kernel
theorem dX10_readPart_187 : decode cX10_readPart 187 = .ok (.iconst 0, 1) := by decide +kernel
theorem dX10_readPart_188 : decode cX10_readPart 188 = .ok (.iconst 1, 1) := by decide +kernel
theorem dX10_readPart_189 : decode cX10_readPart 189 = .ok (.invokevirtual 102, 3) := by decide +kernel
theorem dX10_readPart_192 : decode cX10_readPart 192 = .ok (.iastore, 1) := by decide +kernel
theorem dX10_readPart_193 : decode cX10_readPart 193 = .ok (.aload_n 0, 1) := by decide +kernel
theorem dX10_readPart_194 : decode cX10_readPart 194 = .ok (.getfield 41, 3) := by decide +kernel
theorem dX10_readPart_197 : decode cX10_readPart 197 = .ok (.iload_n 2, 1) := by decide +kernel
theorem dX10_readPart_198 : decode cX10_readPart 198 = .ok (.iaload, 1) := by decide +kernel
theorem dX10_readPart_199 : decode cX10_readPart 199 = .ok (.bipush (-9), 2) := by decide +kernel
theorem dX10_readPart_201 : decode cX10_readPart 201 = .ok (.if_icmp .ne 5, 3) := by decide +kernel
theorem dX10_readPart_204 : decode cX10_readPart 204 = .ok (.iconst 0, 1) := by decide +kernel
theorem dX10_readPart_205 : decode cX10_readPart 205 = .ok (.ireturn, 1) := by decide +kernel
theorem dX10_readPart_206 : decode cX10_readPart 206 = .ok (.aload_n 0, 1) := by decide +kernel
theorem dX10_readPart_207 : decode cX10_readPart 207 = .ok (.dup, 1) := by decide +kernel
theorem dX10_readPart_208 : decode cX10_readPart 208 = .ok (.getfield 116, 3) := by decide +kernel
theorem dX10_readPart_211 : decode cX10_readPart 211 = .ok (.iconst 1, 1) := by decide +kernel
theorem dX10_readPart_212 : decode cX10_readPart 212 = .ok (.iadd, 1) := by decide +kernel
theorem dX10_readPart_213 : decode cX10_readPart 213 = .ok (.putfield 116, 3) := by decide +kernel
theorem dX10_readPart_216 : decode cX10_readPart 216 = .ok (.iconst 1, 1) := by decide +kernel
theorem dX10_readPart_217 : decode cX10_readPart 217 = .ok (.ireturn, 1) := by decide +kernel
theorem dX10_readBoard_0 : decode cX10_readBoard 0 = .ok (.aload_n 0, 1) := by decide +kernel
theorem dX10_readBoard_1 : decode cX10_readBoard 1 = .ok (.iconst 0, 1) := by decide +kernel
theorem dX10_readBoard_2 : decode cX10_readBoard 2 = .ok (.putfield 116, 3) := by decide +kernel
theorem dX10_readBoard_5 : decode cX10_readBoard 5 = .ok (.aload_n 0, 1) := by decide +kernel
theorem dX10_readBoard_6 : decode cX10_readBoard 6 = .ok (.iconst 0, 1) := by decide +kernel
theorem dX10_readBoard_7 : decode cX10_readBoard 7 = .ok (.putfield 99, 3) := by decide +kernel
theorem dX10_readBoard_10 : decode cX10_readBoard 10 = .ok (.aload_n 0, 1) := by decide +kernel
theorem dX10_readBoard_11 : decode cX10_readBoard 11 = .ok (.invokevirtual 123, 3) := by decide +kernel
theorem dX10_readBoard_14 : decode cX10_readBoard 14 = .ok (.ifCond .ne 8, 3) := by decide +kernel
theorem dX10_readBoard_17 : decode cX10_readBoard 17 = .ok (.aload_n 0, 1) := by decide +kernel
theorem dX10_readBoard_18 : decode cX10_readBoard 18 = .ok (.getfield 99, 3) := by decide +kernel
theorem dX10_readBoard_21 : decode cX10_readBoard 21 = .ok (.ireturn, 1) := by decide +kernel
theorem dX10_readBoard_22 : decode cX10_readBoard 22 = .ok (.aload_n 0, 1) := by decide +kernel
theorem dX10_readBoard_23 : decode cX10_readBoard 23 = .ok (.getfield 99, 3) := by decide +kernel
theorem dX10_readBoard_26 : decode cX10_readBoard 26 = .ok (.aload_n 0, 1) := by decide +kernel
theorem dX10_readBoard_27 : decode cX10_readBoard 27 = .ok (.getfield 96, 3) := by decide +kernel
theorem dX10_readBoard_30 : decode cX10_readBoard 30 = .ok (.if_icmp .ge 15, 3) := by decide +kernel
theorem dX10_readBoard_33 : decode cX10_readBoard 33 = .ok (.aload_n 0, 1) := by decide +kernel
theorem dX10_readBoard_34 : decode cX10_readBoard 34 = .ok (.invokevirtual 127, 3) := by decide +kernel
theorem dX10_readBoard_37 : decode cX10_readBoard 37 = .ok (.ifCond .ne (-15), 3) := by decide +kernel
theorem dX10_readBoard_40 : decode cX10_readBoard 40 = .ok (.aload_n 0, 1) := by decide +kernel
theorem dX10_readBoard_41 : decode cX10_readBoard 41 = .ok (.getfield 99, 3) := by decide +kernel
theorem dX10_readBoard_44 : decode cX10_readBoard 44 = .ok (.ireturn, 1) := by decide +kernel
theorem dX10_readBoard_45 : decode cX10_readBoard 45 = .ok (.iconst 1, 1) := by decide +kernel
theorem dX10_readBoard_46 : decode cX10_readBoard 46 = .ok (.istore_n 1, 1) := by decide +kernel
theorem dX10_readBoard_47 : decode cX10_readBoard 47 = .ok (.iconst 0, 1) := by decide +kernel
theorem dX10_readBoard_48 : decode cX10_readBoard 48 = .ok (.istore_n 2, 1) := by decide +kernel
theorem dX10_readBoard_49 : decode cX10_readBoard 49 = .ok (.iload_n 2, 1) := by decide +kernel
theorem dX10_readBoard_50 : decode cX10_readBoard 50 = .ok (.aload_n 0, 1) := by decide +kernel
theorem dX10_readBoard_51 : decode cX10_readBoard 51 = .ok (.getfield 116, 3) := by decide +kernel
theorem dX10_readBoard_54 : decode cX10_readBoard 54 = .ok (.if_icmp .ge 45, 3) := by decide +kernel
theorem dX10_readBoard_57 : decode cX10_readBoard 57 = .ok (.iload_n 1, 1) := by decide +kernel
theorem dX10_readBoard_58 : decode cX10_readBoard 58 = .ok (.ifCond .eq 33, 3) := by decide +kernel
theorem dX10_readBoard_61 : decode cX10_readBoard 61 = .ok (.aload_n 0, 1) := by decide +kernel
theorem dX10_readBoard_62 : decode cX10_readBoard 62 = .ok (.getfield 35, 3) := by decide +kernel
theorem dX10_readBoard_65 : decode cX10_readBoard 65 = .ok (.iload_n 2, 1) := by decide +kernel
theorem dX10_readBoard_66 : decode cX10_readBoard 66 = .ok (.iaload, 1) := by decide +kernel
theorem dX10_readBoard_67 : decode cX10_readBoard 67 = .ok (.aload_n 0, 1) := by decide +kernel
theorem dX10_readBoard_68 : decode cX10_readBoard 68 = .ok (.getfield 116, 3) := by decide +kernel
theorem dX10_readBoard_71 : decode cX10_readBoard 71 = .ok (.if_icmp .ge 20, 3) := by decide +kernel
theorem dX10_readBoard_74 : decode cX10_readBoard 74 = .ok (.aload_n 0, 1) := by decide +kernel
theorem dX10_readBoard_75 : decode cX10_readBoard 75 = .ok (.getfield 38, 3) := by decide +kernel
theorem dX10_readBoard_78 : decode cX10_readBoard 78 = .ok (.iload_n 2, 1) := by decide +kernel
theorem dX10_readBoard_79 : decode cX10_readBoard 79 = .ok (.iaload, 1) := by decide +kernel
theorem dX10_readBoard_80 : decode cX10_readBoard 80 = .ok (.aload_n 0, 1) := by decide +kernel
theorem dX10_readBoard_81 : decode cX10_readBoard 81 = .ok (.getfield 116, 3) := by decide +kernel
theorem dX10_readBoard_84 : decode cX10_readBoard 84 = .ok (.if_icmp .ge 7, 3) := by decide +kernel
theorem dX10_readBoard_87 : decode cX10_readBoard 87 = .ok (.iconst 1, 1) := by decide +kernel
theorem dX10_readBoard_88 : decode cX10_readBoard 88 = .ok (.goto 4, 3) := by decide +kernel
theorem dX10_readBoard_91 : decode cX10_readBoard 91 = .ok (.iconst 0, 1) := by decide +kernel
theorem dX10_readBoard_92 : decode cX10_readBoard 92 = .ok (.istore_n 1, 1) := by decide +kernel
theorem dX10_readBoard_93 : decode cX10_readBoard 93 = .ok (.iinc 2 1, 3) := by decide +kernel
theorem dX10_readBoard_96 : decode cX10_readBoard 96 = .ok (.goto (-47), 3) := by decide +kernel
theorem dX10_readBoard_99 : decode cX10_readBoard 99 = .ok (.iload_n 1, 1) := by decide +kernel
theorem dX10_readBoard_100 : decode cX10_readBoard 100 = .ok (.ifCond .eq 8, 3) := by decide +kernel
theorem dX10_readBoard_103 : decode cX10_readBoard 103 = .ok (.bipush (-9), 2) := by decide +kernel
theorem dX10_readBoard_105 : decode cX10_readBoard 105 = .ok (.goto 7, 3) := by decide +kernel
theorem dX10_readBoard_108 : decode cX10_readBoard 108 = .ok (.aload_n 0, 1) := by decide +kernel
theorem dX10_readBoard_109 : decode cX10_readBoard 109 = .ok (.getfield 96, 3) := by decide +kernel
theorem dX10_readBoard_112 : decode cX10_readBoard 112 = .ok (.ireturn, 1) := by decide +kernel
theorem dX10_fault_0 : decode cX10_fault 0 = .ok (.aload_n 0, 1) := by decide +kernel
theorem dX10_fault_1 : decode cX10_fault 1 = .ok (.iconst 0, 1) := by decide +kernel
theorem dX10_fault_2 : decode cX10_fault 2 = .ok (.putfield 84, 3) := by decide +kernel
theorem dX10_fault_5 : decode cX10_fault 5 = .ok (.aload_n 0, 1) := by decide +kernel
theorem dX10_fault_6 : decode cX10_fault 6 = .ok (.invokevirtual 130, 3) := by decide +kernel
theorem dX10_fault_9 : decode cX10_fault 9 = .ok (.ireturn, 1) := by decide +kernel
theorem dX10_board_0 : decode cX10_board 0 = .ok (.aload_n 0, 1) := by decide +kernel
theorem dX10_board_1 : decode cX10_board 1 = .ok (.iconst 0, 1) := by decide +kernel
theorem dX10_board_2 : decode cX10_board 2 = .ok (.putfield 84, 3) := by decide +kernel
theorem dX10_board_5 : decode cX10_board 5 = .ok (.aload_n 0, 1) := by decide +kernel
theorem dX10_board_6 : decode cX10_board 6 = .ok (.invokevirtual 130, 3) := by decide +kernel
theorem dX10_board_9 : decode cX10_board 9 = .ok (.bipush (-9), 2) := by decide +kernel
theorem dX10_board_11 : decode cX10_board 11 = .ok (.if_icmp .eq 6, 3) := by decide +kernel
theorem dX10_board_14 : decode cX10_board 14 = .ok (.bipush (-3), 2) := by decide +kernel
theorem dX10_board_16 : decode cX10_board 16 = .ok (.ireturn, 1) := by decide +kernel
theorem dX10_board_17 : decode cX10_board 17 = .ok (.aload_n 0, 1) := by decide +kernel
theorem dX10_board_18 : decode cX10_board 18 = .ok (.aload_n 0, 1) := by decide +kernel
theorem dX10_board_19 : decode cX10_board 19 = .ok (.getfield 106, 3) := by decide +kernel
theorem dX10_board_22 : decode cX10_board 22 = .ok (.putfield 13, 3) := by decide +kernel
theorem dX10_board_25 : decode cX10_board 25 = .ok (.aload_n 0, 1) := by decide +kernel
theorem dX10_board_26 : decode cX10_board 26 = .ok (.aload_n 0, 1) := by decide +kernel
theorem dX10_board_27 : decode cX10_board 27 = .ok (.getfield 116, 3) := by decide +kernel
theorem dX10_board_30 : decode cX10_board 30 = .ok (.putfield 87, 3) := by decide +kernel
theorem dX10_board_33 : decode cX10_board 33 = .ok (.iconst 0, 1) := by decide +kernel
theorem dX10_board_34 : decode cX10_board 34 = .ok (.istore_n 1, 1) := by decide +kernel
theorem dX10_board_35 : decode cX10_board 35 = .ok (.iload_n 1, 1) := by decide +kernel
theorem dX10_board_36 : decode cX10_board 36 = .ok (.bipush 22, 2) := by decide +kernel
theorem dX10_board_38 : decode cX10_board 38 = .ok (.if_icmp .ge 16, 3) := by decide +kernel
theorem dX10_board_41 : decode cX10_board 41 = .ok (.aload_n 0, 1) := by decide +kernel
theorem dX10_board_42 : decode cX10_board 42 = .ok (.getfield 44, 3) := by decide +kernel
theorem dX10_board_45 : decode cX10_board 45 = .ok (.iload_n 1, 1) := by decide +kernel
theorem dX10_board_46 : decode cX10_board 46 = .ok (.iconst 0, 1) := by decide +kernel
theorem dX10_board_47 : decode cX10_board 47 = .ok (.iastore, 1) := by decide +kernel
theorem dX10_board_48 : decode cX10_board 48 = .ok (.iinc 1 1, 3) := by decide +kernel
theorem dX10_board_51 : decode cX10_board 51 = .ok (.goto (-16), 3) := by decide +kernel
theorem dX10_board_54 : decode cX10_board 54 = .ok (.aload_n 0, 1) := by decide +kernel
theorem dX10_board_55 : decode cX10_board 55 = .ok (.getfield 44, 3) := by decide +kernel
theorem dX10_board_58 : decode cX10_board 58 = .ok (.bipush 20, 2) := by decide +kernel
theorem dX10_board_60 : decode cX10_board 60 = .ok (.aload_n 0, 1) := by decide +kernel
theorem dX10_board_61 : decode cX10_board 61 = .ok (.getfield 109, 3) := by decide +kernel
theorem dX10_board_64 : decode cX10_board 64 = .ok (.iastore, 1) := by decide +kernel
theorem dX10_board_65 : decode cX10_board 65 = .ok (.iconst 0, 1) := by decide +kernel
theorem dX10_board_66 : decode cX10_board 66 = .ok (.istore_n 1, 1) := by decide +kernel
theorem dX10_board_67 : decode cX10_board 67 = .ok (.iload_n 1, 1) := by decide +kernel
theorem dX10_board_68 : decode cX10_board 68 = .ok (.aload_n 0, 1) := by decide +kernel
theorem dX10_board_69 : decode cX10_board 69 = .ok (.getfield 87, 3) := by decide +kernel
theorem dX10_board_72 : decode cX10_board 72 = .ok (.if_icmp .ge 72, 3) := by decide +kernel
theorem dX10_board_75 : decode cX10_board 75 = .ok (.aload_n 0, 1) := by decide +kernel
theorem dX10_board_76 : decode cX10_board 76 = .ok (.getfield 17, 3) := by decide +kernel
theorem dX10_board_79 : decode cX10_board 79 = .ok (.iload_n 1, 1) := by decide +kernel
theorem dX10_board_80 : decode cX10_board 80 = .ok (.aload_n 0, 1) := by decide +kernel
theorem dX10_board_81 : decode cX10_board 81 = .ok (.getfield 29, 3) := by decide +kernel
theorem dX10_board_84 : decode cX10_board 84 = .ok (.iload_n 1, 1) := by decide +kernel
theorem dX10_board_85 : decode cX10_board 85 = .ok (.iaload, 1) := by decide +kernel
theorem dX10_board_86 : decode cX10_board 86 = .ok (.iastore, 1) := by decide +kernel
theorem dX10_board_87 : decode cX10_board 87 = .ok (.aload_n 0, 1) := by decide +kernel
theorem dX10_board_88 : decode cX10_board 88 = .ok (.getfield 20, 3) := by decide +kernel
theorem dX10_board_91 : decode cX10_board 91 = .ok (.iload_n 1, 1) := by decide +kernel
theorem dX10_board_92 : decode cX10_board 92 = .ok (.aload_n 0, 1) := by decide +kernel
theorem dX10_board_93 : decode cX10_board 93 = .ok (.getfield 35, 3) := by decide +kernel
theorem dX10_board_96 : decode cX10_board 96 = .ok (.iload_n 1, 1) := by decide +kernel
theorem dX10_board_97 : decode cX10_board 97 = .ok (.iaload, 1) := by decide +kernel
theorem dX10_board_98 : decode cX10_board 98 = .ok (.iastore, 1) := by decide +kernel
theorem dX10_board_99 : decode cX10_board 99 = .ok (.aload_n 0, 1) := by decide +kernel
theorem dX10_board_100 : decode cX10_board 100 = .ok (.getfield 23, 3) := by decide +kernel
theorem dX10_board_103 : decode cX10_board 103 = .ok (.iload_n 1, 1) := by decide +kernel
theorem dX10_board_104 : decode cX10_board 104 = .ok (.aload_n 0, 1) := by decide +kernel
theorem dX10_board_105 : decode cX10_board 105 = .ok (.getfield 38, 3) := by decide +kernel
theorem dX10_board_108 : decode cX10_board 108 = .ok (.iload_n 1, 1) := by decide +kernel
theorem dX10_board_109 : decode cX10_board 109 = .ok (.iaload, 1) := by decide +kernel
theorem dX10_board_110 : decode cX10_board 110 = .ok (.iastore, 1) := by decide +kernel
theorem dX10_board_111 : decode cX10_board 111 = .ok (.aload_n 0, 1) := by decide +kernel
theorem dX10_board_112 : decode cX10_board 112 = .ok (.getfield 26, 3) := by decide +kernel
theorem dX10_board_115 : decode cX10_board 115 = .ok (.iload_n 1, 1) := by decide +kernel
theorem dX10_board_116 : decode cX10_board 116 = .ok (.aload_n 0, 1) := by decide +kernel
theorem dX10_board_117 : decode cX10_board 117 = .ok (.getfield 41, 3) := by decide +kernel
theorem dX10_board_120 : decode cX10_board 120 = .ok (.iload_n 1, 1) := by decide +kernel
theorem dX10_board_121 : decode cX10_board 121 = .ok (.iaload, 1) := by decide +kernel
theorem dX10_board_122 : decode cX10_board 122 = .ok (.iastore, 1) := by decide +kernel
theorem dX10_board_123 : decode cX10_board 123 = .ok (.aload_n 0, 1) := by decide +kernel
theorem dX10_board_124 : decode cX10_board 124 = .ok (.getfield 44, 3) := by decide +kernel
theorem dX10_board_127 : decode cX10_board 127 = .ok (.bipush 10, 2) := by decide +kernel
theorem dX10_board_129 : decode cX10_board 129 = .ok (.iload_n 1, 1) := by decide +kernel
theorem dX10_board_130 : decode cX10_board 130 = .ok (.iadd, 1) := by decide +kernel
theorem dX10_board_131 : decode cX10_board 131 = .ok (.aload_n 0, 1) := by decide +kernel
theorem dX10_board_132 : decode cX10_board 132 = .ok (.getfield 32, 3) := by decide +kernel
theorem dX10_board_135 : decode cX10_board 135 = .ok (.iload_n 1, 1) := by decide +kernel
theorem dX10_board_136 : decode cX10_board 136 = .ok (.iaload, 1) := by decide +kernel
theorem dX10_board_137 : decode cX10_board 137 = .ok (.iastore, 1) := by decide +kernel
theorem dX10_board_138 : decode cX10_board 138 = .ok (.iinc 1 1, 3) := by decide +kernel
theorem dX10_board_141 : decode cX10_board 141 = .ok (.goto (-74), 3) := by decide +kernel
theorem dX10_board_144 : decode cX10_board 144 = .ok (.aload_n 0, 1) := by decide +kernel
theorem dX10_board_145 : decode cX10_board 145 = .ok (.iconst 0, 1) := by decide +kernel
theorem dX10_board_146 : decode cX10_board 146 = .ok (.putfield 134, 3) := by decide +kernel
theorem dX10_board_149 : decode cX10_board 149 = .ok (.aload_n 0, 1) := by decide +kernel
theorem dX10_board_150 : decode cX10_board 150 = .ok (.getfield 56, 3) := by decide +kernel
theorem dX10_board_153 : decode cX10_board 153 = .ok (.iconst 0, 1) := by decide +kernel
theorem dX10_board_154 : decode cX10_board 154 = .ok (.iconst 0, 1) := by decide +kernel
theorem dX10_board_155 : decode cX10_board 155 = .ok (.bastore, 1) := by decide +kernel
theorem dX10_board_156 : decode cX10_board 156 = .ok (.aload_n 0, 1) := by decide +kernel
theorem dX10_board_157 : decode cX10_board 157 = .ok (.getfield 56, 3) := by decide +kernel
theorem dX10_board_160 : decode cX10_board 160 = .ok (.iconst 1, 1) := by decide +kernel
theorem dX10_board_161 : decode cX10_board 161 = .ok (.iconst 0, 1) := by decide +kernel
theorem dX10_board_162 : decode cX10_board 162 = .ok (.bastore, 1) := by decide +kernel
theorem dX10_board_163 : decode cX10_board 163 = .ok (.aload_n 0, 1) := by decide +kernel
theorem dX10_board_164 : decode cX10_board 164 = .ok (.getfield 87, 3) := by decide +kernel
theorem dX10_board_167 : decode cX10_board 167 = .ok (.ireturn, 1) := by decide +kernel
theorem dX10_stands_0 : decode cX10_stands 0 = .ok (.aload_n 0, 1) := by decide +kernel
theorem dX10_stands_1 : decode cX10_stands 1 = .ok (.getfield 17, 3) := by decide +kernel
theorem dX10_stands_4 : decode cX10_stands 4 = .ok (.iload_n 1, 1) := by decide +kernel
theorem dX10_stands_5 : decode cX10_stands 5 = .ok (.iaload, 1) := by decide +kernel
theorem dX10_stands_6 : decode cX10_stands 6 = .ok (.ifCond .eq 13, 3) := by decide +kernel
theorem dX10_stands_9 : decode cX10_stands 9 = .ok (.aload_n 0, 1) := by decide +kernel
theorem dX10_stands_10 : decode cX10_stands 10 = .ok (.getfield 17, 3) := by decide +kernel
theorem dX10_stands_13 : decode cX10_stands 13 = .ok (.iload_n 1, 1) := by decide +kernel
theorem dX10_stands_14 : decode cX10_stands 14 = .ok (.iaload, 1) := by decide +kernel
theorem dX10_stands_15 : decode cX10_stands 15 = .ok (.iconst 5, 1) := by decide +kernel
theorem dX10_stands_16 : decode cX10_stands 16 = .ok (.if_icmp .ne 7, 3) := by decide +kernel
theorem dX10_stands_19 : decode cX10_stands 19 = .ok (.iconst 1, 1) := by decide +kernel
theorem dX10_stands_20 : decode cX10_stands 20 = .ok (.goto 4, 3) := by decide +kernel
theorem dX10_stands_23 : decode cX10_stands 23 = .ok (.iconst 0, 1) := by decide +kernel
theorem dX10_stands_24 : decode cX10_stands 24 = .ok (.ireturn, 1) := by decide +kernel
theorem dX10_worthBy_0 : decode cX10_worthBy 0 = .ok (.iload_n 1, 1) := by decide +kernel
theorem dX10_worthBy_1 : decode cX10_worthBy 1 = .ok (.iconst 1, 1) := by decide +kernel
theorem dX10_worthBy_2 : decode cX10_worthBy 2 = .ok (.if_icmp .ne 16, 3) := by decide +kernel
theorem dX10_worthBy_5 : decode cX10_worthBy 5 = .ok (.iload_n 2, 1) := by decide +kernel
theorem dX10_worthBy_6 : decode cX10_worthBy 6 = .ok (.iconst 2, 1) := by decide +kernel
theorem dX10_worthBy_7 : decode cX10_worthBy 7 = .ok (.if_icmp .ne 7, 3) := by decide +kernel
theorem dX10_worthBy_10 : decode cX10_worthBy 10 = .ok (.iconst 2, 1) := by decide +kernel
theorem dX10_worthBy_11 : decode cX10_worthBy 11 = .ok (.goto 6, 3) := by decide +kernel
theorem dX10_worthBy_14 : decode cX10_worthBy 14 = .ok (.iconst 1, 1) := by decide +kernel
theorem dX10_worthBy_15 : decode cX10_worthBy 15 = .ok (.iload_n 2, 1) := by decide +kernel
theorem dX10_worthBy_16 : decode cX10_worthBy 16 = .ok (.isub, 1) := by decide +kernel
theorem dX10_worthBy_17 : decode cX10_worthBy 17 = .ok (.ireturn, 1) := by decide +kernel
theorem dX10_worthBy_18 : decode cX10_worthBy 18 = .ok (.iload_n 1, 1) := by decide +kernel
theorem dX10_worthBy_19 : decode cX10_worthBy 19 = .ok (.iconst 2, 1) := by decide +kernel
theorem dX10_worthBy_20 : decode cX10_worthBy 20 = .ok (.if_icmp .ne 31, 3) := by decide +kernel
theorem dX10_worthBy_23 : decode cX10_worthBy 23 = .ok (.iload_n 2, 1) := by decide +kernel
theorem dX10_worthBy_24 : decode cX10_worthBy 24 = .ok (.ifCond .eq 7, 3) := by decide +kernel
theorem dX10_worthBy_27 : decode cX10_worthBy 27 = .ok (.iload_n 3, 1) := by decide +kernel
theorem dX10_worthBy_28 : decode cX10_worthBy 28 = .ok (.ifCond .ne 7, 3) := by decide +kernel
theorem dX10_worthBy_31 : decode cX10_worthBy 31 = .ok (.iconst 0, 1) := by decide +kernel
theorem dX10_worthBy_32 : decode cX10_worthBy 32 = .ok (.goto 18, 3) := by decide +kernel
theorem dX10_worthBy_35 : decode cX10_worthBy 35 = .ok (.iload_n 2, 1) := by decide +kernel
theorem dX10_worthBy_36 : decode cX10_worthBy 36 = .ok (.iconst 2, 1) := by decide +kernel
theorem dX10_worthBy_37 : decode cX10_worthBy 37 = .ok (.if_icmp .eq 8, 3) := by decide +kernel
theorem dX10_worthBy_40 : decode cX10_worthBy 40 = .ok (.iload_n 3, 1) := by decide +kernel
theorem dX10_worthBy_41 : decode cX10_worthBy 41 = .ok (.iconst 2, 1) := by decide +kernel
theorem dX10_worthBy_42 : decode cX10_worthBy 42 = .ok (.if_icmp .ne 7, 3) := by decide +kernel
theorem dX10_worthBy_45 : decode cX10_worthBy 45 = .ok (.iconst 2, 1) := by decide +kernel
theorem dX10_worthBy_46 : decode cX10_worthBy 46 = .ok (.goto 4, 3) := by decide +kernel
theorem dX10_worthBy_49 : decode cX10_worthBy 49 = .ok (.iconst 1, 1) := by decide +kernel
theorem dX10_worthBy_50 : decode cX10_worthBy 50 = .ok (.ireturn, 1) := by decide +kernel
theorem dX10_worthBy_51 : decode cX10_worthBy 51 = .ok (.iload_n 1, 1) := by decide +kernel
theorem dX10_worthBy_52 : decode cX10_worthBy 52 = .ok (.iconst 3, 1) := by decide +kernel
theorem dX10_worthBy_53 : decode cX10_worthBy 53 = .ok (.if_icmp .ne 33, 3) := by decide +kernel
theorem dX10_worthBy_56 : decode cX10_worthBy 56 = .ok (.iload_n 2, 1) := by decide +kernel
theorem dX10_worthBy_57 : decode cX10_worthBy 57 = .ok (.iconst 1, 1) := by decide +kernel
theorem dX10_worthBy_58 : decode cX10_worthBy 58 = .ok (.if_icmp .eq 8, 3) := by decide +kernel
theorem dX10_worthBy_61 : decode cX10_worthBy 61 = .ok (.iload_n 3, 1) := by decide +kernel
theorem dX10_worthBy_62 : decode cX10_worthBy 62 = .ok (.iconst 1, 1) := by decide +kernel
theorem dX10_worthBy_63 : decode cX10_worthBy 63 = .ok (.if_icmp .ne 7, 3) := by decide +kernel
theorem dX10_worthBy_66 : decode cX10_worthBy 66 = .ok (.iconst 1, 1) := by decide +kernel
theorem dX10_worthBy_67 : decode cX10_worthBy 67 = .ok (.goto 18, 3) := by decide +kernel
theorem dX10_worthBy_70 : decode cX10_worthBy 70 = .ok (.iload_n 2, 1) := by decide +kernel
theorem dX10_worthBy_71 : decode cX10_worthBy 71 = .ok (.iconst 2, 1) := by decide +kernel
theorem dX10_worthBy_72 : decode cX10_worthBy 72 = .ok (.if_icmp .eq 8, 3) := by decide +kernel
theorem dX10_worthBy_75 : decode cX10_worthBy 75 = .ok (.iload_n 3, 1) := by decide +kernel
theorem dX10_worthBy_76 : decode cX10_worthBy 76 = .ok (.iconst 2, 1) := by decide +kernel
theorem dX10_worthBy_77 : decode cX10_worthBy 77 = .ok (.if_icmp .ne 7, 3) := by decide +kernel
theorem dX10_worthBy_80 : decode cX10_worthBy 80 = .ok (.iconst 2, 1) := by decide +kernel
theorem dX10_worthBy_81 : decode cX10_worthBy 81 = .ok (.goto 4, 3) := by decide +kernel
theorem dX10_worthBy_84 : decode cX10_worthBy 84 = .ok (.iconst 0, 1) := by decide +kernel
theorem dX10_worthBy_85 : decode cX10_worthBy 85 = .ok (.ireturn, 1) := by decide +kernel
theorem dX10_worthBy_86 : decode cX10_worthBy 86 = .ok (.iload_n 2, 1) := by decide +kernel
theorem dX10_worthBy_87 : decode cX10_worthBy 87 = .ok (.iconst 2, 1) := by decide +kernel
theorem dX10_worthBy_88 : decode cX10_worthBy 88 = .ok (.if_icmp .eq 8, 3) := by decide +kernel
theorem dX10_worthBy_91 : decode cX10_worthBy 91 = .ok (.iload_n 3, 1) := by decide +kernel
theorem dX10_worthBy_92 : decode cX10_worthBy 92 = .ok (.iconst 2, 1) := by decide +kernel
theorem dX10_worthBy_93 : decode cX10_worthBy 93 = .ok (.if_icmp .ne 7, 3) := by decide +kernel
theorem dX10_worthBy_96 : decode cX10_worthBy 96 = .ok (.iconst 2, 1) := by decide +kernel
theorem dX10_worthBy_97 : decode cX10_worthBy 97 = .ok (.goto 6, 3) := by decide +kernel
theorem dX10_worthBy_100 : decode cX10_worthBy 100 = .ok (.iload_n 2, 1) := by decide +kernel
theorem dX10_worthBy_101 : decode cX10_worthBy 101 = .ok (.iload_n 3, 1) := by decide +kernel
theorem dX10_worthBy_102 : decode cX10_worthBy 102 = .ok (.ixor, 1) := by decide +kernel
theorem dX10_worthBy_103 : decode cX10_worthBy 103 = .ok (.ireturn, 1) := by decide +kernel
theorem dX10_layWorth_0 : decode cX10_layWorth 0 = .ok (.aload_n 0, 1) := by decide +kernel
theorem dX10_layWorth_1 : decode cX10_layWorth 1 = .ok (.iconst 0, 1) := by decide +kernel
theorem dX10_layWorth_2 : decode cX10_layWorth 2 = .ok (.putfield 137, 3) := by decide +kernel
theorem dX10_layWorth_5 : decode cX10_layWorth 5 = .ok (.iconst 0, 1) := by decide +kernel
theorem dX10_layWorth_6 : decode cX10_layWorth 6 = .ok (.istore_n 3, 1) := by decide +kernel
theorem dX10_layWorth_7 : decode cX10_layWorth 7 = .ok (.iload_n 3, 1) := by decide +kernel
theorem dX10_layWorth_8 : decode cX10_layWorth 8 = .ok (.aload_n 0, 1) := by decide +kernel
theorem dX10_layWorth_9 : decode cX10_layWorth 9 = .ok (.getfield 87, 3) := by decide +kernel
theorem dX10_layWorth_12 : decode cX10_layWorth 12 = .ok (.if_icmp .ge 80, 3) := by decide +kernel
theorem dX10_layWorth_15 : decode cX10_layWorth 15 = .ok (.iload_n 3, 1) := by decide +kernel
theorem dX10_layWorth_16 : decode cX10_layWorth 16 = .ok (.iload_n 2, 1) := by decide +kernel
theorem dX10_layWorth_17 : decode cX10_layWorth 17 = .ok (.if_icmp .eq 11, 3) := by decide +kernel
theorem dX10_layWorth_20 : decode cX10_layWorth 20 = .ok (.aload_n 0, 1) := by decide +kernel
theorem dX10_layWorth_21 : decode cX10_layWorth 21 = .ok (.iload_n 3, 1) := by decide +kernel
theorem dX10_layWorth_22 : decode cX10_layWorth 22 = .ok (.invokevirtual 140, 3) := by decide +kernel
theorem dX10_layWorth_25 : decode cX10_layWorth 25 = .ok (.ifCond .eq 7, 3) := by decide +kernel
theorem dX10_layWorth_28 : decode cX10_layWorth 28 = .ok (.iconst 1, 1) := by decide +kernel
theorem dX10_layWorth_29 : decode cX10_layWorth 29 = .ok (.goto 4, 3) := by decide +kernel
theorem dX10_layWorth_32 : decode cX10_layWorth 32 = .ok (.iconst 0, 1) := by decide +kernel
theorem dX10_layWorth_33 : decode cX10_layWorth 33 = .ok (.istore 4, 2) := by decide +kernel
theorem dX10_layWorth_35 : decode cX10_layWorth 35 = .ok (.aload_n 0, 1) := by decide +kernel
theorem dX10_layWorth_36 : decode cX10_layWorth 36 = .ok (.getfield 72, 3) := by decide +kernel
theorem dX10_layWorth_39 : decode cX10_layWorth 39 = .ok (.iload_n 3, 1) := by decide +kernel
theorem dX10_layWorth_40 : decode cX10_layWorth 40 = .ok (.iload_n 3, 1) := by decide +kernel
theorem dX10_layWorth_41 : decode cX10_layWorth 41 = .ok (.iload_n 2, 1) := by decide +kernel
theorem dX10_layWorth_42 : decode cX10_layWorth 42 = .ok (.if_icmp .ne 7, 3) := by decide +kernel
theorem dX10_layWorth_45 : decode cX10_layWorth 45 = .ok (.iconst 0, 1) := by decide +kernel
theorem dX10_layWorth_46 : decode cX10_layWorth 46 = .ok (.goto 18, 3) := by decide +kernel
theorem dX10_layWorth_49 : decode cX10_layWorth 49 = .ok (.aload_n 0, 1) := by decide +kernel
theorem dX10_layWorth_50 : decode cX10_layWorth 50 = .ok (.iload_n 3, 1) := by decide +kernel
theorem dX10_layWorth_51 : decode cX10_layWorth 51 = .ok (.invokevirtual 140, 3) := by decide +kernel
theorem dX10_layWorth_54 : decode cX10_layWorth 54 = .ok (.ifCond .eq 9, 3) := by decide +kernel
theorem dX10_layWorth_57 : decode cX10_layWorth 57 = .ok (.aload_n 1, 1) := by decide +kernel
theorem dX10_layWorth_58 : decode cX10_layWorth 58 = .ok (.iload_n 3, 1) := by decide +kernel
theorem dX10_layWorth_59 : decode cX10_layWorth 59 = .ok (.iaload, 1) := by decide +kernel
theorem dX10_layWorth_60 : decode cX10_layWorth 60 = .ok (.goto 4, 3) := by decide +kernel
theorem dX10_layWorth_63 : decode cX10_layWorth 63 = .ok (.iconst 2, 1) := by decide +kernel
theorem dX10_layWorth_64 : decode cX10_layWorth 64 = .ok (.iastore, 1) := by decide +kernel
theorem dX10_layWorth_65 : decode cX10_layWorth 65 = .ok (.aload_n 0, 1) := by decide +kernel
theorem dX10_layWorth_66 : decode cX10_layWorth 66 = .ok (.dup, 1) := by decide +kernel
theorem dX10_layWorth_67 : decode cX10_layWorth 67 = .ok (.getfield 137, 3) := by decide +kernel
theorem dX10_layWorth_70 : decode cX10_layWorth 70 = .ok (.iload 4, 2) := by decide +kernel
theorem dX10_layWorth_72 : decode cX10_layWorth 72 = .ok (.ifCond .eq 9, 3) := by decide +kernel
theorem dX10_layWorth_75 : decode cX10_layWorth 75 = .ok (.iconst 1, 1) := by decide +kernel
theorem dX10_layWorth_76 : decode cX10_layWorth 76 = .ok (.iload_n 3, 1) := by decide +kernel
theorem dX10_layWorth_77 : decode cX10_layWorth 77 = .ok (.ishl, 1) := by decide +kernel
theorem dX10_layWorth_78 : decode cX10_layWorth 78 = .ok (.goto 4, 3) := by decide +kernel
theorem dX10_layWorth_81 : decode cX10_layWorth 81 = .ok (.iconst 0, 1) := by decide +kernel
theorem dX10_layWorth_82 : decode cX10_layWorth 82 = .ok (.ior, 1) := by decide +kernel
theorem dX10_layWorth_83 : decode cX10_layWorth 83 = .ok (.putfield 137, 3) := by decide +kernel
theorem dX10_layWorth_86 : decode cX10_layWorth 86 = .ok (.iinc 3 1, 3) := by decide +kernel
theorem dX10_layWorth_89 : decode cX10_layWorth 89 = .ok (.goto (-82), 3) := by decide +kernel
theorem dX10_layWorth_92 : decode cX10_layWorth 92 = .ok (.iconst 0, 1) := by decide +kernel
theorem dX10_layWorth_93 : decode cX10_layWorth 93 = .ok (.istore_n 3, 1) := by decide +kernel
theorem dX10_layWorth_94 : decode cX10_layWorth 94 = .ok (.iload_n 3, 1) := by decide +kernel
theorem dX10_layWorth_95 : decode cX10_layWorth 95 = .ok (.aload_n 0, 1) := by decide +kernel
theorem dX10_layWorth_96 : decode cX10_layWorth 96 = .ok (.getfield 87, 3) := by decide +kernel
theorem dX10_layWorth_99 : decode cX10_layWorth 99 = .ok (.if_icmp .ge 156, 3) := by decide +kernel
theorem dX10_layWorth_102 : decode cX10_layWorth 102 = .ok (.iconst 0, 1) := by decide +kernel
theorem dX10_layWorth_103 : decode cX10_layWorth 103 = .ok (.istore 4, 2) := by decide +kernel
theorem dX10_layWorth_105 : decode cX10_layWorth 105 = .ok (.iload 4, 2) := by decide +kernel
theorem dX10_layWorth_107 : decode cX10_layWorth 107 = .ok (.aload_n 0, 1) := by decide +kernel
theorem dX10_layWorth_108 : decode cX10_layWorth 108 = .ok (.getfield 87, 3) := by decide +kernel
theorem dX10_layWorth_111 : decode cX10_layWorth 111 = .ok (.if_icmp .ge 138, 3) := by decide +kernel
theorem dX10_layWorth_114 : decode cX10_layWorth 114 = .ok (.aload_n 0, 1) := by decide +kernel
theorem dX10_layWorth_115 : decode cX10_layWorth 115 = .ok (.getfield 137, 3) := by decide +kernel
theorem dX10_layWorth_118 : decode cX10_layWorth 118 = .ok (.iload 4, 2) := by decide +kernel
theorem dX10_layWorth_120 : decode cX10_layWorth 120 = .ok (.invokestatic 144, 3) := by decide +kernel
theorem dX10_layWorth_123 : decode cX10_layWorth 123 = .ok (.ifCond .ne 120, 3) := by decide +kernel
theorem dX10_layWorth_126 : decode cX10_layWorth 126 = .ok (.aload_n 0, 1) := by decide +kernel
theorem dX10_layWorth_127 : decode cX10_layWorth 127 = .ok (.getfield 137, 3) := by decide +kernel
theorem dX10_layWorth_130 : decode cX10_layWorth 130 = .ok (.aload_n 0, 1) := by decide +kernel
theorem dX10_layWorth_131 : decode cX10_layWorth 131 = .ok (.getfield 20, 3) := by decide +kernel
theorem dX10_layWorth_134 : decode cX10_layWorth 134 = .ok (.iload 4, 2) := by decide +kernel
theorem dX10_layWorth_136 : decode cX10_layWorth 136 = .ok (.iaload, 1) := by decide +kernel
theorem dX10_layWorth_137 : decode cX10_layWorth 137 = .ok (.invokestatic 144, 3) := by decide +kernel
theorem dX10_layWorth_140 : decode cX10_layWorth 140 = .ok (.ifCond .eq 103, 3) := by decide +kernel
theorem dX10_layWorth_143 : decode cX10_layWorth 143 = .ok (.aload_n 0, 1) := by decide +kernel
theorem dX10_layWorth_144 : decode cX10_layWorth 144 = .ok (.getfield 23, 3) := by decide +kernel
theorem dX10_layWorth_147 : decode cX10_layWorth 147 = .ok (.iload 4, 2) := by decide +kernel
theorem dX10_layWorth_149 : decode cX10_layWorth 149 = .ok (.iaload, 1) := by decide +kernel
theorem dX10_layWorth_150 : decode cX10_layWorth 150 = .ok (.bipush (-9), 2) := by decide +kernel
theorem dX10_layWorth_152 : decode cX10_layWorth 152 = .ok (.if_icmp .eq 20, 3) := by decide +kernel
theorem dX10_layWorth_155 : decode cX10_layWorth 155 = .ok (.aload_n 0, 1) := by decide +kernel
theorem dX10_layWorth_156 : decode cX10_layWorth 156 = .ok (.getfield 137, 3) := by decide +kernel
theorem dX10_layWorth_159 : decode cX10_layWorth 159 = .ok (.aload_n 0, 1) := by decide +kernel
theorem dX10_layWorth_160 : decode cX10_layWorth 160 = .ok (.getfield 23, 3) := by decide +kernel
theorem dX10_layWorth_163 : decode cX10_layWorth 163 = .ok (.iload 4, 2) := by decide +kernel
theorem dX10_layWorth_165 : decode cX10_layWorth 165 = .ok (.iaload, 1) := by decide +kernel
theorem dX10_layWorth_166 : decode cX10_layWorth 166 = .ok (.invokestatic 144, 3) := by decide +kernel
theorem dX10_layWorth_169 : decode cX10_layWorth 169 = .ok (.ifCond .eq 74, 3) := by decide +kernel
theorem dX10_layWorth_172 : decode cX10_layWorth 172 = .ok (.aload_n 0, 1) := by decide +kernel
theorem dX10_layWorth_173 : decode cX10_layWorth 173 = .ok (.getfield 72, 3) := by decide +kernel
theorem dX10_layWorth_176 : decode cX10_layWorth 176 = .ok (.iload 4, 2) := by decide +kernel
theorem dX10_layWorth_178 : decode cX10_layWorth 178 = .ok (.aload_n 0, 1) := by decide +kernel
theorem dX10_layWorth_179 : decode cX10_layWorth 179 = .ok (.aload_n 0, 1) := by decide +kernel
theorem dX10_layWorth_180 : decode cX10_layWorth 180 = .ok (.getfield 17, 3) := by decide +kernel
theorem dX10_layWorth_183 : decode cX10_layWorth 183 = .ok (.iload 4, 2) := by decide +kernel
theorem dX10_layWorth_185 : decode cX10_layWorth 185 = .ok (.iaload, 1) := by decide +kernel
theorem dX10_layWorth_186 : decode cX10_layWorth 186 = .ok (.aload_n 0, 1) := by decide +kernel
theorem dX10_layWorth_187 : decode cX10_layWorth 187 = .ok (.getfield 72, 3) := by decide +kernel
theorem dX10_layWorth_190 : decode cX10_layWorth 190 = .ok (.aload_n 0, 1) := by decide +kernel
theorem dX10_layWorth_191 : decode cX10_layWorth 191 = .ok (.getfield 20, 3) := by decide +kernel
theorem dX10_layWorth_194 : decode cX10_layWorth 194 = .ok (.iload 4, 2) := by decide +kernel
theorem dX10_layWorth_196 : decode cX10_layWorth 196 = .ok (.iaload, 1) := by decide +kernel
theorem dX10_layWorth_197 : decode cX10_layWorth 197 = .ok (.iaload, 1) := by decide +kernel
theorem dX10_layWorth_198 : decode cX10_layWorth 198 = .ok (.aload_n 0, 1) := by decide +kernel
theorem dX10_layWorth_199 : decode cX10_layWorth 199 = .ok (.getfield 23, 3) := by decide +kernel
theorem dX10_layWorth_202 : decode cX10_layWorth 202 = .ok (.iload 4, 2) := by decide +kernel
theorem dX10_layWorth_204 : decode cX10_layWorth 204 = .ok (.iaload, 1) := by decide +kernel
theorem dX10_layWorth_205 : decode cX10_layWorth 205 = .ok (.bipush (-9), 2) := by decide +kernel
theorem dX10_layWorth_207 : decode cX10_layWorth 207 = .ok (.if_icmp .ne 7, 3) := by decide +kernel
theorem dX10_layWorth_210 : decode cX10_layWorth 210 = .ok (.iconst 0, 1) := by decide +kernel
theorem dX10_layWorth_211 : decode cX10_layWorth 211 = .ok (.goto 15, 3) := by decide +kernel
theorem dX10_layWorth_214 : decode cX10_layWorth 214 = .ok (.aload_n 0, 1) := by decide +kernel
theorem dX10_layWorth_215 : decode cX10_layWorth 215 = .ok (.getfield 72, 3) := by decide +kernel
theorem dX10_layWorth_218 : decode cX10_layWorth 218 = .ok (.aload_n 0, 1) := by decide +kernel
theorem dX10_layWorth_219 : decode cX10_layWorth 219 = .ok (.getfield 23, 3) := by decide +kernel
theorem dX10_layWorth_222 : decode cX10_layWorth 222 = .ok (.iload 4, 2) := by decide +kernel
theorem dX10_layWorth_224 : decode cX10_layWorth 224 = .ok (.iaload, 1) := by decide +kernel
theorem dX10_layWorth_225 : decode cX10_layWorth 225 = .ok (.iaload, 1) := by decide +kernel
theorem dX10_layWorth_226 : decode cX10_layWorth 226 = .ok (.invokevirtual 148, 3) := by decide +kernel
theorem dX10_layWorth_229 : decode cX10_layWorth 229 = .ok (.iastore, 1) := by decide +kernel
theorem dX10_layWorth_230 : decode cX10_layWorth 230 = .ok (.aload_n 0, 1) := by decide +kernel
theorem dX10_layWorth_231 : decode cX10_layWorth 231 = .ok (.dup, 1) := by decide +kernel
theorem dX10_layWorth_232 : decode cX10_layWorth 232 = .ok (.getfield 137, 3) := by decide +kernel
theorem dX10_layWorth_235 : decode cX10_layWorth 235 = .ok (.iconst 1, 1) := by decide +kernel
theorem dX10_layWorth_236 : decode cX10_layWorth 236 = .ok (.iload 4, 2) := by decide +kernel
theorem dX10_layWorth_238 : decode cX10_layWorth 238 = .ok (.ishl, 1) := by decide +kernel
theorem dX10_layWorth_239 : decode cX10_layWorth 239 = .ok (.ior, 1) := by decide +kernel
theorem dX10_layWorth_240 : decode cX10_layWorth 240 = .ok (.putfield 137, 3) := by decide +kernel
theorem dX10_layWorth_243 : decode cX10_layWorth 243 = .ok (.iinc 4 1, 3) := by decide +kernel
theorem dX10_layWorth_246 : decode cX10_layWorth 246 = .ok (.goto (-141), 3) := by decide +kernel
theorem dX10_layWorth_249 : decode cX10_layWorth 249 = .ok (.iinc 3 1, 3) := by decide +kernel
theorem dX10_layWorth_252 : decode cX10_layWorth 252 = .ok (.goto (-158), 3) := by decide +kernel
theorem dX10_layWorth_255 : decode cX10_layWorth 255 = .ok (.return_, 1) := by decide +kernel
theorem dX10_stepOn_0 : decode cX10_stepOn 0 = .ok (.aload_n 0, 1) := by decide +kernel
theorem dX10_stepOn_1 : decode cX10_stepOn 1 = .ok (.aload_n 1, 1) := by decide +kernel
theorem dX10_stepOn_2 : decode cX10_stepOn 2 = .ok (.iload_n 2, 1) := by decide +kernel
theorem dX10_stepOn_3 : decode cX10_stepOn 3 = .ok (.invokevirtual 152, 3) := by decide +kernel
theorem dX10_stepOn_6 : decode cX10_stepOn 6 = .ok (.iconst 0, 1) := by decide +kernel
theorem dX10_stepOn_7 : decode cX10_stepOn 7 = .ok (.istore_n 3, 1) := by decide +kernel
theorem dX10_stepOn_8 : decode cX10_stepOn 8 = .ok (.iload_n 3, 1) := by decide +kernel
theorem dX10_stepOn_9 : decode cX10_stepOn 9 = .ok (.aload_n 0, 1) := by decide +kernel
theorem dX10_stepOn_10 : decode cX10_stepOn 10 = .ok (.getfield 87, 3) := by decide +kernel
theorem dX10_stepOn_13 : decode cX10_stepOn 13 = .ok (.if_icmp .ge 52, 3) := by decide +kernel
theorem dX10_stepOn_16 : decode cX10_stepOn 16 = .ok (.aload_n 0, 1) := by decide +kernel
theorem dX10_stepOn_17 : decode cX10_stepOn 17 = .ok (.getfield 17, 3) := by decide +kernel
theorem dX10_stepOn_20 : decode cX10_stepOn 20 = .ok (.iload_n 3, 1) := by decide +kernel
theorem dX10_stepOn_21 : decode cX10_stepOn 21 = .ok (.iaload, 1) := by decide +kernel
theorem dX10_stepOn_22 : decode cX10_stepOn 22 = .ok (.iconst 5, 1) := by decide +kernel
theorem dX10_stepOn_23 : decode cX10_stepOn 23 = .ok (.if_icmp .ne 36, 3) := by decide +kernel
theorem dX10_stepOn_26 : decode cX10_stepOn 26 = .ok (.aload_n 0, 1) := by decide +kernel
theorem dX10_stepOn_27 : decode cX10_stepOn 27 = .ok (.getfield 26, 3) := by decide +kernel
theorem dX10_stepOn_30 : decode cX10_stepOn 30 = .ok (.iload_n 3, 1) := by decide +kernel
theorem dX10_stepOn_31 : decode cX10_stepOn 31 = .ok (.iaload, 1) := by decide +kernel
theorem dX10_stepOn_32 : decode cX10_stepOn 32 = .ok (.ifCond .eq 13, 3) := by decide +kernel
theorem dX10_stepOn_35 : decode cX10_stepOn 35 = .ok (.aload_n 1, 1) := by decide +kernel
theorem dX10_stepOn_36 : decode cX10_stepOn 36 = .ok (.bipush 21, 2) := by decide +kernel
theorem dX10_stepOn_38 : decode cX10_stepOn 38 = .ok (.iaload, 1) := by decide +kernel
theorem dX10_stepOn_39 : decode cX10_stepOn 39 = .ok (.iconst 2, 1) := by decide +kernel
theorem dX10_stepOn_40 : decode cX10_stepOn 40 = .ok (.irem, 1) := by decide +kernel
theorem dX10_stepOn_41 : decode cX10_stepOn 41 = .ok (.iconst 1, 1) := by decide +kernel
theorem dX10_stepOn_42 : decode cX10_stepOn 42 = .ok (.if_icmp .ne 17, 3) := by decide +kernel
theorem dX10_stepOn_45 : decode cX10_stepOn 45 = .ok (.aload_n 1, 1) := by decide +kernel
theorem dX10_stepOn_46 : decode cX10_stepOn 46 = .ok (.iload_n 3, 1) := by decide +kernel
theorem dX10_stepOn_47 : decode cX10_stepOn 47 = .ok (.aload_n 0, 1) := by decide +kernel
theorem dX10_stepOn_48 : decode cX10_stepOn 48 = .ok (.getfield 72, 3) := by decide +kernel
theorem dX10_stepOn_51 : decode cX10_stepOn 51 = .ok (.aload_n 0, 1) := by decide +kernel
theorem dX10_stepOn_52 : decode cX10_stepOn 52 = .ok (.getfield 20, 3) := by decide +kernel
theorem dX10_stepOn_55 : decode cX10_stepOn 55 = .ok (.iload_n 3, 1) := by decide +kernel
theorem dX10_stepOn_56 : decode cX10_stepOn 56 = .ok (.iaload, 1) := by decide +kernel
theorem dX10_stepOn_57 : decode cX10_stepOn 57 = .ok (.iaload, 1) := by decide +kernel
theorem dX10_stepOn_58 : decode cX10_stepOn 58 = .ok (.iastore, 1) := by decide +kernel
theorem dX10_stepOn_59 : decode cX10_stepOn 59 = .ok (.iinc 3 1, 3) := by decide +kernel
theorem dX10_stepOn_62 : decode cX10_stepOn 62 = .ok (.goto (-54), 3) := by decide +kernel
theorem dX10_stepOn_65 : decode cX10_stepOn 65 = .ok (.aload_n 1, 1) := by decide +kernel
theorem dX10_stepOn_66 : decode cX10_stepOn 66 = .ok (.bipush 21, 2) := by decide +kernel
theorem dX10_stepOn_68 : decode cX10_stepOn 68 = .ok (.dup2, 1) := by decide +kernel
theorem dX10_stepOn_69 : decode cX10_stepOn 69 = .ok (.iaload, 1) := by decide +kernel
theorem dX10_stepOn_70 : decode cX10_stepOn 70 = .ok (.iconst 1, 1) := by decide +kernel
theorem dX10_stepOn_71 : decode cX10_stepOn 71 = .ok (.iadd, 1) := by decide +kernel
theorem dX10_stepOn_72 : decode cX10_stepOn 72 = .ok (.iastore, 1) := by decide +kernel
theorem dX10_stepOn_73 : decode cX10_stepOn 73 = .ok (.return_, 1) := by decide +kernel
theorem dX10_worthOf_0 : decode cX10_worthOf 0 = .ok (.aload_n 0, 1) := by decide +kernel
theorem dX10_worthOf_1 : decode cX10_worthOf 1 = .ok (.aload_n 1, 1) := by decide +kernel
theorem dX10_worthOf_2 : decode cX10_worthOf 2 = .ok (.bipush (-9), 2) := by decide +kernel
theorem dX10_worthOf_4 : decode cX10_worthOf 4 = .ok (.invokevirtual 152, 3) := by decide +kernel
theorem dX10_worthOf_7 : decode cX10_worthOf 7 = .ok (.aload_n 0, 1) := by decide +kernel
theorem dX10_worthOf_8 : decode cX10_worthOf 8 = .ok (.getfield 72, 3) := by decide +kernel
theorem dX10_worthOf_11 : decode cX10_worthOf 11 = .ok (.iload_n 2, 1) := by decide +kernel
theorem dX10_worthOf_12 : decode cX10_worthOf 12 = .ok (.iaload, 1) := by decide +kernel
theorem dX10_worthOf_13 : decode cX10_worthOf 13 = .ok (.ireturn, 1) := by decide +kernel
theorem dX10_isAt_0 : decode cX10_isAt 0 = .ok (.aload_n 0, 1) := by decide +kernel
theorem dX10_isAt_1 : decode cX10_isAt 1 = .ok (.getfield 75, 3) := by decide +kernel
theorem dX10_isAt_4 : decode cX10_isAt 4 = .ok (.iconst 4, 1) := by decide +kernel
theorem dX10_isAt_5 : decode cX10_isAt 5 = .ok (.iload_n 1, 1) := by decide +kernel
theorem dX10_isAt_6 : decode cX10_isAt 6 = .ok (.imul, 1) := by decide +kernel
theorem dX10_isAt_7 : decode cX10_isAt 7 = .ok (.iload_n 2, 1) := by decide +kernel
theorem dX10_isAt_8 : decode cX10_isAt 8 = .ok (.iadd, 1) := by decide +kernel
theorem dX10_isAt_9 : decode cX10_isAt 9 = .ok (.iaload, 1) := by decide +kernel
theorem dX10_isAt_10 : decode cX10_isAt 10 = .ok (.bipush (-9), 2) := by decide +kernel
theorem dX10_isAt_12 : decode cX10_isAt 12 = .ok (.if_icmp .eq 7, 3) := by decide +kernel
theorem dX10_isAt_15 : decode cX10_isAt 15 = .ok (.iconst 1, 1) := by decide +kernel
theorem dX10_isAt_16 : decode cX10_isAt 16 = .ok (.goto 4, 3) := by decide +kernel
theorem dX10_isAt_19 : decode cX10_isAt 19 = .ok (.iconst 0, 1) := by decide +kernel
theorem dX10_isAt_20 : decode cX10_isAt 20 = .ok (.ireturn, 1) := by decide +kernel
theorem dX10_layReady_0 : decode cX10_layReady 0 = .ok (.iconst 0, 1) := by decide +kernel
theorem dX10_layReady_1 : decode cX10_layReady 1 = .ok (.istore_n 3, 1) := by decide +kernel
theorem dX10_layReady_2 : decode cX10_layReady 2 = .ok (.iload_n 3, 1) := by decide +kernel
theorem dX10_layReady_3 : decode cX10_layReady 3 = .ok (.aload_n 0, 1) := by decide +kernel
theorem dX10_layReady_4 : decode cX10_layReady 4 = .ok (.getfield 87, 3) := by decide +kernel
theorem dX10_layReady_7 : decode cX10_layReady 7 = .ok (.if_icmp .ge 140, 3) := by decide +kernel
theorem dX10_layReady_10 : decode cX10_layReady 10 = .ok (.iconst 0, 1) := by decide +kernel
theorem dX10_layReady_11 : decode cX10_layReady 11 = .ok (.istore 4, 2) := by decide +kernel
theorem dX10_layReady_13 : decode cX10_layReady 13 = .ok (.iload 4, 2) := by decide +kernel
theorem dX10_layReady_15 : decode cX10_layReady 15 = .ok (.aload_n 0, 1) := by decide +kernel
theorem dX10_layReady_16 : decode cX10_layReady 16 = .ok (.getfield 87, 3) := by decide +kernel
theorem dX10_layReady_19 : decode cX10_layReady 19 = .ok (.if_icmp .ge 122, 3) := by decide +kernel
theorem dX10_layReady_22 : decode cX10_layReady 22 = .ok (.aload_n 1, 1) := by decide +kernel
theorem dX10_layReady_23 : decode cX10_layReady 23 = .ok (.bipush 10, 2) := by decide +kernel
theorem dX10_layReady_25 : decode cX10_layReady 25 = .ok (.iload 4, 2) := by decide +kernel
theorem dX10_layReady_27 : decode cX10_layReady 27 = .ok (.iadd, 1) := by decide +kernel
theorem dX10_layReady_28 : decode cX10_layReady 28 = .ok (.iaload, 1) := by decide +kernel
theorem dX10_layReady_29 : decode cX10_layReady 29 = .ok (.istore 5, 2) := by decide +kernel
theorem dX10_layReady_31 : decode cX10_layReady 31 = .ok (.aload_n 0, 1) := by decide +kernel
theorem dX10_layReady_32 : decode cX10_layReady 32 = .ok (.iload 4, 2) := by decide +kernel
theorem dX10_layReady_34 : decode cX10_layReady 34 = .ok (.invokevirtual 140, 3) := by decide +kernel
theorem dX10_layReady_37 : decode cX10_layReady 37 = .ok (.ifCond .ne 62, 3) := by decide +kernel
theorem dX10_layReady_40 : decode cX10_layReady 40 = .ok (.aload_n 0, 1) := by decide +kernel
theorem dX10_layReady_41 : decode cX10_layReady 41 = .ok (.iload 4, 2) := by decide +kernel
theorem dX10_layReady_43 : decode cX10_layReady 43 = .ok (.iload 5, 2) := by decide +kernel
theorem dX10_layReady_45 : decode cX10_layReady 45 = .ok (.invokevirtual 156, 3) := by decide +kernel
theorem dX10_layReady_48 : decode cX10_layReady 48 = .ok (.ifCond .ne 51, 3) := by decide +kernel
theorem dX10_layReady_51 : decode cX10_layReady 51 = .ok (.aload_n 0, 1) := by decide +kernel
theorem dX10_layReady_52 : decode cX10_layReady 52 = .ok (.aload_n 0, 1) := by decide +kernel
theorem dX10_layReady_53 : decode cX10_layReady 53 = .ok (.getfield 20, 3) := by decide +kernel
theorem dX10_layReady_56 : decode cX10_layReady 56 = .ok (.iload 4, 2) := by decide +kernel
theorem dX10_layReady_58 : decode cX10_layReady 58 = .ok (.iaload, 1) := by decide +kernel
theorem dX10_layReady_59 : decode cX10_layReady 59 = .ok (.iload 5, 2) := by decide +kernel
theorem dX10_layReady_61 : decode cX10_layReady 61 = .ok (.invokevirtual 156, 3) := by decide +kernel
theorem dX10_layReady_64 : decode cX10_layReady 64 = .ok (.ifCond .eq 35, 3) := by decide +kernel
theorem dX10_layReady_67 : decode cX10_layReady 67 = .ok (.aload_n 0, 1) := by decide +kernel
theorem dX10_layReady_68 : decode cX10_layReady 68 = .ok (.getfield 23, 3) := by decide +kernel
theorem dX10_layReady_71 : decode cX10_layReady 71 = .ok (.iload 4, 2) := by decide +kernel
theorem dX10_layReady_73 : decode cX10_layReady 73 = .ok (.iaload, 1) := by decide +kernel
theorem dX10_layReady_74 : decode cX10_layReady 74 = .ok (.bipush (-9), 2) := by decide +kernel
theorem dX10_layReady_76 : decode cX10_layReady 76 = .ok (.if_icmp .eq 19, 3) := by decide +kernel
theorem dX10_layReady_79 : decode cX10_layReady 79 = .ok (.aload_n 0, 1) := by decide +kernel
theorem dX10_layReady_80 : decode cX10_layReady 80 = .ok (.aload_n 0, 1) := by decide +kernel
theorem dX10_layReady_81 : decode cX10_layReady 81 = .ok (.getfield 23, 3) := by decide +kernel
