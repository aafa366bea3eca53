theorem dX0_init_0 : decode cX0_init 0 = .ok (.aload_n 0, 1) := by decide +kernel
theorem dX0_init_1 : decode cX0_init 1 = .ok (.invokespecial 3, 3) := by decide +kernel
theorem dX0_init_4 : decode cX0_init 4 = .ok (.aload_n 0, 1) := by decide +kernel
theorem dX0_init_5 : decode cX0_init 5 = .ok (.new 9, 3) := by decide +kernel
theorem dX0_init_8 : decode cX0_init 8 = .ok (.dup, 1) := by decide +kernel
theorem dX0_init_9 : decode cX0_init 9 = .ok (.bipush 14, 2) := by decide +kernel
theorem dX0_init_11 : decode cX0_init 11 = .ok (.invokespecial 11, 3) := by decide +kernel
theorem dX0_init_14 : decode cX0_init 14 = .ok (.putfield 14, 3) := by decide +kernel
theorem dX0_init_17 : decode cX0_init 17 = .ok (.aload_n 0, 1) := by decide +kernel
theorem dX0_init_18 : decode cX0_init 18 = .ok (.iconst 0, 1) := by decide +kernel
theorem dX0_init_19 : decode cX0_init 19 = .ok (.putfield 20, 3) := by decide +kernel
theorem dX0_init_22 : decode cX0_init 22 = .ok (.aload_n 0, 1) := by decide +kernel
theorem dX0_init_23 : decode cX0_init 23 = .ok (.iconst 0, 1) := by decide +kernel
theorem dX0_init_24 : decode cX0_init 24 = .ok (.putfield 24, 3) := by decide +kernel
theorem dX0_init_27 : decode cX0_init 27 = .ok (.return_, 1) := by decide +kernel
theorem dX0_remember_0 : decode cX0_remember 0 = .ok (.aload_n 0, 1) := by decide +kernel
theorem dX0_remember_1 : decode cX0_remember 1 = .ok (.getfield 14, 3) := by decide +kernel
theorem dX0_remember_4 : decode cX0_remember 4 = .ok (.aload_n 0, 1) := by decide +kernel
theorem dX0_remember_5 : decode cX0_remember 5 = .ok (.getfield 20, 3) := by decide +kernel
theorem dX0_remember_8 : decode cX0_remember 8 = .ok (.aload_n 1, 1) := by decide +kernel
theorem dX0_remember_9 : decode cX0_remember 9 = .ok (.invokevirtual 27, 3) := by decide +kernel
theorem dX0_remember_12 : decode cX0_remember 12 = .ok (.aload_n 0, 1) := by decide +kernel
theorem dX0_remember_13 : decode cX0_remember 13 = .ok (.aload_n 0, 1) := by decide +kernel
theorem dX0_remember_14 : decode cX0_remember 14 = .ok (.getfield 20, 3) := by decide +kernel
theorem dX0_remember_17 : decode cX0_remember 17 = .ok (.iconst 1, 1) := by decide +kernel
theorem dX0_remember_18 : decode cX0_remember 18 = .ok (.iadd, 1) := by decide +kernel
theorem dX0_remember_19 : decode cX0_remember 19 = .ok (.bipush 14, 2) := by decide +kernel
theorem dX0_remember_21 : decode cX0_remember 21 = .ok (.if_icmp .ge 12, 3) := by decide +kernel
theorem dX0_remember_24 : decode cX0_remember 24 = .ok (.aload_n 0, 1) := by decide +kernel
theorem dX0_remember_25 : decode cX0_remember 25 = .ok (.getfield 20, 3) := by decide +kernel
theorem dX0_remember_28 : decode cX0_remember 28 = .ok (.iconst 1, 1) := by decide +kernel
theorem dX0_remember_29 : decode cX0_remember 29 = .ok (.iadd, 1) := by decide +kernel
theorem dX0_remember_30 : decode cX0_remember 30 = .ok (.goto 4, 3) := by decide +kernel
theorem dX0_remember_33 : decode cX0_remember 33 = .ok (.iconst 0, 1) := by decide +kernel
theorem dX0_remember_34 : decode cX0_remember 34 = .ok (.putfield 20, 3) := by decide +kernel
theorem dX0_remember_37 : decode cX0_remember 37 = .ok (.aload_n 0, 1) := by decide +kernel
theorem dX0_remember_38 : decode cX0_remember 38 = .ok (.aload_n 0, 1) := by decide +kernel
theorem dX0_remember_39 : decode cX0_remember 39 = .ok (.getfield 24, 3) := by decide +kernel
theorem dX0_remember_42 : decode cX0_remember 42 = .ok (.iconst 1, 1) := by decide +kernel
theorem dX0_remember_43 : decode cX0_remember 43 = .ok (.iadd, 1) := by decide +kernel
theorem dX0_remember_44 : decode cX0_remember 44 = .ok (.bipush 14, 2) := by decide +kernel
theorem dX0_remember_46 : decode cX0_remember 46 = .ok (.invokestatic 31, 3) := by decide +kernel
theorem dX0_remember_49 : decode cX0_remember 49 = .ok (.putfield 24, 3) := by decide +kernel
theorem dX0_remember_52 : decode cX0_remember 52 = .ok (.return_, 1) := by decide +kernel
theorem dX0_recall_0 : decode cX0_recall 0 = .ok (.aload_n 0, 1) := by decide +kernel
theorem dX0_recall_1 : decode cX0_recall 1 = .ok (.getfield 24, 3) := by decide +kernel
theorem dX0_recall_4 : decode cX0_recall 4 = .ok (.ifCond .ne 4, 3) := by decide +kernel
theorem dX0_recall_7 : decode cX0_recall 7 = .ok (.return_, 1) := by decide +kernel
theorem dX0_recall_8 : decode cX0_recall 8 = .ok (.aload_n 0, 1) := by decide +kernel
theorem dX0_recall_9 : decode cX0_recall 9 = .ok (.aload_n 0, 1) := by decide +kernel
theorem dX0_recall_10 : decode cX0_recall 10 = .ok (.getfield 20, 3) := by decide +kernel
theorem dX0_recall_13 : decode cX0_recall 13 = .ok (.ifCond .le 12, 3) := by decide +kernel
theorem dX0_recall_16 : decode cX0_recall 16 = .ok (.aload_n 0, 1) := by decide +kernel
theorem dX0_recall_17 : decode cX0_recall 17 = .ok (.getfield 20, 3) := by decide +kernel
theorem dX0_recall_20 : decode cX0_recall 20 = .ok (.iconst 1, 1) := by decide +kernel
theorem dX0_recall_21 : decode cX0_recall 21 = .ok (.isub, 1) := by decide +kernel
theorem dX0_recall_22 : decode cX0_recall 22 = .ok (.goto 5, 3) := by decide +kernel
theorem dX0_recall_25 : decode cX0_recall 25 = .ok (.bipush 13, 2) := by decide +kernel
theorem dX0_recall_27 : decode cX0_recall 27 = .ok (.putfield 20, 3) := by decide +kernel
theorem dX0_recall_30 : decode cX0_recall 30 = .ok (.aload_n 0, 1) := by decide +kernel
theorem dX0_recall_31 : decode cX0_recall 31 = .ok (.dup, 1) := by decide +kernel
theorem dX0_recall_32 : decode cX0_recall 32 = .ok (.getfield 24, 3) := by decide +kernel
theorem dX0_recall_35 : decode cX0_recall 35 = .ok (.iconst 1, 1) := by decide +kernel
theorem dX0_recall_36 : decode cX0_recall 36 = .ok (.isub, 1) := by decide +kernel
theorem dX0_recall_37 : decode cX0_recall 37 = .ok (.putfield 24, 3) := by decide +kernel
theorem dX0_recall_40 : decode cX0_recall 40 = .ok (.aload_n 0, 1) := by decide +kernel
theorem dX0_recall_41 : decode cX0_recall 41 = .ok (.getfield 14, 3) := by decide +kernel
theorem dX0_recall_44 : decode cX0_recall 44 = .ok (.aload_n 0, 1) := by decide +kernel
theorem dX0_recall_45 : decode cX0_recall 45 = .ok (.getfield 20, 3) := by decide +kernel
theorem dX0_recall_48 : decode cX0_recall 48 = .ok (.aload_n 1, 1) := by decide +kernel
theorem dX0_recall_49 : decode cX0_recall 49 = .ok (.invokevirtual 37, 3) := by decide +kernel
theorem dX0_recall_52 : decode cX0_recall 52 = .ok (.return_, 1) := by decide +kernel
theorem dX0_forget_0 : decode cX0_forget 0 = .ok (.aload_n 0, 1) := by decide +kernel
theorem dX0_forget_1 : decode cX0_forget 1 = .ok (.iconst 0, 1) := by decide +kernel
theorem dX0_forget_2 : decode cX0_forget 2 = .ok (.putfield 24, 3) := by decide +kernel
theorem dX0_forget_5 : decode cX0_forget 5 = .ok (.return_, 1) := by decide +kernel
theorem dX1_init_0 : decode cX1_init 0 = .ok (.aload_n 0, 1) := by decide +kernel
theorem dX1_init_1 : decode cX1_init 1 = .ok (.invokespecial 3, 3) := by decide +kernel
theorem dX1_init_4 : decode cX1_init 4 = .ok (.aload_n 0, 1) := by decide +kernel
theorem dX1_init_5 : decode cX1_init 5 = .ok (.iconst 0, 1) := by decide +kernel
theorem dX1_init_6 : decode cX1_init 6 = .ok (.putfield 9, 3) := by decide +kernel
theorem dX1_init_9 : decode cX1_init 9 = .ok (.aload_n 0, 1) := by decide +kernel
theorem dX1_init_10 : decode cX1_init 10 = .ok (.iconst 0, 1) := by decide +kernel
theorem dX1_init_11 : decode cX1_init 11 = .ok (.putfield 15, 3) := by decide +kernel
theorem dX1_init_14 : decode cX1_init 14 = .ok (.aload_n 0, 1) := by decide +kernel
theorem dX1_init_15 : decode cX1_init 15 = .ok (.iconst 0, 1) := by decide +kernel
theorem dX1_init_16 : decode cX1_init 16 = .ok (.putfield 18, 3) := by decide +kernel
theorem dX1_init_19 : decode cX1_init 19 = .ok (.return_, 1) := by decide +kernel
theorem dX1_compute_0 : decode cX1_compute 0 = .ok (.aload_n 0, 1) := by decide +kernel
theorem dX1_compute_1 : decode cX1_compute 1 = .ok (.aload_n 1, 1) := by decide +kernel
theorem dX1_compute_2 : decode cX1_compute 2 = .ok (.invokevirtual 21, 3) := by decide +kernel
theorem dX1_compute_5 : decode cX1_compute 5 = .ok (.iload_n 3, 1) := by decide +kernel
theorem dX1_compute_6 : decode cX1_compute 6 = .ok (.invokestatic 27, 3) := by decide +kernel
theorem dX1_compute_9 : decode cX1_compute 9 = .ok (.ior, 1) := by decide +kernel
theorem dX1_compute_10 : decode cX1_compute 10 = .ok (.putfield 18, 3) := by decide +kernel
theorem dX1_compute_13 : decode cX1_compute 13 = .ok (.aload_n 0, 1) := by decide +kernel
theorem dX1_compute_14 : decode cX1_compute 14 = .ok (.aload_n 2, 1) := by decide +kernel
theorem dX1_compute_15 : decode cX1_compute 15 = .ok (.getfield 31, 3) := by decide +kernel
theorem dX1_compute_18 : decode cX1_compute 18 = .ok (.iload_n 3, 1) := by decide +kernel
theorem dX1_compute_19 : decode cX1_compute 19 = .ok (.invokestatic 27, 3) := by decide +kernel
theorem dX1_compute_22 : decode cX1_compute 22 = .ok (.iconst (-1), 1) := by decide +kernel
theorem dX1_compute_23 : decode cX1_compute 23 = .ok (.ixor, 1) := by decide +kernel
theorem dX1_compute_24 : decode cX1_compute 24 = .ok (.iand, 1) := by decide +kernel
theorem dX1_compute_25 : decode cX1_compute 25 = .ok (.putfield 9, 3) := by decide +kernel
theorem dX1_compute_28 : decode cX1_compute 28 = .ok (.aload_n 0, 1) := by decide +kernel
theorem dX1_compute_29 : decode cX1_compute 29 = .ok (.aload_n 2, 1) := by decide +kernel
theorem dX1_compute_30 : decode cX1_compute 30 = .ok (.getfield 34, 3) := by decide +kernel
theorem dX1_compute_33 : decode cX1_compute 33 = .ok (.iload_n 3, 1) := by decide +kernel
theorem dX1_compute_34 : decode cX1_compute 34 = .ok (.invokestatic 27, 3) := by decide +kernel
theorem dX1_compute_37 : decode cX1_compute 37 = .ok (.iconst (-1), 1) := by decide +kernel
theorem dX1_compute_38 : decode cX1_compute 38 = .ok (.ixor, 1) := by decide +kernel
theorem dX1_compute_39 : decode cX1_compute 39 = .ok (.iand, 1) := by decide +kernel
theorem dX1_compute_40 : decode cX1_compute 40 = .ok (.putfield 15, 3) := by decide +kernel
theorem dX1_compute_43 : decode cX1_compute 43 = .ok (.iconst 0, 1) := by decide +kernel
theorem dX1_compute_44 : decode cX1_compute 44 = .ok (.istore 4, 2) := by decide +kernel
theorem dX1_compute_46 : decode cX1_compute 46 = .ok (.iload 4, 2) := by decide +kernel
theorem dX1_compute_48 : decode cX1_compute 48 = .ok (.aload_n 1, 1) := by decide +kernel
theorem dX1_compute_49 : decode cX1_compute 49 = .ok (.getfield 35, 3) := by decide +kernel
theorem dX1_compute_52 : decode cX1_compute 52 = .ok (.if_icmp .ge 43, 3) := by decide +kernel
theorem dX1_compute_55 : decode cX1_compute 55 = .ok (.aload_n 0, 1) := by decide +kernel
theorem dX1_compute_56 : decode cX1_compute 56 = .ok (.getfield 18, 3) := by decide +kernel
theorem dX1_compute_59 : decode cX1_compute 59 = .ok (.istore 5, 2) := by decide +kernel
theorem dX1_compute_61 : decode cX1_compute 61 = .ok (.aload_n 0, 1) := by decide +kernel
theorem dX1_compute_62 : decode cX1_compute 62 = .ok (.aload_n 1, 1) := by decide +kernel
theorem dX1_compute_63 : decode cX1_compute 63 = .ok (.invokevirtual 38, 3) := by decide +kernel
theorem dX1_compute_66 : decode cX1_compute 66 = .ok (.aload_n 0, 1) := by decide +kernel
theorem dX1_compute_67 : decode cX1_compute 67 = .ok (.getfield 18, 3) := by decide +kernel
theorem dX1_compute_70 : decode cX1_compute 70 = .ok (.iload 5, 2) := by decide +kernel
theorem dX1_compute_72 : decode cX1_compute 72 = .ok (.if_icmp .eq 23, 3) := by decide +kernel
theorem dX1_compute_75 : decode cX1_compute 75 = .ok (.aload_n 0, 1) := by decide +kernel
theorem dX1_compute_76 : decode cX1_compute 76 = .ok (.getfield 18, 3) := by decide +kernel
theorem dX1_compute_79 : decode cX1_compute 79 = .ok (.aload_n 1, 1) := by decide +kernel
theorem dX1_compute_80 : decode cX1_compute 80 = .ok (.invokevirtual 42, 3) := by decide +kernel
theorem dX1_compute_83 : decode cX1_compute 83 = .ok (.if_icmp .ne 6, 3) := by decide +kernel
theorem dX1_compute_86 : decode cX1_compute 86 = .ok (.goto 9, 3) := by decide +kernel
theorem dX1_compute_89 : decode cX1_compute 89 = .ok (.iinc 4 1, 3) := by decide +kernel
theorem dX1_compute_92 : decode cX1_compute 92 = .ok (.goto (-46), 3) := by decide +kernel
theorem dX1_compute_95 : decode cX1_compute 95 = .ok (.aload_n 0, 1) := by decide +kernel
theorem dX1_compute_96 : decode cX1_compute 96 = .ok (.dup, 1) := by decide +kernel
theorem dX1_compute_97 : decode cX1_compute 97 = .ok (.getfield 15, 3) := by decide +kernel
theorem dX1_compute_100 : decode cX1_compute 100 = .ok (.aload_n 1, 1) := by decide +kernel
theorem dX1_compute_101 : decode cX1_compute 101 = .ok (.invokevirtual 42, 3) := by decide +kernel
theorem dX1_compute_104 : decode cX1_compute 104 = .ok (.aload_n 0, 1) := by decide +kernel
theorem dX1_compute_105 : decode cX1_compute 105 = .ok (.getfield 18, 3) := by decide +kernel
theorem dX1_compute_108 : decode cX1_compute 108 = .ok (.iconst (-1), 1) := by decide +kernel
theorem dX1_compute_109 : decode cX1_compute 109 = .ok (.ixor, 1) := by decide +kernel
theorem dX1_compute_110 : decode cX1_compute 110 = .ok (.iand, 1) := by decide +kernel
theorem dX1_compute_111 : decode cX1_compute 111 = .ok (.ior, 1) := by decide +kernel
theorem dX1_compute_112 : decode cX1_compute 112 = .ok (.putfield 15, 3) := by decide +kernel
theorem dX1_compute_115 : decode cX1_compute 115 = .ok (.return_, 1) := by decide +kernel
theorem dX1_settle_0 : decode cX1_settle 0 = .ok (.iconst 0, 1) := by decide +kernel
theorem dX1_settle_1 : decode cX1_settle 1 = .ok (.istore_n 2, 1) := by decide +kernel
theorem dX1_settle_2 : decode cX1_settle 2 = .ok (.iload_n 2, 1) := by decide +kernel
theorem dX1_settle_3 : decode cX1_settle 3 = .ok (.aload_n 1, 1) := by decide +kernel
theorem dX1_settle_4 : decode cX1_settle 4 = .ok (.getfield 35, 3) := by decide +kernel
theorem dX1_settle_7 : decode cX1_settle 7 = .ok (.if_icmp .ge 100, 3) := by decide +kernel
theorem dX1_settle_10 : decode cX1_settle 10 = .ok (.aload_n 0, 1) := by decide +kernel
theorem dX1_settle_11 : decode cX1_settle 11 = .ok (.getfield 18, 3) := by decide +kernel
theorem dX1_settle_14 : decode cX1_settle 14 = .ok (.iload_n 2, 1) := by decide +kernel
theorem dX1_settle_15 : decode cX1_settle 15 = .ok (.invokestatic 27, 3) := by decide +kernel
theorem dX1_settle_18 : decode cX1_settle 18 = .ok (.iand, 1) := by decide +kernel
theorem dX1_settle_19 : decode cX1_settle 19 = .ok (.ifCond .ne 82, 3) := by decide +kernel
theorem dX1_settle_22 : decode cX1_settle 22 = .ok (.aload_n 1, 1) := by decide +kernel
theorem dX1_settle_23 : decode cX1_settle 23 = .ok (.iload_n 2, 1) := by decide +kernel
theorem dX1_settle_24 : decode cX1_settle 24 = .ok (.invokevirtual 45, 3) := by decide +kernel
theorem dX1_settle_27 : decode cX1_settle 27 = .ok (.aload_n 0, 1) := by decide +kernel
theorem dX1_settle_28 : decode cX1_settle 28 = .ok (.getfield 18, 3) := by decide +kernel
theorem dX1_settle_31 : decode cX1_settle 31 = .ok (.iconst (-1), 1) := by decide +kernel
theorem dX1_settle_32 : decode cX1_settle 32 = .ok (.ixor, 1) := by decide +kernel
theorem dX1_settle_33 : decode cX1_settle 33 = .ok (.iand, 1) := by decide +kernel
theorem dX1_settle_34 : decode cX1_settle 34 = .ok (.ifCond .ne 67, 3) := by decide +kernel
theorem dX1_settle_37 : decode cX1_settle 37 = .ok (.aload_n 0, 1) := by decide +kernel
theorem dX1_settle_38 : decode cX1_settle 38 = .ok (.getfield 9, 3) := by decide +kernel
theorem dX1_settle_41 : decode cX1_settle 41 = .ok (.aload_n 0, 1) := by decide +kernel
theorem dX1_settle_42 : decode cX1_settle 42 = .ok (.getfield 15, 3) := by decide +kernel
theorem dX1_settle_45 : decode cX1_settle 45 = .ok (.aload_n 1, 1) := by decide +kernel
theorem dX1_settle_46 : decode cX1_settle 46 = .ok (.iload_n 2, 1) := by decide +kernel
theorem dX1_settle_47 : decode cX1_settle 47 = .ok (.invokevirtual 48, 3) := by decide +kernel
theorem dX1_settle_50 : decode cX1_settle 50 = .ok (.invokestatic 51, 3) := by decide +kernel
theorem dX1_settle_53 : decode cX1_settle 53 = .ok (.istore_n 3, 1) := by decide +kernel
theorem dX1_settle_54 : decode cX1_settle 54 = .ok (.aload_n 0, 1) := by decide +kernel
theorem dX1_settle_55 : decode cX1_settle 55 = .ok (.getfield 9, 3) := by decide +kernel
theorem dX1_settle_58 : decode cX1_settle 58 = .ok (.aload_n 0, 1) := by decide +kernel
theorem dX1_settle_59 : decode cX1_settle 59 = .ok (.getfield 15, 3) := by decide +kernel
theorem dX1_settle_62 : decode cX1_settle 62 = .ok (.aload_n 1, 1) := by decide +kernel
theorem dX1_settle_63 : decode cX1_settle 63 = .ok (.iload_n 2, 1) := by decide +kernel
theorem dX1_settle_64 : decode cX1_settle 64 = .ok (.invokevirtual 55, 3) := by decide +kernel
theorem dX1_settle_67 : decode cX1_settle 67 = .ok (.invokestatic 51, 3) := by decide +kernel
theorem dX1_settle_70 : decode cX1_settle 70 = .ok (.istore 4, 2) := by decide +kernel
theorem dX1_settle_72 : decode cX1_settle 72 = .ok (.aload_n 0, 1) := by decide +kernel
theorem dX1_settle_73 : decode cX1_settle 73 = .ok (.iload_n 2, 1) := by decide +kernel
theorem dX1_settle_74 : decode cX1_settle 74 = .ok (.aload_n 1, 1) := by decide +kernel
theorem dX1_settle_75 : decode cX1_settle 75 = .ok (.iload_n 2, 1) := by decide +kernel
theorem dX1_settle_76 : decode cX1_settle 76 = .ok (.invokevirtual 58, 3) := by decide +kernel
theorem dX1_settle_79 : decode cX1_settle 79 = .ok (.iload_n 3, 1) := by decide +kernel
theorem dX1_settle_80 : decode cX1_settle 80 = .ok (.iload 4, 2) := by decide +kernel
theorem dX1_settle_82 : decode cX1_settle 82 = .ok (.invokestatic 61, 3) := by decide +kernel
theorem dX1_settle_85 : decode cX1_settle 85 = .ok (.invokevirtual 64, 3) := by decide +kernel
theorem dX1_settle_88 : decode cX1_settle 88 = .ok (.aload_n 0, 1) := by decide +kernel
theorem dX1_settle_89 : decode cX1_settle 89 = .ok (.dup, 1) := by decide +kernel
theorem dX1_settle_90 : decode cX1_settle 90 = .ok (.getfield 18, 3) := by decide +kernel
theorem dX1_settle_93 : decode cX1_settle 93 = .ok (.iload_n 2, 1) := by decide +kernel
theorem dX1_settle_94 : decode cX1_settle 94 = .ok (.invokestatic 27, 3) := by decide +kernel
theorem dX1_settle_97 : decode cX1_settle 97 = .ok (.ior, 1) := by decide +kernel
theorem dX1_settle_98 : decode cX1_settle 98 = .ok (.putfield 18, 3) := by decide +kernel
theorem dX1_settle_101 : decode cX1_settle 101 = .ok (.iinc 2 1, 3) := by decide +kernel
theorem dX1_settle_104 : decode cX1_settle 104 = .ok (.goto (-102), 3) := by decide +kernel
theorem dX1_settle_107 : decode cX1_settle 107 = .ok (.return_, 1) := by decide +kernel
theorem dX1_setValue_0 : decode cX1_setValue 0 = .ok (.iload_n 2, 1) := by decide +kernel
theorem dX1_setValue_1 : decode cX1_setValue 1 = .ok (.iconst 1, 1) := by decide +kernel
theorem dX1_setValue_2 : decode cX1_setValue 2 = .ok (.if_icmp .ne 16, 3) := by decide +kernel
theorem dX1_setValue_5 : decode cX1_setValue 5 = .ok (.aload_n 0, 1) := by decide +kernel
theorem dX1_setValue_6 : decode cX1_setValue 6 = .ok (.dup, 1) := by decide +kernel
theorem dX1_setValue_7 : decode cX1_setValue 7 = .ok (.getfield 9, 3) := by decide +kernel
theorem dX1_setValue_10 : decode cX1_setValue 10 = .ok (.iload_n 1, 1) := by decide +kernel
theorem dX1_setValue_11 : decode cX1_setValue 11 = .ok (.invokestatic 27, 3) := by decide +kernel
theorem dX1_setValue_14 : decode cX1_setValue 14 = .ok (.ior, 1) := by decide +kernel
theorem dX1_setValue_15 : decode cX1_setValue 15 = .ok (.putfield 9, 3) := by decide +kernel
theorem dX1_setValue_18 : decode cX1_setValue 18 = .ok (.iload_n 2, 1) := by decide +kernel
theorem dX1_setValue_19 : decode cX1_setValue 19 = .ok (.iconst 2, 1) := by decide +kernel
theorem dX1_setValue_20 : decode cX1_setValue 20 = .ok (.if_icmp .ne 16, 3) := by decide +kernel
theorem dX1_setValue_23 : decode cX1_setValue 23 = .ok (.aload_n 0, 1) := by decide +kernel
theorem dX1_setValue_24 : decode cX1_setValue 24 = .ok (.dup, 1) := by decide +kernel
theorem dX1_setValue_25 : decode cX1_setValue 25 = .ok (.getfield 15, 3) := by decide +kernel
theorem dX1_setValue_28 : decode cX1_setValue 28 = .ok (.iload_n 1, 1) := by decide +kernel
theorem dX1_setValue_29 : decode cX1_setValue 29 = .ok (.invokestatic 27, 3) := by decide +kernel
theorem dX1_setValue_32 : decode cX1_setValue 32 = .ok (.ior, 1) := by decide +kernel
theorem dX1_setValue_33 : decode cX1_setValue 33 = .ok (.putfield 15, 3) := by decide +kernel
theorem dX1_setValue_36 : decode cX1_setValue 36 = .ok (.return_, 1) := by decide +kernel
theorem dX1_outcome_0 : decode cX1_outcome 0 = .ok (.iload_n 1, 1) := by decide +kernel
theorem dX1_outcome_1 : decode cX1_outcome 1 = .ok (.iconst 2, 1) := by decide +kernel
theorem dX1_outcome_2 : decode cX1_outcome 2 = .ok (.if_icmp .eq 8, 3) := by decide +kernel
theorem dX1_outcome_5 : decode cX1_outcome 5 = .ok (.iload_n 2, 1) := by decide +kernel
theorem dX1_outcome_6 : decode cX1_outcome 6 = .ok (.iconst 2, 1) := by decide +kernel
theorem dX1_outcome_7 : decode cX1_outcome 7 = .ok (.if_icmp .ne 7, 3) := by decide +kernel
theorem dX1_outcome_10 : decode cX1_outcome 10 = .ok (.iconst 1, 1) := by decide +kernel
theorem dX1_outcome_11 : decode cX1_outcome 11 = .ok (.goto 4, 3) := by decide +kernel
theorem dX1_outcome_14 : decode cX1_outcome 14 = .ok (.iconst 0, 1) := by decide +kernel
theorem dX1_outcome_15 : decode cX1_outcome 15 = .ok (.istore_n 3, 1) := by decide +kernel
theorem dX1_outcome_16 : decode cX1_outcome 16 = .ok (.iload_n 0, 1) := by decide +kernel
theorem dX1_outcome_17 : decode cX1_outcome 17 = .ok (.tableswitch 102 1 4 #[31, 44, 66, 90], 31) := by decide +kernel
theorem dX1_outcome_48 : decode cX1_outcome 48 = .ok (.iload_n 1, 1) := by decide +kernel
theorem dX1_outcome_49 : decode cX1_outcome 49 = .ok (.iconst 2, 1) := by decide +kernel
theorem dX1_outcome_50 : decode cX1_outcome 50 = .ok (.if_icmp .ne 7, 3) := by decide +kernel
theorem dX1_outcome_53 : decode cX1_outcome 53 = .ok (.iconst 2, 1) := by decide +kernel
theorem dX1_outcome_54 : decode cX1_outcome 54 = .ok (.goto 6, 3) := by decide +kernel
theorem dX1_outcome_57 : decode cX1_outcome 57 = .ok (.iconst 1, 1) := by decide +kernel
theorem dX1_outcome_58 : decode cX1_outcome 58 = .ok (.iload_n 1, 1) := by decide +kernel
theorem dX1_outcome_59 : decode cX1_outcome 59 = .ok (.isub, 1) := by decide +kernel
theorem dX1_outcome_60 : decode cX1_outcome 60 = .ok (.ireturn, 1) := by decide +kernel
theorem dX1_outcome_61 : decode cX1_outcome 61 = .ok (.iload_n 1, 1) := by decide +kernel
theorem dX1_outcome_62 : decode cX1_outcome 62 = .ok (.ifCond .eq 7, 3) := by decide +kernel
theorem dX1_outcome_65 : decode cX1_outcome 65 = .ok (.iload_n 2, 1) := by decide +kernel
theorem dX1_outcome_66 : decode cX1_outcome 66 = .ok (.ifCond .ne 7, 3) := by decide +kernel
theorem dX1_outcome_69 : decode cX1_outcome 69 = .ok (.iconst 0, 1) := by decide +kernel
theorem dX1_outcome_70 : decode cX1_outcome 70 = .ok (.goto 12, 3) := by decide +kernel
theorem dX1_outcome_73 : decode cX1_outcome 73 = .ok (.iload_n 3, 1) := by decide +kernel
theorem dX1_outcome_74 : decode cX1_outcome 74 = .ok (.ifCond .eq 7, 3) := by decide +kernel
theorem dX1_outcome_77 : decode cX1_outcome 77 = .ok (.iconst 2, 1) := by decide +kernel
theorem dX1_outcome_78 : decode cX1_outcome 78 = .ok (.goto 4, 3) := by decide +kernel
theorem dX1_outcome_81 : decode cX1_outcome 81 = .ok (.iconst 1, 1) := by decide +kernel
theorem dX1_outcome_82 : decode cX1_outcome 82 = .ok (.ireturn, 1) := by decide +kernel
theorem dX1_outcome_83 : decode cX1_outcome 83 = .ok (.iload_n 1, 1) := by decide +kernel
theorem dX1_outcome_84 : decode cX1_outcome 84 = .ok (.iconst 1, 1) := by decide +kernel
theorem dX1_outcome_85 : decode cX1_outcome 85 = .ok (.if_icmp .eq 8, 3) := by decide +kernel
theorem dX1_outcome_88 : decode cX1_outcome 88 = .ok (.iload_n 2, 1) := by decide +kernel
theorem dX1_outcome_89 : decode cX1_outcome 89 = .ok (.iconst 1, 1) := by decide +kernel
theorem dX1_outcome_90 : decode cX1_outcome 90 = .ok (.if_icmp .ne 7, 3) := by decide +kernel
theorem dX1_outcome_93 : decode cX1_outcome 93 = .ok (.iconst 1, 1) := by decide +kernel
theorem dX1_outcome_94 : decode cX1_outcome 94 = .ok (.goto 12, 3) := by decide +kernel
theorem dX1_outcome_97 : decode cX1_outcome 97 = .ok (.iload_n 3, 1) := by decide +kernel
theorem dX1_outcome_98 : decode cX1_outcome 98 = .ok (.ifCond .eq 7, 3) := by decide +kernel
theorem dX1_outcome_101 : decode cX1_outcome 101 = .ok (.iconst 2, 1) := by decide +kernel
theorem dX1_outcome_102 : decode cX1_outcome 102 = .ok (.goto 4, 3) := by decide +kernel
theorem dX1_outcome_105 : decode cX1_outcome 105 = .ok (.iconst 0, 1) := by decide +kernel
theorem dX1_outcome_106 : decode cX1_outcome 106 = .ok (.ireturn, 1) := by decide +kernel
theorem dX1_outcome_107 : decode cX1_outcome 107 = .ok (.iload_n 3, 1) := by decide +kernel
theorem dX1_outcome_108 : decode cX1_outcome 108 = .ok (.ifCond .eq 7, 3) := by decide +kernel
theorem dX1_outcome_111 : decode cX1_outcome 111 = .ok (.iconst 2, 1) := by decide +kernel
theorem dX1_outcome_112 : decode cX1_outcome 112 = .ok (.goto 6, 3) := by decide +kernel
theorem dX1_outcome_115 : decode cX1_outcome 115 = .ok (.iload_n 1, 1) := by decide +kernel
theorem dX1_outcome_116 : decode cX1_outcome 116 = .ok (.iload_n 2, 1) := by decide +kernel
theorem dX1_outcome_117 : decode cX1_outcome 117 = .ok (.ixor, 1) := by decide +kernel
theorem dX1_outcome_118 : decode cX1_outcome 118 = .ok (.ireturn, 1) := by decide +kernel
theorem dX1_outcome_119 : decode cX1_outcome 119 = .ok (.iconst 2, 1) := by decide +kernel
theorem dX1_outcome_120 : decode cX1_outcome 120 = .ok (.ireturn, 1) := by decide +kernel
theorem dX1_tick_0 : decode cX1_tick 0 = .ok (.aload_n 2, 1) := by decide +kernel
theorem dX1_tick_1 : decode cX1_tick 1 = .ok (.getfield 68, 3) := by decide +kernel
theorem dX1_tick_4 : decode cX1_tick 4 = .ok (.iconst 1, 1) := by decide +kernel
theorem dX1_tick_5 : decode cX1_tick 5 = .ok (.iand, 1) := by decide +kernel
theorem dX1_tick_6 : decode cX1_tick 6 = .ok (.iconst 1, 1) := by decide +kernel
theorem dX1_tick_7 : decode cX1_tick 7 = .ok (.if_icmp .ne 7, 3) := by decide +kernel
theorem dX1_tick_10 : decode cX1_tick 10 = .ok (.iconst 1, 1) := by decide +kernel
theorem dX1_tick_11 : decode cX1_tick 11 = .ok (.goto 4, 3) := by decide +kernel
theorem dX1_tick_14 : decode cX1_tick 14 = .ok (.iconst 0, 1) := by decide +kernel
theorem dX1_tick_15 : decode cX1_tick 15 = .ok (.istore_n 3, 1) := by decide +kernel
theorem dX1_tick_16 : decode cX1_tick 16 = .ok (.iload_n 3, 1) := by decide +kernel
theorem dX1_tick_17 : decode cX1_tick 17 = .ok (.ifCond .eq 10, 3) := by decide +kernel
theorem dX1_tick_20 : decode cX1_tick 20 = .ok (.aload_n 1, 1) := by decide +kernel
theorem dX1_tick_21 : decode cX1_tick 21 = .ok (.getfield 71, 3) := by decide +kernel
theorem dX1_tick_24 : decode cX1_tick 24 = .ok (.goto 14, 3) := by decide +kernel
theorem dX1_tick_27 : decode cX1_tick 27 = .ok (.aload_n 1, 1) := by decide +kernel
theorem dX1_tick_28 : decode cX1_tick 28 = .ok (.getfield 71, 3) := by decide +kernel
theorem dX1_tick_31 : decode cX1_tick 31 = .ok (.aload_n 1, 1) := by decide +kernel
theorem dX1_tick_32 : decode cX1_tick 32 = .ok (.getfield 74, 3) := by decide +kernel
theorem dX1_tick_35 : decode cX1_tick 35 = .ok (.iconst (-1), 1) := by decide +kernel
theorem dX1_tick_36 : decode cX1_tick 36 = .ok (.ixor, 1) := by decide +kernel
theorem dX1_tick_37 : decode cX1_tick 37 = .ok (.iand, 1) := by decide +kernel
theorem dX1_tick_38 : decode cX1_tick 38 = .ok (.istore 4, 2) := by decide +kernel
theorem dX1_tick_40 : decode cX1_tick 40 = .ok (.iconst 0, 1) := by decide +kernel
theorem dX1_tick_41 : decode cX1_tick 41 = .ok (.istore 5, 2) := by decide +kernel
theorem dX1_tick_43 : decode cX1_tick 43 = .ok (.iload 5, 2) := by decide +kernel
theorem dX1_tick_45 : decode cX1_tick 45 = .ok (.aload_n 1, 1) := by decide +kernel
theorem dX1_tick_46 : decode cX1_tick 46 = .ok (.getfield 35, 3) := by decide +kernel
theorem dX1_tick_49 : decode cX1_tick 49 = .ok (.if_icmp .ge 43, 3) := by decide +kernel
theorem dX1_tick_52 : decode cX1_tick 52 = .ok (.iload 4, 2) := by decide +kernel
theorem dX1_tick_54 : decode cX1_tick 54 = .ok (.iload 5, 2) := by decide +kernel
theorem dX1_tick_56 : decode cX1_tick 56 = .ok (.invokestatic 27, 3) := by decide +kernel
theorem dX1_tick_59 : decode cX1_tick 59 = .ok (.iand, 1) := by decide +kernel
theorem dX1_tick_60 : decode cX1_tick 60 = .ok (.ifCond .eq 26, 3) := by decide +kernel
theorem dX1_tick_63 : decode cX1_tick 63 = .ok (.aload_n 2, 1) := by decide +kernel
theorem dX1_tick_64 : decode cX1_tick 64 = .ok (.iload 5, 2) := by decide +kernel
theorem dX1_tick_66 : decode cX1_tick 66 = .ok (.aload_n 0, 1) := by decide +kernel
theorem dX1_tick_67 : decode cX1_tick 67 = .ok (.getfield 9, 3) := by decide +kernel
theorem dX1_tick_70 : decode cX1_tick 70 = .ok (.aload_n 0, 1) := by decide +kernel
theorem dX1_tick_71 : decode cX1_tick 71 = .ok (.getfield 15, 3) := by decide +kernel
theorem dX1_tick_74 : decode cX1_tick 74 = .ok (.aload_n 1, 1) := by decide +kernel
theorem dX1_tick_75 : decode cX1_tick 75 = .ok (.iload 5, 2) := by decide +kernel
theorem dX1_tick_77 : decode cX1_tick 77 = .ok (.invokevirtual 48, 3) := by decide +kernel
theorem dX1_tick_80 : decode cX1_tick 80 = .ok (.invokestatic 51, 3) := by decide +kernel
theorem dX1_tick_83 : decode cX1_tick 83 = .ok (.invokevirtual 77, 3) := by decide +kernel
theorem dX1_tick_86 : decode cX1_tick 86 = .ok (.iinc 5 1, 3) := by decide +kernel
theorem dX1_tick_89 : decode cX1_tick 89 = .ok (.goto (-46), 3) := by decide +kernel
theorem dX1_tick_92 : decode cX1_tick 92 = .ok (.aload_n 2, 1) := by decide +kernel
theorem dX1_tick_93 : decode cX1_tick 93 = .ok (.dup, 1) := by decide +kernel
theorem dX1_tick_94 : decode cX1_tick 94 = .ok (.getfield 68, 3) := by decide +kernel
theorem dX1_tick_97 : decode cX1_tick 97 = .ok (.iconst 1, 1) := by decide +kernel
theorem dX1_tick_98 : decode cX1_tick 98 = .ok (.iadd, 1) := by decide +kernel
theorem dX1_tick_99 : decode cX1_tick 99 = .ok (.putfield 68, 3) := by decide +kernel
theorem dX1_tick_102 : decode cX1_tick 102 = .ok (.return_, 1) := by decide +kernel
theorem dX2_init_0 : decode cX2_init 0 = .ok (.aload_n 0, 1) := by decide +kernel
theorem dX2_init_1 : decode cX2_init 1 = .ok (.invokespecial 3, 3) := by decide +kernel
theorem dX2_init_4 : decode cX2_init 4 = .ok (.aload_n 0, 1) := by decide +kernel
theorem dX2_init_5 : decode cX2_init 5 = .ok (.iconst 1, 1) := by decide +kernel
theorem dX2_init_6 : decode cX2_init 6 = .ok (.putfield 9, 3) := by decide +kernel
theorem dX2_init_9 : decode cX2_init 9 = .ok (.aload_n 0, 1) := by decide +kernel
theorem dX2_init_10 : decode cX2_init 10 = .ok (.iconst 1, 1) := by decide +kernel
theorem dX2_init_11 : decode cX2_init 11 = .ok (.putfield 15, 3) := by decide +kernel
theorem dX2_init_14 : decode cX2_init 14 = .ok (.aload_n 0, 1) := by decide +kernel
theorem dX2_init_15 : decode cX2_init 15 = .ok (.iconst 0, 1) := by decide +kernel
theorem dX2_init_16 : decode cX2_init 16 = .ok (.putfield 18, 3) := by decide +kernel
theorem dX2_init_19 : decode cX2_init 19 = .ok (.aload_n 0, 1) := by decide +kernel
theorem dX2_init_20 : decode cX2_init 20 = .ok (.iconst 0, 1) := by decide +kernel
theorem dX2_init_21 : decode cX2_init 21 = .ok (.putfield 21, 3) := by decide +kernel
theorem dX2_init_24 : decode cX2_init 24 = .ok (.aload_n 0, 1) := by decide +kernel
theorem dX2_init_25 : decode cX2_init 25 = .ok (.iconst 0, 1) := by decide +kernel
theorem dX2_init_26 : decode cX2_init 26 = .ok (.putfield 24, 3) := by decide +kernel
theorem dX2_init_29 : decode cX2_init 29 = .ok (.aload_n 0, 1) := by decide +kernel
theorem dX2_init_30 : decode cX2_init 30 = .ok (.iconst 0, 1) := by decide +kernel
theorem dX2_init_31 : decode cX2_init 31 = .ok (.putfield 27, 3) := by decide +kernel
theorem dX2_init_34 : decode cX2_init 34 = .ok (.aload_n 0, 1) := by decide +kernel
theorem dX2_init_35 : decode cX2_init 35 = .ok (.iconst 0, 1) := by decide +kernel
theorem dX2_init_36 : decode cX2_init 36 = .ok (.putfield 30, 3) := by decide +kernel
theorem dX2_init_39 : decode cX2_init 39 = .ok (.aload_n 0, 1) := by decide +kernel
theorem dX2_init_40 : decode cX2_init 40 = .ok (.bipush 10, 2) := by decide +kernel
theorem dX2_init_42 : decode cX2_init 42 = .ok (.newarray .int, 2) := by decide +kernel
theorem dX2_init_44 : decode cX2_init 44 = .ok (.putfield 33, 3) := by decide +kernel
theorem dX2_init_47 : decode cX2_init 47 = .ok (.aload_n 0, 1) := by decide +kernel
theorem dX2_init_48 : decode cX2_init 48 = .ok (.bipush 10, 2) := by decide +kernel
theorem dX2_init_50 : decode cX2_init 50 = .ok (.newarray .int, 2) := by decide +kernel
theorem dX2_init_52 : decode cX2_init 52 = .ok (.putfield 37, 3) := by decide +kernel
theorem dX2_init_55 : decode cX2_init 55 = .ok (.aload_n 0, 1) := by decide +kernel
theorem dX2_init_56 : decode cX2_init 56 = .ok (.bipush 10, 2) := by decide +kernel
theorem dX2_init_58 : decode cX2_init 58 = .ok (.newarray .int, 2) := by decide +kernel
theorem dX2_init_60 : decode cX2_init 60 = .ok (.putfield 40, 3) := by decide +kernel
theorem dX2_init_63 : decode cX2_init 63 = .ok (.aload_n 0, 1) := by decide +kernel
theorem dX2_init_64 : decode cX2_init 64 = .ok (.bipush 10, 2) := by decide +kernel
theorem dX2_init_66 : decode cX2_init 66 = .ok (.newarray .int, 2) := by decide +kernel
theorem dX2_init_68 : decode cX2_init 68 = .ok (.putfield 43, 3) := by decide +kernel
theorem dX2_init_71 : decode cX2_init 71 = .ok (.aload_n 0, 1) := by decide +kernel
theorem dX2_init_72 : decode cX2_init 72 = .ok (.bipush 10, 2) := by decide +kernel
theorem dX2_init_74 : decode cX2_init 74 = .ok (.newarray .int, 2) := by decide +kernel
theorem dX2_init_76 : decode cX2_init 76 = .ok (.putfield 46, 3) := by decide +kernel
theorem dX2_init_79 : decode cX2_init 79 = .ok (.return_, 1) := by decide +kernel
theorem dX2_clear_0 : decode cX2_clear 0 = .ok (.aload_n 0, 1) := by decide +kernel
theorem dX2_clear_1 : decode cX2_clear 1 = .ok (.iconst 1, 1) := by decide +kernel
theorem dX2_clear_2 : decode cX2_clear 2 = .ok (.putfield 9, 3) := by decide +kernel
theorem dX2_clear_5 : decode cX2_clear 5 = .ok (.aload_n 0, 1) := by decide +kernel
theorem dX2_clear_6 : decode cX2_clear 6 = .ok (.iconst 1, 1) := by decide +kernel
theorem dX2_clear_7 : decode cX2_clear 7 = .ok (.putfield 15, 3) := by decide +kernel
theorem dX2_clear_10 : decode cX2_clear 10 = .ok (.aload_n 0, 1) := by decide +kernel
theorem dX2_clear_11 : decode cX2_clear 11 = .ok (.iconst 0, 1) := by decide +kernel
theorem dX2_clear_12 : decode cX2_clear 12 = .ok (.putfield 18, 3) := by decide +kernel
theorem dX2_clear_15 : decode cX2_clear 15 = .ok (.aload_n 0, 1) := by decide +kernel
theorem dX2_clear_16 : decode cX2_clear 16 = .ok (.iconst 0, 1) := by decide +kernel
theorem dX2_clear_17 : decode cX2_clear 17 = .ok (.putfield 21, 3) := by decide +kernel
theorem dX2_clear_20 : decode cX2_clear 20 = .ok (.aload_n 0, 1) := by decide +kernel
theorem dX2_clear_21 : decode cX2_clear 21 = .ok (.iconst 0, 1) := by decide +kernel
theorem dX2_clear_22 : decode cX2_clear 22 = .ok (.putfield 24, 3) := by decide +kernel
theorem dX2_clear_25 : decode cX2_clear 25 = .ok (.aload_n 0, 1) := by decide +kernel
theorem dX2_clear_26 : decode cX2_clear 26 = .ok (.iconst 0, 1) := by decide +kernel
theorem dX2_clear_27 : decode cX2_clear 27 = .ok (.putfield 27, 3) := by decide +kernel
theorem dX2_clear_30 : decode cX2_clear 30 = .ok (.aload_n 0, 1) := by decide +kernel
theorem dX2_clear_31 : decode cX2_clear 31 = .ok (.iconst 0, 1) := by decide +kernel
theorem dX2_clear_32 : decode cX2_clear 32 = .ok (.putfield 30, 3) := by decide +kernel
theorem dX2_clear_35 : decode cX2_clear 35 = .ok (.return_, 1) := by decide +kernel
theorem dX2_addGate_0 : decode cX2_addGate 0 = .ok (.aload_n 0, 1) := by decide +kernel
theorem dX2_addGate_1 : decode cX2_addGate 1 = .ok (.getfield 21, 3) := by decide +kernel
theorem dX2_addGate_4 : decode cX2_addGate 4 = .ok (.bipush 10, 2) := by decide +kernel
theorem dX2_addGate_6 : decode cX2_addGate 6 = .ok (.if_icmp .lt 4, 3) := by decide +kernel
theorem dX2_addGate_9 : decode cX2_addGate 9 = .ok (.return_, 1) := by decide +kernel
theorem dX2_addGate_10 : decode cX2_addGate 10 = .ok (.aload_n 0, 1) := by decide +kernel
theorem dX2_addGate_11 : decode cX2_addGate 11 = .ok (.getfield 33, 3) := by decide +kernel
theorem dX2_addGate_14 : decode cX2_addGate 14 = .ok (.aload_n 0, 1) := by decide +kernel
theorem dX2_addGate_15 : decode cX2_addGate 15 = .ok (.getfield 21, 3) := by decide +kernel
theorem dX2_addGate_18 : decode cX2_addGate 18 = .ok (.iload_n 1, 1) := by decide +kernel
theorem dX2_addGate_19 : decode cX2_addGate 19 = .ok (.invokestatic 49, 3) := by decide +kernel
theorem dX2_addGate_22 : decode cX2_addGate 22 = .ok (.aload_n 0, 1) := by decide +kernel
theorem dX2_addGate_23 : decode cX2_addGate 23 = .ok (.getfield 37, 3) := by decide +kernel
theorem dX2_addGate_26 : decode cX2_addGate 26 = .ok (.aload_n 0, 1) := by decide +kernel
theorem dX2_addGate_27 : decode cX2_addGate 27 = .ok (.getfield 21, 3) := by decide +kernel
theorem dX2_addGate_30 : decode cX2_addGate 30 = .ok (.bipush (-9), 2) := by decide +kernel
theorem dX2_addGate_32 : decode cX2_addGate 32 = .ok (.invokestatic 49, 3) := by decide +kernel
theorem dX2_addGate_35 : decode cX2_addGate 35 = .ok (.aload_n 0, 1) := by decide +kernel
theorem dX2_addGate_36 : decode cX2_addGate 36 = .ok (.getfield 40, 3) := by decide +kernel
theorem dX2_addGate_39 : decode cX2_addGate 39 = .ok (.aload_n 0, 1) := by decide +kernel
theorem dX2_addGate_40 : decode cX2_addGate 40 = .ok (.getfield 21, 3) := by decide +kernel
theorem dX2_addGate_43 : decode cX2_addGate 43 = .ok (.bipush (-9), 2) := by decide +kernel
theorem dX2_addGate_45 : decode cX2_addGate 45 = .ok (.invokestatic 49, 3) := by decide +kernel
theorem dX2_addGate_48 : decode cX2_addGate 48 = .ok (.aload_n 0, 1) := by decide +kernel
theorem dX2_addGate_49 : decode cX2_addGate 49 = .ok (.getfield 43, 3) := by decide +kernel
theorem dX2_addGate_52 : decode cX2_addGate 52 = .ok (.aload_n 0, 1) := by decide +kernel
theorem dX2_addGate_53 : decode cX2_addGate 53 = .ok (.getfield 21, 3) := by decide +kernel
theorem dX2_addGate_56 : decode cX2_addGate 56 = .ok (.bipush (-9), 2) := by decide +kernel
theorem dX2_addGate_58 : decode cX2_addGate 58 = .ok (.invokestatic 49, 3) := by decide +kernel
theorem dX2_addGate_61 : decode cX2_addGate 61 = .ok (.aload_n 0, 1) := by decide +kernel
theorem dX2_addGate_62 : decode cX2_addGate 62 = .ok (.getfield 46, 3) := by decide +kernel
theorem dX2_addGate_65 : decode cX2_addGate 65 = .ok (.aload_n 0, 1) := by decide +kernel
theorem dX2_addGate_66 : decode cX2_addGate 66 = .ok (.getfield 21, 3) := by decide +kernel
theorem dX2_addGate_69 : decode cX2_addGate 69 = .ok (.iconst 0, 1) := by decide +kernel
theorem dX2_addGate_70 : decode cX2_addGate 70 = .ok (.invokestatic 49, 3) := by decide +kernel
theorem dX2_addGate_73 : decode cX2_addGate 73 = .ok (.iload_n 1, 1) := by decide +kernel
theorem dX2_addGate_74 : decode cX2_addGate 74 = .ok (.ifCond .ne 19, 3) := by decide +kernel
theorem dX2_addGate_77 : decode cX2_addGate 77 = .ok (.aload_n 0, 1) := by decide +kernel
theorem dX2_addGate_78 : decode cX2_addGate 78 = .ok (.dup, 1) := by decide +kernel
theorem dX2_addGate_79 : decode cX2_addGate 79 = .ok (.getfield 24, 3) := by decide +kernel
theorem dX2_addGate_82 : decode cX2_addGate 82 = .ok (.aload_n 0, 1) := by decide +kernel
theorem dX2_addGate_83 : decode cX2_addGate 83 = .ok (.getfield 21, 3) := by decide +kernel
theorem dX2_addGate_86 : decode cX2_addGate 86 = .ok (.invokestatic 53, 3) := by decide +kernel
theorem dX2_addGate_89 : decode cX2_addGate 89 = .ok (.ior, 1) := by decide +kernel
theorem dX2_addGate_90 : decode cX2_addGate 90 = .ok (.putfield 24, 3) := by decide +kernel
theorem dX2_addGate_93 : decode cX2_addGate 93 = .ok (.iload_n 1, 1) := by decide +kernel
theorem dX2_addGate_94 : decode cX2_addGate 94 = .ok (.iconst 5, 1) := by decide +kernel
theorem dX2_addGate_95 : decode cX2_addGate 95 = .ok (.if_icmp .ne 19, 3) := by decide +kernel
theorem dX2_addGate_98 : decode cX2_addGate 98 = .ok (.aload_n 0, 1) := by decide +kernel
theorem dX2_addGate_99 : decode cX2_addGate 99 = .ok (.dup, 1) := by decide +kernel
theorem dX2_addGate_100 : decode cX2_addGate 100 = .ok (.getfield 27, 3) := by decide +kernel
theorem dX2_addGate_103 : decode cX2_addGate 103 = .ok (.aload_n 0, 1) := by decide +kernel
theorem dX2_addGate_104 : decode cX2_addGate 104 = .ok (.getfield 21, 3) := by decide +kernel
theorem dX2_addGate_107 : decode cX2_addGate 107 = .ok (.invokestatic 53, 3) := by decide +kernel
theorem dX2_addGate_110 : decode cX2_addGate 110 = .ok (.ior, 1) := by decide +kernel
theorem dX2_addGate_111 : decode cX2_addGate 111 = .ok (.putfield 27, 3) := by decide +kernel
theorem dX2_addGate_114 : decode cX2_addGate 114 = .ok (.aload_n 0, 1) := by decide +kernel
theorem dX2_addGate_115 : decode cX2_addGate 115 = .ok (.dup, 1) := by decide +kernel
theorem dX2_addGate_116 : decode cX2_addGate 116 = .ok (.getfield 21, 3) := by decide +kernel
theorem dX2_addGate_119 : decode cX2_addGate 119 = .ok (.iconst 1, 1) := by decide +kernel
theorem dX2_addGate_120 : decode cX2_addGate 120 = .ok (.iadd, 1) := by decide +kernel
theorem dX2_addGate_121 : decode cX2_addGate 121 = .ok (.putfield 21, 3) := by decide +kernel
theorem dX2_addGate_124 : decode cX2_addGate 124 = .ok (.return_, 1) := by decide +kernel
theorem dX2_lastKind_0 : decode cX2_lastKind 0 = .ok (.aload_n 0, 1) := by decide +kernel
theorem dX2_lastKind_1 : decode cX2_lastKind 1 = .ok (.aload_n 0, 1) := by decide +kernel
theorem dX2_lastKind_2 : decode cX2_lastKind 2 = .ok (.getfield 21, 3) := by decide +kernel
theorem dX2_lastKind_5 : decode cX2_lastKind 5 = .ok (.iconst 1, 1) := by decide +kernel
theorem dX2_lastKind_6 : decode cX2_lastKind 6 = .ok (.isub, 1) := by decide +kernel
theorem dX2_lastKind_7 : decode cX2_lastKind 7 = .ok (.invokevirtual 57, 3) := by decide +kernel
theorem dX2_lastKind_10 : decode cX2_lastKind 10 = .ok (.ireturn, 1) := by decide +kernel
theorem dX2_placeLast_0 : decode cX2_placeLast 0 = .ok (.aload_n 0, 1) := by decide +kernel
theorem dX2_placeLast_1 : decode cX2_placeLast 1 = .ok (.aload_n 0, 1) := by decide +kernel
theorem dX2_placeLast_2 : decode cX2_placeLast 2 = .ok (.getfield 18, 3) := by decide +kernel
theorem dX2_placeLast_5 : decode cX2_placeLast 5 = .ok (.aload_n 0, 1) := by decide +kernel
theorem dX2_placeLast_6 : decode cX2_placeLast 6 = .ok (.getfield 21, 3) := by decide +kernel
theorem dX2_placeLast_9 : decode cX2_placeLast 9 = .ok (.iconst 1, 1) := by decide +kernel
theorem dX2_placeLast_10 : decode cX2_placeLast 10 = .ok (.isub, 1) := by decide +kernel
theorem dX2_placeLast_11 : decode cX2_placeLast 11 = .ok (.iload_n 1, 1) := by decide +kernel
theorem dX2_placeLast_12 : decode cX2_placeLast 12 = .ok (.invokestatic 60, 3) := by decide +kernel
theorem dX2_placeLast_15 : decode cX2_placeLast 15 = .ok (.putfield 18, 3) := by decide +kernel
theorem dX2_placeLast_18 : decode cX2_placeLast 18 = .ok (.return_, 1) := by decide +kernel
theorem dX2_setFirst_0 : decode cX2_setFirst 0 = .ok (.aload_n 0, 1) := by decide +kernel
theorem dX2_setFirst_1 : decode cX2_setFirst 1 = .ok (.getfield 37, 3) := by decide +kernel
theorem dX2_setFirst_4 : decode cX2_setFirst 4 = .ok (.aload_n 0, 1) := by decide +kernel
theorem dX2_setFirst_5 : decode cX2_setFirst 5 = .ok (.getfield 21, 3) := by decide +kernel
theorem dX2_setFirst_8 : decode cX2_setFirst 8 = .ok (.iconst 1, 1) := by decide +kernel
theorem dX2_setFirst_9 : decode cX2_setFirst 9 = .ok (.isub, 1) := by decide +kernel
theorem dX2_setFirst_10 : decode cX2_setFirst 10 = .ok (.iload_n 1, 1) := by decide +kernel
theorem dX2_setFirst_11 : decode cX2_setFirst 11 = .ok (.invokestatic 49, 3) := by decide +kernel
theorem dX2_setFirst_14 : decode cX2_setFirst 14 = .ok (.aload_n 0, 1) := by decide +kernel
theorem dX2_setFirst_15 : decode cX2_setFirst 15 = .ok (.getfield 46, 3) := by decide +kernel
theorem dX2_setFirst_18 : decode cX2_setFirst 18 = .ok (.aload_n 0, 1) := by decide +kernel
theorem dX2_setFirst_19 : decode cX2_setFirst 19 = .ok (.getfield 21, 3) := by decide +kernel
theorem dX2_setFirst_22 : decode cX2_setFirst 22 = .ok (.iconst 1, 1) := by decide +kernel
theorem dX2_setFirst_23 : decode cX2_setFirst 23 = .ok (.isub, 1) := by decide +kernel
theorem dX2_setFirst_24 : decode cX2_setFirst 24 = .ok (.iload_n 1, 1) := by decide +kernel
theorem dX2_setFirst_25 : decode cX2_setFirst 25 = .ok (.invokestatic 53, 3) := by decide +kernel
theorem dX2_setFirst_28 : decode cX2_setFirst 28 = .ok (.invokestatic 49, 3) := by decide +kernel
theorem dX2_setFirst_31 : decode cX2_setFirst 31 = .ok (.return_, 1) := by decide +kernel
theorem dX2_setSecond_0 : decode cX2_setSecond 0 = .ok (.aload_n 0, 1) := by decide +kernel
theorem dX2_setSecond_1 : decode cX2_setSecond 1 = .ok (.getfield 40, 3) := by decide +kernel
theorem dX2_setSecond_4 : decode cX2_setSecond 4 = .ok (.aload_n 0, 1) := by decide +kernel
theorem dX2_setSecond_5 : decode cX2_setSecond 5 = .ok (.getfield 21, 3) := by decide +kernel
theorem dX2_setSecond_8 : decode cX2_setSecond 8 = .ok (.iconst 1, 1) := by decide +kernel
theorem dX2_setSecond_9 : decode cX2_setSecond 9 = .ok (.isub, 1) := by decide +kernel
theorem dX2_setSecond_10 : decode cX2_setSecond 10 = .ok (.iload_n 1, 1) := by decide +kernel
theorem dX2_setSecond_11 : decode cX2_setSecond 11 = .ok (.invokestatic 49, 3) := by decide +kernel
theorem dX2_setSecond_14 : decode cX2_setSecond 14 = .ok (.aload_n 0, 1) := by decide +kernel
theorem dX2_setSecond_15 : decode cX2_setSecond 15 = .ok (.getfield 46, 3) := by decide +kernel
theorem dX2_setSecond_18 : decode cX2_setSecond 18 = .ok (.aload_n 0, 1) := by decide +kernel
theorem dX2_setSecond_19 : decode cX2_setSecond 19 = .ok (.getfield 21, 3) := by decide +kernel
theorem dX2_setSecond_22 : decode cX2_setSecond 22 = .ok (.iconst 1, 1) := by decide +kernel
theorem dX2_setSecond_23 : decode cX2_setSecond 23 = .ok (.isub, 1) := by decide +kernel
theorem dX2_setSecond_24 : decode cX2_setSecond 24 = .ok (.aload_n 0, 1) := by decide +kernel
theorem dX2_setSecond_25 : decode cX2_setSecond 25 = .ok (.aload_n 0, 1) := by decide +kernel
theorem dX2_setSecond_26 : decode cX2_setSecond 26 = .ok (.getfield 21, 3) := by decide +kernel
theorem dX2_setSecond_29 : decode cX2_setSecond 29 = .ok (.iconst 1, 1) := by decide +kernel
theorem dX2_setSecond_30 : decode cX2_setSecond 30 = .ok (.isub, 1) := by decide +kernel
theorem dX2_setSecond_31 : decode cX2_setSecond 31 = .ok (.invokevirtual 64, 3) := by decide +kernel
theorem dX2_setSecond_34 : decode cX2_setSecond 34 = .ok (.iload_n 1, 1) := by decide +kernel
theorem dX2_setSecond_35 : decode cX2_setSecond 35 = .ok (.invokestatic 53, 3) := by decide +kernel
theorem dX2_setSecond_38 : decode cX2_setSecond 38 = .ok (.ior, 1) := by decide +kernel
theorem dX2_setSecond_39 : decode cX2_setSecond 39 = .ok (.invokestatic 49, 3) := by decide +kernel
theorem dX2_setSecond_42 : decode cX2_setSecond 42 = .ok (.return_, 1) := by decide +kernel
theorem dX2_setClock_0 : decode cX2_setClock 0 = .ok (.aload_n 0, 1) := by decide +kernel
theorem dX2_setClock_1 : decode cX2_setClock 1 = .ok (.getfield 43, 3) := by decide +kernel
theorem dX2_setClock_4 : decode cX2_setClock 4 = .ok (.aload_n 0, 1) := by decide +kernel
theorem dX2_setClock_5 : decode cX2_setClock 5 = .ok (.getfield 21, 3) := by decide +kernel
theorem dX2_setClock_8 : decode cX2_setClock 8 = .ok (.iconst 1, 1) := by decide +kernel
theorem dX2_setClock_9 : decode cX2_setClock 9 = .ok (.isub, 1) := by decide +kernel
theorem dX2_setClock_10 : decode cX2_setClock 10 = .ok (.iload_n 1, 1) := by decide +kernel
theorem dX2_setClock_11 : decode cX2_setClock 11 = .ok (.invokestatic 49, 3) := by decide +kernel
theorem dX2_setClock_14 : decode cX2_setClock 14 = .ok (.iload_n 1, 1) := by decide +kernel
theorem dX2_setClock_15 : decode cX2_setClock 15 = .ok (.iconst 1, 1) := by decide +kernel
theorem dX2_setClock_16 : decode cX2_setClock 16 = .ok (.if_icmp .ne 21, 3) := by decide +kernel
theorem dX2_setClock_19 : decode cX2_setClock 19 = .ok (.aload_n 0, 1) := by decide +kernel
theorem dX2_setClock_20 : decode cX2_setClock 20 = .ok (.dup, 1) := by decide +kernel
theorem dX2_setClock_21 : decode cX2_setClock 21 = .ok (.getfield 30, 3) := by decide +kernel
theorem dX2_setClock_24 : decode cX2_setClock 24 = .ok (.aload_n 0, 1) := by decide +kernel
theorem dX2_setClock_25 : decode cX2_setClock 25 = .ok (.getfield 21, 3) := by decide +kernel
theorem dX2_setClock_28 : decode cX2_setClock 28 = .ok (.iconst 1, 1) := by decide +kernel
theorem dX2_setClock_29 : decode cX2_setClock 29 = .ok (.isub, 1) := by decide +kernel
theorem dX2_setClock_30 : decode cX2_setClock 30 = .ok (.invokestatic 53, 3) := by decide +kernel
theorem dX2_setClock_33 : decode cX2_setClock 33 = .ok (.ior, 1) := by decide +kernel
theorem dX2_setClock_34 : decode cX2_setClock 34 = .ok (.putfield 30, 3) := by decide +kernel
theorem dX2_setClock_37 : decode cX2_setClock 37 = .ok (.return_, 1) := by decide +kernel
theorem dX2_kindOf_0 : decode cX2_kindOf 0 = .ok (.aload_n 0, 1) := by decide +kernel
theorem dX2_kindOf_1 : decode cX2_kindOf 1 = .ok (.getfield 33, 3) := by decide +kernel
theorem dX2_kindOf_4 : decode cX2_kindOf 4 = .ok (.iload_n 1, 1) := by decide +kernel
theorem dX2_kindOf_5 : decode cX2_kindOf 5 = .ok (.invokestatic 67, 3) := by decide +kernel
theorem dX2_kindOf_8 : decode cX2_kindOf 8 = .ok (.ireturn, 1) := by decide +kernel
theorem dX2_firstOf_0 : decode cX2_firstOf 0 = .ok (.aload_n 0, 1) := by decide +kernel
theorem dX2_firstOf_1 : decode cX2_firstOf 1 = .ok (.getfield 37, 3) := by decide +kernel
theorem dX2_firstOf_4 : decode cX2_firstOf 4 = .ok (.iload_n 1, 1) := by decide +kernel
theorem dX2_firstOf_5 : decode cX2_firstOf 5 = .ok (.invokestatic 67, 3) := by decide +kernel
theorem dX2_firstOf_8 : decode cX2_firstOf 8 = .ok (.ireturn, 1) := by decide +kernel
theorem dX2_secondOf_0 : decode cX2_secondOf 0 = .ok (.aload_n 0, 1) := by decide +kernel
theorem dX2_secondOf_1 : decode cX2_secondOf 1 = .ok (.getfield 40, 3) := by decide +kernel
theorem dX2_secondOf_4 : decode cX2_secondOf 4 = .ok (.iload_n 1, 1) := by decide +kernel
theorem dX2_secondOf_5 : decode cX2_secondOf 5 = .ok (.invokestatic 67, 3) := by decide +kernel
theorem dX2_secondOf_8 : decode cX2_secondOf 8 = .ok (.ireturn, 1) := by decide +kernel
theorem dX2_clockOf_0 : decode cX2_clockOf 0 = .ok (.aload_n 0, 1) := by decide +kernel
theorem dX2_clockOf_1 : decode cX2_clockOf 1 = .ok (.getfield 43, 3) := by decide +kernel
theorem dX2_clockOf_4 : decode cX2_clockOf 4 = .ok (.iload_n 1, 1) := by decide +kernel
theorem dX2_clockOf_5 : decode cX2_clockOf 5 = .ok (.invokestatic 67, 3) := by decide +kernel
theorem dX2_clockOf_8 : decode cX2_clockOf 8 = .ok (.ireturn, 1) := by decide +kernel
theorem dX2_all_0 : decode cX2_all 0 = .ok (.iconst 1, 1) := by decide +kernel
theorem dX2_all_1 : decode cX2_all 1 = .ok (.aload_n 0, 1) := by decide +kernel
theorem dX2_all_2 : decode cX2_all 2 = .ok (.getfield 21, 3) := by decide +kernel
theorem dX2_all_5 : decode cX2_all 5 = .ok (.ishl, 1) := by decide +kernel
theorem dX2_all_6 : decode cX2_all 6 = .ok (.iconst 1, 1) := by decide +kernel
theorem dX2_all_7 : decode cX2_all 7 = .ok (.isub, 1) := by decide +kernel
theorem dX2_all_8 : decode cX2_all 8 = .ok (.ireturn, 1) := by decide +kernel
theorem dX2_storing_0 : decode cX2_storing 0 = .ok (.aload_n 0, 1) := by decide +kernel
theorem dX2_storing_1 : decode cX2_storing 1 = .ok (.getfield 24, 3) := by decide +kernel
theorem dX2_storing_4 : decode cX2_storing 4 = .ok (.aload_n 0, 1) := by decide +kernel
theorem dX2_storing_5 : decode cX2_storing 5 = .ok (.getfield 27, 3) := by decide +kernel
theorem dX2_storing_8 : decode cX2_storing 8 = .ok (.ior, 1) := by decide +kernel
theorem dX2_storing_9 : decode cX2_storing 9 = .ok (.ireturn, 1) := by decide +kernel
theorem dX2_sourcesOf_0 : decode cX2_sourcesOf 0 = .ok (.aload_n 0, 1) := by decide +kernel
theorem dX2_sourcesOf_1 : decode cX2_sourcesOf 1 = .ok (.getfield 46, 3) := by decide +kernel
theorem dX2_sourcesOf_4 : decode cX2_sourcesOf 4 = .ok (.iload_n 1, 1) := by decide +kernel
theorem dX2_sourcesOf_5 : decode cX2_sourcesOf 5 = .ok (.invokestatic 67, 3) := by decide +kernel
theorem dX2_sourcesOf_8 : decode cX2_sourcesOf 8 = .ok (.ireturn, 1) := by decide +kernel
theorem dX2_readersOf_0 : decode cX2_readersOf 0 = .ok (.iconst 0, 1) := by decide +kernel
theorem dX2_readersOf_1 : decode cX2_readersOf 1 = .ok (.istore_n 2, 1) := by decide +kernel
theorem dX2_readersOf_2 : decode cX2_readersOf 2 = .ok (.iconst 0, 1) := by decide +kernel
theorem dX2_readersOf_3 : decode cX2_readersOf 3 = .ok (.istore_n 3, 1) := by decide +kernel
theorem dX2_readersOf_4 : decode cX2_readersOf 4 = .ok (.iload_n 3, 1) := by decide +kernel
theorem dX2_readersOf_5 : decode cX2_readersOf 5 = .ok (.aload_n 0, 1) := by decide +kernel
theorem dX2_readersOf_6 : decode cX2_readersOf 6 = .ok (.getfield 21, 3) := by decide +kernel
theorem dX2_readersOf_9 : decode cX2_readersOf 9 = .ok (.if_icmp .ge 29, 3) := by decide +kernel
theorem dX2_readersOf_12 : decode cX2_readersOf 12 = .ok (.aload_n 0, 1) := by decide +kernel
theorem dX2_readersOf_13 : decode cX2_readersOf 13 = .ok (.iload_n 3, 1) := by decide +kernel
theorem dX2_readersOf_14 : decode cX2_readersOf 14 = .ok (.invokevirtual 64, 3) := by decide +kernel
theorem dX2_readersOf_17 : decode cX2_readersOf 17 = .ok (.iload_n 1, 1) := by decide +kernel
theorem dX2_readersOf_18 : decode cX2_readersOf 18 = .ok (.invokestatic 53, 3) := by decide +kernel
theorem dX2_readersOf_21 : decode cX2_readersOf 21 = .ok (.iand, 1) := by decide +kernel
theorem dX2_readersOf_22 : decode cX2_readersOf 22 = .ok (.ifCond .eq 10, 3) := by decide +kernel
theorem dX2_readersOf_25 : decode cX2_readersOf 25 = .ok (.iload_n 2, 1) := by decide +kernel
theorem dX2_readersOf_26 : decode cX2_readersOf 26 = .ok (.iload_n 3, 1) := by decide +kernel
theorem dX2_readersOf_27 : decode cX2_readersOf 27 = .ok (.invokestatic 53, 3) := by decide +kernel
theorem dX2_readersOf_30 : decode cX2_readersOf 30 = .ok (.ior, 1) := by decide +kernel
theorem dX2_readersOf_31 : decode cX2_readersOf 31 = .ok (.istore_n 2, 1) := by decide +kernel
theorem dX2_readersOf_32 : decode cX2_readersOf 32 = .ok (.iinc 3 1, 3) := by decide +kernel
theorem dX2_readersOf_35 : decode cX2_readersOf 35 = .ok (.goto (-31), 3) := by decide +kernel
theorem dX2_readersOf_38 : decode cX2_readersOf 38 = .ok (.iload_n 2, 1) := by decide +kernel
theorem dX2_readersOf_39 : decode cX2_readersOf 39 = .ok (.ireturn, 1) := by decide +kernel
theorem dX2_allBefore_0 : decode cX2_allBefore 0 = .ok (.iload_n 1, 1) := by decide +kernel
theorem dX2_allBefore_1 : decode cX2_allBefore 1 = .ok (.invokestatic 53, 3) := by decide +kernel
theorem dX2_allBefore_4 : decode cX2_allBefore 4 = .ok (.istore_n 2, 1) := by decide +kernel
theorem dX2_allBefore_5 : decode cX2_allBefore 5 = .ok (.iconst 0, 1) := by decide +kernel
theorem dX2_allBefore_6 : decode cX2_allBefore 6 = .ok (.istore_n 3, 1) := by decide +kernel
theorem dX2_allBefore_7 : decode cX2_allBefore 7 = .ok (.iload_n 3, 1) := by decide +kernel
theorem dX2_allBefore_8 : decode cX2_allBefore 8 = .ok (.aload_n 0, 1) := by decide +kernel
theorem dX2_allBefore_9 : decode cX2_allBefore 9 = .ok (.getfield 21, 3) := by decide +kernel
theorem dX2_allBefore_12 : decode cX2_allBefore 12 = .ok (.if_icmp .ge 58, 3) := by decide +kernel
theorem dX2_allBefore_15 : decode cX2_allBefore 15 = .ok (.iload_n 2, 1) := by decide +kernel
theorem dX2_allBefore_16 : decode cX2_allBefore 16 = .ok (.istore 4, 2) := by decide +kernel
theorem dX2_allBefore_18 : decode cX2_allBefore 18 = .ok (.iconst 0, 1) := by decide +kernel
theorem dX2_allBefore_19 : decode cX2_allBefore 19 = .ok (.istore 5, 2) := by decide +kernel
theorem dX2_allBefore_21 : decode cX2_allBefore 21 = .ok (.iload 5, 2) := by decide +kernel
theorem dX2_allBefore_23 : decode cX2_allBefore 23 = .ok (.aload_n 0, 1) := by decide +kernel
theorem dX2_allBefore_24 : decode cX2_allBefore 24 = .ok (.getfield 21, 3) := by decide +kernel
theorem dX2_allBefore_27 : decode cX2_allBefore 27 = .ok (.if_icmp .ge 28, 3) := by decide +kernel
theorem dX2_allBefore_30 : decode cX2_allBefore 30 = .ok (.iload_n 2, 1) := by decide +kernel
theorem dX2_allBefore_31 : decode cX2_allBefore 31 = .ok (.iload 5, 2) := by decide +kernel
theorem dX2_allBefore_33 : decode cX2_allBefore 33 = .ok (.invokestatic 53, 3) := by decide +kernel
theorem dX2_allBefore_36 : decode cX2_allBefore 36 = .ok (.iand, 1) := by decide +kernel
theorem dX2_allBefore_37 : decode cX2_allBefore 37 = .ok (.ifCond .eq 12, 3) := by decide +kernel
theorem dX2_allBefore_40 : decode cX2_allBefore 40 = .ok (.iload_n 2, 1) := by decide +kernel
theorem dX2_allBefore_41 : decode cX2_allBefore 41 = .ok (.aload_n 0, 1) := by decide +kernel
theorem dX2_allBefore_42 : decode cX2_allBefore 42 = .ok (.iload 5, 2) := by decide +kernel
theorem dX2_allBefore_44 : decode cX2_allBefore 44 = .ok (.invokevirtual 64, 3) := by decide +kernel
theorem dX2_allBefore_47 : decode cX2_allBefore 47 = .ok (.ior, 1) := by decide +kernel
theorem dX2_allBefore_48 : decode cX2_allBefore 48 = .ok (.istore_n 2, 1) := by decide +kernel
theorem dX2_allBefore_49 : decode cX2_allBefore 49 = .ok (.iinc 5 1, 3) := by decide +kernel
theorem dX2_allBefore_52 : decode cX2_allBefore 52 = .ok (.goto (-31), 3) := by decide +kernel
theorem dX2_allBefore_55 : decode cX2_allBefore 55 = .ok (.iload_n 2, 1) := by decide +kernel
theorem dX2_allBefore_56 : decode cX2_allBefore 56 = .ok (.iload 4, 2) := by decide +kernel
theorem dX2_allBefore_58 : decode cX2_allBefore 58 = .ok (.if_icmp .ne 6, 3) := by decide +kernel
theorem dX2_allBefore_61 : decode cX2_allBefore 61 = .ok (.goto 9, 3) := by decide +kernel
theorem dX2_allBefore_64 : decode cX2_allBefore 64 = .ok (.iinc 3 1, 3) := by decide +kernel
theorem dX2_allBefore_67 : decode cX2_allBefore 67 = .ok (.goto (-60), 3) := by decide +kernel
theorem dX2_allBefore_70 : decode cX2_allBefore 70 = .ok (.iload_n 2, 1) := by decide +kernel
theorem dX2_allBefore_71 : decode cX2_allBefore 71 = .ok (.ireturn, 1) := by decide +kernel
theorem dX3_init_0 : decode cX3_init 0 = .ok (.aload_n 0, 1) := by decide +kernel
theorem dX3_init_1 : decode cX3_init 1 = .ok (.invokespecial 3, 3) := by decide +kernel
theorem dX3_init_4 : decode cX3_init 4 = .ok (.aload_n 0, 1) := by decide +kernel
theorem dX3_init_5 : decode cX3_init 5 = .ok (.iconst 0, 1) := by decide +kernel
theorem dX3_init_6 : decode cX3_init 6 = .ok (.putfield 11, 3) := by decide +kernel
theorem dX3_init_9 : decode cX3_init 9 = .ok (.aload_n 0, 1) := by decide +kernel
theorem dX3_init_10 : decode cX3_init 10 = .ok (.bipush (-9), 2) := by decide +kernel
theorem dX3_init_12 : decode cX3_init 12 = .ok (.putfield 15, 3) := by decide +kernel
theorem dX3_init_15 : decode cX3_init 15 = .ok (.return_, 1) := by decide +kernel
theorem dX3_read_0 : decode cX3_read 0 = .ok (.aload_n 0, 1) := by decide +kernel
theorem dX3_read_1 : decode cX3_read 1 = .ok (.iconst 0, 1) := by decide +kernel
theorem dX3_read_2 : decode cX3_read 2 = .ok (.putfield 11, 3) := by decide +kernel
theorem dX3_read_5 : decode cX3_read 5 = .ok (.aload_n 0, 1) := by decide +kernel
theorem dX3_read_6 : decode cX3_read 6 = .ok (.bipush (-9), 2) := by decide +kernel
theorem dX3_read_8 : decode cX3_read 8 = .ok (.putfield 15, 3) := by decide +kernel
theorem dX3_read_11 : decode cX3_read 11 = .ok (.aload_n 2, 1) := by decide +kernel
theorem dX3_read_12 : decode cX3_read 12 = .ok (.invokevirtual 18, 3) := by decide +kernel
theorem dX3_read_15 : decode cX3_read 15 = .ok (.iconst 0, 1) := by decide +kernel
theorem dX3_read_16 : decode cX3_read 16 = .ok (.istore_n 3, 1) := by decide +kernel
theorem dX3_read_17 : decode cX3_read 17 = .ok (.iload_n 3, 1) := by decide +kernel
theorem dX3_read_18 : decode cX3_read 18 = .ok (.aload_n 1, 1) := by decide +kernel
theorem dX3_read_19 : decode cX3_read 19 = .ok (.getfield 23, 3) := by decide +kernel
theorem dX3_read_22 : decode cX3_read 22 = .ok (.if_icmp .ge 35, 3) := by decide +kernel
theorem dX3_read_25 : decode cX3_read 25 = .ok (.aload_n 1, 1) := by decide +kernel
theorem dX3_read_26 : decode cX3_read 26 = .ok (.iload_n 3, 1) := by decide +kernel
theorem dX3_read_27 : decode cX3_read 27 = .ok (.invokevirtual 28, 3) := by decide +kernel
theorem dX3_read_30 : decode cX3_read 30 = .ok (.istore 4, 2) := by decide +kernel
theorem dX3_read_32 : decode cX3_read 32 = .ok (.aload_n 0, 1) := by decide +kernel
theorem dX3_read_33 : decode cX3_read 33 = .ok (.iload 4, 2) := by decide +kernel
theorem dX3_read_35 : decode cX3_read 35 = .ok (.aload_n 2, 1) := by decide +kernel
theorem dX3_read_36 : decode cX3_read 36 = .ok (.invokevirtual 32, 3) := by decide +kernel
theorem dX3_read_39 : decode cX3_read 39 = .ok (.ifCond .ne 5, 3) := by decide +kernel
theorem dX3_read_42 : decode cX3_read 42 = .ok (.iload_n 3, 1) := by decide +kernel
theorem dX3_read_43 : decode cX3_read 43 = .ok (.ireturn, 1) := by decide +kernel
theorem dX3_read_44 : decode cX3_read 44 = .ok (.aload_n 0, 1) := by decide +kernel
theorem dX3_read_45 : decode cX3_read 45 = .ok (.iload 4, 2) := by decide +kernel
theorem dX3_read_47 : decode cX3_read 47 = .ok (.aload_n 2, 1) := by decide +kernel
theorem dX3_read_48 : decode cX3_read 48 = .ok (.invokevirtual 36, 3) := by decide +kernel
theorem dX3_read_51 : decode cX3_read 51 = .ok (.iinc 3 1, 3) := by decide +kernel
theorem dX3_read_54 : decode cX3_read 54 = .ok (.goto (-37), 3) := by decide +kernel
theorem dX3_read_57 : decode cX3_read 57 = .ok (.aload_n 0, 1) := by decide +kernel
theorem dX3_read_58 : decode cX3_read 58 = .ok (.getfield 11, 3) := by decide +kernel
theorem dX3_read_61 : decode cX3_read 61 = .ok (.iconst 3, 1) := by decide +kernel
theorem dX3_read_62 : decode cX3_read 62 = .ok (.if_icmp .ne 19, 3) := by decide +kernel
theorem dX3_read_65 : decode cX3_read 65 = .ok (.aload_n 0, 1) := by decide +kernel
theorem dX3_read_66 : decode cX3_read 66 = .ok (.getfield 15, 3) := by decide +kernel
theorem dX3_read_69 : decode cX3_read 69 = .ok (.aload_n 2, 1) := by decide +kernel
theorem dX3_read_70 : decode cX3_read 70 = .ok (.getfield 40, 3) := by decide +kernel
theorem dX3_read_73 : decode cX3_read 73 = .ok (.if_icmp .ge 8, 3) := by decide +kernel
theorem dX3_read_76 : decode cX3_read 76 = .ok (.bipush (-9), 2) := by decide +kernel
theorem dX3_read_78 : decode cX3_read 78 = .ok (.goto 7, 3) := by decide +kernel
theorem dX3_read_81 : decode cX3_read 81 = .ok (.aload_n 1, 1) := by decide +kernel
theorem dX3_read_82 : decode cX3_read 82 = .ok (.getfield 23, 3) := by decide +kernel
theorem dX3_read_85 : decode cX3_read 85 = .ok (.ireturn, 1) := by decide +kernel
theorem dX3_fits_0 : decode cX3_fits 0 = .ok (.iload_n 1, 1) := by decide +kernel
theorem dX3_fits_1 : decode cX3_fits 1 = .ok (.bipush 48, 2) := by decide +kernel
theorem dX3_fits_3 : decode cX3_fits 3 = .ok (.isub, 1) := by decide +kernel
theorem dX3_fits_4 : decode cX3_fits 4 = .ok (.istore_n 3, 1) := by decide +kernel
theorem dX3_fits_5 : decode cX3_fits 5 = .ok (.aload_n 0, 1) := by decide +kernel
theorem dX3_fits_6 : decode cX3_fits 6 = .ok (.getfield 11, 3) := by decide +kernel
theorem dX3_fits_9 : decode cX3_fits 9 = .ok (.tableswitch 137 0 7 #[47, 59, 75, 80, 104, 137, 137, 122], 47) := by decide +kernel
theorem dX3_fits_56 : decode cX3_fits 56 = .ok (.iload_n 1, 1) := by decide +kernel
theorem dX3_fits_57 : decode cX3_fits 57 = .ok (.bipush 66, 2) := by decide +kernel
theorem dX3_fits_59 : decode cX3_fits 59 = .ok (.if_icmp .ne 7, 3) := by decide +kernel
theorem dX3_fits_62 : decode cX3_fits 62 = .ok (.iconst 1, 1) := by decide +kernel
theorem dX3_fits_63 : decode cX3_fits 63 = .ok (.goto 4, 3) := by decide +kernel
theorem dX3_fits_66 : decode cX3_fits 66 = .ok (.iconst 0, 1) := by decide +kernel
theorem dX3_fits_67 : decode cX3_fits 67 = .ok (.ireturn, 1) := by decide +kernel
theorem dX3_fits_68 : decode cX3_fits 68 = .ok (.iload_n 3, 1) := by decide +kernel
theorem dX3_fits_69 : decode cX3_fits 69 = .ok (.iconst 1, 1) := by decide +kernel
theorem dX3_fits_70 : decode cX3_fits 70 = .ok (.if_icmp .lt 12, 3) := by decide +kernel
theorem dX3_fits_73 : decode cX3_fits 73 = .ok (.iload_n 3, 1) := by decide +kernel
theorem dX3_fits_74 : decode cX3_fits 74 = .ok (.iconst 4, 1) := by decide +kernel
theorem dX3_fits_75 : decode cX3_fits 75 = .ok (.if_icmp .gt 7, 3) := by decide +kernel
theorem dX3_fits_78 : decode cX3_fits 78 = .ok (.iconst 1, 1) := by decide +kernel
theorem dX3_fits_79 : decode cX3_fits 79 = .ok (.goto 4, 3) := by decide +kernel
theorem dX3_fits_82 : decode cX3_fits 82 = .ok (.iconst 0, 1) := by decide +kernel
theorem dX3_fits_83 : decode cX3_fits 83 = .ok (.ireturn, 1) := by decide +kernel
theorem dX3_fits_84 : decode cX3_fits 84 = .ok (.iload_n 3, 1) := by decide +kernel
theorem dX3_fits_85 : decode cX3_fits 85 = .ok (.invokestatic 43, 3) := by decide +kernel
theorem dX3_fits_88 : decode cX3_fits 88 = .ok (.ireturn, 1) := by decide +kernel
theorem dX3_fits_89 : decode cX3_fits 89 = .ok (.iload_n 1, 1) := by decide +kernel
theorem dX3_fits_90 : decode cX3_fits 90 = .ok (.invokestatic 47, 3) := by decide +kernel
theorem dX3_fits_93 : decode cX3_fits 93 = .ok (.bipush (-9), 2) := by decide +kernel
theorem dX3_fits_95 : decode cX3_fits 95 = .ok (.if_icmp .eq 16, 3) := by decide +kernel
theorem dX3_fits_98 : decode cX3_fits 98 = .ok (.aload_n 2, 1) := by decide +kernel
theorem dX3_fits_99 : decode cX3_fits 99 = .ok (.getfield 40, 3) := by decide +kernel
theorem dX3_fits_102 : decode cX3_fits 102 = .ok (.bipush 10, 2) := by decide +kernel
theorem dX3_fits_104 : decode cX3_fits 104 = .ok (.if_icmp .ge 7, 3) := by decide +kernel
theorem dX3_fits_107 : decode cX3_fits 107 = .ok (.iconst 1, 1) := by decide +kernel
theorem dX3_fits_108 : decode cX3_fits 108 = .ok (.goto 4, 3) := by decide +kernel
theorem dX3_fits_111 : decode cX3_fits 111 = .ok (.iconst 0, 1) := by decide +kernel
theorem dX3_fits_112 : decode cX3_fits 112 = .ok (.ireturn, 1) := by decide +kernel
theorem dX3_fits_113 : decode cX3_fits 113 = .ok (.iload_n 3, 1) := by decide +kernel
theorem dX3_fits_114 : decode cX3_fits 114 = .ok (.ifCond .lt 15, 3) := by decide +kernel
theorem dX3_fits_117 : decode cX3_fits 117 = .ok (.iload_n 3, 1) := by decide +kernel
theorem dX3_fits_118 : decode cX3_fits 118 = .ok (.aload_n 2, 1) := by decide +kernel
theorem dX3_fits_119 : decode cX3_fits 119 = .ok (.getfield 50, 3) := by decide +kernel
theorem dX3_fits_122 : decode cX3_fits 122 = .ok (.if_icmp .ge 7, 3) := by decide +kernel
theorem dX3_fits_125 : decode cX3_fits 125 = .ok (.iconst 1, 1) := by decide +kernel
theorem dX3_fits_126 : decode cX3_fits 126 = .ok (.goto 4, 3) := by decide +kernel
theorem dX3_fits_129 : decode cX3_fits 129 = .ok (.iconst 0, 1) := by decide +kernel
theorem dX3_fits_130 : decode cX3_fits 130 = .ok (.ireturn, 1) := by decide +kernel
theorem dX3_fits_131 : decode cX3_fits 131 = .ok (.iload_n 3, 1) := by decide +kernel
theorem dX3_fits_132 : decode cX3_fits 132 = .ok (.ifCond .lt 12, 3) := by decide +kernel
theorem dX3_fits_135 : decode cX3_fits 135 = .ok (.iload_n 3, 1) := by decide +kernel
theorem dX3_fits_136 : decode cX3_fits 136 = .ok (.iconst 1, 1) := by decide +kernel
theorem dX3_fits_137 : decode cX3_fits 137 = .ok (.if_icmp .gt 7, 3) := by decide +kernel
theorem dX3_fits_140 : decode cX3_fits 140 = .ok (.iconst 1, 1) := by decide +kernel
theorem dX3_fits_141 : decode cX3_fits 141 = .ok (.goto 4, 3) := by decide +kernel
theorem dX3_fits_144 : decode cX3_fits 144 = .ok (.iconst 0, 1) := by decide +kernel
theorem dX3_fits_145 : decode cX3_fits 145 = .ok (.ireturn, 1) := by decide +kernel
theorem dX3_fits_146 : decode cX3_fits 146 = .ok (.iload_n 3, 1) := by decide +kernel
theorem dX3_fits_147 : decode cX3_fits 147 = .ok (.ifCond .lt 13, 3) := by decide +kernel
theorem dX3_fits_150 : decode cX3_fits 150 = .ok (.iload_n 3, 1) := by decide +kernel
theorem dX3_fits_151 : decode cX3_fits 151 = .ok (.bipush 9, 2) := by decide +kernel
theorem dX3_fits_153 : decode cX3_fits 153 = .ok (.if_icmp .gt 7, 3) := by decide +kernel
theorem dX3_fits_156 : decode cX3_fits 156 = .ok (.iconst 1, 1) := by decide +kernel
theorem dX3_fits_157 : decode cX3_fits 157 = .ok (.goto 4, 3) := by decide +kernel
theorem dX3_fits_160 : decode cX3_fits 160 = .ok (.iconst 0, 1) := by decide +kernel
theorem dX3_fits_161 : decode cX3_fits 161 = .ok (.ireturn, 1) := by decide +kernel
theorem dX3_take_0 : decode cX3_take 0 = .ok (.iload_n 1, 1) := by decide +kernel
theorem dX3_take_1 : decode cX3_take 1 = .ok (.bipush 48, 2) := by decide +kernel
theorem dX3_take_3 : decode cX3_take 3 = .ok (.isub, 1) := by decide +kernel
theorem dX3_take_4 : decode cX3_take 4 = .ok (.istore_n 3, 1) := by decide +kernel
theorem dX3_take_5 : decode cX3_take 5 = .ok (.aload_n 0, 1) := by decide +kernel
theorem dX3_take_6 : decode cX3_take 6 = .ok (.getfield 11, 3) := by decide +kernel
theorem dX3_take_9 : decode cX3_take 9 = .ok (.tableswitch 173 0 6 #[43, 51, 64, 77, 93, 117, 148], 43) := by decide +kernel
theorem dX3_take_52 : decode cX3_take 52 = .ok (.aload_n 0, 1) := by decide +kernel
theorem dX3_take_53 : decode cX3_take 53 = .ok (.iconst 1, 1) := by decide +kernel
theorem dX3_take_54 : decode cX3_take 54 = .ok (.putfield 11, 3) := by decide +kernel
theorem dX3_take_57 : decode cX3_take 57 = .ok (.goto 135, 3) := by decide +kernel
theorem dX3_take_60 : decode cX3_take 60 = .ok (.aload_n 2, 1) := by decide +kernel
theorem dX3_take_61 : decode cX3_take 61 = .ok (.iload_n 3, 1) := by decide +kernel
theorem dX3_take_62 : decode cX3_take 62 = .ok (.putfield 50, 3) := by decide +kernel
theorem dX3_take_65 : decode cX3_take 65 = .ok (.aload_n 0, 1) := by decide +kernel
theorem dX3_take_66 : decode cX3_take 66 = .ok (.iconst 2, 1) := by decide +kernel
theorem dX3_take_67 : decode cX3_take 67 = .ok (.putfield 11, 3) := by decide +kernel
theorem dX3_take_70 : decode cX3_take 70 = .ok (.goto 122, 3) := by decide +kernel
theorem dX3_take_73 : decode cX3_take 73 = .ok (.aload_n 2, 1) := by decide +kernel
theorem dX3_take_74 : decode cX3_take 74 = .ok (.iload_n 3, 1) := by decide +kernel
theorem dX3_take_75 : decode cX3_take 75 = .ok (.putfield 53, 3) := by decide +kernel
theorem dX3_take_78 : decode cX3_take 78 = .ok (.aload_n 0, 1) := by decide +kernel
theorem dX3_take_79 : decode cX3_take 79 = .ok (.iconst 3, 1) := by decide +kernel
theorem dX3_take_80 : decode cX3_take 80 = .ok (.putfield 11, 3) := by decide +kernel
theorem dX3_take_83 : decode cX3_take 83 = .ok (.goto 109, 3) := by decide +kernel
theorem dX3_take_86 : decode cX3_take 86 = .ok (.aload_n 2, 1) := by decide +kernel
theorem dX3_take_87 : decode cX3_take 87 = .ok (.iload_n 1, 1) := by decide +kernel
theorem dX3_take_88 : decode cX3_take 88 = .ok (.invokestatic 47, 3) := by decide +kernel
theorem dX3_take_91 : decode cX3_take 91 = .ok (.invokevirtual 56, 3) := by decide +kernel
theorem dX3_take_94 : decode cX3_take 94 = .ok (.aload_n 0, 1) := by decide +kernel
theorem dX3_take_95 : decode cX3_take 95 = .ok (.iconst 4, 1) := by decide +kernel
theorem dX3_take_96 : decode cX3_take 96 = .ok (.putfield 11, 3) := by decide +kernel
theorem dX3_take_99 : decode cX3_take 99 = .ok (.goto 93, 3) := by decide +kernel
theorem dX3_take_102 : decode cX3_take 102 = .ok (.aload_n 2, 1) := by decide +kernel
theorem dX3_take_103 : decode cX3_take 103 = .ok (.iload_n 3, 1) := by decide +kernel
theorem dX3_take_104 : decode cX3_take 104 = .ok (.invokevirtual 60, 3) := by decide +kernel
theorem dX3_take_107 : decode cX3_take 107 = .ok (.aload_n 0, 1) := by decide +kernel
theorem dX3_take_108 : decode cX3_take 108 = .ok (.aload_n 2, 1) := by decide +kernel
theorem dX3_take_109 : decode cX3_take 109 = .ok (.invokevirtual 63, 3) := by decide +kernel
theorem dX3_take_112 : decode cX3_take 112 = .ok (.ifCond .ne 7, 3) := by decide +kernel
theorem dX3_take_115 : decode cX3_take 115 = .ok (.iconst 3, 1) := by decide +kernel
theorem dX3_take_116 : decode cX3_take 116 = .ok (.goto 4, 3) := by decide +kernel
theorem dX3_take_119 : decode cX3_take 119 = .ok (.iconst 5, 1) := by decide +kernel
theorem dX3_take_120 : decode cX3_take 120 = .ok (.putfield 11, 3) := by decide +kernel
theorem dX3_take_123 : decode cX3_take 123 = .ok (.goto 69, 3) := by decide +kernel
theorem dX3_take_126 : decode cX3_take 126 = .ok (.aload_n 2, 1) := by decide +kernel
theorem dX3_take_127 : decode cX3_take 127 = .ok (.iload_n 3, 1) := by decide +kernel
theorem dX3_take_128 : decode cX3_take 128 = .ok (.invokevirtual 67, 3) := by decide +kernel
theorem dX3_take_131 : decode cX3_take 131 = .ok (.aload_n 0, 1) := by decide +kernel
theorem dX3_take_132 : decode cX3_take 132 = .ok (.aload_n 0, 1) := by decide +kernel
theorem dX3_take_133 : decode cX3_take 133 = .ok (.getfield 15, 3) := by decide +kernel
theorem dX3_take_136 : decode cX3_take 136 = .ok (.iload_n 3, 1) := by decide +kernel
theorem dX3_take_137 : decode cX3_take 137 = .ok (.invokestatic 70, 3) := by decide +kernel
theorem dX3_take_140 : decode cX3_take 140 = .ok (.putfield 15, 3) := by decide +kernel
theorem dX3_take_143 : decode cX3_take 143 = .ok (.aload_n 0, 1) := by decide +kernel
theorem dX3_take_144 : decode cX3_take 144 = .ok (.aload_n 2, 1) := by decide +kernel
theorem dX3_take_145 : decode cX3_take 145 = .ok (.invokevirtual 63, 3) := by decide +kernel
theorem dX3_take_148 : decode cX3_take 148 = .ok (.invokestatic 76, 3) := by decide +kernel
theorem dX3_take_151 : decode cX3_take 151 = .ok (.putfield 11, 3) := by decide +kernel
theorem dX3_take_154 : decode cX3_take 154 = .ok (.goto 38, 3) := by decide +kernel
theorem dX3_take_157 : decode cX3_take 157 = .ok (.aload_n 2, 1) := by decide +kernel
theorem dX3_take_158 : decode cX3_take 158 = .ok (.iload_n 3, 1) := by decide +kernel
theorem dX3_take_159 : decode cX3_take 159 = .ok (.invokevirtual 79, 3) := by decide +kernel
theorem dX3_take_162 : decode cX3_take 162 = .ok (.aload_n 0, 1) := by decide +kernel
theorem dX3_take_163 : decode cX3_take 163 = .ok (.aload_n 0, 1) := by decide +kernel
theorem dX3_take_164 : decode cX3_take 164 = .ok (.getfield 15, 3) := by decide +kernel
theorem dX3_take_167 : decode cX3_take 167 = .ok (.iload_n 3, 1) := by decide +kernel
theorem dX3_take_168 : decode cX3_take 168 = .ok (.invokestatic 70, 3) := by decide +kernel
theorem dX3_take_171 : decode cX3_take 171 = .ok (.putfield 15, 3) := by decide +kernel
theorem dX3_take_174 : decode cX3_take 174 = .ok (.aload_n 0, 1) := by decide +kernel
theorem dX3_take_175 : decode cX3_take 175 = .ok (.iconst 3, 1) := by decide +kernel
theorem dX3_take_176 : decode cX3_take 176 = .ok (.putfield 11, 3) := by decide +kernel
theorem dX3_take_179 : decode cX3_take 179 = .ok (.goto 13, 3) := by decide +kernel
theorem dX3_take_182 : decode cX3_take 182 = .ok (.aload_n 2, 1) := by decide +kernel
theorem dX3_take_183 : decode cX3_take 183 = .ok (.iload_n 3, 1) := by decide +kernel
theorem dX3_take_184 : decode cX3_take 184 = .ok (.invokevirtual 82, 3) := by decide +kernel
theorem dX3_take_187 : decode cX3_take 187 = .ok (.aload_n 0, 1) := by decide +kernel
theorem dX3_take_188 : decode cX3_take 188 = .ok (.iconst 3, 1) := by decide +kernel
theorem dX3_take_189 : decode cX3_take 189 = .ok (.putfield 11, 3) := by decide +kernel
theorem dX3_take_192 : decode cX3_take 192 = .ok (.return_, 1) := by decide +kernel
theorem dX3_behindFirst_0 : decode cX3_behindFirst 0 = .ok (.iload_n 0, 1) := by decide +kernel
theorem dX3_behindFirst_1 : decode cX3_behindFirst 1 = .ok (.iconst 1, 1) := by decide +kernel
theorem dX3_behindFirst_2 : decode cX3_behindFirst 2 = .ok (.if_icmp .ne 5, 3) := by decide +kernel
theorem dX3_behindFirst_5 : decode cX3_behindFirst 5 = .ok (.iconst 3, 1) := by decide +kernel
theorem dX3_behindFirst_6 : decode cX3_behindFirst 6 = .ok (.ireturn, 1) := by decide +kernel
theorem dX3_behindFirst_7 : decode cX3_behindFirst 7 = .ok (.iload_n 0, 1) := by decide +kernel
theorem dX3_behindFirst_8 : decode cX3_behindFirst 8 = .ok (.iconst 5, 1) := by decide +kernel
theorem dX3_behindFirst_9 : decode cX3_behindFirst 9 = .ok (.if_icmp .ne 8, 3) := by decide +kernel
theorem dX3_behindFirst_12 : decode cX3_behindFirst 12 = .ok (.bipush 7, 2) := by decide +kernel
theorem dX3_behindFirst_14 : decode cX3_behindFirst 14 = .ok (.goto 5, 3) := by decide +kernel
theorem dX3_behindFirst_17 : decode cX3_behindFirst 17 = .ok (.bipush 6, 2) := by decide +kernel
theorem dX3_behindFirst_19 : decode cX3_behindFirst 19 = .ok (.ireturn, 1) := by decide +kernel
theorem dX3_kindOfLetter_0 : decode cX3_kindOfLetter 0 = .ok (.iload_n 0, 1) := by decide +kernel
theorem dX3_kindOfLetter_1 : decode cX3_kindOfLetter 1 = .ok (.lookupswitch 71 #[(97, 63), (105, 59), (110, 61), (111, 65), (114, 69), (120, 67)], 59) := by decide +kernel
theorem dX3_kindOfLetter_60 : decode cX3_kindOfLetter 60 = .ok (.iconst 0, 1) := by decide +kernel
theorem dX3_kindOfLetter_61 : decode cX3_kindOfLetter 61 = .ok (.ireturn, 1) := by decide +kernel
theorem dX3_kindOfLetter_62 : decode cX3_kindOfLetter 62 = .ok (.iconst 1, 1) := by decide +kernel
theorem dX3_kindOfLetter_63 : decode cX3_kindOfLetter 63 = .ok (.ireturn, 1) := by decide +kernel
theorem dX3_kindOfLetter_64 : decode cX3_kindOfLetter 64 = .ok (.iconst 2, 1) := by decide +kernel
theorem dX3_kindOfLetter_65 : decode cX3_kindOfLetter 65 = .ok (.ireturn, 1) := by decide +kernel
theorem dX3_kindOfLetter_66 : decode cX3_kindOfLetter 66 = .ok (.iconst 3, 1) := by decide +kernel
theorem dX3_kindOfLetter_67 : decode cX3_kindOfLetter 67 = .ok (.ireturn, 1) := by decide +kernel
theorem dX3_kindOfLetter_68 : decode cX3_kindOfLetter 68 = .ok (.iconst 4, 1) := by decide +kernel
theorem dX3_kindOfLetter_69 : decode cX3_kindOfLetter 69 = .ok (.ireturn, 1) := by decide +kernel
theorem dX3_kindOfLetter_70 : decode cX3_kindOfLetter 70 = .ok (.iconst 5, 1) := by decide +kernel
theorem dX3_kindOfLetter_71 : decode cX3_kindOfLetter 71 = .ok (.ireturn, 1) := by decide +kernel
theorem dX3_kindOfLetter_72 : decode cX3_kindOfLetter 72 = .ok (.bipush (-9), 2) := by decide +kernel
theorem dX3_kindOfLetter_74 : decode cX3_kindOfLetter 74 = .ok (.ireturn, 1) := by decide +kernel
theorem dX4_init_0 : decode cX4_init 0 = .ok (.aload_n 0, 1) := by decide +kernel
theorem dX4_init_1 : decode cX4_init 1 = .ok (.invokespecial 3, 3) := by decide +kernel
theorem dX4_init_4 : decode cX4_init 4 = .ok (.aload_n 0, 1) := by decide +kernel
theorem dX4_init_5 : decode cX4_init 5 = .ok (.iconst 4, 1) := by decide +kernel
theorem dX4_init_6 : decode cX4_init 6 = .ok (.newarray .int, 2) := by decide +kernel
theorem dX4_init_8 : decode cX4_init 8 = .ok (.putfield 9, 3) := by decide +kernel
theorem dX4_init_11 : decode cX4_init 11 = .ok (.aload_n 0, 1) := by decide +kernel
theorem dX4_init_12 : decode cX4_init 12 = .ok (.iconst 4, 1) := by decide +kernel
theorem dX4_init_13 : decode cX4_init 13 = .ok (.newarray .int, 2) := by decide +kernel
theorem dX4_init_15 : decode cX4_init 15 = .ok (.putfield 15, 3) := by decide +kernel
theorem dX4_init_18 : decode cX4_init 18 = .ok (.aload_n 0, 1) := by decide +kernel
theorem dX4_init_19 : decode cX4_init 19 = .ok (.iconst 4, 1) := by decide +kernel
theorem dX4_init_20 : decode cX4_init 20 = .ok (.newarray .int, 2) := by decide +kernel
theorem dX4_init_22 : decode cX4_init 22 = .ok (.putfield 18, 3) := by decide +kernel
theorem dX4_init_25 : decode cX4_init 25 = .ok (.aload_n 0, 1) := by decide +kernel
theorem dX4_init_26 : decode cX4_init 26 = .ok (.iconst 0, 1) := by decide +kernel
theorem dX4_init_27 : decode cX4_init 27 = .ok (.putfield 21, 3) := by decide +kernel
theorem dX4_init_30 : decode cX4_init 30 = .ok (.aload_n 0, 1) := by decide +kernel
theorem dX4_init_31 : decode cX4_init 31 = .ok (.iconst 1, 1) := by decide +kernel
theorem dX4_init_32 : decode cX4_init 32 = .ok (.putfield 25, 3) := by decide +kernel
theorem dX4_init_35 : decode cX4_init 35 = .ok (.aload_n 0, 1) := by decide +kernel
theorem dX4_init_36 : decode cX4_init 36 = .ok (.iconst 0, 1) := by decide +kernel
theorem dX4_init_37 : decode cX4_init 37 = .ok (.putfield 28, 3) := by decide +kernel
theorem dX4_init_40 : decode cX4_init 40 = .ok (.aload_n 0, 1) := by decide +kernel
theorem dX4_init_41 : decode cX4_init 41 = .ok (.iconst 0, 1) := by decide +kernel
theorem dX4_init_42 : decode cX4_init 42 = .ok (.putfield 31, 3) := by decide +kernel
theorem dX4_init_45 : decode cX4_init 45 = .ok (.return_, 1) := by decide +kernel
theorem dX4_run_0 : decode cX4_run 0 = .ok (.aload_n 0, 1) := by decide +kernel
theorem dX4_run_1 : decode cX4_run 1 = .ok (.aload_n 1, 1) := by decide +kernel
theorem dX4_run_2 : decode cX4_run 2 = .ok (.iload_n 2, 1) := by decide +kernel
theorem dX4_run_3 : decode cX4_run 3 = .ok (.invokevirtual 34, 3) := by decide +kernel
theorem dX4_run_6 : decode cX4_run 6 = .ok (.iconst 0, 1) := by decide +kernel
theorem dX4_run_7 : decode cX4_run 7 = .ok (.istore 4, 2) := by decide +kernel
theorem dX4_run_9 : decode cX4_run 9 = .ok (.iload 4, 2) := by decide +kernel
theorem dX4_run_11 : decode cX4_run 11 = .ok (.bipush 31, 2) := by decide +kernel
theorem dX4_run_13 : decode cX4_run 13 = .ok (.if_icmp .ge 27, 3) := by decide +kernel
theorem dX4_run_16 : decode cX4_run 16 = .ok (.aload_n 0, 1) := by decide +kernel
theorem dX4_run_17 : decode cX4_run 17 = .ok (.aload_n 1, 1) := by decide +kernel
theorem dX4_run_18 : decode cX4_run 18 = .ok (.iload_n 2, 1) := by decide +kernel
theorem dX4_run_19 : decode cX4_run 19 = .ok (.invokevirtual 38, 3) := by decide +kernel
theorem dX4_run_22 : decode cX4_run 22 = .ok (.aload_n 0, 1) := by decide +kernel
theorem dX4_run_23 : decode cX4_run 23 = .ok (.aload_n 1, 1) := by decide +kernel
theorem dX4_run_24 : decode cX4_run 24 = .ok (.iload_n 3, 1) := by decide +kernel
theorem dX4_run_25 : decode cX4_run 25 = .ok (.invokevirtual 41, 3) := by decide +kernel
theorem dX4_run_28 : decode cX4_run 28 = .ok (.ifCond .ne 6, 3) := by decide +kernel
theorem dX4_run_31 : decode cX4_run 31 = .ok (.goto 9, 3) := by decide +kernel
theorem dX4_run_34 : decode cX4_run 34 = .ok (.iinc 4 1, 3) := by decide +kernel
theorem dX4_run_37 : decode cX4_run 37 = .ok (.goto (-28), 3) := by decide +kernel
theorem dX4_run_40 : decode cX4_run 40 = .ok (.return_, 1) := by decide +kernel
theorem dX4_firstSlot_0 : decode cX4_firstSlot 0 = .ok (.aload_n 0, 1) := by decide +kernel
theorem dX4_firstSlot_1 : decode cX4_firstSlot 1 = .ok (.aload_n 1, 1) := by decide +kernel
theorem dX4_firstSlot_2 : decode cX4_firstSlot 2 = .ok (.aload_n 2, 1) := by decide +kernel
theorem dX4_firstSlot_3 : decode cX4_firstSlot 3 = .ok (.getfield 45, 3) := by decide +kernel
theorem dX4_firstSlot_6 : decode cX4_firstSlot 6 = .ok (.invokevirtual 34, 3) := by decide +kernel
theorem dX4_firstSlot_9 : decode cX4_firstSlot 9 = .ok (.iconst 0, 1) := by decide +kernel
theorem dX4_firstSlot_10 : decode cX4_firstSlot 10 = .ok (.istore 5, 2) := by decide +kernel
theorem dX4_firstSlot_12 : decode cX4_firstSlot 12 = .ok (.iload 5, 2) := by decide +kernel
theorem dX4_firstSlot_14 : decode cX4_firstSlot 14 = .ok (.bipush 31, 2) := by decide +kernel
theorem dX4_firstSlot_16 : decode cX4_firstSlot 16 = .ok (.if_icmp .ge 53, 3) := by decide +kernel
theorem dX4_firstSlot_19 : decode cX4_firstSlot 19 = .ok (.aload_n 0, 1) := by decide +kernel
theorem dX4_firstSlot_20 : decode cX4_firstSlot 20 = .ok (.aload_n 1, 1) := by decide +kernel
theorem dX4_firstSlot_21 : decode cX4_firstSlot 21 = .ok (.aload_n 2, 1) := by decide +kernel
theorem dX4_firstSlot_22 : decode cX4_firstSlot 22 = .ok (.getfield 45, 3) := by decide +kernel
theorem dX4_firstSlot_25 : decode cX4_firstSlot 25 = .ok (.invokevirtual 38, 3) := by decide +kernel
theorem dX4_firstSlot_28 : decode cX4_firstSlot 28 = .ok (.aload_n 0, 1) := by decide +kernel
theorem dX4_firstSlot_29 : decode cX4_firstSlot 29 = .ok (.getfield 9, 3) := by decide +kernel
theorem dX4_firstSlot_32 : decode cX4_firstSlot 32 = .ok (.iload 4, 2) := by decide +kernel
theorem dX4_firstSlot_34 : decode cX4_firstSlot 34 = .ok (.invokestatic 50, 3) := by decide +kernel
theorem dX4_firstSlot_37 : decode cX4_firstSlot 37 = .ok (.iload_n 3, 1) := by decide +kernel
theorem dX4_firstSlot_38 : decode cX4_firstSlot 38 = .ok (.invokestatic 54, 3) := by decide +kernel
theorem dX4_firstSlot_41 : decode cX4_firstSlot 41 = .ok (.iand, 1) := by decide +kernel
theorem dX4_firstSlot_42 : decode cX4_firstSlot 42 = .ok (.ifCond .eq 6, 3) := by decide +kernel
theorem dX4_firstSlot_45 : decode cX4_firstSlot 45 = .ok (.iload 5, 2) := by decide +kernel
theorem dX4_firstSlot_47 : decode cX4_firstSlot 47 = .ok (.ireturn, 1) := by decide +kernel
theorem dX4_firstSlot_48 : decode cX4_firstSlot 48 = .ok (.aload_n 0, 1) := by decide +kernel
theorem dX4_firstSlot_49 : decode cX4_firstSlot 49 = .ok (.aload_n 1, 1) := by decide +kernel
theorem dX4_firstSlot_50 : decode cX4_firstSlot 50 = .ok (.aload_n 2, 1) := by decide +kernel
theorem dX4_firstSlot_51 : decode cX4_firstSlot 51 = .ok (.getfield 58, 3) := by decide +kernel
theorem dX4_firstSlot_54 : decode cX4_firstSlot 54 = .ok (.invokevirtual 41, 3) := by decide +kernel
theorem dX4_firstSlot_57 : decode cX4_firstSlot 57 = .ok (.ifCond .ne 6, 3) := by decide +kernel
theorem dX4_firstSlot_60 : decode cX4_firstSlot 60 = .ok (.goto 9, 3) := by decide +kernel
theorem dX4_firstSlot_63 : decode cX4_firstSlot 63 = .ok (.iinc 5 1, 3) := by decide +kernel
theorem dX4_firstSlot_66 : decode cX4_firstSlot 66 = .ok (.goto (-54), 3) := by decide +kernel
theorem dX4_firstSlot_69 : decode cX4_firstSlot 69 = .ok (.bipush (-9), 2) := by decide +kernel
theorem dX4_firstSlot_71 : decode cX4_firstSlot 71 = .ok (.ireturn, 1) := by decide +kernel
theorem dX4_isBelow_0 : decode cX4_isBelow 0 = .ok (.aload_n 0, 1) := by decide +kernel
theorem dX4_isBelow_1 : decode cX4_isBelow 1 = .ok (.getfield 25, 3) := by decide +kernel
theorem dX4_isBelow_4 : decode cX4_isBelow 4 = .ok (.iload_n 1, 1) := by decide +kernel
theorem dX4_isBelow_5 : decode cX4_isBelow 5 = .ok (.if_icmp .lt 19, 3) := by decide +kernel
theorem dX4_isBelow_8 : decode cX4_isBelow 8 = .ok (.aload_n 0, 1) := by decide +kernel
theorem dX4_isBelow_9 : decode cX4_isBelow 9 = .ok (.getfield 25, 3) := by decide +kernel
theorem dX4_isBelow_12 : decode cX4_isBelow 12 = .ok (.iload_n 1, 1) := by decide +kernel
theorem dX4_isBelow_13 : decode cX4_isBelow 13 = .ok (.if_icmp .ne 15, 3) := by decide +kernel
theorem dX4_isBelow_16 : decode cX4_isBelow 16 = .ok (.aload_n 0, 1) := by decide +kernel
theorem dX4_isBelow_17 : decode cX4_isBelow 17 = .ok (.getfield 28, 3) := by decide +kernel
theorem dX4_isBelow_20 : decode cX4_isBelow 20 = .ok (.iload_n 2, 1) := by decide +kernel
theorem dX4_isBelow_21 : decode cX4_isBelow 21 = .ok (.if_icmp .ge 7, 3) := by decide +kernel
theorem dX4_isBelow_24 : decode cX4_isBelow 24 = .ok (.iconst 1, 1) := by decide +kernel
theorem dX4_isBelow_25 : decode cX4_isBelow 25 = .ok (.goto 4, 3) := by decide +kernel
theorem dX4_isBelow_28 : decode cX4_isBelow 28 = .ok (.iconst 0, 1) := by decide +kernel
theorem dX4_isBelow_29 : decode cX4_isBelow 29 = .ok (.ireturn, 1) := by decide +kernel
theorem dX4_begin_0 : decode cX4_begin 0 = .ok (.aload_n 0, 1) := by decide +kernel
theorem dX4_begin_1 : decode cX4_begin 1 = .ok (.iconst 1, 1) := by decide +kernel
theorem dX4_begin_2 : decode cX4_begin 2 = .ok (.putfield 25, 3) := by decide +kernel
theorem dX4_begin_5 : decode cX4_begin 5 = .ok (.aload_n 0, 1) := by decide +kernel
theorem dX4_begin_6 : decode cX4_begin 6 = .ok (.iconst 0, 1) := by decide +kernel
theorem dX4_begin_7 : decode cX4_begin 7 = .ok (.putfield 28, 3) := by decide +kernel
theorem dX4_begin_10 : decode cX4_begin 10 = .ok (.aload_n 0, 1) := by decide +kernel
theorem dX4_begin_11 : decode cX4_begin 11 = .ok (.iconst 0, 1) := by decide +kernel
theorem dX4_begin_12 : decode cX4_begin 12 = .ok (.putfield 31, 3) := by decide +kernel
theorem dX4_begin_15 : decode cX4_begin 15 = .ok (.aload_n 0, 1) := by decide +kernel
theorem dX4_begin_16 : decode cX4_begin 16 = .ok (.aload_n 1, 1) := by decide +kernel
theorem dX4_begin_17 : decode cX4_begin 17 = .ok (.invokevirtual 61, 3) := by decide +kernel
theorem dX4_begin_20 : decode cX4_begin 20 = .ok (.aload_n 1, 1) := by decide +kernel
theorem dX4_begin_21 : decode cX4_begin 21 = .ok (.invokevirtual 67, 3) := by decide +kernel
theorem dX4_begin_24 : decode cX4_begin 24 = .ok (.iconst (-1), 1) := by decide +kernel
theorem dX4_begin_25 : decode cX4_begin 25 = .ok (.ixor, 1) := by decide +kernel
theorem dX4_begin_26 : decode cX4_begin 26 = .ok (.iand, 1) := by decide +kernel
theorem dX4_begin_27 : decode cX4_begin 27 = .ok (.putfield 21, 3) := by decide +kernel
theorem dX4_begin_30 : decode cX4_begin 30 = .ok (.iconst 0, 1) := by decide +kernel
theorem dX4_begin_31 : decode cX4_begin 31 = .ok (.istore_n 3, 1) := by decide +kernel
theorem dX4_begin_32 : decode cX4_begin 32 = .ok (.iload_n 3, 1) := by decide +kernel
theorem dX4_begin_33 : decode cX4_begin 33 = .ok (.iconst 4, 1) := by decide +kernel
theorem dX4_begin_34 : decode cX4_begin 34 = .ok (.if_icmp .ge 23, 3) := by decide +kernel
theorem dX4_begin_37 : decode cX4_begin 37 = .ok (.aload_n 0, 1) := by decide +kernel
theorem dX4_begin_38 : decode cX4_begin 38 = .ok (.getfield 9, 3) := by decide +kernel
theorem dX4_begin_41 : decode cX4_begin 41 = .ok (.iload_n 3, 1) := by decide +kernel
theorem dX4_begin_42 : decode cX4_begin 42 = .ok (.iconst 0, 1) := by decide +kernel
theorem dX4_begin_43 : decode cX4_begin 43 = .ok (.iastore, 1) := by decide +kernel
theorem dX4_begin_44 : decode cX4_begin 44 = .ok (.aload_n 0, 1) := by decide +kernel
theorem dX4_begin_45 : decode cX4_begin 45 = .ok (.getfield 15, 3) := by decide +kernel
theorem dX4_begin_48 : decode cX4_begin 48 = .ok (.iload_n 3, 1) := by decide +kernel
theorem dX4_begin_49 : decode cX4_begin 49 = .ok (.iconst 0, 1) := by decide +kernel
theorem dX4_begin_50 : decode cX4_begin 50 = .ok (.iastore, 1) := by decide +kernel
theorem dX4_begin_51 : decode cX4_begin 51 = .ok (.iinc 3 1, 3) := by decide +kernel
theorem dX4_begin_54 : decode cX4_begin 54 = .ok (.goto (-22), 3) := by decide +kernel
theorem dX4_begin_57 : decode cX4_begin 57 = .ok (.iconst 0, 1) := by decide +kernel
theorem dX4_begin_58 : decode cX4_begin 58 = .ok (.istore_n 3, 1) := by decide +kernel
theorem dX4_begin_59 : decode cX4_begin 59 = .ok (.iload_n 3, 1) := by decide +kernel
theorem dX4_begin_60 : decode cX4_begin 60 = .ok (.aload_n 1, 1) := by decide +kernel
theorem dX4_begin_61 : decode cX4_begin 61 = .ok (.getfield 70, 3) := by decide +kernel
theorem dX4_begin_64 : decode cX4_begin 64 = .ok (.if_icmp .ge 62, 3) := by decide +kernel
theorem dX4_begin_67 : decode cX4_begin 67 = .ok (.iload_n 2, 1) := by decide +kernel
theorem dX4_begin_68 : decode cX4_begin 68 = .ok (.iload_n 3, 1) := by decide +kernel
theorem dX4_begin_69 : decode cX4_begin 69 = .ok (.invokestatic 73, 3) := by decide +kernel
theorem dX4_begin_72 : decode cX4_begin 72 = .ok (.istore 4, 2) := by decide +kernel
theorem dX4_begin_74 : decode cX4_begin 74 = .ok (.aload_n 0, 1) := by decide +kernel
theorem dX4_begin_75 : decode cX4_begin 75 = .ok (.getfield 21, 3) := by decide +kernel
theorem dX4_begin_78 : decode cX4_begin 78 = .ok (.iload_n 3, 1) := by decide +kernel
theorem dX4_begin_79 : decode cX4_begin 79 = .ok (.invokestatic 54, 3) := by decide +kernel
theorem dX4_begin_82 : decode cX4_begin 82 = .ok (.iand, 1) := by decide +kernel
theorem dX4_begin_83 : decode cX4_begin 83 = .ok (.ifCond .ne 13, 3) := by decide +kernel
theorem dX4_begin_86 : decode cX4_begin 86 = .ok (.aload_n 0, 1) := by decide +kernel
theorem dX4_begin_87 : decode cX4_begin 87 = .ok (.getfield 9, 3) := by decide +kernel
theorem dX4_begin_90 : decode cX4_begin 90 = .ok (.iload 4, 2) := by decide +kernel
theorem dX4_begin_92 : decode cX4_begin 92 = .ok (.iload_n 3, 1) := by decide +kernel
theorem dX4_begin_93 : decode cX4_begin 93 = .ok (.invokestatic 77, 3) := by decide +kernel
theorem dX4_begin_96 : decode cX4_begin 96 = .ok (.aload_n 0, 1) := by decide +kernel
theorem dX4_begin_97 : decode cX4_begin 97 = .ok (.iload_n 2, 1) := by decide +kernel
theorem dX4_begin_98 : decode cX4_begin 98 = .ok (.aload_n 1, 1) := by decide +kernel
theorem dX4_begin_99 : decode cX4_begin 99 = .ok (.iload_n 3, 1) := by decide +kernel
theorem dX4_begin_100 : decode cX4_begin 100 = .ok (.invokevirtual 81, 3) := by decide +kernel
theorem dX4_begin_103 : decode cX4_begin 103 = .ok (.iload 4, 2) := by decide +kernel
theorem dX4_begin_105 : decode cX4_begin 105 = .ok (.invokevirtual 84, 3) := by decide +kernel
theorem dX4_begin_108 : decode cX4_begin 108 = .ok (.aload_n 0, 1) := by decide +kernel
theorem dX4_begin_109 : decode cX4_begin 109 = .ok (.iload_n 2, 1) := by decide +kernel
theorem dX4_begin_110 : decode cX4_begin 110 = .ok (.aload_n 1, 1) := by decide +kernel
theorem dX4_begin_111 : decode cX4_begin 111 = .ok (.iload_n 3, 1) := by decide +kernel
theorem dX4_begin_112 : decode cX4_begin 112 = .ok (.invokevirtual 88, 3) := by decide +kernel
theorem dX4_begin_115 : decode cX4_begin 115 = .ok (.iload 4, 2) := by decide +kernel
theorem dX4_begin_117 : decode cX4_begin 117 = .ok (.invokevirtual 84, 3) := by decide +kernel
theorem dX4_begin_120 : decode cX4_begin 120 = .ok (.iinc 3 1, 3) := by decide +kernel
theorem dX4_begin_123 : decode cX4_begin 123 = .ok (.goto (-64), 3) := by decide +kernel
theorem dX4_begin_126 : decode cX4_begin 126 = .ok (.return_, 1) := by decide +kernel
theorem dX4_markWanted_0 : decode cX4_markWanted 0 = .ok (.iload_n 2, 1) := by decide +kernel
theorem dX4_markWanted_1 : decode cX4_markWanted 1 = .ok (.bipush (-9), 2) := by decide +kernel
theorem dX4_markWanted_3 : decode cX4_markWanted 3 = .ok (.if_icmp .ne 4, 3) := by decide +kernel
theorem dX4_markWanted_6 : decode cX4_markWanted 6 = .ok (.return_, 1) := by decide +kernel
theorem dX4_markWanted_7 : decode cX4_markWanted 7 = .ok (.iload_n 1, 1) := by decide +kernel
theorem dX4_markWanted_8 : decode cX4_markWanted 8 = .ok (.iload_n 2, 1) := by decide +kernel
theorem dX4_markWanted_9 : decode cX4_markWanted 9 = .ok (.invokestatic 73, 3) := by decide +kernel
theorem dX4_markWanted_12 : decode cX4_markWanted 12 = .ok (.istore 4, 2) := by decide +kernel
theorem dX4_markWanted_14 : decode cX4_markWanted 14 = .ok (.iload 4, 2) := by decide +kernel
theorem dX4_markWanted_16 : decode cX4_markWanted 16 = .ok (.iload_n 3, 1) := by decide +kernel
theorem dX4_markWanted_17 : decode cX4_markWanted 17 = .ok (.invokestatic 91, 3) := by decide +kernel
theorem dX4_markWanted_20 : decode cX4_markWanted 20 = .ok (.istore 5, 2) := by decide +kernel
theorem dX4_markWanted_22 : decode cX4_markWanted 22 = .ok (.iload 4, 2) := by decide +kernel
theorem dX4_markWanted_24 : decode cX4_markWanted 24 = .ok (.iload_n 3, 1) := by decide +kernel
theorem dX4_markWanted_25 : decode cX4_markWanted 25 = .ok (.invokestatic 96, 3) := by decide +kernel
theorem dX4_markWanted_28 : decode cX4_markWanted 28 = .ok (.istore 6, 2) := by decide +kernel
theorem dX4_markWanted_30 : decode cX4_markWanted 30 = .ok (.iload 6, 2) := by decide +kernel
theorem dX4_markWanted_32 : decode cX4_markWanted 32 = .ok (.iload 5, 2) := by decide +kernel
theorem dX4_markWanted_34 : decode cX4_markWanted 34 = .ok (.if_icmp .gt 26, 3) := by decide +kernel
theorem dX4_markWanted_37 : decode cX4_markWanted 37 = .ok (.iload 6, 2) := by decide +kernel
theorem dX4_markWanted_39 : decode cX4_markWanted 39 = .ok (.iload 4, 2) := by decide +kernel
theorem dX4_markWanted_41 : decode cX4_markWanted 41 = .ok (.if_icmp .eq 13, 3) := by decide +kernel
theorem dX4_markWanted_44 : decode cX4_markWanted 44 = .ok (.aload_n 0, 1) := by decide +kernel
theorem dX4_markWanted_45 : decode cX4_markWanted 45 = .ok (.getfield 15, 3) := by decide +kernel
theorem dX4_markWanted_48 : decode cX4_markWanted 48 = .ok (.iload 6, 2) := by decide +kernel
theorem dX4_markWanted_50 : decode cX4_markWanted 50 = .ok (.iload_n 2, 1) := by decide +kernel
theorem dX4_markWanted_51 : decode cX4_markWanted 51 = .ok (.invokestatic 77, 3) := by decide +kernel
theorem dX4_markWanted_54 : decode cX4_markWanted 54 = .ok (.iinc 6 1, 3) := by decide +kernel
theorem dX4_markWanted_57 : decode cX4_markWanted 57 = .ok (.goto (-27), 3) := by decide +kernel
theorem dX4_markWanted_60 : decode cX4_markWanted 60 = .ok (.return_, 1) := by decide +kernel
theorem dX4_settle_0 : decode cX4_settle 0 = .ok (.iconst 0, 1) := by decide +kernel
theorem dX4_settle_1 : decode cX4_settle 1 = .ok (.istore_n 3, 1) := by decide +kernel
theorem dX4_settle_2 : decode cX4_settle 2 = .ok (.iload_n 3, 1) := by decide +kernel
theorem dX4_settle_3 : decode cX4_settle 3 = .ok (.aload_n 1, 1) := by decide +kernel
theorem dX4_settle_4 : decode cX4_settle 4 = .ok (.getfield 70, 3) := by decide +kernel
theorem dX4_settle_7 : decode cX4_settle 7 = .ok (.if_icmp .ge 125, 3) := by decide +kernel
theorem dX4_settle_10 : decode cX4_settle 10 = .ok (.aload_n 0, 1) := by decide +kernel
theorem dX4_settle_11 : decode cX4_settle 11 = .ok (.getfield 21, 3) := by decide +kernel
theorem dX4_settle_14 : decode cX4_settle 14 = .ok (.ifCond .eq 118, 3) := by decide +kernel
theorem dX4_settle_17 : decode cX4_settle 17 = .ok (.aload_n 0, 1) := by decide +kernel
theorem dX4_settle_18 : decode cX4_settle 18 = .ok (.getfield 21, 3) := by decide +kernel
theorem dX4_settle_21 : decode cX4_settle 21 = .ok (.istore 4, 2) := by decide +kernel
theorem dX4_settle_23 : decode cX4_settle 23 = .ok (.iconst 0, 1) := by decide +kernel
theorem dX4_settle_24 : decode cX4_settle 24 = .ok (.istore 5, 2) := by decide +kernel
theorem dX4_settle_26 : decode cX4_settle 26 = .ok (.iload 5, 2) := by decide +kernel
theorem dX4_settle_28 : decode cX4_settle 28 = .ok (.aload_n 1, 1) := by decide +kernel
theorem dX4_settle_29 : decode cX4_settle 29 = .ok (.getfield 70, 3) := by decide +kernel
theorem dX4_settle_32 : decode cX4_settle 32 = .ok (.if_icmp .ge 82, 3) := by decide +kernel
theorem dX4_settle_35 : decode cX4_settle 35 = .ok (.iload_n 2, 1) := by decide +kernel
theorem dX4_settle_36 : decode cX4_settle 36 = .ok (.iload 5, 2) := by decide +kernel
theorem dX4_settle_38 : decode cX4_settle 38 = .ok (.invokestatic 73, 3) := by decide +kernel
theorem dX4_settle_41 : decode cX4_settle 41 = .ok (.istore 6, 2) := by decide +kernel
theorem dX4_settle_43 : decode cX4_settle 43 = .ok (.aload_n 1, 1) := by decide +kernel
theorem dX4_settle_44 : decode cX4_settle 44 = .ok (.iload 5, 2) := by decide +kernel
theorem dX4_settle_46 : decode cX4_settle 46 = .ok (.invokevirtual 99, 3) := by decide +kernel
theorem dX4_settle_49 : decode cX4_settle 49 = .ok (.aload_n 0, 1) := by decide +kernel
theorem dX4_settle_50 : decode cX4_settle 50 = .ok (.getfield 9, 3) := by decide +kernel
theorem dX4_settle_53 : decode cX4_settle 53 = .ok (.iload 6, 2) := by decide +kernel
theorem dX4_settle_55 : decode cX4_settle 55 = .ok (.invokestatic 50, 3) := by decide +kernel
theorem dX4_settle_58 : decode cX4_settle 58 = .ok (.iconst (-1), 1) := by decide +kernel
theorem dX4_settle_59 : decode cX4_settle 59 = .ok (.ixor, 1) := by decide +kernel
theorem dX4_settle_60 : decode cX4_settle 60 = .ok (.iand, 1) := by decide +kernel
theorem dX4_settle_61 : decode cX4_settle 61 = .ok (.istore 7, 2) := by decide +kernel
theorem dX4_settle_63 : decode cX4_settle 63 = .ok (.aload_n 0, 1) := by decide +kernel
theorem dX4_settle_64 : decode cX4_settle 64 = .ok (.getfield 21, 3) := by decide +kernel
theorem dX4_settle_67 : decode cX4_settle 67 = .ok (.iload 5, 2) := by decide +kernel
theorem dX4_settle_69 : decode cX4_settle 69 = .ok (.invokestatic 54, 3) := by decide +kernel
theorem dX4_settle_72 : decode cX4_settle 72 = .ok (.iand, 1) := by decide +kernel
theorem dX4_settle_73 : decode cX4_settle 73 = .ok (.ifCond .eq 35, 3) := by decide +kernel
theorem dX4_settle_76 : decode cX4_settle 76 = .ok (.iload 7, 2) := by decide +kernel
theorem dX4_settle_78 : decode cX4_settle 78 = .ok (.ifCond .ne 30, 3) := by decide +kernel
theorem dX4_settle_81 : decode cX4_settle 81 = .ok (.aload_n 0, 1) := by decide +kernel
theorem dX4_settle_82 : decode cX4_settle 82 = .ok (.getfield 9, 3) := by decide +kernel
theorem dX4_settle_85 : decode cX4_settle 85 = .ok (.iload 6, 2) := by decide +kernel
theorem dX4_settle_87 : decode cX4_settle 87 = .ok (.iload 5, 2) := by decide +kernel
theorem dX4_settle_89 : decode cX4_settle 89 = .ok (.invokestatic 77, 3) := by decide +kernel
theorem dX4_settle_92 : decode cX4_settle 92 = .ok (.aload_n 0, 1) := by decide +kernel
theorem dX4_settle_93 : decode cX4_settle 93 = .ok (.dup, 1) := by decide +kernel
theorem dX4_settle_94 : decode cX4_settle 94 = .ok (.getfield 21, 3) := by decide +kernel
theorem dX4_settle_97 : decode cX4_settle 97 = .ok (.iload 5, 2) := by decide +kernel
theorem dX4_settle_99 : decode cX4_settle 99 = .ok (.invokestatic 54, 3) := by decide +kernel
theorem dX4_settle_102 : decode cX4_settle 102 = .ok (.iconst (-1), 1) := by decide +kernel
theorem dX4_settle_103 : decode cX4_settle 103 = .ok (.ixor, 1) := by decide +kernel
theorem dX4_settle_104 : decode cX4_settle 104 = .ok (.iand, 1) := by decide +kernel
theorem dX4_settle_105 : decode cX4_settle 105 = .ok (.putfield 21, 3) := by decide +kernel
theorem dX4_settle_108 : decode cX4_settle 108 = .ok (.iinc 5 1, 3) := by decide +kernel
theorem dX4_settle_111 : decode cX4_settle 111 = .ok (.goto (-85), 3) := by decide +kernel
theorem dX4_settle_114 : decode cX4_settle 114 = .ok (.aload_n 0, 1) := by decide +kernel
theorem dX4_settle_115 : decode cX4_settle 115 = .ok (.getfield 21, 3) := by decide +kernel
theorem dX4_settle_118 : decode cX4_settle 118 = .ok (.iload 4, 2) := by decide +kernel
theorem dX4_settle_120 : decode cX4_settle 120 = .ok (.if_icmp .ne 6, 3) := by decide +kernel
theorem dX4_settle_123 : decode cX4_settle 123 = .ok (.goto 9, 3) := by decide +kernel
theorem dX4_settle_126 : decode cX4_settle 126 = .ok (.iinc 3 1, 3) := by decide +kernel
theorem dX4_settle_129 : decode cX4_settle 129 = .ok (.goto (-127), 3) := by decide +kernel
theorem dX4_settle_132 : decode cX4_settle 132 = .ok (.return_, 1) := by decide +kernel
theorem dX4_sends_0 : decode cX4_sends 0 = .ok (.iconst 0, 1) := by decide +kernel
theorem dX4_sends_1 : decode cX4_sends 1 = .ok (.istore_n 3, 1) := by decide +kernel
theorem dX4_sends_2 : decode cX4_sends 2 = .ok (.iconst 0, 1) := by decide +kernel
theorem dX4_sends_3 : decode cX4_sends 3 = .ok (.istore 4, 2) := by decide +kernel
theorem dX4_sends_5 : decode cX4_sends 5 = .ok (.iconst 0, 1) := by decide +kernel
theorem dX4_sends_6 : decode cX4_sends 6 = .ok (.istore 5, 2) := by decide +kernel
theorem dX4_sends_8 : decode cX4_sends 8 = .ok (.iload 5, 2) := by decide +kernel
theorem dX4_sends_10 : decode cX4_sends 10 = .ok (.iconst 4, 1) := by decide +kernel
theorem dX4_sends_11 : decode cX4_sends 11 = .ok (.if_icmp .ge 17, 3) := by decide +kernel
theorem dX4_sends_14 : decode cX4_sends 14 = .ok (.aload_n 0, 1) := by decide +kernel
theorem dX4_sends_15 : decode cX4_sends 15 = .ok (.getfield 18, 3) := by decide +kernel
theorem dX4_sends_18 : decode cX4_sends 18 = .ok (.iload 5, 2) := by decide +kernel
theorem dX4_sends_20 : decode cX4_sends 20 = .ok (.iconst 0, 1) := by decide +kernel
theorem dX4_sends_21 : decode cX4_sends 21 = .ok (.iastore, 1) := by decide +kernel
theorem dX4_sends_22 : decode cX4_sends 22 = .ok (.iinc 5 1, 3) := by decide +kernel
theorem dX4_sends_25 : decode cX4_sends 25 = .ok (.goto (-17), 3) := by decide +kernel
theorem dX4_sends_28 : decode cX4_sends 28 = .ok (.iconst 0, 1) := by decide +kernel
theorem dX4_sends_29 : decode cX4_sends 29 = .ok (.istore 5, 2) := by decide +kernel
theorem dX4_sends_31 : decode cX4_sends 31 = .ok (.iload 5, 2) := by decide +kernel
theorem dX4_sends_33 : decode cX4_sends 33 = .ok (.iconst 1, 1) := by decide +kernel
theorem dX4_sends_34 : decode cX4_sends 34 = .ok (.iadd, 1) := by decide +kernel
theorem dX4_sends_35 : decode cX4_sends 35 = .ok (.aload_n 1, 1) := by decide +kernel
theorem dX4_sends_36 : decode cX4_sends 36 = .ok (.getfield 102, 3) := by decide +kernel
theorem dX4_sends_39 : decode cX4_sends 39 = .ok (.if_icmp .ge 105, 3) := by decide +kernel
theorem dX4_sends_42 : decode cX4_sends 42 = .ok (.aload_n 0, 1) := by decide +kernel
theorem dX4_sends_43 : decode cX4_sends 43 = .ok (.iload 5, 2) := by decide +kernel
theorem dX4_sends_45 : decode cX4_sends 45 = .ok (.iload 5, 2) := by decide +kernel
theorem dX4_sends_47 : decode cX4_sends 47 = .ok (.iconst 1, 1) := by decide +kernel
theorem dX4_sends_48 : decode cX4_sends 48 = .ok (.iadd, 1) := by decide +kernel
theorem dX4_sends_49 : decode cX4_sends 49 = .ok (.iload_n 2, 1) := by decide +kernel
theorem dX4_sends_50 : decode cX4_sends 50 = .ok (.invokevirtual 105, 3) := by decide +kernel
theorem dX4_sends_53 : decode cX4_sends 53 = .ok (.istore 6, 2) := by decide +kernel
theorem dX4_sends_55 : decode cX4_sends 55 = .ok (.aload_n 0, 1) := by decide +kernel
theorem dX4_sends_56 : decode cX4_sends 56 = .ok (.iload 5, 2) := by decide +kernel
theorem dX4_sends_58 : decode cX4_sends 58 = .ok (.iconst 1, 1) := by decide +kernel
theorem dX4_sends_59 : decode cX4_sends 59 = .ok (.iadd, 1) := by decide +kernel
theorem dX4_sends_60 : decode cX4_sends 60 = .ok (.iload 5, 2) := by decide +kernel
theorem dX4_sends_62 : decode cX4_sends 62 = .ok (.iload_n 2, 1) := by decide +kernel
theorem dX4_sends_63 : decode cX4_sends 63 = .ok (.invokevirtual 105, 3) := by decide +kernel
theorem dX4_sends_66 : decode cX4_sends 66 = .ok (.istore 7, 2) := by decide +kernel
theorem dX4_sends_68 : decode cX4_sends 68 = .ok (.aload_n 0, 1) := by decide +kernel
theorem dX4_sends_69 : decode cX4_sends 69 = .ok (.getfield 18, 3) := by decide +kernel
theorem dX4_sends_72 : decode cX4_sends 72 = .ok (.iload 5, 2) := by decide +kernel
theorem dX4_sends_74 : decode cX4_sends 74 = .ok (.iconst 1, 1) := by decide +kernel
theorem dX4_sends_75 : decode cX4_sends 75 = .ok (.iadd, 1) := by decide +kernel
theorem dX4_sends_76 : decode cX4_sends 76 = .ok (.aload_n 0, 1) := by decide +kernel
theorem dX4_sends_77 : decode cX4_sends 77 = .ok (.getfield 18, 3) := by decide +kernel
theorem dX4_sends_80 : decode cX4_sends 80 = .ok (.iload 5, 2) := by decide +kernel
theorem dX4_sends_82 : decode cX4_sends 82 = .ok (.iconst 1, 1) := by decide +kernel
theorem dX4_sends_83 : decode cX4_sends 83 = .ok (.iadd, 1) := by decide +kernel
theorem dX4_sends_84 : decode cX4_sends 84 = .ok (.invokestatic 50, 3) := by decide +kernel
theorem dX4_sends_87 : decode cX4_sends 87 = .ok (.iload 6, 2) := by decide +kernel
theorem dX4_sends_89 : decode cX4_sends 89 = .ok (.ior, 1) := by decide +kernel
theorem dX4_sends_90 : decode cX4_sends 90 = .ok (.invokestatic 109, 3) := by decide +kernel
theorem dX4_sends_93 : decode cX4_sends 93 = .ok (.aload_n 0, 1) := by decide +kernel
theorem dX4_sends_94 : decode cX4_sends 94 = .ok (.getfield 18, 3) := by decide +kernel
theorem dX4_sends_97 : decode cX4_sends 97 = .ok (.iload 5, 2) := by decide +kernel
theorem dX4_sends_99 : decode cX4_sends 99 = .ok (.aload_n 0, 1) := by decide +kernel
theorem dX4_sends_100 : decode cX4_sends 100 = .ok (.getfield 18, 3) := by decide +kernel
theorem dX4_sends_103 : decode cX4_sends 103 = .ok (.iload 5, 2) := by decide +kernel
theorem dX4_sends_105 : decode cX4_sends 105 = .ok (.invokestatic 50, 3) := by decide +kernel
theorem dX4_sends_108 : decode cX4_sends 108 = .ok (.iload 7, 2) := by decide +kernel
theorem dX4_sends_110 : decode cX4_sends 110 = .ok (.ior, 1) := by decide +kernel
theorem dX4_sends_111 : decode cX4_sends 111 = .ok (.invokestatic 109, 3) := by decide +kernel
theorem dX4_sends_114 : decode cX4_sends 114 = .ok (.iload_n 3, 1) := by decide +kernel
theorem dX4_sends_115 : decode cX4_sends 115 = .ok (.iload 6, 2) := by decide +kernel
theorem dX4_sends_117 : decode cX4_sends 117 = .ok (.iload 7, 2) := by decide +kernel
theorem dX4_sends_119 : decode cX4_sends 119 = .ok (.ior, 1) := by decide +kernel
theorem dX4_sends_120 : decode cX4_sends 120 = .ok (.ior, 1) := by decide +kernel
theorem dX4_sends_121 : decode cX4_sends 121 = .ok (.istore_n 3, 1) := by decide +kernel
theorem dX4_sends_122 : decode cX4_sends 122 = .ok (.iload 4, 2) := by decide +kernel
theorem dX4_sends_124 : decode cX4_sends 124 = .ok (.iload 6, 2) := by decide +kernel
theorem dX4_sends_126 : decode cX4_sends 126 = .ok (.invokestatic 112, 3) := by decide +kernel
theorem dX4_sends_129 : decode cX4_sends 129 = .ok (.iload 7, 2) := by decide +kernel
theorem dX4_sends_131 : decode cX4_sends 131 = .ok (.invokestatic 112, 3) := by decide +kernel
theorem dX4_sends_134 : decode cX4_sends 134 = .ok (.iadd, 1) := by decide +kernel
theorem dX4_sends_135 : decode cX4_sends 135 = .ok (.iadd, 1) := by decide +kernel
theorem dX4_sends_136 : decode cX4_sends 136 = .ok (.istore 4, 2) := by decide +kernel
theorem dX4_sends_138 : decode cX4_sends 138 = .ok (.iinc 5 1, 3) := by decide +kernel
theorem dX4_sends_141 : decode cX4_sends 141 = .ok (.goto (-110), 3) := by decide +kernel
theorem dX4_sends_144 : decode cX4_sends 144 = .ok (.iconst 0, 1) := by decide +kernel
theorem dX4_sends_145 : decode cX4_sends 145 = .ok (.istore 5, 2) := by decide +kernel
theorem dX4_sends_147 : decode cX4_sends 147 = .ok (.iload 5, 2) := by decide +kernel
theorem dX4_sends_149 : decode cX4_sends 149 = .ok (.iconst 4, 1) := by decide +kernel
theorem dX4_sends_150 : decode cX4_sends 150 = .ok (.if_icmp .ge 26, 3) := by decide +kernel
theorem dX4_sends_153 : decode cX4_sends 153 = .ok (.aload_n 0, 1) := by decide +kernel
theorem dX4_sends_154 : decode cX4_sends 154 = .ok (.getfield 9, 3) := by decide +kernel
theorem dX4_sends_157 : decode cX4_sends 157 = .ok (.iload 5, 2) := by decide +kernel
theorem dX4_sends_159 : decode cX4_sends 159 = .ok (.dup2, 1) := by decide +kernel
theorem dX4_sends_160 : decode cX4_sends 160 = .ok (.iaload, 1) := by decide +kernel
theorem dX4_sends_161 : decode cX4_sends 161 = .ok (.aload_n 0, 1) := by decide +kernel
theorem dX4_sends_162 : decode cX4_sends 162 = .ok (.getfield 18, 3) := by decide +kernel
theorem dX4_sends_165 : decode cX4_sends 165 = .ok (.iload 5, 2) := by decide +kernel
theorem dX4_sends_167 : decode cX4_sends 167 = .ok (.iaload, 1) := by decide +kernel
theorem dX4_sends_168 : decode cX4_sends 168 = .ok (.ior, 1) := by decide +kernel
theorem dX4_sends_169 : decode cX4_sends 169 = .ok (.iastore, 1) := by decide +kernel
theorem dX4_sends_170 : decode cX4_sends 170 = .ok (.iinc 5 1, 3) := by decide +kernel
theorem dX4_sends_173 : decode cX4_sends 173 = .ok (.goto (-26), 3) := by decide +kernel
theorem dX4_sends_176 : decode cX4_sends 176 = .ok (.iload 4, 2) := by decide +kernel
theorem dX4_sends_178 : decode cX4_sends 178 = .ok (.ifCond .le 29, 3) := by decide +kernel
theorem dX4_sends_181 : decode cX4_sends 181 = .ok (.aload_n 0, 1) := by decide +kernel
theorem dX4_sends_182 : decode cX4_sends 182 = .ok (.dup, 1) := by decide +kernel
theorem dX4_sends_183 : decode cX4_sends 183 = .ok (.getfield 25, 3) := by decide +kernel
theorem dX4_sends_186 : decode cX4_sends 186 = .ok (.iconst 1, 1) := by decide +kernel
theorem dX4_sends_187 : decode cX4_sends 187 = .ok (.iadd, 1) := by decide +kernel
theorem dX4_sends_188 : decode cX4_sends 188 = .ok (.putfield 25, 3) := by decide +kernel
theorem dX4_sends_191 : decode cX4_sends 191 = .ok (.aload_n 0, 1) := by decide +kernel
theorem dX4_sends_192 : decode cX4_sends 192 = .ok (.dup, 1) := by decide +kernel
theorem dX4_sends_193 : decode cX4_sends 193 = .ok (.getfield 28, 3) := by decide +kernel
theorem dX4_sends_196 : decode cX4_sends 196 = .ok (.iload 4, 2) := by decide +kernel
theorem dX4_sends_198 : decode cX4_sends 198 = .ok (.iadd, 1) := by decide +kernel
theorem dX4_sends_199 : decode cX4_sends 199 = .ok (.putfield 28, 3) := by decide +kernel
theorem dX4_sends_202 : decode cX4_sends 202 = .ok (.aload_n 0, 1) := by decide +kernel
theorem dX4_sends_203 : decode cX4_sends 203 = .ok (.iload_n 3, 1) := by decide +kernel
theorem dX4_sends_204 : decode cX4_sends 204 = .ok (.putfield 31, 3) := by decide +kernel
theorem dX4_sends_207 : decode cX4_sends 207 = .ok (.iload 4, 2) := by decide +kernel
theorem dX4_sends_209 : decode cX4_sends 209 = .ok (.ifCond .le 7, 3) := by decide +kernel
theorem dX4_sends_212 : decode cX4_sends 212 = .ok (.iconst 1, 1) := by decide +kernel
theorem dX4_sends_213 : decode cX4_sends 213 = .ok (.goto 4, 3) := by decide +kernel
theorem dX4_sends_216 : decode cX4_sends 216 = .ok (.iconst 0, 1) := by decide +kernel
theorem dX4_sends_217 : decode cX4_sends 217 = .ok (.ireturn, 1) := by decide +kernel
theorem dX4_offer_0 : decode cX4_offer 0 = .ok (.aload_n 0, 1) := by decide +kernel
theorem dX4_offer_1 : decode cX4_offer 1 = .ok (.getfield 9, 3) := by decide +kernel
theorem dX4_offer_4 : decode cX4_offer 4 = .ok (.iload_n 1, 1) := by decide +kernel
theorem dX4_offer_5 : decode cX4_offer 5 = .ok (.invokestatic 50, 3) := by decide +kernel
theorem dX4_offer_8 : decode cX4_offer 8 = .ok (.aload_n 0, 1) := by decide +kernel
theorem dX4_offer_9 : decode cX4_offer 9 = .ok (.getfield 9, 3) := by decide +kernel
theorem dX4_offer_12 : decode cX4_offer 12 = .ok (.iload_n 2, 1) := by decide +kernel
theorem dX4_offer_13 : decode cX4_offer 13 = .ok (.invokestatic 50, 3) := by decide +kernel
theorem dX4_offer_16 : decode cX4_offer 16 = .ok (.iconst (-1), 1) := by decide +kernel
theorem dX4_offer_17 : decode cX4_offer 17 = .ok (.ixor, 1) := by decide +kernel
theorem dX4_offer_18 : decode cX4_offer 18 = .ok (.iand, 1) := by decide +kernel
theorem dX4_offer_19 : decode cX4_offer 19 = .ok (.aload_n 0, 1) := by decide +kernel
theorem dX4_offer_20 : decode cX4_offer 20 = .ok (.getfield 15, 3) := by decide +kernel
theorem dX4_offer_23 : decode cX4_offer 23 = .ok (.iload_n 2, 1) := by decide +kernel
theorem dX4_offer_24 : decode cX4_offer 24 = .ok (.invokestatic 50, 3) := by decide +kernel
theorem dX4_offer_27 : decode cX4_offer 27 = .ok (.iand, 1) := by decide +kernel
theorem dX4_offer_28 : decode cX4_offer 28 = .ok (.iload_n 3, 1) := by decide +kernel
theorem dX4_offer_29 : decode cX4_offer 29 = .ok (.invokestatic 117, 3) := by decide +kernel
theorem dX4_offer_32 : decode cX4_offer 32 = .ok (.ireturn, 1) := by decide +kernel
theorem dX4_add_0 : decode cX4_add 0 = .ok (.aload_n 0, 1) := by decide +kernel
theorem dX4_add_1 : decode cX4_add 1 = .ok (.iload_n 1, 1) := by decide +kernel
theorem dX4_add_2 : decode cX4_add 2 = .ok (.aload_n 0, 1) := by decide +kernel
theorem dX4_add_3 : decode cX4_add 3 = .ok (.iload_n 1, 1) := by decide +kernel
theorem dX4_add_4 : decode cX4_add 4 = .ok (.invokestatic 50, 3) := by decide +kernel
theorem dX4_add_7 : decode cX4_add 7 = .ok (.iload_n 2, 1) := by decide +kernel
theorem dX4_add_8 : decode cX4_add 8 = .ok (.invokestatic 54, 3) := by decide +kernel
theorem dX4_add_11 : decode cX4_add 11 = .ok (.ior, 1) := by decide +kernel
theorem dX4_add_12 : decode cX4_add 12 = .ok (.invokestatic 109, 3) := by decide +kernel
theorem dX4_add_15 : decode cX4_add 15 = .ok (.return_, 1) := by decide +kernel
theorem dX5_init_0 : decode cX5_init 0 = .ok (.aload_n 0, 1) := by decide +kernel
theorem dX5_init_1 : decode cX5_init 1 = .ok (.invokespecial 1, 3) := by decide +kernel
theorem dX5_init_4 : decode cX5_init 4 = .ok (.aload_n 0, 1) := by decide +kernel
theorem dX5_init_5 : decode cX5_init 5 = .ok (.iload_n 1, 1) := by decide +kernel
theorem dX5_init_6 : decode cX5_init 6 = .ok (.iconst 0, 1) := by decide +kernel
theorem dX5_init_7 : decode cX5_init 7 = .ok (.invokestatic 7, 3) := by decide +kernel
theorem dX5_init_10 : decode cX5_init 10 = .ok (.iconst 5, 1) := by decide +kernel
theorem dX5_init_11 : decode cX5_init 11 = .ok (.imul, 1) := by decide +kernel
theorem dX5_init_12 : decode cX5_init 12 = .ok (.newarray .int, 2) := by decide +kernel
theorem dX5_init_14 : decode cX5_init 14 = .ok (.putfield 15, 3) := by decide +kernel
theorem dX5_init_17 : decode cX5_init 17 = .ok (.return_, 1) := by decide +kernel
theorem dX5_put_0 : decode cX5_put 0 = .ok (.iload_n 1, 1) := by decide +kernel
theorem dX5_put_1 : decode cX5_put 1 = .ok (.iconst 5, 1) := by decide +kernel
theorem dX5_put_2 : decode cX5_put 2 = .ok (.imul, 1) := by decide +kernel
theorem dX5_put_3 : decode cX5_put 3 = .ok (.istore_n 3, 1) := by decide +kernel
theorem dX5_put_4 : decode cX5_put 4 = .ok (.aload_n 0, 1) := by decide +kernel
theorem dX5_put_5 : decode cX5_put 5 = .ok (.getfield 15, 3) := by decide +kernel
theorem dX5_put_8 : decode cX5_put 8 = .ok (.iload_n 3, 1) := by decide +kernel
theorem dX5_put_9 : decode cX5_put 9 = .ok (.aload_n 2, 1) := by decide +kernel
theorem dX5_put_10 : decode cX5_put 10 = .ok (.getfield 19, 3) := by decide +kernel
theorem dX5_put_13 : decode cX5_put 13 = .ok (.invokestatic 25, 3) := by decide +kernel
theorem dX5_put_16 : decode cX5_put 16 = .ok (.aload_n 0, 1) := by decide +kernel
theorem dX5_put_17 : decode cX5_put 17 = .ok (.getfield 15, 3) := by decide +kernel
theorem dX5_put_20 : decode cX5_put 20 = .ok (.iload_n 3, 1) := by decide +kernel
theorem dX5_put_21 : decode cX5_put 21 = .ok (.iconst 1, 1) := by decide +kernel
theorem dX5_put_22 : decode cX5_put 22 = .ok (.iadd, 1) := by decide +kernel
theorem dX5_put_23 : decode cX5_put 23 = .ok (.aload_n 2, 1) := by decide +kernel
theorem dX5_put_24 : decode cX5_put 24 = .ok (.getfield 31, 3) := by decide +kernel
theorem dX5_put_27 : decode cX5_put 27 = .ok (.invokestatic 25, 3) := by decide +kernel
theorem dX5_put_30 : decode cX5_put 30 = .ok (.aload_n 0, 1) := by decide +kernel
theorem dX5_put_31 : decode cX5_put 31 = .ok (.getfield 15, 3) := by decide +kernel
theorem dX5_put_34 : decode cX5_put 34 = .ok (.iload_n 3, 1) := by decide +kernel
theorem dX5_put_35 : decode cX5_put 35 = .ok (.iconst 2, 1) := by decide +kernel
theorem dX5_put_36 : decode cX5_put 36 = .ok (.iadd, 1) := by decide +kernel
theorem dX5_put_37 : decode cX5_put 37 = .ok (.aload_n 2, 1) := by decide +kernel
theorem dX5_put_38 : decode cX5_put 38 = .ok (.getfield 34, 3) := by decide +kernel
theorem dX5_put_41 : decode cX5_put 41 = .ok (.invokestatic 25, 3) := by decide +kernel
theorem dX5_put_44 : decode cX5_put 44 = .ok (.aload_n 0, 1) := by decide +kernel
theorem dX5_put_45 : decode cX5_put 45 = .ok (.getfield 15, 3) := by decide +kernel
theorem dX5_put_48 : decode cX5_put 48 = .ok (.iload_n 3, 1) := by decide +kernel
theorem dX5_put_49 : decode cX5_put 49 = .ok (.iconst 3, 1) := by decide +kernel
theorem dX5_put_50 : decode cX5_put 50 = .ok (.iadd, 1) := by decide +kernel
theorem dX5_put_51 : decode cX5_put 51 = .ok (.aload_n 2, 1) := by decide +kernel
theorem dX5_put_52 : decode cX5_put 52 = .ok (.getfield 37, 3) := by decide +kernel
theorem dX5_put_55 : decode cX5_put 55 = .ok (.invokestatic 25, 3) := by decide +kernel
theorem dX5_put_58 : decode cX5_put 58 = .ok (.aload_n 0, 1) := by decide +kernel
theorem dX5_put_59 : decode cX5_put 59 = .ok (.getfield 15, 3) := by decide +kernel
theorem dX5_put_62 : decode cX5_put 62 = .ok (.iload_n 3, 1) := by decide +kernel
theorem dX5_put_63 : decode cX5_put 63 = .ok (.iconst 4, 1) := by decide +kernel
theorem dX5_put_64 : decode cX5_put 64 = .ok (.iadd, 1) := by decide +kernel
theorem dX5_put_65 : decode cX5_put 65 = .ok (.aload_n 2, 1) := by decide +kernel
theorem dX5_put_66 : decode cX5_put 66 = .ok (.getfield 40, 3) := by decide +kernel
theorem dX5_put_69 : decode cX5_put 69 = .ok (.invokestatic 25, 3) := by decide +kernel
theorem dX5_put_72 : decode cX5_put 72 = .ok (.return_, 1) := by decide +kernel
theorem dX5_get_0 : decode cX5_get 0 = .ok (.iload_n 1, 1) := by decide +kernel
theorem dX5_get_1 : decode cX5_get 1 = .ok (.iconst 5, 1) := by decide +kernel
theorem dX5_get_2 : decode cX5_get 2 = .ok (.imul, 1) := by decide +kernel
theorem dX5_get_3 : decode cX5_get 3 = .ok (.istore_n 3, 1) := by decide +kernel
theorem dX5_get_4 : decode cX5_get 4 = .ok (.aload_n 2, 1) := by decide +kernel
theorem dX5_get_5 : decode cX5_get 5 = .ok (.aload_n 0, 1) := by decide +kernel
theorem dX5_get_6 : decode cX5_get 6 = .ok (.getfield 15, 3) := by decide +kernel
theorem dX5_get_9 : decode cX5_get 9 = .ok (.iload_n 3, 1) := by decide +kernel
theorem dX5_get_10 : decode cX5_get 10 = .ok (.invokestatic 43, 3) := by decide +kernel
theorem dX5_get_13 : decode cX5_get 13 = .ok (.putfield 19, 3) := by decide +kernel
theorem dX5_get_16 : decode cX5_get 16 = .ok (.aload_n 2, 1) := by decide +kernel
theorem dX5_get_17 : decode cX5_get 17 = .ok (.aload_n 0, 1) := by decide +kernel
theorem dX5_get_18 : decode cX5_get 18 = .ok (.getfield 15, 3) := by decide +kernel
theorem dX5_get_21 : decode cX5_get 21 = .ok (.iload_n 3, 1) := by decide +kernel
theorem dX5_get_22 : decode cX5_get 22 = .ok (.iconst 1, 1) := by decide +kernel
theorem dX5_get_23 : decode cX5_get 23 = .ok (.iadd, 1) := by decide +kernel
theorem dX5_get_24 : decode cX5_get 24 = .ok (.invokestatic 43, 3) := by decide +kernel
theorem dX5_get_27 : decode cX5_get 27 = .ok (.putfield 31, 3) := by decide +kernel
theorem dX5_get_30 : decode cX5_get 30 = .ok (.aload_n 2, 1) := by decide +kernel
theorem dX5_get_31 : decode cX5_get 31 = .ok (.aload_n 0, 1) := by decide +kernel
theorem dX5_get_32 : decode cX5_get 32 = .ok (.getfield 15, 3) := by decide +kernel
theorem dX5_get_35 : decode cX5_get 35 = .ok (.iload_n 3, 1) := by decide +kernel
theorem dX5_get_36 : decode cX5_get 36 = .ok (.iconst 2, 1) := by decide +kernel
theorem dX5_get_37 : decode cX5_get 37 = .ok (.iadd, 1) := by decide +kernel
theorem dX5_get_38 : decode cX5_get 38 = .ok (.invokestatic 43, 3) := by decide +kernel
theorem dX5_get_41 : decode cX5_get 41 = .ok (.putfield 34, 3) := by decide +kernel
theorem dX5_get_44 : decode cX5_get 44 = .ok (.aload_n 2, 1) := by decide +kernel
theorem dX5_get_45 : decode cX5_get 45 = .ok (.aload_n 0, 1) := by decide +kernel
theorem dX5_get_46 : decode cX5_get 46 = .ok (.getfield 15, 3) := by decide +kernel
theorem dX5_get_49 : decode cX5_get 49 = .ok (.iload_n 3, 1) := by decide +kernel
theorem dX5_get_50 : decode cX5_get 50 = .ok (.iconst 3, 1) := by decide +kernel
theorem dX5_get_51 : decode cX5_get 51 = .ok (.iadd, 1) := by decide +kernel
theorem dX5_get_52 : decode cX5_get 52 = .ok (.invokestatic 43, 3) := by decide +kernel
theorem dX5_get_55 : decode cX5_get 55 = .ok (.putfield 37, 3) := by decide +kernel
theorem dX5_get_58 : decode cX5_get 58 = .ok (.aload_n 2, 1) := by decide +kernel
theorem dX5_get_59 : decode cX5_get 59 = .ok (.aload_n 0, 1) := by decide +kernel
theorem dX5_get_60 : decode cX5_get 60 = .ok (.getfield 15, 3) := by decide +kernel
theorem dX5_get_63 : decode cX5_get 63 = .ok (.iload_n 3, 1) := by decide +kernel
theorem dX5_get_64 : decode cX5_get 64 = .ok (.iconst 4, 1) := by decide +kernel
theorem dX5_get_65 : decode cX5_get 65 = .ok (.iadd, 1) := by decide +kernel
theorem dX5_get_66 : decode cX5_get 66 = .ok (.invokestatic 43, 3) := by decide +kernel
theorem dX5_get_69 : decode cX5_get 69 = .ok (.putfield 40, 3) := by decide +kernel
theorem dX5_get_72 : decode cX5_get 72 = .ok (.return_, 1) := by decide +kernel
theorem dX6_init_0 : decode cX6_init 0 = .ok (.aload_n 0, 1) := by decide +kernel
theorem dX6_init_1 : decode cX6_init 1 = .ok (.invokespecial 3, 3) := by decide +kernel
theorem dX6_init_4 : decode cX6_init 4 = .ok (.aload_n 0, 1) := by decide +kernel
