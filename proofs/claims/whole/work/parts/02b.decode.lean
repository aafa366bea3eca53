theorem dX6_init_5 : decode cX6_init 5 = .ok (.bipush 6, 2) := by decide +kernel
theorem dX6_init_7 : decode cX6_init 7 = .ok (.newarray .int, 2) := by decide +kernel
theorem dX6_init_9 : decode cX6_init 9 = .ok (.putfield 9, 3) := by decide +kernel
theorem dX6_init_12 : decode cX6_init 12 = .ok (.aload_n 0, 1) := by decide +kernel
theorem dX6_init_13 : decode cX6_init 13 = .ok (.bipush 6, 2) := by decide +kernel
theorem dX6_init_15 : decode cX6_init 15 = .ok (.newarray .int, 2) := by decide +kernel
theorem dX6_init_17 : decode cX6_init 17 = .ok (.putfield 15, 3) := by decide +kernel
theorem dX6_init_20 : decode cX6_init 20 = .ok (.aload_n 0, 1) := by decide +kernel
theorem dX6_init_21 : decode cX6_init 21 = .ok (.bipush 6, 2) := by decide +kernel
theorem dX6_init_23 : decode cX6_init 23 = .ok (.newarray .int, 2) := by decide +kernel
theorem dX6_init_25 : decode cX6_init 25 = .ok (.putfield 18, 3) := by decide +kernel
theorem dX6_init_28 : decode cX6_init 28 = .ok (.aload_n 0, 1) := by decide +kernel
theorem dX6_init_29 : decode cX6_init 29 = .ok (.bipush 6, 2) := by decide +kernel
theorem dX6_init_31 : decode cX6_init 31 = .ok (.newarray .int, 2) := by decide +kernel
theorem dX6_init_33 : decode cX6_init 33 = .ok (.putfield 21, 3) := by decide +kernel
theorem dX6_init_36 : decode cX6_init 36 = .ok (.aload_n 0, 1) := by decide +kernel
theorem dX6_init_37 : decode cX6_init 37 = .ok (.iconst 0, 1) := by decide +kernel
theorem dX6_init_38 : decode cX6_init 38 = .ok (.putfield 24, 3) := by decide +kernel
theorem dX6_init_41 : decode cX6_init 41 = .ok (.return_, 1) := by decide +kernel
theorem dX6_add_0 : decode cX6_add 0 = .ok (.aload_n 0, 1) := by decide +kernel
theorem dX6_add_1 : decode cX6_add 1 = .ok (.getfield 24, 3) := by decide +kernel
theorem dX6_add_4 : decode cX6_add 4 = .ok (.bipush 6, 2) := by decide +kernel
theorem dX6_add_6 : decode cX6_add 6 = .ok (.if_icmp .lt 5, 3) := by decide +kernel
theorem dX6_add_9 : decode cX6_add 9 = .ok (.iconst 0, 1) := by decide +kernel
theorem dX6_add_10 : decode cX6_add 10 = .ok (.ireturn, 1) := by decide +kernel
theorem dX6_add_11 : decode cX6_add 11 = .ok (.aload_n 0, 1) := by decide +kernel
theorem dX6_add_12 : decode cX6_add 12 = .ok (.getfield 9, 3) := by decide +kernel
theorem dX6_add_15 : decode cX6_add 15 = .ok (.aload_n 0, 1) := by decide +kernel
theorem dX6_add_16 : decode cX6_add 16 = .ok (.getfield 24, 3) := by decide +kernel
theorem dX6_add_19 : decode cX6_add 19 = .ok (.iload_n 1, 1) := by decide +kernel
theorem dX6_add_20 : decode cX6_add 20 = .ok (.invokestatic 28, 3) := by decide +kernel
theorem dX6_add_23 : decode cX6_add 23 = .ok (.aload_n 0, 1) := by decide +kernel
theorem dX6_add_24 : decode cX6_add 24 = .ok (.getfield 15, 3) := by decide +kernel
theorem dX6_add_27 : decode cX6_add 27 = .ok (.aload_n 0, 1) := by decide +kernel
theorem dX6_add_28 : decode cX6_add 28 = .ok (.getfield 24, 3) := by decide +kernel
theorem dX6_add_31 : decode cX6_add 31 = .ok (.iload_n 2, 1) := by decide +kernel
theorem dX6_add_32 : decode cX6_add 32 = .ok (.invokestatic 28, 3) := by decide +kernel
theorem dX6_add_35 : decode cX6_add 35 = .ok (.aload_n 0, 1) := by decide +kernel
theorem dX6_add_36 : decode cX6_add 36 = .ok (.getfield 18, 3) := by decide +kernel
theorem dX6_add_39 : decode cX6_add 39 = .ok (.aload_n 0, 1) := by decide +kernel
theorem dX6_add_40 : decode cX6_add 40 = .ok (.getfield 24, 3) := by decide +kernel
theorem dX6_add_43 : decode cX6_add 43 = .ok (.iload_n 3, 1) := by decide +kernel
theorem dX6_add_44 : decode cX6_add 44 = .ok (.invokestatic 28, 3) := by decide +kernel
theorem dX6_add_47 : decode cX6_add 47 = .ok (.aload_n 0, 1) := by decide +kernel
theorem dX6_add_48 : decode cX6_add 48 = .ok (.getfield 21, 3) := by decide +kernel
theorem dX6_add_51 : decode cX6_add 51 = .ok (.aload_n 0, 1) := by decide +kernel
theorem dX6_add_52 : decode cX6_add 52 = .ok (.getfield 24, 3) := by decide +kernel
theorem dX6_add_55 : decode cX6_add 55 = .ok (.iload 4, 2) := by decide +kernel
theorem dX6_add_57 : decode cX6_add 57 = .ok (.invokestatic 28, 3) := by decide +kernel
theorem dX6_add_60 : decode cX6_add 60 = .ok (.aload_n 0, 1) := by decide +kernel
theorem dX6_add_61 : decode cX6_add 61 = .ok (.dup, 1) := by decide +kernel
theorem dX6_add_62 : decode cX6_add 62 = .ok (.getfield 24, 3) := by decide +kernel
theorem dX6_add_65 : decode cX6_add 65 = .ok (.iconst 1, 1) := by decide +kernel
theorem dX6_add_66 : decode cX6_add 66 = .ok (.iadd, 1) := by decide +kernel
theorem dX6_add_67 : decode cX6_add 67 = .ok (.putfield 24, 3) := by decide +kernel
theorem dX6_add_70 : decode cX6_add 70 = .ok (.iconst 1, 1) := by decide +kernel
theorem dX6_add_71 : decode cX6_add 71 = .ok (.ireturn, 1) := by decide +kernel
theorem dX6_lastStep_0 : decode cX6_lastStep 0 = .ok (.bipush (-9), 2) := by decide +kernel
theorem dX6_lastStep_2 : decode cX6_lastStep 2 = .ok (.istore_n 1, 1) := by decide +kernel
theorem dX6_lastStep_3 : decode cX6_lastStep 3 = .ok (.iconst 0, 1) := by decide +kernel
theorem dX6_lastStep_4 : decode cX6_lastStep 4 = .ok (.istore_n 2, 1) := by decide +kernel
theorem dX6_lastStep_5 : decode cX6_lastStep 5 = .ok (.iload_n 2, 1) := by decide +kernel
theorem dX6_lastStep_6 : decode cX6_lastStep 6 = .ok (.aload_n 0, 1) := by decide +kernel
theorem dX6_lastStep_7 : decode cX6_lastStep 7 = .ok (.getfield 24, 3) := by decide +kernel
theorem dX6_lastStep_10 : decode cX6_lastStep 10 = .ok (.if_icmp .ge 22, 3) := by decide +kernel
theorem dX6_lastStep_13 : decode cX6_lastStep 13 = .ok (.iload_n 1, 1) := by decide +kernel
theorem dX6_lastStep_14 : decode cX6_lastStep 14 = .ok (.aload_n 0, 1) := by decide +kernel
theorem dX6_lastStep_15 : decode cX6_lastStep 15 = .ok (.getfield 9, 3) := by decide +kernel
theorem dX6_lastStep_18 : decode cX6_lastStep 18 = .ok (.iload_n 2, 1) := by decide +kernel
theorem dX6_lastStep_19 : decode cX6_lastStep 19 = .ok (.invokestatic 32, 3) := by decide +kernel
theorem dX6_lastStep_22 : decode cX6_lastStep 22 = .ok (.invokestatic 36, 3) := by decide +kernel
theorem dX6_lastStep_25 : decode cX6_lastStep 25 = .ok (.istore_n 1, 1) := by decide +kernel
theorem dX6_lastStep_26 : decode cX6_lastStep 26 = .ok (.iinc 2 1, 3) := by decide +kernel
theorem dX6_lastStep_29 : decode cX6_lastStep 29 = .ok (.goto (-24), 3) := by decide +kernel
theorem dX6_lastStep_32 : decode cX6_lastStep 32 = .ok (.iload_n 1, 1) := by decide +kernel
theorem dX6_lastStep_33 : decode cX6_lastStep 33 = .ok (.ireturn, 1) := by decide +kernel
theorem dX6_agree_0 : decode cX6_agree 0 = .ok (.iconst 0, 1) := by decide +kernel
theorem dX6_agree_1 : decode cX6_agree 1 = .ok (.istore 4, 2) := by decide +kernel
theorem dX6_agree_3 : decode cX6_agree 3 = .ok (.iload 4, 2) := by decide +kernel
theorem dX6_agree_5 : decode cX6_agree 5 = .ok (.aload_n 0, 1) := by decide +kernel
theorem dX6_agree_6 : decode cX6_agree 6 = .ok (.getfield 24, 3) := by decide +kernel
theorem dX6_agree_9 : decode cX6_agree 9 = .ok (.if_icmp .ge 99, 3) := by decide +kernel
theorem dX6_agree_12 : decode cX6_agree 12 = .ok (.aload_n 0, 1) := by decide +kernel
theorem dX6_agree_13 : decode cX6_agree 13 = .ok (.getfield 15, 3) := by decide +kernel
theorem dX6_agree_16 : decode cX6_agree 16 = .ok (.iload 4, 2) := by decide +kernel
theorem dX6_agree_18 : decode cX6_agree 18 = .ok (.invokestatic 32, 3) := by decide +kernel
theorem dX6_agree_21 : decode cX6_agree 21 = .ok (.istore 5, 2) := by decide +kernel
theorem dX6_agree_23 : decode cX6_agree 23 = .ok (.aload_n 0, 1) := by decide +kernel
theorem dX6_agree_24 : decode cX6_agree 24 = .ok (.getfield 9, 3) := by decide +kernel
theorem dX6_agree_27 : decode cX6_agree 27 = .ok (.iload 4, 2) := by decide +kernel
theorem dX6_agree_29 : decode cX6_agree 29 = .ok (.invokestatic 32, 3) := by decide +kernel
theorem dX6_agree_32 : decode cX6_agree 32 = .ok (.iload_n 1, 1) := by decide +kernel
theorem dX6_agree_33 : decode cX6_agree 33 = .ok (.if_icmp .ne 69, 3) := by decide +kernel
theorem dX6_agree_36 : decode cX6_agree 36 = .ok (.iload 5, 2) := by decide +kernel
theorem dX6_agree_38 : decode cX6_agree 38 = .ok (.aload_n 2, 1) := by decide +kernel
theorem dX6_agree_39 : decode cX6_agree 39 = .ok (.getfield 42, 3) := by decide +kernel
theorem dX6_agree_42 : decode cX6_agree 42 = .ok (.if_icmp .ge 60, 3) := by decide +kernel
theorem dX6_agree_45 : decode cX6_agree 45 = .ok (.aload_n 3, 1) := by decide +kernel
theorem dX6_agree_46 : decode cX6_agree 46 = .ok (.getfield 46, 3) := by decide +kernel
theorem dX6_agree_49 : decode cX6_agree 49 = .ok (.aload_n 3, 1) := by decide +kernel
theorem dX6_agree_50 : decode cX6_agree 50 = .ok (.getfield 51, 3) := by decide +kernel
theorem dX6_agree_53 : decode cX6_agree 53 = .ok (.iload 5, 2) := by decide +kernel
theorem dX6_agree_55 : decode cX6_agree 55 = .ok (.invokestatic 54, 3) := by decide +kernel
theorem dX6_agree_58 : decode cX6_agree 58 = .ok (.aload_n 0, 1) := by decide +kernel
theorem dX6_agree_59 : decode cX6_agree 59 = .ok (.getfield 18, 3) := by decide +kernel
theorem dX6_agree_62 : decode cX6_agree 62 = .ok (.iload 4, 2) := by decide +kernel
theorem dX6_agree_64 : decode cX6_agree 64 = .ok (.invokestatic 32, 3) := by decide +kernel
theorem dX6_agree_67 : decode cX6_agree 67 = .ok (.if_icmp .ne 7, 3) := by decide +kernel
theorem dX6_agree_70 : decode cX6_agree 70 = .ok (.iconst 1, 1) := by decide +kernel
theorem dX6_agree_71 : decode cX6_agree 71 = .ok (.goto 4, 3) := by decide +kernel
theorem dX6_agree_74 : decode cX6_agree 74 = .ok (.iconst 0, 1) := by decide +kernel
theorem dX6_agree_75 : decode cX6_agree 75 = .ok (.istore 6, 2) := by decide +kernel
theorem dX6_agree_77 : decode cX6_agree 77 = .ok (.iload 6, 2) := by decide +kernel
theorem dX6_agree_79 : decode cX6_agree 79 = .ok (.aload_n 0, 1) := by decide +kernel
theorem dX6_agree_80 : decode cX6_agree 80 = .ok (.getfield 21, 3) := by decide +kernel
theorem dX6_agree_83 : decode cX6_agree 83 = .ok (.iload 4, 2) := by decide +kernel
theorem dX6_agree_85 : decode cX6_agree 85 = .ok (.invokestatic 32, 3) := by decide +kernel
theorem dX6_agree_88 : decode cX6_agree 88 = .ok (.iconst 1, 1) := by decide +kernel
theorem dX6_agree_89 : decode cX6_agree 89 = .ok (.if_icmp .ne 7, 3) := by decide +kernel
theorem dX6_agree_92 : decode cX6_agree 92 = .ok (.iconst 1, 1) := by decide +kernel
theorem dX6_agree_93 : decode cX6_agree 93 = .ok (.goto 4, 3) := by decide +kernel
theorem dX6_agree_96 : decode cX6_agree 96 = .ok (.iconst 0, 1) := by decide +kernel
theorem dX6_agree_97 : decode cX6_agree 97 = .ok (.if_icmp .eq 5, 3) := by decide +kernel
theorem dX6_agree_100 : decode cX6_agree 100 = .ok (.iconst 0, 1) := by decide +kernel
theorem dX6_agree_101 : decode cX6_agree 101 = .ok (.ireturn, 1) := by decide +kernel
theorem dX6_agree_102 : decode cX6_agree 102 = .ok (.iinc 4 1, 3) := by decide +kernel
theorem dX6_agree_105 : decode cX6_agree 105 = .ok (.goto (-102), 3) := by decide +kernel
theorem dX6_agree_108 : decode cX6_agree 108 = .ok (.iconst 1, 1) := by decide +kernel
theorem dX6_agree_109 : decode cX6_agree 109 = .ok (.ireturn, 1) := by decide +kernel
theorem dX7_init_0 : decode cX7_init 0 = .ok (.aload_n 0, 1) := by decide +kernel
theorem dX7_init_1 : decode cX7_init 1 = .ok (.invokespecial 3, 3) := by decide +kernel
theorem dX7_init_4 : decode cX7_init 4 = .ok (.aload_n 0, 1) := by decide +kernel
theorem dX7_init_5 : decode cX7_init 5 = .ok (.iconst 0, 1) := by decide +kernel
theorem dX7_init_6 : decode cX7_init 6 = .ok (.putfield 9, 3) := by decide +kernel
theorem dX7_init_9 : decode cX7_init 9 = .ok (.aload_n 0, 1) := by decide +kernel
theorem dX7_init_10 : decode cX7_init 10 = .ok (.iconst 0, 1) := by decide +kernel
theorem dX7_init_11 : decode cX7_init 11 = .ok (.putfield 15, 3) := by decide +kernel
theorem dX7_init_14 : decode cX7_init 14 = .ok (.aload_n 0, 1) := by decide +kernel
theorem dX7_init_15 : decode cX7_init 15 = .ok (.iconst 0, 1) := by decide +kernel
theorem dX7_init_16 : decode cX7_init 16 = .ok (.putfield 18, 3) := by decide +kernel
theorem dX7_init_19 : decode cX7_init 19 = .ok (.aload_n 0, 1) := by decide +kernel
theorem dX7_init_20 : decode cX7_init 20 = .ok (.iconst 1, 1) := by decide +kernel
theorem dX7_init_21 : decode cX7_init 21 = .ok (.putfield 21, 3) := by decide +kernel
theorem dX7_init_24 : decode cX7_init 24 = .ok (.aload_n 0, 1) := by decide +kernel
theorem dX7_init_25 : decode cX7_init 25 = .ok (.iconst 0, 1) := by decide +kernel
theorem dX7_init_26 : decode cX7_init 26 = .ok (.putfield 24, 3) := by decide +kernel
theorem dX7_init_29 : decode cX7_init 29 = .ok (.return_, 1) := by decide +kernel
theorem dX7_begin_0 : decode cX7_begin 0 = .ok (.aload_n 0, 1) := by decide +kernel
theorem dX7_begin_1 : decode cX7_begin 1 = .ok (.iconst 0, 1) := by decide +kernel
theorem dX7_begin_2 : decode cX7_begin 2 = .ok (.putfield 9, 3) := by decide +kernel
theorem dX7_begin_5 : decode cX7_begin 5 = .ok (.aload_n 0, 1) := by decide +kernel
theorem dX7_begin_6 : decode cX7_begin 6 = .ok (.iconst 0, 1) := by decide +kernel
theorem dX7_begin_7 : decode cX7_begin 7 = .ok (.putfield 15, 3) := by decide +kernel
theorem dX7_begin_10 : decode cX7_begin 10 = .ok (.aload_n 0, 1) := by decide +kernel
theorem dX7_begin_11 : decode cX7_begin 11 = .ok (.aload_n 1, 1) := by decide +kernel
theorem dX7_begin_12 : decode cX7_begin 12 = .ok (.getfield 27, 3) := by decide +kernel
theorem dX7_begin_15 : decode cX7_begin 15 = .ok (.putfield 18, 3) := by decide +kernel
theorem dX7_begin_18 : decode cX7_begin 18 = .ok (.aload_n 0, 1) := by decide +kernel
theorem dX7_begin_19 : decode cX7_begin 19 = .ok (.aload_n 1, 1) := by decide +kernel
theorem dX7_begin_20 : decode cX7_begin 20 = .ok (.getfield 32, 3) := by decide +kernel
theorem dX7_begin_23 : decode cX7_begin 23 = .ok (.putfield 21, 3) := by decide +kernel
theorem dX7_begin_26 : decode cX7_begin 26 = .ok (.aload_n 0, 1) := by decide +kernel
theorem dX7_begin_27 : decode cX7_begin 27 = .ok (.iconst 0, 1) := by decide +kernel
theorem dX7_begin_28 : decode cX7_begin 28 = .ok (.putfield 24, 3) := by decide +kernel
theorem dX7_begin_31 : decode cX7_begin 31 = .ok (.return_, 1) := by decide +kernel
theorem dX7_takeFrom_0 : decode cX7_takeFrom 0 = .ok (.aload_n 0, 1) := by decide +kernel
theorem dX7_takeFrom_1 : decode cX7_takeFrom 1 = .ok (.aload_n 1, 1) := by decide +kernel
theorem dX7_takeFrom_2 : decode cX7_takeFrom 2 = .ok (.getfield 9, 3) := by decide +kernel
theorem dX7_takeFrom_5 : decode cX7_takeFrom 5 = .ok (.putfield 9, 3) := by decide +kernel
theorem dX7_takeFrom_8 : decode cX7_takeFrom 8 = .ok (.aload_n 0, 1) := by decide +kernel
theorem dX7_takeFrom_9 : decode cX7_takeFrom 9 = .ok (.aload_n 1, 1) := by decide +kernel
theorem dX7_takeFrom_10 : decode cX7_takeFrom 10 = .ok (.getfield 15, 3) := by decide +kernel
theorem dX7_takeFrom_13 : decode cX7_takeFrom 13 = .ok (.putfield 15, 3) := by decide +kernel
theorem dX7_takeFrom_16 : decode cX7_takeFrom 16 = .ok (.aload_n 0, 1) := by decide +kernel
theorem dX7_takeFrom_17 : decode cX7_takeFrom 17 = .ok (.aload_n 1, 1) := by decide +kernel
theorem dX7_takeFrom_18 : decode cX7_takeFrom 18 = .ok (.getfield 18, 3) := by decide +kernel
theorem dX7_takeFrom_21 : decode cX7_takeFrom 21 = .ok (.putfield 18, 3) := by decide +kernel
theorem dX7_takeFrom_24 : decode cX7_takeFrom 24 = .ok (.aload_n 0, 1) := by decide +kernel
theorem dX7_takeFrom_25 : decode cX7_takeFrom 25 = .ok (.aload_n 1, 1) := by decide +kernel
theorem dX7_takeFrom_26 : decode cX7_takeFrom 26 = .ok (.getfield 21, 3) := by decide +kernel
theorem dX7_takeFrom_29 : decode cX7_takeFrom 29 = .ok (.putfield 21, 3) := by decide +kernel
theorem dX7_takeFrom_32 : decode cX7_takeFrom 32 = .ok (.aload_n 0, 1) := by decide +kernel
theorem dX7_takeFrom_33 : decode cX7_takeFrom 33 = .ok (.aload_n 1, 1) := by decide +kernel
theorem dX7_takeFrom_34 : decode cX7_takeFrom 34 = .ok (.getfield 24, 3) := by decide +kernel
theorem dX7_takeFrom_37 : decode cX7_takeFrom 37 = .ok (.putfield 24, 3) := by decide +kernel
theorem dX7_takeFrom_40 : decode cX7_takeFrom 40 = .ok (.return_, 1) := by decide +kernel
theorem dX7_store_0 : decode cX7_store 0 = .ok (.aload_n 0, 1) := by decide +kernel
theorem dX7_store_1 : decode cX7_store 1 = .ok (.iload_n 2, 1) := by decide +kernel
theorem dX7_store_2 : decode cX7_store 2 = .ok (.iconst 1, 1) := by decide +kernel
theorem dX7_store_3 : decode cX7_store 3 = .ok (.if_icmp .ne 15, 3) := by decide +kernel
theorem dX7_store_6 : decode cX7_store 6 = .ok (.aload_n 0, 1) := by decide +kernel
theorem dX7_store_7 : decode cX7_store 7 = .ok (.getfield 9, 3) := by decide +kernel
theorem dX7_store_10 : decode cX7_store 10 = .ok (.iload_n 1, 1) := by decide +kernel
theorem dX7_store_11 : decode cX7_store 11 = .ok (.invokestatic 35, 3) := by decide +kernel
theorem dX7_store_14 : decode cX7_store 14 = .ok (.ior, 1) := by decide +kernel
theorem dX7_store_15 : decode cX7_store 15 = .ok (.goto 14, 3) := by decide +kernel
theorem dX7_store_18 : decode cX7_store 18 = .ok (.aload_n 0, 1) := by decide +kernel
theorem dX7_store_19 : decode cX7_store 19 = .ok (.getfield 9, 3) := by decide +kernel
theorem dX7_store_22 : decode cX7_store 22 = .ok (.iload_n 1, 1) := by decide +kernel
theorem dX7_store_23 : decode cX7_store 23 = .ok (.invokestatic 35, 3) := by decide +kernel
theorem dX7_store_26 : decode cX7_store 26 = .ok (.iconst (-1), 1) := by decide +kernel
theorem dX7_store_27 : decode cX7_store 27 = .ok (.ixor, 1) := by decide +kernel
theorem dX7_store_28 : decode cX7_store 28 = .ok (.iand, 1) := by decide +kernel
theorem dX7_store_29 : decode cX7_store 29 = .ok (.putfield 9, 3) := by decide +kernel
theorem dX7_store_32 : decode cX7_store 32 = .ok (.aload_n 0, 1) := by decide +kernel
theorem dX7_store_33 : decode cX7_store 33 = .ok (.iload_n 2, 1) := by decide +kernel
theorem dX7_store_34 : decode cX7_store 34 = .ok (.iconst 2, 1) := by decide +kernel
theorem dX7_store_35 : decode cX7_store 35 = .ok (.if_icmp .ne 15, 3) := by decide +kernel
theorem dX7_store_38 : decode cX7_store 38 = .ok (.aload_n 0, 1) := by decide +kernel
theorem dX7_store_39 : decode cX7_store 39 = .ok (.getfield 15, 3) := by decide +kernel
theorem dX7_store_42 : decode cX7_store 42 = .ok (.iload_n 1, 1) := by decide +kernel
theorem dX7_store_43 : decode cX7_store 43 = .ok (.invokestatic 35, 3) := by decide +kernel
theorem dX7_store_46 : decode cX7_store 46 = .ok (.ior, 1) := by decide +kernel
theorem dX7_store_47 : decode cX7_store 47 = .ok (.goto 14, 3) := by decide +kernel
theorem dX7_store_50 : decode cX7_store 50 = .ok (.aload_n 0, 1) := by decide +kernel
theorem dX7_store_51 : decode cX7_store 51 = .ok (.getfield 15, 3) := by decide +kernel
theorem dX7_store_54 : decode cX7_store 54 = .ok (.iload_n 1, 1) := by decide +kernel
theorem dX7_store_55 : decode cX7_store 55 = .ok (.invokestatic 35, 3) := by decide +kernel
theorem dX7_store_58 : decode cX7_store 58 = .ok (.iconst (-1), 1) := by decide +kernel
theorem dX7_store_59 : decode cX7_store 59 = .ok (.ixor, 1) := by decide +kernel
theorem dX7_store_60 : decode cX7_store 60 = .ok (.iand, 1) := by decide +kernel
theorem dX7_store_61 : decode cX7_store 61 = .ok (.putfield 15, 3) := by decide +kernel
theorem dX7_store_64 : decode cX7_store 64 = .ok (.return_, 1) := by decide +kernel
theorem dX8_init_0 : decode cX8_init 0 = .ok (.aload_n 0, 1) := by decide +kernel
theorem dX8_init_1 : decode cX8_init 1 = .ok (.invokespecial 3, 3) := by decide +kernel
theorem dX8_init_4 : decode cX8_init 4 = .ok (.aload_n 0, 1) := by decide +kernel
theorem dX8_init_5 : decode cX8_init 5 = .ok (.bipush 90, 2) := by decide +kernel
theorem dX8_init_7 : decode cX8_init 7 = .ok (.newarray .int, 2) := by decide +kernel
theorem dX8_init_9 : decode cX8_init 9 = .ok (.putfield 9, 3) := by decide +kernel
theorem dX8_init_12 : decode cX8_init 12 = .ok (.aload_n 0, 1) := by decide +kernel
theorem dX8_init_13 : decode cX8_init 13 = .ok (.iconst 0, 1) := by decide +kernel
theorem dX8_init_14 : decode cX8_init 14 = .ok (.putfield 15, 3) := by decide +kernel
theorem dX8_init_17 : decode cX8_init 17 = .ok (.return_, 1) := by decide +kernel
theorem dX8_append_0 : decode cX8_append 0 = .ok (.aload_n 0, 1) := by decide +kernel
theorem dX8_append_1 : decode cX8_append 1 = .ok (.getfield 15, 3) := by decide +kernel
theorem dX8_append_4 : decode cX8_append 4 = .ok (.bipush 90, 2) := by decide +kernel
theorem dX8_append_6 : decode cX8_append 6 = .ok (.if_icmp .lt 5, 3) := by decide +kernel
theorem dX8_append_9 : decode cX8_append 9 = .ok (.iconst 0, 1) := by decide +kernel
theorem dX8_append_10 : decode cX8_append 10 = .ok (.ireturn, 1) := by decide +kernel
theorem dX8_append_11 : decode cX8_append 11 = .ok (.aload_n 0, 1) := by decide +kernel
theorem dX8_append_12 : decode cX8_append 12 = .ok (.getfield 9, 3) := by decide +kernel
theorem dX8_append_15 : decode cX8_append 15 = .ok (.aload_n 0, 1) := by decide +kernel
theorem dX8_append_16 : decode cX8_append 16 = .ok (.getfield 15, 3) := by decide +kernel
theorem dX8_append_19 : decode cX8_append 19 = .ok (.iload_n 1, 1) := by decide +kernel
theorem dX8_append_20 : decode cX8_append 20 = .ok (.invokestatic 19, 3) := by decide +kernel
theorem dX8_append_23 : decode cX8_append 23 = .ok (.aload_n 0, 1) := by decide +kernel
theorem dX8_append_24 : decode cX8_append 24 = .ok (.dup, 1) := by decide +kernel
theorem dX8_append_25 : decode cX8_append 25 = .ok (.getfield 15, 3) := by decide +kernel
theorem dX8_append_28 : decode cX8_append 28 = .ok (.iconst 1, 1) := by decide +kernel
theorem dX8_append_29 : decode cX8_append 29 = .ok (.iadd, 1) := by decide +kernel
theorem dX8_append_30 : decode cX8_append 30 = .ok (.putfield 15, 3) := by decide +kernel
theorem dX8_append_33 : decode cX8_append 33 = .ok (.iconst 1, 1) := by decide +kernel
theorem dX8_append_34 : decode cX8_append 34 = .ok (.ireturn, 1) := by decide +kernel
theorem dX8_letterAt_0 : decode cX8_letterAt 0 = .ok (.aload_n 0, 1) := by decide +kernel
theorem dX8_letterAt_1 : decode cX8_letterAt 1 = .ok (.getfield 9, 3) := by decide +kernel
theorem dX8_letterAt_4 : decode cX8_letterAt 4 = .ok (.iload_n 1, 1) := by decide +kernel
theorem dX8_letterAt_5 : decode cX8_letterAt 5 = .ok (.invokestatic 23, 3) := by decide +kernel
theorem dX8_letterAt_8 : decode cX8_letterAt 8 = .ok (.ireturn, 1) := by decide +kernel
theorem dX9_init_0 : decode cX9_init 0 = .ok (.aload_n 0, 1) := by decide +kernel
theorem dX9_init_1 : decode cX9_init 1 = .ok (.invokespecial 3, 3) := by decide +kernel
theorem dX9_init_4 : decode cX9_init 4 = .ok (.aload_n 0, 1) := by decide +kernel
theorem dX9_init_5 : decode cX9_init 5 = .ok (.new 9, 3) := by decide +kernel
theorem dX9_init_8 : decode cX9_init 8 = .ok (.dup, 1) := by decide +kernel
theorem dX9_init_9 : decode cX9_init 9 = .ok (.invokespecial 11, 3) := by decide +kernel
theorem dX9_init_12 : decode cX9_init 12 = .ok (.putfield 12, 3) := by decide +kernel
theorem dX9_init_15 : decode cX9_init 15 = .ok (.aload_n 0, 1) := by decide +kernel
theorem dX9_init_16 : decode cX9_init 16 = .ok (.new 16, 3) := by decide +kernel
theorem dX9_init_19 : decode cX9_init 19 = .ok (.dup, 1) := by decide +kernel
theorem dX9_init_20 : decode cX9_init 20 = .ok (.invokespecial 18, 3) := by decide +kernel
theorem dX9_init_23 : decode cX9_init 23 = .ok (.putfield 19, 3) := by decide +kernel
theorem dX9_init_26 : decode cX9_init 26 = .ok (.aload_n 0, 1) := by decide +kernel
theorem dX9_init_27 : decode cX9_init 27 = .ok (.new 23, 3) := by decide +kernel
theorem dX9_init_30 : decode cX9_init 30 = .ok (.dup, 1) := by decide +kernel
theorem dX9_init_31 : decode cX9_init 31 = .ok (.invokespecial 25, 3) := by decide +kernel
theorem dX9_init_34 : decode cX9_init 34 = .ok (.putfield 26, 3) := by decide +kernel
theorem dX9_init_37 : decode cX9_init 37 = .ok (.aload_n 0, 1) := by decide +kernel
theorem dX9_init_38 : decode cX9_init 38 = .ok (.new 23, 3) := by decide +kernel
theorem dX9_init_41 : decode cX9_init 41 = .ok (.dup, 1) := by decide +kernel
theorem dX9_init_42 : decode cX9_init 42 = .ok (.invokespecial 25, 3) := by decide +kernel
theorem dX9_init_45 : decode cX9_init 45 = .ok (.putfield 30, 3) := by decide +kernel
theorem dX9_init_48 : decode cX9_init 48 = .ok (.aload_n 0, 1) := by decide +kernel
theorem dX9_init_49 : decode cX9_init 49 = .ok (.new 33, 3) := by decide +kernel
theorem dX9_init_52 : decode cX9_init 52 = .ok (.dup, 1) := by decide +kernel
theorem dX9_init_53 : decode cX9_init 53 = .ok (.invokespecial 35, 3) := by decide +kernel
theorem dX9_init_56 : decode cX9_init 56 = .ok (.putfield 36, 3) := by decide +kernel
theorem dX9_init_59 : decode cX9_init 59 = .ok (.aload_n 0, 1) := by decide +kernel
theorem dX9_init_60 : decode cX9_init 60 = .ok (.new 33, 3) := by decide +kernel
theorem dX9_init_63 : decode cX9_init 63 = .ok (.dup, 1) := by decide +kernel
theorem dX9_init_64 : decode cX9_init 64 = .ok (.invokespecial 35, 3) := by decide +kernel
theorem dX9_init_67 : decode cX9_init 67 = .ok (.putfield 40, 3) := by decide +kernel
theorem dX9_init_70 : decode cX9_init 70 = .ok (.aload_n 0, 1) := by decide +kernel
theorem dX9_init_71 : decode cX9_init 71 = .ok (.new 43, 3) := by decide +kernel
theorem dX9_init_74 : decode cX9_init 74 = .ok (.dup, 1) := by decide +kernel
theorem dX9_init_75 : decode cX9_init 75 = .ok (.invokespecial 45, 3) := by decide +kernel
theorem dX9_init_78 : decode cX9_init 78 = .ok (.putfield 46, 3) := by decide +kernel
theorem dX9_init_81 : decode cX9_init 81 = .ok (.aload_n 0, 1) := by decide +kernel
theorem dX9_init_82 : decode cX9_init 82 = .ok (.new 50, 3) := by decide +kernel
theorem dX9_init_85 : decode cX9_init 85 = .ok (.dup, 1) := by decide +kernel
theorem dX9_init_86 : decode cX9_init 86 = .ok (.invokespecial 52, 3) := by decide +kernel
theorem dX9_init_89 : decode cX9_init 89 = .ok (.putfield 53, 3) := by decide +kernel
theorem dX9_init_92 : decode cX9_init 92 = .ok (.aload_n 0, 1) := by decide +kernel
theorem dX9_init_93 : decode cX9_init 93 = .ok (.new 57, 3) := by decide +kernel
theorem dX9_init_96 : decode cX9_init 96 = .ok (.dup, 1) := by decide +kernel
theorem dX9_init_97 : decode cX9_init 97 = .ok (.invokespecial 59, 3) := by decide +kernel
theorem dX9_init_100 : decode cX9_init 100 = .ok (.putfield 60, 3) := by decide +kernel
theorem dX9_init_103 : decode cX9_init 103 = .ok (.aload_n 0, 1) := by decide +kernel
theorem dX9_init_104 : decode cX9_init 104 = .ok (.new 64, 3) := by decide +kernel
theorem dX9_init_107 : decode cX9_init 107 = .ok (.dup, 1) := by decide +kernel
theorem dX9_init_108 : decode cX9_init 108 = .ok (.iconst 2, 1) := by decide +kernel
theorem dX9_init_109 : decode cX9_init 109 = .ok (.invokespecial 66, 3) := by decide +kernel
theorem dX9_init_112 : decode cX9_init 112 = .ok (.putfield 69, 3) := by decide +kernel
theorem dX9_init_115 : decode cX9_init 115 = .ok (.aload_n 0, 1) := by decide +kernel
theorem dX9_init_116 : decode cX9_init 116 = .ok (.iconst 0, 1) := by decide +kernel
theorem dX9_init_117 : decode cX9_init 117 = .ok (.putfield 73, 3) := by decide +kernel
theorem dX9_init_120 : decode cX9_init 120 = .ok (.aload_n 0, 1) := by decide +kernel
theorem dX9_init_121 : decode cX9_init 121 = .ok (.new 77, 3) := by decide +kernel
theorem dX9_init_124 : decode cX9_init 124 = .ok (.dup, 1) := by decide +kernel
theorem dX9_init_125 : decode cX9_init 125 = .ok (.invokespecial 79, 3) := by decide +kernel
theorem dX9_init_128 : decode cX9_init 128 = .ok (.putfield 80, 3) := by decide +kernel
theorem dX9_init_131 : decode cX9_init 131 = .ok (.aload_n 0, 1) := by decide +kernel
theorem dX9_init_132 : decode cX9_init 132 = .ok (.bipush 121, 2) := by decide +kernel
theorem dX9_init_134 : decode cX9_init 134 = .ok (.newarray .int, 2) := by decide +kernel
theorem dX9_init_136 : decode cX9_init 136 = .ok (.putfield 84, 3) := by decide +kernel
theorem dX9_init_139 : decode cX9_init 139 = .ok (.aload_n 0, 1) := by decide +kernel
theorem dX9_init_140 : decode cX9_init 140 = .ok (.lconst 0, 1) := by decide +kernel
theorem dX9_init_141 : decode cX9_init 141 = .ok (.putfield 88, 3) := by decide +kernel
theorem dX9_init_144 : decode cX9_init 144 = .ok (.return_, 1) := by decide +kernel
theorem dX9_write_0 : decode cX9_write 0 = .ok (.iload_n 1, 1) := by decide +kernel
theorem dX9_write_1 : decode cX9_write 1 = .ok (.ifCond .lt 10, 3) := by decide +kernel
theorem dX9_write_4 : decode cX9_write 4 = .ok (.iload_n 1, 1) := by decide +kernel
theorem dX9_write_5 : decode cX9_write 5 = .ok (.sipush 255, 3) := by decide +kernel
theorem dX9_write_8 : decode cX9_write 8 = .ok (.if_icmp .le 6, 3) := by decide +kernel
theorem dX9_write_11 : decode cX9_write 11 = .ok (.bipush (-2), 2) := by decide +kernel
theorem dX9_write_13 : decode cX9_write 13 = .ok (.ireturn, 1) := by decide +kernel
theorem dX9_write_14 : decode cX9_write 14 = .ok (.aload_n 0, 1) := by decide +kernel
theorem dX9_write_15 : decode cX9_write 15 = .ok (.getfield 12, 3) := by decide +kernel
theorem dX9_write_18 : decode cX9_write 18 = .ok (.iload_n 1, 1) := by decide +kernel
theorem dX9_write_19 : decode cX9_write 19 = .ok (.invokevirtual 92, 3) := by decide +kernel
theorem dX9_write_22 : decode cX9_write 22 = .ok (.ifCond .eq 13, 3) := by decide +kernel
theorem dX9_write_25 : decode cX9_write 25 = .ok (.aload_n 0, 1) := by decide +kernel
theorem dX9_write_26 : decode cX9_write 26 = .ok (.getfield 12, 3) := by decide +kernel
theorem dX9_write_29 : decode cX9_write 29 = .ok (.getfield 96, 3) := by decide +kernel
theorem dX9_write_32 : decode cX9_write 32 = .ok (.goto 5, 3) := by decide +kernel
theorem dX9_write_35 : decode cX9_write 35 = .ok (.bipush (-4), 2) := by decide +kernel
theorem dX9_write_37 : decode cX9_write 37 = .ok (.ireturn, 1) := by decide +kernel
theorem dX9_wipe_0 : decode cX9_wipe 0 = .ok (.aload_n 0, 1) := by decide +kernel
theorem dX9_wipe_1 : decode cX9_wipe 1 = .ok (.getfield 12, 3) := by decide +kernel
theorem dX9_wipe_4 : decode cX9_wipe 4 = .ok (.getfield 96, 3) := by decide +kernel
theorem dX9_wipe_7 : decode cX9_wipe 7 = .ok (.istore_n 1, 1) := by decide +kernel
theorem dX9_wipe_8 : decode cX9_wipe 8 = .ok (.aload_n 0, 1) := by decide +kernel
theorem dX9_wipe_9 : decode cX9_wipe 9 = .ok (.getfield 12, 3) := by decide +kernel
theorem dX9_wipe_12 : decode cX9_wipe 12 = .ok (.iconst 0, 1) := by decide +kernel
theorem dX9_wipe_13 : decode cX9_wipe 13 = .ok (.putfield 96, 3) := by decide +kernel
theorem dX9_wipe_16 : decode cX9_wipe 16 = .ok (.iload_n 1, 1) := by decide +kernel
theorem dX9_wipe_17 : decode cX9_wipe 17 = .ok (.ireturn, 1) := by decide +kernel
theorem dX9_fault_0 : decode cX9_fault 0 = .ok (.aload_n 0, 1) := by decide +kernel
theorem dX9_fault_1 : decode cX9_fault 1 = .ok (.getfield 19, 3) := by decide +kernel
theorem dX9_fault_4 : decode cX9_fault 4 = .ok (.aload_n 0, 1) := by decide +kernel
theorem dX9_fault_5 : decode cX9_fault 5 = .ok (.getfield 12, 3) := by decide +kernel
theorem dX9_fault_8 : decode cX9_fault 8 = .ok (.aload_n 0, 1) := by decide +kernel
theorem dX9_fault_9 : decode cX9_fault 9 = .ok (.getfield 30, 3) := by decide +kernel
theorem dX9_fault_12 : decode cX9_fault 12 = .ok (.invokevirtual 99, 3) := by decide +kernel
theorem dX9_fault_15 : decode cX9_fault 15 = .ok (.ireturn, 1) := by decide +kernel
theorem dX9_board_0 : decode cX9_board 0 = .ok (.aload_n 0, 1) := by decide +kernel
theorem dX9_board_1 : decode cX9_board 1 = .ok (.getfield 19, 3) := by decide +kernel
theorem dX9_board_4 : decode cX9_board 4 = .ok (.aload_n 0, 1) := by decide +kernel
theorem dX9_board_5 : decode cX9_board 5 = .ok (.getfield 12, 3) := by decide +kernel
theorem dX9_board_8 : decode cX9_board 8 = .ok (.aload_n 0, 1) := by decide +kernel
theorem dX9_board_9 : decode cX9_board 9 = .ok (.getfield 30, 3) := by decide +kernel
theorem dX9_board_12 : decode cX9_board 12 = .ok (.invokevirtual 99, 3) := by decide +kernel
theorem dX9_board_15 : decode cX9_board 15 = .ok (.bipush (-9), 2) := by decide +kernel
theorem dX9_board_17 : decode cX9_board 17 = .ok (.if_icmp .eq 6, 3) := by decide +kernel
theorem dX9_board_20 : decode cX9_board 20 = .ok (.bipush (-3), 2) := by decide +kernel
theorem dX9_board_22 : decode cX9_board 22 = .ok (.ireturn, 1) := by decide +kernel
theorem dX9_board_23 : decode cX9_board 23 = .ok (.aload_n 0, 1) := by decide +kernel
theorem dX9_board_24 : decode cX9_board 24 = .ok (.getfield 26, 3) := by decide +kernel
theorem dX9_board_27 : decode cX9_board 27 = .ok (.astore_n 1, 1) := by decide +kernel
theorem dX9_board_28 : decode cX9_board 28 = .ok (.aload_n 0, 1) := by decide +kernel
theorem dX9_board_29 : decode cX9_board 29 = .ok (.aload_n 0, 1) := by decide +kernel
theorem dX9_board_30 : decode cX9_board 30 = .ok (.getfield 30, 3) := by decide +kernel
theorem dX9_board_33 : decode cX9_board 33 = .ok (.putfield 26, 3) := by decide +kernel
theorem dX9_board_36 : decode cX9_board 36 = .ok (.aload_n 0, 1) := by decide +kernel
theorem dX9_board_37 : decode cX9_board 37 = .ok (.aload_n 1, 1) := by decide +kernel
theorem dX9_board_38 : decode cX9_board 38 = .ok (.putfield 30, 3) := by decide +kernel
theorem dX9_board_41 : decode cX9_board 41 = .ok (.aload_n 0, 1) := by decide +kernel
theorem dX9_board_42 : decode cX9_board 42 = .ok (.getfield 36, 3) := by decide +kernel
theorem dX9_board_45 : decode cX9_board 45 = .ok (.aload_n 0, 1) := by decide +kernel
theorem dX9_board_46 : decode cX9_board 46 = .ok (.getfield 26, 3) := by decide +kernel
theorem dX9_board_49 : decode cX9_board 49 = .ok (.invokevirtual 103, 3) := by decide +kernel
theorem dX9_board_52 : decode cX9_board 52 = .ok (.aload_n 0, 1) := by decide +kernel
theorem dX9_board_53 : decode cX9_board 53 = .ok (.getfield 60, 3) := by decide +kernel
theorem dX9_board_56 : decode cX9_board 56 = .ok (.invokevirtual 107, 3) := by decide +kernel
theorem dX9_board_59 : decode cX9_board 59 = .ok (.aload_n 0, 1) := by decide +kernel
theorem dX9_board_60 : decode cX9_board 60 = .ok (.iconst 0, 1) := by decide +kernel
theorem dX9_board_61 : decode cX9_board 61 = .ok (.putfield 73, 3) := by decide +kernel
theorem dX9_board_64 : decode cX9_board 64 = .ok (.aload_n 0, 1) := by decide +kernel
theorem dX9_board_65 : decode cX9_board 65 = .ok (.getfield 26, 3) := by decide +kernel
theorem dX9_board_68 : decode cX9_board 68 = .ok (.getfield 110, 3) := by decide +kernel
theorem dX9_board_71 : decode cX9_board 71 = .ok (.ireturn, 1) := by decide +kernel
theorem dX9_gate_0 : decode cX9_gate 0 = .ok (.aload_n 0, 1) := by decide +kernel
theorem dX9_gate_1 : decode cX9_gate 1 = .ok (.iload_n 1, 1) := by decide +kernel
theorem dX9_gate_2 : decode cX9_gate 2 = .ok (.invokevirtual 113, 3) := by decide +kernel
theorem dX9_gate_5 : decode cX9_gate 5 = .ok (.ifCond .ne 5, 3) := by decide +kernel
theorem dX9_gate_8 : decode cX9_gate 8 = .ok (.iconst (-1), 1) := by decide +kernel
theorem dX9_gate_9 : decode cX9_gate 9 = .ok (.ireturn, 1) := by decide +kernel
theorem dX9_gate_10 : decode cX9_gate 10 = .ok (.iload_n 2, 1) := by decide +kernel
theorem dX9_gate_11 : decode cX9_gate 11 = .ok (.tableswitch 108 0 6 #[41, 50, 62, 71, 80, 89, 99], 41) := by decide +kernel
theorem dX9_gate_52 : decode cX9_gate 52 = .ok (.aload_n 0, 1) := by decide +kernel
theorem dX9_gate_53 : decode cX9_gate 53 = .ok (.getfield 26, 3) := by decide +kernel
theorem dX9_gate_56 : decode cX9_gate 56 = .ok (.iload_n 1, 1) := by decide +kernel
theorem dX9_gate_57 : decode cX9_gate 57 = .ok (.invokevirtual 116, 3) := by decide +kernel
theorem dX9_gate_60 : decode cX9_gate 60 = .ok (.ireturn, 1) := by decide +kernel
theorem dX9_gate_61 : decode cX9_gate 61 = .ok (.aload_n 0, 1) := by decide +kernel
theorem dX9_gate_62 : decode cX9_gate 62 = .ok (.getfield 36, 3) := by decide +kernel
theorem dX9_gate_65 : decode cX9_gate 65 = .ok (.getfield 120, 3) := by decide +kernel
theorem dX9_gate_68 : decode cX9_gate 68 = .ok (.iload_n 1, 1) := by decide +kernel
theorem dX9_gate_69 : decode cX9_gate 69 = .ok (.invokestatic 123, 3) := by decide +kernel
theorem dX9_gate_72 : decode cX9_gate 72 = .ok (.ireturn, 1) := by decide +kernel
theorem dX9_gate_73 : decode cX9_gate 73 = .ok (.aload_n 0, 1) := by decide +kernel
theorem dX9_gate_74 : decode cX9_gate 74 = .ok (.getfield 26, 3) := by decide +kernel
theorem dX9_gate_77 : decode cX9_gate 77 = .ok (.iload_n 1, 1) := by decide +kernel
theorem dX9_gate_78 : decode cX9_gate 78 = .ok (.invokevirtual 127, 3) := by decide +kernel
theorem dX9_gate_81 : decode cX9_gate 81 = .ok (.ireturn, 1) := by decide +kernel
theorem dX9_gate_82 : decode cX9_gate 82 = .ok (.aload_n 0, 1) := by decide +kernel
theorem dX9_gate_83 : decode cX9_gate 83 = .ok (.getfield 26, 3) := by decide +kernel
theorem dX9_gate_86 : decode cX9_gate 86 = .ok (.iload_n 1, 1) := by decide +kernel
theorem dX9_gate_87 : decode cX9_gate 87 = .ok (.invokevirtual 130, 3) := by decide +kernel
theorem dX9_gate_90 : decode cX9_gate 90 = .ok (.ireturn, 1) := by decide +kernel
theorem dX9_gate_91 : decode cX9_gate 91 = .ok (.aload_n 0, 1) := by decide +kernel
theorem dX9_gate_92 : decode cX9_gate 92 = .ok (.getfield 26, 3) := by decide +kernel
theorem dX9_gate_95 : decode cX9_gate 95 = .ok (.iload_n 1, 1) := by decide +kernel
theorem dX9_gate_96 : decode cX9_gate 96 = .ok (.invokevirtual 133, 3) := by decide +kernel
theorem dX9_gate_99 : decode cX9_gate 99 = .ok (.ireturn, 1) := by decide +kernel
theorem dX9_gate_100 : decode cX9_gate 100 = .ok (.aload_n 0, 1) := by decide +kernel
theorem dX9_gate_101 : decode cX9_gate 101 = .ok (.aload_n 0, 1) := by decide +kernel
theorem dX9_gate_102 : decode cX9_gate 102 = .ok (.getfield 36, 3) := by decide +kernel
theorem dX9_gate_105 : decode cX9_gate 105 = .ok (.iload_n 1, 1) := by decide +kernel
theorem dX9_gate_106 : decode cX9_gate 106 = .ok (.invokevirtual 136, 3) := by decide +kernel
theorem dX9_gate_109 : decode cX9_gate 109 = .ok (.ireturn, 1) := by decide +kernel
theorem dX9_gate_110 : decode cX9_gate 110 = .ok (.aload_n 0, 1) := by decide +kernel
theorem dX9_gate_111 : decode cX9_gate 111 = .ok (.getfield 26, 3) := by decide +kernel
theorem dX9_gate_114 : decode cX9_gate 114 = .ok (.iload_n 1, 1) := by decide +kernel
theorem dX9_gate_115 : decode cX9_gate 115 = .ok (.invokevirtual 140, 3) := by decide +kernel
theorem dX9_gate_118 : decode cX9_gate 118 = .ok (.ireturn, 1) := by decide +kernel
theorem dX9_gate_119 : decode cX9_gate 119 = .ok (.bipush (-2), 2) := by decide +kernel
theorem dX9_gate_121 : decode cX9_gate 121 = .ok (.ireturn, 1) := by decide +kernel
theorem dX9_step_0 : decode cX9_step 0 = .ok (.iload_n 1, 1) := by decide +kernel
theorem dX9_step_1 : decode cX9_step 1 = .ok (.iconst 1, 1) := by decide +kernel
theorem dX9_step_2 : decode cX9_step 2 = .ok (.if_icmp .lt 9, 3) := by decide +kernel
theorem dX9_step_5 : decode cX9_step 5 = .ok (.iload_n 1, 1) := by decide +kernel
theorem dX9_step_6 : decode cX9_step 6 = .ok (.bipush 99, 2) := by decide +kernel
theorem dX9_step_8 : decode cX9_step 8 = .ok (.if_icmp .le 6, 3) := by decide +kernel
theorem dX9_step_11 : decode cX9_step 11 = .ok (.bipush (-2), 2) := by decide +kernel
theorem dX9_step_13 : decode cX9_step 13 = .ok (.ireturn, 1) := by decide +kernel
theorem dX9_step_14 : decode cX9_step 14 = .ok (.aload_n 0, 1) := by decide +kernel
theorem dX9_step_15 : decode cX9_step 15 = .ok (.getfield 60, 3) := by decide +kernel
theorem dX9_step_18 : decode cX9_step 18 = .ok (.aload_n 0, 1) := by decide +kernel
theorem dX9_step_19 : decode cX9_step 19 = .ok (.getfield 36, 3) := by decide +kernel
theorem dX9_step_22 : decode cX9_step 22 = .ok (.invokevirtual 143, 3) := by decide +kernel
theorem dX9_step_25 : decode cX9_step 25 = .ok (.aload_n 0, 1) := by decide +kernel
theorem dX9_step_26 : decode cX9_step 26 = .ok (.aload_n 0, 1) := by decide +kernel
theorem dX9_step_27 : decode cX9_step 27 = .ok (.getfield 36, 3) := by decide +kernel
theorem dX9_step_30 : decode cX9_step 30 = .ok (.iload_n 1, 1) := by decide +kernel
theorem dX9_step_31 : decode cX9_step 31 = .ok (.invokevirtual 147, 3) := by decide +kernel
theorem dX9_step_34 : decode cX9_step 34 = .ok (.aload_n 0, 1) := by decide +kernel
theorem dX9_step_35 : decode cX9_step 35 = .ok (.getfield 36, 3) := by decide +kernel
theorem dX9_step_38 : decode cX9_step 38 = .ok (.getfield 151, 3) := by decide +kernel
theorem dX9_step_41 : decode cX9_step 41 = .ok (.ireturn, 1) := by decide +kernel
theorem dX9_input_0 : decode cX9_input 0 = .ok (.aload_n 0, 1) := by decide +kernel
theorem dX9_input_1 : decode cX9_input 1 = .ok (.iload_n 1, 1) := by decide +kernel
theorem dX9_input_2 : decode cX9_input 2 = .ok (.invokevirtual 113, 3) := by decide +kernel
theorem dX9_input_5 : decode cX9_input 5 = .ok (.ifCond .ne 5, 3) := by decide +kernel
theorem dX9_input_8 : decode cX9_input 8 = .ok (.iconst (-1), 1) := by decide +kernel
theorem dX9_input_9 : decode cX9_input 9 = .ok (.ireturn, 1) := by decide +kernel
theorem dX9_input_10 : decode cX9_input 10 = .ok (.aload_n 0, 1) := by decide +kernel
theorem dX9_input_11 : decode cX9_input 11 = .ok (.getfield 26, 3) := by decide +kernel
theorem dX9_input_14 : decode cX9_input 14 = .ok (.iload_n 1, 1) := by decide +kernel
theorem dX9_input_15 : decode cX9_input 15 = .ok (.invokevirtual 116, 3) := by decide +kernel
theorem dX9_input_18 : decode cX9_input 18 = .ok (.ifCond .eq 6, 3) := by decide +kernel
theorem dX9_input_21 : decode cX9_input 21 = .ok (.bipush (-3), 2) := by decide +kernel
theorem dX9_input_23 : decode cX9_input 23 = .ok (.ireturn, 1) := by decide +kernel
theorem dX9_input_24 : decode cX9_input 24 = .ok (.iload_n 2, 1) := by decide +kernel
theorem dX9_input_25 : decode cX9_input 25 = .ok (.invokestatic 154, 3) := by decide +kernel
theorem dX9_input_28 : decode cX9_input 28 = .ok (.ifCond .ne 6, 3) := by decide +kernel
theorem dX9_input_31 : decode cX9_input 31 = .ok (.bipush (-2), 2) := by decide +kernel
theorem dX9_input_33 : decode cX9_input 33 = .ok (.ireturn, 1) := by decide +kernel
theorem dX9_input_34 : decode cX9_input 34 = .ok (.aload_n 0, 1) := by decide +kernel
theorem dX9_input_35 : decode cX9_input 35 = .ok (.getfield 60, 3) := by decide +kernel
theorem dX9_input_38 : decode cX9_input 38 = .ok (.aload_n 0, 1) := by decide +kernel
theorem dX9_input_39 : decode cX9_input 39 = .ok (.getfield 36, 3) := by decide +kernel
theorem dX9_input_42 : decode cX9_input 42 = .ok (.invokevirtual 143, 3) := by decide +kernel
theorem dX9_input_45 : decode cX9_input 45 = .ok (.aload_n 0, 1) := by decide +kernel
theorem dX9_input_46 : decode cX9_input 46 = .ok (.getfield 36, 3) := by decide +kernel
theorem dX9_input_49 : decode cX9_input 49 = .ok (.getfield 157, 3) := by decide +kernel
theorem dX9_input_52 : decode cX9_input 52 = .ok (.aload_n 0, 1) := by decide +kernel
theorem dX9_input_53 : decode cX9_input 53 = .ok (.getfield 36, 3) := by decide +kernel
theorem dX9_input_56 : decode cX9_input 56 = .ok (.getfield 160, 3) := by decide +kernel
theorem dX9_input_59 : decode cX9_input 59 = .ok (.iload_n 1, 1) := by decide +kernel
theorem dX9_input_60 : decode cX9_input 60 = .ok (.invokestatic 163, 3) := by decide +kernel
theorem dX9_input_63 : decode cX9_input 63 = .ok (.istore_n 3, 1) := by decide +kernel
theorem dX9_input_64 : decode cX9_input 64 = .ok (.aload_n 0, 1) := by decide +kernel
theorem dX9_input_65 : decode cX9_input 65 = .ok (.getfield 36, 3) := by decide +kernel
theorem dX9_input_68 : decode cX9_input 68 = .ok (.iload_n 1, 1) := by decide +kernel
theorem dX9_input_69 : decode cX9_input 69 = .ok (.iload_n 2, 1) := by decide +kernel
theorem dX9_input_70 : decode cX9_input 70 = .ok (.invokevirtual 167, 3) := by decide +kernel
theorem dX9_input_73 : decode cX9_input 73 = .ok (.iload_n 3, 1) := by decide +kernel
theorem dX9_input_74 : decode cX9_input 74 = .ok (.ireturn, 1) := by decide +kernel
theorem dX9_lay_0 : decode cX9_lay 0 = .ok (.aload_n 0, 1) := by decide +kernel
theorem dX9_lay_1 : decode cX9_lay 1 = .ok (.iload_n 1, 1) := by decide +kernel
theorem dX9_lay_2 : decode cX9_lay 2 = .ok (.invokevirtual 113, 3) := by decide +kernel
theorem dX9_lay_5 : decode cX9_lay 5 = .ok (.ifCond .eq 11, 3) := by decide +kernel
theorem dX9_lay_8 : decode cX9_lay 8 = .ok (.aload_n 0, 1) := by decide +kernel
theorem dX9_lay_9 : decode cX9_lay 9 = .ok (.iload_n 2, 1) := by decide +kernel
theorem dX9_lay_10 : decode cX9_lay 10 = .ok (.invokevirtual 171, 3) := by decide +kernel
theorem dX9_lay_13 : decode cX9_lay 13 = .ok (.ifCond .ne 5, 3) := by decide +kernel
theorem dX9_lay_16 : decode cX9_lay 16 = .ok (.iconst (-1), 1) := by decide +kernel
theorem dX9_lay_17 : decode cX9_lay 17 = .ok (.ireturn, 1) := by decide +kernel
theorem dX9_lay_18 : decode cX9_lay 18 = .ok (.aload_n 0, 1) := by decide +kernel
theorem dX9_lay_19 : decode cX9_lay 19 = .ok (.getfield 36, 3) := by decide +kernel
theorem dX9_lay_22 : decode cX9_lay 22 = .ok (.getfield 120, 3) := by decide +kernel
theorem dX9_lay_25 : decode cX9_lay 25 = .ok (.iload_n 1, 1) := by decide +kernel
theorem dX9_lay_26 : decode cX9_lay 26 = .ok (.invokestatic 123, 3) := by decide +kernel
theorem dX9_lay_29 : decode cX9_lay 29 = .ok (.istore_n 3, 1) := by decide +kernel
theorem dX9_lay_30 : decode cX9_lay 30 = .ok (.iload_n 3, 1) := by decide +kernel
theorem dX9_lay_31 : decode cX9_lay 31 = .ok (.iload_n 2, 1) := by decide +kernel
theorem dX9_lay_32 : decode cX9_lay 32 = .ok (.if_icmp .ne 6, 3) := by decide +kernel
theorem dX9_lay_35 : decode cX9_lay 35 = .ok (.bipush (-3), 2) := by decide +kernel
theorem dX9_lay_37 : decode cX9_lay 37 = .ok (.ireturn, 1) := by decide +kernel
theorem dX9_lay_38 : decode cX9_lay 38 = .ok (.aload_n 0, 1) := by decide +kernel
theorem dX9_lay_39 : decode cX9_lay 39 = .ok (.getfield 60, 3) := by decide +kernel
theorem dX9_lay_42 : decode cX9_lay 42 = .ok (.aload_n 0, 1) := by decide +kernel
theorem dX9_lay_43 : decode cX9_lay 43 = .ok (.getfield 36, 3) := by decide +kernel
theorem dX9_lay_46 : decode cX9_lay 46 = .ok (.invokevirtual 143, 3) := by decide +kernel
theorem dX9_lay_49 : decode cX9_lay 49 = .ok (.aload_n 0, 1) := by decide +kernel
theorem dX9_lay_50 : decode cX9_lay 50 = .ok (.getfield 36, 3) := by decide +kernel
theorem dX9_lay_53 : decode cX9_lay 53 = .ok (.aload_n 0, 1) := by decide +kernel
theorem dX9_lay_54 : decode cX9_lay 54 = .ok (.getfield 36, 3) := by decide +kernel
theorem dX9_lay_57 : decode cX9_lay 57 = .ok (.getfield 120, 3) := by decide +kernel
theorem dX9_lay_60 : decode cX9_lay 60 = .ok (.iload_n 1, 1) := by decide +kernel
theorem dX9_lay_61 : decode cX9_lay 61 = .ok (.iload_n 2, 1) := by decide +kernel
theorem dX9_lay_62 : decode cX9_lay 62 = .ok (.invokestatic 174, 3) := by decide +kernel
theorem dX9_lay_65 : decode cX9_lay 65 = .ok (.putfield 120, 3) := by decide +kernel
theorem dX9_lay_68 : decode cX9_lay 68 = .ok (.iload_n 3, 1) := by decide +kernel
theorem dX9_lay_69 : decode cX9_lay 69 = .ok (.ireturn, 1) := by decide +kernel
theorem dX9_pins_0 : decode cX9_pins 0 = .ok (.iload_n 1, 1) := by decide +kernel
theorem dX9_pins_1 : decode cX9_pins 1 = .ok (.invokestatic 177, 3) := by decide +kernel
theorem dX9_pins_4 : decode cX9_pins 4 = .ok (.ifCond .ne 6, 3) := by decide +kernel
theorem dX9_pins_7 : decode cX9_pins 7 = .ok (.bipush (-2), 2) := by decide +kernel
theorem dX9_pins_9 : decode cX9_pins 9 = .ok (.ireturn, 1) := by decide +kernel
theorem dX9_pins_10 : decode cX9_pins 10 = .ok (.aload_n 0, 1) := by decide +kernel
theorem dX9_pins_11 : decode cX9_pins 11 = .ok (.getfield 60, 3) := by decide +kernel
theorem dX9_pins_14 : decode cX9_pins 14 = .ok (.aload_n 0, 1) := by decide +kernel
theorem dX9_pins_15 : decode cX9_pins 15 = .ok (.getfield 36, 3) := by decide +kernel
theorem dX9_pins_18 : decode cX9_pins 18 = .ok (.invokevirtual 143, 3) := by decide +kernel
theorem dX9_pins_21 : decode cX9_pins 21 = .ok (.aload_n 0, 1) := by decide +kernel
theorem dX9_pins_22 : decode cX9_pins 22 = .ok (.getfield 36, 3) := by decide +kernel
theorem dX9_pins_25 : decode cX9_pins 25 = .ok (.getfield 180, 3) := by decide +kernel
theorem dX9_pins_28 : decode cX9_pins 28 = .ok (.istore_n 2, 1) := by decide +kernel
theorem dX9_pins_29 : decode cX9_pins 29 = .ok (.aload_n 0, 1) := by decide +kernel
theorem dX9_pins_30 : decode cX9_pins 30 = .ok (.getfield 36, 3) := by decide +kernel
theorem dX9_pins_33 : decode cX9_pins 33 = .ok (.iload_n 1, 1) := by decide +kernel
theorem dX9_pins_34 : decode cX9_pins 34 = .ok (.putfield 180, 3) := by decide +kernel
theorem dX9_pins_37 : decode cX9_pins 37 = .ok (.iload_n 2, 1) := by decide +kernel
theorem dX9_pins_38 : decode cX9_pins 38 = .ok (.ireturn, 1) := by decide +kernel
theorem dX9_undo_0 : decode cX9_undo 0 = .ok (.aload_n 0, 1) := by decide +kernel
theorem dX9_undo_1 : decode cX9_undo 1 = .ok (.getfield 60, 3) := by decide +kernel
theorem dX9_undo_4 : decode cX9_undo 4 = .ok (.getfield 183, 3) := by decide +kernel
theorem dX9_undo_7 : decode cX9_undo 7 = .ok (.ifCond .ne 6, 3) := by decide +kernel
theorem dX9_undo_10 : decode cX9_undo 10 = .ok (.bipush (-3), 2) := by decide +kernel
theorem dX9_undo_12 : decode cX9_undo 12 = .ok (.ireturn, 1) := by decide +kernel
theorem dX9_undo_13 : decode cX9_undo 13 = .ok (.aload_n 0, 1) := by decide +kernel
theorem dX9_undo_14 : decode cX9_undo 14 = .ok (.getfield 60, 3) := by decide +kernel
theorem dX9_undo_17 : decode cX9_undo 17 = .ok (.aload_n 0, 1) := by decide +kernel
theorem dX9_undo_18 : decode cX9_undo 18 = .ok (.getfield 36, 3) := by decide +kernel
theorem dX9_undo_21 : decode cX9_undo 21 = .ok (.invokevirtual 186, 3) := by decide +kernel
theorem dX9_undo_24 : decode cX9_undo 24 = .ok (.aload_n 0, 1) := by decide +kernel
theorem dX9_undo_25 : decode cX9_undo 25 = .ok (.getfield 60, 3) := by decide +kernel
theorem dX9_undo_28 : decode cX9_undo 28 = .ok (.getfield 183, 3) := by decide +kernel
theorem dX9_undo_31 : decode cX9_undo 31 = .ok (.ireturn, 1) := by decide +kernel
theorem dX9_ahead_0 : decode cX9_ahead 0 = .ok (.iload_n 1, 1) := by decide +kernel
theorem dX9_ahead_1 : decode cX9_ahead 1 = .ok (.ifCond .lt 9, 3) := by decide +kernel
theorem dX9_ahead_4 : decode cX9_ahead 4 = .ok (.iload_n 1, 1) := by decide +kernel
theorem dX9_ahead_5 : decode cX9_ahead 5 = .ok (.bipush 99, 2) := by decide +kernel
theorem dX9_ahead_7 : decode cX9_ahead 7 = .ok (.if_icmp .le 6, 3) := by decide +kernel
theorem dX9_ahead_10 : decode cX9_ahead 10 = .ok (.bipush (-2), 2) := by decide +kernel
theorem dX9_ahead_12 : decode cX9_ahead 12 = .ok (.ireturn, 1) := by decide +kernel
theorem dX9_ahead_13 : decode cX9_ahead 13 = .ok (.aload_n 0, 1) := by decide +kernel
theorem dX9_ahead_14 : decode cX9_ahead 14 = .ok (.iload_n 2, 1) := by decide +kernel
theorem dX9_ahead_15 : decode cX9_ahead 15 = .ok (.invokevirtual 113, 3) := by decide +kernel
theorem dX9_ahead_18 : decode cX9_ahead 18 = .ok (.ifCond .ne 5, 3) := by decide +kernel
theorem dX9_ahead_21 : decode cX9_ahead 21 = .ok (.iconst (-1), 1) := by decide +kernel
theorem dX9_ahead_22 : decode cX9_ahead 22 = .ok (.ireturn, 1) := by decide +kernel
theorem dX9_ahead_23 : decode cX9_ahead 23 = .ok (.aload_n 0, 1) := by decide +kernel
theorem dX9_ahead_24 : decode cX9_ahead 24 = .ok (.getfield 40, 3) := by decide +kernel
theorem dX9_ahead_27 : decode cX9_ahead 27 = .ok (.aload_n 0, 1) := by decide +kernel
theorem dX9_ahead_28 : decode cX9_ahead 28 = .ok (.getfield 36, 3) := by decide +kernel
theorem dX9_ahead_31 : decode cX9_ahead 31 = .ok (.invokevirtual 189, 3) := by decide +kernel
theorem dX9_ahead_34 : decode cX9_ahead 34 = .ok (.aload_n 0, 1) := by decide +kernel
theorem dX9_ahead_35 : decode cX9_ahead 35 = .ok (.aload_n 0, 1) := by decide +kernel
theorem dX9_ahead_36 : decode cX9_ahead 36 = .ok (.getfield 40, 3) := by decide +kernel
theorem dX9_ahead_39 : decode cX9_ahead 39 = .ok (.iload_n 1, 1) := by decide +kernel
theorem dX9_ahead_40 : decode cX9_ahead 40 = .ok (.invokevirtual 147, 3) := by decide +kernel
theorem dX9_ahead_43 : decode cX9_ahead 43 = .ok (.aload_n 0, 1) := by decide +kernel
theorem dX9_ahead_44 : decode cX9_ahead 44 = .ok (.aload_n 0, 1) := by decide +kernel
theorem dX9_ahead_45 : decode cX9_ahead 45 = .ok (.getfield 40, 3) := by decide +kernel
theorem dX9_ahead_48 : decode cX9_ahead 48 = .ok (.iload_n 2, 1) := by decide +kernel
theorem dX9_ahead_49 : decode cX9_ahead 49 = .ok (.invokevirtual 136, 3) := by decide +kernel
theorem dX9_ahead_52 : decode cX9_ahead 52 = .ok (.ireturn, 1) := by decide +kernel
theorem dX9_round_0 : decode cX9_round 0 = .ok (.iload_n 1, 1) := by decide +kernel
theorem dX9_round_1 : decode cX9_round 1 = .ok (.ifCond .lt 8, 3) := by decide +kernel
theorem dX9_round_4 : decode cX9_round 4 = .ok (.iload_n 1, 1) := by decide +kernel
theorem dX9_round_5 : decode cX9_round 5 = .ok (.iconst 1, 1) := by decide +kernel
theorem dX9_round_6 : decode cX9_round 6 = .ok (.if_icmp .le 6, 3) := by decide +kernel
theorem dX9_round_9 : decode cX9_round 9 = .ok (.bipush (-2), 2) := by decide +kernel
theorem dX9_round_11 : decode cX9_round 11 = .ok (.ireturn, 1) := by decide +kernel
theorem dX9_round_12 : decode cX9_round 12 = .ok (.aload_n 0, 1) := by decide +kernel
theorem dX9_round_13 : decode cX9_round 13 = .ok (.invokevirtual 192, 3) := by decide +kernel
theorem dX9_round_16 : decode cX9_round 16 = .ok (.iconst 0, 1) := by decide +kernel
theorem dX9_round_17 : decode cX9_round 17 = .ok (.istore_n 2, 1) := by decide +kernel
theorem dX9_round_18 : decode cX9_round 18 = .ok (.iload_n 2, 1) := by decide +kernel
theorem dX9_round_19 : decode cX9_round 19 = .ok (.bipush 60, 2) := by decide +kernel
theorem dX9_round_21 : decode cX9_round 21 = .ok (.if_icmp .gt 31, 3) := by decide +kernel
theorem dX9_round_24 : decode cX9_round 24 = .ok (.aload_n 0, 1) := by decide +kernel
theorem dX9_round_25 : decode cX9_round 25 = .ok (.iload_n 2, 1) := by decide +kernel
theorem dX9_round_26 : decode cX9_round 26 = .ok (.invokevirtual 195, 3) := by decide +kernel
theorem dX9_round_29 : decode cX9_round 29 = .ok (.istore_n 3, 1) := by decide +kernel
theorem dX9_round_30 : decode cX9_round 30 = .ok (.iload_n 3, 1) := by decide +kernel
theorem dX9_round_31 : decode cX9_round 31 = .ok (.bipush (-9), 2) := by decide +kernel
theorem dX9_round_33 : decode cX9_round 33 = .ok (.if_icmp .eq 13, 3) := by decide +kernel
theorem dX9_round_36 : decode cX9_round 36 = .ok (.iload_n 1, 1) := by decide +kernel
theorem dX9_round_37 : decode cX9_round 37 = .ok (.ifCond .ne 7, 3) := by decide +kernel
theorem dX9_round_40 : decode cX9_round 40 = .ok (.iload_n 2, 1) := by decide +kernel
theorem dX9_round_41 : decode cX9_round 41 = .ok (.goto 4, 3) := by decide +kernel
theorem dX9_round_44 : decode cX9_round 44 = .ok (.iload_n 3, 1) := by decide +kernel
theorem dX9_round_45 : decode cX9_round 45 = .ok (.ireturn, 1) := by decide +kernel
theorem dX9_round_46 : decode cX9_round 46 = .ok (.iinc 2 1, 3) := by decide +kernel
theorem dX9_round_49 : decode cX9_round 49 = .ok (.goto (-31), 3) := by decide +kernel
theorem dX9_round_52 : decode cX9_round 52 = .ok (.bipush (-9), 2) := by decide +kernel
theorem dX9_round_54 : decode cX9_round 54 = .ok (.ireturn, 1) := by decide +kernel
theorem dX9_when_0 : decode cX9_when 0 = .ok (.aload_n 0, 1) := by decide +kernel
theorem dX9_when_1 : decode cX9_when 1 = .ok (.iload_n 1, 1) := by decide +kernel
theorem dX9_when_2 : decode cX9_when 2 = .ok (.invokevirtual 113, 3) := by decide +kernel
theorem dX9_when_5 : decode cX9_when 5 = .ok (.ifCond .eq 11, 3) := by decide +kernel
theorem dX9_when_8 : decode cX9_when 8 = .ok (.aload_n 0, 1) := by decide +kernel
theorem dX9_when_9 : decode cX9_when 9 = .ok (.iload_n 2, 1) := by decide +kernel
theorem dX9_when_10 : decode cX9_when 10 = .ok (.invokevirtual 171, 3) := by decide +kernel
theorem dX9_when_13 : decode cX9_when 13 = .ok (.ifCond .ne 5, 3) := by decide +kernel
theorem dX9_when_16 : decode cX9_when 16 = .ok (.iconst (-1), 1) := by decide +kernel
theorem dX9_when_17 : decode cX9_when 17 = .ok (.ireturn, 1) := by decide +kernel
theorem dX9_when_18 : decode cX9_when 18 = .ok (.aload_n 0, 1) := by decide +kernel
theorem dX9_when_19 : decode cX9_when 19 = .ok (.getfield 53, 3) := by decide +kernel
theorem dX9_when_22 : decode cX9_when 22 = .ok (.aload_n 0, 1) := by decide +kernel
theorem dX9_when_23 : decode cX9_when 23 = .ok (.getfield 26, 3) := by decide +kernel
theorem dX9_when_26 : decode cX9_when 26 = .ok (.aload_n 0, 1) := by decide +kernel
theorem dX9_when_27 : decode cX9_when 27 = .ok (.getfield 36, 3) := by decide +kernel
theorem dX9_when_30 : decode cX9_when 30 = .ok (.iload_n 1, 1) := by decide +kernel
theorem dX9_when_31 : decode cX9_when 31 = .ok (.iload_n 2, 1) := by decide +kernel
theorem dX9_when_32 : decode cX9_when 32 = .ok (.invokevirtual 198, 3) := by decide +kernel
theorem dX9_when_35 : decode cX9_when 35 = .ok (.ireturn, 1) := by decide +kernel
theorem dX9_slots_0 : decode cX9_slots 0 = .ok (.iload_n 1, 1) := by decide +kernel
theorem dX9_slots_1 : decode cX9_slots 1 = .ok (.ifCond .lt 8, 3) := by decide +kernel
theorem dX9_slots_4 : decode cX9_slots 4 = .ok (.iload_n 1, 1) := by decide +kernel
theorem dX9_slots_5 : decode cX9_slots 5 = .ok (.iconst 3, 1) := by decide +kernel
theorem dX9_slots_6 : decode cX9_slots 6 = .ok (.if_icmp .le 6, 3) := by decide +kernel
theorem dX9_slots_9 : decode cX9_slots 9 = .ok (.bipush (-2), 2) := by decide +kernel
theorem dX9_slots_11 : decode cX9_slots 11 = .ok (.ireturn, 1) := by decide +kernel
theorem dX9_slots_12 : decode cX9_slots 12 = .ok (.iload_n 1, 1) := by decide +kernel
theorem dX9_slots_13 : decode cX9_slots 13 = .ok (.iconst 3, 1) := by decide +kernel
theorem dX9_slots_14 : decode cX9_slots 14 = .ok (.if_icmp .ne 8, 3) := by decide +kernel
theorem dX9_slots_17 : decode cX9_slots 17 = .ok (.aload_n 0, 1) := by decide +kernel
theorem dX9_slots_18 : decode cX9_slots 18 = .ok (.invokevirtual 202, 3) := by decide +kernel
theorem dX9_slots_21 : decode cX9_slots 21 = .ok (.ireturn, 1) := by decide +kernel
theorem dX9_slots_22 : decode cX9_slots 22 = .ok (.aload_n 0, 1) := by decide +kernel
theorem dX9_slots_23 : decode cX9_slots 23 = .ok (.getfield 53, 3) := by decide +kernel
theorem dX9_slots_26 : decode cX9_slots 26 = .ok (.aload_n 0, 1) := by decide +kernel
theorem dX9_slots_27 : decode cX9_slots 27 = .ok (.getfield 26, 3) := by decide +kernel
theorem dX9_slots_30 : decode cX9_slots 30 = .ok (.aload_n 0, 1) := by decide +kernel
theorem dX9_slots_31 : decode cX9_slots 31 = .ok (.getfield 36, 3) := by decide +kernel
theorem dX9_slots_34 : decode cX9_slots 34 = .ok (.getfield 120, 3) := by decide +kernel
theorem dX9_slots_37 : decode cX9_slots 37 = .ok (.aload_n 0, 1) := by decide +kernel
theorem dX9_slots_38 : decode cX9_slots 38 = .ok (.getfield 36, 3) := by decide +kernel
theorem dX9_slots_41 : decode cX9_slots 41 = .ok (.getfield 180, 3) := by decide +kernel
theorem dX9_slots_44 : decode cX9_slots 44 = .ok (.invokevirtual 206, 3) := by decide +kernel
theorem dX9_slots_47 : decode cX9_slots 47 = .ok (.iload_n 1, 1) := by decide +kernel
theorem dX9_slots_48 : decode cX9_slots 48 = .ok (.ifCond .ne 11, 3) := by decide +kernel
theorem dX9_slots_51 : decode cX9_slots 51 = .ok (.aload_n 0, 1) := by decide +kernel
theorem dX9_slots_52 : decode cX9_slots 52 = .ok (.getfield 53, 3) := by decide +kernel
theorem dX9_slots_55 : decode cX9_slots 55 = .ok (.getfield 210, 3) := by decide +kernel
theorem dX9_slots_58 : decode cX9_slots 58 = .ok (.ireturn, 1) := by decide +kernel
theorem dX9_slots_59 : decode cX9_slots 59 = .ok (.iload_n 1, 1) := by decide +kernel
theorem dX9_slots_60 : decode cX9_slots 60 = .ok (.iconst 1, 1) := by decide +kernel
theorem dX9_slots_61 : decode cX9_slots 61 = .ok (.if_icmp .ne 13, 3) := by decide +kernel
theorem dX9_slots_64 : decode cX9_slots 64 = .ok (.aload_n 0, 1) := by decide +kernel
theorem dX9_slots_65 : decode cX9_slots 65 = .ok (.getfield 53, 3) := by decide +kernel
theorem dX9_slots_68 : decode cX9_slots 68 = .ok (.getfield 213, 3) := by decide +kernel
theorem dX9_slots_71 : decode cX9_slots 71 = .ok (.goto 13, 3) := by decide +kernel
theorem dX9_slots_74 : decode cX9_slots 74 = .ok (.aload_n 0, 1) := by decide +kernel
theorem dX9_slots_75 : decode cX9_slots 75 = .ok (.getfield 53, 3) := by decide +kernel
theorem dX9_slots_78 : decode cX9_slots 78 = .ok (.getfield 216, 3) := by decide +kernel
theorem dX9_slots_81 : decode cX9_slots 81 = .ok (.invokestatic 219, 3) := by decide +kernel
theorem dX9_slots_84 : decode cX9_slots 84 = .ok (.ireturn, 1) := by decide +kernel
theorem dX9_fewest_0 : decode cX9_fewest 0 = .ok (.iload_n 1, 1) := by decide +kernel
theorem dX9_fewest_1 : decode cX9_fewest 1 = .ok (.iconst 1, 1) := by decide +kernel
theorem dX9_fewest_2 : decode cX9_fewest 2 = .ok (.if_icmp .lt 9, 3) := by decide +kernel
theorem dX9_fewest_5 : decode cX9_fewest 5 = .ok (.iload_n 1, 1) := by decide +kernel
theorem dX9_fewest_6 : decode cX9_fewest 6 = .ok (.bipush 99, 2) := by decide +kernel
theorem dX9_fewest_8 : decode cX9_fewest 8 = .ok (.if_icmp .le 6, 3) := by decide +kernel
theorem dX9_fewest_11 : decode cX9_fewest 11 = .ok (.bipush (-2), 2) := by decide +kernel
theorem dX9_fewest_13 : decode cX9_fewest 13 = .ok (.ireturn, 1) := by decide +kernel
theorem dX9_fewest_14 : decode cX9_fewest 14 = .ok (.iconst 1, 1) := by decide +kernel
theorem dX9_fewest_15 : decode cX9_fewest 15 = .ok (.istore_n 2, 1) := by decide +kernel
theorem dX9_fewest_16 : decode cX9_fewest 16 = .ok (.iload_n 2, 1) := by decide +kernel
theorem dX9_fewest_17 : decode cX9_fewest 17 = .ok (.bipush 9, 2) := by decide +kernel
theorem dX9_fewest_19 : decode cX9_fewest 19 = .ok (.if_icmp .gt 41, 3) := by decide +kernel
theorem dX9_fewest_22 : decode cX9_fewest 22 = .ok (.aload_n 0, 1) := by decide +kernel
theorem dX9_fewest_23 : decode cX9_fewest 23 = .ok (.getfield 53, 3) := by decide +kernel
theorem dX9_fewest_26 : decode cX9_fewest 26 = .ok (.aload_n 0, 1) := by decide +kernel
theorem dX9_fewest_27 : decode cX9_fewest 27 = .ok (.getfield 26, 3) := by decide +kernel
theorem dX9_fewest_30 : decode cX9_fewest 30 = .ok (.aload_n 0, 1) := by decide +kernel
theorem dX9_fewest_31 : decode cX9_fewest 31 = .ok (.getfield 36, 3) := by decide +kernel
theorem dX9_fewest_34 : decode cX9_fewest 34 = .ok (.getfield 120, 3) := by decide +kernel
theorem dX9_fewest_37 : decode cX9_fewest 37 = .ok (.iload_n 2, 1) := by decide +kernel
theorem dX9_fewest_38 : decode cX9_fewest 38 = .ok (.invokevirtual 206, 3) := by decide +kernel
theorem dX9_fewest_41 : decode cX9_fewest 41 = .ok (.aload_n 0, 1) := by decide +kernel
theorem dX9_fewest_42 : decode cX9_fewest 42 = .ok (.getfield 53, 3) := by decide +kernel
theorem dX9_fewest_45 : decode cX9_fewest 45 = .ok (.getfield 210, 3) := by decide +kernel
theorem dX9_fewest_48 : decode cX9_fewest 48 = .ok (.iload_n 1, 1) := by decide +kernel
theorem dX9_fewest_49 : decode cX9_fewest 49 = .ok (.if_icmp .gt 5, 3) := by decide +kernel
theorem dX9_fewest_52 : decode cX9_fewest 52 = .ok (.iload_n 2, 1) := by decide +kernel
theorem dX9_fewest_53 : decode cX9_fewest 53 = .ok (.ireturn, 1) := by decide +kernel
theorem dX9_fewest_54 : decode cX9_fewest 54 = .ok (.iinc 2 1, 3) := by decide +kernel
theorem dX9_fewest_57 : decode cX9_fewest 57 = .ok (.goto (-41), 3) := by decide +kernel
theorem dX9_fewest_60 : decode cX9_fewest 60 = .ok (.bipush (-9), 2) := by decide +kernel
theorem dX9_fewest_62 : decode cX9_fewest 62 = .ok (.ireturn, 1) := by decide +kernel
theorem dX9_judge_0 : decode cX9_judge 0 = .ok (.iload_n 1, 1) := by decide +kernel
theorem dX9_judge_1 : decode cX9_judge 1 = .ok (.iconst 1, 1) := by decide +kernel
theorem dX9_judge_2 : decode cX9_judge 2 = .ok (.if_icmp .lt 26, 3) := by decide +kernel
theorem dX9_judge_5 : decode cX9_judge 5 = .ok (.iload_n 1, 1) := by decide +kernel
theorem dX9_judge_6 : decode cX9_judge 6 = .ok (.iconst 4, 1) := by decide +kernel
theorem dX9_judge_7 : decode cX9_judge 7 = .ok (.if_icmp .gt 21, 3) := by decide +kernel
theorem dX9_judge_10 : decode cX9_judge 10 = .ok (.lload_n 2, 1) := by decide +kernel
theorem dX9_judge_11 : decode cX9_judge 11 = .ok (.lconst 0, 1) := by decide +kernel
theorem dX9_judge_12 : decode cX9_judge 12 = .ok (.lcmp, 1) := by decide +kernel
theorem dX9_judge_13 : decode cX9_judge 13 = .ok (.ifCond .lt 15, 3) := by decide +kernel
theorem dX9_judge_16 : decode cX9_judge 16 = .ok (.lload_n 2, 1) := by decide +kernel
theorem dX9_judge_17 : decode cX9_judge 17 = .ok (.sipush 1000, 3) := by decide +kernel
theorem dX9_judge_20 : decode cX9_judge 20 = .ok (.iload_n 1, 1) := by decide +kernel
theorem dX9_judge_21 : decode cX9_judge 21 = .ok (.invokestatic 222, 3) := by decide +kernel
theorem dX9_judge_24 : decode cX9_judge 24 = .ok (.lcmp, 1) := by decide +kernel
theorem dX9_judge_25 : decode cX9_judge 25 = .ok (.ifCond .lt 6, 3) := by decide +kernel
theorem dX9_judge_28 : decode cX9_judge 28 = .ok (.bipush (-2), 2) := by decide +kernel
theorem dX9_judge_30 : decode cX9_judge 30 = .ok (.ireturn, 1) := by decide +kernel
theorem dX9_judge_31 : decode cX9_judge 31 = .ok (.aload_n 0, 1) := by decide +kernel
theorem dX9_judge_32 : decode cX9_judge 32 = .ok (.getfield 40, 3) := by decide +kernel
theorem dX9_judge_35 : decode cX9_judge 35 = .ok (.aload_n 0, 1) := by decide +kernel
theorem dX9_judge_36 : decode cX9_judge 36 = .ok (.getfield 36, 3) := by decide +kernel
theorem dX9_judge_39 : decode cX9_judge 39 = .ok (.invokevirtual 189, 3) := by decide +kernel
theorem dX9_judge_42 : decode cX9_judge 42 = .ok (.iconst 0, 1) := by decide +kernel
theorem dX9_judge_43 : decode cX9_judge 43 = .ok (.istore 4, 2) := by decide +kernel
theorem dX9_judge_45 : decode cX9_judge 45 = .ok (.iload 4, 2) := by decide +kernel
theorem dX9_judge_47 : decode cX9_judge 47 = .ok (.iload_n 1, 1) := by decide +kernel
theorem dX9_judge_48 : decode cX9_judge 48 = .ok (.if_icmp .ge 29, 3) := by decide +kernel
theorem dX9_judge_51 : decode cX9_judge 51 = .ok (.aload_n 0, 1) := by decide +kernel
theorem dX9_judge_52 : decode cX9_judge 52 = .ok (.lload_n 2, 1) := by decide +kernel
theorem dX9_judge_53 : decode cX9_judge 53 = .ok (.iload_n 1, 1) := by decide +kernel
theorem dX9_judge_54 : decode cX9_judge 54 = .ok (.iconst 1, 1) := by decide +kernel
theorem dX9_judge_55 : decode cX9_judge 55 = .ok (.isub, 1) := by decide +kernel
theorem dX9_judge_56 : decode cX9_judge 56 = .ok (.iload 4, 2) := by decide +kernel
theorem dX9_judge_58 : decode cX9_judge 58 = .ok (.isub, 1) := by decide +kernel
theorem dX9_judge_59 : decode cX9_judge 59 = .ok (.invokestatic 226, 3) := by decide +kernel
theorem dX9_judge_62 : decode cX9_judge 62 = .ok (.invokevirtual 230, 3) := by decide +kernel
theorem dX9_judge_65 : decode cX9_judge 65 = .ok (.ifCond .ne 6, 3) := by decide +kernel
theorem dX9_judge_68 : decode cX9_judge 68 = .ok (.iload 4, 2) := by decide +kernel
theorem dX9_judge_70 : decode cX9_judge 70 = .ok (.ireturn, 1) := by decide +kernel
theorem dX9_judge_71 : decode cX9_judge 71 = .ok (.iinc 4 1, 3) := by decide +kernel
theorem dX9_judge_74 : decode cX9_judge 74 = .ok (.goto (-29), 3) := by decide +kernel
theorem dX9_judge_77 : decode cX9_judge 77 = .ok (.bipush (-9), 2) := by decide +kernel
theorem dX9_judge_79 : decode cX9_judge 79 = .ok (.ireturn, 1) := by decide +kernel
theorem dX9_see_0 : decode cX9_see 0 = .ok (.aload_n 0, 1) := by decide +kernel
theorem dX9_see_1 : decode cX9_see 1 = .ok (.iload_n 2, 1) := by decide +kernel
theorem dX9_see_2 : decode cX9_see 2 = .ok (.invokevirtual 113, 3) := by decide +kernel
theorem dX9_see_5 : decode cX9_see 5 = .ok (.ifCond .ne 5, 3) := by decide +kernel
theorem dX9_see_8 : decode cX9_see 8 = .ok (.iconst (-1), 1) := by decide +kernel
theorem dX9_see_9 : decode cX9_see 9 = .ok (.ireturn, 1) := by decide +kernel
theorem dX9_see_10 : decode cX9_see 10 = .ok (.iload_n 1, 1) := by decide +kernel
theorem dX9_see_11 : decode cX9_see 11 = .ok (.ifCond .lt 27, 3) := by decide +kernel
theorem dX9_see_14 : decode cX9_see 14 = .ok (.iload_n 1, 1) := by decide +kernel
theorem dX9_see_15 : decode cX9_see 15 = .ok (.bipush 9, 2) := by decide +kernel
theorem dX9_see_17 : decode cX9_see 17 = .ok (.if_icmp .gt 21, 3) := by decide +kernel
theorem dX9_see_20 : decode cX9_see 20 = .ok (.iload_n 3, 1) := by decide +kernel
theorem dX9_see_21 : decode cX9_see 21 = .ok (.invokestatic 154, 3) := by decide +kernel
theorem dX9_see_24 : decode cX9_see 24 = .ok (.ifCond .eq 14, 3) := by decide +kernel
theorem dX9_see_27 : decode cX9_see 27 = .ok (.iload 4, 2) := by decide +kernel
theorem dX9_see_29 : decode cX9_see 29 = .ok (.ifCond .lt 9, 3) := by decide +kernel
theorem dX9_see_32 : decode cX9_see 32 = .ok (.iload 4, 2) := by decide +kernel
theorem dX9_see_34 : decode cX9_see 34 = .ok (.iconst 1, 1) := by decide +kernel
theorem dX9_see_35 : decode cX9_see 35 = .ok (.if_icmp .le 6, 3) := by decide +kernel
theorem dX9_see_38 : decode cX9_see 38 = .ok (.bipush (-2), 2) := by decide +kernel
theorem dX9_see_40 : decode cX9_see 40 = .ok (.ireturn, 1) := by decide +kernel
theorem dX9_see_41 : decode cX9_see 41 = .ok (.aload_n 0, 1) := by decide +kernel
theorem dX9_see_42 : decode cX9_see 42 = .ok (.getfield 80, 3) := by decide +kernel
theorem dX9_see_45 : decode cX9_see 45 = .ok (.iload_n 1, 1) := by decide +kernel
theorem dX9_see_46 : decode cX9_see 46 = .ok (.iload_n 2, 1) := by decide +kernel
theorem dX9_see_47 : decode cX9_see 47 = .ok (.iload_n 3, 1) := by decide +kernel
theorem dX9_see_48 : decode cX9_see 48 = .ok (.iload 4, 2) := by decide +kernel
theorem dX9_see_50 : decode cX9_see 50 = .ok (.invokevirtual 233, 3) := by decide +kernel
theorem dX9_see_53 : decode cX9_see 53 = .ok (.ifCond .eq 13, 3) := by decide +kernel
theorem dX9_see_56 : decode cX9_see 56 = .ok (.aload_n 0, 1) := by decide +kernel
theorem dX9_see_57 : decode cX9_see 57 = .ok (.getfield 80, 3) := by decide +kernel
theorem dX9_see_60 : decode cX9_see 60 = .ok (.getfield 237, 3) := by decide +kernel
theorem dX9_see_63 : decode cX9_see 63 = .ok (.goto 5, 3) := by decide +kernel
theorem dX9_see_66 : decode cX9_see 66 = .ok (.bipush (-4), 2) := by decide +kernel
theorem dX9_see_68 : decode cX9_see 68 = .ok (.ireturn, 1) := by decide +kernel
theorem dX9_unsee_0 : decode cX9_unsee 0 = .ok (.aload_n 0, 1) := by decide +kernel
theorem dX9_unsee_1 : decode cX9_unsee 1 = .ok (.getfield 80, 3) := by decide +kernel
theorem dX9_unsee_4 : decode cX9_unsee 4 = .ok (.getfield 237, 3) := by decide +kernel
theorem dX9_unsee_7 : decode cX9_unsee 7 = .ok (.istore_n 1, 1) := by decide +kernel
theorem dX9_unsee_8 : decode cX9_unsee 8 = .ok (.aload_n 0, 1) := by decide +kernel
theorem dX9_unsee_9 : decode cX9_unsee 9 = .ok (.getfield 80, 3) := by decide +kernel
theorem dX9_unsee_12 : decode cX9_unsee 12 = .ok (.iconst 0, 1) := by decide +kernel
theorem dX9_unsee_13 : decode cX9_unsee 13 = .ok (.putfield 237, 3) := by decide +kernel
theorem dX9_unsee_16 : decode cX9_unsee 16 = .ok (.iload_n 1, 1) := by decide +kernel
theorem dX9_unsee_17 : decode cX9_unsee 17 = .ok (.ireturn, 1) := by decide +kernel
theorem dX9_which_0 : decode cX9_which 0 = .ok (.iconst 0, 1) := by decide +kernel
theorem dX9_which_1 : decode cX9_which 1 = .ok (.istore_n 1, 1) := by decide +kernel
theorem dX9_which_2 : decode cX9_which 2 = .ok (.iconst 0, 1) := by decide +kernel
theorem dX9_which_3 : decode cX9_which 3 = .ok (.istore_n 2, 1) := by decide +kernel
theorem dX9_which_4 : decode cX9_which 4 = .ok (.iload_n 2, 1) := by decide +kernel
theorem dX9_which_5 : decode cX9_which 5 = .ok (.aload_n 0, 1) := by decide +kernel
theorem dX9_which_6 : decode cX9_which 6 = .ok (.getfield 26, 3) := by decide +kernel
theorem dX9_which_9 : decode cX9_which 9 = .ok (.getfield 110, 3) := by decide +kernel
theorem dX9_which_12 : decode cX9_which 12 = .ok (.if_icmp .ge 24, 3) := by decide +kernel
theorem dX9_which_15 : decode cX9_which 15 = .ok (.aload_n 0, 1) := by decide +kernel
theorem dX9_which_16 : decode cX9_which 16 = .ok (.iload_n 2, 1) := by decide +kernel
theorem dX9_which_17 : decode cX9_which 17 = .ok (.invokevirtual 238, 3) := by decide +kernel
theorem dX9_which_20 : decode cX9_which 20 = .ok (.ifCond .eq 10, 3) := by decide +kernel
theorem dX9_which_23 : decode cX9_which 23 = .ok (.iload_n 1, 1) := by decide +kernel
theorem dX9_which_24 : decode cX9_which 24 = .ok (.iload_n 2, 1) := by decide +kernel
theorem dX9_which_25 : decode cX9_which 25 = .ok (.invokestatic 241, 3) := by decide +kernel
theorem dX9_which_28 : decode cX9_which 28 = .ok (.ior, 1) := by decide +kernel
theorem dX9_which_29 : decode cX9_which 29 = .ok (.istore_n 1, 1) := by decide +kernel
theorem dX9_which_30 : decode cX9_which 30 = .ok (.iinc 2 1, 3) := by decide +kernel
theorem dX9_which_33 : decode cX9_which 33 = .ok (.goto (-29), 3) := by decide +kernel
theorem dX9_which_36 : decode cX9_which 36 = .ok (.iload_n 1, 1) := by decide +kernel
theorem dX9_which_37 : decode cX9_which 37 = .ok (.ireturn, 1) := by decide +kernel
theorem dX9_share_0 : decode cX9_share 0 = .ok (.aload_n 0, 1) := by decide +kernel
theorem dX9_share_1 : decode cX9_share 1 = .ok (.iload_n 1, 1) := by decide +kernel
theorem dX9_share_2 : decode cX9_share 2 = .ok (.invokevirtual 171, 3) := by decide +kernel
theorem dX9_share_5 : decode cX9_share 5 = .ok (.ifCond .ne 5, 3) := by decide +kernel
theorem dX9_share_8 : decode cX9_share 8 = .ok (.iconst (-1), 1) := by decide +kernel
theorem dX9_share_9 : decode cX9_share 9 = .ok (.ireturn, 1) := by decide +kernel
theorem dX9_share_10 : decode cX9_share 10 = .ok (.iconst 0, 1) := by decide +kernel
theorem dX9_share_11 : decode cX9_share 11 = .ok (.istore_n 3, 1) := by decide +kernel
theorem dX9_share_12 : decode cX9_share 12 = .ok (.iconst 0, 1) := by decide +kernel
theorem dX9_share_13 : decode cX9_share 13 = .ok (.istore 4, 2) := by decide +kernel
theorem dX9_share_15 : decode cX9_share 15 = .ok (.iload 4, 2) := by decide +kernel
theorem dX9_share_17 : decode cX9_share 17 = .ok (.aload_n 0, 1) := by decide +kernel
theorem dX9_share_18 : decode cX9_share 18 = .ok (.getfield 26, 3) := by decide +kernel
theorem dX9_share_21 : decode cX9_share 21 = .ok (.getfield 110, 3) := by decide +kernel
theorem dX9_share_24 : decode cX9_share 24 = .ok (.if_icmp .ge 47, 3) := by decide +kernel
theorem dX9_share_27 : decode cX9_share 27 = .ok (.aload_n 0, 1) := by decide +kernel
theorem dX9_share_28 : decode cX9_share 28 = .ok (.iload 4, 2) := by decide +kernel
theorem dX9_share_30 : decode cX9_share 30 = .ok (.invokevirtual 244, 3) := by decide +kernel
theorem dX9_share_33 : decode cX9_share 33 = .ok (.istore 5, 2) := by decide +kernel
theorem dX9_share_35 : decode cX9_share 35 = .ok (.iload 5, 2) := by decide +kernel
theorem dX9_share_37 : decode cX9_share 37 = .ok (.invokestatic 247, 3) := by decide +kernel
theorem dX9_share_40 : decode cX9_share 40 = .ok (.istore 6, 2) := by decide +kernel
theorem dX9_share_42 : decode cX9_share 42 = .ok (.iload 5, 2) := by decide +kernel
theorem dX9_share_44 : decode cX9_share 44 = .ok (.iload_n 1, 1) := by decide +kernel
theorem dX9_share_45 : decode cX9_share 45 = .ok (.iushr, 1) := by decide +kernel
theorem dX9_share_46 : decode cX9_share 46 = .ok (.iconst 1, 1) := by decide +kernel
theorem dX9_share_47 : decode cX9_share 47 = .ok (.iand, 1) := by decide +kernel
theorem dX9_share_48 : decode cX9_share 48 = .ok (.iconst 1, 1) := by decide +kernel
theorem dX9_share_49 : decode cX9_share 49 = .ok (.if_icmp .ne 16, 3) := by decide +kernel
theorem dX9_share_52 : decode cX9_share 52 = .ok (.iload 6, 2) := by decide +kernel
theorem dX9_share_54 : decode cX9_share 54 = .ok (.ifCond .le 11, 3) := by decide +kernel
theorem dX9_share_57 : decode cX9_share 57 = .ok (.iload_n 3, 1) := by decide +kernel
theorem dX9_share_58 : decode cX9_share 58 = .ok (.bipush 12, 2) := by decide +kernel
theorem dX9_share_60 : decode cX9_share 60 = .ok (.iload 6, 2) := by decide +kernel
theorem dX9_share_62 : decode cX9_share 62 = .ok (.idiv, 1) := by decide +kernel
theorem dX9_share_63 : decode cX9_share 63 = .ok (.iadd, 1) := by decide +kernel
theorem dX9_share_64 : decode cX9_share 64 = .ok (.istore_n 3, 1) := by decide +kernel
theorem dX9_share_65 : decode cX9_share 65 = .ok (.iinc 4 1, 3) := by decide +kernel
theorem dX9_share_68 : decode cX9_share 68 = .ok (.goto (-53), 3) := by decide +kernel
theorem dX9_share_71 : decode cX9_share 71 = .ok (.iload_n 3, 1) := by decide +kernel
theorem dX9_share_72 : decode cX9_share 72 = .ok (.bipush 12, 2) := by decide +kernel
theorem dX9_share_74 : decode cX9_share 74 = .ok (.iload_n 2, 1) := by decide +kernel
theorem dX9_share_75 : decode cX9_share 75 = .ok (.invokestatic 252, 3) := by decide +kernel
theorem dX9_share_78 : decode cX9_share 78 = .ok (.ireturn, 1) := by decide +kernel
theorem dX9_fails_0 : decode cX9_fails 0 = .ok (.aload_n 0, 1) := by decide +kernel
theorem dX9_fails_1 : decode cX9_fails 1 = .ok (.iload_n 1, 1) := by decide +kernel
theorem dX9_fails_2 : decode cX9_fails 2 = .ok (.invokevirtual 113, 3) := by decide +kernel
theorem dX9_fails_5 : decode cX9_fails 5 = .ok (.ifCond .eq 11, 3) := by decide +kernel
theorem dX9_fails_8 : decode cX9_fails 8 = .ok (.aload_n 0, 1) := by decide +kernel
theorem dX9_fails_9 : decode cX9_fails 9 = .ok (.iload_n 2, 1) := by decide +kernel
theorem dX9_fails_10 : decode cX9_fails 10 = .ok (.invokevirtual 171, 3) := by decide +kernel
theorem dX9_fails_13 : decode cX9_fails 13 = .ok (.ifCond .ne 5, 3) := by decide +kernel
theorem dX9_fails_16 : decode cX9_fails 16 = .ok (.iconst (-1), 1) := by decide +kernel
theorem dX9_fails_17 : decode cX9_fails 17 = .ok (.ireturn, 1) := by decide +kernel
theorem dX9_fails_18 : decode cX9_fails 18 = .ok (.iload_n 3, 1) := by decide +kernel
theorem dX9_fails_19 : decode cX9_fails 19 = .ok (.ifCond .lt 21, 3) := by decide +kernel
theorem dX9_fails_22 : decode cX9_fails 22 = .ok (.iload_n 3, 1) := by decide +kernel
theorem dX9_fails_23 : decode cX9_fails 23 = .ok (.bipush 8, 2) := by decide +kernel
theorem dX9_fails_25 : decode cX9_fails 25 = .ok (.if_icmp .gt 15, 3) := by decide +kernel
theorem dX9_fails_28 : decode cX9_fails 28 = .ok (.iload 4, 2) := by decide +kernel
theorem dX9_fails_30 : decode cX9_fails 30 = .ok (.ifCond .lt 10, 3) := by decide +kernel
theorem dX9_fails_33 : decode cX9_fails 33 = .ok (.iload 4, 2) := by decide +kernel
theorem dX9_fails_35 : decode cX9_fails 35 = .ok (.bipush 10, 2) := by decide +kernel
theorem dX9_fails_37 : decode cX9_fails 37 = .ok (.if_icmp .le 6, 3) := by decide +kernel
theorem dX9_fails_40 : decode cX9_fails 40 = .ok (.bipush (-2), 2) := by decide +kernel
theorem dX9_fails_42 : decode cX9_fails 42 = .ok (.ireturn, 1) := by decide +kernel
theorem dX9_fails_43 : decode cX9_fails 43 = .ok (.aload_n 0, 1) := by decide +kernel
theorem dX9_fails_44 : decode cX9_fails 44 = .ok (.getfield 53, 3) := by decide +kernel
theorem dX9_fails_47 : decode cX9_fails 47 = .ok (.aload_n 0, 1) := by decide +kernel
theorem dX9_fails_48 : decode cX9_fails 48 = .ok (.getfield 26, 3) := by decide +kernel
theorem dX9_fails_51 : decode cX9_fails 51 = .ok (.aload_n 0, 1) := by decide +kernel
theorem dX9_fails_52 : decode cX9_fails 52 = .ok (.getfield 36, 3) := by decide +kernel
theorem dX9_fails_55 : decode cX9_fails 55 = .ok (.iload_n 1, 1) := by decide +kernel
theorem dX9_fails_56 : decode cX9_fails 56 = .ok (.iload_n 2, 1) := by decide +kernel
theorem dX9_fails_57 : decode cX9_fails 57 = .ok (.invokevirtual 198, 3) := by decide +kernel
theorem dX9_fails_60 : decode cX9_fails 60 = .ok (.istore 6, 2) := by decide +kernel
theorem dX9_fails_62 : decode cX9_fails 62 = .ok (.iload 6, 2) := by decide +kernel
theorem dX9_fails_64 : decode cX9_fails 64 = .ok (.bipush (-9), 2) := by decide +kernel
theorem dX9_fails_66 : decode cX9_fails 66 = .ok (.if_icmp .ne 7, 3) := by decide +kernel
theorem dX9_fails_69 : decode cX9_fails 69 = .ok (.lconst 0, 1) := by decide +kernel
theorem dX9_fails_70 : decode cX9_fails 70 = .ok (.goto 11, 3) := by decide +kernel
theorem dX9_fails_73 : decode cX9_fails 73 = .ok (.iload 6, 2) := by decide +kernel
theorem dX9_fails_75 : decode cX9_fails 75 = .ok (.iload_n 3, 1) := by decide +kernel
theorem dX9_fails_76 : decode cX9_fails 76 = .ok (.iload 4, 2) := by decide +kernel
theorem dX9_fails_78 : decode cX9_fails 78 = .ok (.invokestatic 256, 3) := by decide +kernel
theorem dX9_fails_81 : decode cX9_fails 81 = .ok (.lstore 7, 2) := by decide +kernel
theorem dX9_fails_83 : decode cX9_fails 83 = .ok (.lload 7, 2) := by decide +kernel
theorem dX9_fails_85 : decode cX9_fails 85 = .ok (.l2i, 1) := by decide +kernel
theorem dX9_fails_86 : decode cX9_fails 86 = .ok (.bipush 10, 2) := by decide +kernel
theorem dX9_fails_88 : decode cX9_fails 88 = .ok (.iload_n 3, 1) := by decide +kernel
theorem dX9_fails_89 : decode cX9_fails 89 = .ok (.invokestatic 222, 3) := by decide +kernel
theorem dX9_fails_92 : decode cX9_fails 92 = .ok (.l2i, 1) := by decide +kernel
theorem dX9_fails_93 : decode cX9_fails 93 = .ok (.iload 5, 2) := by decide +kernel
theorem dX9_fails_95 : decode cX9_fails 95 = .ok (.invokestatic 252, 3) := by decide +kernel
theorem dX9_fails_98 : decode cX9_fails 98 = .ok (.ireturn, 1) := by decide +kernel
theorem dX9_seed_0 : decode cX9_seed 0 = .ok (.aload_n 0, 1) := by decide +kernel
theorem dX9_seed_1 : decode cX9_seed 1 = .ok (.getfield 88, 3) := by decide +kernel
theorem dX9_seed_4 : decode cX9_seed 4 = .ok (.lstore_n 3, 1) := by decide +kernel
theorem dX9_seed_5 : decode cX9_seed 5 = .ok (.aload_n 0, 1) := by decide +kernel
theorem dX9_seed_6 : decode cX9_seed 6 = .ok (.lload_n 1, 1) := by decide +kernel
theorem dX9_seed_7 : decode cX9_seed 7 = .ok (.putfield 88, 3) := by decide +kernel
theorem dX9_seed_10 : decode cX9_seed 10 = .ok (.lload_n 3, 1) := by decide +kernel
theorem dX9_seed_11 : decode cX9_seed 11 = .ok (.lreturn, 1) := by decide +kernel
theorem dX9_drawn_0 : decode cX9_drawn 0 = .ok (.iload_n 1, 1) := by decide +kernel
theorem dX9_drawn_1 : decode cX9_drawn 1 = .ok (.iconst 1, 1) := by decide +kernel
theorem dX9_drawn_2 : decode cX9_drawn 2 = .ok (.if_icmp .lt 9, 3) := by decide +kernel
theorem dX9_drawn_5 : decode cX9_drawn 5 = .ok (.iload_n 1, 1) := by decide +kernel
theorem dX9_drawn_6 : decode cX9_drawn 6 = .ok (.bipush 20, 2) := by decide +kernel
theorem dX9_drawn_8 : decode cX9_drawn 8 = .ok (.if_icmp .le 6, 3) := by decide +kernel
theorem dX9_drawn_11 : decode cX9_drawn 11 = .ok (.bipush (-2), 2) := by decide +kernel
theorem dX9_drawn_13 : decode cX9_drawn 13 = .ok (.ireturn, 1) := by decide +kernel
theorem dX9_drawn_14 : decode cX9_drawn 14 = .ok (.aload_n 0, 1) := by decide +kernel
theorem dX9_drawn_15 : decode cX9_drawn 15 = .ok (.getfield 40, 3) := by decide +kernel
theorem dX9_drawn_18 : decode cX9_drawn 18 = .ok (.aload_n 0, 1) := by decide +kernel
theorem dX9_drawn_19 : decode cX9_drawn 19 = .ok (.getfield 36, 3) := by decide +kernel
theorem dX9_drawn_22 : decode cX9_drawn 22 = .ok (.invokevirtual 189, 3) := by decide +kernel
theorem dX9_drawn_25 : decode cX9_drawn 25 = .ok (.iconst 0, 1) := by decide +kernel
theorem dX9_drawn_26 : decode cX9_drawn 26 = .ok (.istore_n 2, 1) := by decide +kernel
theorem dX9_drawn_27 : decode cX9_drawn 27 = .ok (.iconst 0, 1) := by decide +kernel
theorem dX9_drawn_28 : decode cX9_drawn 28 = .ok (.istore_n 3, 1) := by decide +kernel
theorem dX9_drawn_29 : decode cX9_drawn 29 = .ok (.iload_n 3, 1) := by decide +kernel
theorem dX9_drawn_30 : decode cX9_drawn 30 = .ok (.iload_n 1, 1) := by decide +kernel
theorem dX9_drawn_31 : decode cX9_drawn 31 = .ok (.if_icmp .ge 67, 3) := by decide +kernel
theorem dX9_drawn_34 : decode cX9_drawn 34 = .ok (.aload_n 0, 1) := by decide +kernel
theorem dX9_drawn_35 : decode cX9_drawn 35 = .ok (.aload_n 0, 1) := by decide +kernel
theorem dX9_drawn_36 : decode cX9_drawn 36 = .ok (.getfield 88, 3) := by decide +kernel
theorem dX9_drawn_39 : decode cX9_drawn 39 = .ok (.ldc2_w 260, 3) := by decide +kernel
theorem dX9_drawn_42 : decode cX9_drawn 42 = .ok (.lmul, 1) := by decide +kernel
theorem dX9_drawn_43 : decode cX9_drawn 43 = .ok (.ldc2_w 262, 3) := by decide +kernel
theorem dX9_drawn_46 : decode cX9_drawn 46 = .ok (.ladd, 1) := by decide +kernel
theorem dX9_drawn_47 : decode cX9_drawn 47 = .ok (.putfield 88, 3) := by decide +kernel
theorem dX9_drawn_50 : decode cX9_drawn 50 = .ok (.aload_n 0, 1) := by decide +kernel
theorem dX9_drawn_51 : decode cX9_drawn 51 = .ok (.aload_n 0, 1) := by decide +kernel
theorem dX9_drawn_52 : decode cX9_drawn 52 = .ok (.getfield 88, 3) := by decide +kernel
theorem dX9_drawn_55 : decode cX9_drawn 55 = .ok (.bipush 33, 2) := by decide +kernel
theorem dX9_drawn_57 : decode cX9_drawn 57 = .ok (.lushr, 1) := by decide +kernel
theorem dX9_drawn_58 : decode cX9_drawn 58 = .ok (.l2i, 1) := by decide +kernel
theorem dX9_drawn_59 : decode cX9_drawn 59 = .ok (.invokevirtual 264, 3) := by decide +kernel
theorem dX9_drawn_62 : decode cX9_drawn 62 = .ok (.aload_n 0, 1) := by decide +kernel
theorem dX9_drawn_63 : decode cX9_drawn 63 = .ok (.aload_n 0, 1) := by decide +kernel
theorem dX9_drawn_64 : decode cX9_drawn 64 = .ok (.getfield 40, 3) := by decide +kernel
theorem dX9_drawn_67 : decode cX9_drawn 67 = .ok (.iconst 1, 1) := by decide +kernel
theorem dX9_drawn_68 : decode cX9_drawn 68 = .ok (.invokevirtual 147, 3) := by decide +kernel
theorem dX9_drawn_71 : decode cX9_drawn 71 = .ok (.iload_n 2, 1) := by decide +kernel
theorem dX9_drawn_72 : decode cX9_drawn 72 = .ok (.aload_n 0, 1) := by decide +kernel
theorem dX9_drawn_73 : decode cX9_drawn 73 = .ok (.getfield 40, 3) := by decide +kernel
theorem dX9_drawn_76 : decode cX9_drawn 76 = .ok (.getfield 157, 3) := by decide +kernel
theorem dX9_drawn_79 : decode cX9_drawn 79 = .ok (.aload_n 0, 1) := by decide +kernel
theorem dX9_drawn_80 : decode cX9_drawn 80 = .ok (.getfield 26, 3) := by decide +kernel
theorem dX9_drawn_83 : decode cX9_drawn 83 = .ok (.getfield 267, 3) := by decide +kernel
theorem dX9_drawn_86 : decode cX9_drawn 86 = .ok (.iand, 1) := by decide +kernel
theorem dX9_drawn_87 : decode cX9_drawn 87 = .ok (.invokestatic 247, 3) := by decide +kernel
theorem dX9_drawn_90 : decode cX9_drawn 90 = .ok (.iadd, 1) := by decide +kernel
theorem dX9_drawn_91 : decode cX9_drawn 91 = .ok (.istore_n 2, 1) := by decide +kernel
theorem dX9_drawn_92 : decode cX9_drawn 92 = .ok (.iinc 3 1, 3) := by decide +kernel
theorem dX9_drawn_95 : decode cX9_drawn 95 = .ok (.goto (-66), 3) := by decide +kernel
theorem dX9_drawn_98 : decode cX9_drawn 98 = .ok (.iload_n 2, 1) := by decide +kernel
theorem dX9_drawn_99 : decode cX9_drawn 99 = .ok (.ireturn, 1) := by decide +kernel
theorem dX9_keep_0 : decode cX9_keep 0 = .ok (.iload_n 1, 1) := by decide +kernel
theorem dX9_keep_1 : decode cX9_keep 1 = .ok (.invokestatic 270, 3) := by decide +kernel
theorem dX9_keep_4 : decode cX9_keep 4 = .ok (.ifCond .ne 5, 3) := by decide +kernel
theorem dX9_keep_7 : decode cX9_keep 7 = .ok (.iconst (-1), 1) := by decide +kernel
theorem dX9_keep_8 : decode cX9_keep 8 = .ok (.ireturn, 1) := by decide +kernel
theorem dX9_keep_9 : decode cX9_keep 9 = .ok (.aload_n 0, 1) := by decide +kernel
theorem dX9_keep_10 : decode cX9_keep 10 = .ok (.getfield 69, 3) := by decide +kernel
theorem dX9_keep_13 : decode cX9_keep 13 = .ok (.iload_n 1, 1) := by decide +kernel
theorem dX9_keep_14 : decode cX9_keep 14 = .ok (.aload_n 0, 1) := by decide +kernel
theorem dX9_keep_15 : decode cX9_keep 15 = .ok (.getfield 36, 3) := by decide +kernel
theorem dX9_keep_18 : decode cX9_keep 18 = .ok (.invokevirtual 273, 3) := by decide +kernel
theorem dX9_keep_21 : decode cX9_keep 21 = .ok (.aload_n 0, 1) := by decide +kernel
theorem dX9_keep_22 : decode cX9_keep 22 = .ok (.dup, 1) := by decide +kernel
theorem dX9_keep_23 : decode cX9_keep 23 = .ok (.getfield 73, 3) := by decide +kernel
theorem dX9_keep_26 : decode cX9_keep 26 = .ok (.iload_n 1, 1) := by decide +kernel
theorem dX9_keep_27 : decode cX9_keep 27 = .ok (.invokestatic 241, 3) := by decide +kernel
theorem dX9_keep_30 : decode cX9_keep 30 = .ok (.ior, 1) := by decide +kernel
theorem dX9_keep_31 : decode cX9_keep 31 = .ok (.putfield 73, 3) := by decide +kernel
theorem dX9_keep_34 : decode cX9_keep 34 = .ok (.aload_n 0, 1) := by decide +kernel
theorem dX9_keep_35 : decode cX9_keep 35 = .ok (.getfield 36, 3) := by decide +kernel
theorem dX9_keep_38 : decode cX9_keep 38 = .ok (.getfield 151, 3) := by decide +kernel
theorem dX9_keep_41 : decode cX9_keep 41 = .ok (.ireturn, 1) := by decide +kernel
theorem dX9_again_0 : decode cX9_again 0 = .ok (.iload_n 1, 1) := by decide +kernel
theorem dX9_again_1 : decode cX9_again 1 = .ok (.invokestatic 270, 3) := by decide +kernel
theorem dX9_again_4 : decode cX9_again 4 = .ok (.ifCond .ne 5, 3) := by decide +kernel
theorem dX9_again_7 : decode cX9_again 7 = .ok (.iconst (-1), 1) := by decide +kernel
theorem dX9_again_8 : decode cX9_again 8 = .ok (.ireturn, 1) := by decide +kernel
theorem dX9_again_9 : decode cX9_again 9 = .ok (.aload_n 0, 1) := by decide +kernel
theorem dX9_again_10 : decode cX9_again 10 = .ok (.getfield 73, 3) := by decide +kernel
theorem dX9_again_13 : decode cX9_again 13 = .ok (.iload_n 1, 1) := by decide +kernel
theorem dX9_again_14 : decode cX9_again 14 = .ok (.invokestatic 241, 3) := by decide +kernel
theorem dX9_again_17 : decode cX9_again 17 = .ok (.iand, 1) := by decide +kernel
theorem dX9_again_18 : decode cX9_again 18 = .ok (.ifCond .ne 6, 3) := by decide +kernel
theorem dX9_again_21 : decode cX9_again 21 = .ok (.bipush (-3), 2) := by decide +kernel
theorem dX9_again_23 : decode cX9_again 23 = .ok (.ireturn, 1) := by decide +kernel
theorem dX9_again_24 : decode cX9_again 24 = .ok (.aload_n 0, 1) := by decide +kernel
theorem dX9_again_25 : decode cX9_again 25 = .ok (.getfield 69, 3) := by decide +kernel
theorem dX9_again_28 : decode cX9_again 28 = .ok (.iload_n 1, 1) := by decide +kernel
theorem dX9_again_29 : decode cX9_again 29 = .ok (.aload_n 0, 1) := by decide +kernel
theorem dX9_again_30 : decode cX9_again 30 = .ok (.getfield 36, 3) := by decide +kernel
theorem dX9_again_33 : decode cX9_again 33 = .ok (.invokevirtual 277, 3) := by decide +kernel
theorem dX9_again_36 : decode cX9_again 36 = .ok (.aload_n 0, 1) := by decide +kernel
theorem dX9_again_37 : decode cX9_again 37 = .ok (.getfield 60, 3) := by decide +kernel
theorem dX9_again_40 : decode cX9_again 40 = .ok (.invokevirtual 107, 3) := by decide +kernel
theorem dX9_again_43 : decode cX9_again 43 = .ok (.aload_n 0, 1) := by decide +kernel
theorem dX9_again_44 : decode cX9_again 44 = .ok (.getfield 36, 3) := by decide +kernel
theorem dX9_again_47 : decode cX9_again 47 = .ok (.getfield 151, 3) := by decide +kernel
theorem dX9_again_50 : decode cX9_again 50 = .ok (.ireturn, 1) := by decide +kernel
theorem dX9_count_0 : decode cX9_count 0 = .ok (.iload_n 1, 1) := by decide +kernel
theorem dX9_count_1 : decode cX9_count 1 = .ok (.tableswitch 181 0 10 #[59, 67, 75, 83, 91, 99, 107, 115, 140, 165, 173], 59) := by decide +kernel
theorem dX9_count_60 : decode cX9_count 60 = .ok (.aload_n 0, 1) := by decide +kernel
theorem dX9_count_61 : decode cX9_count 61 = .ok (.getfield 12, 3) := by decide +kernel
theorem dX9_count_64 : decode cX9_count 64 = .ok (.getfield 96, 3) := by decide +kernel
theorem dX9_count_67 : decode cX9_count 67 = .ok (.ireturn, 1) := by decide +kernel
theorem dX9_count_68 : decode cX9_count 68 = .ok (.aload_n 0, 1) := by decide +kernel
theorem dX9_count_69 : decode cX9_count 69 = .ok (.getfield 26, 3) := by decide +kernel
theorem dX9_count_72 : decode cX9_count 72 = .ok (.getfield 280, 3) := by decide +kernel
theorem dX9_count_75 : decode cX9_count 75 = .ok (.ireturn, 1) := by decide +kernel
theorem dX9_count_76 : decode cX9_count 76 = .ok (.aload_n 0, 1) := by decide +kernel
theorem dX9_count_77 : decode cX9_count 77 = .ok (.getfield 26, 3) := by decide +kernel
theorem dX9_count_80 : decode cX9_count 80 = .ok (.getfield 110, 3) := by decide +kernel
theorem dX9_count_83 : decode cX9_count 83 = .ok (.ireturn, 1) := by decide +kernel
theorem dX9_count_84 : decode cX9_count 84 = .ok (.aload_n 0, 1) := by decide +kernel
theorem dX9_count_85 : decode cX9_count 85 = .ok (.getfield 36, 3) := by decide +kernel
theorem dX9_count_88 : decode cX9_count 88 = .ok (.getfield 180, 3) := by decide +kernel
theorem dX9_count_91 : decode cX9_count 91 = .ok (.ireturn, 1) := by decide +kernel
theorem dX9_count_92 : decode cX9_count 92 = .ok (.aload_n 0, 1) := by decide +kernel
theorem dX9_count_93 : decode cX9_count 93 = .ok (.getfield 36, 3) := by decide +kernel
theorem dX9_count_96 : decode cX9_count 96 = .ok (.getfield 151, 3) := by decide +kernel
theorem dX9_count_99 : decode cX9_count 99 = .ok (.ireturn, 1) := by decide +kernel
theorem dX9_count_100 : decode cX9_count 100 = .ok (.aload_n 0, 1) := by decide +kernel
theorem dX9_count_101 : decode cX9_count 101 = .ok (.getfield 26, 3) := by decide +kernel
theorem dX9_count_104 : decode cX9_count 104 = .ok (.getfield 283, 3) := by decide +kernel
theorem dX9_count_107 : decode cX9_count 107 = .ok (.ireturn, 1) := by decide +kernel
theorem dX9_count_108 : decode cX9_count 108 = .ok (.aload_n 0, 1) := by decide +kernel
theorem dX9_count_109 : decode cX9_count 109 = .ok (.getfield 26, 3) := by decide +kernel
theorem dX9_count_112 : decode cX9_count 112 = .ok (.getfield 267, 3) := by decide +kernel
theorem dX9_count_115 : decode cX9_count 115 = .ok (.ireturn, 1) := by decide +kernel
theorem dX9_count_116 : decode cX9_count 116 = .ok (.aload_n 0, 1) := by decide +kernel
theorem dX9_count_117 : decode cX9_count 117 = .ok (.getfield 46, 3) := by decide +kernel
theorem dX9_count_120 : decode cX9_count 120 = .ok (.aload_n 0, 1) := by decide +kernel
theorem dX9_count_121 : decode cX9_count 121 = .ok (.getfield 26, 3) := by decide +kernel
theorem dX9_count_124 : decode cX9_count 124 = .ok (.aload_n 0, 1) := by decide +kernel
theorem dX9_count_125 : decode cX9_count 125 = .ok (.getfield 36, 3) := by decide +kernel
theorem dX9_count_128 : decode cX9_count 128 = .ok (.bipush (-9), 2) := by decide +kernel
theorem dX9_count_130 : decode cX9_count 130 = .ok (.invokevirtual 286, 3) := by decide +kernel
theorem dX9_count_133 : decode cX9_count 133 = .ok (.aload_n 0, 1) := by decide +kernel
theorem dX9_count_134 : decode cX9_count 134 = .ok (.getfield 46, 3) := by decide +kernel
theorem dX9_count_137 : decode cX9_count 137 = .ok (.getfield 290, 3) := by decide +kernel
theorem dX9_count_140 : decode cX9_count 140 = .ok (.ireturn, 1) := by decide +kernel
theorem dX9_count_141 : decode cX9_count 141 = .ok (.aload_n 0, 1) := by decide +kernel
theorem dX9_count_142 : decode cX9_count 142 = .ok (.getfield 46, 3) := by decide +kernel
theorem dX9_count_145 : decode cX9_count 145 = .ok (.aload_n 0, 1) := by decide +kernel
theorem dX9_count_146 : decode cX9_count 146 = .ok (.getfield 26, 3) := by decide +kernel
theorem dX9_count_149 : decode cX9_count 149 = .ok (.aload_n 0, 1) := by decide +kernel
theorem dX9_count_150 : decode cX9_count 150 = .ok (.getfield 36, 3) := by decide +kernel
theorem dX9_count_153 : decode cX9_count 153 = .ok (.bipush (-9), 2) := by decide +kernel
theorem dX9_count_155 : decode cX9_count 155 = .ok (.invokevirtual 286, 3) := by decide +kernel
theorem dX9_count_158 : decode cX9_count 158 = .ok (.aload_n 0, 1) := by decide +kernel
theorem dX9_count_159 : decode cX9_count 159 = .ok (.getfield 46, 3) := by decide +kernel
theorem dX9_count_162 : decode cX9_count 162 = .ok (.getfield 291, 3) := by decide +kernel
theorem dX9_count_165 : decode cX9_count 165 = .ok (.ireturn, 1) := by decide +kernel
theorem dX9_count_166 : decode cX9_count 166 = .ok (.aload_n 0, 1) := by decide +kernel
theorem dX9_count_167 : decode cX9_count 167 = .ok (.getfield 60, 3) := by decide +kernel
theorem dX9_count_170 : decode cX9_count 170 = .ok (.getfield 183, 3) := by decide +kernel
theorem dX9_count_173 : decode cX9_count 173 = .ok (.ireturn, 1) := by decide +kernel
theorem dX9_count_174 : decode cX9_count 174 = .ok (.aload_n 0, 1) := by decide +kernel
theorem dX9_count_175 : decode cX9_count 175 = .ok (.getfield 80, 3) := by decide +kernel
theorem dX9_count_178 : decode cX9_count 178 = .ok (.getfield 237, 3) := by decide +kernel
theorem dX9_count_181 : decode cX9_count 181 = .ok (.ireturn, 1) := by decide +kernel
theorem dX9_count_182 : decode cX9_count 182 = .ok (.bipush (-2), 2) := by decide +kernel
theorem dX9_count_184 : decode cX9_count 184 = .ok (.ireturn, 1) := by decide +kernel
theorem dX9_isGate_0 : decode cX9_isGate 0 = .ok (.iload_n 1, 1) := by decide +kernel
theorem dX9_isGate_1 : decode cX9_isGate 1 = .ok (.ifCond .lt 18, 3) := by decide +kernel
theorem dX9_isGate_4 : decode cX9_isGate 4 = .ok (.iload_n 1, 1) := by decide +kernel
theorem dX9_isGate_5 : decode cX9_isGate 5 = .ok (.aload_n 0, 1) := by decide +kernel
theorem dX9_isGate_6 : decode cX9_isGate 6 = .ok (.getfield 26, 3) := by decide +kernel
theorem dX9_isGate_9 : decode cX9_isGate 9 = .ok (.getfield 110, 3) := by decide +kernel
theorem dX9_isGate_12 : decode cX9_isGate 12 = .ok (.if_icmp .ge 7, 3) := by decide +kernel
theorem dX9_isGate_15 : decode cX9_isGate 15 = .ok (.iconst 1, 1) := by decide +kernel
theorem dX9_isGate_16 : decode cX9_isGate 16 = .ok (.goto 4, 3) := by decide +kernel
theorem dX9_isGate_19 : decode cX9_isGate 19 = .ok (.iconst 0, 1) := by decide +kernel
theorem dX9_isGate_20 : decode cX9_isGate 20 = .ok (.ireturn, 1) := by decide +kernel
theorem dX9_isChip_0 : decode cX9_isChip 0 = .ok (.iload_n 1, 1) := by decide +kernel
theorem dX9_isChip_1 : decode cX9_isChip 1 = .ok (.ifCond .lt 18, 3) := by decide +kernel
theorem dX9_isChip_4 : decode cX9_isChip 4 = .ok (.iload_n 1, 1) := by decide +kernel
theorem dX9_isChip_5 : decode cX9_isChip 5 = .ok (.aload_n 0, 1) := by decide +kernel
theorem dX9_isChip_6 : decode cX9_isChip 6 = .ok (.getfield 26, 3) := by decide +kernel
theorem dX9_isChip_9 : decode cX9_isChip 9 = .ok (.getfield 280, 3) := by decide +kernel
theorem dX9_isChip_12 : decode cX9_isChip 12 = .ok (.if_icmp .ge 7, 3) := by decide +kernel
theorem dX9_isChip_15 : decode cX9_isChip 15 = .ok (.iconst 1, 1) := by decide +kernel
theorem dX9_isChip_16 : decode cX9_isChip 16 = .ok (.goto 4, 3) := by decide +kernel
theorem dX9_isChip_19 : decode cX9_isChip 19 = .ok (.iconst 0, 1) := by decide +kernel
theorem dX9_isChip_20 : decode cX9_isChip 20 = .ok (.ireturn, 1) := by decide +kernel
theorem dX9_isKeeper_0 : decode cX9_isKeeper 0 = .ok (.iload_n 0, 1) := by decide +kernel
theorem dX9_isKeeper_1 : decode cX9_isKeeper 1 = .ok (.ifCond .lt 12, 3) := by decide +kernel
theorem dX9_isKeeper_4 : decode cX9_isKeeper 4 = .ok (.iload_n 0, 1) := by decide +kernel
theorem dX9_isKeeper_5 : decode cX9_isKeeper 5 = .ok (.iconst 2, 1) := by decide +kernel
theorem dX9_isKeeper_6 : decode cX9_isKeeper 6 = .ok (.if_icmp .ge 7, 3) := by decide +kernel
theorem dX9_isKeeper_9 : decode cX9_isKeeper 9 = .ok (.iconst 1, 1) := by decide +kernel
theorem dX9_isKeeper_10 : decode cX9_isKeeper 10 = .ok (.goto 4, 3) := by decide +kernel
theorem dX9_isKeeper_13 : decode cX9_isKeeper 13 = .ok (.iconst 0, 1) := by decide +kernel
theorem dX9_isKeeper_14 : decode cX9_isKeeper 14 = .ok (.ireturn, 1) := by decide +kernel
theorem dX9_isValue_0 : decode cX9_isValue 0 = .ok (.iload_n 0, 1) := by decide +kernel
theorem dX9_isValue_1 : decode cX9_isValue 1 = .ok (.ifCond .lt 12, 3) := by decide +kernel
theorem dX9_isValue_4 : decode cX9_isValue 4 = .ok (.iload_n 0, 1) := by decide +kernel
theorem dX9_isValue_5 : decode cX9_isValue 5 = .ok (.iconst 2, 1) := by decide +kernel
theorem dX9_isValue_6 : decode cX9_isValue 6 = .ok (.if_icmp .gt 7, 3) := by decide +kernel
theorem dX9_isValue_9 : decode cX9_isValue 9 = .ok (.iconst 1, 1) := by decide +kernel
theorem dX9_isValue_10 : decode cX9_isValue 10 = .ok (.goto 4, 3) := by decide +kernel
theorem dX9_isValue_13 : decode cX9_isValue 13 = .ok (.iconst 0, 1) := by decide +kernel
theorem dX9_isValue_14 : decode cX9_isValue 14 = .ok (.ireturn, 1) := by decide +kernel
theorem dX9_isPins_0 : decode cX9_isPins 0 = .ok (.iload_n 0, 1) := by decide +kernel
theorem dX9_isPins_1 : decode cX9_isPins 1 = .ok (.iconst 1, 1) := by decide +kernel
theorem dX9_isPins_2 : decode cX9_isPins 2 = .ok (.if_icmp .lt 13, 3) := by decide +kernel
theorem dX9_isPins_5 : decode cX9_isPins 5 = .ok (.iload_n 0, 1) := by decide +kernel
theorem dX9_isPins_6 : decode cX9_isPins 6 = .ok (.bipush 9, 2) := by decide +kernel
theorem dX9_isPins_8 : decode cX9_isPins 8 = .ok (.if_icmp .gt 7, 3) := by decide +kernel
theorem dX9_isPins_11 : decode cX9_isPins 11 = .ok (.iconst 1, 1) := by decide +kernel
theorem dX9_isPins_12 : decode cX9_isPins 12 = .ok (.goto 4, 3) := by decide +kernel
theorem dX9_isPins_15 : decode cX9_isPins 15 = .ok (.iconst 0, 1) := by decide +kernel
theorem dX9_isPins_16 : decode cX9_isPins 16 = .ok (.ireturn, 1) := by decide +kernel
theorem dX9_makeSteps_0 : decode cX9_makeSteps 0 = .ok (.iconst 0, 1) := by decide +kernel
theorem dX9_makeSteps_1 : decode cX9_makeSteps 1 = .ok (.istore_n 3, 1) := by decide +kernel
theorem dX9_makeSteps_2 : decode cX9_makeSteps 2 = .ok (.iload_n 3, 1) := by decide +kernel
theorem dX9_makeSteps_3 : decode cX9_makeSteps 3 = .ok (.iload_n 2, 1) := by decide +kernel
theorem dX9_makeSteps_4 : decode cX9_makeSteps 4 = .ok (.if_icmp .ge 35, 3) := by decide +kernel
theorem dX9_makeSteps_7 : decode cX9_makeSteps 7 = .ok (.aload_n 0, 1) := by decide +kernel
theorem dX9_makeSteps_8 : decode cX9_makeSteps 8 = .ok (.getfield 46, 3) := by decide +kernel
theorem dX9_makeSteps_11 : decode cX9_makeSteps 11 = .ok (.aload_n 0, 1) := by decide +kernel
theorem dX9_makeSteps_12 : decode cX9_makeSteps 12 = .ok (.getfield 26, 3) := by decide +kernel
theorem dX9_makeSteps_15 : decode cX9_makeSteps 15 = .ok (.aload_n 1, 1) := by decide +kernel
theorem dX9_makeSteps_16 : decode cX9_makeSteps 16 = .ok (.bipush (-9), 2) := by decide +kernel
theorem dX9_makeSteps_18 : decode cX9_makeSteps 18 = .ok (.invokevirtual 286, 3) := by decide +kernel
theorem dX9_makeSteps_21 : decode cX9_makeSteps 21 = .ok (.aload_n 0, 1) := by decide +kernel
theorem dX9_makeSteps_22 : decode cX9_makeSteps 22 = .ok (.getfield 46, 3) := by decide +kernel
theorem dX9_makeSteps_25 : decode cX9_makeSteps 25 = .ok (.aload_n 0, 1) := by decide +kernel
theorem dX9_makeSteps_26 : decode cX9_makeSteps 26 = .ok (.getfield 26, 3) := by decide +kernel
theorem dX9_makeSteps_29 : decode cX9_makeSteps 29 = .ok (.aload_n 1, 1) := by decide +kernel
theorem dX9_makeSteps_30 : decode cX9_makeSteps 30 = .ok (.invokevirtual 292, 3) := by decide +kernel
theorem dX9_makeSteps_33 : decode cX9_makeSteps 33 = .ok (.iinc 3 1, 3) := by decide +kernel
theorem dX9_makeSteps_36 : decode cX9_makeSteps 36 = .ok (.goto (-34), 3) := by decide +kernel
theorem dX9_makeSteps_39 : decode cX9_makeSteps 39 = .ok (.return_, 1) := by decide +kernel
theorem dX9_valueNow_0 : decode cX9_valueNow 0 = .ok (.aload_n 0, 1) := by decide +kernel
theorem dX9_valueNow_1 : decode cX9_valueNow 1 = .ok (.getfield 46, 3) := by decide +kernel
theorem dX9_valueNow_4 : decode cX9_valueNow 4 = .ok (.aload_n 0, 1) := by decide +kernel
theorem dX9_valueNow_5 : decode cX9_valueNow 5 = .ok (.getfield 26, 3) := by decide +kernel
theorem dX9_valueNow_8 : decode cX9_valueNow 8 = .ok (.aload_n 1, 1) := by decide +kernel
theorem dX9_valueNow_9 : decode cX9_valueNow 9 = .ok (.bipush (-9), 2) := by decide +kernel
theorem dX9_valueNow_11 : decode cX9_valueNow 11 = .ok (.invokevirtual 286, 3) := by decide +kernel
theorem dX9_valueNow_14 : decode cX9_valueNow 14 = .ok (.aload_n 0, 1) := by decide +kernel
theorem dX9_valueNow_15 : decode cX9_valueNow 15 = .ok (.getfield 46, 3) := by decide +kernel
theorem dX9_valueNow_18 : decode cX9_valueNow 18 = .ok (.getfield 290, 3) := by decide +kernel
theorem dX9_valueNow_21 : decode cX9_valueNow 21 = .ok (.aload_n 0, 1) := by decide +kernel
theorem dX9_valueNow_22 : decode cX9_valueNow 22 = .ok (.getfield 46, 3) := by decide +kernel
theorem dX9_valueNow_25 : decode cX9_valueNow 25 = .ok (.getfield 291, 3) := by decide +kernel
theorem dX9_valueNow_28 : decode cX9_valueNow 28 = .ok (.iload_n 2, 1) := by decide +kernel
theorem dX9_valueNow_29 : decode cX9_valueNow 29 = .ok (.invokestatic 163, 3) := by decide +kernel
theorem dX9_valueNow_32 : decode cX9_valueNow 32 = .ok (.ireturn, 1) := by decide +kernel
theorem dX9_traceSteps_0 : decode cX9_traceSteps 0 = .ok (.aload_n 0, 1) := by decide +kernel
theorem dX9_traceSteps_1 : decode cX9_traceSteps 1 = .ok (.getfield 40, 3) := by decide +kernel
theorem dX9_traceSteps_4 : decode cX9_traceSteps 4 = .ok (.aload_n 0, 1) := by decide +kernel
theorem dX9_traceSteps_5 : decode cX9_traceSteps 5 = .ok (.getfield 36, 3) := by decide +kernel
theorem dX9_traceSteps_8 : decode cX9_traceSteps 8 = .ok (.invokevirtual 189, 3) := by decide +kernel
theorem dX9_traceSteps_11 : decode cX9_traceSteps 11 = .ok (.iconst 0, 1) := by decide +kernel
theorem dX9_traceSteps_12 : decode cX9_traceSteps 12 = .ok (.istore_n 1, 1) := by decide +kernel
theorem dX9_traceSteps_13 : decode cX9_traceSteps 13 = .ok (.iload_n 1, 1) := by decide +kernel
theorem dX9_traceSteps_14 : decode cX9_traceSteps 14 = .ok (.aload_n 0, 1) := by decide +kernel
theorem dX9_traceSteps_15 : decode cX9_traceSteps 15 = .ok (.getfield 84, 3) := by decide +kernel
theorem dX9_traceSteps_18 : decode cX9_traceSteps 18 = .ok (.arraylength, 1) := by decide +kernel
theorem dX9_traceSteps_19 : decode cX9_traceSteps 19 = .ok (.if_icmp .ge 42, 3) := by decide +kernel
theorem dX9_traceSteps_22 : decode cX9_traceSteps 22 = .ok (.aload_n 0, 1) := by decide +kernel
theorem dX9_traceSteps_23 : decode cX9_traceSteps 23 = .ok (.getfield 84, 3) := by decide +kernel
theorem dX9_traceSteps_26 : decode cX9_traceSteps 26 = .ok (.iload_n 1, 1) := by decide +kernel
theorem dX9_traceSteps_27 : decode cX9_traceSteps 27 = .ok (.aload_n 0, 1) := by decide +kernel
theorem dX9_traceSteps_28 : decode cX9_traceSteps 28 = .ok (.getfield 40, 3) := by decide +kernel
theorem dX9_traceSteps_31 : decode cX9_traceSteps 31 = .ok (.getfield 157, 3) := by decide +kernel
theorem dX9_traceSteps_34 : decode cX9_traceSteps 34 = .ok (.aload_n 0, 1) := by decide +kernel
theorem dX9_traceSteps_35 : decode cX9_traceSteps 35 = .ok (.getfield 40, 3) := by decide +kernel
theorem dX9_traceSteps_38 : decode cX9_traceSteps 38 = .ok (.getfield 160, 3) := by decide +kernel
theorem dX9_traceSteps_41 : decode cX9_traceSteps 41 = .ok (.bipush 10, 2) := by decide +kernel
theorem dX9_traceSteps_43 : decode cX9_traceSteps 43 = .ok (.ishl, 1) := by decide +kernel
theorem dX9_traceSteps_44 : decode cX9_traceSteps 44 = .ok (.ior, 1) := by decide +kernel
theorem dX9_traceSteps_45 : decode cX9_traceSteps 45 = .ok (.iastore, 1) := by decide +kernel
theorem dX9_traceSteps_46 : decode cX9_traceSteps 46 = .ok (.aload_n 0, 1) := by decide +kernel
theorem dX9_traceSteps_47 : decode cX9_traceSteps 47 = .ok (.aload_n 0, 1) := by decide +kernel
theorem dX9_traceSteps_48 : decode cX9_traceSteps 48 = .ok (.getfield 40, 3) := by decide +kernel
theorem dX9_traceSteps_51 : decode cX9_traceSteps 51 = .ok (.iconst 1, 1) := by decide +kernel
theorem dX9_traceSteps_52 : decode cX9_traceSteps 52 = .ok (.invokevirtual 147, 3) := by decide +kernel
theorem dX9_traceSteps_55 : decode cX9_traceSteps 55 = .ok (.iinc 1 1, 3) := by decide +kernel
theorem dX9_traceSteps_58 : decode cX9_traceSteps 58 = .ok (.goto (-45), 3) := by decide +kernel
theorem dX9_traceSteps_61 : decode cX9_traceSteps 61 = .ok (.return_, 1) := by decide +kernel
theorem dX9_periodFrom_0 : decode cX9_periodFrom 0 = .ok (.aload_n 0, 1) := by decide +kernel
theorem dX9_periodFrom_1 : decode cX9_periodFrom 1 = .ok (.getfield 84, 3) := by decide +kernel
theorem dX9_periodFrom_4 : decode cX9_periodFrom 4 = .ok (.iload_n 1, 1) := by decide +kernel
theorem dX9_periodFrom_5 : decode cX9_periodFrom 5 = .ok (.invokestatic 296, 3) := by decide +kernel
theorem dX9_periodFrom_8 : decode cX9_periodFrom 8 = .ok (.istore_n 2, 1) := by decide +kernel
theorem dX9_periodFrom_9 : decode cX9_periodFrom 9 = .ok (.iconst 2, 1) := by decide +kernel
theorem dX9_periodFrom_10 : decode cX9_periodFrom 10 = .ok (.istore_n 3, 1) := by decide +kernel
theorem dX9_periodFrom_11 : decode cX9_periodFrom 11 = .ok (.iload_n 3, 1) := by decide +kernel
theorem dX9_periodFrom_12 : decode cX9_periodFrom 12 = .ok (.bipush 60, 2) := by decide +kernel
theorem dX9_periodFrom_14 : decode cX9_periodFrom 14 = .ok (.if_icmp .gt 25, 3) := by decide +kernel
theorem dX9_periodFrom_17 : decode cX9_periodFrom 17 = .ok (.aload_n 0, 1) := by decide +kernel
theorem dX9_periodFrom_18 : decode cX9_periodFrom 18 = .ok (.getfield 84, 3) := by decide +kernel
theorem dX9_periodFrom_21 : decode cX9_periodFrom 21 = .ok (.iload_n 1, 1) := by decide +kernel
theorem dX9_periodFrom_22 : decode cX9_periodFrom 22 = .ok (.iload_n 3, 1) := by decide +kernel
theorem dX9_periodFrom_23 : decode cX9_periodFrom 23 = .ok (.iadd, 1) := by decide +kernel
theorem dX9_periodFrom_24 : decode cX9_periodFrom 24 = .ok (.invokestatic 296, 3) := by decide +kernel
theorem dX9_periodFrom_27 : decode cX9_periodFrom 27 = .ok (.iload_n 2, 1) := by decide +kernel
theorem dX9_periodFrom_28 : decode cX9_periodFrom 28 = .ok (.if_icmp .ne 5, 3) := by decide +kernel
theorem dX9_periodFrom_31 : decode cX9_periodFrom 31 = .ok (.iload_n 3, 1) := by decide +kernel
theorem dX9_periodFrom_32 : decode cX9_periodFrom 32 = .ok (.ireturn, 1) := by decide +kernel
theorem dX9_periodFrom_33 : decode cX9_periodFrom 33 = .ok (.iinc 3 2, 3) := by decide +kernel
theorem dX9_periodFrom_36 : decode cX9_periodFrom 36 = .ok (.goto (-25), 3) := by decide +kernel
theorem dX9_periodFrom_39 : decode cX9_periodFrom 39 = .ok (.bipush (-9), 2) := by decide +kernel
theorem dX9_periodFrom_41 : decode cX9_periodFrom 41 = .ok (.ireturn, 1) := by decide +kernel
theorem dX9_canBeStuck_0 : decode cX9_canBeStuck 0 = .ok (.aload_n 0, 1) := by decide +kernel
theorem dX9_canBeStuck_1 : decode cX9_canBeStuck 1 = .ok (.getfield 40, 3) := by decide +kernel
theorem dX9_canBeStuck_4 : decode cX9_canBeStuck 4 = .ok (.aload_n 0, 1) := by decide +kernel
theorem dX9_canBeStuck_5 : decode cX9_canBeStuck 5 = .ok (.getfield 36, 3) := by decide +kernel
theorem dX9_canBeStuck_8 : decode cX9_canBeStuck 8 = .ok (.invokevirtual 189, 3) := by decide +kernel
theorem dX9_canBeStuck_11 : decode cX9_canBeStuck 11 = .ok (.aload_n 0, 1) := by decide +kernel
theorem dX9_canBeStuck_12 : decode cX9_canBeStuck 12 = .ok (.getfield 80, 3) := by decide +kernel
theorem dX9_canBeStuck_15 : decode cX9_canBeStuck 15 = .ok (.invokevirtual 300, 3) := by decide +kernel
theorem dX9_canBeStuck_18 : decode cX9_canBeStuck 18 = .ok (.istore_n 2, 1) := by decide +kernel
theorem dX9_canBeStuck_19 : decode cX9_canBeStuck 19 = .ok (.iconst 0, 1) := by decide +kernel
theorem dX9_canBeStuck_20 : decode cX9_canBeStuck 20 = .ok (.istore_n 3, 1) := by decide +kernel
theorem dX9_canBeStuck_21 : decode cX9_canBeStuck 21 = .ok (.iload_n 3, 1) := by decide +kernel
theorem dX9_canBeStuck_22 : decode cX9_canBeStuck 22 = .ok (.iload_n 2, 1) := by decide +kernel
theorem dX9_canBeStuck_23 : decode cX9_canBeStuck 23 = .ok (.if_icmp .gt 61, 3) := by decide +kernel
theorem dX9_canBeStuck_26 : decode cX9_canBeStuck 26 = .ok (.aload_n 0, 1) := by decide +kernel
theorem dX9_canBeStuck_27 : decode cX9_canBeStuck 27 = .ok (.getfield 46, 3) := by decide +kernel
theorem dX9_canBeStuck_30 : decode cX9_canBeStuck 30 = .ok (.aload_n 0, 1) := by decide +kernel
theorem dX9_canBeStuck_31 : decode cX9_canBeStuck 31 = .ok (.getfield 26, 3) := by decide +kernel
theorem dX9_canBeStuck_34 : decode cX9_canBeStuck 34 = .ok (.aload_n 0, 1) := by decide +kernel
theorem dX9_canBeStuck_35 : decode cX9_canBeStuck 35 = .ok (.getfield 40, 3) := by decide +kernel
theorem dX9_canBeStuck_38 : decode cX9_canBeStuck 38 = .ok (.iload_n 1, 1) := by decide +kernel
theorem dX9_canBeStuck_39 : decode cX9_canBeStuck 39 = .ok (.invokevirtual 286, 3) := by decide +kernel
theorem dX9_canBeStuck_42 : decode cX9_canBeStuck 42 = .ok (.aload_n 0, 1) := by decide +kernel
theorem dX9_canBeStuck_43 : decode cX9_canBeStuck 43 = .ok (.getfield 80, 3) := by decide +kernel
theorem dX9_canBeStuck_46 : decode cX9_canBeStuck 46 = .ok (.iload_n 3, 1) := by decide +kernel
theorem dX9_canBeStuck_47 : decode cX9_canBeStuck 47 = .ok (.aload_n 0, 1) := by decide +kernel
theorem dX9_canBeStuck_48 : decode cX9_canBeStuck 48 = .ok (.getfield 26, 3) := by decide +kernel
theorem dX9_canBeStuck_51 : decode cX9_canBeStuck 51 = .ok (.aload_n 0, 1) := by decide +kernel
theorem dX9_canBeStuck_52 : decode cX9_canBeStuck 52 = .ok (.getfield 46, 3) := by decide +kernel
theorem dX9_canBeStuck_55 : decode cX9_canBeStuck 55 = .ok (.invokevirtual 303, 3) := by decide +kernel
theorem dX9_canBeStuck_58 : decode cX9_canBeStuck 58 = .ok (.ifCond .ne 5, 3) := by decide +kernel
theorem dX9_canBeStuck_61 : decode cX9_canBeStuck 61 = .ok (.iconst 0, 1) := by decide +kernel
theorem dX9_canBeStuck_62 : decode cX9_canBeStuck 62 = .ok (.ireturn, 1) := by decide +kernel
theorem dX9_canBeStuck_63 : decode cX9_canBeStuck 63 = .ok (.aload_n 0, 1) := by decide +kernel
theorem dX9_canBeStuck_64 : decode cX9_canBeStuck 64 = .ok (.getfield 46, 3) := by decide +kernel
theorem dX9_canBeStuck_67 : decode cX9_canBeStuck 67 = .ok (.aload_n 0, 1) := by decide +kernel
theorem dX9_canBeStuck_68 : decode cX9_canBeStuck 68 = .ok (.getfield 26, 3) := by decide +kernel
theorem dX9_canBeStuck_71 : decode cX9_canBeStuck 71 = .ok (.aload_n 0, 1) := by decide +kernel
theorem dX9_canBeStuck_72 : decode cX9_canBeStuck 72 = .ok (.getfield 40, 3) := by decide +kernel
theorem dX9_canBeStuck_75 : decode cX9_canBeStuck 75 = .ok (.invokevirtual 292, 3) := by decide +kernel
theorem dX9_canBeStuck_78 : decode cX9_canBeStuck 78 = .ok (.iinc 3 1, 3) := by decide +kernel
theorem dX9_canBeStuck_81 : decode cX9_canBeStuck 81 = .ok (.goto (-60), 3) := by decide +kernel
theorem dX9_canBeStuck_84 : decode cX9_canBeStuck 84 = .ok (.iconst 1, 1) := by decide +kernel
theorem dX9_canBeStuck_85 : decode cX9_canBeStuck 85 = .ok (.ireturn, 1) := by decide +kernel
theorem dX9_drawInputs_0 : decode cX9_drawInputs 0 = .ok (.iload_n 1, 1) := by decide +kernel
theorem dX9_drawInputs_1 : decode cX9_drawInputs 1 = .ok (.istore_n 2, 1) := by decide +kernel
theorem dX9_drawInputs_2 : decode cX9_drawInputs 2 = .ok (.iconst 0, 1) := by decide +kernel
theorem dX9_drawInputs_3 : decode cX9_drawInputs 3 = .ok (.istore_n 3, 1) := by decide +kernel
theorem dX9_drawInputs_4 : decode cX9_drawInputs 4 = .ok (.iload_n 3, 1) := by decide +kernel
theorem dX9_drawInputs_5 : decode cX9_drawInputs 5 = .ok (.aload_n 0, 1) := by decide +kernel
theorem dX9_drawInputs_6 : decode cX9_drawInputs 6 = .ok (.getfield 26, 3) := by decide +kernel
theorem dX9_drawInputs_9 : decode cX9_drawInputs 9 = .ok (.getfield 110, 3) := by decide +kernel
theorem dX9_drawInputs_12 : decode cX9_drawInputs 12 = .ok (.if_icmp .ge 35, 3) := by decide +kernel
theorem dX9_drawInputs_15 : decode cX9_drawInputs 15 = .ok (.aload_n 0, 1) := by decide +kernel
theorem dX9_drawInputs_16 : decode cX9_drawInputs 16 = .ok (.getfield 26, 3) := by decide +kernel
theorem dX9_drawInputs_19 : decode cX9_drawInputs 19 = .ok (.iload_n 3, 1) := by decide +kernel
theorem dX9_drawInputs_20 : decode cX9_drawInputs 20 = .ok (.invokevirtual 116, 3) := by decide +kernel
theorem dX9_drawInputs_23 : decode cX9_drawInputs 23 = .ok (.ifCond .ne 18, 3) := by decide +kernel
theorem dX9_drawInputs_26 : decode cX9_drawInputs 26 = .ok (.aload_n 0, 1) := by decide +kernel
theorem dX9_drawInputs_27 : decode cX9_drawInputs 27 = .ok (.getfield 40, 3) := by decide +kernel
theorem dX9_drawInputs_30 : decode cX9_drawInputs 30 = .ok (.iload_n 3, 1) := by decide +kernel
theorem dX9_drawInputs_31 : decode cX9_drawInputs 31 = .ok (.iload_n 2, 1) := by decide +kernel
theorem dX9_drawInputs_32 : decode cX9_drawInputs 32 = .ok (.iconst 1, 1) := by decide +kernel
theorem dX9_drawInputs_33 : decode cX9_drawInputs 33 = .ok (.iand, 1) := by decide +kernel
theorem dX9_drawInputs_34 : decode cX9_drawInputs 34 = .ok (.invokevirtual 167, 3) := by decide +kernel
theorem dX9_drawInputs_37 : decode cX9_drawInputs 37 = .ok (.iload_n 2, 1) := by decide +kernel
theorem dX9_drawInputs_38 : decode cX9_drawInputs 38 = .ok (.iconst 1, 1) := by decide +kernel
theorem dX9_drawInputs_39 : decode cX9_drawInputs 39 = .ok (.iushr, 1) := by decide +kernel
theorem dX9_drawInputs_40 : decode cX9_drawInputs 40 = .ok (.istore_n 2, 1) := by decide +kernel
theorem dX9_drawInputs_41 : decode cX9_drawInputs 41 = .ok (.iinc 3 1, 3) := by decide +kernel
theorem dX9_drawInputs_44 : decode cX9_drawInputs 44 = .ok (.goto (-40), 3) := by decide +kernel
theorem dX9_drawInputs_47 : decode cX9_drawInputs 47 = .ok (.return_, 1) := by decide +kernel
theorem dX9_bestMove_0 : decode cX9_bestMove 0 = .ok (.aload_n 0, 1) := by decide +kernel
theorem dX9_bestMove_1 : decode cX9_bestMove 1 = .ok (.getfield 53, 3) := by decide +kernel
theorem dX9_bestMove_4 : decode cX9_bestMove 4 = .ok (.aload_n 0, 1) := by decide +kernel
theorem dX9_bestMove_5 : decode cX9_bestMove 5 = .ok (.getfield 26, 3) := by decide +kernel
theorem dX9_bestMove_8 : decode cX9_bestMove 8 = .ok (.aload_n 0, 1) := by decide +kernel
theorem dX9_bestMove_9 : decode cX9_bestMove 9 = .ok (.getfield 36, 3) := by decide +kernel
theorem dX9_bestMove_12 : decode cX9_bestMove 12 = .ok (.getfield 120, 3) := by decide +kernel
theorem dX9_bestMove_15 : decode cX9_bestMove 15 = .ok (.aload_n 0, 1) := by decide +kernel
theorem dX9_bestMove_16 : decode cX9_bestMove 16 = .ok (.getfield 36, 3) := by decide +kernel
theorem dX9_bestMove_19 : decode cX9_bestMove 19 = .ok (.getfield 180, 3) := by decide +kernel
theorem dX9_bestMove_22 : decode cX9_bestMove 22 = .ok (.invokevirtual 206, 3) := by decide +kernel
theorem dX9_bestMove_25 : decode cX9_bestMove 25 = .ok (.bipush 100, 2) := by decide +kernel
theorem dX9_bestMove_27 : decode cX9_bestMove 27 = .ok (.istore_n 1, 1) := by decide +kernel
theorem dX9_bestMove_28 : decode cX9_bestMove 28 = .ok (.aload_n 0, 1) := by decide +kernel
theorem dX9_bestMove_29 : decode cX9_bestMove 29 = .ok (.getfield 53, 3) := by decide +kernel
theorem dX9_bestMove_32 : decode cX9_bestMove 32 = .ok (.getfield 210, 3) := by decide +kernel
theorem dX9_bestMove_35 : decode cX9_bestMove 35 = .ok (.istore_n 2, 1) := by decide +kernel
theorem dX9_bestMove_36 : decode cX9_bestMove 36 = .ok (.aload_n 0, 1) := by decide +kernel
theorem dX9_bestMove_37 : decode cX9_bestMove 37 = .ok (.getfield 53, 3) := by decide +kernel
theorem dX9_bestMove_40 : decode cX9_bestMove 40 = .ok (.getfield 213, 3) := by decide +kernel
theorem dX9_bestMove_43 : decode cX9_bestMove 43 = .ok (.istore_n 3, 1) := by decide +kernel
theorem dX9_bestMove_44 : decode cX9_bestMove 44 = .ok (.iconst 0, 1) := by decide +kernel
theorem dX9_bestMove_45 : decode cX9_bestMove 45 = .ok (.istore 4, 2) := by decide +kernel
theorem dX9_bestMove_47 : decode cX9_bestMove 47 = .ok (.iload 4, 2) := by decide +kernel
theorem dX9_bestMove_49 : decode cX9_bestMove 49 = .ok (.aload_n 0, 1) := by decide +kernel
theorem dX9_bestMove_50 : decode cX9_bestMove 50 = .ok (.getfield 26, 3) := by decide +kernel
theorem dX9_bestMove_53 : decode cX9_bestMove 53 = .ok (.getfield 110, 3) := by decide +kernel
theorem dX9_bestMove_56 : decode cX9_bestMove 56 = .ok (.if_icmp .ge 119, 3) := by decide +kernel
theorem dX9_bestMove_59 : decode cX9_bestMove 59 = .ok (.iconst 0, 1) := by decide +kernel
theorem dX9_bestMove_60 : decode cX9_bestMove 60 = .ok (.istore 5, 2) := by decide +kernel
theorem dX9_bestMove_62 : decode cX9_bestMove 62 = .ok (.iload 5, 2) := by decide +kernel
theorem dX9_bestMove_64 : decode cX9_bestMove 64 = .ok (.aload_n 0, 1) := by decide +kernel
theorem dX9_bestMove_65 : decode cX9_bestMove 65 = .ok (.getfield 26, 3) := by decide +kernel
theorem dX9_bestMove_68 : decode cX9_bestMove 68 = .ok (.getfield 280, 3) := by decide +kernel
theorem dX9_bestMove_71 : decode cX9_bestMove 71 = .ok (.if_icmp .ge 98, 3) := by decide +kernel
theorem dX9_bestMove_74 : decode cX9_bestMove 74 = .ok (.iload 5, 2) := by decide +kernel
theorem dX9_bestMove_76 : decode cX9_bestMove 76 = .ok (.aload_n 0, 1) := by decide +kernel
theorem dX9_bestMove_77 : decode cX9_bestMove 77 = .ok (.getfield 36, 3) := by decide +kernel
theorem dX9_bestMove_80 : decode cX9_bestMove 80 = .ok (.getfield 120, 3) := by decide +kernel
theorem dX9_bestMove_83 : decode cX9_bestMove 83 = .ok (.iload 4, 2) := by decide +kernel
theorem dX9_bestMove_85 : decode cX9_bestMove 85 = .ok (.invokestatic 123, 3) := by decide +kernel
theorem dX9_bestMove_88 : decode cX9_bestMove 88 = .ok (.if_icmp .ne 6, 3) := by decide +kernel
theorem dX9_bestMove_91 : decode cX9_bestMove 91 = .ok (.goto 72, 3) := by decide +kernel
theorem dX9_bestMove_94 : decode cX9_bestMove 94 = .ok (.aload_n 0, 1) := by decide +kernel
theorem dX9_bestMove_95 : decode cX9_bestMove 95 = .ok (.getfield 53, 3) := by decide +kernel
theorem dX9_bestMove_98 : decode cX9_bestMove 98 = .ok (.aload_n 0, 1) := by decide +kernel
theorem dX9_bestMove_99 : decode cX9_bestMove 99 = .ok (.getfield 26, 3) := by decide +kernel
theorem dX9_bestMove_102 : decode cX9_bestMove 102 = .ok (.aload_n 0, 1) := by decide +kernel
theorem dX9_bestMove_103 : decode cX9_bestMove 103 = .ok (.getfield 36, 3) := by decide +kernel
theorem dX9_bestMove_106 : decode cX9_bestMove 106 = .ok (.getfield 120, 3) := by decide +kernel
theorem dX9_bestMove_109 : decode cX9_bestMove 109 = .ok (.iload 4, 2) := by decide +kernel
theorem dX9_bestMove_111 : decode cX9_bestMove 111 = .ok (.iload 5, 2) := by decide +kernel
theorem dX9_bestMove_113 : decode cX9_bestMove 113 = .ok (.invokestatic 174, 3) := by decide +kernel
theorem dX9_bestMove_116 : decode cX9_bestMove 116 = .ok (.aload_n 0, 1) := by decide +kernel
theorem dX9_bestMove_117 : decode cX9_bestMove 117 = .ok (.getfield 36, 3) := by decide +kernel
theorem dX9_bestMove_120 : decode cX9_bestMove 120 = .ok (.getfield 180, 3) := by decide +kernel
theorem dX9_bestMove_123 : decode cX9_bestMove 123 = .ok (.invokevirtual 206, 3) := by decide +kernel
theorem dX9_bestMove_126 : decode cX9_bestMove 126 = .ok (.aload_n 0, 1) := by decide +kernel
theorem dX9_bestMove_127 : decode cX9_bestMove 127 = .ok (.getfield 53, 3) := by decide +kernel
theorem dX9_bestMove_130 : decode cX9_bestMove 130 = .ok (.iload_n 2, 1) := by decide +kernel
theorem dX9_bestMove_131 : decode cX9_bestMove 131 = .ok (.iload_n 3, 1) := by decide +kernel
theorem dX9_bestMove_132 : decode cX9_bestMove 132 = .ok (.invokevirtual 307, 3) := by decide +kernel
theorem dX9_bestMove_135 : decode cX9_bestMove 135 = .ok (.ifCond .eq 28, 3) := by decide +kernel
theorem dX9_bestMove_138 : decode cX9_bestMove 138 = .ok (.bipush 10, 2) := by decide +kernel
theorem dX9_bestMove_140 : decode cX9_bestMove 140 = .ok (.iload 4, 2) := by decide +kernel
theorem dX9_bestMove_142 : decode cX9_bestMove 142 = .ok (.imul, 1) := by decide +kernel
theorem dX9_bestMove_143 : decode cX9_bestMove 143 = .ok (.iload 5, 2) := by decide +kernel
theorem dX9_bestMove_145 : decode cX9_bestMove 145 = .ok (.iadd, 1) := by decide +kernel
theorem dX9_bestMove_146 : decode cX9_bestMove 146 = .ok (.istore_n 1, 1) := by decide +kernel
