theorem dX0_init_0 : decode cX0_init 0 = .ok (.aload_n 0, 1) := by decide +kernel
theorem dX0_init_1 : decode cX0_init 1 = .ok (.invokespecial 3, 3) := by decide +kernel
theorem dX0_init_4 : decode cX0_init 4 = .ok (.aload_n 0, 1) := by decide +kernel
theorem dX0_init_5 : decode cX0_init 5 = .ok (.sipush 800, 3) := by decide +kernel
theorem dX0_init_8 : decode cX0_init 8 = .ok (.newarray .int, 2) := by decide +kernel
theorem dX0_init_10 : decode cX0_init 10 = .ok (.putfield 11, 3) := by decide +kernel
theorem dX0_init_13 : decode cX0_init 13 = .ok (.aload_n 0, 1) := by decide +kernel
theorem dX0_init_14 : decode cX0_init 14 = .ok (.bipush 36, 2) := by decide +kernel
theorem dX0_init_16 : decode cX0_init 16 = .ok (.newarray .int, 2) := by decide +kernel
theorem dX0_init_18 : decode cX0_init 18 = .ok (.putfield 15, 3) := by decide +kernel
theorem dX0_init_21 : decode cX0_init 21 = .ok (.aload_n 0, 1) := by decide +kernel
theorem dX0_init_22 : decode cX0_init 22 = .ok (.bipush 8, 2) := by decide +kernel
theorem dX0_init_24 : decode cX0_init 24 = .ok (.newarray .int, 2) := by decide +kernel
theorem dX0_init_26 : decode cX0_init 26 = .ok (.putfield 18, 3) := by decide +kernel
theorem dX0_init_29 : decode cX0_init 29 = .ok (.return_, 1) := by decide +kernel
theorem dX0_clear_0 : decode cX0_clear 0 = .ok (.aload_n 0, 1) := by decide +kernel
theorem dX0_clear_1 : decode cX0_clear 1 = .ok (.iconst 0, 1) := by decide +kernel
theorem dX0_clear_2 : decode cX0_clear 2 = .ok (.putfield 21, 3) := by decide +kernel
theorem dX0_clear_5 : decode cX0_clear 5 = .ok (.aload_n 0, 1) := by decide +kernel
theorem dX0_clear_6 : decode cX0_clear 6 = .ok (.iconst 0, 1) := by decide +kernel
theorem dX0_clear_7 : decode cX0_clear 7 = .ok (.putfield 25, 3) := by decide +kernel
theorem dX0_clear_10 : decode cX0_clear 10 = .ok (.aload_n 0, 1) := by decide +kernel
theorem dX0_clear_11 : decode cX0_clear 11 = .ok (.iconst 0, 1) := by decide +kernel
theorem dX0_clear_12 : decode cX0_clear 12 = .ok (.putfield 28, 3) := by decide +kernel
theorem dX0_clear_15 : decode cX0_clear 15 = .ok (.aload_n 0, 1) := by decide +kernel
theorem dX0_clear_16 : decode cX0_clear 16 = .ok (.getfield 15, 3) := by decide +kernel
theorem dX0_clear_19 : decode cX0_clear 19 = .ok (.iconst 0, 1) := by decide +kernel
theorem dX0_clear_20 : decode cX0_clear 20 = .ok (.invokestatic 31, 3) := by decide +kernel
theorem dX0_clear_23 : decode cX0_clear 23 = .ok (.return_, 1) := by decide +kernel
theorem dX0_copyFrom_0 : decode cX0_copyFrom 0 = .ok (.aload_n 0, 1) := by decide +kernel
theorem dX0_copyFrom_1 : decode cX0_copyFrom 1 = .ok (.aload_n 1, 1) := by decide +kernel
theorem dX0_copyFrom_2 : decode cX0_copyFrom 2 = .ok (.getfield 21, 3) := by decide +kernel
theorem dX0_copyFrom_5 : decode cX0_copyFrom 5 = .ok (.putfield 21, 3) := by decide +kernel
theorem dX0_copyFrom_8 : decode cX0_copyFrom 8 = .ok (.aload_n 0, 1) := by decide +kernel
theorem dX0_copyFrom_9 : decode cX0_copyFrom 9 = .ok (.aload_n 1, 1) := by decide +kernel
theorem dX0_copyFrom_10 : decode cX0_copyFrom 10 = .ok (.getfield 25, 3) := by decide +kernel
theorem dX0_copyFrom_13 : decode cX0_copyFrom 13 = .ok (.putfield 25, 3) := by decide +kernel
theorem dX0_copyFrom_16 : decode cX0_copyFrom 16 = .ok (.aload_n 0, 1) := by decide +kernel
theorem dX0_copyFrom_17 : decode cX0_copyFrom 17 = .ok (.aload_n 1, 1) := by decide +kernel
theorem dX0_copyFrom_18 : decode cX0_copyFrom 18 = .ok (.getfield 28, 3) := by decide +kernel
theorem dX0_copyFrom_21 : decode cX0_copyFrom 21 = .ok (.putfield 28, 3) := by decide +kernel
theorem dX0_copyFrom_24 : decode cX0_copyFrom 24 = .ok (.aload_n 1, 1) := by decide +kernel
theorem dX0_copyFrom_25 : decode cX0_copyFrom 25 = .ok (.getfield 11, 3) := by decide +kernel
theorem dX0_copyFrom_28 : decode cX0_copyFrom 28 = .ok (.iconst 0, 1) := by decide +kernel
theorem dX0_copyFrom_29 : decode cX0_copyFrom 29 = .ok (.aload_n 0, 1) := by decide +kernel
theorem dX0_copyFrom_30 : decode cX0_copyFrom 30 = .ok (.getfield 11, 3) := by decide +kernel
theorem dX0_copyFrom_33 : decode cX0_copyFrom 33 = .ok (.iconst 0, 1) := by decide +kernel
theorem dX0_copyFrom_34 : decode cX0_copyFrom 34 = .ok (.sipush 800, 3) := by decide +kernel
theorem dX0_copyFrom_37 : decode cX0_copyFrom 37 = .ok (.invokestatic 37, 3) := by decide +kernel
theorem dX0_copyFrom_40 : decode cX0_copyFrom 40 = .ok (.aload_n 1, 1) := by decide +kernel
theorem dX0_copyFrom_41 : decode cX0_copyFrom 41 = .ok (.getfield 15, 3) := by decide +kernel
theorem dX0_copyFrom_44 : decode cX0_copyFrom 44 = .ok (.iconst 0, 1) := by decide +kernel
theorem dX0_copyFrom_45 : decode cX0_copyFrom 45 = .ok (.aload_n 0, 1) := by decide +kernel
theorem dX0_copyFrom_46 : decode cX0_copyFrom 46 = .ok (.getfield 15, 3) := by decide +kernel
theorem dX0_copyFrom_49 : decode cX0_copyFrom 49 = .ok (.iconst 0, 1) := by decide +kernel
theorem dX0_copyFrom_50 : decode cX0_copyFrom 50 = .ok (.bipush 36, 2) := by decide +kernel
theorem dX0_copyFrom_52 : decode cX0_copyFrom 52 = .ok (.invokestatic 37, 3) := by decide +kernel
theorem dX0_copyFrom_55 : decode cX0_copyFrom 55 = .ok (.aload_n 1, 1) := by decide +kernel
theorem dX0_copyFrom_56 : decode cX0_copyFrom 56 = .ok (.getfield 18, 3) := by decide +kernel
theorem dX0_copyFrom_59 : decode cX0_copyFrom 59 = .ok (.iconst 0, 1) := by decide +kernel
theorem dX0_copyFrom_60 : decode cX0_copyFrom 60 = .ok (.aload_n 0, 1) := by decide +kernel
theorem dX0_copyFrom_61 : decode cX0_copyFrom 61 = .ok (.getfield 18, 3) := by decide +kernel
theorem dX0_copyFrom_64 : decode cX0_copyFrom 64 = .ok (.iconst 0, 1) := by decide +kernel
theorem dX0_copyFrom_65 : decode cX0_copyFrom 65 = .ok (.bipush 8, 2) := by decide +kernel
theorem dX0_copyFrom_67 : decode cX0_copyFrom 67 = .ok (.invokestatic 37, 3) := by decide +kernel
theorem dX0_copyFrom_70 : decode cX0_copyFrom 70 = .ok (.return_, 1) := by decide +kernel
theorem dX0_keeps_0 : decode cX0_keeps 0 = .ok (.iload_n 1, 1) := by decide +kernel
theorem dX0_keeps_1 : decode cX0_keeps 1 = .ok (.ifCond .lt 22, 3) := by decide +kernel
theorem dX0_keeps_4 : decode cX0_keeps 4 = .ok (.iload_n 1, 1) := by decide +kernel
theorem dX0_keeps_5 : decode cX0_keeps 5 = .ok (.aload_n 0, 1) := by decide +kernel
theorem dX0_keeps_6 : decode cX0_keeps 6 = .ok (.getfield 21, 3) := by decide +kernel
theorem dX0_keeps_9 : decode cX0_keeps 9 = .ok (.if_icmp .ge 14, 3) := by decide +kernel
theorem dX0_keeps_12 : decode cX0_keeps 12 = .ok (.iload_n 1, 1) := by decide +kernel
theorem dX0_keeps_13 : decode cX0_keeps 13 = .ok (.sipush 200, 3) := by decide +kernel
theorem dX0_keeps_16 : decode cX0_keeps 16 = .ok (.if_icmp .ge 7, 3) := by decide +kernel
theorem dX0_keeps_19 : decode cX0_keeps 19 = .ok (.iconst 1, 1) := by decide +kernel
theorem dX0_keeps_20 : decode cX0_keeps 20 = .ok (.goto 4, 3) := by decide +kernel
theorem dX0_keeps_23 : decode cX0_keeps 23 = .ok (.iconst 0, 1) := by decide +kernel
theorem dX0_keeps_24 : decode cX0_keeps 24 = .ok (.ireturn, 1) := by decide +kernel
theorem dX0_addBone_0 : decode cX0_addBone 0 = .ok (.aload_n 0, 1) := by decide +kernel
theorem dX0_addBone_1 : decode cX0_addBone 1 = .ok (.getfield 21, 3) := by decide +kernel
theorem dX0_addBone_4 : decode cX0_addBone 4 = .ok (.sipush 200, 3) := by decide +kernel
theorem dX0_addBone_7 : decode cX0_addBone 7 = .ok (.if_icmp .ge 50, 3) := by decide +kernel
theorem dX0_addBone_10 : decode cX0_addBone 10 = .ok (.aload_n 0, 1) := by decide +kernel
theorem dX0_addBone_11 : decode cX0_addBone 11 = .ok (.getfield 21, 3) := by decide +kernel
theorem dX0_addBone_14 : decode cX0_addBone 14 = .ok (.iconst 4, 1) := by decide +kernel
theorem dX0_addBone_15 : decode cX0_addBone 15 = .ok (.imul, 1) := by decide +kernel
theorem dX0_addBone_16 : decode cX0_addBone 16 = .ok (.istore 5, 2) := by decide +kernel
theorem dX0_addBone_18 : decode cX0_addBone 18 = .ok (.aload_n 0, 1) := by decide +kernel
theorem dX0_addBone_19 : decode cX0_addBone 19 = .ok (.getfield 11, 3) := by decide +kernel
theorem dX0_addBone_22 : decode cX0_addBone 22 = .ok (.iload 5, 2) := by decide +kernel
theorem dX0_addBone_24 : decode cX0_addBone 24 = .ok (.iload_n 1, 1) := by decide +kernel
theorem dX0_addBone_25 : decode cX0_addBone 25 = .ok (.iastore, 1) := by decide +kernel
theorem dX0_addBone_26 : decode cX0_addBone 26 = .ok (.aload_n 0, 1) := by decide +kernel
theorem dX0_addBone_27 : decode cX0_addBone 27 = .ok (.getfield 11, 3) := by decide +kernel
theorem dX0_addBone_30 : decode cX0_addBone 30 = .ok (.iload 5, 2) := by decide +kernel
theorem dX0_addBone_32 : decode cX0_addBone 32 = .ok (.iconst 1, 1) := by decide +kernel
theorem dX0_addBone_33 : decode cX0_addBone 33 = .ok (.iadd, 1) := by decide +kernel
theorem dX0_addBone_34 : decode cX0_addBone 34 = .ok (.iload_n 2, 1) := by decide +kernel
theorem dX0_addBone_35 : decode cX0_addBone 35 = .ok (.iastore, 1) := by decide +kernel
theorem dX0_addBone_36 : decode cX0_addBone 36 = .ok (.aload_n 0, 1) := by decide +kernel
theorem dX0_addBone_37 : decode cX0_addBone 37 = .ok (.getfield 11, 3) := by decide +kernel
theorem dX0_addBone_40 : decode cX0_addBone 40 = .ok (.iload 5, 2) := by decide +kernel
theorem dX0_addBone_42 : decode cX0_addBone 42 = .ok (.iconst 2, 1) := by decide +kernel
theorem dX0_addBone_43 : decode cX0_addBone 43 = .ok (.iadd, 1) := by decide +kernel
theorem dX0_addBone_44 : decode cX0_addBone 44 = .ok (.iload_n 3, 1) := by decide +kernel
theorem dX0_addBone_45 : decode cX0_addBone 45 = .ok (.iastore, 1) := by decide +kernel
theorem dX0_addBone_46 : decode cX0_addBone 46 = .ok (.aload_n 0, 1) := by decide +kernel
theorem dX0_addBone_47 : decode cX0_addBone 47 = .ok (.getfield 11, 3) := by decide +kernel
theorem dX0_addBone_50 : decode cX0_addBone 50 = .ok (.iload 5, 2) := by decide +kernel
theorem dX0_addBone_52 : decode cX0_addBone 52 = .ok (.iconst 3, 1) := by decide +kernel
theorem dX0_addBone_53 : decode cX0_addBone 53 = .ok (.iadd, 1) := by decide +kernel
theorem dX0_addBone_54 : decode cX0_addBone 54 = .ok (.iload 4, 2) := by decide +kernel
theorem dX0_addBone_56 : decode cX0_addBone 56 = .ok (.iastore, 1) := by decide +kernel
theorem dX0_addBone_57 : decode cX0_addBone 57 = .ok (.aload_n 0, 1) := by decide +kernel
theorem dX0_addBone_58 : decode cX0_addBone 58 = .ok (.dup, 1) := by decide +kernel
theorem dX0_addBone_59 : decode cX0_addBone 59 = .ok (.getfield 21, 3) := by decide +kernel
theorem dX0_addBone_62 : decode cX0_addBone 62 = .ok (.iconst 1, 1) := by decide +kernel
theorem dX0_addBone_63 : decode cX0_addBone 63 = .ok (.iadd, 1) := by decide +kernel
theorem dX0_addBone_64 : decode cX0_addBone 64 = .ok (.putfield 21, 3) := by decide +kernel
theorem dX0_addBone_67 : decode cX0_addBone 67 = .ok (.return_, 1) := by decide +kernel
theorem dX0_addFeud_0 : decode cX0_addFeud 0 = .ok (.aload_n 0, 1) := by decide +kernel
theorem dX0_addFeud_1 : decode cX0_addFeud 1 = .ok (.getfield 15, 3) := by decide +kernel
theorem dX0_addFeud_4 : decode cX0_addFeud 4 = .ok (.iload_n 1, 1) := by decide +kernel
theorem dX0_addFeud_5 : decode cX0_addFeud 5 = .ok (.bipush 6, 2) := by decide +kernel
theorem dX0_addFeud_7 : decode cX0_addFeud 7 = .ok (.imul, 1) := by decide +kernel
theorem dX0_addFeud_8 : decode cX0_addFeud 8 = .ok (.iload_n 2, 1) := by decide +kernel
theorem dX0_addFeud_9 : decode cX0_addFeud 9 = .ok (.iadd, 1) := by decide +kernel
theorem dX0_addFeud_10 : decode cX0_addFeud 10 = .ok (.dup2, 1) := by decide +kernel
theorem dX0_addFeud_11 : decode cX0_addFeud 11 = .ok (.iaload, 1) := by decide +kernel
theorem dX0_addFeud_12 : decode cX0_addFeud 12 = .ok (.iconst 1, 1) := by decide +kernel
theorem dX0_addFeud_13 : decode cX0_addFeud 13 = .ok (.iadd, 1) := by decide +kernel
theorem dX0_addFeud_14 : decode cX0_addFeud 14 = .ok (.iastore, 1) := by decide +kernel
theorem dX0_addFeud_15 : decode cX0_addFeud 15 = .ok (.aload_n 0, 1) := by decide +kernel
theorem dX0_addFeud_16 : decode cX0_addFeud 16 = .ok (.getfield 15, 3) := by decide +kernel
theorem dX0_addFeud_19 : decode cX0_addFeud 19 = .ok (.iload_n 2, 1) := by decide +kernel
theorem dX0_addFeud_20 : decode cX0_addFeud 20 = .ok (.bipush 6, 2) := by decide +kernel
theorem dX0_addFeud_22 : decode cX0_addFeud 22 = .ok (.imul, 1) := by decide +kernel
theorem dX0_addFeud_23 : decode cX0_addFeud 23 = .ok (.iload_n 1, 1) := by decide +kernel
theorem dX0_addFeud_24 : decode cX0_addFeud 24 = .ok (.iadd, 1) := by decide +kernel
theorem dX0_addFeud_25 : decode cX0_addFeud 25 = .ok (.dup2, 1) := by decide +kernel
theorem dX0_addFeud_26 : decode cX0_addFeud 26 = .ok (.iaload, 1) := by decide +kernel
theorem dX0_addFeud_27 : decode cX0_addFeud 27 = .ok (.iconst 1, 1) := by decide +kernel
theorem dX0_addFeud_28 : decode cX0_addFeud 28 = .ok (.iadd, 1) := by decide +kernel
theorem dX0_addFeud_29 : decode cX0_addFeud 29 = .ok (.iastore, 1) := by decide +kernel
theorem dX0_addFeud_30 : decode cX0_addFeud 30 = .ok (.aload_n 0, 1) := by decide +kernel
theorem dX0_addFeud_31 : decode cX0_addFeud 31 = .ok (.dup, 1) := by decide +kernel
theorem dX0_addFeud_32 : decode cX0_addFeud 32 = .ok (.getfield 25, 3) := by decide +kernel
theorem dX0_addFeud_35 : decode cX0_addFeud 35 = .ok (.iconst 1, 1) := by decide +kernel
theorem dX0_addFeud_36 : decode cX0_addFeud 36 = .ok (.iadd, 1) := by decide +kernel
theorem dX0_addFeud_37 : decode cX0_addFeud 37 = .ok (.putfield 25, 3) := by decide +kernel
theorem dX0_addFeud_40 : decode cX0_addFeud 40 = .ok (.return_, 1) := by decide +kernel
theorem dX1_init_0 : decode cX1_init 0 = .ok (.aload_n 0, 1) := by decide +kernel
theorem dX1_init_1 : decode cX1_init 1 = .ok (.aload_n 1, 1) := by decide +kernel
theorem dX1_init_2 : decode cX1_init 2 = .ok (.aload_n 2, 1) := by decide +kernel
theorem dX1_init_3 : decode cX1_init 3 = .ok (.aload_n 3, 1) := by decide +kernel
theorem dX1_init_4 : decode cX1_init 4 = .ok (.iconst 4, 1) := by decide +kernel
theorem dX1_init_5 : decode cX1_init 5 = .ok (.sipush 256, 3) := by decide +kernel
theorem dX1_init_8 : decode cX1_init 8 = .ok (.invokespecial 5, 3) := by decide +kernel
theorem dX1_init_11 : decode cX1_init 11 = .ok (.aload_n 0, 1) := by decide +kernel
theorem dX1_init_12 : decode cX1_init 12 = .ok (.sipush 256, 3) := by decide +kernel
theorem dX1_init_15 : decode cX1_init 15 = .ok (.newarray .int, 2) := by decide +kernel
theorem dX1_init_17 : decode cX1_init 17 = .ok (.putfield 11, 3) := by decide +kernel
theorem dX1_init_20 : decode cX1_init 20 = .ok (.return_, 1) := by decide +kernel
theorem dX1_rows_0 : decode cX1_rows 0 = .ok (.iconst 1, 1) := by decide +kernel
theorem dX1_rows_1 : decode cX1_rows 1 = .ok (.iconst 2, 1) := by decide +kernel
theorem dX1_rows_2 : decode cX1_rows 2 = .ok (.aload_n 0, 1) := by decide +kernel
theorem dX1_rows_3 : decode cX1_rows 3 = .ok (.invokevirtual 15, 3) := by decide +kernel
theorem dX1_rows_6 : decode cX1_rows 6 = .ok (.imul, 1) := by decide +kernel
theorem dX1_rows_7 : decode cX1_rows 7 = .ok (.ishl, 1) := by decide +kernel
theorem dX1_rows_8 : decode cX1_rows 8 = .ok (.ireturn, 1) := by decide +kernel
theorem dX1_isRow_0 : decode cX1_isRow 0 = .ok (.iload_n 1, 1) := by decide +kernel
theorem dX1_isRow_1 : decode cX1_isRow 1 = .ok (.ifCond .lt 15, 3) := by decide +kernel
theorem dX1_isRow_4 : decode cX1_isRow 4 = .ok (.iload_n 1, 1) := by decide +kernel
theorem dX1_isRow_5 : decode cX1_isRow 5 = .ok (.aload_n 0, 1) := by decide +kernel
theorem dX1_isRow_6 : decode cX1_isRow 6 = .ok (.invokevirtual 19, 3) := by decide +kernel
theorem dX1_isRow_9 : decode cX1_isRow 9 = .ok (.if_icmp .ge 7, 3) := by decide +kernel
theorem dX1_isRow_12 : decode cX1_isRow 12 = .ok (.iconst 1, 1) := by decide +kernel
theorem dX1_isRow_13 : decode cX1_isRow 13 = .ok (.goto 4, 3) := by decide +kernel
theorem dX1_isRow_16 : decode cX1_isRow 16 = .ok (.iconst 0, 1) := by decide +kernel
theorem dX1_isRow_17 : decode cX1_isRow 17 = .ok (.ireturn, 1) := by decide +kernel
theorem dX1_arrange_0 : decode cX1_arrange 0 = .ok (.iconst 0, 1) := by decide +kernel
theorem dX1_arrange_1 : decode cX1_arrange 1 = .ok (.istore_n 3, 1) := by decide +kernel
theorem dX1_arrange_2 : decode cX1_arrange 2 = .ok (.iload_n 3, 1) := by decide +kernel
theorem dX1_arrange_3 : decode cX1_arrange 3 = .ok (.aload_n 0, 1) := by decide +kernel
theorem dX1_arrange_4 : decode cX1_arrange 4 = .ok (.invokevirtual 15, 3) := by decide +kernel
theorem dX1_arrange_7 : decode cX1_arrange 7 = .ok (.if_icmp .ge 22, 3) := by decide +kernel
theorem dX1_arrange_10 : decode cX1_arrange 10 = .ok (.aload_n 1, 1) := by decide +kernel
theorem dX1_arrange_11 : decode cX1_arrange 11 = .ok (.getfield 22, 3) := by decide +kernel
theorem dX1_arrange_14 : decode cX1_arrange 14 = .ok (.iload_n 3, 1) := by decide +kernel
theorem dX1_arrange_15 : decode cX1_arrange 15 = .ok (.iload_n 2, 1) := by decide +kernel
theorem dX1_arrange_16 : decode cX1_arrange 16 = .ok (.iconst 2, 1) := by decide +kernel
theorem dX1_arrange_17 : decode cX1_arrange 17 = .ok (.iload_n 3, 1) := by decide +kernel
theorem dX1_arrange_18 : decode cX1_arrange 18 = .ok (.imul, 1) := by decide +kernel
theorem dX1_arrange_19 : decode cX1_arrange 19 = .ok (.ishr, 1) := by decide +kernel
theorem dX1_arrange_20 : decode cX1_arrange 20 = .ok (.iconst 3, 1) := by decide +kernel
theorem dX1_arrange_21 : decode cX1_arrange 21 = .ok (.iand, 1) := by decide +kernel
theorem dX1_arrange_22 : decode cX1_arrange 22 = .ok (.iastore, 1) := by decide +kernel
theorem dX1_arrange_23 : decode cX1_arrange 23 = .ok (.iinc 3 1, 3) := by decide +kernel
theorem dX1_arrange_26 : decode cX1_arrange 26 = .ok (.goto (-24), 3) := by decide +kernel
theorem dX1_arrange_29 : decode cX1_arrange 29 = .ok (.return_, 1) := by decide +kernel
theorem dX1_stays_0 : decode cX1_stays 0 = .ok (.iconst 0, 1) := by decide +kernel
theorem dX1_stays_1 : decode cX1_stays 1 = .ok (.istore_n 2, 1) := by decide +kernel
theorem dX1_stays_2 : decode cX1_stays 2 = .ok (.iload_n 2, 1) := by decide +kernel
theorem dX1_stays_3 : decode cX1_stays 3 = .ok (.aload_n 0, 1) := by decide +kernel
theorem dX1_stays_4 : decode cX1_stays 4 = .ok (.invokevirtual 15, 3) := by decide +kernel
theorem dX1_stays_7 : decode cX1_stays 7 = .ok (.if_icmp .ge 21, 3) := by decide +kernel
theorem dX1_stays_10 : decode cX1_stays 10 = .ok (.aload_n 0, 1) := by decide +kernel
theorem dX1_stays_11 : decode cX1_stays 11 = .ok (.iload_n 1, 1) := by decide +kernel
theorem dX1_stays_12 : decode cX1_stays 12 = .ok (.iload_n 2, 1) := by decide +kernel
theorem dX1_stays_13 : decode cX1_stays 13 = .ok (.invokevirtual 27, 3) := by decide +kernel
theorem dX1_stays_16 : decode cX1_stays 16 = .ok (.iload_n 1, 1) := by decide +kernel
theorem dX1_stays_17 : decode cX1_stays 17 = .ok (.if_icmp .eq 5, 3) := by decide +kernel
theorem dX1_stays_20 : decode cX1_stays 20 = .ok (.iconst 0, 1) := by decide +kernel
theorem dX1_stays_21 : decode cX1_stays 21 = .ok (.ireturn, 1) := by decide +kernel
theorem dX1_stays_22 : decode cX1_stays 22 = .ok (.iinc 2 1, 3) := by decide +kernel
theorem dX1_stays_25 : decode cX1_stays 25 = .ok (.goto (-23), 3) := by decide +kernel
theorem dX1_stays_28 : decode cX1_stays 28 = .ok (.iconst 1, 1) := by decide +kernel
theorem dX1_stays_29 : decode cX1_stays 29 = .ok (.ireturn, 1) := by decide +kernel
theorem dX1_playFrom_0 : decode cX1_playFrom 0 = .ok (.aload_n 0, 1) := by decide +kernel
theorem dX1_playFrom_1 : decode cX1_playFrom 1 = .ok (.getfield 11, 3) := by decide +kernel
theorem dX1_playFrom_4 : decode cX1_playFrom 4 = .ok (.iconst 0, 1) := by decide +kernel
theorem dX1_playFrom_5 : decode cX1_playFrom 5 = .ok (.invokestatic 31, 3) := by decide +kernel
theorem dX1_playFrom_8 : decode cX1_playFrom 8 = .ok (.iload_n 1, 1) := by decide +kernel
theorem dX1_playFrom_9 : decode cX1_playFrom 9 = .ok (.istore_n 2, 1) := by decide +kernel
theorem dX1_playFrom_10 : decode cX1_playFrom 10 = .ok (.aload_n 0, 1) := by decide +kernel
theorem dX1_playFrom_11 : decode cX1_playFrom 11 = .ok (.iconst (-1), 1) := by decide +kernel
theorem dX1_playFrom_12 : decode cX1_playFrom 12 = .ok (.putfield 37, 3) := by decide +kernel
theorem dX1_playFrom_15 : decode cX1_playFrom 15 = .ok (.iconst 1, 1) := by decide +kernel
theorem dX1_playFrom_16 : decode cX1_playFrom 16 = .ok (.istore_n 3, 1) := by decide +kernel
theorem dX1_playFrom_17 : decode cX1_playFrom 17 = .ok (.iload_n 3, 1) := by decide +kernel
theorem dX1_playFrom_18 : decode cX1_playFrom 18 = .ok (.sipush 257, 3) := by decide +kernel
theorem dX1_playFrom_21 : decode cX1_playFrom 21 = .ok (.if_icmp .gt 96, 3) := by decide +kernel
theorem dX1_playFrom_24 : decode cX1_playFrom 24 = .ok (.aload_n 0, 1) := by decide +kernel
theorem dX1_playFrom_25 : decode cX1_playFrom 25 = .ok (.getfield 11, 3) := by decide +kernel
theorem dX1_playFrom_28 : decode cX1_playFrom 28 = .ok (.iload_n 2, 1) := by decide +kernel
theorem dX1_playFrom_29 : decode cX1_playFrom 29 = .ok (.iconst 1, 1) := by decide +kernel
theorem dX1_playFrom_30 : decode cX1_playFrom 30 = .ok (.iastore, 1) := by decide +kernel
theorem dX1_playFrom_31 : decode cX1_playFrom 31 = .ok (.iload_n 2, 1) := by decide +kernel
theorem dX1_playFrom_32 : decode cX1_playFrom 32 = .ok (.istore 4, 2) := by decide +kernel
theorem dX1_playFrom_34 : decode cX1_playFrom 34 = .ok (.iconst 0, 1) := by decide +kernel
theorem dX1_playFrom_35 : decode cX1_playFrom 35 = .ok (.istore 5, 2) := by decide +kernel
theorem dX1_playFrom_37 : decode cX1_playFrom 37 = .ok (.iload 5, 2) := by decide +kernel
theorem dX1_playFrom_39 : decode cX1_playFrom 39 = .ok (.aload_n 0, 1) := by decide +kernel
theorem dX1_playFrom_40 : decode cX1_playFrom 40 = .ok (.invokevirtual 15, 3) := by decide +kernel
theorem dX1_playFrom_43 : decode cX1_playFrom 43 = .ok (.if_icmp .ge 44, 3) := by decide +kernel
theorem dX1_playFrom_46 : decode cX1_playFrom 46 = .ok (.iconst 0, 1) := by decide +kernel
theorem dX1_playFrom_47 : decode cX1_playFrom 47 = .ok (.istore 6, 2) := by decide +kernel
theorem dX1_playFrom_49 : decode cX1_playFrom 49 = .ok (.iload 6, 2) := by decide +kernel
theorem dX1_playFrom_51 : decode cX1_playFrom 51 = .ok (.iconst 4, 1) := by decide +kernel
theorem dX1_playFrom_52 : decode cX1_playFrom 52 = .ok (.if_icmp .ge 21, 3) := by decide +kernel
theorem dX1_playFrom_55 : decode cX1_playFrom 55 = .ok (.aload_n 0, 1) := by decide +kernel
theorem dX1_playFrom_56 : decode cX1_playFrom 56 = .ok (.iload_n 2, 1) := by decide +kernel
theorem dX1_playFrom_57 : decode cX1_playFrom 57 = .ok (.iload 5, 2) := by decide +kernel
theorem dX1_playFrom_59 : decode cX1_playFrom 59 = .ok (.iload 6, 2) := by decide +kernel
theorem dX1_playFrom_61 : decode cX1_playFrom 61 = .ok (.invokestatic 41, 3) := by decide +kernel
theorem dX1_playFrom_64 : decode cX1_playFrom 64 = .ok (.invokevirtual 45, 3) := by decide +kernel
theorem dX1_playFrom_67 : decode cX1_playFrom 67 = .ok (.iinc 6 1, 3) := by decide +kernel
theorem dX1_playFrom_70 : decode cX1_playFrom 70 = .ok (.goto (-21), 3) := by decide +kernel
theorem dX1_playFrom_73 : decode cX1_playFrom 73 = .ok (.aload_n 0, 1) := by decide +kernel
theorem dX1_playFrom_74 : decode cX1_playFrom 74 = .ok (.iload_n 2, 1) := by decide +kernel
theorem dX1_playFrom_75 : decode cX1_playFrom 75 = .ok (.iload 5, 2) := by decide +kernel
theorem dX1_playFrom_77 : decode cX1_playFrom 77 = .ok (.invokevirtual 27, 3) := by decide +kernel
theorem dX1_playFrom_80 : decode cX1_playFrom 80 = .ok (.istore_n 2, 1) := by decide +kernel
theorem dX1_playFrom_81 : decode cX1_playFrom 81 = .ok (.iinc 5 1, 3) := by decide +kernel
theorem dX1_playFrom_84 : decode cX1_playFrom 84 = .ok (.goto (-47), 3) := by decide +kernel
theorem dX1_playFrom_87 : decode cX1_playFrom 87 = .ok (.iload_n 2, 1) := by decide +kernel
theorem dX1_playFrom_88 : decode cX1_playFrom 88 = .ok (.iload 4, 2) := by decide +kernel
theorem dX1_playFrom_90 : decode cX1_playFrom 90 = .ok (.if_icmp .ne 10, 3) := by decide +kernel
theorem dX1_playFrom_93 : decode cX1_playFrom 93 = .ok (.aload_n 0, 1) := by decide +kernel
theorem dX1_playFrom_94 : decode cX1_playFrom 94 = .ok (.iload_n 2, 1) := by decide +kernel
theorem dX1_playFrom_95 : decode cX1_playFrom 95 = .ok (.putfield 37, 3) := by decide +kernel
theorem dX1_playFrom_98 : decode cX1_playFrom 98 = .ok (.iload_n 3, 1) := by decide +kernel
theorem dX1_playFrom_99 : decode cX1_playFrom 99 = .ok (.ireturn, 1) := by decide +kernel
theorem dX1_playFrom_100 : decode cX1_playFrom 100 = .ok (.aload_n 0, 1) := by decide +kernel
theorem dX1_playFrom_101 : decode cX1_playFrom 101 = .ok (.getfield 11, 3) := by decide +kernel
theorem dX1_playFrom_104 : decode cX1_playFrom 104 = .ok (.iload_n 2, 1) := by decide +kernel
theorem dX1_playFrom_105 : decode cX1_playFrom 105 = .ok (.iaload, 1) := by decide +kernel
theorem dX1_playFrom_106 : decode cX1_playFrom 106 = .ok (.ifCond .eq 5, 3) := by decide +kernel
theorem dX1_playFrom_109 : decode cX1_playFrom 109 = .ok (.iload_n 3, 1) := by decide +kernel
theorem dX1_playFrom_110 : decode cX1_playFrom 110 = .ok (.ireturn, 1) := by decide +kernel
theorem dX1_playFrom_111 : decode cX1_playFrom 111 = .ok (.iinc 3 1, 3) := by decide +kernel
theorem dX1_playFrom_114 : decode cX1_playFrom 114 = .ok (.goto (-97), 3) := by decide +kernel
theorem dX1_playFrom_117 : decode cX1_playFrom 117 = .ok (.iconst (-1), 1) := by decide +kernel
theorem dX1_playFrom_118 : decode cX1_playFrom 118 = .ok (.ireturn, 1) := by decide +kernel
theorem dX1_answer_0 : decode cX1_answer 0 = .ok (.iload_n 1, 1) := by decide +kernel
theorem dX1_answer_1 : decode cX1_answer 1 = .ok (.istore_n 3, 1) := by decide +kernel
theorem dX1_answer_2 : decode cX1_answer 2 = .ok (.aload_n 0, 1) := by decide +kernel
theorem dX1_answer_3 : decode cX1_answer 3 = .ok (.iload_n 1, 1) := by decide +kernel
theorem dX1_answer_4 : decode cX1_answer 4 = .ok (.iload_n 2, 1) := by decide +kernel
theorem dX1_answer_5 : decode cX1_answer 5 = .ok (.invokevirtual 49, 3) := by decide +kernel
theorem dX1_answer_8 : decode cX1_answer 8 = .ok (.istore 4, 2) := by decide +kernel
theorem dX1_answer_10 : decode cX1_answer 10 = .ok (.iconst 0, 1) := by decide +kernel
theorem dX1_answer_11 : decode cX1_answer 11 = .ok (.istore 5, 2) := by decide +kernel
theorem dX1_answer_13 : decode cX1_answer 13 = .ok (.iload 5, 2) := by decide +kernel
theorem dX1_answer_15 : decode cX1_answer 15 = .ok (.iconst 4, 1) := by decide +kernel
theorem dX1_answer_16 : decode cX1_answer 16 = .ok (.if_icmp .ge 41, 3) := by decide +kernel
theorem dX1_answer_19 : decode cX1_answer 19 = .ok (.iload_n 1, 1) := by decide +kernel
theorem dX1_answer_20 : decode cX1_answer 20 = .ok (.iload_n 2, 1) := by decide +kernel
theorem dX1_answer_21 : decode cX1_answer 21 = .ok (.iload 5, 2) := by decide +kernel
theorem dX1_answer_23 : decode cX1_answer 23 = .ok (.invokestatic 41, 3) := by decide +kernel
theorem dX1_answer_26 : decode cX1_answer 26 = .ok (.istore 6, 2) := by decide +kernel
theorem dX1_answer_28 : decode cX1_answer 28 = .ok (.aload_n 0, 1) := by decide +kernel
theorem dX1_answer_29 : decode cX1_answer 29 = .ok (.iload 6, 2) := by decide +kernel
theorem dX1_answer_31 : decode cX1_answer 31 = .ok (.iload_n 2, 1) := by decide +kernel
theorem dX1_answer_32 : decode cX1_answer 32 = .ok (.invokevirtual 49, 3) := by decide +kernel
theorem dX1_answer_35 : decode cX1_answer 35 = .ok (.istore 7, 2) := by decide +kernel
theorem dX1_answer_37 : decode cX1_answer 37 = .ok (.iload 7, 2) := by decide +kernel
theorem dX1_answer_39 : decode cX1_answer 39 = .ok (.iload 4, 2) := by decide +kernel
theorem dX1_answer_41 : decode cX1_answer 41 = .ok (.if_icmp .ge 10, 3) := by decide +kernel
theorem dX1_answer_44 : decode cX1_answer 44 = .ok (.iload 7, 2) := by decide +kernel
theorem dX1_answer_46 : decode cX1_answer 46 = .ok (.istore 4, 2) := by decide +kernel
theorem dX1_answer_48 : decode cX1_answer 48 = .ok (.iload 6, 2) := by decide +kernel
theorem dX1_answer_50 : decode cX1_answer 50 = .ok (.istore_n 3, 1) := by decide +kernel
theorem dX1_answer_51 : decode cX1_answer 51 = .ok (.iinc 5 1, 3) := by decide +kernel
theorem dX1_answer_54 : decode cX1_answer 54 = .ok (.goto (-41), 3) := by decide +kernel
theorem dX1_answer_57 : decode cX1_answer 57 = .ok (.iload_n 3, 1) := by decide +kernel
theorem dX1_answer_58 : decode cX1_answer 58 = .ok (.ireturn, 1) := by decide +kernel
theorem dX1_withLevel_0 : decode cX1_withLevel 0 = .ok (.iload_n 0, 1) := by decide +kernel
theorem dX1_withLevel_1 : decode cX1_withLevel 1 = .ok (.iconst 3, 1) := by decide +kernel
theorem dX1_withLevel_2 : decode cX1_withLevel 2 = .ok (.iconst 2, 1) := by decide +kernel
theorem dX1_withLevel_3 : decode cX1_withLevel 3 = .ok (.iload_n 1, 1) := by decide +kernel
theorem dX1_withLevel_4 : decode cX1_withLevel 4 = .ok (.imul, 1) := by decide +kernel
theorem dX1_withLevel_5 : decode cX1_withLevel 5 = .ok (.ishl, 1) := by decide +kernel
theorem dX1_withLevel_6 : decode cX1_withLevel 6 = .ok (.iconst (-1), 1) := by decide +kernel
theorem dX1_withLevel_7 : decode cX1_withLevel 7 = .ok (.ixor, 1) := by decide +kernel
theorem dX1_withLevel_8 : decode cX1_withLevel 8 = .ok (.iand, 1) := by decide +kernel
theorem dX1_withLevel_9 : decode cX1_withLevel 9 = .ok (.iload_n 2, 1) := by decide +kernel
theorem dX1_withLevel_10 : decode cX1_withLevel 10 = .ok (.iconst 2, 1) := by decide +kernel
theorem dX1_withLevel_11 : decode cX1_withLevel 11 = .ok (.iload_n 1, 1) := by decide +kernel
theorem dX1_withLevel_12 : decode cX1_withLevel 12 = .ok (.imul, 1) := by decide +kernel
theorem dX1_withLevel_13 : decode cX1_withLevel 13 = .ok (.ishl, 1) := by decide +kernel
theorem dX1_withLevel_14 : decode cX1_withLevel 14 = .ok (.ior, 1) := by decide +kernel
theorem dX1_withLevel_15 : decode cX1_withLevel 15 = .ok (.ireturn, 1) := by decide +kernel
theorem dX2_init_0 : decode cX2_init 0 = .ok (.aload_n 0, 1) := by decide +kernel
theorem dX2_init_1 : decode cX2_init 1 = .ok (.aload_n 1, 1) := by decide +kernel
theorem dX2_init_2 : decode cX2_init 2 = .ok (.aload_n 2, 1) := by decide +kernel
theorem dX2_init_3 : decode cX2_init 3 = .ok (.aload_n 3, 1) := by decide +kernel
theorem dX2_init_4 : decode cX2_init 4 = .ok (.iconst 5, 1) := by decide +kernel
theorem dX2_init_5 : decode cX2_init 5 = .ok (.bipush 120, 2) := by decide +kernel
theorem dX2_init_7 : decode cX2_init 7 = .ok (.invokespecial 5, 3) := by decide +kernel
theorem dX2_init_10 : decode cX2_init 10 = .ok (.aload_n 0, 1) := by decide +kernel
theorem dX2_init_11 : decode cX2_init 11 = .ok (.iconst 5, 1) := by decide +kernel
theorem dX2_init_12 : decode cX2_init 12 = .ok (.newarray .int, 2) := by decide +kernel
theorem dX2_init_14 : decode cX2_init 14 = .ok (.putfield 11, 3) := by decide +kernel
theorem dX2_init_17 : decode cX2_init 17 = .ok (.aload_n 0, 1) := by decide +kernel
theorem dX2_init_18 : decode cX2_init 18 = .ok (.bipush 6, 2) := by decide +kernel
theorem dX2_init_20 : decode cX2_init 20 = .ok (.newarray .int, 2) := by decide +kernel
theorem dX2_init_22 : decode cX2_init 22 = .ok (.putfield 15, 3) := by decide +kernel
theorem dX2_init_25 : decode cX2_init 25 = .ok (.return_, 1) := by decide +kernel
theorem dX2_rows_0 : decode cX2_rows 0 = .ok (.iconst 1, 1) := by decide +kernel
theorem dX2_rows_1 : decode cX2_rows 1 = .ok (.istore_n 1, 1) := by decide +kernel
theorem dX2_rows_2 : decode cX2_rows 2 = .ok (.iconst 1, 1) := by decide +kernel
theorem dX2_rows_3 : decode cX2_rows 3 = .ok (.istore_n 2, 1) := by decide +kernel
theorem dX2_rows_4 : decode cX2_rows 4 = .ok (.iload_n 2, 1) := by decide +kernel
theorem dX2_rows_5 : decode cX2_rows 5 = .ok (.aload_n 0, 1) := by decide +kernel
theorem dX2_rows_6 : decode cX2_rows 6 = .ok (.invokevirtual 18, 3) := by decide +kernel
theorem dX2_rows_9 : decode cX2_rows 9 = .ok (.if_icmp .ge 15, 3) := by decide +kernel
theorem dX2_rows_12 : decode cX2_rows 12 = .ok (.iload_n 1, 1) := by decide +kernel
theorem dX2_rows_13 : decode cX2_rows 13 = .ok (.iload_n 2, 1) := by decide +kernel
theorem dX2_rows_14 : decode cX2_rows 14 = .ok (.iconst 1, 1) := by decide +kernel
theorem dX2_rows_15 : decode cX2_rows 15 = .ok (.iadd, 1) := by decide +kernel
theorem dX2_rows_16 : decode cX2_rows 16 = .ok (.imul, 1) := by decide +kernel
theorem dX2_rows_17 : decode cX2_rows 17 = .ok (.istore_n 1, 1) := by decide +kernel
theorem dX2_rows_18 : decode cX2_rows 18 = .ok (.iinc 2 1, 3) := by decide +kernel
theorem dX2_rows_21 : decode cX2_rows 21 = .ok (.goto (-17), 3) := by decide +kernel
theorem dX2_rows_24 : decode cX2_rows 24 = .ok (.iload_n 1, 1) := by decide +kernel
theorem dX2_rows_25 : decode cX2_rows 25 = .ok (.ireturn, 1) := by decide +kernel
theorem dX2_isRow_0 : decode cX2_isRow 0 = .ok (.aload_n 0, 1) := by decide +kernel
theorem dX2_isRow_1 : decode cX2_isRow 1 = .ok (.iload_n 1, 1) := by decide +kernel
theorem dX2_isRow_2 : decode cX2_isRow 2 = .ok (.invokevirtual 22, 3) := by decide +kernel
theorem dX2_isRow_5 : decode cX2_isRow 5 = .ok (.iconst 0, 1) := by decide +kernel
theorem dX2_isRow_6 : decode cX2_isRow 6 = .ok (.istore_n 2, 1) := by decide +kernel
theorem dX2_isRow_7 : decode cX2_isRow 7 = .ok (.iconst 0, 1) := by decide +kernel
theorem dX2_isRow_8 : decode cX2_isRow 8 = .ok (.istore_n 3, 1) := by decide +kernel
theorem dX2_isRow_9 : decode cX2_isRow 9 = .ok (.iload_n 3, 1) := by decide +kernel
theorem dX2_isRow_10 : decode cX2_isRow 10 = .ok (.aload_n 0, 1) := by decide +kernel
theorem dX2_isRow_11 : decode cX2_isRow 11 = .ok (.invokevirtual 18, 3) := by decide +kernel
theorem dX2_isRow_14 : decode cX2_isRow 14 = .ok (.if_icmp .ge 34, 3) := by decide +kernel
theorem dX2_isRow_17 : decode cX2_isRow 17 = .ok (.aload_n 0, 1) := by decide +kernel
theorem dX2_isRow_18 : decode cX2_isRow 18 = .ok (.getfield 11, 3) := by decide +kernel
theorem dX2_isRow_21 : decode cX2_isRow 21 = .ok (.iload_n 3, 1) := by decide +kernel
theorem dX2_isRow_22 : decode cX2_isRow 22 = .ok (.iaload, 1) := by decide +kernel
theorem dX2_isRow_23 : decode cX2_isRow 23 = .ok (.iload_n 2, 1) := by decide +kernel
theorem dX2_isRow_24 : decode cX2_isRow 24 = .ok (.if_icmp .le 5, 3) := by decide +kernel
theorem dX2_isRow_27 : decode cX2_isRow 27 = .ok (.iconst 0, 1) := by decide +kernel
theorem dX2_isRow_28 : decode cX2_isRow 28 = .ok (.ireturn, 1) := by decide +kernel
theorem dX2_isRow_29 : decode cX2_isRow 29 = .ok (.aload_n 0, 1) := by decide +kernel
theorem dX2_isRow_30 : decode cX2_isRow 30 = .ok (.getfield 11, 3) := by decide +kernel
theorem dX2_isRow_33 : decode cX2_isRow 33 = .ok (.iload_n 3, 1) := by decide +kernel
theorem dX2_isRow_34 : decode cX2_isRow 34 = .ok (.iaload, 1) := by decide +kernel
theorem dX2_isRow_35 : decode cX2_isRow 35 = .ok (.iload_n 2, 1) := by decide +kernel
theorem dX2_isRow_36 : decode cX2_isRow 36 = .ok (.if_icmp .ne 6, 3) := by decide +kernel
theorem dX2_isRow_39 : decode cX2_isRow 39 = .ok (.iinc 2 1, 3) := by decide +kernel
theorem dX2_isRow_42 : decode cX2_isRow 42 = .ok (.iinc 3 1, 3) := by decide +kernel
theorem dX2_isRow_45 : decode cX2_isRow 45 = .ok (.goto (-36), 3) := by decide +kernel
theorem dX2_isRow_48 : decode cX2_isRow 48 = .ok (.iconst 1, 1) := by decide +kernel
theorem dX2_isRow_49 : decode cX2_isRow 49 = .ok (.ireturn, 1) := by decide +kernel
theorem dX2_arrange_0 : decode cX2_arrange 0 = .ok (.aload_n 0, 1) := by decide +kernel
theorem dX2_arrange_1 : decode cX2_arrange 1 = .ok (.iload_n 2, 1) := by decide +kernel
theorem dX2_arrange_2 : decode cX2_arrange 2 = .ok (.invokevirtual 22, 3) := by decide +kernel
theorem dX2_arrange_5 : decode cX2_arrange 5 = .ok (.iconst 0, 1) := by decide +kernel
theorem dX2_arrange_6 : decode cX2_arrange 6 = .ok (.istore_n 3, 1) := by decide +kernel
theorem dX2_arrange_7 : decode cX2_arrange 7 = .ok (.iload_n 3, 1) := by decide +kernel
theorem dX2_arrange_8 : decode cX2_arrange 8 = .ok (.aload_n 0, 1) := by decide +kernel
theorem dX2_arrange_9 : decode cX2_arrange 9 = .ok (.invokevirtual 18, 3) := by decide +kernel
theorem dX2_arrange_12 : decode cX2_arrange 12 = .ok (.if_icmp .ge 69, 3) := by decide +kernel
theorem dX2_arrange_15 : decode cX2_arrange 15 = .ok (.iconst 0, 1) := by decide +kernel
theorem dX2_arrange_16 : decode cX2_arrange 16 = .ok (.istore 4, 2) := by decide +kernel
theorem dX2_arrange_18 : decode cX2_arrange 18 = .ok (.iconst 0, 1) := by decide +kernel
theorem dX2_arrange_19 : decode cX2_arrange 19 = .ok (.istore 5, 2) := by decide +kernel
theorem dX2_arrange_21 : decode cX2_arrange 21 = .ok (.iload 5, 2) := by decide +kernel
theorem dX2_arrange_23 : decode cX2_arrange 23 = .ok (.aload_n 0, 1) := by decide +kernel
theorem dX2_arrange_24 : decode cX2_arrange 24 = .ok (.invokevirtual 18, 3) := by decide +kernel
theorem dX2_arrange_27 : decode cX2_arrange 27 = .ok (.if_icmp .ge 40, 3) := by decide +kernel
theorem dX2_arrange_30 : decode cX2_arrange 30 = .ok (.iload 5, 2) := by decide +kernel
theorem dX2_arrange_32 : decode cX2_arrange 32 = .ok (.iload_n 3, 1) := by decide +kernel
theorem dX2_arrange_33 : decode cX2_arrange 33 = .ok (.if_icmp .eq 28, 3) := by decide +kernel
theorem dX2_arrange_36 : decode cX2_arrange 36 = .ok (.aload_n 0, 1) := by decide +kernel
theorem dX2_arrange_37 : decode cX2_arrange 37 = .ok (.getfield 11, 3) := by decide +kernel
theorem dX2_arrange_40 : decode cX2_arrange 40 = .ok (.iload 5, 2) := by decide +kernel
theorem dX2_arrange_42 : decode cX2_arrange 42 = .ok (.iaload, 1) := by decide +kernel
theorem dX2_arrange_43 : decode cX2_arrange 43 = .ok (.aload_n 0, 1) := by decide +kernel
theorem dX2_arrange_44 : decode cX2_arrange 44 = .ok (.getfield 11, 3) := by decide +kernel
theorem dX2_arrange_47 : decode cX2_arrange 47 = .ok (.iload_n 3, 1) := by decide +kernel
theorem dX2_arrange_48 : decode cX2_arrange 48 = .ok (.iaload, 1) := by decide +kernel
theorem dX2_arrange_49 : decode cX2_arrange 49 = .ok (.if_icmp .ne 12, 3) := by decide +kernel
theorem dX2_arrange_52 : decode cX2_arrange 52 = .ok (.iload 4, 2) := by decide +kernel
theorem dX2_arrange_54 : decode cX2_arrange 54 = .ok (.iconst 1, 1) := by decide +kernel
theorem dX2_arrange_55 : decode cX2_arrange 55 = .ok (.iload 5, 2) := by decide +kernel
theorem dX2_arrange_57 : decode cX2_arrange 57 = .ok (.ishl, 1) := by decide +kernel
theorem dX2_arrange_58 : decode cX2_arrange 58 = .ok (.ior, 1) := by decide +kernel
theorem dX2_arrange_59 : decode cX2_arrange 59 = .ok (.istore 4, 2) := by decide +kernel
theorem dX2_arrange_61 : decode cX2_arrange 61 = .ok (.iinc 5 1, 3) := by decide +kernel
theorem dX2_arrange_64 : decode cX2_arrange 64 = .ok (.goto (-43), 3) := by decide +kernel
theorem dX2_arrange_67 : decode cX2_arrange 67 = .ok (.aload_n 1, 1) := by decide +kernel
theorem dX2_arrange_68 : decode cX2_arrange 68 = .ok (.getfield 26, 3) := by decide +kernel
theorem dX2_arrange_71 : decode cX2_arrange 71 = .ok (.iload_n 3, 1) := by decide +kernel
theorem dX2_arrange_72 : decode cX2_arrange 72 = .ok (.iload 4, 2) := by decide +kernel
theorem dX2_arrange_74 : decode cX2_arrange 74 = .ok (.iastore, 1) := by decide +kernel
theorem dX2_arrange_75 : decode cX2_arrange 75 = .ok (.iinc 3 1, 3) := by decide +kernel
theorem dX2_arrange_78 : decode cX2_arrange 78 = .ok (.goto (-71), 3) := by decide +kernel
theorem dX2_arrange_81 : decode cX2_arrange 81 = .ok (.return_, 1) := by decide +kernel
theorem dX2_stays_0 : decode cX2_stays 0 = .ok (.aload_n 0, 1) := by decide +kernel
theorem dX2_stays_1 : decode cX2_stays 1 = .ok (.iload_n 1, 1) := by decide +kernel
theorem dX2_stays_2 : decode cX2_stays 2 = .ok (.invokevirtual 22, 3) := by decide +kernel
theorem dX2_stays_5 : decode cX2_stays 5 = .ok (.iconst 1, 1) := by decide +kernel
theorem dX2_stays_6 : decode cX2_stays 6 = .ok (.istore_n 2, 1) := by decide +kernel
theorem dX2_stays_7 : decode cX2_stays 7 = .ok (.iload_n 2, 1) := by decide +kernel
theorem dX2_stays_8 : decode cX2_stays 8 = .ok (.iconst 1, 1) := by decide +kernel
theorem dX2_stays_9 : decode cX2_stays 9 = .ok (.aload_n 0, 1) := by decide +kernel
theorem dX2_stays_10 : decode cX2_stays 10 = .ok (.invokevirtual 18, 3) := by decide +kernel
theorem dX2_stays_13 : decode cX2_stays 13 = .ok (.ishl, 1) := by decide +kernel
theorem dX2_stays_14 : decode cX2_stays 14 = .ok (.if_icmp .ge 20, 3) := by decide +kernel
theorem dX2_stays_17 : decode cX2_stays 17 = .ok (.aload_n 0, 1) := by decide +kernel
theorem dX2_stays_18 : decode cX2_stays 18 = .ok (.iload_n 1, 1) := by decide +kernel
theorem dX2_stays_19 : decode cX2_stays 19 = .ok (.iload_n 2, 1) := by decide +kernel
theorem dX2_stays_20 : decode cX2_stays 20 = .ok (.invokevirtual 31, 3) := by decide +kernel
theorem dX2_stays_23 : decode cX2_stays 23 = .ok (.ifCond .eq 5, 3) := by decide +kernel
theorem dX2_stays_26 : decode cX2_stays 26 = .ok (.iconst 0, 1) := by decide +kernel
theorem dX2_stays_27 : decode cX2_stays 27 = .ok (.ireturn, 1) := by decide +kernel
theorem dX2_stays_28 : decode cX2_stays 28 = .ok (.iinc 2 1, 3) := by decide +kernel
theorem dX2_stays_31 : decode cX2_stays 31 = .ok (.goto (-24), 3) := by decide +kernel
theorem dX2_stays_34 : decode cX2_stays 34 = .ok (.iconst 1, 1) := by decide +kernel
theorem dX2_stays_35 : decode cX2_stays 35 = .ok (.ireturn, 1) := by decide +kernel
theorem dX2_groupIn_0 : decode cX2_groupIn 0 = .ok (.aload_n 0, 1) := by decide +kernel
theorem dX2_groupIn_1 : decode cX2_groupIn 1 = .ok (.iload_n 1, 1) := by decide +kernel
theorem dX2_groupIn_2 : decode cX2_groupIn 2 = .ok (.invokevirtual 22, 3) := by decide +kernel
theorem dX2_groupIn_5 : decode cX2_groupIn 5 = .ok (.iload_n 2, 1) := by decide +kernel
theorem dX2_groupIn_6 : decode cX2_groupIn 6 = .ok (.ifCond .lt 17, 3) := by decide +kernel
theorem dX2_groupIn_9 : decode cX2_groupIn 9 = .ok (.iload_n 2, 1) := by decide +kernel
theorem dX2_groupIn_10 : decode cX2_groupIn 10 = .ok (.iconst 5, 1) := by decide +kernel
theorem dX2_groupIn_11 : decode cX2_groupIn 11 = .ok (.if_icmp .ge 12, 3) := by decide +kernel
theorem dX2_groupIn_14 : decode cX2_groupIn 14 = .ok (.aload_n 0, 1) := by decide +kernel
theorem dX2_groupIn_15 : decode cX2_groupIn 15 = .ok (.getfield 11, 3) := by decide +kernel
theorem dX2_groupIn_18 : decode cX2_groupIn 18 = .ok (.iload_n 2, 1) := by decide +kernel
theorem dX2_groupIn_19 : decode cX2_groupIn 19 = .ok (.iaload, 1) := by decide +kernel
theorem dX2_groupIn_20 : decode cX2_groupIn 20 = .ok (.goto 4, 3) := by decide +kernel
theorem dX2_groupIn_23 : decode cX2_groupIn 23 = .ok (.iconst (-1), 1) := by decide +kernel
theorem dX2_groupIn_24 : decode cX2_groupIn 24 = .ok (.ireturn, 1) := by decide +kernel
theorem dX2_wouldLeave_0 : decode cX2_wouldLeave 0 = .ok (.aload_n 0, 1) := by decide +kernel
theorem dX2_wouldLeave_1 : decode cX2_wouldLeave 1 = .ok (.iload_n 2, 1) := by decide +kernel
theorem dX2_wouldLeave_2 : decode cX2_wouldLeave 2 = .ok (.invokevirtual 35, 3) := by decide +kernel
theorem dX2_wouldLeave_5 : decode cX2_wouldLeave 5 = .ok (.istore_n 3, 1) := by decide +kernel
theorem dX2_wouldLeave_6 : decode cX2_wouldLeave 6 = .ok (.iconst 0, 1) := by decide +kernel
theorem dX2_wouldLeave_7 : decode cX2_wouldLeave 7 = .ok (.istore 4, 2) := by decide +kernel
theorem dX2_wouldLeave_9 : decode cX2_wouldLeave 9 = .ok (.iload 4, 2) := by decide +kernel
theorem dX2_wouldLeave_11 : decode cX2_wouldLeave 11 = .ok (.aload_n 0, 1) := by decide +kernel
theorem dX2_wouldLeave_12 : decode cX2_wouldLeave 12 = .ok (.invokevirtual 18, 3) := by decide +kernel
theorem dX2_wouldLeave_15 : decode cX2_wouldLeave 15 = .ok (.if_icmp .ge 50, 3) := by decide +kernel
theorem dX2_wouldLeave_18 : decode cX2_wouldLeave 18 = .ok (.iload_n 2, 1) := by decide +kernel
theorem dX2_wouldLeave_19 : decode cX2_wouldLeave 19 = .ok (.iload 4, 2) := by decide +kernel
theorem dX2_wouldLeave_21 : decode cX2_wouldLeave 21 = .ok (.ishr, 1) := by decide +kernel
theorem dX2_wouldLeave_22 : decode cX2_wouldLeave 22 = .ok (.iconst 1, 1) := by decide +kernel
theorem dX2_wouldLeave_23 : decode cX2_wouldLeave 23 = .ok (.iand, 1) := by decide +kernel
theorem dX2_wouldLeave_24 : decode cX2_wouldLeave 24 = .ok (.iconst 1, 1) := by decide +kernel
theorem dX2_wouldLeave_25 : decode cX2_wouldLeave 25 = .ok (.if_icmp .ne 7, 3) := by decide +kernel
theorem dX2_wouldLeave_28 : decode cX2_wouldLeave 28 = .ok (.iconst 1, 1) := by decide +kernel
theorem dX2_wouldLeave_29 : decode cX2_wouldLeave 29 = .ok (.goto 4, 3) := by decide +kernel
theorem dX2_wouldLeave_32 : decode cX2_wouldLeave 32 = .ok (.iconst 0, 1) := by decide +kernel
theorem dX2_wouldLeave_33 : decode cX2_wouldLeave 33 = .ok (.istore 5, 2) := by decide +kernel
theorem dX2_wouldLeave_35 : decode cX2_wouldLeave 35 = .ok (.iload 5, 2) := by decide +kernel
theorem dX2_wouldLeave_37 : decode cX2_wouldLeave 37 = .ok (.ifCond .eq 22, 3) := by decide +kernel
theorem dX2_wouldLeave_40 : decode cX2_wouldLeave 40 = .ok (.aload_n 0, 1) := by decide +kernel
theorem dX2_wouldLeave_41 : decode cX2_wouldLeave 41 = .ok (.iload_n 3, 1) := by decide +kernel
theorem dX2_wouldLeave_42 : decode cX2_wouldLeave 42 = .ok (.iload 4, 2) := by decide +kernel
theorem dX2_wouldLeave_44 : decode cX2_wouldLeave 44 = .ok (.invokevirtual 39, 3) := by decide +kernel
theorem dX2_wouldLeave_47 : decode cX2_wouldLeave 47 = .ok (.aload_n 0, 1) := by decide +kernel
theorem dX2_wouldLeave_48 : decode cX2_wouldLeave 48 = .ok (.iload_n 1, 1) := by decide +kernel
theorem dX2_wouldLeave_49 : decode cX2_wouldLeave 49 = .ok (.iload 4, 2) := by decide +kernel
theorem dX2_wouldLeave_51 : decode cX2_wouldLeave 51 = .ok (.invokevirtual 39, 3) := by decide +kernel
theorem dX2_wouldLeave_54 : decode cX2_wouldLeave 54 = .ok (.if_icmp .lt 5, 3) := by decide +kernel
theorem dX2_wouldLeave_57 : decode cX2_wouldLeave 57 = .ok (.iconst 0, 1) := by decide +kernel
theorem dX2_wouldLeave_58 : decode cX2_wouldLeave 58 = .ok (.ireturn, 1) := by decide +kernel
theorem dX2_wouldLeave_59 : decode cX2_wouldLeave 59 = .ok (.iinc 4 1, 3) := by decide +kernel
theorem dX2_wouldLeave_62 : decode cX2_wouldLeave 62 = .ok (.goto (-53), 3) := by decide +kernel
theorem dX2_wouldLeave_65 : decode cX2_wouldLeave 65 = .ok (.iconst 1, 1) := by decide +kernel
theorem dX2_wouldLeave_66 : decode cX2_wouldLeave 66 = .ok (.ireturn, 1) := by decide +kernel
theorem dX2_rowWithout_0 : decode cX2_rowWithout 0 = .ok (.aload_n 0, 1) := by decide +kernel
theorem dX2_rowWithout_1 : decode cX2_rowWithout 1 = .ok (.getfield 15, 3) := by decide +kernel
theorem dX2_rowWithout_4 : decode cX2_rowWithout 4 = .ok (.iconst (-1), 1) := by decide +kernel
theorem dX2_rowWithout_5 : decode cX2_rowWithout 5 = .ok (.invokestatic 43, 3) := by decide +kernel
theorem dX2_rowWithout_8 : decode cX2_rowWithout 8 = .ok (.iconst 0, 1) := by decide +kernel
theorem dX2_rowWithout_9 : decode cX2_rowWithout 9 = .ok (.istore_n 2, 1) := by decide +kernel
theorem dX2_rowWithout_10 : decode cX2_rowWithout 10 = .ok (.iconst 0, 1) := by decide +kernel
theorem dX2_rowWithout_11 : decode cX2_rowWithout 11 = .ok (.istore_n 3, 1) := by decide +kernel
theorem dX2_rowWithout_12 : decode cX2_rowWithout 12 = .ok (.iconst 0, 1) := by decide +kernel
theorem dX2_rowWithout_13 : decode cX2_rowWithout 13 = .ok (.istore 4, 2) := by decide +kernel
theorem dX2_rowWithout_15 : decode cX2_rowWithout 15 = .ok (.iload 4, 2) := by decide +kernel
theorem dX2_rowWithout_17 : decode cX2_rowWithout 17 = .ok (.aload_n 0, 1) := by decide +kernel
theorem dX2_rowWithout_18 : decode cX2_rowWithout 18 = .ok (.invokevirtual 18, 3) := by decide +kernel
theorem dX2_rowWithout_21 : decode cX2_rowWithout 21 = .ok (.if_icmp .ge 69, 3) := by decide +kernel
theorem dX2_rowWithout_24 : decode cX2_rowWithout 24 = .ok (.iload_n 1, 1) := by decide +kernel
theorem dX2_rowWithout_25 : decode cX2_rowWithout 25 = .ok (.iload 4, 2) := by decide +kernel
theorem dX2_rowWithout_27 : decode cX2_rowWithout 27 = .ok (.ishr, 1) := by decide +kernel
theorem dX2_rowWithout_28 : decode cX2_rowWithout 28 = .ok (.iconst 1, 1) := by decide +kernel
theorem dX2_rowWithout_29 : decode cX2_rowWithout 29 = .ok (.iand, 1) := by decide +kernel
theorem dX2_rowWithout_30 : decode cX2_rowWithout 30 = .ok (.iconst 1, 1) := by decide +kernel
theorem dX2_rowWithout_31 : decode cX2_rowWithout 31 = .ok (.if_icmp .ne 7, 3) := by decide +kernel
theorem dX2_rowWithout_34 : decode cX2_rowWithout 34 = .ok (.iconst 5, 1) := by decide +kernel
theorem dX2_rowWithout_35 : decode cX2_rowWithout 35 = .ok (.goto 10, 3) := by decide +kernel
theorem dX2_rowWithout_38 : decode cX2_rowWithout 38 = .ok (.aload_n 0, 1) := by decide +kernel
theorem dX2_rowWithout_39 : decode cX2_rowWithout 39 = .ok (.getfield 11, 3) := by decide +kernel
theorem dX2_rowWithout_42 : decode cX2_rowWithout 42 = .ok (.iload 4, 2) := by decide +kernel
theorem dX2_rowWithout_44 : decode cX2_rowWithout 44 = .ok (.iaload, 1) := by decide +kernel
theorem dX2_rowWithout_45 : decode cX2_rowWithout 45 = .ok (.istore 5, 2) := by decide +kernel
theorem dX2_rowWithout_47 : decode cX2_rowWithout 47 = .ok (.aload_n 0, 1) := by decide +kernel
theorem dX2_rowWithout_48 : decode cX2_rowWithout 48 = .ok (.getfield 15, 3) := by decide +kernel
theorem dX2_rowWithout_51 : decode cX2_rowWithout 51 = .ok (.iload 5, 2) := by decide +kernel
theorem dX2_rowWithout_53 : decode cX2_rowWithout 53 = .ok (.iaload, 1) := by decide +kernel
theorem dX2_rowWithout_54 : decode cX2_rowWithout 54 = .ok (.iconst (-1), 1) := by decide +kernel
theorem dX2_rowWithout_55 : decode cX2_rowWithout 55 = .ok (.if_icmp .ne 14, 3) := by decide +kernel
theorem dX2_rowWithout_58 : decode cX2_rowWithout 58 = .ok (.aload_n 0, 1) := by decide +kernel
theorem dX2_rowWithout_59 : decode cX2_rowWithout 59 = .ok (.getfield 15, 3) := by decide +kernel
theorem dX2_rowWithout_62 : decode cX2_rowWithout 62 = .ok (.iload 5, 2) := by decide +kernel
theorem dX2_rowWithout_64 : decode cX2_rowWithout 64 = .ok (.iload_n 3, 1) := by decide +kernel
theorem dX2_rowWithout_65 : decode cX2_rowWithout 65 = .ok (.iastore, 1) := by decide +kernel
theorem dX2_rowWithout_66 : decode cX2_rowWithout 66 = .ok (.iinc 3 1, 3) := by decide +kernel
theorem dX2_rowWithout_69 : decode cX2_rowWithout 69 = .ok (.iload_n 2, 1) := by decide +kernel
theorem dX2_rowWithout_70 : decode cX2_rowWithout 70 = .ok (.iload 4, 2) := by decide +kernel
theorem dX2_rowWithout_72 : decode cX2_rowWithout 72 = .ok (.iconst 1, 1) := by decide +kernel
theorem dX2_rowWithout_73 : decode cX2_rowWithout 73 = .ok (.iadd, 1) := by decide +kernel
theorem dX2_rowWithout_74 : decode cX2_rowWithout 74 = .ok (.imul, 1) := by decide +kernel
theorem dX2_rowWithout_75 : decode cX2_rowWithout 75 = .ok (.aload_n 0, 1) := by decide +kernel
theorem dX2_rowWithout_76 : decode cX2_rowWithout 76 = .ok (.getfield 15, 3) := by decide +kernel
theorem dX2_rowWithout_79 : decode cX2_rowWithout 79 = .ok (.iload 5, 2) := by decide +kernel
theorem dX2_rowWithout_81 : decode cX2_rowWithout 81 = .ok (.iaload, 1) := by decide +kernel
theorem dX2_rowWithout_82 : decode cX2_rowWithout 82 = .ok (.iadd, 1) := by decide +kernel
theorem dX2_rowWithout_83 : decode cX2_rowWithout 83 = .ok (.istore_n 2, 1) := by decide +kernel
theorem dX2_rowWithout_84 : decode cX2_rowWithout 84 = .ok (.iinc 4 1, 3) := by decide +kernel
theorem dX2_rowWithout_87 : decode cX2_rowWithout 87 = .ok (.goto (-72), 3) := by decide +kernel
theorem dX2_rowWithout_90 : decode cX2_rowWithout 90 = .ok (.iload_n 2, 1) := by decide +kernel
theorem dX2_rowWithout_91 : decode cX2_rowWithout 91 = .ok (.ireturn, 1) := by decide +kernel
theorem dX2_split_0 : decode cX2_split 0 = .ok (.iload_n 1, 1) := by decide +kernel
theorem dX2_split_1 : decode cX2_split 1 = .ok (.istore_n 2, 1) := by decide +kernel
theorem dX2_split_2 : decode cX2_split 2 = .ok (.aload_n 0, 1) := by decide +kernel
theorem dX2_split_3 : decode cX2_split 3 = .ok (.invokevirtual 18, 3) := by decide +kernel
theorem dX2_split_6 : decode cX2_split 6 = .ok (.iconst 1, 1) := by decide +kernel
theorem dX2_split_7 : decode cX2_split 7 = .ok (.isub, 1) := by decide +kernel
theorem dX2_split_8 : decode cX2_split 8 = .ok (.istore_n 3, 1) := by decide +kernel
theorem dX2_split_9 : decode cX2_split 9 = .ok (.iload_n 3, 1) := by decide +kernel
theorem dX2_split_10 : decode cX2_split 10 = .ok (.ifCond .lt 26, 3) := by decide +kernel
theorem dX2_split_13 : decode cX2_split 13 = .ok (.aload_n 0, 1) := by decide +kernel
theorem dX2_split_14 : decode cX2_split 14 = .ok (.getfield 11, 3) := by decide +kernel
theorem dX2_split_17 : decode cX2_split 17 = .ok (.iload_n 3, 1) := by decide +kernel
theorem dX2_split_18 : decode cX2_split 18 = .ok (.iload_n 2, 1) := by decide +kernel
theorem dX2_split_19 : decode cX2_split 19 = .ok (.iload_n 3, 1) := by decide +kernel
theorem dX2_split_20 : decode cX2_split 20 = .ok (.iconst 1, 1) := by decide +kernel
theorem dX2_split_21 : decode cX2_split 21 = .ok (.iadd, 1) := by decide +kernel
theorem dX2_split_22 : decode cX2_split 22 = .ok (.irem, 1) := by decide +kernel
theorem dX2_split_23 : decode cX2_split 23 = .ok (.iastore, 1) := by decide +kernel
theorem dX2_split_24 : decode cX2_split 24 = .ok (.iload_n 2, 1) := by decide +kernel
theorem dX2_split_25 : decode cX2_split 25 = .ok (.iload_n 3, 1) := by decide +kernel
theorem dX2_split_26 : decode cX2_split 26 = .ok (.iconst 1, 1) := by decide +kernel
theorem dX2_split_27 : decode cX2_split 27 = .ok (.iadd, 1) := by decide +kernel
theorem dX2_split_28 : decode cX2_split 28 = .ok (.idiv, 1) := by decide +kernel
theorem dX2_split_29 : decode cX2_split 29 = .ok (.istore_n 2, 1) := by decide +kernel
theorem dX2_split_30 : decode cX2_split 30 = .ok (.iinc 3 (-1), 3) := by decide +kernel
theorem dX2_split_33 : decode cX2_split 33 = .ok (.goto (-24), 3) := by decide +kernel
theorem dX2_split_36 : decode cX2_split 36 = .ok (.return_, 1) := by decide +kernel
theorem dX3_init_0 : decode cX3_init 0 = .ok (.aload_n 0, 1) := by decide +kernel
theorem dX3_init_1 : decode cX3_init 1 = .ok (.invokespecial 5, 3) := by decide +kernel
theorem dX3_init_4 : decode cX3_init 4 = .ok (.aload_n 0, 1) := by decide +kernel
theorem dX3_init_5 : decode cX3_init 5 = .ok (.sipush 1000, 3) := by decide +kernel
theorem dX3_init_8 : decode cX3_init 8 = .ok (.newarray .int, 2) := by decide +kernel
theorem dX3_init_10 : decode cX3_init 10 = .ok (.putfield 13, 3) := by decide +kernel
theorem dX3_init_13 : decode cX3_init 13 = .ok (.aload_n 0, 1) := by decide +kernel
theorem dX3_init_14 : decode cX3_init 14 = .ok (.sipush 1000, 3) := by decide +kernel
theorem dX3_init_17 : decode cX3_init 17 = .ok (.newarray .int, 2) := by decide +kernel
theorem dX3_init_19 : decode cX3_init 19 = .ok (.putfield 17, 3) := by decide +kernel
theorem dX3_init_22 : decode cX3_init 22 = .ok (.aload_n 0, 1) := by decide +kernel
theorem dX3_init_23 : decode cX3_init 23 = .ok (.sipush 1000, 3) := by decide +kernel
theorem dX3_init_26 : decode cX3_init 26 = .ok (.newarray .int, 2) := by decide +kernel
theorem dX3_init_28 : decode cX3_init 28 = .ok (.putfield 20, 3) := by decide +kernel
theorem dX3_init_31 : decode cX3_init 31 = .ok (.aload_n 0, 1) := by decide +kernel
theorem dX3_init_32 : decode cX3_init 32 = .ok (.sipush 1000, 3) := by decide +kernel
theorem dX3_init_35 : decode cX3_init 35 = .ok (.newarray .int, 2) := by decide +kernel
theorem dX3_init_37 : decode cX3_init 37 = .ok (.putfield 23, 3) := by decide +kernel
theorem dX3_init_40 : decode cX3_init 40 = .ok (.return_, 1) := by decide +kernel
theorem dX3_clear_0 : decode cX3_clear 0 = .ok (.aload_n 0, 1) := by decide +kernel
theorem dX3_clear_1 : decode cX3_clear 1 = .ok (.iconst 0, 1) := by decide +kernel
theorem dX3_clear_2 : decode cX3_clear 2 = .ok (.putfield 26, 3) := by decide +kernel
theorem dX3_clear_5 : decode cX3_clear 5 = .ok (.return_, 1) := by decide +kernel
theorem dX3_addNumber_0 : decode cX3_addNumber 0 = .ok (.aload_n 0, 1) := by decide +kernel
theorem dX3_addNumber_1 : decode cX3_addNumber 1 = .ok (.iconst 0, 1) := by decide +kernel
theorem dX3_addNumber_2 : decode cX3_addNumber 2 = .ok (.iload_n 1, 1) := by decide +kernel
theorem dX3_addNumber_3 : decode cX3_addNumber 3 = .ok (.iconst 0, 1) := by decide +kernel
theorem dX3_addNumber_4 : decode cX3_addNumber 4 = .ok (.invokevirtual 30, 3) := by decide +kernel
theorem dX3_addNumber_7 : decode cX3_addNumber 7 = .ok (.ireturn, 1) := by decide +kernel
theorem dX3_addFact_0 : decode cX3_addFact 0 = .ok (.iload_n 1, 1) := by decide +kernel
theorem dX3_addFact_1 : decode cX3_addFact 1 = .ok (.ifCond .lt 19, 3) := by decide +kernel
theorem dX3_addFact_4 : decode cX3_addFact 4 = .ok (.iload_n 1, 1) := by decide +kernel
theorem dX3_addFact_5 : decode cX3_addFact 5 = .ok (.bipush 6, 2) := by decide +kernel
theorem dX3_addFact_7 : decode cX3_addFact 7 = .ok (.if_icmp .ge 13, 3) := by decide +kernel
theorem dX3_addFact_10 : decode cX3_addFact 10 = .ok (.aload_n 0, 1) := by decide +kernel
theorem dX3_addFact_11 : decode cX3_addFact 11 = .ok (.iconst 1, 1) := by decide +kernel
theorem dX3_addFact_12 : decode cX3_addFact 12 = .ok (.iload_n 1, 1) := by decide +kernel
theorem dX3_addFact_13 : decode cX3_addFact 13 = .ok (.iconst 0, 1) := by decide +kernel
theorem dX3_addFact_14 : decode cX3_addFact 14 = .ok (.invokevirtual 30, 3) := by decide +kernel
theorem dX3_addFact_17 : decode cX3_addFact 17 = .ok (.goto 4, 3) := by decide +kernel
theorem dX3_addFact_20 : decode cX3_addFact 20 = .ok (.iconst (-1), 1) := by decide +kernel
theorem dX3_addFact_21 : decode cX3_addFact 21 = .ok (.ireturn, 1) := by decide +kernel
theorem dX3_join_0 : decode cX3_join 0 = .ok (.iload_n 2, 1) := by decide +kernel
theorem dX3_join_1 : decode cX3_join 1 = .ok (.ifCond .lt 27, 3) := by decide +kernel
theorem dX3_join_4 : decode cX3_join 4 = .ok (.iload_n 2, 1) := by decide +kernel
theorem dX3_join_5 : decode cX3_join 5 = .ok (.aload_n 0, 1) := by decide +kernel
theorem dX3_join_6 : decode cX3_join 6 = .ok (.getfield 26, 3) := by decide +kernel
theorem dX3_join_9 : decode cX3_join 9 = .ok (.if_icmp .ge 19, 3) := by decide +kernel
theorem dX3_join_12 : decode cX3_join 12 = .ok (.iload_n 3, 1) := by decide +kernel
theorem dX3_join_13 : decode cX3_join 13 = .ok (.ifCond .lt 15, 3) := by decide +kernel
theorem dX3_join_16 : decode cX3_join 16 = .ok (.iload_n 3, 1) := by decide +kernel
theorem dX3_join_17 : decode cX3_join 17 = .ok (.aload_n 0, 1) := by decide +kernel
theorem dX3_join_18 : decode cX3_join 18 = .ok (.getfield 26, 3) := by decide +kernel
theorem dX3_join_21 : decode cX3_join 21 = .ok (.if_icmp .ge 7, 3) := by decide +kernel
theorem dX3_join_24 : decode cX3_join 24 = .ok (.iconst 1, 1) := by decide +kernel
theorem dX3_join_25 : decode cX3_join 25 = .ok (.goto 4, 3) := by decide +kernel
theorem dX3_join_28 : decode cX3_join 28 = .ok (.iconst 0, 1) := by decide +kernel
theorem dX3_join_29 : decode cX3_join 29 = .ok (.istore 4, 2) := by decide +kernel
theorem dX3_join_31 : decode cX3_join 31 = .ok (.iload 4, 2) := by decide +kernel
theorem dX3_join_33 : decode cX3_join 33 = .ok (.ifCond .eq 13, 3) := by decide +kernel
theorem dX3_join_36 : decode cX3_join 36 = .ok (.aload_n 0, 1) := by decide +kernel
theorem dX3_join_37 : decode cX3_join 37 = .ok (.iload_n 1, 1) := by decide +kernel
theorem dX3_join_38 : decode cX3_join 38 = .ok (.iload_n 2, 1) := by decide +kernel
theorem dX3_join_39 : decode cX3_join 39 = .ok (.iload_n 3, 1) := by decide +kernel
theorem dX3_join_40 : decode cX3_join 40 = .ok (.invokevirtual 30, 3) := by decide +kernel
theorem dX3_join_43 : decode cX3_join 43 = .ok (.goto 4, 3) := by decide +kernel
theorem dX3_join_46 : decode cX3_join 46 = .ok (.iconst (-1), 1) := by decide +kernel
theorem dX3_join_47 : decode cX3_join 47 = .ok (.ireturn, 1) := by decide +kernel
theorem dX3_add_0 : decode cX3_add 0 = .ok (.aload_n 0, 1) := by decide +kernel
theorem dX3_add_1 : decode cX3_add 1 = .ok (.getfield 26, 3) := by decide +kernel
theorem dX3_add_4 : decode cX3_add 4 = .ok (.sipush 1000, 3) := by decide +kernel
theorem dX3_add_7 : decode cX3_add 7 = .ok (.if_icmp .lt 5, 3) := by decide +kernel
theorem dX3_add_10 : decode cX3_add 10 = .ok (.iconst (-1), 1) := by decide +kernel
theorem dX3_add_11 : decode cX3_add 11 = .ok (.ireturn, 1) := by decide +kernel
theorem dX3_add_12 : decode cX3_add 12 = .ok (.aload_n 0, 1) := by decide +kernel
theorem dX3_add_13 : decode cX3_add 13 = .ok (.getfield 13, 3) := by decide +kernel
theorem dX3_add_16 : decode cX3_add 16 = .ok (.aload_n 0, 1) := by decide +kernel
theorem dX3_add_17 : decode cX3_add 17 = .ok (.getfield 26, 3) := by decide +kernel
theorem dX3_add_20 : decode cX3_add 20 = .ok (.iload_n 1, 1) := by decide +kernel
theorem dX3_add_21 : decode cX3_add 21 = .ok (.iastore, 1) := by decide +kernel
theorem dX3_add_22 : decode cX3_add 22 = .ok (.aload_n 0, 1) := by decide +kernel
theorem dX3_add_23 : decode cX3_add 23 = .ok (.getfield 17, 3) := by decide +kernel
theorem dX3_add_26 : decode cX3_add 26 = .ok (.aload_n 0, 1) := by decide +kernel
theorem dX3_add_27 : decode cX3_add 27 = .ok (.getfield 26, 3) := by decide +kernel
theorem dX3_add_30 : decode cX3_add 30 = .ok (.iload_n 2, 1) := by decide +kernel
theorem dX3_add_31 : decode cX3_add 31 = .ok (.iastore, 1) := by decide +kernel
theorem dX3_add_32 : decode cX3_add 32 = .ok (.aload_n 0, 1) := by decide +kernel
theorem dX3_add_33 : decode cX3_add 33 = .ok (.getfield 20, 3) := by decide +kernel
theorem dX3_add_36 : decode cX3_add 36 = .ok (.aload_n 0, 1) := by decide +kernel
theorem dX3_add_37 : decode cX3_add 37 = .ok (.getfield 26, 3) := by decide +kernel
theorem dX3_add_40 : decode cX3_add 40 = .ok (.iload_n 3, 1) := by decide +kernel
theorem dX3_add_41 : decode cX3_add 41 = .ok (.iastore, 1) := by decide +kernel
theorem dX3_add_42 : decode cX3_add 42 = .ok (.aload_n 0, 1) := by decide +kernel
theorem dX3_add_43 : decode cX3_add 43 = .ok (.dup, 1) := by decide +kernel
theorem dX3_add_44 : decode cX3_add 44 = .ok (.getfield 26, 3) := by decide +kernel
theorem dX3_add_47 : decode cX3_add 47 = .ok (.iconst 1, 1) := by decide +kernel
theorem dX3_add_48 : decode cX3_add 48 = .ok (.iadd, 1) := by decide +kernel
theorem dX3_add_49 : decode cX3_add 49 = .ok (.putfield 26, 3) := by decide +kernel
theorem dX3_add_52 : decode cX3_add 52 = .ok (.aload_n 0, 1) := by decide +kernel
theorem dX3_add_53 : decode cX3_add 53 = .ok (.getfield 26, 3) := by decide +kernel
theorem dX3_add_56 : decode cX3_add 56 = .ok (.iconst 1, 1) := by decide +kernel
theorem dX3_add_57 : decode cX3_add 57 = .ok (.isub, 1) := by decide +kernel
theorem dX3_add_58 : decode cX3_add 58 = .ok (.ireturn, 1) := by decide +kernel
theorem dX3_worth_0 : decode cX3_worth 0 = .ok (.iconst 0, 1) := by decide +kernel
theorem dX3_worth_1 : decode cX3_worth 1 = .ok (.istore_n 2, 1) := by decide +kernel
theorem dX3_worth_2 : decode cX3_worth 2 = .ok (.iconst 0, 1) := by decide +kernel
theorem dX3_worth_3 : decode cX3_worth 3 = .ok (.istore_n 3, 1) := by decide +kernel
theorem dX3_worth_4 : decode cX3_worth 4 = .ok (.iload_n 3, 1) := by decide +kernel
theorem dX3_worth_5 : decode cX3_worth 5 = .ok (.aload_n 0, 1) := by decide +kernel
theorem dX3_worth_6 : decode cX3_worth 6 = .ok (.getfield 26, 3) := by decide +kernel
theorem dX3_worth_9 : decode cX3_worth 9 = .ok (.if_icmp .ge 296, 3) := by decide +kernel
theorem dX3_worth_12 : decode cX3_worth 12 = .ok (.aload_n 0, 1) := by decide +kernel
theorem dX3_worth_13 : decode cX3_worth 13 = .ok (.getfield 17, 3) := by decide +kernel
theorem dX3_worth_16 : decode cX3_worth 16 = .ok (.iload_n 3, 1) := by decide +kernel
theorem dX3_worth_17 : decode cX3_worth 17 = .ok (.iaload, 1) := by decide +kernel
theorem dX3_worth_18 : decode cX3_worth 18 = .ok (.istore 4, 2) := by decide +kernel
theorem dX3_worth_20 : decode cX3_worth 20 = .ok (.aload_n 0, 1) := by decide +kernel
theorem dX3_worth_21 : decode cX3_worth 21 = .ok (.getfield 20, 3) := by decide +kernel
theorem dX3_worth_24 : decode cX3_worth 24 = .ok (.iload_n 3, 1) := by decide +kernel
theorem dX3_worth_25 : decode cX3_worth 25 = .ok (.iaload, 1) := by decide +kernel
theorem dX3_worth_26 : decode cX3_worth 26 = .ok (.istore 5, 2) := by decide +kernel
theorem dX3_worth_28 : decode cX3_worth 28 = .ok (.aload_n 0, 1) := by decide +kernel
theorem dX3_worth_29 : decode cX3_worth 29 = .ok (.getfield 13, 3) := by decide +kernel
theorem dX3_worth_32 : decode cX3_worth 32 = .ok (.iload_n 3, 1) := by decide +kernel
theorem dX3_worth_33 : decode cX3_worth 33 = .ok (.iaload, 1) := by decide +kernel
theorem dX3_worth_34 : decode cX3_worth 34 = .ok (.tableswitch 242 0 8 #[50, 56, 75, 94, 123, 152, 178, 204, 223], 50) := by decide +kernel
theorem dX3_worth_84 : decode cX3_worth 84 = .ok (.iload 4, 2) := by decide +kernel
theorem dX3_worth_86 : decode cX3_worth 86 = .ok (.istore_n 2, 1) := by decide +kernel
theorem dX3_worth_87 : decode cX3_worth 87 = .ok (.goto 205, 3) := by decide +kernel
theorem dX3_worth_90 : decode cX3_worth 90 = .ok (.iload 4, 2) := by decide +kernel
theorem dX3_worth_92 : decode cX3_worth 92 = .ok (.aload_n 1, 1) := by decide +kernel
theorem dX3_worth_93 : decode cX3_worth 93 = .ok (.arraylength, 1) := by decide +kernel
theorem dX3_worth_94 : decode cX3_worth 94 = .ok (.if_icmp .ge 10, 3) := by decide +kernel
theorem dX3_worth_97 : decode cX3_worth 97 = .ok (.aload_n 1, 1) := by decide +kernel
theorem dX3_worth_98 : decode cX3_worth 98 = .ok (.iload 4, 2) := by decide +kernel
theorem dX3_worth_100 : decode cX3_worth 100 = .ok (.iaload, 1) := by decide +kernel
theorem dX3_worth_101 : decode cX3_worth 101 = .ok (.goto 4, 3) := by decide +kernel
theorem dX3_worth_104 : decode cX3_worth 104 = .ok (.iconst 0, 1) := by decide +kernel
theorem dX3_worth_105 : decode cX3_worth 105 = .ok (.istore_n 2, 1) := by decide +kernel
theorem dX3_worth_106 : decode cX3_worth 106 = .ok (.goto 186, 3) := by decide +kernel
theorem dX3_worth_109 : decode cX3_worth 109 = .ok (.aload_n 0, 1) := by decide +kernel
theorem dX3_worth_110 : decode cX3_worth 110 = .ok (.getfield 23, 3) := by decide +kernel
theorem dX3_worth_113 : decode cX3_worth 113 = .ok (.iload 4, 2) := by decide +kernel
theorem dX3_worth_115 : decode cX3_worth 115 = .ok (.iaload, 1) := by decide +kernel
theorem dX3_worth_116 : decode cX3_worth 116 = .ok (.ifCond .ne 7, 3) := by decide +kernel
theorem dX3_worth_119 : decode cX3_worth 119 = .ok (.iconst 1, 1) := by decide +kernel
theorem dX3_worth_120 : decode cX3_worth 120 = .ok (.goto 4, 3) := by decide +kernel
theorem dX3_worth_123 : decode cX3_worth 123 = .ok (.iconst 0, 1) := by decide +kernel
theorem dX3_worth_124 : decode cX3_worth 124 = .ok (.istore_n 2, 1) := by decide +kernel
theorem dX3_worth_125 : decode cX3_worth 125 = .ok (.goto 167, 3) := by decide +kernel
theorem dX3_worth_128 : decode cX3_worth 128 = .ok (.aload_n 0, 1) := by decide +kernel
theorem dX3_worth_129 : decode cX3_worth 129 = .ok (.getfield 23, 3) := by decide +kernel
theorem dX3_worth_132 : decode cX3_worth 132 = .ok (.iload 4, 2) := by decide +kernel
theorem dX3_worth_134 : decode cX3_worth 134 = .ok (.iaload, 1) := by decide +kernel
theorem dX3_worth_135 : decode cX3_worth 135 = .ok (.ifCond .eq 17, 3) := by decide +kernel
theorem dX3_worth_138 : decode cX3_worth 138 = .ok (.aload_n 0, 1) := by decide +kernel
theorem dX3_worth_139 : decode cX3_worth 139 = .ok (.getfield 23, 3) := by decide +kernel
theorem dX3_worth_142 : decode cX3_worth 142 = .ok (.iload 5, 2) := by decide +kernel
theorem dX3_worth_144 : decode cX3_worth 144 = .ok (.iaload, 1) := by decide +kernel
theorem dX3_worth_145 : decode cX3_worth 145 = .ok (.ifCond .eq 7, 3) := by decide +kernel
theorem dX3_worth_148 : decode cX3_worth 148 = .ok (.iconst 1, 1) := by decide +kernel
theorem dX3_worth_149 : decode cX3_worth 149 = .ok (.goto 4, 3) := by decide +kernel
theorem dX3_worth_152 : decode cX3_worth 152 = .ok (.iconst 0, 1) := by decide +kernel
theorem dX3_worth_153 : decode cX3_worth 153 = .ok (.istore_n 2, 1) := by decide +kernel
theorem dX3_worth_154 : decode cX3_worth 154 = .ok (.goto 138, 3) := by decide +kernel
theorem dX3_worth_157 : decode cX3_worth 157 = .ok (.aload_n 0, 1) := by decide +kernel
theorem dX3_worth_158 : decode cX3_worth 158 = .ok (.getfield 23, 3) := by decide +kernel
theorem dX3_worth_161 : decode cX3_worth 161 = .ok (.iload 4, 2) := by decide +kernel
theorem dX3_worth_163 : decode cX3_worth 163 = .ok (.iaload, 1) := by decide +kernel
theorem dX3_worth_164 : decode cX3_worth 164 = .ok (.ifCond .ne 13, 3) := by decide +kernel
theorem dX3_worth_167 : decode cX3_worth 167 = .ok (.aload_n 0, 1) := by decide +kernel
theorem dX3_worth_168 : decode cX3_worth 168 = .ok (.getfield 23, 3) := by decide +kernel
theorem dX3_worth_171 : decode cX3_worth 171 = .ok (.iload 5, 2) := by decide +kernel
theorem dX3_worth_173 : decode cX3_worth 173 = .ok (.iaload, 1) := by decide +kernel
theorem dX3_worth_174 : decode cX3_worth 174 = .ok (.ifCond .eq 7, 3) := by decide +kernel
theorem dX3_worth_177 : decode cX3_worth 177 = .ok (.iconst 1, 1) := by decide +kernel
theorem dX3_worth_178 : decode cX3_worth 178 = .ok (.goto 4, 3) := by decide +kernel
theorem dX3_worth_181 : decode cX3_worth 181 = .ok (.iconst 0, 1) := by decide +kernel
theorem dX3_worth_182 : decode cX3_worth 182 = .ok (.istore_n 2, 1) := by decide +kernel
theorem dX3_worth_183 : decode cX3_worth 183 = .ok (.goto 109, 3) := by decide +kernel
theorem dX3_worth_186 : decode cX3_worth 186 = .ok (.aload_n 0, 1) := by decide +kernel
theorem dX3_worth_187 : decode cX3_worth 187 = .ok (.getfield 23, 3) := by decide +kernel
theorem dX3_worth_190 : decode cX3_worth 190 = .ok (.iload 4, 2) := by decide +kernel
theorem dX3_worth_192 : decode cX3_worth 192 = .ok (.iaload, 1) := by decide +kernel
theorem dX3_worth_193 : decode cX3_worth 193 = .ok (.aload_n 0, 1) := by decide +kernel
theorem dX3_worth_194 : decode cX3_worth 194 = .ok (.getfield 23, 3) := by decide +kernel
theorem dX3_worth_197 : decode cX3_worth 197 = .ok (.iload 5, 2) := by decide +kernel
theorem dX3_worth_199 : decode cX3_worth 199 = .ok (.iaload, 1) := by decide +kernel
theorem dX3_worth_200 : decode cX3_worth 200 = .ok (.if_icmp .ge 7, 3) := by decide +kernel
theorem dX3_worth_203 : decode cX3_worth 203 = .ok (.iconst 1, 1) := by decide +kernel
theorem dX3_worth_204 : decode cX3_worth 204 = .ok (.goto 4, 3) := by decide +kernel
theorem dX3_worth_207 : decode cX3_worth 207 = .ok (.iconst 0, 1) := by decide +kernel
theorem dX3_worth_208 : decode cX3_worth 208 = .ok (.istore_n 2, 1) := by decide +kernel
theorem dX3_worth_209 : decode cX3_worth 209 = .ok (.goto 83, 3) := by decide +kernel
theorem dX3_worth_212 : decode cX3_worth 212 = .ok (.aload_n 0, 1) := by decide +kernel
theorem dX3_worth_213 : decode cX3_worth 213 = .ok (.getfield 23, 3) := by decide +kernel
theorem dX3_worth_216 : decode cX3_worth 216 = .ok (.iload 4, 2) := by decide +kernel
theorem dX3_worth_218 : decode cX3_worth 218 = .ok (.iaload, 1) := by decide +kernel
theorem dX3_worth_219 : decode cX3_worth 219 = .ok (.aload_n 0, 1) := by decide +kernel
theorem dX3_worth_220 : decode cX3_worth 220 = .ok (.getfield 23, 3) := by decide +kernel
theorem dX3_worth_223 : decode cX3_worth 223 = .ok (.iload 5, 2) := by decide +kernel
theorem dX3_worth_225 : decode cX3_worth 225 = .ok (.iaload, 1) := by decide +kernel
theorem dX3_worth_226 : decode cX3_worth 226 = .ok (.if_icmp .ne 7, 3) := by decide +kernel
theorem dX3_worth_229 : decode cX3_worth 229 = .ok (.iconst 1, 1) := by decide +kernel
theorem dX3_worth_230 : decode cX3_worth 230 = .ok (.goto 4, 3) := by decide +kernel
theorem dX3_worth_233 : decode cX3_worth 233 = .ok (.iconst 0, 1) := by decide +kernel
theorem dX3_worth_234 : decode cX3_worth 234 = .ok (.istore_n 2, 1) := by decide +kernel
theorem dX3_worth_235 : decode cX3_worth 235 = .ok (.goto 57, 3) := by decide +kernel
theorem dX3_worth_238 : decode cX3_worth 238 = .ok (.aload_n 0, 1) := by decide +kernel
theorem dX3_worth_239 : decode cX3_worth 239 = .ok (.getfield 23, 3) := by decide +kernel
theorem dX3_worth_242 : decode cX3_worth 242 = .ok (.iload 4, 2) := by decide +kernel
theorem dX3_worth_244 : decode cX3_worth 244 = .ok (.iaload, 1) := by decide +kernel
theorem dX3_worth_245 : decode cX3_worth 245 = .ok (.aload_n 0, 1) := by decide +kernel
theorem dX3_worth_246 : decode cX3_worth 246 = .ok (.getfield 23, 3) := by decide +kernel
theorem dX3_worth_249 : decode cX3_worth 249 = .ok (.iload 5, 2) := by decide +kernel
theorem dX3_worth_251 : decode cX3_worth 251 = .ok (.iaload, 1) := by decide +kernel
theorem dX3_worth_252 : decode cX3_worth 252 = .ok (.iadd, 1) := by decide +kernel
theorem dX3_worth_253 : decode cX3_worth 253 = .ok (.istore_n 2, 1) := by decide +kernel
theorem dX3_worth_254 : decode cX3_worth 254 = .ok (.goto 38, 3) := by decide +kernel
theorem dX3_worth_257 : decode cX3_worth 257 = .ok (.aload_n 0, 1) := by decide +kernel
theorem dX3_worth_258 : decode cX3_worth 258 = .ok (.getfield 23, 3) := by decide +kernel
theorem dX3_worth_261 : decode cX3_worth 261 = .ok (.iload 4, 2) := by decide +kernel
theorem dX3_worth_263 : decode cX3_worth 263 = .ok (.iaload, 1) := by decide +kernel
theorem dX3_worth_264 : decode cX3_worth 264 = .ok (.aload_n 0, 1) := by decide +kernel
theorem dX3_worth_265 : decode cX3_worth 265 = .ok (.getfield 23, 3) := by decide +kernel
theorem dX3_worth_268 : decode cX3_worth 268 = .ok (.iload 5, 2) := by decide +kernel
theorem dX3_worth_270 : decode cX3_worth 270 = .ok (.iaload, 1) := by decide +kernel
theorem dX3_worth_271 : decode cX3_worth 271 = .ok (.isub, 1) := by decide +kernel
theorem dX3_worth_272 : decode cX3_worth 272 = .ok (.istore_n 2, 1) := by decide +kernel
theorem dX3_worth_273 : decode cX3_worth 273 = .ok (.goto 19, 3) := by decide +kernel
theorem dX3_worth_276 : decode cX3_worth 276 = .ok (.aload_n 0, 1) := by decide +kernel
theorem dX3_worth_277 : decode cX3_worth 277 = .ok (.getfield 23, 3) := by decide +kernel
theorem dX3_worth_280 : decode cX3_worth 280 = .ok (.iload 4, 2) := by decide +kernel
theorem dX3_worth_282 : decode cX3_worth 282 = .ok (.iaload, 1) := by decide +kernel
theorem dX3_worth_283 : decode cX3_worth 283 = .ok (.aload_n 0, 1) := by decide +kernel
theorem dX3_worth_284 : decode cX3_worth 284 = .ok (.getfield 23, 3) := by decide +kernel
theorem dX3_worth_287 : decode cX3_worth 287 = .ok (.iload 5, 2) := by decide +kernel
theorem dX3_worth_289 : decode cX3_worth 289 = .ok (.iaload, 1) := by decide +kernel
theorem dX3_worth_290 : decode cX3_worth 290 = .ok (.imul, 1) := by decide +kernel
theorem dX3_worth_291 : decode cX3_worth 291 = .ok (.istore_n 2, 1) := by decide +kernel
theorem dX3_worth_292 : decode cX3_worth 292 = .ok (.aload_n 0, 1) := by decide +kernel
theorem dX3_worth_293 : decode cX3_worth 293 = .ok (.getfield 23, 3) := by decide +kernel
theorem dX3_worth_296 : decode cX3_worth 296 = .ok (.iload_n 3, 1) := by decide +kernel
theorem dX3_worth_297 : decode cX3_worth 297 = .ok (.iload_n 2, 1) := by decide +kernel
theorem dX3_worth_298 : decode cX3_worth 298 = .ok (.iastore, 1) := by decide +kernel
theorem dX3_worth_299 : decode cX3_worth 299 = .ok (.iinc 3 1, 3) := by decide +kernel
theorem dX3_worth_302 : decode cX3_worth 302 = .ok (.goto (-298), 3) := by decide +kernel
theorem dX3_worth_305 : decode cX3_worth 305 = .ok (.iload_n 2, 1) := by decide +kernel
theorem dX3_worth_306 : decode cX3_worth 306 = .ok (.ireturn, 1) := by decide +kernel
theorem dX4_init_0 : decode cX4_init 0 = .ok (.aload_n 0, 1) := by decide +kernel
theorem dX4_init_1 : decode cX4_init 1 = .ok (.invokespecial 1, 3) := by decide +kernel
theorem dX4_init_4 : decode cX4_init 4 = .ok (.aload_n 0, 1) := by decide +kernel
theorem dX4_init_5 : decode cX4_init 5 = .ok (.new 7, 3) := by decide +kernel
theorem dX4_init_8 : decode cX4_init 8 = .ok (.dup, 1) := by decide +kernel
theorem dX4_init_9 : decode cX4_init 9 = .ok (.aload_n 1, 1) := by decide +kernel
theorem dX4_init_10 : decode cX4_init 10 = .ok (.invokespecial 9, 3) := by decide +kernel
theorem dX4_init_13 : decode cX4_init 13 = .ok (.putfield 12, 3) := by decide +kernel
theorem dX4_init_16 : decode cX4_init 16 = .ok (.aload_n 0, 1) := by decide +kernel
theorem dX4_init_17 : decode cX4_init 17 = .ok (.new 18, 3) := by decide +kernel
theorem dX4_init_20 : decode cX4_init 20 = .ok (.dup, 1) := by decide +kernel
theorem dX4_init_21 : decode cX4_init 21 = .ok (.invokespecial 20, 3) := by decide +kernel
theorem dX4_init_24 : decode cX4_init 24 = .ok (.putfield 21, 3) := by decide +kernel
theorem dX4_init_27 : decode cX4_init 27 = .ok (.return_, 1) := by decide +kernel
theorem dX5_init_0 : decode cX5_init 0 = .ok (.aload_n 0, 1) := by decide +kernel
theorem dX5_init_1 : decode cX5_init 1 = .ok (.invokespecial 3, 3) := by decide +kernel
theorem dX5_init_4 : decode cX5_init 4 = .ok (.aload_n 0, 1) := by decide +kernel
theorem dX5_init_5 : decode cX5_init 5 = .ok (.bipush 6, 2) := by decide +kernel
theorem dX5_init_7 : decode cX5_init 7 = .ok (.newarray .long, 2) := by decide +kernel
theorem dX5_init_9 : decode cX5_init 9 = .ok (.putfield 9, 3) := by decide +kernel
theorem dX5_init_12 : decode cX5_init 12 = .ok (.aload_n 0, 1) := by decide +kernel
theorem dX5_init_13 : decode cX5_init 13 = .ok (.bipush 6, 2) := by decide +kernel
theorem dX5_init_15 : decode cX5_init 15 = .ok (.newarray .int, 2) := by decide +kernel
theorem dX5_init_17 : decode cX5_init 17 = .ok (.putfield 15, 3) := by decide +kernel
theorem dX5_init_20 : decode cX5_init 20 = .ok (.aload_n 0, 1) := by decide +kernel
theorem dX5_init_21 : decode cX5_init 21 = .ok (.bipush 6, 2) := by decide +kernel
theorem dX5_init_23 : decode cX5_init 23 = .ok (.newarray .int, 2) := by decide +kernel
theorem dX5_init_25 : decode cX5_init 25 = .ok (.putfield 19, 3) := by decide +kernel
theorem dX5_init_28 : decode cX5_init 28 = .ok (.aload_n 0, 1) := by decide +kernel
theorem dX5_init_29 : decode cX5_init 29 = .ok (.bipush 6, 2) := by decide +kernel
theorem dX5_init_31 : decode cX5_init 31 = .ok (.newarray .int, 2) := by decide +kernel
theorem dX5_init_33 : decode cX5_init 33 = .ok (.putfield 22, 3) := by decide +kernel
theorem dX5_init_36 : decode cX5_init 36 = .ok (.aload_n 0, 1) := by decide +kernel
theorem dX5_init_37 : decode cX5_init 37 = .ok (.bipush 6, 2) := by decide +kernel
theorem dX5_init_39 : decode cX5_init 39 = .ok (.newarray .int, 2) := by decide +kernel
theorem dX5_init_41 : decode cX5_init 41 = .ok (.putfield 25, 3) := by decide +kernel
theorem dX5_init_44 : decode cX5_init 44 = .ok (.aload_n 0, 1) := by decide +kernel
theorem dX5_init_45 : decode cX5_init 45 = .ok (.bipush 36, 2) := by decide +kernel
theorem dX5_init_47 : decode cX5_init 47 = .ok (.newarray .int, 2) := by decide +kernel
theorem dX5_init_49 : decode cX5_init 49 = .ok (.putfield 28, 3) := by decide +kernel
theorem dX5_init_52 : decode cX5_init 52 = .ok (.aload_n 0, 1) := by decide +kernel
theorem dX5_init_53 : decode cX5_init 53 = .ok (.bipush 6, 2) := by decide +kernel
theorem dX5_init_55 : decode cX5_init 55 = .ok (.newarray .int, 2) := by decide +kernel
theorem dX5_init_57 : decode cX5_init 57 = .ok (.putfield 31, 3) := by decide +kernel
theorem dX5_init_60 : decode cX5_init 60 = .ok (.aload_n 0, 1) := by decide +kernel
theorem dX5_init_61 : decode cX5_init 61 = .ok (.bipush 6, 2) := by decide +kernel
theorem dX5_init_63 : decode cX5_init 63 = .ok (.newarray .int, 2) := by decide +kernel
theorem dX5_init_65 : decode cX5_init 65 = .ok (.putfield 34, 3) := by decide +kernel
theorem dX5_init_68 : decode cX5_init 68 = .ok (.aload_n 0, 1) := by decide +kernel
theorem dX5_init_69 : decode cX5_init 69 = .ok (.bipush 24, 2) := by decide +kernel
theorem dX5_init_71 : decode cX5_init 71 = .ok (.newarray .int, 2) := by decide +kernel
theorem dX5_init_73 : decode cX5_init 73 = .ok (.putfield 37, 3) := by decide +kernel
theorem dX5_init_76 : decode cX5_init 76 = .ok (.aload_n 0, 1) := by decide +kernel
theorem dX5_init_77 : decode cX5_init 77 = .ok (.new 40, 3) := by decide +kernel
theorem dX5_init_80 : decode cX5_init 80 = .ok (.dup, 1) := by decide +kernel
theorem dX5_init_81 : decode cX5_init 81 = .ok (.invokespecial 42, 3) := by decide +kernel
theorem dX5_init_84 : decode cX5_init 84 = .ok (.putfield 43, 3) := by decide +kernel
theorem dX5_init_87 : decode cX5_init 87 = .ok (.aload_n 0, 1) := by decide +kernel
theorem dX5_init_88 : decode cX5_init 88 = .ok (.new 40, 3) := by decide +kernel
theorem dX5_init_91 : decode cX5_init 91 = .ok (.dup, 1) := by decide +kernel
theorem dX5_init_92 : decode cX5_init 92 = .ok (.invokespecial 42, 3) := by decide +kernel
theorem dX5_init_95 : decode cX5_init 95 = .ok (.putfield 47, 3) := by decide +kernel
theorem dX5_init_98 : decode cX5_init 98 = .ok (.return_, 1) := by decide +kernel
theorem dX5_clear_0 : decode cX5_clear 0 = .ok (.aload_n 0, 1) := by decide +kernel
theorem dX5_clear_1 : decode cX5_clear 1 = .ok (.iconst 0, 1) := by decide +kernel
theorem dX5_clear_2 : decode cX5_clear 2 = .ok (.putfield 50, 3) := by decide +kernel
theorem dX5_clear_5 : decode cX5_clear 5 = .ok (.aload_n 0, 1) := by decide +kernel
theorem dX5_clear_6 : decode cX5_clear 6 = .ok (.iconst 0, 1) := by decide +kernel
theorem dX5_clear_7 : decode cX5_clear 7 = .ok (.putfield 54, 3) := by decide +kernel
theorem dX5_clear_10 : decode cX5_clear 10 = .ok (.aload_n 0, 1) := by decide +kernel
theorem dX5_clear_11 : decode cX5_clear 11 = .ok (.iconst 0, 1) := by decide +kernel
theorem dX5_clear_12 : decode cX5_clear 12 = .ok (.putfield 57, 3) := by decide +kernel
theorem dX5_clear_15 : decode cX5_clear 15 = .ok (.aload_n 0, 1) := by decide +kernel
theorem dX5_clear_16 : decode cX5_clear 16 = .ok (.iconst 0, 1) := by decide +kernel
theorem dX5_clear_17 : decode cX5_clear 17 = .ok (.putfield 60, 3) := by decide +kernel
theorem dX5_clear_20 : decode cX5_clear 20 = .ok (.aload_n 0, 1) := by decide +kernel
theorem dX5_clear_21 : decode cX5_clear 21 = .ok (.getfield 43, 3) := by decide +kernel
theorem dX5_clear_24 : decode cX5_clear 24 = .ok (.invokevirtual 63, 3) := by decide +kernel
theorem dX5_clear_27 : decode cX5_clear 27 = .ok (.aload_n 0, 1) := by decide +kernel
theorem dX5_clear_28 : decode cX5_clear 28 = .ok (.getfield 47, 3) := by decide +kernel
theorem dX5_clear_31 : decode cX5_clear 31 = .ok (.invokevirtual 63, 3) := by decide +kernel
theorem dX5_clear_34 : decode cX5_clear 34 = .ok (.aload_n 0, 1) := by decide +kernel
theorem dX5_clear_35 : decode cX5_clear 35 = .ok (.getfield 25, 3) := by decide +kernel
theorem dX5_clear_38 : decode cX5_clear 38 = .ok (.iconst 0, 1) := by decide +kernel
theorem dX5_clear_39 : decode cX5_clear 39 = .ok (.invokestatic 66, 3) := by decide +kernel
theorem dX5_clear_42 : decode cX5_clear 42 = .ok (.aload_n 0, 1) := by decide +kernel
theorem dX5_clear_43 : decode cX5_clear 43 = .ok (.getfield 31, 3) := by decide +kernel
theorem dX5_clear_46 : decode cX5_clear 46 = .ok (.iconst 0, 1) := by decide +kernel
theorem dX5_clear_47 : decode cX5_clear 47 = .ok (.invokestatic 66, 3) := by decide +kernel
theorem dX5_clear_50 : decode cX5_clear 50 = .ok (.aload_n 0, 1) := by decide +kernel
theorem dX5_clear_51 : decode cX5_clear 51 = .ok (.getfield 34, 3) := by decide +kernel
theorem dX5_clear_54 : decode cX5_clear 54 = .ok (.iconst (-1), 1) := by decide +kernel
theorem dX5_clear_55 : decode cX5_clear 55 = .ok (.invokestatic 66, 3) := by decide +kernel
theorem dX5_clear_58 : decode cX5_clear 58 = .ok (.aload_n 0, 1) := by decide +kernel
theorem dX5_clear_59 : decode cX5_clear 59 = .ok (.getfield 37, 3) := by decide +kernel
theorem dX5_clear_62 : decode cX5_clear 62 = .ok (.iconst 1, 1) := by decide +kernel
theorem dX5_clear_63 : decode cX5_clear 63 = .ok (.invokestatic 66, 3) := by decide +kernel
theorem dX5_clear_66 : decode cX5_clear 66 = .ok (.return_, 1) := by decide +kernel
theorem dX5_named_0 : decode cX5_named 0 = .ok (.iconst 0, 1) := by decide +kernel
theorem dX5_named_1 : decode cX5_named 1 = .ok (.istore_n 3, 1) := by decide +kernel
theorem dX5_named_2 : decode cX5_named 2 = .ok (.iload_n 3, 1) := by decide +kernel
theorem dX5_named_3 : decode cX5_named 3 = .ok (.aload_n 0, 1) := by decide +kernel
theorem dX5_named_4 : decode cX5_named 4 = .ok (.getfield 50, 3) := by decide +kernel
theorem dX5_named_7 : decode cX5_named 7 = .ok (.if_icmp .ge 22, 3) := by decide +kernel
theorem dX5_named_10 : decode cX5_named 10 = .ok (.aload_n 0, 1) := by decide +kernel
theorem dX5_named_11 : decode cX5_named 11 = .ok (.getfield 9, 3) := by decide +kernel
theorem dX5_named_14 : decode cX5_named 14 = .ok (.iload_n 3, 1) := by decide +kernel
theorem dX5_named_15 : decode cX5_named 15 = .ok (.laload, 1) := by decide +kernel
theorem dX5_named_16 : decode cX5_named 16 = .ok (.lload_n 1, 1) := by decide +kernel
theorem dX5_named_17 : decode cX5_named 17 = .ok (.lcmp, 1) := by decide +kernel
theorem dX5_named_18 : decode cX5_named 18 = .ok (.ifCond .ne 5, 3) := by decide +kernel
theorem dX5_named_21 : decode cX5_named 21 = .ok (.iload_n 3, 1) := by decide +kernel
theorem dX5_named_22 : decode cX5_named 22 = .ok (.ireturn, 1) := by decide +kernel
theorem dX5_named_23 : decode cX5_named 23 = .ok (.iinc 3 1, 3) := by decide +kernel
theorem dX5_named_26 : decode cX5_named 26 = .ok (.goto (-24), 3) := by decide +kernel
theorem dX5_named_29 : decode cX5_named 29 = .ok (.iconst (-1), 1) := by decide +kernel
theorem dX5_named_30 : decode cX5_named 30 = .ok (.ireturn, 1) := by decide +kernel
theorem dX5_addFarm_0 : decode cX5_addFarm 0 = .ok (.aload_n 0, 1) := by decide +kernel
theorem dX5_addFarm_1 : decode cX5_addFarm 1 = .ok (.getfield 50, 3) := by decide +kernel
theorem dX5_addFarm_4 : decode cX5_addFarm 4 = .ok (.bipush 6, 2) := by decide +kernel
theorem dX5_addFarm_6 : decode cX5_addFarm 6 = .ok (.if_icmp .ge 55, 3) := by decide +kernel
theorem dX5_addFarm_9 : decode cX5_addFarm 9 = .ok (.aload_n 0, 1) := by decide +kernel
theorem dX5_addFarm_10 : decode cX5_addFarm 10 = .ok (.getfield 9, 3) := by decide +kernel
theorem dX5_addFarm_13 : decode cX5_addFarm 13 = .ok (.aload_n 0, 1) := by decide +kernel
theorem dX5_addFarm_14 : decode cX5_addFarm 14 = .ok (.getfield 50, 3) := by decide +kernel
theorem dX5_addFarm_17 : decode cX5_addFarm 17 = .ok (.lload_n 1, 1) := by decide +kernel
theorem dX5_addFarm_18 : decode cX5_addFarm 18 = .ok (.lastore, 1) := by decide +kernel
theorem dX5_addFarm_19 : decode cX5_addFarm 19 = .ok (.aload_n 0, 1) := by decide +kernel
theorem dX5_addFarm_20 : decode cX5_addFarm 20 = .ok (.getfield 15, 3) := by decide +kernel
theorem dX5_addFarm_23 : decode cX5_addFarm 23 = .ok (.aload_n 0, 1) := by decide +kernel
theorem dX5_addFarm_24 : decode cX5_addFarm 24 = .ok (.getfield 50, 3) := by decide +kernel
theorem dX5_addFarm_27 : decode cX5_addFarm 27 = .ok (.iload_n 3, 1) := by decide +kernel
theorem dX5_addFarm_28 : decode cX5_addFarm 28 = .ok (.iastore, 1) := by decide +kernel
theorem dX5_addFarm_29 : decode cX5_addFarm 29 = .ok (.aload_n 0, 1) := by decide +kernel
theorem dX5_addFarm_30 : decode cX5_addFarm 30 = .ok (.getfield 19, 3) := by decide +kernel
theorem dX5_addFarm_33 : decode cX5_addFarm 33 = .ok (.aload_n 0, 1) := by decide +kernel
theorem dX5_addFarm_34 : decode cX5_addFarm 34 = .ok (.getfield 50, 3) := by decide +kernel
theorem dX5_addFarm_37 : decode cX5_addFarm 37 = .ok (.iload 4, 2) := by decide +kernel
theorem dX5_addFarm_39 : decode cX5_addFarm 39 = .ok (.iastore, 1) := by decide +kernel
theorem dX5_addFarm_40 : decode cX5_addFarm 40 = .ok (.aload_n 0, 1) := by decide +kernel
theorem dX5_addFarm_41 : decode cX5_addFarm 41 = .ok (.getfield 22, 3) := by decide +kernel
theorem dX5_addFarm_44 : decode cX5_addFarm 44 = .ok (.aload_n 0, 1) := by decide +kernel
theorem dX5_addFarm_45 : decode cX5_addFarm 45 = .ok (.getfield 50, 3) := by decide +kernel
theorem dX5_addFarm_48 : decode cX5_addFarm 48 = .ok (.iload 5, 2) := by decide +kernel
theorem dX5_addFarm_50 : decode cX5_addFarm 50 = .ok (.iastore, 1) := by decide +kernel
theorem dX5_addFarm_51 : decode cX5_addFarm 51 = .ok (.aload_n 0, 1) := by decide +kernel
theorem dX5_addFarm_52 : decode cX5_addFarm 52 = .ok (.dup, 1) := by decide +kernel
theorem dX5_addFarm_53 : decode cX5_addFarm 53 = .ok (.getfield 50, 3) := by decide +kernel
theorem dX5_addFarm_56 : decode cX5_addFarm 56 = .ok (.iconst 1, 1) := by decide +kernel
theorem dX5_addFarm_57 : decode cX5_addFarm 57 = .ok (.iadd, 1) := by decide +kernel
theorem dX5_addFarm_58 : decode cX5_addFarm 58 = .ok (.putfield 50, 3) := by decide +kernel
theorem dX5_addFarm_61 : decode cX5_addFarm 61 = .ok (.return_, 1) := by decide +kernel
theorem dX5_haveFence_0 : decode cX5_haveFence 0 = .ok (.aload_n 0, 1) := by decide +kernel
theorem dX5_haveFence_1 : decode cX5_haveFence 1 = .ok (.getfield 25, 3) := by decide +kernel
theorem dX5_haveFence_4 : decode cX5_haveFence 4 = .ok (.iload_n 1, 1) := by decide +kernel
theorem dX5_haveFence_5 : decode cX5_haveFence 5 = .ok (.iaload, 1) := by decide +kernel
theorem dX5_haveFence_6 : decode cX5_haveFence 6 = .ok (.iload_n 2, 1) := by decide +kernel
theorem dX5_haveFence_7 : decode cX5_haveFence 7 = .ok (.ishr, 1) := by decide +kernel
theorem dX5_haveFence_8 : decode cX5_haveFence 8 = .ok (.iconst 1, 1) := by decide +kernel
theorem dX5_haveFence_9 : decode cX5_haveFence 9 = .ok (.iand, 1) := by decide +kernel
theorem dX5_haveFence_10 : decode cX5_haveFence 10 = .ok (.iconst 1, 1) := by decide +kernel
theorem dX5_haveFence_11 : decode cX5_haveFence 11 = .ok (.if_icmp .ne 7, 3) := by decide +kernel
theorem dX5_haveFence_14 : decode cX5_haveFence 14 = .ok (.iconst 1, 1) := by decide +kernel
theorem dX5_haveFence_15 : decode cX5_haveFence 15 = .ok (.goto 4, 3) := by decide +kernel
theorem dX5_haveFence_18 : decode cX5_haveFence 18 = .ok (.iconst 0, 1) := by decide +kernel
theorem dX5_haveFence_19 : decode cX5_haveFence 19 = .ok (.ireturn, 1) := by decide +kernel
theorem dX5_addFence_0 : decode cX5_addFence 0 = .ok (.aload_n 0, 1) := by decide +kernel
theorem dX5_addFence_1 : decode cX5_addFence 1 = .ok (.getfield 25, 3) := by decide +kernel
theorem dX5_addFence_4 : decode cX5_addFence 4 = .ok (.iload_n 1, 1) := by decide +kernel
theorem dX5_addFence_5 : decode cX5_addFence 5 = .ok (.dup2, 1) := by decide +kernel
theorem dX5_addFence_6 : decode cX5_addFence 6 = .ok (.iaload, 1) := by decide +kernel
theorem dX5_addFence_7 : decode cX5_addFence 7 = .ok (.iconst 1, 1) := by decide +kernel
theorem dX5_addFence_8 : decode cX5_addFence 8 = .ok (.iload_n 2, 1) := by decide +kernel
theorem dX5_addFence_9 : decode cX5_addFence 9 = .ok (.ishl, 1) := by decide +kernel
theorem dX5_addFence_10 : decode cX5_addFence 10 = .ok (.ior, 1) := by decide +kernel
theorem dX5_addFence_11 : decode cX5_addFence 11 = .ok (.iastore, 1) := by decide +kernel
theorem dX5_addFence_12 : decode cX5_addFence 12 = .ok (.aload_n 0, 1) := by decide +kernel
theorem dX5_addFence_13 : decode cX5_addFence 13 = .ok (.getfield 25, 3) := by decide +kernel
theorem dX5_addFence_16 : decode cX5_addFence 16 = .ok (.iload_n 2, 1) := by decide +kernel
theorem dX5_addFence_17 : decode cX5_addFence 17 = .ok (.dup2, 1) := by decide +kernel
theorem dX5_addFence_18 : decode cX5_addFence 18 = .ok (.iaload, 1) := by decide +kernel
theorem dX5_addFence_19 : decode cX5_addFence 19 = .ok (.iconst 1, 1) := by decide +kernel
theorem dX5_addFence_20 : decode cX5_addFence 20 = .ok (.iload_n 1, 1) := by decide +kernel
theorem dX5_addFence_21 : decode cX5_addFence 21 = .ok (.ishl, 1) := by decide +kernel
theorem dX5_addFence_22 : decode cX5_addFence 22 = .ok (.ior, 1) := by decide +kernel
theorem dX5_addFence_23 : decode cX5_addFence 23 = .ok (.iastore, 1) := by decide +kernel
theorem dX5_addFence_24 : decode cX5_addFence 24 = .ok (.aload_n 0, 1) := by decide +kernel
theorem dX5_addFence_25 : decode cX5_addFence 25 = .ok (.getfield 28, 3) := by decide +kernel
theorem dX5_addFence_28 : decode cX5_addFence 28 = .ok (.iload_n 1, 1) := by decide +kernel
theorem dX5_addFence_29 : decode cX5_addFence 29 = .ok (.bipush 6, 2) := by decide +kernel
theorem dX5_addFence_31 : decode cX5_addFence 31 = .ok (.imul, 1) := by decide +kernel
theorem dX5_addFence_32 : decode cX5_addFence 32 = .ok (.iload_n 2, 1) := by decide +kernel
theorem dX5_addFence_33 : decode cX5_addFence 33 = .ok (.iadd, 1) := by decide +kernel
theorem dX5_addFence_34 : decode cX5_addFence 34 = .ok (.iload_n 3, 1) := by decide +kernel
theorem dX5_addFence_35 : decode cX5_addFence 35 = .ok (.iastore, 1) := by decide +kernel
theorem dX5_addFence_36 : decode cX5_addFence 36 = .ok (.aload_n 0, 1) := by decide +kernel
theorem dX5_addFence_37 : decode cX5_addFence 37 = .ok (.getfield 28, 3) := by decide +kernel
theorem dX5_addFence_40 : decode cX5_addFence 40 = .ok (.iload_n 2, 1) := by decide +kernel
theorem dX5_addFence_41 : decode cX5_addFence 41 = .ok (.bipush 6, 2) := by decide +kernel
theorem dX5_addFence_43 : decode cX5_addFence 43 = .ok (.imul, 1) := by decide +kernel
theorem dX5_addFence_44 : decode cX5_addFence 44 = .ok (.iload_n 1, 1) := by decide +kernel
theorem dX5_addFence_45 : decode cX5_addFence 45 = .ok (.iadd, 1) := by decide +kernel
theorem dX5_addFence_46 : decode cX5_addFence 46 = .ok (.iload_n 3, 1) := by decide +kernel
theorem dX5_addFence_47 : decode cX5_addFence 47 = .ok (.iastore, 1) := by decide +kernel
theorem dX5_addFence_48 : decode cX5_addFence 48 = .ok (.aload_n 0, 1) := by decide +kernel
theorem dX5_addFence_49 : decode cX5_addFence 49 = .ok (.dup, 1) := by decide +kernel
theorem dX5_addFence_50 : decode cX5_addFence 50 = .ok (.getfield 54, 3) := by decide +kernel
theorem dX5_addFence_53 : decode cX5_addFence 53 = .ok (.iconst 1, 1) := by decide +kernel
theorem dX5_addFence_54 : decode cX5_addFence 54 = .ok (.iadd, 1) := by decide +kernel
theorem dX5_addFence_55 : decode cX5_addFence 55 = .ok (.putfield 54, 3) := by decide +kernel
theorem dX5_addFence_58 : decode cX5_addFence 58 = .ok (.return_, 1) := by decide +kernel
theorem dX5_havePact_0 : decode cX5_havePact 0 = .ok (.aload_n 0, 1) := by decide +kernel
theorem dX5_havePact_1 : decode cX5_havePact 1 = .ok (.getfield 31, 3) := by decide +kernel
theorem dX5_havePact_4 : decode cX5_havePact 4 = .ok (.iload_n 1, 1) := by decide +kernel
theorem dX5_havePact_5 : decode cX5_havePact 5 = .ok (.iaload, 1) := by decide +kernel
theorem dX5_havePact_6 : decode cX5_havePact 6 = .ok (.iload_n 2, 1) := by decide +kernel
theorem dX5_havePact_7 : decode cX5_havePact 7 = .ok (.ishr, 1) := by decide +kernel
theorem dX5_havePact_8 : decode cX5_havePact 8 = .ok (.iconst 1, 1) := by decide +kernel
theorem dX5_havePact_9 : decode cX5_havePact 9 = .ok (.iand, 1) := by decide +kernel
theorem dX5_havePact_10 : decode cX5_havePact 10 = .ok (.iconst 1, 1) := by decide +kernel
theorem dX5_havePact_11 : decode cX5_havePact 11 = .ok (.if_icmp .ne 7, 3) := by decide +kernel
theorem dX5_havePact_14 : decode cX5_havePact 14 = .ok (.iconst 1, 1) := by decide +kernel
theorem dX5_havePact_15 : decode cX5_havePact 15 = .ok (.goto 4, 3) := by decide +kernel
theorem dX5_havePact_18 : decode cX5_havePact 18 = .ok (.iconst 0, 1) := by decide +kernel
theorem dX5_havePact_19 : decode cX5_havePact 19 = .ok (.ireturn, 1) := by decide +kernel
theorem dX5_addPact_0 : decode cX5_addPact 0 = .ok (.aload_n 0, 1) := by decide +kernel
theorem dX5_addPact_1 : decode cX5_addPact 1 = .ok (.getfield 31, 3) := by decide +kernel
theorem dX5_addPact_4 : decode cX5_addPact 4 = .ok (.iload_n 1, 1) := by decide +kernel
theorem dX5_addPact_5 : decode cX5_addPact 5 = .ok (.dup2, 1) := by decide +kernel
theorem dX5_addPact_6 : decode cX5_addPact 6 = .ok (.iaload, 1) := by decide +kernel
theorem dX5_addPact_7 : decode cX5_addPact 7 = .ok (.iconst 1, 1) := by decide +kernel
theorem dX5_addPact_8 : decode cX5_addPact 8 = .ok (.iload_n 2, 1) := by decide +kernel
theorem dX5_addPact_9 : decode cX5_addPact 9 = .ok (.ishl, 1) := by decide +kernel
theorem dX5_addPact_10 : decode cX5_addPact 10 = .ok (.ior, 1) := by decide +kernel
theorem dX5_addPact_11 : decode cX5_addPact 11 = .ok (.iastore, 1) := by decide +kernel
theorem dX5_addPact_12 : decode cX5_addPact 12 = .ok (.aload_n 0, 1) := by decide +kernel
theorem dX5_addPact_13 : decode cX5_addPact 13 = .ok (.getfield 31, 3) := by decide +kernel
theorem dX5_addPact_16 : decode cX5_addPact 16 = .ok (.iload_n 2, 1) := by decide +kernel
theorem dX5_addPact_17 : decode cX5_addPact 17 = .ok (.dup2, 1) := by decide +kernel
theorem dX5_addPact_18 : decode cX5_addPact 18 = .ok (.iaload, 1) := by decide +kernel
theorem dX5_addPact_19 : decode cX5_addPact 19 = .ok (.iconst 1, 1) := by decide +kernel
theorem dX5_addPact_20 : decode cX5_addPact 20 = .ok (.iload_n 1, 1) := by decide +kernel
theorem dX5_addPact_21 : decode cX5_addPact 21 = .ok (.ishl, 1) := by decide +kernel
theorem dX5_addPact_22 : decode cX5_addPact 22 = .ok (.ior, 1) := by decide +kernel
theorem dX5_addPact_23 : decode cX5_addPact 23 = .ok (.iastore, 1) := by decide +kernel
theorem dX5_addPact_24 : decode cX5_addPact 24 = .ok (.return_, 1) := by decide +kernel
theorem dX5_addShare_0 : decode cX5_addShare 0 = .ok (.aload_n 0, 1) := by decide +kernel
theorem dX5_addShare_1 : decode cX5_addShare 1 = .ok (.getfield 34, 3) := by decide +kernel
theorem dX5_addShare_4 : decode cX5_addShare 4 = .ok (.iload_n 1, 1) := by decide +kernel
theorem dX5_addShare_5 : decode cX5_addShare 5 = .ok (.iload_n 2, 1) := by decide +kernel
theorem dX5_addShare_6 : decode cX5_addShare 6 = .ok (.iastore, 1) := by decide +kernel
theorem dX5_addShare_7 : decode cX5_addShare 7 = .ok (.aload_n 0, 1) := by decide +kernel
theorem dX5_addShare_8 : decode cX5_addShare 8 = .ok (.dup, 1) := by decide +kernel
theorem dX5_addShare_9 : decode cX5_addShare 9 = .ok (.getfield 57, 3) := by decide +kernel
theorem dX5_addShare_12 : decode cX5_addShare 12 = .ok (.iconst 1, 1) := by decide +kernel
theorem dX5_addShare_13 : decode cX5_addShare 13 = .ok (.iadd, 1) := by decide +kernel
theorem dX5_addShare_14 : decode cX5_addShare 14 = .ok (.putfield 57, 3) := by decide +kernel
theorem dX5_addShare_17 : decode cX5_addShare 17 = .ok (.return_, 1) := by decide +kernel
theorem dX5_hasTooth_0 : decode cX5_hasTooth 0 = .ok (.aload_n 0, 1) := by decide +kernel
theorem dX5_hasTooth_1 : decode cX5_hasTooth 1 = .ok (.getfield 60, 3) := by decide +kernel
theorem dX5_hasTooth_4 : decode cX5_hasTooth 4 = .ok (.iload_n 1, 1) := by decide +kernel
theorem dX5_hasTooth_5 : decode cX5_hasTooth 5 = .ok (.ishr, 1) := by decide +kernel
theorem dX5_hasTooth_6 : decode cX5_hasTooth 6 = .ok (.iconst 1, 1) := by decide +kernel
theorem dX5_hasTooth_7 : decode cX5_hasTooth 7 = .ok (.iand, 1) := by decide +kernel
theorem dX5_hasTooth_8 : decode cX5_hasTooth 8 = .ok (.iconst 1, 1) := by decide +kernel
theorem dX5_hasTooth_9 : decode cX5_hasTooth 9 = .ok (.if_icmp .ne 7, 3) := by decide +kernel
theorem dX5_hasTooth_12 : decode cX5_hasTooth 12 = .ok (.iconst 1, 1) := by decide +kernel
theorem dX5_hasTooth_13 : decode cX5_hasTooth 13 = .ok (.goto 4, 3) := by decide +kernel
theorem dX5_hasTooth_16 : decode cX5_hasTooth 16 = .ok (.iconst 0, 1) := by decide +kernel
theorem dX5_hasTooth_17 : decode cX5_hasTooth 17 = .ok (.ireturn, 1) := by decide +kernel
theorem dX5_addTooth_0 : decode cX5_addTooth 0 = .ok (.aload_n 0, 1) := by decide +kernel
theorem dX5_addTooth_1 : decode cX5_addTooth 1 = .ok (.dup, 1) := by decide +kernel
theorem dX5_addTooth_2 : decode cX5_addTooth 2 = .ok (.getfield 60, 3) := by decide +kernel
theorem dX5_addTooth_5 : decode cX5_addTooth 5 = .ok (.iconst 1, 1) := by decide +kernel
theorem dX5_addTooth_6 : decode cX5_addTooth 6 = .ok (.iload_n 1, 1) := by decide +kernel
theorem dX5_addTooth_7 : decode cX5_addTooth 7 = .ok (.ishl, 1) := by decide +kernel
theorem dX5_addTooth_8 : decode cX5_addTooth 8 = .ok (.ior, 1) := by decide +kernel
theorem dX5_addTooth_9 : decode cX5_addTooth 9 = .ok (.putfield 60, 3) := by decide +kernel
theorem dX5_addTooth_12 : decode cX5_addTooth 12 = .ok (.return_, 1) := by decide +kernel
theorem dX5_setOften_0 : decode cX5_setOften 0 = .ok (.aload_n 0, 1) := by decide +kernel
theorem dX5_setOften_1 : decode cX5_setOften 1 = .ok (.getfield 37, 3) := by decide +kernel
theorem dX5_setOften_4 : decode cX5_setOften 4 = .ok (.iload_n 1, 1) := by decide +kernel
theorem dX5_setOften_5 : decode cX5_setOften 5 = .ok (.iconst 4, 1) := by decide +kernel
theorem dX5_setOften_6 : decode cX5_setOften 6 = .ok (.imul, 1) := by decide +kernel
theorem dX5_setOften_7 : decode cX5_setOften 7 = .ok (.iload_n 2, 1) := by decide +kernel
theorem dX5_setOften_8 : decode cX5_setOften 8 = .ok (.iadd, 1) := by decide +kernel
theorem dX5_setOften_9 : decode cX5_setOften 9 = .ok (.iconst 1, 1) := by decide +kernel
theorem dX5_setOften_10 : decode cX5_setOften 10 = .ok (.isub, 1) := by decide +kernel
theorem dX5_setOften_11 : decode cX5_setOften 11 = .ok (.iload_n 3, 1) := by decide +kernel
theorem dX5_setOften_12 : decode cX5_setOften 12 = .ok (.iastore, 1) := by decide +kernel
theorem dX5_setOften_13 : decode cX5_setOften 13 = .ok (.return_, 1) := by decide +kernel
theorem dX5_oftenBites_0 : decode cX5_oftenBites 0 = .ok (.aload_n 0, 1) := by decide +kernel
theorem dX5_oftenBites_1 : decode cX5_oftenBites 1 = .ok (.getfield 37, 3) := by decide +kernel
theorem dX5_oftenBites_4 : decode cX5_oftenBites 4 = .ok (.iload_n 1, 1) := by decide +kernel
theorem dX5_oftenBites_5 : decode cX5_oftenBites 5 = .ok (.iconst 4, 1) := by decide +kernel
theorem dX5_oftenBites_6 : decode cX5_oftenBites 6 = .ok (.imul, 1) := by decide +kernel
theorem dX5_oftenBites_7 : decode cX5_oftenBites 7 = .ok (.iload_n 2, 1) := by decide +kernel
theorem dX5_oftenBites_8 : decode cX5_oftenBites 8 = .ok (.iadd, 1) := by decide +kernel
theorem dX5_oftenBites_9 : decode cX5_oftenBites 9 = .ok (.iconst 1, 1) := by decide +kernel
theorem dX5_oftenBites_10 : decode cX5_oftenBites 10 = .ok (.isub, 1) := by decide +kernel
theorem dX5_oftenBites_11 : decode cX5_oftenBites 11 = .ok (.iaload, 1) := by decide +kernel
theorem dX5_oftenBites_12 : decode cX5_oftenBites 12 = .ok (.ireturn, 1) := by decide +kernel
theorem dX6_init_0 : decode cX6_init 0 = .ok (.aload_n 0, 1) := by decide +kernel
theorem dX6_init_1 : decode cX6_init 1 = .ok (.invokespecial 3, 3) := by decide +kernel
theorem dX6_init_4 : decode cX6_init 4 = .ok (.aload_n 0, 1) := by decide +kernel
theorem dX6_init_5 : decode cX6_init 5 = .ok (.aload_n 1, 1) := by decide +kernel
theorem dX6_init_6 : decode cX6_init 6 = .ok (.putfield 9, 3) := by decide +kernel
theorem dX6_init_9 : decode cX6_init 9 = .ok (.aload_n 0, 1) := by decide +kernel
theorem dX6_init_10 : decode cX6_init 10 = .ok (.aload_n 2, 1) := by decide +kernel
theorem dX6_init_11 : decode cX6_init 11 = .ok (.putfield 15, 3) := by decide +kernel
theorem dX6_init_14 : decode cX6_init 14 = .ok (.aload_n 0, 1) := by decide +kernel
theorem dX6_init_15 : decode cX6_init 15 = .ok (.aload_n 3, 1) := by decide +kernel
theorem dX6_init_16 : decode cX6_init 16 = .ok (.putfield 18, 3) := by decide +kernel
theorem dX6_init_19 : decode cX6_init 19 = .ok (.aload_n 0, 1) := by decide +kernel
theorem dX6_init_20 : decode cX6_init 20 = .ok (.iload 4, 2) := by decide +kernel
theorem dX6_init_22 : decode cX6_init 22 = .ok (.putfield 22, 3) := by decide +kernel
theorem dX6_init_25 : decode cX6_init 25 = .ok (.aload_n 0, 1) := by decide +kernel
theorem dX6_init_26 : decode cX6_init 26 = .ok (.iload 5, 2) := by decide +kernel
theorem dX6_init_28 : decode cX6_init 28 = .ok (.bipush 6, 2) := by decide +kernel
theorem dX6_init_30 : decode cX6_init 30 = .ok (.imul, 1) := by decide +kernel
theorem dX6_init_31 : decode cX6_init 31 = .ok (.newarray .int, 2) := by decide +kernel
theorem dX6_init_33 : decode cX6_init 33 = .ok (.putfield 26, 3) := by decide +kernel
theorem dX6_init_36 : decode cX6_init 36 = .ok (.aload_n 0, 1) := by decide +kernel
theorem dX6_init_37 : decode cX6_init 37 = .ok (.iload 5, 2) := by decide +kernel
theorem dX6_init_39 : decode cX6_init 39 = .ok (.newarray .int, 2) := by decide +kernel
theorem dX6_init_41 : decode cX6_init 41 = .ok (.putfield 30, 3) := by decide +kernel
theorem dX6_init_44 : decode cX6_init 44 = .ok (.aload_n 0, 1) := by decide +kernel
theorem dX6_init_45 : decode cX6_init 45 = .ok (.iload 5, 2) := by decide +kernel
theorem dX6_init_47 : decode cX6_init 47 = .ok (.newarray .int, 2) := by decide +kernel
theorem dX6_init_49 : decode cX6_init 49 = .ok (.putfield 33, 3) := by decide +kernel
theorem dX6_init_52 : decode cX6_init 52 = .ok (.return_, 1) := by decide +kernel
theorem dX6_farms_0 : decode cX6_farms 0 = .ok (.aload_n 0, 1) := by decide +kernel
theorem dX6_farms_1 : decode cX6_farms 1 = .ok (.getfield 36, 3) := by decide +kernel
theorem dX6_farms_4 : decode cX6_farms 4 = .ok (.ireturn, 1) := by decide +kernel
theorem dX6_forget_0 : decode cX6_forget 0 = .ok (.aload_n 0, 1) := by decide +kernel
theorem dX6_forget_1 : decode cX6_forget 1 = .ok (.iconst 0, 1) := by decide +kernel
theorem dX6_forget_2 : decode cX6_forget 2 = .ok (.putfield 39, 3) := by decide +kernel
theorem dX6_forget_5 : decode cX6_forget 5 = .ok (.return_, 1) := by decide +kernel
theorem dX6_isReady_0 : decode cX6_isReady 0 = .ok (.iload_n 1, 1) := by decide +kernel
theorem dX6_isReady_1 : decode cX6_isReady 1 = .ok (.invokestatic 42, 3) := by decide +kernel
theorem dX6_isReady_4 : decode cX6_isReady 4 = .ok (.ifCond .eq 20, 3) := by decide +kernel
theorem dX6_isReady_7 : decode cX6_isReady 7 = .ok (.aload_n 0, 1) := by decide +kernel
theorem dX6_isReady_8 : decode cX6_isReady 8 = .ok (.getfield 9, 3) := by decide +kernel
theorem dX6_isReady_11 : decode cX6_isReady 11 = .ok (.getfield 46, 3) := by decide +kernel
theorem dX6_isReady_14 : decode cX6_isReady 14 = .ok (.getfield 52, 3) := by decide +kernel
theorem dX6_isReady_17 : decode cX6_isReady 17 = .ok (.aload_n 0, 1) := by decide +kernel
theorem dX6_isReady_18 : decode cX6_isReady 18 = .ok (.getfield 22, 3) := by decide +kernel
theorem dX6_isReady_21 : decode cX6_isReady 21 = .ok (.if_icmp .le 5, 3) := by decide +kernel
theorem dX6_isReady_24 : decode cX6_isReady 24 = .ok (.iconst 0, 1) := by decide +kernel
theorem dX6_isReady_25 : decode cX6_isReady 25 = .ok (.ireturn, 1) := by decide +kernel
theorem dX6_isReady_26 : decode cX6_isReady 26 = .ok (.aload_n 0, 1) := by decide +kernel
theorem dX6_isReady_27 : decode cX6_isReady 27 = .ok (.getfield 39, 3) := by decide +kernel
theorem dX6_isReady_30 : decode cX6_isReady 30 = .ok (.iload_n 1, 1) := by decide +kernel
theorem dX6_isReady_31 : decode cX6_isReady 31 = .ok (.if_icmp .eq 35, 3) := by decide +kernel
theorem dX6_isReady_34 : decode cX6_isReady 34 = .ok (.aload_n 0, 1) := by decide +kernel
theorem dX6_isReady_35 : decode cX6_isReady 35 = .ok (.iload_n 1, 1) := by decide +kernel
theorem dX6_isReady_36 : decode cX6_isReady 36 = .ok (.putfield 39, 3) := by decide +kernel
theorem dX6_isReady_39 : decode cX6_isReady 39 = .ok (.aload_n 0, 1) := by decide +kernel
theorem dX6_isReady_40 : decode cX6_isReady 40 = .ok (.aload_n 0, 1) := by decide +kernel
theorem dX6_isReady_41 : decode cX6_isReady 41 = .ok (.getfield 9, 3) := by decide +kernel
theorem dX6_isReady_44 : decode cX6_isReady 44 = .ok (.getfield 46, 3) := by decide +kernel
theorem dX6_isReady_47 : decode cX6_isReady 47 = .ok (.getfield 52, 3) := by decide +kernel
theorem dX6_isReady_50 : decode cX6_isReady 50 = .ok (.putfield 36, 3) := by decide +kernel
theorem dX6_isReady_53 : decode cX6_isReady 53 = .ok (.aload_n 0, 1) := by decide +kernel
theorem dX6_isReady_54 : decode cX6_isReady 54 = .ok (.iconst (-1), 1) := by decide +kernel
theorem dX6_isReady_55 : decode cX6_isReady 55 = .ok (.putfield 55, 3) := by decide +kernel
theorem dX6_isReady_58 : decode cX6_isReady 58 = .ok (.aload_n 0, 1) := by decide +kernel
theorem dX6_isReady_59 : decode cX6_isReady 59 = .ok (.getfield 30, 3) := by decide +kernel
theorem dX6_isReady_62 : decode cX6_isReady 62 = .ok (.iconst 0, 1) := by decide +kernel
theorem dX6_isReady_63 : decode cX6_isReady 63 = .ok (.invokestatic 58, 3) := by decide +kernel
theorem dX6_isReady_66 : decode cX6_isReady 66 = .ok (.iconst 1, 1) := by decide +kernel
theorem dX6_isReady_67 : decode cX6_isReady 67 = .ok (.ireturn, 1) := by decide +kernel
theorem dX6_lookAt_0 : decode cX6_lookAt 0 = .ok (.iload_n 1, 1) := by decide +kernel
theorem dX6_lookAt_1 : decode cX6_lookAt 1 = .ok (.ifCond .lt 21, 3) := by decide +kernel
theorem dX6_lookAt_4 : decode cX6_lookAt 4 = .ok (.iload_n 1, 1) := by decide +kernel
theorem dX6_lookAt_5 : decode cX6_lookAt 5 = .ok (.aload_n 0, 1) := by decide +kernel
theorem dX6_lookAt_6 : decode cX6_lookAt 6 = .ok (.getfield 30, 3) := by decide +kernel
theorem dX6_lookAt_9 : decode cX6_lookAt 9 = .ok (.arraylength, 1) := by decide +kernel
theorem dX6_lookAt_10 : decode cX6_lookAt 10 = .ok (.if_icmp .ge 12, 3) := by decide +kernel
theorem dX6_lookAt_13 : decode cX6_lookAt 13 = .ok (.aload_n 0, 1) := by decide +kernel
theorem dX6_lookAt_14 : decode cX6_lookAt 14 = .ok (.getfield 30, 3) := by decide +kernel
theorem dX6_lookAt_17 : decode cX6_lookAt 17 = .ok (.iload_n 1, 1) := by decide +kernel
theorem dX6_lookAt_18 : decode cX6_lookAt 18 = .ok (.iaload, 1) := by decide +kernel
theorem dX6_lookAt_19 : decode cX6_lookAt 19 = .ok (.ifCond .eq 4, 3) := by decide +kernel
theorem dX6_lookAt_22 : decode cX6_lookAt 22 = .ok (.return_, 1) := by decide +kernel
theorem dX6_lookAt_23 : decode cX6_lookAt 23 = .ok (.aload_n 0, 1) := by decide +kernel
theorem dX6_lookAt_24 : decode cX6_lookAt 24 = .ok (.getfield 15, 3) := by decide +kernel
theorem dX6_lookAt_27 : decode cX6_lookAt 27 = .ok (.aload_n 0, 1) := by decide +kernel
theorem dX6_lookAt_28 : decode cX6_lookAt 28 = .ok (.getfield 9, 3) := by decide +kernel
theorem dX6_lookAt_31 : decode cX6_lookAt 31 = .ok (.invokevirtual 64, 3) := by decide +kernel
theorem dX6_lookAt_34 : decode cX6_lookAt 34 = .ok (.aload_n 0, 1) := by decide +kernel
theorem dX6_lookAt_35 : decode cX6_lookAt 35 = .ok (.aload_n 0, 1) := by decide +kernel
theorem dX6_lookAt_36 : decode cX6_lookAt 36 = .ok (.getfield 15, 3) := by decide +kernel
theorem dX6_lookAt_39 : decode cX6_lookAt 39 = .ok (.iload_n 1, 1) := by decide +kernel
theorem dX6_lookAt_40 : decode cX6_lookAt 40 = .ok (.invokevirtual 68, 3) := by decide +kernel
theorem dX6_lookAt_43 : decode cX6_lookAt 43 = .ok (.aload_n 0, 1) := by decide +kernel
theorem dX6_lookAt_44 : decode cX6_lookAt 44 = .ok (.getfield 15, 3) := by decide +kernel
theorem dX6_lookAt_47 : decode cX6_lookAt 47 = .ok (.aload_n 0, 1) := by decide +kernel
theorem dX6_lookAt_48 : decode cX6_lookAt 48 = .ok (.getfield 18, 3) := by decide +kernel
theorem dX6_lookAt_51 : decode cX6_lookAt 51 = .ok (.aload_n 0, 1) := by decide +kernel
theorem dX6_lookAt_52 : decode cX6_lookAt 52 = .ok (.getfield 39, 3) := by decide +kernel
theorem dX6_lookAt_55 : decode cX6_lookAt 55 = .ok (.invokevirtual 72, 3) := by decide +kernel
theorem dX6_lookAt_58 : decode cX6_lookAt 58 = .ok (.iconst 0, 1) := by decide +kernel
theorem dX6_lookAt_59 : decode cX6_lookAt 59 = .ok (.istore_n 2, 1) := by decide +kernel
theorem dX6_lookAt_60 : decode cX6_lookAt 60 = .ok (.iload_n 2, 1) := by decide +kernel
theorem dX6_lookAt_61 : decode cX6_lookAt 61 = .ok (.aload_n 0, 1) := by decide +kernel
theorem dX6_lookAt_62 : decode cX6_lookAt 62 = .ok (.getfield 36, 3) := by decide +kernel
theorem dX6_lookAt_65 : decode cX6_lookAt 65 = .ok (.if_icmp .ge 37, 3) := by decide +kernel
theorem dX6_lookAt_68 : decode cX6_lookAt 68 = .ok (.aload_n 0, 1) := by decide +kernel
theorem dX6_lookAt_69 : decode cX6_lookAt 69 = .ok (.getfield 26, 3) := by decide +kernel
theorem dX6_lookAt_72 : decode cX6_lookAt 72 = .ok (.iload_n 1, 1) := by decide +kernel
theorem dX6_lookAt_73 : decode cX6_lookAt 73 = .ok (.bipush 6, 2) := by decide +kernel
theorem dX6_lookAt_75 : decode cX6_lookAt 75 = .ok (.imul, 1) := by decide +kernel
theorem dX6_lookAt_76 : decode cX6_lookAt 76 = .ok (.iload_n 2, 1) := by decide +kernel
theorem dX6_lookAt_77 : decode cX6_lookAt 77 = .ok (.iadd, 1) := by decide +kernel
theorem dX6_lookAt_78 : decode cX6_lookAt 78 = .ok (.aload_n 0, 1) := by decide +kernel
theorem dX6_lookAt_79 : decode cX6_lookAt 79 = .ok (.getfield 15, 3) := by decide +kernel
theorem dX6_lookAt_82 : decode cX6_lookAt 82 = .ok (.iload_n 2, 1) := by decide +kernel
theorem dX6_lookAt_83 : decode cX6_lookAt 83 = .ok (.invokevirtual 76, 3) := by decide +kernel
theorem dX6_lookAt_86 : decode cX6_lookAt 86 = .ok (.aload_n 0, 1) := by decide +kernel
theorem dX6_lookAt_87 : decode cX6_lookAt 87 = .ok (.getfield 9, 3) := by decide +kernel
theorem dX6_lookAt_90 : decode cX6_lookAt 90 = .ok (.iload_n 2, 1) := by decide +kernel
theorem dX6_lookAt_91 : decode cX6_lookAt 91 = .ok (.invokevirtual 76, 3) := by decide +kernel
theorem dX6_lookAt_94 : decode cX6_lookAt 94 = .ok (.isub, 1) := by decide +kernel
theorem dX6_lookAt_95 : decode cX6_lookAt 95 = .ok (.iastore, 1) := by decide +kernel
theorem dX6_lookAt_96 : decode cX6_lookAt 96 = .ok (.iinc 2 1, 3) := by decide +kernel
theorem dX6_lookAt_99 : decode cX6_lookAt 99 = .ok (.goto (-39), 3) := by decide +kernel
theorem dX6_lookAt_102 : decode cX6_lookAt 102 = .ok (.aload_n 0, 1) := by decide +kernel
theorem dX6_lookAt_103 : decode cX6_lookAt 103 = .ok (.getfield 30, 3) := by decide +kernel
theorem dX6_lookAt_106 : decode cX6_lookAt 106 = .ok (.iload_n 1, 1) := by decide +kernel
theorem dX6_lookAt_107 : decode cX6_lookAt 107 = .ok (.iconst 1, 1) := by decide +kernel
theorem dX6_lookAt_108 : decode cX6_lookAt 108 = .ok (.iastore, 1) := by decide +kernel
theorem dX6_lookAt_109 : decode cX6_lookAt 109 = .ok (.return_, 1) := by decide +kernel
theorem dX6_lossIn_0 : decode cX6_lossIn 0 = .ok (.iload_n 1, 1) := by decide +kernel
theorem dX6_lossIn_1 : decode cX6_lossIn 1 = .ok (.bipush 6, 2) := by decide +kernel
theorem dX6_lossIn_3 : decode cX6_lossIn 3 = .ok (.imul, 1) := by decide +kernel
theorem dX6_lossIn_4 : decode cX6_lossIn 4 = .ok (.iload_n 2, 1) := by decide +kernel
theorem dX6_lossIn_5 : decode cX6_lossIn 5 = .ok (.iadd, 1) := by decide +kernel
theorem dX6_lossIn_6 : decode cX6_lossIn 6 = .ok (.istore_n 3, 1) := by decide +kernel
theorem dX6_lossIn_7 : decode cX6_lossIn 7 = .ok (.iload_n 3, 1) := by decide +kernel
theorem dX6_lossIn_8 : decode cX6_lossIn 8 = .ok (.ifCond .lt 21, 3) := by decide +kernel
theorem dX6_lossIn_11 : decode cX6_lossIn 11 = .ok (.iload_n 3, 1) := by decide +kernel
theorem dX6_lossIn_12 : decode cX6_lossIn 12 = .ok (.aload_n 0, 1) := by decide +kernel
theorem dX6_lossIn_13 : decode cX6_lossIn 13 = .ok (.getfield 26, 3) := by decide +kernel
theorem dX6_lossIn_16 : decode cX6_lossIn 16 = .ok (.arraylength, 1) := by decide +kernel
theorem dX6_lossIn_17 : decode cX6_lossIn 17 = .ok (.if_icmp .ge 12, 3) := by decide +kernel
theorem dX6_lossIn_20 : decode cX6_lossIn 20 = .ok (.aload_n 0, 1) := by decide +kernel
theorem dX6_lossIn_21 : decode cX6_lossIn 21 = .ok (.getfield 26, 3) := by decide +kernel
theorem dX6_lossIn_24 : decode cX6_lossIn 24 = .ok (.iload_n 3, 1) := by decide +kernel
theorem dX6_lossIn_25 : decode cX6_lossIn 25 = .ok (.iaload, 1) := by decide +kernel
theorem dX6_lossIn_26 : decode cX6_lossIn 26 = .ok (.goto 4, 3) := by decide +kernel
theorem dX6_lossIn_29 : decode cX6_lossIn 29 = .ok (.iconst 0, 1) := by decide +kernel
theorem dX6_lossIn_30 : decode cX6_lossIn 30 = .ok (.ireturn, 1) := by decide +kernel
theorem dX6_findAll_0 : decode cX6_findAll 0 = .ok (.aload_n 0, 1) := by decide +kernel
theorem dX6_findAll_1 : decode cX6_findAll 1 = .ok (.getfield 55, 3) := by decide +kernel
theorem dX6_findAll_4 : decode cX6_findAll 4 = .ok (.iconst (-1), 1) := by decide +kernel
theorem dX6_findAll_5 : decode cX6_findAll 5 = .ok (.if_icmp .eq 8, 3) := by decide +kernel
theorem dX6_findAll_8 : decode cX6_findAll 8 = .ok (.aload_n 0, 1) := by decide +kernel
theorem dX6_findAll_9 : decode cX6_findAll 9 = .ok (.getfield 55, 3) := by decide +kernel
theorem dX6_findAll_12 : decode cX6_findAll 12 = .ok (.ireturn, 1) := by decide +kernel
theorem dX6_findAll_13 : decode cX6_findAll 13 = .ok (.aload_n 0, 1) := by decide +kernel
theorem dX6_findAll_14 : decode cX6_findAll 14 = .ok (.invokevirtual 80, 3) := by decide +kernel
theorem dX6_findAll_17 : decode cX6_findAll 17 = .ok (.aload_n 0, 1) := by decide +kernel
theorem dX6_findAll_18 : decode cX6_findAll 18 = .ok (.getfield 30, 3) := by decide +kernel
theorem dX6_findAll_21 : decode cX6_findAll 21 = .ok (.arraylength, 1) := by decide +kernel
theorem dX6_findAll_22 : decode cX6_findAll 22 = .ok (.invokestatic 84, 3) := by decide +kernel
theorem dX6_findAll_25 : decode cX6_findAll 25 = .ok (.istore_n 1, 1) := by decide +kernel
theorem dX6_findAll_26 : decode cX6_findAll 26 = .ok (.iconst 0, 1) := by decide +kernel
theorem dX6_findAll_27 : decode cX6_findAll 27 = .ok (.istore_n 2, 1) := by decide +kernel
theorem dX6_findAll_28 : decode cX6_findAll 28 = .ok (.iload_n 2, 1) := by decide +kernel
theorem dX6_findAll_29 : decode cX6_findAll 29 = .ok (.iload_n 1, 1) := by decide +kernel
theorem dX6_findAll_30 : decode cX6_findAll 30 = .ok (.if_icmp .ge 22, 3) := by decide +kernel
theorem dX6_findAll_33 : decode cX6_findAll 33 = .ok (.aload_n 0, 1) := by decide +kernel
theorem dX6_findAll_34 : decode cX6_findAll 34 = .ok (.iload_n 2, 1) := by decide +kernel
theorem dX6_findAll_35 : decode cX6_findAll 35 = .ok (.invokevirtual 90, 3) := by decide +kernel
theorem dX6_findAll_38 : decode cX6_findAll 38 = .ok (.ifCond .eq 8, 3) := by decide +kernel
theorem dX6_findAll_41 : decode cX6_findAll 41 = .ok (.aload_n 0, 1) := by decide +kernel
theorem dX6_findAll_42 : decode cX6_findAll 42 = .ok (.iload_n 2, 1) := by decide +kernel
theorem dX6_findAll_43 : decode cX6_findAll 43 = .ok (.invokevirtual 93, 3) := by decide +kernel
theorem dX6_findAll_46 : decode cX6_findAll 46 = .ok (.iinc 2 1, 3) := by decide +kernel
theorem dX6_findAll_49 : decode cX6_findAll 49 = .ok (.goto (-21), 3) := by decide +kernel
theorem dX6_findAll_52 : decode cX6_findAll 52 = .ok (.aload_n 0, 1) := by decide +kernel
theorem dX6_findAll_53 : decode cX6_findAll 53 = .ok (.iconst 0, 1) := by decide +kernel
theorem dX6_findAll_54 : decode cX6_findAll 54 = .ok (.putfield 55, 3) := by decide +kernel
theorem dX6_findAll_57 : decode cX6_findAll 57 = .ok (.iconst 0, 1) := by decide +kernel
theorem dX6_findAll_58 : decode cX6_findAll 58 = .ok (.istore_n 2, 1) := by decide +kernel
theorem dX6_findAll_59 : decode cX6_findAll 59 = .ok (.iload_n 2, 1) := by decide +kernel
theorem dX6_findAll_60 : decode cX6_findAll 60 = .ok (.iload_n 1, 1) := by decide +kernel
theorem dX6_findAll_61 : decode cX6_findAll 61 = .ok (.if_icmp .ge 45, 3) := by decide +kernel
theorem dX6_findAll_64 : decode cX6_findAll 64 = .ok (.aload_n 0, 1) := by decide +kernel
theorem dX6_findAll_65 : decode cX6_findAll 65 = .ok (.iload_n 2, 1) := by decide +kernel
theorem dX6_findAll_66 : decode cX6_findAll 66 = .ok (.invokevirtual 90, 3) := by decide +kernel
theorem dX6_findAll_69 : decode cX6_findAll 69 = .ok (.ifCond .eq 31, 3) := by decide +kernel
theorem dX6_findAll_72 : decode cX6_findAll 72 = .ok (.aload_n 0, 1) := by decide +kernel
theorem dX6_findAll_73 : decode cX6_findAll 73 = .ok (.iload_n 2, 1) := by decide +kernel
theorem dX6_findAll_74 : decode cX6_findAll 74 = .ok (.invokevirtual 97, 3) := by decide +kernel
theorem dX6_findAll_77 : decode cX6_findAll 77 = .ok (.ifCond .eq 23, 3) := by decide +kernel
theorem dX6_findAll_80 : decode cX6_findAll 80 = .ok (.aload_n 0, 1) := by decide +kernel
theorem dX6_findAll_81 : decode cX6_findAll 81 = .ok (.getfield 33, 3) := by decide +kernel
theorem dX6_findAll_84 : decode cX6_findAll 84 = .ok (.aload_n 0, 1) := by decide +kernel
theorem dX6_findAll_85 : decode cX6_findAll 85 = .ok (.getfield 55, 3) := by decide +kernel
theorem dX6_findAll_88 : decode cX6_findAll 88 = .ok (.iload_n 2, 1) := by decide +kernel
theorem dX6_findAll_89 : decode cX6_findAll 89 = .ok (.iastore, 1) := by decide +kernel
theorem dX6_findAll_90 : decode cX6_findAll 90 = .ok (.aload_n 0, 1) := by decide +kernel
theorem dX6_findAll_91 : decode cX6_findAll 91 = .ok (.dup, 1) := by decide +kernel
theorem dX6_findAll_92 : decode cX6_findAll 92 = .ok (.getfield 55, 3) := by decide +kernel
theorem dX6_findAll_95 : decode cX6_findAll 95 = .ok (.iconst 1, 1) := by decide +kernel
theorem dX6_findAll_96 : decode cX6_findAll 96 = .ok (.iadd, 1) := by decide +kernel
theorem dX6_findAll_97 : decode cX6_findAll 97 = .ok (.putfield 55, 3) := by decide +kernel
theorem dX6_findAll_100 : decode cX6_findAll 100 = .ok (.iinc 2 1, 3) := by decide +kernel
theorem dX6_findAll_103 : decode cX6_findAll 103 = .ok (.goto (-44), 3) := by decide +kernel
theorem dX6_findAll_106 : decode cX6_findAll 106 = .ok (.aload_n 0, 1) := by decide +kernel
theorem dX6_findAll_107 : decode cX6_findAll 107 = .ok (.getfield 55, 3) := by decide +kernel
theorem dX6_findAll_110 : decode cX6_findAll 110 = .ok (.ireturn, 1) := by decide +kernel
theorem dX6_foundAt_0 : decode cX6_foundAt 0 = .ok (.iload_n 1, 1) := by decide +kernel
theorem dX6_foundAt_1 : decode cX6_foundAt 1 = .ok (.ifCond .lt 20, 3) := by decide +kernel
theorem dX6_foundAt_4 : decode cX6_foundAt 4 = .ok (.iload_n 1, 1) := by decide +kernel
theorem dX6_foundAt_5 : decode cX6_foundAt 5 = .ok (.aload_n 0, 1) := by decide +kernel
theorem dX6_foundAt_6 : decode cX6_foundAt 6 = .ok (.getfield 55, 3) := by decide +kernel
theorem dX6_foundAt_9 : decode cX6_foundAt 9 = .ok (.if_icmp .ge 12, 3) := by decide +kernel
theorem dX6_foundAt_12 : decode cX6_foundAt 12 = .ok (.aload_n 0, 1) := by decide +kernel
theorem dX6_foundAt_13 : decode cX6_foundAt 13 = .ok (.getfield 33, 3) := by decide +kernel
theorem dX6_foundAt_16 : decode cX6_foundAt 16 = .ok (.iload_n 1, 1) := by decide +kernel
theorem dX6_foundAt_17 : decode cX6_foundAt 17 = .ok (.iaload, 1) := by decide +kernel
theorem dX6_foundAt_18 : decode cX6_foundAt 18 = .ok (.goto 4, 3) := by decide +kernel
theorem dX6_foundAt_21 : decode cX6_foundAt 21 = .ok (.iconst (-1), 1) := by decide +kernel
theorem dX6_foundAt_22 : decode cX6_foundAt 22 = .ok (.ireturn, 1) := by decide +kernel
theorem dX7_init_0 : decode cX7_init 0 = .ok (.aload_n 0, 1) := by decide +kernel
theorem dX7_init_1 : decode cX7_init 1 = .ok (.invokespecial 3, 3) := by decide +kernel
theorem dX7_init_4 : decode cX7_init 4 = .ok (.aload_n 0, 1) := by decide +kernel
theorem dX7_init_5 : decode cX7_init 5 = .ok (.aload_n 1, 1) := by decide +kernel
theorem dX7_init_6 : decode cX7_init 6 = .ok (.putfield 9, 3) := by decide +kernel
theorem dX7_init_9 : decode cX7_init 9 = .ok (.aload_n 0, 1) := by decide +kernel
theorem dX7_init_10 : decode cX7_init 10 = .ok (.aload_n 2, 1) := by decide +kernel
theorem dX7_init_11 : decode cX7_init 11 = .ok (.putfield 15, 3) := by decide +kernel
theorem dX7_init_14 : decode cX7_init 14 = .ok (.aload_n 0, 1) := by decide +kernel
theorem dX7_init_15 : decode cX7_init 15 = .ok (.aload_n 2, 1) := by decide +kernel
theorem dX7_init_16 : decode cX7_init 16 = .ok (.getfield 19, 3) := by decide +kernel
theorem dX7_init_19 : decode cX7_init 19 = .ok (.putfield 25, 3) := by decide +kernel
theorem dX7_init_22 : decode cX7_init 22 = .ok (.return_, 1) := by decide +kernel
theorem dX7_read_0 : decode cX7_read 0 = .ok (.aload_n 1, 1) := by decide +kernel
theorem dX7_read_1 : decode cX7_read 1 = .ok (.invokevirtual 28, 3) := by decide +kernel
theorem dX7_read_4 : decode cX7_read 4 = .ok (.aload_n 0, 1) := by decide +kernel
theorem dX7_read_5 : decode cX7_read 5 = .ok (.aload_n 1, 1) := by decide +kernel
theorem dX7_read_6 : decode cX7_read 6 = .ok (.putfield 15, 3) := by decide +kernel
theorem dX7_read_9 : decode cX7_read 9 = .ok (.aload_n 0, 1) := by decide +kernel
theorem dX7_read_10 : decode cX7_read 10 = .ok (.iconst 0, 1) := by decide +kernel
theorem dX7_read_11 : decode cX7_read 11 = .ok (.putfield 31, 3) := by decide +kernel
theorem dX7_read_14 : decode cX7_read 14 = .ok (.aload_n 0, 1) := by decide +kernel
theorem dX7_read_15 : decode cX7_read 15 = .ok (.getfield 9, 3) := by decide +kernel
theorem dX7_read_18 : decode cX7_read 18 = .ok (.invokevirtual 35, 3) := by decide +kernel
theorem dX7_read_21 : decode cX7_read 21 = .ok (.iconst 0, 1) := by decide +kernel
theorem dX7_read_22 : decode cX7_read 22 = .ok (.istore_n 2, 1) := by decide +kernel
theorem dX7_read_23 : decode cX7_read 23 = .ok (.iload_n 2, 1) := by decide +kernel
theorem dX7_read_24 : decode cX7_read 24 = .ok (.sipush 1000, 3) := by decide +kernel
theorem dX7_read_27 : decode cX7_read 27 = .ok (.if_icmp .ge 30, 3) := by decide +kernel
theorem dX7_read_30 : decode cX7_read 30 = .ok (.aload_n 0, 1) := by decide +kernel
theorem dX7_read_31 : decode cX7_read 31 = .ok (.getfield 31, 3) := by decide +kernel
theorem dX7_read_34 : decode cX7_read 34 = .ok (.ifCond .ne 23, 3) := by decide +kernel
theorem dX7_read_37 : decode cX7_read 37 = .ok (.aload_n 0, 1) := by decide +kernel
theorem dX7_read_38 : decode cX7_read 38 = .ok (.getfield 9, 3) := by decide +kernel
theorem dX7_read_41 : decode cX7_read 41 = .ok (.getfield 40, 3) := by decide +kernel
theorem dX7_read_44 : decode cX7_read 44 = .ok (.ifCond .ne 13, 3) := by decide +kernel
theorem dX7_read_47 : decode cX7_read 47 = .ok (.aload_n 0, 1) := by decide +kernel
theorem dX7_read_48 : decode cX7_read 48 = .ok (.invokevirtual 44, 3) := by decide +kernel
theorem dX7_read_51 : decode cX7_read 51 = .ok (.iinc 2 1, 3) := by decide +kernel
theorem dX7_read_54 : decode cX7_read 54 = .ok (.goto (-31), 3) := by decide +kernel
theorem dX7_read_57 : decode cX7_read 57 = .ok (.aload_n 1, 1) := by decide +kernel
theorem dX7_read_58 : decode cX7_read 58 = .ok (.getfield 19, 3) := by decide +kernel
theorem dX7_read_61 : decode cX7_read 61 = .ok (.getfield 47, 3) := by decide +kernel
theorem dX7_read_64 : decode cX7_read 64 = .ok (.ifCond .ne 12, 3) := by decide +kernel
theorem dX7_read_67 : decode cX7_read 67 = .ok (.aload_n 1, 1) := by decide +kernel
theorem dX7_read_68 : decode cX7_read 68 = .ok (.getfield 19, 3) := by decide +kernel
theorem dX7_read_71 : decode cX7_read 71 = .ok (.iconst 0, 1) := by decide +kernel
theorem dX7_read_72 : decode cX7_read 72 = .ok (.invokevirtual 52, 3) := by decide +kernel
theorem dX7_read_75 : decode cX7_read 75 = .ok (.pop, 1) := by decide +kernel
theorem dX7_read_76 : decode cX7_read 76 = .ok (.aload_n 1, 1) := by decide +kernel
theorem dX7_read_77 : decode cX7_read 77 = .ok (.getfield 56, 3) := by decide +kernel
theorem dX7_read_80 : decode cX7_read 80 = .ok (.getfield 47, 3) := by decide +kernel
theorem dX7_read_83 : decode cX7_read 83 = .ok (.ifCond .ne 12, 3) := by decide +kernel
theorem dX7_read_86 : decode cX7_read 86 = .ok (.aload_n 1, 1) := by decide +kernel
theorem dX7_read_87 : decode cX7_read 87 = .ok (.getfield 56, 3) := by decide +kernel
theorem dX7_read_90 : decode cX7_read 90 = .ok (.iconst 0, 1) := by decide +kernel
theorem dX7_read_91 : decode cX7_read 91 = .ok (.invokevirtual 59, 3) := by decide +kernel
theorem dX7_read_94 : decode cX7_read 94 = .ok (.pop, 1) := by decide +kernel
theorem dX7_read_95 : decode cX7_read 95 = .ok (.aload_n 0, 1) := by decide +kernel
theorem dX7_read_96 : decode cX7_read 96 = .ok (.getfield 31, 3) := by decide +kernel
theorem dX7_read_99 : decode cX7_read 99 = .ok (.ireturn, 1) := by decide +kernel
theorem dX7_readLine_0 : decode cX7_readLine 0 = .ok (.aload_n 0, 1) := by decide +kernel
theorem dX7_readLine_1 : decode cX7_readLine 1 = .ok (.getfield 9, 3) := by decide +kernel
theorem dX7_readLine_4 : decode cX7_readLine 4 = .ok (.getfield 62, 3) := by decide +kernel
theorem dX7_readLine_7 : decode cX7_readLine 7 = .ok (.lstore_n 1, 1) := by decide +kernel
theorem dX7_readLine_8 : decode cX7_readLine 8 = .ok (.lload_n 1, 1) := by decide +kernel
theorem dX7_readLine_9 : decode cX7_readLine 9 = .ok (.ldc2_w 66, 3) := by decide +kernel
theorem dX7_readLine_12 : decode cX7_readLine 12 = .ok (.lcmp, 1) := by decide +kernel
theorem dX7_readLine_13 : decode cX7_readLine 13 = .ok (.ifCond .ne 10, 3) := by decide +kernel
theorem dX7_readLine_16 : decode cX7_readLine 16 = .ok (.aload_n 0, 1) := by decide +kernel
theorem dX7_readLine_17 : decode cX7_readLine 17 = .ok (.invokevirtual 68, 3) := by decide +kernel
theorem dX7_readLine_20 : decode cX7_readLine 20 = .ok (.goto 112, 3) := by decide +kernel
theorem dX7_readLine_23 : decode cX7_readLine 23 = .ok (.lload_n 1, 1) := by decide +kernel
theorem dX7_readLine_24 : decode cX7_readLine 24 = .ok (.ldc2_w 71, 3) := by decide +kernel
theorem dX7_readLine_27 : decode cX7_readLine 27 = .ok (.lcmp, 1) := by decide +kernel
theorem dX7_readLine_28 : decode cX7_readLine 28 = .ok (.ifCond .ne 10, 3) := by decide +kernel
theorem dX7_readLine_31 : decode cX7_readLine 31 = .ok (.aload_n 0, 1) := by decide +kernel
theorem dX7_readLine_32 : decode cX7_readLine 32 = .ok (.invokevirtual 73, 3) := by decide +kernel
theorem dX7_readLine_35 : decode cX7_readLine 35 = .ok (.goto 97, 3) := by decide +kernel
theorem dX7_readLine_38 : decode cX7_readLine 38 = .ok (.lload_n 1, 1) := by decide +kernel
theorem dX7_readLine_39 : decode cX7_readLine 39 = .ok (.ldc2_w 76, 3) := by decide +kernel
theorem dX7_readLine_42 : decode cX7_readLine 42 = .ok (.lcmp, 1) := by decide +kernel
theorem dX7_readLine_43 : decode cX7_readLine 43 = .ok (.ifCond .ne 10, 3) := by decide +kernel
theorem dX7_readLine_46 : decode cX7_readLine 46 = .ok (.aload_n 0, 1) := by decide +kernel
theorem dX7_readLine_47 : decode cX7_readLine 47 = .ok (.invokevirtual 78, 3) := by decide +kernel
theorem dX7_readLine_50 : decode cX7_readLine 50 = .ok (.goto 82, 3) := by decide +kernel
theorem dX7_readLine_53 : decode cX7_readLine 53 = .ok (.lload_n 1, 1) := by decide +kernel
theorem dX7_readLine_54 : decode cX7_readLine 54 = .ok (.ldc2_w 81, 3) := by decide +kernel
theorem dX7_readLine_57 : decode cX7_readLine 57 = .ok (.lcmp, 1) := by decide +kernel
theorem dX7_readLine_58 : decode cX7_readLine 58 = .ok (.ifCond .ne 10, 3) := by decide +kernel
theorem dX7_readLine_61 : decode cX7_readLine 61 = .ok (.aload_n 0, 1) := by decide +kernel
theorem dX7_readLine_62 : decode cX7_readLine 62 = .ok (.invokevirtual 83, 3) := by decide +kernel
theorem dX7_readLine_65 : decode cX7_readLine 65 = .ok (.goto 67, 3) := by decide +kernel
theorem dX7_readLine_68 : decode cX7_readLine 68 = .ok (.lload_n 1, 1) := by decide +kernel
theorem dX7_readLine_69 : decode cX7_readLine 69 = .ok (.ldc2_w 86, 3) := by decide +kernel
theorem dX7_readLine_72 : decode cX7_readLine 72 = .ok (.lcmp, 1) := by decide +kernel
theorem dX7_readLine_73 : decode cX7_readLine 73 = .ok (.ifCond .ne 10, 3) := by decide +kernel
theorem dX7_readLine_76 : decode cX7_readLine 76 = .ok (.aload_n 0, 1) := by decide +kernel
theorem dX7_readLine_77 : decode cX7_readLine 77 = .ok (.invokevirtual 88, 3) := by decide +kernel
theorem dX7_readLine_80 : decode cX7_readLine 80 = .ok (.goto 52, 3) := by decide +kernel
theorem dX7_readLine_83 : decode cX7_readLine 83 = .ok (.lload_n 1, 1) := by decide +kernel
theorem dX7_readLine_84 : decode cX7_readLine 84 = .ok (.ldc2_w 91, 3) := by decide +kernel
theorem dX7_readLine_87 : decode cX7_readLine 87 = .ok (.lcmp, 1) := by decide +kernel
theorem dX7_readLine_88 : decode cX7_readLine 88 = .ok (.ifCond .ne 17, 3) := by decide +kernel
theorem dX7_readLine_91 : decode cX7_readLine 91 = .ok (.aload_n 0, 1) := by decide +kernel
theorem dX7_readLine_92 : decode cX7_readLine 92 = .ok (.aload_n 0, 1) := by decide +kernel
theorem dX7_readLine_93 : decode cX7_readLine 93 = .ok (.getfield 15, 3) := by decide +kernel
theorem dX7_readLine_96 : decode cX7_readLine 96 = .ok (.getfield 19, 3) := by decide +kernel
theorem dX7_readLine_99 : decode cX7_readLine 99 = .ok (.invokevirtual 93, 3) := by decide +kernel
theorem dX7_readLine_102 : decode cX7_readLine 102 = .ok (.goto 30, 3) := by decide +kernel
theorem dX7_readLine_105 : decode cX7_readLine 105 = .ok (.lload_n 1, 1) := by decide +kernel
theorem dX7_readLine_106 : decode cX7_readLine 106 = .ok (.ldc2_w 97, 3) := by decide +kernel
theorem dX7_readLine_109 : decode cX7_readLine 109 = .ok (.lcmp, 1) := by decide +kernel
theorem dX7_readLine_110 : decode cX7_readLine 110 = .ok (.ifCond .ne 17, 3) := by decide +kernel
theorem dX7_readLine_113 : decode cX7_readLine 113 = .ok (.aload_n 0, 1) := by decide +kernel
theorem dX7_readLine_114 : decode cX7_readLine 114 = .ok (.aload_n 0, 1) := by decide +kernel
theorem dX7_readLine_115 : decode cX7_readLine 115 = .ok (.getfield 15, 3) := by decide +kernel
theorem dX7_readLine_118 : decode cX7_readLine 118 = .ok (.getfield 56, 3) := by decide +kernel
theorem dX7_readLine_121 : decode cX7_readLine 121 = .ok (.invokevirtual 93, 3) := by decide +kernel
theorem dX7_readLine_124 : decode cX7_readLine 124 = .ok (.goto 8, 3) := by decide +kernel
theorem dX7_readLine_127 : decode cX7_readLine 127 = .ok (.aload_n 0, 1) := by decide +kernel
theorem dX7_readLine_128 : decode cX7_readLine 128 = .ok (.iconst 1, 1) := by decide +kernel
theorem dX7_readLine_129 : decode cX7_readLine 129 = .ok (.invokevirtual 99, 3) := by decide +kernel
theorem dX7_readLine_132 : decode cX7_readLine 132 = .ok (.return_, 1) := by decide +kernel
theorem dX7_readFarm_0 : decode cX7_readFarm 0 = .ok (.aload_n 0, 1) := by decide +kernel
theorem dX7_readFarm_1 : decode cX7_readFarm 1 = .ok (.getfield 15, 3) := by decide +kernel
theorem dX7_readFarm_4 : decode cX7_readFarm 4 = .ok (.getfield 103, 3) := by decide +kernel
theorem dX7_readFarm_7 : decode cX7_readFarm 7 = .ok (.bipush 6, 2) := by decide +kernel
theorem dX7_readFarm_9 : decode cX7_readFarm 9 = .ok (.if_icmp .lt 8, 3) := by decide +kernel
theorem dX7_readFarm_12 : decode cX7_readFarm 12 = .ok (.aload_n 0, 1) := by decide +kernel
theorem dX7_readFarm_13 : decode cX7_readFarm 13 = .ok (.iconst 5, 1) := by decide +kernel
theorem dX7_readFarm_14 : decode cX7_readFarm 14 = .ok (.invokevirtual 99, 3) := by decide +kernel
theorem dX7_readFarm_17 : decode cX7_readFarm 17 = .ok (.aload_n 0, 1) := by decide +kernel
theorem dX7_readFarm_18 : decode cX7_readFarm 18 = .ok (.getfield 9, 3) := by decide +kernel
theorem dX7_readFarm_21 : decode cX7_readFarm 21 = .ok (.invokevirtual 106, 3) := by decide +kernel
theorem dX7_readFarm_24 : decode cX7_readFarm 24 = .ok (.aload_n 0, 1) := by decide +kernel
theorem dX7_readFarm_25 : decode cX7_readFarm 25 = .ok (.getfield 9, 3) := by decide +kernel
theorem dX7_readFarm_28 : decode cX7_readFarm 28 = .ok (.getfield 62, 3) := by decide +kernel
theorem dX7_readFarm_31 : decode cX7_readFarm 31 = .ok (.lstore_n 1, 1) := by decide +kernel
theorem dX7_readFarm_32 : decode cX7_readFarm 32 = .ok (.lload_n 1, 1) := by decide +kernel
theorem dX7_readFarm_33 : decode cX7_readFarm 33 = .ok (.invokestatic 109, 3) := by decide +kernel
theorem dX7_readFarm_36 : decode cX7_readFarm 36 = .ok (.ifCond .ne 11, 3) := by decide +kernel
theorem dX7_readFarm_39 : decode cX7_readFarm 39 = .ok (.aload_n 0, 1) := by decide +kernel
theorem dX7_readFarm_40 : decode cX7_readFarm 40 = .ok (.iconst 1, 1) := by decide +kernel
theorem dX7_readFarm_41 : decode cX7_readFarm 41 = .ok (.invokevirtual 99, 3) := by decide +kernel
theorem dX7_readFarm_44 : decode cX7_readFarm 44 = .ok (.goto 20, 3) := by decide +kernel
theorem dX7_readFarm_47 : decode cX7_readFarm 47 = .ok (.aload_n 0, 1) := by decide +kernel
theorem dX7_readFarm_48 : decode cX7_readFarm 48 = .ok (.getfield 15, 3) := by decide +kernel
theorem dX7_readFarm_51 : decode cX7_readFarm 51 = .ok (.lload_n 1, 1) := by decide +kernel
theorem dX7_readFarm_52 : decode cX7_readFarm 52 = .ok (.invokevirtual 113, 3) := by decide +kernel
theorem dX7_readFarm_55 : decode cX7_readFarm 55 = .ok (.iconst (-1), 1) := by decide +kernel
theorem dX7_readFarm_56 : decode cX7_readFarm 56 = .ok (.if_icmp .eq 8, 3) := by decide +kernel
theorem dX7_readFarm_59 : decode cX7_readFarm 59 = .ok (.aload_n 0, 1) := by decide +kernel
theorem dX7_readFarm_60 : decode cX7_readFarm 60 = .ok (.iconst 3, 1) := by decide +kernel
theorem dX7_readFarm_61 : decode cX7_readFarm 61 = .ok (.invokevirtual 99, 3) := by decide +kernel
theorem dX7_readFarm_64 : decode cX7_readFarm 64 = .ok (.aload_n 0, 1) := by decide +kernel
theorem dX7_readFarm_65 : decode cX7_readFarm 65 = .ok (.getfield 9, 3) := by decide +kernel
theorem dX7_readFarm_68 : decode cX7_readFarm 68 = .ok (.invokevirtual 106, 3) := by decide +kernel
theorem dX7_readFarm_71 : decode cX7_readFarm 71 = .ok (.aload_n 0, 1) := by decide +kernel
theorem dX7_readFarm_72 : decode cX7_readFarm 72 = .ok (.ldc2_w 117, 3) := by decide +kernel
theorem dX7_readFarm_75 : decode cX7_readFarm 75 = .ok (.invokevirtual 119, 3) := by decide +kernel
theorem dX7_readFarm_78 : decode cX7_readFarm 78 = .ok (.aload_n 0, 1) := by decide +kernel
theorem dX7_readFarm_79 : decode cX7_readFarm 79 = .ok (.sipush 9999, 3) := by decide +kernel
theorem dX7_readFarm_82 : decode cX7_readFarm 82 = .ok (.invokevirtual 123, 3) := by decide +kernel
theorem dX7_readFarm_85 : decode cX7_readFarm 85 = .ok (.istore_n 3, 1) := by decide +kernel
theorem dX7_readFarm_86 : decode cX7_readFarm 86 = .ok (.aload_n 0, 1) := by decide +kernel
theorem dX7_readFarm_87 : decode cX7_readFarm 87 = .ok (.ldc2_w 126, 3) := by decide +kernel
theorem dX7_readFarm_90 : decode cX7_readFarm 90 = .ok (.invokevirtual 119, 3) := by decide +kernel
theorem dX7_readFarm_93 : decode cX7_readFarm 93 = .ok (.aload_n 0, 1) := by decide +kernel
theorem dX7_readFarm_94 : decode cX7_readFarm 94 = .ok (.bipush 9, 2) := by decide +kernel
theorem dX7_readFarm_96 : decode cX7_readFarm 96 = .ok (.invokevirtual 123, 3) := by decide +kernel
theorem dX7_readFarm_99 : decode cX7_readFarm 99 = .ok (.istore 4, 2) := by decide +kernel
theorem dX7_readFarm_101 : decode cX7_readFarm 101 = .ok (.aload_n 0, 1) := by decide +kernel
theorem dX7_readFarm_102 : decode cX7_readFarm 102 = .ok (.ldc2_w 128, 3) := by decide +kernel
theorem dX7_readFarm_105 : decode cX7_readFarm 105 = .ok (.invokevirtual 119, 3) := by decide +kernel
theorem dX7_readFarm_108 : decode cX7_readFarm 108 = .ok (.aload_n 0, 1) := by decide +kernel
theorem dX7_readFarm_109 : decode cX7_readFarm 109 = .ok (.bipush 99, 2) := by decide +kernel
theorem dX7_readFarm_111 : decode cX7_readFarm 111 = .ok (.invokevirtual 123, 3) := by decide +kernel
theorem dX7_readFarm_114 : decode cX7_readFarm 114 = .ok (.istore 5, 2) := by decide +kernel
theorem dX7_readFarm_116 : decode cX7_readFarm 116 = .ok (.aload_n 0, 1) := by decide +kernel
theorem dX7_readFarm_117 : decode cX7_readFarm 117 = .ok (.bipush 59, 2) := by decide +kernel
theorem dX7_readFarm_119 : decode cX7_readFarm 119 = .ok (.invokevirtual 130, 3) := by decide +kernel
theorem dX7_readFarm_122 : decode cX7_readFarm 122 = .ok (.aload_n 0, 1) := by decide +kernel
theorem dX7_readFarm_123 : decode cX7_readFarm 123 = .ok (.getfield 31, 3) := by decide +kernel
theorem dX7_readFarm_126 : decode cX7_readFarm 126 = .ok (.ifCond .ne 16, 3) := by decide +kernel
theorem dX7_readFarm_129 : decode cX7_readFarm 129 = .ok (.aload_n 0, 1) := by decide +kernel
theorem dX7_readFarm_130 : decode cX7_readFarm 130 = .ok (.getfield 15, 3) := by decide +kernel
theorem dX7_readFarm_133 : decode cX7_readFarm 133 = .ok (.lload_n 1, 1) := by decide +kernel
theorem dX7_readFarm_134 : decode cX7_readFarm 134 = .ok (.iload_n 3, 1) := by decide +kernel
theorem dX7_readFarm_135 : decode cX7_readFarm 135 = .ok (.iload 4, 2) := by decide +kernel
theorem dX7_readFarm_137 : decode cX7_readFarm 137 = .ok (.iload 5, 2) := by decide +kernel
theorem dX7_readFarm_139 : decode cX7_readFarm 139 = .ok (.invokevirtual 134, 3) := by decide +kernel
theorem dX7_readFarm_142 : decode cX7_readFarm 142 = .ok (.return_, 1) := by decide +kernel
theorem dX7_readFence_0 : decode cX7_readFence 0 = .ok (.aload_n 0, 1) := by decide +kernel
theorem dX7_readFence_1 : decode cX7_readFence 1 = .ok (.getfield 9, 3) := by decide +kernel
theorem dX7_readFence_4 : decode cX7_readFence 4 = .ok (.invokevirtual 106, 3) := by decide +kernel
theorem dX7_readFence_7 : decode cX7_readFence 7 = .ok (.aload_n 0, 1) := by decide +kernel
theorem dX7_readFence_8 : decode cX7_readFence 8 = .ok (.invokevirtual 138, 3) := by decide +kernel
theorem dX7_readFence_11 : decode cX7_readFence 11 = .ok (.istore_n 1, 1) := by decide +kernel
theorem dX7_readFence_12 : decode cX7_readFence 12 = .ok (.aload_n 0, 1) := by decide +kernel
theorem dX7_readFence_13 : decode cX7_readFence 13 = .ok (.getfield 9, 3) := by decide +kernel
theorem dX7_readFence_16 : decode cX7_readFence 16 = .ok (.invokevirtual 106, 3) := by decide +kernel
theorem dX7_readFence_19 : decode cX7_readFence 19 = .ok (.aload_n 0, 1) := by decide +kernel
theorem dX7_readFence_20 : decode cX7_readFence 20 = .ok (.invokevirtual 138, 3) := by decide +kernel
theorem dX7_readFence_23 : decode cX7_readFence 23 = .ok (.istore_n 2, 1) := by decide +kernel
theorem dX7_readFence_24 : decode cX7_readFence 24 = .ok (.iload_n 1, 1) := by decide +kernel
theorem dX7_readFence_25 : decode cX7_readFence 25 = .ok (.iload_n 2, 1) := by decide +kernel
theorem dX7_readFence_26 : decode cX7_readFence 26 = .ok (.if_icmp .eq 15, 3) := by decide +kernel
theorem dX7_readFence_29 : decode cX7_readFence 29 = .ok (.aload_n 0, 1) := by decide +kernel
theorem dX7_readFence_30 : decode cX7_readFence 30 = .ok (.getfield 15, 3) := by decide +kernel
theorem dX7_readFence_33 : decode cX7_readFence 33 = .ok (.iload_n 1, 1) := by decide +kernel
theorem dX7_readFence_34 : decode cX7_readFence 34 = .ok (.iload_n 2, 1) := by decide +kernel
theorem dX7_readFence_35 : decode cX7_readFence 35 = .ok (.invokevirtual 142, 3) := by decide +kernel
theorem dX7_readFence_38 : decode cX7_readFence 38 = .ok (.ifCond .eq 8, 3) := by decide +kernel
theorem dX7_readFence_41 : decode cX7_readFence 41 = .ok (.aload_n 0, 1) := by decide +kernel
theorem dX7_readFence_42 : decode cX7_readFence 42 = .ok (.iconst 3, 1) := by decide +kernel
theorem dX7_readFence_43 : decode cX7_readFence 43 = .ok (.invokevirtual 99, 3) := by decide +kernel
theorem dX7_readFence_46 : decode cX7_readFence 46 = .ok (.aload_n 0, 1) := by decide +kernel
theorem dX7_readFence_47 : decode cX7_readFence 47 = .ok (.getfield 9, 3) := by decide +kernel
theorem dX7_readFence_50 : decode cX7_readFence 50 = .ok (.invokevirtual 106, 3) := by decide +kernel
theorem dX7_readFence_53 : decode cX7_readFence 53 = .ok (.aload_n 0, 1) := by decide +kernel
theorem dX7_readFence_54 : decode cX7_readFence 54 = .ok (.bipush 99, 2) := by decide +kernel
theorem dX7_readFence_56 : decode cX7_readFence 56 = .ok (.invokevirtual 123, 3) := by decide +kernel
theorem dX7_readFence_59 : decode cX7_readFence 59 = .ok (.istore_n 3, 1) := by decide +kernel
theorem dX7_readFence_60 : decode cX7_readFence 60 = .ok (.aload_n 0, 1) := by decide +kernel
theorem dX7_readFence_61 : decode cX7_readFence 61 = .ok (.bipush 59, 2) := by decide +kernel
theorem dX7_readFence_63 : decode cX7_readFence 63 = .ok (.invokevirtual 130, 3) := by decide +kernel
theorem dX7_readFence_66 : decode cX7_readFence 66 = .ok (.aload_n 0, 1) := by decide +kernel
theorem dX7_readFence_67 : decode cX7_readFence 67 = .ok (.getfield 31, 3) := by decide +kernel
theorem dX7_readFence_70 : decode cX7_readFence 70 = .ok (.ifCond .ne 13, 3) := by decide +kernel
theorem dX7_readFence_73 : decode cX7_readFence 73 = .ok (.aload_n 0, 1) := by decide +kernel
theorem dX7_readFence_74 : decode cX7_readFence 74 = .ok (.getfield 15, 3) := by decide +kernel
theorem dX7_readFence_77 : decode cX7_readFence 77 = .ok (.iload_n 1, 1) := by decide +kernel
theorem dX7_readFence_78 : decode cX7_readFence 78 = .ok (.iload_n 2, 1) := by decide +kernel
theorem dX7_readFence_79 : decode cX7_readFence 79 = .ok (.iload_n 3, 1) := by decide +kernel
theorem dX7_readFence_80 : decode cX7_readFence 80 = .ok (.invokevirtual 146, 3) := by decide +kernel
theorem dX7_readFence_83 : decode cX7_readFence 83 = .ok (.return_, 1) := by decide +kernel
theorem dX7_readPact_0 : decode cX7_readPact 0 = .ok (.aload_n 0, 1) := by decide +kernel
theorem dX7_readPact_1 : decode cX7_readPact 1 = .ok (.getfield 9, 3) := by decide +kernel
theorem dX7_readPact_4 : decode cX7_readPact 4 = .ok (.invokevirtual 106, 3) := by decide +kernel
theorem dX7_readPact_7 : decode cX7_readPact 7 = .ok (.aload_n 0, 1) := by decide +kernel
theorem dX7_readPact_8 : decode cX7_readPact 8 = .ok (.invokevirtual 138, 3) := by decide +kernel
theorem dX7_readPact_11 : decode cX7_readPact 11 = .ok (.istore_n 1, 1) := by decide +kernel
theorem dX7_readPact_12 : decode cX7_readPact 12 = .ok (.aload_n 0, 1) := by decide +kernel
theorem dX7_readPact_13 : decode cX7_readPact 13 = .ok (.getfield 9, 3) := by decide +kernel
theorem dX7_readPact_16 : decode cX7_readPact 16 = .ok (.invokevirtual 106, 3) := by decide +kernel
theorem dX7_readPact_19 : decode cX7_readPact 19 = .ok (.aload_n 0, 1) := by decide +kernel
theorem dX7_readPact_20 : decode cX7_readPact 20 = .ok (.invokevirtual 138, 3) := by decide +kernel
theorem dX7_readPact_23 : decode cX7_readPact 23 = .ok (.istore_n 2, 1) := by decide +kernel
theorem dX7_readPact_24 : decode cX7_readPact 24 = .ok (.iload_n 1, 1) := by decide +kernel
theorem dX7_readPact_25 : decode cX7_readPact 25 = .ok (.iload_n 2, 1) := by decide +kernel
theorem dX7_readPact_26 : decode cX7_readPact 26 = .ok (.if_icmp .eq 15, 3) := by decide +kernel
theorem dX7_readPact_29 : decode cX7_readPact 29 = .ok (.aload_n 0, 1) := by decide +kernel
theorem dX7_readPact_30 : decode cX7_readPact 30 = .ok (.getfield 15, 3) := by decide +kernel
theorem dX7_readPact_33 : decode cX7_readPact 33 = .ok (.iload_n 1, 1) := by decide +kernel
theorem dX7_readPact_34 : decode cX7_readPact 34 = .ok (.iload_n 2, 1) := by decide +kernel
theorem dX7_readPact_35 : decode cX7_readPact 35 = .ok (.invokevirtual 150, 3) := by decide +kernel
theorem dX7_readPact_38 : decode cX7_readPact 38 = .ok (.ifCond .eq 8, 3) := by decide +kernel
theorem dX7_readPact_41 : decode cX7_readPact 41 = .ok (.aload_n 0, 1) := by decide +kernel
theorem dX7_readPact_42 : decode cX7_readPact 42 = .ok (.iconst 3, 1) := by decide +kernel
theorem dX7_readPact_43 : decode cX7_readPact 43 = .ok (.invokevirtual 99, 3) := by decide +kernel
theorem dX7_readPact_46 : decode cX7_readPact 46 = .ok (.aload_n 0, 1) := by decide +kernel
theorem dX7_readPact_47 : decode cX7_readPact 47 = .ok (.getfield 9, 3) := by decide +kernel
theorem dX7_readPact_50 : decode cX7_readPact 50 = .ok (.invokevirtual 106, 3) := by decide +kernel
theorem dX7_readPact_53 : decode cX7_readPact 53 = .ok (.aload_n 0, 1) := by decide +kernel
theorem dX7_readPact_54 : decode cX7_readPact 54 = .ok (.bipush 59, 2) := by decide +kernel
theorem dX7_readPact_56 : decode cX7_readPact 56 = .ok (.invokevirtual 130, 3) := by decide +kernel
theorem dX7_readPact_59 : decode cX7_readPact 59 = .ok (.aload_n 0, 1) := by decide +kernel
theorem dX7_readPact_60 : decode cX7_readPact 60 = .ok (.getfield 31, 3) := by decide +kernel
theorem dX7_readPact_63 : decode cX7_readPact 63 = .ok (.ifCond .ne 12, 3) := by decide +kernel
theorem dX7_readPact_66 : decode cX7_readPact 66 = .ok (.aload_n 0, 1) := by decide +kernel
theorem dX7_readPact_67 : decode cX7_readPact 67 = .ok (.getfield 15, 3) := by decide +kernel
theorem dX7_readPact_70 : decode cX7_readPact 70 = .ok (.iload_n 1, 1) := by decide +kernel
theorem dX7_readPact_71 : decode cX7_readPact 71 = .ok (.iload_n 2, 1) := by decide +kernel
theorem dX7_readPact_72 : decode cX7_readPact 72 = .ok (.invokevirtual 153, 3) := by decide +kernel
theorem dX7_readPact_75 : decode cX7_readPact 75 = .ok (.return_, 1) := by decide +kernel
theorem dX7_readShare_0 : decode cX7_readShare 0 = .ok (.aload_n 0, 1) := by decide +kernel
theorem dX7_readShare_1 : decode cX7_readShare 1 = .ok (.getfield 9, 3) := by decide +kernel
theorem dX7_readShare_4 : decode cX7_readShare 4 = .ok (.invokevirtual 106, 3) := by decide +kernel
theorem dX7_readShare_7 : decode cX7_readShare 7 = .ok (.aload_n 0, 1) := by decide +kernel
theorem dX7_readShare_8 : decode cX7_readShare 8 = .ok (.invokevirtual 138, 3) := by decide +kernel
theorem dX7_readShare_11 : decode cX7_readShare 11 = .ok (.istore_n 1, 1) := by decide +kernel
theorem dX7_readShare_12 : decode cX7_readShare 12 = .ok (.aload_n 0, 1) := by decide +kernel
theorem dX7_readShare_13 : decode cX7_readShare 13 = .ok (.getfield 15, 3) := by decide +kernel
theorem dX7_readShare_16 : decode cX7_readShare 16 = .ok (.getfield 157, 3) := by decide +kernel
theorem dX7_readShare_19 : decode cX7_readShare 19 = .ok (.iload_n 1, 1) := by decide +kernel
theorem dX7_readShare_20 : decode cX7_readShare 20 = .ok (.iaload, 1) := by decide +kernel
theorem dX7_readShare_21 : decode cX7_readShare 21 = .ok (.iconst (-1), 1) := by decide +kernel
theorem dX7_readShare_22 : decode cX7_readShare 22 = .ok (.if_icmp .eq 8, 3) := by decide +kernel
theorem dX7_readShare_25 : decode cX7_readShare 25 = .ok (.aload_n 0, 1) := by decide +kernel
theorem dX7_readShare_26 : decode cX7_readShare 26 = .ok (.iconst 3, 1) := by decide +kernel
theorem dX7_readShare_27 : decode cX7_readShare 27 = .ok (.invokevirtual 99, 3) := by decide +kernel
theorem dX7_readShare_30 : decode cX7_readShare 30 = .ok (.aload_n 0, 1) := by decide +kernel
theorem dX7_readShare_31 : decode cX7_readShare 31 = .ok (.getfield 9, 3) := by decide +kernel
theorem dX7_readShare_34 : decode cX7_readShare 34 = .ok (.invokevirtual 106, 3) := by decide +kernel
theorem dX7_readShare_37 : decode cX7_readShare 37 = .ok (.aload_n 0, 1) := by decide +kernel
theorem dX7_readShare_38 : decode cX7_readShare 38 = .ok (.invokevirtual 138, 3) := by decide +kernel
theorem dX7_readShare_41 : decode cX7_readShare 41 = .ok (.istore_n 2, 1) := by decide +kernel
theorem dX7_readShare_42 : decode cX7_readShare 42 = .ok (.iload_n 1, 1) := by decide +kernel
theorem dX7_readShare_43 : decode cX7_readShare 43 = .ok (.iload_n 2, 1) := by decide +kernel
theorem dX7_readShare_44 : decode cX7_readShare 44 = .ok (.if_icmp .ne 8, 3) := by decide +kernel
theorem dX7_readShare_47 : decode cX7_readShare 47 = .ok (.aload_n 0, 1) := by decide +kernel
theorem dX7_readShare_48 : decode cX7_readShare 48 = .ok (.iconst 3, 1) := by decide +kernel
theorem dX7_readShare_49 : decode cX7_readShare 49 = .ok (.invokevirtual 99, 3) := by decide +kernel
theorem dX7_readShare_52 : decode cX7_readShare 52 = .ok (.aload_n 0, 1) := by decide +kernel
theorem dX7_readShare_53 : decode cX7_readShare 53 = .ok (.getfield 9, 3) := by decide +kernel
theorem dX7_readShare_56 : decode cX7_readShare 56 = .ok (.invokevirtual 106, 3) := by decide +kernel
theorem dX7_readShare_59 : decode cX7_readShare 59 = .ok (.aload_n 0, 1) := by decide +kernel
theorem dX7_readShare_60 : decode cX7_readShare 60 = .ok (.bipush 59, 2) := by decide +kernel
theorem dX7_readShare_62 : decode cX7_readShare 62 = .ok (.invokevirtual 130, 3) := by decide +kernel
theorem dX7_readShare_65 : decode cX7_readShare 65 = .ok (.aload_n 0, 1) := by decide +kernel
theorem dX7_readShare_66 : decode cX7_readShare 66 = .ok (.getfield 31, 3) := by decide +kernel
theorem dX7_readShare_69 : decode cX7_readShare 69 = .ok (.ifCond .ne 12, 3) := by decide +kernel
theorem dX7_readShare_72 : decode cX7_readShare 72 = .ok (.aload_n 0, 1) := by decide +kernel
theorem dX7_readShare_73 : decode cX7_readShare 73 = .ok (.getfield 15, 3) := by decide +kernel
theorem dX7_readShare_76 : decode cX7_readShare 76 = .ok (.iload_n 1, 1) := by decide +kernel
theorem dX7_readShare_77 : decode cX7_readShare 77 = .ok (.iload_n 2, 1) := by decide +kernel
theorem dX7_readShare_78 : decode cX7_readShare 78 = .ok (.invokevirtual 161, 3) := by decide +kernel
theorem dX7_readShare_81 : decode cX7_readShare 81 = .ok (.return_, 1) := by decide +kernel
theorem dX7_readTooth_0 : decode cX7_readTooth 0 = .ok (.aload_n 0, 1) := by decide +kernel
theorem dX7_readTooth_1 : decode cX7_readTooth 1 = .ok (.getfield 9, 3) := by decide +kernel
theorem dX7_readTooth_4 : decode cX7_readTooth 4 = .ok (.invokevirtual 106, 3) := by decide +kernel
theorem dX7_readTooth_7 : decode cX7_readTooth 7 = .ok (.aload_n 0, 1) := by decide +kernel
theorem dX7_readTooth_8 : decode cX7_readTooth 8 = .ok (.invokevirtual 138, 3) := by decide +kernel
theorem dX7_readTooth_11 : decode cX7_readTooth 11 = .ok (.istore_n 1, 1) := by decide +kernel
theorem dX7_readTooth_12 : decode cX7_readTooth 12 = .ok (.aload_n 0, 1) := by decide +kernel
theorem dX7_readTooth_13 : decode cX7_readTooth 13 = .ok (.getfield 15, 3) := by decide +kernel
theorem dX7_readTooth_16 : decode cX7_readTooth 16 = .ok (.iload_n 1, 1) := by decide +kernel
theorem dX7_readTooth_17 : decode cX7_readTooth 17 = .ok (.invokevirtual 164, 3) := by decide +kernel
theorem dX7_readTooth_20 : decode cX7_readTooth 20 = .ok (.ifCond .eq 8, 3) := by decide +kernel
theorem dX7_readTooth_23 : decode cX7_readTooth 23 = .ok (.aload_n 0, 1) := by decide +kernel
theorem dX7_readTooth_24 : decode cX7_readTooth 24 = .ok (.iconst 3, 1) := by decide +kernel
theorem dX7_readTooth_25 : decode cX7_readTooth 25 = .ok (.invokevirtual 99, 3) := by decide +kernel
theorem dX7_readTooth_28 : decode cX7_readTooth 28 = .ok (.aload_n 0, 1) := by decide +kernel
theorem dX7_readTooth_29 : decode cX7_readTooth 29 = .ok (.getfield 9, 3) := by decide +kernel
theorem dX7_readTooth_32 : decode cX7_readTooth 32 = .ok (.invokevirtual 106, 3) := by decide +kernel
theorem dX7_readTooth_35 : decode cX7_readTooth 35 = .ok (.iconst 0, 1) := by decide +kernel
theorem dX7_readTooth_36 : decode cX7_readTooth 36 = .ok (.istore_n 2, 1) := by decide +kernel
theorem dX7_readTooth_37 : decode cX7_readTooth 37 = .ok (.iconst 1, 1) := by decide +kernel
theorem dX7_readTooth_38 : decode cX7_readTooth 38 = .ok (.istore_n 3, 1) := by decide +kernel
theorem dX7_readTooth_39 : decode cX7_readTooth 39 = .ok (.iload_n 3, 1) := by decide +kernel
theorem dX7_readTooth_40 : decode cX7_readTooth 40 = .ok (.iconst 4, 1) := by decide +kernel
theorem dX7_readTooth_41 : decode cX7_readTooth 41 = .ok (.if_icmp .gt 76, 3) := by decide +kernel
theorem dX7_readTooth_44 : decode cX7_readTooth 44 = .ok (.aload_n 0, 1) := by decide +kernel
theorem dX7_readTooth_45 : decode cX7_readTooth 45 = .ok (.getfield 31, 3) := by decide +kernel
theorem dX7_readTooth_48 : decode cX7_readTooth 48 = .ok (.ifCond .ne 69, 3) := by decide +kernel
theorem dX7_readTooth_51 : decode cX7_readTooth 51 = .ok (.iload_n 3, 1) := by decide +kernel
theorem dX7_readTooth_52 : decode cX7_readTooth 52 = .ok (.iconst 4, 1) := by decide +kernel
theorem dX7_readTooth_53 : decode cX7_readTooth 53 = .ok (.if_icmp .lt 7, 3) := by decide +kernel
theorem dX7_readTooth_56 : decode cX7_readTooth 56 = .ok (.iload_n 2, 1) := by decide +kernel
theorem dX7_readTooth_57 : decode cX7_readTooth 57 = .ok (.ifCond .le 7, 3) := by decide +kernel
theorem dX7_readTooth_60 : decode cX7_readTooth 60 = .ok (.iconst 1, 1) := by decide +kernel
theorem dX7_readTooth_61 : decode cX7_readTooth 61 = .ok (.goto 4, 3) := by decide +kernel
theorem dX7_readTooth_64 : decode cX7_readTooth 64 = .ok (.iconst 0, 1) := by decide +kernel
theorem dX7_readTooth_65 : decode cX7_readTooth 65 = .ok (.istore 4, 2) := by decide +kernel
theorem dX7_readTooth_67 : decode cX7_readTooth 67 = .ok (.aload_n 0, 1) := by decide +kernel
theorem dX7_readTooth_68 : decode cX7_readTooth 68 = .ok (.getfield 9, 3) := by decide +kernel
theorem dX7_readTooth_71 : decode cX7_readTooth 71 = .ok (.getfield 168, 3) := by decide +kernel
theorem dX7_readTooth_74 : decode cX7_readTooth 74 = .ok (.ifCond .ne 13, 3) := by decide +kernel
theorem dX7_readTooth_77 : decode cX7_readTooth 77 = .ok (.iload 4, 2) := by decide +kernel
theorem dX7_readTooth_79 : decode cX7_readTooth 79 = .ok (.ifCond .ne 8, 3) := by decide +kernel
theorem dX7_readTooth_82 : decode cX7_readTooth 82 = .ok (.aload_n 0, 1) := by decide +kernel
theorem dX7_readTooth_83 : decode cX7_readTooth 83 = .ok (.iconst 4, 1) := by decide +kernel
theorem dX7_readTooth_84 : decode cX7_readTooth 84 = .ok (.invokevirtual 99, 3) := by decide +kernel
theorem dX7_readTooth_87 : decode cX7_readTooth 87 = .ok (.aload_n 0, 1) := by decide +kernel
theorem dX7_readTooth_88 : decode cX7_readTooth 88 = .ok (.bipush 9, 2) := by decide +kernel
theorem dX7_readTooth_90 : decode cX7_readTooth 90 = .ok (.invokevirtual 123, 3) := by decide +kernel
theorem dX7_readTooth_93 : decode cX7_readTooth 93 = .ok (.istore 5, 2) := by decide +kernel
theorem dX7_readTooth_95 : decode cX7_readTooth 95 = .ok (.iload_n 2, 1) := by decide +kernel
theorem dX7_readTooth_96 : decode cX7_readTooth 96 = .ok (.iload 5, 2) := by decide +kernel
theorem dX7_readTooth_98 : decode cX7_readTooth 98 = .ok (.iadd, 1) := by decide +kernel
theorem dX7_readTooth_99 : decode cX7_readTooth 99 = .ok (.istore_n 2, 1) := by decide +kernel
theorem dX7_readTooth_100 : decode cX7_readTooth 100 = .ok (.aload_n 0, 1) := by decide +kernel
theorem dX7_readTooth_101 : decode cX7_readTooth 101 = .ok (.getfield 15, 3) := by decide +kernel
theorem dX7_readTooth_104 : decode cX7_readTooth 104 = .ok (.iload_n 1, 1) := by decide +kernel
theorem dX7_readTooth_105 : decode cX7_readTooth 105 = .ok (.iload_n 3, 1) := by decide +kernel
theorem dX7_readTooth_106 : decode cX7_readTooth 106 = .ok (.iload 5, 2) := by decide +kernel
theorem dX7_readTooth_108 : decode cX7_readTooth 108 = .ok (.invokevirtual 171, 3) := by decide +kernel
theorem dX7_readTooth_111 : decode cX7_readTooth 111 = .ok (.iinc 3 1, 3) := by decide +kernel
theorem dX7_readTooth_114 : decode cX7_readTooth 114 = .ok (.goto (-75), 3) := by decide +kernel
theorem dX7_readTooth_117 : decode cX7_readTooth 117 = .ok (.aload_n 0, 1) := by decide +kernel
theorem dX7_readTooth_118 : decode cX7_readTooth 118 = .ok (.bipush 59, 2) := by decide +kernel
theorem dX7_readTooth_120 : decode cX7_readTooth 120 = .ok (.invokevirtual 130, 3) := by decide +kernel
theorem dX7_readTooth_123 : decode cX7_readTooth 123 = .ok (.aload_n 0, 1) := by decide +kernel
theorem dX7_readTooth_124 : decode cX7_readTooth 124 = .ok (.getfield 31, 3) := by decide +kernel
theorem dX7_readTooth_127 : decode cX7_readTooth 127 = .ok (.ifCond .ne 11, 3) := by decide +kernel
theorem dX7_readTooth_130 : decode cX7_readTooth 130 = .ok (.aload_n 0, 1) := by decide +kernel
theorem dX7_readTooth_131 : decode cX7_readTooth 131 = .ok (.getfield 15, 3) := by decide +kernel
theorem dX7_readTooth_134 : decode cX7_readTooth 134 = .ok (.iload_n 1, 1) := by decide +kernel
theorem dX7_readTooth_135 : decode cX7_readTooth 135 = .ok (.invokevirtual 174, 3) := by decide +kernel
theorem dX7_readTooth_138 : decode cX7_readTooth 138 = .ok (.return_, 1) := by decide +kernel
theorem dX7_readLaw_0 : decode cX7_readLaw 0 = .ok (.aload_n 1, 1) := by decide +kernel
theorem dX7_readLaw_1 : decode cX7_readLaw 1 = .ok (.getfield 47, 3) := by decide +kernel
theorem dX7_readLaw_4 : decode cX7_readLaw 4 = .ok (.ifCond .le 8, 3) := by decide +kernel
theorem dX7_readLaw_7 : decode cX7_readLaw 7 = .ok (.aload_n 0, 1) := by decide +kernel
theorem dX7_readLaw_8 : decode cX7_readLaw 8 = .ok (.iconst 3, 1) := by decide +kernel
theorem dX7_readLaw_9 : decode cX7_readLaw 9 = .ok (.invokevirtual 99, 3) := by decide +kernel
theorem dX7_readLaw_12 : decode cX7_readLaw 12 = .ok (.aload_n 0, 1) := by decide +kernel
theorem dX7_readLaw_13 : decode cX7_readLaw 13 = .ok (.getfield 9, 3) := by decide +kernel
theorem dX7_readLaw_16 : decode cX7_readLaw 16 = .ok (.invokevirtual 106, 3) := by decide +kernel
theorem dX7_readLaw_19 : decode cX7_readLaw 19 = .ok (.aload_n 0, 1) := by decide +kernel
theorem dX7_readLaw_20 : decode cX7_readLaw 20 = .ok (.aload_n 1, 1) := by decide +kernel
theorem dX7_readLaw_21 : decode cX7_readLaw 21 = .ok (.putfield 25, 3) := by decide +kernel
theorem dX7_readLaw_24 : decode cX7_readLaw 24 = .ok (.aload_n 0, 1) := by decide +kernel
theorem dX7_readLaw_25 : decode cX7_readLaw 25 = .ok (.iconst 0, 1) := by decide +kernel
theorem dX7_readLaw_26 : decode cX7_readLaw 26 = .ok (.invokevirtual 177, 3) := by decide +kernel
theorem dX7_readLaw_29 : decode cX7_readLaw 29 = .ok (.pop, 1) := by decide +kernel
theorem dX7_readLaw_30 : decode cX7_readLaw 30 = .ok (.aload_n 0, 1) := by decide +kernel
theorem dX7_readLaw_31 : decode cX7_readLaw 31 = .ok (.bipush 59, 2) := by decide +kernel
theorem dX7_readLaw_33 : decode cX7_readLaw 33 = .ok (.invokevirtual 130, 3) := by decide +kernel
theorem dX7_readLaw_36 : decode cX7_readLaw 36 = .ok (.return_, 1) := by decide +kernel
theorem dX7_readAll_0 : decode cX7_readAll 0 = .ok (.aload_n 0, 1) := by decide +kernel
theorem dX7_readAll_1 : decode cX7_readAll 1 = .ok (.iload_n 1, 1) := by decide +kernel
theorem dX7_readAll_2 : decode cX7_readAll 2 = .ok (.invokevirtual 180, 3) := by decide +kernel
theorem dX7_readAll_5 : decode cX7_readAll 5 = .ok (.istore_n 2, 1) := by decide +kernel
theorem dX7_readAll_6 : decode cX7_readAll 6 = .ok (.iconst 0, 1) := by decide +kernel
theorem dX7_readAll_7 : decode cX7_readAll 7 = .ok (.istore_n 3, 1) := by decide +kernel
theorem dX7_readAll_8 : decode cX7_readAll 8 = .ok (.iload_n 3, 1) := by decide +kernel
theorem dX7_readAll_9 : decode cX7_readAll 9 = .ok (.sipush 1000, 3) := by decide +kernel
theorem dX7_readAll_12 : decode cX7_readAll 12 = .ok (.if_icmp .ge 85, 3) := by decide +kernel
theorem dX7_readAll_15 : decode cX7_readAll 15 = .ok (.aload_n 0, 1) := by decide +kernel
theorem dX7_readAll_16 : decode cX7_readAll 16 = .ok (.getfield 31, 3) := by decide +kernel
theorem dX7_readAll_19 : decode cX7_readAll 19 = .ok (.ifCond .ne 78, 3) := by decide +kernel
theorem dX7_readAll_22 : decode cX7_readAll 22 = .ok (.aload_n 0, 1) := by decide +kernel
theorem dX7_readAll_23 : decode cX7_readAll 23 = .ok (.getfield 9, 3) := by decide +kernel
theorem dX7_readAll_26 : decode cX7_readAll 26 = .ok (.getfield 62, 3) := by decide +kernel
theorem dX7_readAll_29 : decode cX7_readAll 29 = .ok (.lstore 4, 2) := by decide +kernel
theorem dX7_readAll_31 : decode cX7_readAll 31 = .ok (.lload 4, 2) := by decide +kernel
theorem dX7_readAll_33 : decode cX7_readAll 33 = .ok (.ldc2_w 183, 3) := by decide +kernel
theorem dX7_readAll_36 : decode cX7_readAll 36 = .ok (.lcmp, 1) := by decide +kernel
theorem dX7_readAll_37 : decode cX7_readAll 37 = .ok (.ifCond .eq 15, 3) := by decide +kernel
theorem dX7_readAll_40 : decode cX7_readAll 40 = .ok (.lload 4, 2) := by decide +kernel
theorem dX7_readAll_42 : decode cX7_readAll 42 = .ok (.ldc2_w 185, 3) := by decide +kernel
theorem dX7_readAll_45 : decode cX7_readAll 45 = .ok (.lcmp, 1) := by decide +kernel
theorem dX7_readAll_46 : decode cX7_readAll 46 = .ok (.ifCond .eq 6, 3) := by decide +kernel
theorem dX7_readAll_49 : decode cX7_readAll 49 = .ok (.goto 48, 3) := by decide +kernel
theorem dX7_readAll_52 : decode cX7_readAll 52 = .ok (.aload_n 0, 1) := by decide +kernel
theorem dX7_readAll_53 : decode cX7_readAll 53 = .ok (.getfield 9, 3) := by decide +kernel
theorem dX7_readAll_56 : decode cX7_readAll 56 = .ok (.invokevirtual 106, 3) := by decide +kernel
theorem dX7_readAll_59 : decode cX7_readAll 59 = .ok (.aload_n 0, 1) := by decide +kernel
theorem dX7_readAll_60 : decode cX7_readAll 60 = .ok (.iload_n 1, 1) := by decide +kernel
theorem dX7_readAll_61 : decode cX7_readAll 61 = .ok (.invokevirtual 180, 3) := by decide +kernel
theorem dX7_readAll_64 : decode cX7_readAll 64 = .ok (.istore 6, 2) := by decide +kernel
theorem dX7_readAll_66 : decode cX7_readAll 66 = .ok (.aload_n 0, 1) := by decide +kernel
theorem dX7_readAll_67 : decode cX7_readAll 67 = .ok (.getfield 25, 3) := by decide +kernel
theorem dX7_readAll_70 : decode cX7_readAll 70 = .ok (.lload 4, 2) := by decide +kernel
theorem dX7_readAll_72 : decode cX7_readAll 72 = .ok (.ldc2_w 183, 3) := by decide +kernel
theorem dX7_readAll_75 : decode cX7_readAll 75 = .ok (.lcmp, 1) := by decide +kernel
theorem dX7_readAll_76 : decode cX7_readAll 76 = .ok (.ifCond .ne 7, 3) := by decide +kernel
theorem dX7_readAll_79 : decode cX7_readAll 79 = .ok (.iconst 3, 1) := by decide +kernel
theorem dX7_readAll_80 : decode cX7_readAll 80 = .ok (.goto 4, 3) := by decide +kernel
theorem dX7_readAll_83 : decode cX7_readAll 83 = .ok (.iconst 4, 1) := by decide +kernel
theorem dX7_readAll_84 : decode cX7_readAll 84 = .ok (.iload_n 2, 1) := by decide +kernel
theorem dX7_readAll_85 : decode cX7_readAll 85 = .ok (.iload 6, 2) := by decide +kernel
theorem dX7_readAll_87 : decode cX7_readAll 87 = .ok (.invokevirtual 187, 3) := by decide +kernel
theorem dX7_readAll_90 : decode cX7_readAll 90 = .ok (.istore_n 2, 1) := by decide +kernel
theorem dX7_readAll_91 : decode cX7_readAll 91 = .ok (.iinc 3 1, 3) := by decide +kernel
theorem dX7_readAll_94 : decode cX7_readAll 94 = .ok (.goto (-86), 3) := by decide +kernel
theorem dX7_readAll_97 : decode cX7_readAll 97 = .ok (.iload_n 2, 1) := by decide +kernel
theorem dX7_readAll_98 : decode cX7_readAll 98 = .ok (.ireturn, 1) := by decide +kernel
theorem dX7_readTest_0 : decode cX7_readTest 0 = .ok (.aload_n 0, 1) := by decide +kernel
theorem dX7_readTest_1 : decode cX7_readTest 1 = .ok (.iload_n 1, 1) := by decide +kernel
theorem dX7_readTest_2 : decode cX7_readTest 2 = .ok (.invokevirtual 191, 3) := by decide +kernel
theorem dX7_readTest_5 : decode cX7_readTest 5 = .ok (.istore_n 2, 1) := by decide +kernel
theorem dX7_readTest_6 : decode cX7_readTest 6 = .ok (.aload_n 0, 1) := by decide +kernel
theorem dX7_readTest_7 : decode cX7_readTest 7 = .ok (.getfield 9, 3) := by decide +kernel
theorem dX7_readTest_10 : decode cX7_readTest 10 = .ok (.getfield 194, 3) := by decide +kernel
theorem dX7_readTest_13 : decode cX7_readTest 13 = .ok (.istore_n 3, 1) := by decide +kernel
theorem dX7_readTest_14 : decode cX7_readTest 14 = .ok (.aload_n 0, 1) := by decide +kernel
theorem dX7_readTest_15 : decode cX7_readTest 15 = .ok (.getfield 31, 3) := by decide +kernel
theorem dX7_readTest_18 : decode cX7_readTest 18 = .ok (.ifCond .ne 15, 3) := by decide +kernel
theorem dX7_readTest_21 : decode cX7_readTest 21 = .ok (.iload_n 3, 1) := by decide +kernel
theorem dX7_readTest_22 : decode cX7_readTest 22 = .ok (.bipush 60, 2) := by decide +kernel
theorem dX7_readTest_24 : decode cX7_readTest 24 = .ok (.if_icmp .eq 11, 3) := by decide +kernel
theorem dX7_readTest_27 : decode cX7_readTest 27 = .ok (.iload_n 3, 1) := by decide +kernel
theorem dX7_readTest_28 : decode cX7_readTest 28 = .ok (.bipush 61, 2) := by decide +kernel
theorem dX7_readTest_30 : decode cX7_readTest 30 = .ok (.if_icmp .eq 5, 3) := by decide +kernel
theorem dX7_readTest_33 : decode cX7_readTest 33 = .ok (.iload_n 2, 1) := by decide +kernel
theorem dX7_readTest_34 : decode cX7_readTest 34 = .ok (.ireturn, 1) := by decide +kernel
theorem dX7_readTest_35 : decode cX7_readTest 35 = .ok (.aload_n 0, 1) := by decide +kernel
theorem dX7_readTest_36 : decode cX7_readTest 36 = .ok (.getfield 9, 3) := by decide +kernel
theorem dX7_readTest_39 : decode cX7_readTest 39 = .ok (.invokevirtual 106, 3) := by decide +kernel
theorem dX7_readTest_42 : decode cX7_readTest 42 = .ok (.aload_n 0, 1) := by decide +kernel
theorem dX7_readTest_43 : decode cX7_readTest 43 = .ok (.iload_n 1, 1) := by decide +kernel
theorem dX7_readTest_44 : decode cX7_readTest 44 = .ok (.invokevirtual 191, 3) := by decide +kernel
theorem dX7_readTest_47 : decode cX7_readTest 47 = .ok (.istore 4, 2) := by decide +kernel
theorem dX7_readTest_49 : decode cX7_readTest 49 = .ok (.aload_n 0, 1) := by decide +kernel
theorem dX7_readTest_50 : decode cX7_readTest 50 = .ok (.getfield 25, 3) := by decide +kernel
theorem dX7_readTest_53 : decode cX7_readTest 53 = .ok (.iload_n 3, 1) := by decide +kernel
theorem dX7_readTest_54 : decode cX7_readTest 54 = .ok (.bipush 60, 2) := by decide +kernel
theorem dX7_readTest_56 : decode cX7_readTest 56 = .ok (.if_icmp .ne 7, 3) := by decide +kernel
theorem dX7_readTest_59 : decode cX7_readTest 59 = .ok (.iconst 5, 1) := by decide +kernel
theorem dX7_readTest_60 : decode cX7_readTest 60 = .ok (.goto 5, 3) := by decide +kernel
theorem dX7_readTest_63 : decode cX7_readTest 63 = .ok (.bipush 6, 2) := by decide +kernel
theorem dX7_readTest_65 : decode cX7_readTest 65 = .ok (.iload_n 2, 1) := by decide +kernel
theorem dX7_readTest_66 : decode cX7_readTest 66 = .ok (.iload 4, 2) := by decide +kernel
theorem dX7_readTest_68 : decode cX7_readTest 68 = .ok (.invokevirtual 187, 3) := by decide +kernel
theorem dX7_readTest_71 : decode cX7_readTest 71 = .ok (.ireturn, 1) := by decide +kernel
theorem dX7_readSum_0 : decode cX7_readSum 0 = .ok (.aload_n 0, 1) := by decide +kernel
theorem dX7_readSum_1 : decode cX7_readSum 1 = .ok (.iload_n 1, 1) := by decide +kernel
theorem dX7_readSum_2 : decode cX7_readSum 2 = .ok (.invokevirtual 198, 3) := by decide +kernel
theorem dX7_readSum_5 : decode cX7_readSum 5 = .ok (.istore_n 2, 1) := by decide +kernel
theorem dX7_readSum_6 : decode cX7_readSum 6 = .ok (.iconst 0, 1) := by decide +kernel
theorem dX7_readSum_7 : decode cX7_readSum 7 = .ok (.istore_n 3, 1) := by decide +kernel
theorem dX7_readSum_8 : decode cX7_readSum 8 = .ok (.iload_n 3, 1) := by decide +kernel
theorem dX7_readSum_9 : decode cX7_readSum 9 = .ok (.sipush 1000, 3) := by decide +kernel
theorem dX7_readSum_12 : decode cX7_readSum 12 = .ok (.if_icmp .ge 81, 3) := by decide +kernel
theorem dX7_readSum_15 : decode cX7_readSum 15 = .ok (.aload_n 0, 1) := by decide +kernel
theorem dX7_readSum_16 : decode cX7_readSum 16 = .ok (.getfield 31, 3) := by decide +kernel
theorem dX7_readSum_19 : decode cX7_readSum 19 = .ok (.ifCond .ne 74, 3) := by decide +kernel
theorem dX7_readSum_22 : decode cX7_readSum 22 = .ok (.aload_n 0, 1) := by decide +kernel
theorem dX7_readSum_23 : decode cX7_readSum 23 = .ok (.getfield 9, 3) := by decide +kernel
theorem dX7_readSum_26 : decode cX7_readSum 26 = .ok (.getfield 194, 3) := by decide +kernel
theorem dX7_readSum_29 : decode cX7_readSum 29 = .ok (.istore 4, 2) := by decide +kernel
theorem dX7_readSum_31 : decode cX7_readSum 31 = .ok (.iload 4, 2) := by decide +kernel
theorem dX7_readSum_33 : decode cX7_readSum 33 = .ok (.bipush 43, 2) := by decide +kernel
theorem dX7_readSum_35 : decode cX7_readSum 35 = .ok (.if_icmp .eq 13, 3) := by decide +kernel
theorem dX7_readSum_38 : decode cX7_readSum 38 = .ok (.iload 4, 2) := by decide +kernel
theorem dX7_readSum_40 : decode cX7_readSum 40 = .ok (.bipush 45, 2) := by decide +kernel
theorem dX7_readSum_42 : decode cX7_readSum 42 = .ok (.if_icmp .eq 6, 3) := by decide +kernel
theorem dX7_readSum_45 : decode cX7_readSum 45 = .ok (.goto 48, 3) := by decide +kernel
theorem dX7_readSum_48 : decode cX7_readSum 48 = .ok (.aload_n 0, 1) := by decide +kernel
theorem dX7_readSum_49 : decode cX7_readSum 49 = .ok (.getfield 9, 3) := by decide +kernel
theorem dX7_readSum_52 : decode cX7_readSum 52 = .ok (.invokevirtual 106, 3) := by decide +kernel
theorem dX7_readSum_55 : decode cX7_readSum 55 = .ok (.aload_n 0, 1) := by decide +kernel
theorem dX7_readSum_56 : decode cX7_readSum 56 = .ok (.iload_n 1, 1) := by decide +kernel
theorem dX7_readSum_57 : decode cX7_readSum 57 = .ok (.invokevirtual 198, 3) := by decide +kernel
theorem dX7_readSum_60 : decode cX7_readSum 60 = .ok (.istore 5, 2) := by decide +kernel
theorem dX7_readSum_62 : decode cX7_readSum 62 = .ok (.aload_n 0, 1) := by decide +kernel
theorem dX7_readSum_63 : decode cX7_readSum 63 = .ok (.getfield 25, 3) := by decide +kernel
theorem dX7_readSum_66 : decode cX7_readSum 66 = .ok (.iload 4, 2) := by decide +kernel
theorem dX7_readSum_68 : decode cX7_readSum 68 = .ok (.bipush 43, 2) := by decide +kernel
theorem dX7_readSum_70 : decode cX7_readSum 70 = .ok (.if_icmp .ne 8, 3) := by decide +kernel
theorem dX7_readSum_73 : decode cX7_readSum 73 = .ok (.bipush 7, 2) := by decide +kernel
theorem dX7_readSum_75 : decode cX7_readSum 75 = .ok (.goto 5, 3) := by decide +kernel
theorem dX7_readSum_78 : decode cX7_readSum 78 = .ok (.bipush 8, 2) := by decide +kernel
theorem dX7_readSum_80 : decode cX7_readSum 80 = .ok (.iload_n 2, 1) := by decide +kernel
theorem dX7_readSum_81 : decode cX7_readSum 81 = .ok (.iload 5, 2) := by decide +kernel
theorem dX7_readSum_83 : decode cX7_readSum 83 = .ok (.invokevirtual 187, 3) := by decide +kernel
theorem dX7_readSum_86 : decode cX7_readSum 86 = .ok (.istore_n 2, 1) := by decide +kernel
theorem dX7_readSum_87 : decode cX7_readSum 87 = .ok (.iinc 3 1, 3) := by decide +kernel
theorem dX7_readSum_90 : decode cX7_readSum 90 = .ok (.goto (-82), 3) := by decide +kernel
theorem dX7_readSum_93 : decode cX7_readSum 93 = .ok (.iload_n 2, 1) := by decide +kernel
theorem dX7_readSum_94 : decode cX7_readSum 94 = .ok (.ireturn, 1) := by decide +kernel
theorem dX7_readProduct_0 : decode cX7_readProduct 0 = .ok (.aload_n 0, 1) := by decide +kernel
theorem dX7_readProduct_1 : decode cX7_readProduct 1 = .ok (.iload_n 1, 1) := by decide +kernel
theorem dX7_readProduct_2 : decode cX7_readProduct 2 = .ok (.invokevirtual 201, 3) := by decide +kernel
theorem dX7_readProduct_5 : decode cX7_readProduct 5 = .ok (.istore_n 2, 1) := by decide +kernel
theorem dX7_readProduct_6 : decode cX7_readProduct 6 = .ok (.iconst 0, 1) := by decide +kernel
theorem dX7_readProduct_7 : decode cX7_readProduct 7 = .ok (.istore_n 3, 1) := by decide +kernel
theorem dX7_readProduct_8 : decode cX7_readProduct 8 = .ok (.iload_n 3, 1) := by decide +kernel
theorem dX7_readProduct_9 : decode cX7_readProduct 9 = .ok (.sipush 1000, 3) := by decide +kernel
theorem dX7_readProduct_12 : decode cX7_readProduct 12 = .ok (.if_icmp .ge 55, 3) := by decide +kernel
theorem dX7_readProduct_15 : decode cX7_readProduct 15 = .ok (.aload_n 0, 1) := by decide +kernel
theorem dX7_readProduct_16 : decode cX7_readProduct 16 = .ok (.getfield 31, 3) := by decide +kernel
theorem dX7_readProduct_19 : decode cX7_readProduct 19 = .ok (.ifCond .ne 48, 3) := by decide +kernel
theorem dX7_readProduct_22 : decode cX7_readProduct 22 = .ok (.aload_n 0, 1) := by decide +kernel
theorem dX7_readProduct_23 : decode cX7_readProduct 23 = .ok (.getfield 9, 3) := by decide +kernel
theorem dX7_readProduct_26 : decode cX7_readProduct 26 = .ok (.getfield 194, 3) := by decide +kernel
theorem dX7_readProduct_29 : decode cX7_readProduct 29 = .ok (.bipush 42, 2) := by decide +kernel
theorem dX7_readProduct_31 : decode cX7_readProduct 31 = .ok (.if_icmp .ne 36, 3) := by decide +kernel
theorem dX7_readProduct_34 : decode cX7_readProduct 34 = .ok (.aload_n 0, 1) := by decide +kernel
theorem dX7_readProduct_35 : decode cX7_readProduct 35 = .ok (.getfield 9, 3) := by decide +kernel
theorem dX7_readProduct_38 : decode cX7_readProduct 38 = .ok (.invokevirtual 106, 3) := by decide +kernel
theorem dX7_readProduct_41 : decode cX7_readProduct 41 = .ok (.aload_n 0, 1) := by decide +kernel
theorem dX7_readProduct_42 : decode cX7_readProduct 42 = .ok (.iload_n 1, 1) := by decide +kernel
theorem dX7_readProduct_43 : decode cX7_readProduct 43 = .ok (.invokevirtual 201, 3) := by decide +kernel
theorem dX7_readProduct_46 : decode cX7_readProduct 46 = .ok (.istore 4, 2) := by decide +kernel
theorem dX7_readProduct_48 : decode cX7_readProduct 48 = .ok (.aload_n 0, 1) := by decide +kernel
theorem dX7_readProduct_49 : decode cX7_readProduct 49 = .ok (.getfield 25, 3) := by decide +kernel
theorem dX7_readProduct_52 : decode cX7_readProduct 52 = .ok (.bipush 9, 2) := by decide +kernel
theorem dX7_readProduct_54 : decode cX7_readProduct 54 = .ok (.iload_n 2, 1) := by decide +kernel
theorem dX7_readProduct_55 : decode cX7_readProduct 55 = .ok (.iload 4, 2) := by decide +kernel
theorem dX7_readProduct_57 : decode cX7_readProduct 57 = .ok (.invokevirtual 187, 3) := by decide +kernel
theorem dX7_readProduct_60 : decode cX7_readProduct 60 = .ok (.istore_n 2, 1) := by decide +kernel
theorem dX7_readProduct_61 : decode cX7_readProduct 61 = .ok (.iinc 3 1, 3) := by decide +kernel
theorem dX7_readProduct_64 : decode cX7_readProduct 64 = .ok (.goto (-56), 3) := by decide +kernel
theorem dX7_readProduct_67 : decode cX7_readProduct 67 = .ok (.iload_n 2, 1) := by decide +kernel
theorem dX7_readProduct_68 : decode cX7_readProduct 68 = .ok (.ireturn, 1) := by decide +kernel
theorem dX7_readPart_0 : decode cX7_readPart 0 = .ok (.aload_n 0, 1) := by decide +kernel
theorem dX7_readPart_1 : decode cX7_readPart 1 = .ok (.aload_n 0, 1) := by decide +kernel
theorem dX7_readPart_2 : decode cX7_readPart 2 = .ok (.getfield 9, 3) := by decide +kernel
theorem dX7_readPart_5 : decode cX7_readPart 5 = .ok (.getfield 62, 3) := by decide +kernel
theorem dX7_readPart_8 : decode cX7_readPart 8 = .ok (.invokevirtual 204, 3) := by decide +kernel
theorem dX7_readPart_11 : decode cX7_readPart 11 = .ok (.istore_n 2, 1) := by decide +kernel
theorem dX7_readPart_12 : decode cX7_readPart 12 = .ok (.aload_n 0, 1) := by decide +kernel
theorem dX7_readPart_13 : decode cX7_readPart 13 = .ok (.getfield 9, 3) := by decide +kernel
theorem dX7_readPart_16 : decode cX7_readPart 16 = .ok (.getfield 62, 3) := by decide +kernel
theorem dX7_readPart_19 : decode cX7_readPart 19 = .ok (.ldc2_w 207, 3) := by decide +kernel
theorem dX7_readPart_22 : decode cX7_readPart 22 = .ok (.lcmp, 1) := by decide +kernel
theorem dX7_readPart_23 : decode cX7_readPart 23 = .ok (.ifCond .eq 15, 3) := by decide +kernel
theorem dX7_readPart_26 : decode cX7_readPart 26 = .ok (.aload_n 0, 1) := by decide +kernel
theorem dX7_readPart_27 : decode cX7_readPart 27 = .ok (.getfield 9, 3) := by decide +kernel
theorem dX7_readPart_30 : decode cX7_readPart 30 = .ok (.getfield 194, 3) := by decide +kernel
theorem dX7_readPart_33 : decode cX7_readPart 33 = .ok (.bipush 40, 2) := by decide +kernel
theorem dX7_readPart_35 : decode cX7_readPart 35 = .ok (.if_icmp .ne 7, 3) := by decide +kernel
theorem dX7_readPart_38 : decode cX7_readPart 38 = .ok (.iconst 1, 1) := by decide +kernel
theorem dX7_readPart_39 : decode cX7_readPart 39 = .ok (.goto 4, 3) := by decide +kernel
theorem dX7_readPart_42 : decode cX7_readPart 42 = .ok (.iconst 0, 1) := by decide +kernel
theorem dX7_readPart_43 : decode cX7_readPart 43 = .ok (.istore_n 3, 1) := by decide +kernel
theorem dX7_readPart_44 : decode cX7_readPart 44 = .ok (.iload_n 2, 1) := by decide +kernel
theorem dX7_readPart_45 : decode cX7_readPart 45 = .ok (.iconst (-1), 1) := by decide +kernel
theorem dX7_readPart_46 : decode cX7_readPart 46 = .ok (.if_icmp .ne 26, 3) := by decide +kernel
theorem dX7_readPart_49 : decode cX7_readPart 49 = .ok (.aload_n 0, 1) := by decide +kernel
theorem dX7_readPart_50 : decode cX7_readPart 50 = .ok (.getfield 9, 3) := by decide +kernel
theorem dX7_readPart_53 : decode cX7_readPart 53 = .ok (.getfield 168, 3) := by decide +kernel
theorem dX7_readPart_56 : decode cX7_readPart 56 = .ok (.iconst (-1), 1) := by decide +kernel
theorem dX7_readPart_57 : decode cX7_readPart 57 = .ok (.if_icmp .ne 15, 3) := by decide +kernel
theorem dX7_readPart_60 : decode cX7_readPart 60 = .ok (.iload_n 3, 1) := by decide +kernel
theorem dX7_readPart_61 : decode cX7_readPart 61 = .ok (.ifCond .ne 11, 3) := by decide +kernel
theorem dX7_readPart_64 : decode cX7_readPart 64 = .ok (.aload_n 0, 1) := by decide +kernel
theorem dX7_readPart_65 : decode cX7_readPart 65 = .ok (.iconst 1, 1) := by decide +kernel
theorem dX7_readPart_66 : decode cX7_readPart 66 = .ok (.invokevirtual 99, 3) := by decide +kernel
theorem dX7_readPart_69 : decode cX7_readPart 69 = .ok (.goto 13, 3) := by decide +kernel
theorem dX7_readPart_72 : decode cX7_readPart 72 = .ok (.iload_n 1, 1) := by decide +kernel
theorem dX7_readPart_73 : decode cX7_readPart 73 = .ok (.iconst 5, 1) := by decide +kernel
theorem dX7_readPart_74 : decode cX7_readPart 74 = .ok (.if_icmp .lt 8, 3) := by decide +kernel
theorem dX7_readPart_77 : decode cX7_readPart 77 = .ok (.aload_n 0, 1) := by decide +kernel
theorem dX7_readPart_78 : decode cX7_readPart 78 = .ok (.iconst 5, 1) := by decide +kernel
theorem dX7_readPart_79 : decode cX7_readPart 79 = .ok (.invokevirtual 99, 3) := by decide +kernel
theorem dX7_readPart_82 : decode cX7_readPart 82 = .ok (.aload_n 0, 1) := by decide +kernel
theorem dX7_readPart_83 : decode cX7_readPart 83 = .ok (.getfield 31, 3) := by decide +kernel
theorem dX7_readPart_86 : decode cX7_readPart 86 = .ok (.ifCond .eq 5, 3) := by decide +kernel
theorem dX7_readPart_89 : decode cX7_readPart 89 = .ok (.iconst (-1), 1) := by decide +kernel
theorem dX7_readPart_90 : decode cX7_readPart 90 = .ok (.ireturn, 1) := by decide +kernel
theorem dX7_readPart_91 : decode cX7_readPart 91 = .ok (.iload_n 3, 1) := by decide +kernel
theorem dX7_readPart_92 : decode cX7_readPart 92 = .ok (.ifCond .eq 11, 3) := by decide +kernel
theorem dX7_readPart_95 : decode cX7_readPart 95 = .ok (.aload_n 0, 1) := by decide +kernel
theorem dX7_readPart_96 : decode cX7_readPart 96 = .ok (.iload_n 1, 1) := by decide +kernel
theorem dX7_readPart_97 : decode cX7_readPart 97 = .ok (.iconst 1, 1) := by decide +kernel
theorem dX7_readPart_98 : decode cX7_readPart 98 = .ok (.iadd, 1) := by decide +kernel
theorem dX7_readPart_99 : decode cX7_readPart 99 = .ok (.invokevirtual 209, 3) := by decide +kernel
theorem dX7_readPart_102 : decode cX7_readPart 102 = .ok (.ireturn, 1) := by decide +kernel
theorem dX7_readPart_103 : decode cX7_readPart 103 = .ok (.iload_n 2, 1) := by decide +kernel
theorem dX7_readPart_104 : decode cX7_readPart 104 = .ok (.iconst (-1), 1) := by decide +kernel
theorem dX7_readPart_105 : decode cX7_readPart 105 = .ok (.if_icmp .ne 20, 3) := by decide +kernel
theorem dX7_readPart_108 : decode cX7_readPart 108 = .ok (.aload_n 0, 1) := by decide +kernel
theorem dX7_readPart_109 : decode cX7_readPart 109 = .ok (.getfield 25, 3) := by decide +kernel
theorem dX7_readPart_112 : decode cX7_readPart 112 = .ok (.aload_n 0, 1) := by decide +kernel
theorem dX7_readPart_113 : decode cX7_readPart 113 = .ok (.getfield 9, 3) := by decide +kernel
theorem dX7_readPart_116 : decode cX7_readPart 116 = .ok (.getfield 168, 3) := by decide +kernel
theorem dX7_readPart_119 : decode cX7_readPart 119 = .ok (.invokevirtual 52, 3) := by decide +kernel
theorem dX7_readPart_122 : decode cX7_readPart 122 = .ok (.goto 11, 3) := by decide +kernel
theorem dX7_readPart_125 : decode cX7_readPart 125 = .ok (.aload_n 0, 1) := by decide +kernel
theorem dX7_readPart_126 : decode cX7_readPart 126 = .ok (.getfield 25, 3) := by decide +kernel
theorem dX7_readPart_129 : decode cX7_readPart 129 = .ok (.iload_n 2, 1) := by decide +kernel
theorem dX7_readPart_130 : decode cX7_readPart 130 = .ok (.invokevirtual 59, 3) := by decide +kernel
theorem dX7_readPart_133 : decode cX7_readPart 133 = .ok (.istore 4, 2) := by decide +kernel
theorem dX7_readPart_135 : decode cX7_readPart 135 = .ok (.aload_n 0, 1) := by decide +kernel
theorem dX7_readPart_136 : decode cX7_readPart 136 = .ok (.getfield 9, 3) := by decide +kernel
theorem dX7_readPart_139 : decode cX7_readPart 139 = .ok (.invokevirtual 106, 3) := by decide +kernel
theorem dX7_readPart_142 : decode cX7_readPart 142 = .ok (.iload 4, 2) := by decide +kernel
theorem dX7_readPart_144 : decode cX7_readPart 144 = .ok (.ireturn, 1) := by decide +kernel
theorem dX7_readInner_0 : decode cX7_readInner 0 = .ok (.aload_n 0, 1) := by decide +kernel
theorem dX7_readInner_1 : decode cX7_readInner 1 = .ok (.getfield 9, 3) := by decide +kernel
theorem dX7_readInner_4 : decode cX7_readInner 4 = .ok (.getfield 62, 3) := by decide +kernel
theorem dX7_readInner_7 : decode cX7_readInner 7 = .ok (.ldc2_w 207, 3) := by decide +kernel
theorem dX7_readInner_10 : decode cX7_readInner 10 = .ok (.lcmp, 1) := by decide +kernel
theorem dX7_readInner_11 : decode cX7_readInner 11 = .ok (.ifCond .ne 7, 3) := by decide +kernel
theorem dX7_readInner_14 : decode cX7_readInner 14 = .ok (.iconst 1, 1) := by decide +kernel
theorem dX7_readInner_15 : decode cX7_readInner 15 = .ok (.goto 4, 3) := by decide +kernel
theorem dX7_readInner_18 : decode cX7_readInner 18 = .ok (.iconst 0, 1) := by decide +kernel
theorem dX7_readInner_19 : decode cX7_readInner 19 = .ok (.istore_n 2, 1) := by decide +kernel
theorem dX7_readInner_20 : decode cX7_readInner 20 = .ok (.aload_n 0, 1) := by decide +kernel
theorem dX7_readInner_21 : decode cX7_readInner 21 = .ok (.getfield 9, 3) := by decide +kernel
theorem dX7_readInner_24 : decode cX7_readInner 24 = .ok (.invokevirtual 106, 3) := by decide +kernel
theorem dX7_readInner_27 : decode cX7_readInner 27 = .ok (.iload_n 2, 1) := by decide +kernel
theorem dX7_readInner_28 : decode cX7_readInner 28 = .ok (.ifCond .eq 20, 3) := by decide +kernel
theorem dX7_readInner_31 : decode cX7_readInner 31 = .ok (.aload_n 0, 1) := by decide +kernel
theorem dX7_readInner_32 : decode cX7_readInner 32 = .ok (.iload_n 1, 1) := by decide +kernel
theorem dX7_readInner_33 : decode cX7_readInner 33 = .ok (.invokevirtual 201, 3) := by decide +kernel
theorem dX7_readInner_36 : decode cX7_readInner 36 = .ok (.istore_n 3, 1) := by decide +kernel
theorem dX7_readInner_37 : decode cX7_readInner 37 = .ok (.aload_n 0, 1) := by decide +kernel
theorem dX7_readInner_38 : decode cX7_readInner 38 = .ok (.getfield 25, 3) := by decide +kernel
theorem dX7_readInner_41 : decode cX7_readInner 41 = .ok (.iconst 2, 1) := by decide +kernel
theorem dX7_readInner_42 : decode cX7_readInner 42 = .ok (.iload_n 3, 1) := by decide +kernel
theorem dX7_readInner_43 : decode cX7_readInner 43 = .ok (.iload_n 3, 1) := by decide +kernel
theorem dX7_readInner_44 : decode cX7_readInner 44 = .ok (.invokevirtual 187, 3) := by decide +kernel
theorem dX7_readInner_47 : decode cX7_readInner 47 = .ok (.ireturn, 1) := by decide +kernel
theorem dX7_readInner_48 : decode cX7_readInner 48 = .ok (.aload_n 0, 1) := by decide +kernel
theorem dX7_readInner_49 : decode cX7_readInner 49 = .ok (.iload_n 1, 1) := by decide +kernel
theorem dX7_readInner_50 : decode cX7_readInner 50 = .ok (.invokevirtual 177, 3) := by decide +kernel
theorem dX7_readInner_53 : decode cX7_readInner 53 = .ok (.istore_n 3, 1) := by decide +kernel
theorem dX7_readInner_54 : decode cX7_readInner 54 = .ok (.aload_n 0, 1) := by decide +kernel
theorem dX7_readInner_55 : decode cX7_readInner 55 = .ok (.bipush 41, 2) := by decide +kernel
theorem dX7_readInner_57 : decode cX7_readInner 57 = .ok (.invokevirtual 130, 3) := by decide +kernel
theorem dX7_readInner_60 : decode cX7_readInner 60 = .ok (.iload_n 3, 1) := by decide +kernel
theorem dX7_readInner_61 : decode cX7_readInner 61 = .ok (.ireturn, 1) := by decide +kernel
theorem dX7_factOf_0 : decode cX7_factOf 0 = .ok (.aload_n 0, 1) := by decide +kernel
theorem dX7_factOf_1 : decode cX7_factOf 1 = .ok (.getfield 25, 3) := by decide +kernel
theorem dX7_factOf_4 : decode cX7_factOf 4 = .ok (.aload_n 0, 1) := by decide +kernel
theorem dX7_factOf_5 : decode cX7_factOf 5 = .ok (.getfield 15, 3) := by decide +kernel
theorem dX7_factOf_8 : decode cX7_factOf 8 = .ok (.getfield 19, 3) := by decide +kernel
theorem dX7_factOf_11 : decode cX7_factOf 11 = .ok (.if_acmp .ne 7, 3) := by decide +kernel
theorem dX7_factOf_14 : decode cX7_factOf 14 = .ok (.iconst 1, 1) := by decide +kernel
theorem dX7_factOf_15 : decode cX7_factOf 15 = .ok (.goto 4, 3) := by decide +kernel
theorem dX7_factOf_18 : decode cX7_factOf 18 = .ok (.iconst 0, 1) := by decide +kernel
theorem dX7_factOf_19 : decode cX7_factOf 19 = .ok (.istore_n 3, 1) := by decide +kernel
theorem dX7_factOf_20 : decode cX7_factOf 20 = .ok (.lload_n 1, 1) := by decide +kernel
theorem dX7_factOf_21 : decode cX7_factOf 21 = .ok (.ldc2_w 117, 3) := by decide +kernel
theorem dX7_factOf_24 : decode cX7_factOf 24 = .ok (.lcmp, 1) := by decide +kernel
theorem dX7_factOf_25 : decode cX7_factOf 25 = .ok (.ifCond .ne 5, 3) := by decide +kernel
theorem dX7_factOf_28 : decode cX7_factOf 28 = .ok (.iconst 0, 1) := by decide +kernel
theorem dX7_factOf_29 : decode cX7_factOf 29 = .ok (.ireturn, 1) := by decide +kernel
theorem dX7_factOf_30 : decode cX7_factOf 30 = .ok (.lload_n 1, 1) := by decide +kernel
theorem dX7_factOf_31 : decode cX7_factOf 31 = .ok (.ldc2_w 126, 3) := by decide +kernel
theorem dX7_factOf_34 : decode cX7_factOf 34 = .ok (.lcmp, 1) := by decide +kernel
theorem dX7_factOf_35 : decode cX7_factOf 35 = .ok (.ifCond .ne 5, 3) := by decide +kernel
theorem dX7_factOf_38 : decode cX7_factOf 38 = .ok (.iconst 1, 1) := by decide +kernel
theorem dX7_factOf_39 : decode cX7_factOf 39 = .ok (.ireturn, 1) := by decide +kernel
theorem dX7_factOf_40 : decode cX7_factOf 40 = .ok (.lload_n 1, 1) := by decide +kernel
theorem dX7_factOf_41 : decode cX7_factOf 41 = .ok (.ldc2_w 212, 3) := by decide +kernel
theorem dX7_factOf_44 : decode cX7_factOf 44 = .ok (.lcmp, 1) := by decide +kernel
theorem dX7_factOf_45 : decode cX7_factOf 45 = .ok (.ifCond .ne 5, 3) := by decide +kernel
theorem dX7_factOf_48 : decode cX7_factOf 48 = .ok (.iconst 2, 1) := by decide +kernel
theorem dX7_factOf_49 : decode cX7_factOf 49 = .ok (.ireturn, 1) := by decide +kernel
theorem dX7_factOf_50 : decode cX7_factOf 50 = .ok (.lload_n 1, 1) := by decide +kernel
theorem dX7_factOf_51 : decode cX7_factOf 51 = .ok (.ldc2_w 214, 3) := by decide +kernel
theorem dX7_factOf_54 : decode cX7_factOf 54 = .ok (.lcmp, 1) := by decide +kernel
theorem dX7_factOf_55 : decode cX7_factOf 55 = .ok (.ifCond .ne 9, 3) := by decide +kernel
theorem dX7_factOf_58 : decode cX7_factOf 58 = .ok (.iload_n 3, 1) := by decide +kernel
theorem dX7_factOf_59 : decode cX7_factOf 59 = .ok (.ifCond .eq 5, 3) := by decide +kernel
theorem dX7_factOf_62 : decode cX7_factOf 62 = .ok (.iconst 3, 1) := by decide +kernel
theorem dX7_factOf_63 : decode cX7_factOf 63 = .ok (.ireturn, 1) := by decide +kernel
theorem dX7_factOf_64 : decode cX7_factOf 64 = .ok (.lload_n 1, 1) := by decide +kernel
theorem dX7_factOf_65 : decode cX7_factOf 65 = .ok (.ldc2_w 71, 3) := by decide +kernel
theorem dX7_factOf_68 : decode cX7_factOf 68 = .ok (.lcmp, 1) := by decide +kernel
theorem dX7_factOf_69 : decode cX7_factOf 69 = .ok (.ifCond .ne 9, 3) := by decide +kernel
theorem dX7_factOf_72 : decode cX7_factOf 72 = .ok (.iload_n 3, 1) := by decide +kernel
theorem dX7_factOf_73 : decode cX7_factOf 73 = .ok (.ifCond .ne 5, 3) := by decide +kernel
theorem dX7_factOf_76 : decode cX7_factOf 76 = .ok (.iconst 4, 1) := by decide +kernel
theorem dX7_factOf_77 : decode cX7_factOf 77 = .ok (.ireturn, 1) := by decide +kernel
theorem dX7_factOf_78 : decode cX7_factOf 78 = .ok (.lload_n 1, 1) := by decide +kernel
theorem dX7_factOf_79 : decode cX7_factOf 79 = .ok (.ldc2_w 216, 3) := by decide +kernel
theorem dX7_factOf_82 : decode cX7_factOf 82 = .ok (.lcmp, 1) := by decide +kernel
theorem dX7_factOf_83 : decode cX7_factOf 83 = .ok (.ifCond .ne 11, 3) := by decide +kernel
theorem dX7_factOf_86 : decode cX7_factOf 86 = .ok (.iload_n 3, 1) := by decide +kernel
theorem dX7_factOf_87 : decode cX7_factOf 87 = .ok (.ifCond .ne 7, 3) := by decide +kernel
theorem dX7_factOf_90 : decode cX7_factOf 90 = .ok (.iconst 5, 1) := by decide +kernel
theorem dX7_factOf_91 : decode cX7_factOf 91 = .ok (.goto 4, 3) := by decide +kernel
theorem dX7_factOf_94 : decode cX7_factOf 94 = .ok (.iconst (-1), 1) := by decide +kernel
theorem dX7_factOf_95 : decode cX7_factOf 95 = .ok (.ireturn, 1) := by decide +kernel
theorem dX7_isName_0 : decode cX7_isName 0 = .ok (.iconst 0, 1) := by decide +kernel
theorem dX7_isName_1 : decode cX7_isName 1 = .ok (.istore_n 2, 1) := by decide +kernel
theorem dX7_isName_2 : decode cX7_isName 2 = .ok (.iload_n 2, 1) := by decide +kernel
theorem dX7_isName_3 : decode cX7_isName 3 = .ok (.getstatic 218, 3) := by decide +kernel
theorem dX7_isName_6 : decode cX7_isName 6 = .ok (.arraylength, 1) := by decide +kernel
theorem dX7_isName_7 : decode cX7_isName 7 = .ok (.if_icmp .ge 21, 3) := by decide +kernel
theorem dX7_isName_10 : decode cX7_isName 10 = .ok (.lload_n 0, 1) := by decide +kernel
theorem dX7_isName_11 : decode cX7_isName 11 = .ok (.getstatic 218, 3) := by decide +kernel
theorem dX7_isName_14 : decode cX7_isName 14 = .ok (.iload_n 2, 1) := by decide +kernel
theorem dX7_isName_15 : decode cX7_isName 15 = .ok (.laload, 1) := by decide +kernel
theorem dX7_isName_16 : decode cX7_isName 16 = .ok (.lcmp, 1) := by decide +kernel
theorem dX7_isName_17 : decode cX7_isName 17 = .ok (.ifCond .ne 5, 3) := by decide +kernel
theorem dX7_isName_20 : decode cX7_isName 20 = .ok (.iconst 0, 1) := by decide +kernel
theorem dX7_isName_21 : decode cX7_isName 21 = .ok (.ireturn, 1) := by decide +kernel
theorem dX7_isName_22 : decode cX7_isName 22 = .ok (.iinc 2 1, 3) := by decide +kernel
theorem dX7_isName_25 : decode cX7_isName 25 = .ok (.goto (-23), 3) := by decide +kernel
theorem dX7_isName_28 : decode cX7_isName 28 = .ok (.lload_n 0, 1) := by decide +kernel
theorem dX7_isName_29 : decode cX7_isName 29 = .ok (.lconst 0, 1) := by decide +kernel
theorem dX7_isName_30 : decode cX7_isName 30 = .ok (.lcmp, 1) := by decide +kernel
theorem dX7_isName_31 : decode cX7_isName 31 = .ok (.ifCond .eq 7, 3) := by decide +kernel
theorem dX7_isName_34 : decode cX7_isName 34 = .ok (.iconst 1, 1) := by decide +kernel
theorem dX7_isName_35 : decode cX7_isName 35 = .ok (.goto 4, 3) := by decide +kernel
theorem dX7_isName_38 : decode cX7_isName 38 = .ok (.iconst 0, 1) := by decide +kernel
theorem dX7_isName_39 : decode cX7_isName 39 = .ok (.ireturn, 1) := by decide +kernel
theorem dX7_oldFarm_0 : decode cX7_oldFarm 0 = .ok (.aload_n 0, 1) := by decide +kernel
theorem dX7_oldFarm_1 : decode cX7_oldFarm 1 = .ok (.getfield 15, 3) := by decide +kernel
theorem dX7_oldFarm_4 : decode cX7_oldFarm 4 = .ok (.aload_n 0, 1) := by decide +kernel
theorem dX7_oldFarm_5 : decode cX7_oldFarm 5 = .ok (.getfield 9, 3) := by decide +kernel
theorem dX7_oldFarm_8 : decode cX7_oldFarm 8 = .ok (.getfield 62, 3) := by decide +kernel
theorem dX7_oldFarm_11 : decode cX7_oldFarm 11 = .ok (.invokevirtual 113, 3) := by decide +kernel
theorem dX7_oldFarm_14 : decode cX7_oldFarm 14 = .ok (.istore_n 1, 1) := by decide +kernel
theorem dX7_oldFarm_15 : decode cX7_oldFarm 15 = .ok (.aload_n 0, 1) := by decide +kernel
theorem dX7_oldFarm_16 : decode cX7_oldFarm 16 = .ok (.getfield 9, 3) := by decide +kernel
theorem dX7_oldFarm_19 : decode cX7_oldFarm 19 = .ok (.getfield 62, 3) := by decide +kernel
theorem dX7_oldFarm_22 : decode cX7_oldFarm 22 = .ok (.invokestatic 109, 3) := by decide +kernel
theorem dX7_oldFarm_25 : decode cX7_oldFarm 25 = .ok (.ifCond .ne 11, 3) := by decide +kernel
theorem dX7_oldFarm_28 : decode cX7_oldFarm 28 = .ok (.aload_n 0, 1) := by decide +kernel
theorem dX7_oldFarm_29 : decode cX7_oldFarm 29 = .ok (.iconst 1, 1) := by decide +kernel
theorem dX7_oldFarm_30 : decode cX7_oldFarm 30 = .ok (.invokevirtual 99, 3) := by decide +kernel
theorem dX7_oldFarm_33 : decode cX7_oldFarm 33 = .ok (.goto 13, 3) := by decide +kernel
theorem dX7_oldFarm_36 : decode cX7_oldFarm 36 = .ok (.iload_n 1, 1) := by decide +kernel
theorem dX7_oldFarm_37 : decode cX7_oldFarm 37 = .ok (.iconst (-1), 1) := by decide +kernel
theorem dX7_oldFarm_38 : decode cX7_oldFarm 38 = .ok (.if_icmp .ne 8, 3) := by decide +kernel
theorem dX7_oldFarm_41 : decode cX7_oldFarm 41 = .ok (.aload_n 0, 1) := by decide +kernel
theorem dX7_oldFarm_42 : decode cX7_oldFarm 42 = .ok (.iconst 2, 1) := by decide +kernel
theorem dX7_oldFarm_43 : decode cX7_oldFarm 43 = .ok (.invokevirtual 99, 3) := by decide +kernel
theorem dX7_oldFarm_46 : decode cX7_oldFarm 46 = .ok (.iload_n 1, 1) := by decide +kernel
theorem dX7_oldFarm_47 : decode cX7_oldFarm 47 = .ok (.iconst (-1), 1) := by decide +kernel
theorem dX7_oldFarm_48 : decode cX7_oldFarm 48 = .ok (.if_icmp .ne 7, 3) := by decide +kernel
theorem dX7_oldFarm_51 : decode cX7_oldFarm 51 = .ok (.iconst 0, 1) := by decide +kernel
theorem dX7_oldFarm_52 : decode cX7_oldFarm 52 = .ok (.goto 4, 3) := by decide +kernel
theorem dX7_oldFarm_55 : decode cX7_oldFarm 55 = .ok (.iload_n 1, 1) := by decide +kernel
theorem dX7_oldFarm_56 : decode cX7_oldFarm 56 = .ok (.ireturn, 1) := by decide +kernel
theorem dX7_readWord_0 : decode cX7_readWord 0 = .ok (.aload_n 0, 1) := by decide +kernel
theorem dX7_readWord_1 : decode cX7_readWord 1 = .ok (.getfield 9, 3) := by decide +kernel
theorem dX7_readWord_4 : decode cX7_readWord 4 = .ok (.getfield 62, 3) := by decide +kernel
theorem dX7_readWord_7 : decode cX7_readWord 7 = .ok (.lload_n 1, 1) := by decide +kernel
theorem dX7_readWord_8 : decode cX7_readWord 8 = .ok (.lcmp, 1) := by decide +kernel
theorem dX7_readWord_9 : decode cX7_readWord 9 = .ok (.ifCond .eq 8, 3) := by decide +kernel
theorem dX7_readWord_12 : decode cX7_readWord 12 = .ok (.aload_n 0, 1) := by decide +kernel
theorem dX7_readWord_13 : decode cX7_readWord 13 = .ok (.iconst 1, 1) := by decide +kernel
theorem dX7_readWord_14 : decode cX7_readWord 14 = .ok (.invokevirtual 99, 3) := by decide +kernel
theorem dX7_readWord_17 : decode cX7_readWord 17 = .ok (.aload_n 0, 1) := by decide +kernel
theorem dX7_readWord_18 : decode cX7_readWord 18 = .ok (.getfield 9, 3) := by decide +kernel
theorem dX7_readWord_21 : decode cX7_readWord 21 = .ok (.invokevirtual 106, 3) := by decide +kernel
theorem dX7_readWord_24 : decode cX7_readWord 24 = .ok (.return_, 1) := by decide +kernel
theorem dX7_readNumber_0 : decode cX7_readNumber 0 = .ok (.aload_n 0, 1) := by decide +kernel
theorem dX7_readNumber_1 : decode cX7_readNumber 1 = .ok (.getfield 9, 3) := by decide +kernel
theorem dX7_readNumber_4 : decode cX7_readNumber 4 = .ok (.getfield 168, 3) := by decide +kernel
theorem dX7_readNumber_7 : decode cX7_readNumber 7 = .ok (.istore_n 2, 1) := by decide +kernel
theorem dX7_readNumber_8 : decode cX7_readNumber 8 = .ok (.iload_n 2, 1) := by decide +kernel
theorem dX7_readNumber_9 : decode cX7_readNumber 9 = .ok (.iconst (-1), 1) := by decide +kernel
theorem dX7_readNumber_10 : decode cX7_readNumber 10 = .ok (.if_icmp .ne 11, 3) := by decide +kernel
theorem dX7_readNumber_13 : decode cX7_readNumber 13 = .ok (.aload_n 0, 1) := by decide +kernel
theorem dX7_readNumber_14 : decode cX7_readNumber 14 = .ok (.iconst 1, 1) := by decide +kernel
theorem dX7_readNumber_15 : decode cX7_readNumber 15 = .ok (.invokevirtual 99, 3) := by decide +kernel
theorem dX7_readNumber_18 : decode cX7_readNumber 18 = .ok (.goto 13, 3) := by decide +kernel
theorem dX7_readNumber_21 : decode cX7_readNumber 21 = .ok (.iload_n 2, 1) := by decide +kernel
theorem dX7_readNumber_22 : decode cX7_readNumber 22 = .ok (.iload_n 1, 1) := by decide +kernel
theorem dX7_readNumber_23 : decode cX7_readNumber 23 = .ok (.if_icmp .le 8, 3) := by decide +kernel
theorem dX7_readNumber_26 : decode cX7_readNumber 26 = .ok (.aload_n 0, 1) := by decide +kernel
theorem dX7_readNumber_27 : decode cX7_readNumber 27 = .ok (.iconst 4, 1) := by decide +kernel
theorem dX7_readNumber_28 : decode cX7_readNumber 28 = .ok (.invokevirtual 99, 3) := by decide +kernel
theorem dX7_readNumber_31 : decode cX7_readNumber 31 = .ok (.aload_n 0, 1) := by decide +kernel
theorem dX7_readNumber_32 : decode cX7_readNumber 32 = .ok (.getfield 9, 3) := by decide +kernel
theorem dX7_readNumber_35 : decode cX7_readNumber 35 = .ok (.invokevirtual 106, 3) := by decide +kernel
theorem dX7_readNumber_38 : decode cX7_readNumber 38 = .ok (.iload_n 2, 1) := by decide +kernel
theorem dX7_readNumber_39 : decode cX7_readNumber 39 = .ok (.ireturn, 1) := by decide +kernel
theorem dX7_readSign_0 : decode cX7_readSign 0 = .ok (.aload_n 0, 1) := by decide +kernel
theorem dX7_readSign_1 : decode cX7_readSign 1 = .ok (.getfield 9, 3) := by decide +kernel
theorem dX7_readSign_4 : decode cX7_readSign 4 = .ok (.getfield 194, 3) := by decide +kernel
theorem dX7_readSign_7 : decode cX7_readSign 7 = .ok (.iload_n 1, 1) := by decide +kernel
theorem dX7_readSign_8 : decode cX7_readSign 8 = .ok (.if_icmp .eq 8, 3) := by decide +kernel
theorem dX7_readSign_11 : decode cX7_readSign 11 = .ok (.aload_n 0, 1) := by decide +kernel
theorem dX7_readSign_12 : decode cX7_readSign 12 = .ok (.iconst 1, 1) := by decide +kernel
theorem dX7_readSign_13 : decode cX7_readSign 13 = .ok (.invokevirtual 99, 3) := by decide +kernel
theorem dX7_readSign_16 : decode cX7_readSign 16 = .ok (.aload_n 0, 1) := by decide +kernel
theorem dX7_readSign_17 : decode cX7_readSign 17 = .ok (.getfield 9, 3) := by decide +kernel
theorem dX7_readSign_20 : decode cX7_readSign 20 = .ok (.invokevirtual 106, 3) := by decide +kernel
theorem dX7_readSign_23 : decode cX7_readSign 23 = .ok (.return_, 1) := by decide +kernel
theorem dX7_refuse_0 : decode cX7_refuse 0 = .ok (.aload_n 0, 1) := by decide +kernel
theorem dX7_refuse_1 : decode cX7_refuse 1 = .ok (.getfield 31, 3) := by decide +kernel
theorem dX7_refuse_4 : decode cX7_refuse 4 = .ok (.ifCond .ne 19, 3) := by decide +kernel
theorem dX7_refuse_7 : decode cX7_refuse 7 = .ok (.aload_n 0, 1) := by decide +kernel
theorem dX7_refuse_8 : decode cX7_refuse 8 = .ok (.iload_n 1, 1) := by decide +kernel
theorem dX7_refuse_9 : decode cX7_refuse 9 = .ok (.bipush 16, 2) := by decide +kernel
theorem dX7_refuse_11 : decode cX7_refuse 11 = .ok (.aload_n 0, 1) := by decide +kernel
theorem dX7_refuse_12 : decode cX7_refuse 12 = .ok (.getfield 9, 3) := by decide +kernel
theorem dX7_refuse_15 : decode cX7_refuse 15 = .ok (.getfield 222, 3) := by decide +kernel
theorem dX7_refuse_18 : decode cX7_refuse 18 = .ok (.imul, 1) := by decide +kernel
theorem dX7_refuse_19 : decode cX7_refuse 19 = .ok (.iadd, 1) := by decide +kernel
theorem dX7_refuse_20 : decode cX7_refuse 20 = .ok (.putfield 31, 3) := by decide +kernel
theorem dX7_refuse_23 : decode cX7_refuse 23 = .ok (.return_, 1) := by decide +kernel
theorem dX8_init_0 : decode cX8_init 0 = .ok (.aload_n 0, 1) := by decide +kernel
theorem dX8_init_1 : decode cX8_init 1 = .ok (.invokespecial 3, 3) := by decide +kernel
theorem dX8_init_4 : decode cX8_init 4 = .ok (.aload_n 0, 1) := by decide +kernel
theorem dX8_init_5 : decode cX8_init 5 = .ok (.sipush 1000, 3) := by decide +kernel
theorem dX8_init_8 : decode cX8_init 8 = .ok (.newarray .char, 2) := by decide +kernel
theorem dX8_init_10 : decode cX8_init 10 = .ok (.putfield 11, 3) := by decide +kernel
theorem dX8_init_13 : decode cX8_init 13 = .ok (.return_, 1) := by decide +kernel
theorem dX8_put_0 : decode cX8_put 0 = .ok (.bipush 56, 2) := by decide +kernel
theorem dX8_put_2 : decode cX8_put 2 = .ok (.istore_n 3, 1) := by decide +kernel
theorem dX8_put_3 : decode cX8_put 3 = .ok (.iload_n 3, 1) := by decide +kernel
theorem dX8_put_4 : decode cX8_put 4 = .ok (.ifCond .lt 84, 3) := by decide +kernel
theorem dX8_put_7 : decode cX8_put 7 = .ok (.lload_n 1, 1) := by decide +kernel
theorem dX8_put_8 : decode cX8_put 8 = .ok (.iload_n 3, 1) := by decide +kernel
theorem dX8_put_9 : decode cX8_put 9 = .ok (.lushr, 1) := by decide +kernel
theorem dX8_put_10 : decode cX8_put 10 = .ok (.l2i, 1) := by decide +kernel
theorem dX8_put_11 : decode cX8_put 11 = .ok (.sipush 255, 3) := by decide +kernel
theorem dX8_put_14 : decode cX8_put 14 = .ok (.iand, 1) := by decide +kernel
theorem dX8_put_15 : decode cX8_put 15 = .ok (.istore 4, 2) := by decide +kernel
theorem dX8_put_17 : decode cX8_put 17 = .ok (.iload 4, 2) := by decide +kernel
theorem dX8_put_19 : decode cX8_put 19 = .ok (.bipush 10, 2) := by decide +kernel
theorem dX8_put_21 : decode cX8_put 21 = .ok (.if_icmp .eq 17, 3) := by decide +kernel
theorem dX8_put_24 : decode cX8_put 24 = .ok (.iload 4, 2) := by decide +kernel
theorem dX8_put_26 : decode cX8_put 26 = .ok (.bipush 32, 2) := by decide +kernel
theorem dX8_put_28 : decode cX8_put 28 = .ok (.if_icmp .lt 14, 3) := by decide +kernel
theorem dX8_put_31 : decode cX8_put 31 = .ok (.iload 4, 2) := by decide +kernel
theorem dX8_put_33 : decode cX8_put 33 = .ok (.bipush 126, 2) := by decide +kernel
theorem dX8_put_35 : decode cX8_put 35 = .ok (.if_icmp .gt 7, 3) := by decide +kernel
theorem dX8_put_38 : decode cX8_put 38 = .ok (.iconst 1, 1) := by decide +kernel
theorem dX8_put_39 : decode cX8_put 39 = .ok (.goto 4, 3) := by decide +kernel
theorem dX8_put_42 : decode cX8_put 42 = .ok (.iconst 0, 1) := by decide +kernel
theorem dX8_put_43 : decode cX8_put 43 = .ok (.istore 5, 2) := by decide +kernel
theorem dX8_put_45 : decode cX8_put 45 = .ok (.iload 5, 2) := by decide +kernel
theorem dX8_put_47 : decode cX8_put 47 = .ok (.ifCond .eq 35, 3) := by decide +kernel
theorem dX8_put_50 : decode cX8_put 50 = .ok (.aload_n 0, 1) := by decide +kernel
theorem dX8_put_51 : decode cX8_put 51 = .ok (.getfield 15, 3) := by decide +kernel
theorem dX8_put_54 : decode cX8_put 54 = .ok (.sipush 1000, 3) := by decide +kernel
theorem dX8_put_57 : decode cX8_put 57 = .ok (.if_icmp .ge 25, 3) := by decide +kernel
theorem dX8_put_60 : decode cX8_put 60 = .ok (.aload_n 0, 1) := by decide +kernel
theorem dX8_put_61 : decode cX8_put 61 = .ok (.getfield 11, 3) := by decide +kernel
theorem dX8_put_64 : decode cX8_put 64 = .ok (.aload_n 0, 1) := by decide +kernel
theorem dX8_put_65 : decode cX8_put 65 = .ok (.getfield 15, 3) := by decide +kernel
theorem dX8_put_68 : decode cX8_put 68 = .ok (.iload 4, 2) := by decide +kernel
theorem dX8_put_70 : decode cX8_put 70 = .ok (.i2c, 1) := by decide +kernel
theorem dX8_put_71 : decode cX8_put 71 = .ok (.castore, 1) := by decide +kernel
theorem dX8_put_72 : decode cX8_put 72 = .ok (.aload_n 0, 1) := by decide +kernel
theorem dX8_put_73 : decode cX8_put 73 = .ok (.dup, 1) := by decide +kernel
theorem dX8_put_74 : decode cX8_put 74 = .ok (.getfield 15, 3) := by decide +kernel
theorem dX8_put_77 : decode cX8_put 77 = .ok (.iconst 1, 1) := by decide +kernel
theorem dX8_put_78 : decode cX8_put 78 = .ok (.iadd, 1) := by decide +kernel
theorem dX8_put_79 : decode cX8_put 79 = .ok (.putfield 15, 3) := by decide +kernel
theorem dX8_put_82 : decode cX8_put 82 = .ok (.iinc 3 (-8), 3) := by decide +kernel
theorem dX8_put_85 : decode cX8_put 85 = .ok (.goto (-82), 3) := by decide +kernel
theorem dX8_put_88 : decode cX8_put 88 = .ok (.return_, 1) := by decide +kernel
theorem dX8_clear_0 : decode cX8_clear 0 = .ok (.aload_n 0, 1) := by decide +kernel
theorem dX8_clear_1 : decode cX8_clear 1 = .ok (.iconst 0, 1) := by decide +kernel
theorem dX8_clear_2 : decode cX8_clear 2 = .ok (.putfield 15, 3) := by decide +kernel
theorem dX8_clear_5 : decode cX8_clear 5 = .ok (.return_, 1) := by decide +kernel
theorem dX8_start_0 : decode cX8_start 0 = .ok (.aload_n 0, 1) := by decide +kernel
theorem dX8_start_1 : decode cX8_start 1 = .ok (.iconst 0, 1) := by decide +kernel
theorem dX8_start_2 : decode cX8_start 2 = .ok (.putfield 19, 3) := by decide +kernel
theorem dX8_start_5 : decode cX8_start 5 = .ok (.aload_n 0, 1) := by decide +kernel
theorem dX8_start_6 : decode cX8_start 6 = .ok (.invokevirtual 22, 3) := by decide +kernel
theorem dX8_start_9 : decode cX8_start 9 = .ok (.return_, 1) := by decide +kernel
theorem dX8_next_0 : decode cX8_next 0 = .ok (.aload_n 0, 1) := by decide +kernel
theorem dX8_next_1 : decode cX8_next 1 = .ok (.getfield 19, 3) := by decide +kernel
theorem dX8_next_4 : decode cX8_next 4 = .ok (.aload_n 0, 1) := by decide +kernel
theorem dX8_next_5 : decode cX8_next 5 = .ok (.getfield 15, 3) := by decide +kernel
theorem dX8_next_8 : decode cX8_next 8 = .ok (.if_icmp .ge 44, 3) := by decide +kernel
theorem dX8_next_11 : decode cX8_next 11 = .ok (.aload_n 0, 1) := by decide +kernel
theorem dX8_next_12 : decode cX8_next 12 = .ok (.getfield 11, 3) := by decide +kernel
theorem dX8_next_15 : decode cX8_next 15 = .ok (.aload_n 0, 1) := by decide +kernel
theorem dX8_next_16 : decode cX8_next 16 = .ok (.getfield 19, 3) := by decide +kernel
theorem dX8_next_19 : decode cX8_next 19 = .ok (.caload, 1) := by decide +kernel
theorem dX8_next_20 : decode cX8_next 20 = .ok (.bipush 10, 2) := by decide +kernel
theorem dX8_next_22 : decode cX8_next 22 = .ok (.if_icmp .eq 17, 3) := by decide +kernel
theorem dX8_next_25 : decode cX8_next 25 = .ok (.aload_n 0, 1) := by decide +kernel
theorem dX8_next_26 : decode cX8_next 26 = .ok (.getfield 11, 3) := by decide +kernel
theorem dX8_next_29 : decode cX8_next 29 = .ok (.aload_n 0, 1) := by decide +kernel
theorem dX8_next_30 : decode cX8_next 30 = .ok (.getfield 19, 3) := by decide +kernel
theorem dX8_next_33 : decode cX8_next 33 = .ok (.caload, 1) := by decide +kernel
theorem dX8_next_34 : decode cX8_next 34 = .ok (.bipush 32, 2) := by decide +kernel
theorem dX8_next_36 : decode cX8_next 36 = .ok (.if_icmp .ne 16, 3) := by decide +kernel
theorem dX8_next_39 : decode cX8_next 39 = .ok (.aload_n 0, 1) := by decide +kernel
theorem dX8_next_40 : decode cX8_next 40 = .ok (.dup, 1) := by decide +kernel
theorem dX8_next_41 : decode cX8_next 41 = .ok (.getfield 19, 3) := by decide +kernel
theorem dX8_next_44 : decode cX8_next 44 = .ok (.iconst 1, 1) := by decide +kernel
theorem dX8_next_45 : decode cX8_next 45 = .ok (.iadd, 1) := by decide +kernel
theorem dX8_next_46 : decode cX8_next 46 = .ok (.putfield 19, 3) := by decide +kernel
theorem dX8_next_49 : decode cX8_next 49 = .ok (.goto (-49), 3) := by decide +kernel
theorem dX8_next_52 : decode cX8_next 52 = .ok (.aload_n 0, 1) := by decide +kernel
theorem dX8_next_53 : decode cX8_next 53 = .ok (.aload_n 0, 1) := by decide +kernel
theorem dX8_next_54 : decode cX8_next 54 = .ok (.getfield 19, 3) := by decide +kernel
theorem dX8_next_57 : decode cX8_next 57 = .ok (.putfield 25, 3) := by decide +kernel
theorem dX8_next_60 : decode cX8_next 60 = .ok (.aload_n 0, 1) := by decide +kernel
theorem dX8_next_61 : decode cX8_next 61 = .ok (.aload_n 0, 1) := by decide +kernel
theorem dX8_next_62 : decode cX8_next 62 = .ok (.getfield 19, 3) := by decide +kernel
theorem dX8_next_65 : decode cX8_next 65 = .ok (.aload_n 0, 1) := by decide +kernel
theorem dX8_next_66 : decode cX8_next 66 = .ok (.getfield 15, 3) := by decide +kernel
theorem dX8_next_69 : decode cX8_next 69 = .ok (.if_icmp .lt 7, 3) := by decide +kernel
theorem dX8_next_72 : decode cX8_next 72 = .ok (.iconst 1, 1) := by decide +kernel
theorem dX8_next_73 : decode cX8_next 73 = .ok (.goto 4, 3) := by decide +kernel
theorem dX8_next_76 : decode cX8_next 76 = .ok (.iconst 0, 1) := by decide +kernel
theorem dX8_next_77 : decode cX8_next 77 = .ok (.putfield 28, 3) := by decide +kernel
theorem dX8_next_80 : decode cX8_next 80 = .ok (.aload_n 0, 1) := by decide +kernel
theorem dX8_next_81 : decode cX8_next 81 = .ok (.lconst 0, 1) := by decide +kernel
theorem dX8_next_82 : decode cX8_next 82 = .ok (.putfield 32, 3) := by decide +kernel
theorem dX8_next_85 : decode cX8_next 85 = .ok (.aload_n 0, 1) := by decide +kernel
theorem dX8_next_86 : decode cX8_next 86 = .ok (.iconst (-1), 1) := by decide +kernel
theorem dX8_next_87 : decode cX8_next 87 = .ok (.putfield 36, 3) := by decide +kernel
theorem dX8_next_90 : decode cX8_next 90 = .ok (.aload_n 0, 1) := by decide +kernel
theorem dX8_next_91 : decode cX8_next 91 = .ok (.iconst 0, 1) := by decide +kernel
theorem dX8_next_92 : decode cX8_next 92 = .ok (.putfield 39, 3) := by decide +kernel
theorem dX8_next_95 : decode cX8_next 95 = .ok (.aload_n 0, 1) := by decide +kernel
theorem dX8_next_96 : decode cX8_next 96 = .ok (.getfield 19, 3) := by decide +kernel
theorem dX8_next_99 : decode cX8_next 99 = .ok (.aload_n 0, 1) := by decide +kernel
theorem dX8_next_100 : decode cX8_next 100 = .ok (.getfield 15, 3) := by decide +kernel
theorem dX8_next_103 : decode cX8_next 103 = .ok (.if_icmp .ge 66, 3) := by decide +kernel
theorem dX8_next_106 : decode cX8_next 106 = .ok (.aload_n 0, 1) := by decide +kernel
theorem dX8_next_107 : decode cX8_next 107 = .ok (.getfield 11, 3) := by decide +kernel
theorem dX8_next_110 : decode cX8_next 110 = .ok (.aload_n 0, 1) := by decide +kernel
theorem dX8_next_111 : decode cX8_next 111 = .ok (.getfield 19, 3) := by decide +kernel
theorem dX8_next_114 : decode cX8_next 114 = .ok (.caload, 1) := by decide +kernel
theorem dX8_next_115 : decode cX8_next 115 = .ok (.bipush 97, 2) := by decide +kernel
theorem dX8_next_117 : decode cX8_next 117 = .ok (.if_icmp .lt 52, 3) := by decide +kernel
theorem dX8_next_120 : decode cX8_next 120 = .ok (.aload_n 0, 1) := by decide +kernel
theorem dX8_next_121 : decode cX8_next 121 = .ok (.getfield 11, 3) := by decide +kernel
theorem dX8_next_124 : decode cX8_next 124 = .ok (.aload_n 0, 1) := by decide +kernel
theorem dX8_next_125 : decode cX8_next 125 = .ok (.getfield 19, 3) := by decide +kernel
theorem dX8_next_128 : decode cX8_next 128 = .ok (.caload, 1) := by decide +kernel
theorem dX8_next_129 : decode cX8_next 129 = .ok (.bipush 122, 2) := by decide +kernel
theorem dX8_next_131 : decode cX8_next 131 = .ok (.if_icmp .gt 38, 3) := by decide +kernel
theorem dX8_next_134 : decode cX8_next 134 = .ok (.aload_n 0, 1) := by decide +kernel
theorem dX8_next_135 : decode cX8_next 135 = .ok (.aload_n 0, 1) := by decide +kernel
theorem dX8_next_136 : decode cX8_next 136 = .ok (.getfield 32, 3) := by decide +kernel
theorem dX8_next_139 : decode cX8_next 139 = .ok (.bipush 8, 2) := by decide +kernel
theorem dX8_next_141 : decode cX8_next 141 = .ok (.lshl, 1) := by decide +kernel
theorem dX8_next_142 : decode cX8_next 142 = .ok (.aload_n 0, 1) := by decide +kernel
theorem dX8_next_143 : decode cX8_next 143 = .ok (.getfield 11, 3) := by decide +kernel
theorem dX8_next_146 : decode cX8_next 146 = .ok (.aload_n 0, 1) := by decide +kernel
theorem dX8_next_147 : decode cX8_next 147 = .ok (.getfield 19, 3) := by decide +kernel
theorem dX8_next_150 : decode cX8_next 150 = .ok (.caload, 1) := by decide +kernel
theorem dX8_next_151 : decode cX8_next 151 = .ok (.i2l, 1) := by decide +kernel
theorem dX8_next_152 : decode cX8_next 152 = .ok (.lor, 1) := by decide +kernel
theorem dX8_next_153 : decode cX8_next 153 = .ok (.putfield 32, 3) := by decide +kernel
theorem dX8_next_156 : decode cX8_next 156 = .ok (.aload_n 0, 1) := by decide +kernel
theorem dX8_next_157 : decode cX8_next 157 = .ok (.dup, 1) := by decide +kernel
theorem dX8_next_158 : decode cX8_next 158 = .ok (.getfield 19, 3) := by decide +kernel
theorem dX8_next_161 : decode cX8_next 161 = .ok (.iconst 1, 1) := by decide +kernel
theorem dX8_next_162 : decode cX8_next 162 = .ok (.iadd, 1) := by decide +kernel
theorem dX8_next_163 : decode cX8_next 163 = .ok (.putfield 19, 3) := by decide +kernel
theorem dX8_next_166 : decode cX8_next 166 = .ok (.goto (-71), 3) := by decide +kernel
theorem dX8_next_169 : decode cX8_next 169 = .ok (.aload_n 0, 1) := by decide +kernel
theorem dX8_next_170 : decode cX8_next 170 = .ok (.getfield 19, 3) := by decide +kernel
theorem dX8_next_173 : decode cX8_next 173 = .ok (.aload_n 0, 1) := by decide +kernel
theorem dX8_next_174 : decode cX8_next 174 = .ok (.getfield 25, 3) := by decide +kernel
theorem dX8_next_177 : decode cX8_next 177 = .ok (.if_icmp .le 30, 3) := by decide +kernel
theorem dX8_next_180 : decode cX8_next 180 = .ok (.aload_n 0, 1) := by decide +kernel
theorem dX8_next_181 : decode cX8_next 181 = .ok (.aload_n 0, 1) := by decide +kernel
theorem dX8_next_182 : decode cX8_next 182 = .ok (.getfield 19, 3) := by decide +kernel
theorem dX8_next_185 : decode cX8_next 185 = .ok (.aload_n 0, 1) := by decide +kernel
theorem dX8_next_186 : decode cX8_next 186 = .ok (.getfield 25, 3) := by decide +kernel
theorem dX8_next_189 : decode cX8_next 189 = .ok (.isub, 1) := by decide +kernel
theorem dX8_next_190 : decode cX8_next 190 = .ok (.bipush 8, 2) := by decide +kernel
theorem dX8_next_192 : decode cX8_next 192 = .ok (.if_icmp .gt 10, 3) := by decide +kernel
theorem dX8_next_195 : decode cX8_next 195 = .ok (.aload_n 0, 1) := by decide +kernel
theorem dX8_next_196 : decode cX8_next 196 = .ok (.getfield 32, 3) := by decide +kernel
theorem dX8_next_199 : decode cX8_next 199 = .ok (.goto 4, 3) := by decide +kernel
theorem dX8_next_202 : decode cX8_next 202 = .ok (.lconst 0, 1) := by decide +kernel
theorem dX8_next_203 : decode cX8_next 203 = .ok (.putfield 32, 3) := by decide +kernel
theorem dX8_next_206 : decode cX8_next 206 = .ok (.return_, 1) := by decide +kernel
theorem dX8_next_207 : decode cX8_next 207 = .ok (.iconst 0, 1) := by decide +kernel
theorem dX8_next_208 : decode cX8_next 208 = .ok (.istore_n 1, 1) := by decide +kernel
theorem dX8_next_209 : decode cX8_next 209 = .ok (.aload_n 0, 1) := by decide +kernel
theorem dX8_next_210 : decode cX8_next 210 = .ok (.getfield 19, 3) := by decide +kernel
theorem dX8_next_213 : decode cX8_next 213 = .ok (.aload_n 0, 1) := by decide +kernel
theorem dX8_next_214 : decode cX8_next 214 = .ok (.getfield 15, 3) := by decide +kernel
theorem dX8_next_217 : decode cX8_next 217 = .ok (.if_icmp .ge 62, 3) := by decide +kernel
theorem dX8_next_220 : decode cX8_next 220 = .ok (.aload_n 0, 1) := by decide +kernel
theorem dX8_next_221 : decode cX8_next 221 = .ok (.getfield 11, 3) := by decide +kernel
theorem dX8_next_224 : decode cX8_next 224 = .ok (.aload_n 0, 1) := by decide +kernel
theorem dX8_next_225 : decode cX8_next 225 = .ok (.getfield 19, 3) := by decide +kernel
theorem dX8_next_228 : decode cX8_next 228 = .ok (.caload, 1) := by decide +kernel
theorem dX8_next_229 : decode cX8_next 229 = .ok (.bipush 48, 2) := by decide +kernel
theorem dX8_next_231 : decode cX8_next 231 = .ok (.if_icmp .lt 48, 3) := by decide +kernel
theorem dX8_next_234 : decode cX8_next 234 = .ok (.aload_n 0, 1) := by decide +kernel
theorem dX8_next_235 : decode cX8_next 235 = .ok (.getfield 11, 3) := by decide +kernel
theorem dX8_next_238 : decode cX8_next 238 = .ok (.aload_n 0, 1) := by decide +kernel
theorem dX8_next_239 : decode cX8_next 239 = .ok (.getfield 19, 3) := by decide +kernel
theorem dX8_next_242 : decode cX8_next 242 = .ok (.caload, 1) := by decide +kernel
theorem dX8_next_243 : decode cX8_next 243 = .ok (.bipush 57, 2) := by decide +kernel
theorem dX8_next_245 : decode cX8_next 245 = .ok (.if_icmp .gt 34, 3) := by decide +kernel
theorem dX8_next_248 : decode cX8_next 248 = .ok (.iload_n 1, 1) := by decide +kernel
theorem dX8_next_249 : decode cX8_next 249 = .ok (.bipush 10, 2) := by decide +kernel
theorem dX8_next_251 : decode cX8_next 251 = .ok (.imul, 1) := by decide +kernel
theorem dX8_next_252 : decode cX8_next 252 = .ok (.aload_n 0, 1) := by decide +kernel
theorem dX8_next_253 : decode cX8_next 253 = .ok (.getfield 11, 3) := by decide +kernel
theorem dX8_next_256 : decode cX8_next 256 = .ok (.aload_n 0, 1) := by decide +kernel
theorem dX8_next_257 : decode cX8_next 257 = .ok (.getfield 19, 3) := by decide +kernel
theorem dX8_next_260 : decode cX8_next 260 = .ok (.caload, 1) := by decide +kernel
theorem dX8_next_261 : decode cX8_next 261 = .ok (.bipush 48, 2) := by decide +kernel
theorem dX8_next_263 : decode cX8_next 263 = .ok (.isub, 1) := by decide +kernel
theorem dX8_next_264 : decode cX8_next 264 = .ok (.iadd, 1) := by decide +kernel
theorem dX8_next_265 : decode cX8_next 265 = .ok (.istore_n 1, 1) := by decide +kernel
theorem dX8_next_266 : decode cX8_next 266 = .ok (.aload_n 0, 1) := by decide +kernel
theorem dX8_next_267 : decode cX8_next 267 = .ok (.dup, 1) := by decide +kernel
theorem dX8_next_268 : decode cX8_next 268 = .ok (.getfield 19, 3) := by decide +kernel
theorem dX8_next_271 : decode cX8_next 271 = .ok (.iconst 1, 1) := by decide +kernel
theorem dX8_next_272 : decode cX8_next 272 = .ok (.iadd, 1) := by decide +kernel
theorem dX8_next_273 : decode cX8_next 273 = .ok (.putfield 19, 3) := by decide +kernel
theorem dX8_next_276 : decode cX8_next 276 = .ok (.goto (-67), 3) := by decide +kernel
theorem dX8_next_279 : decode cX8_next 279 = .ok (.aload_n 0, 1) := by decide +kernel
theorem dX8_next_280 : decode cX8_next 280 = .ok (.getfield 19, 3) := by decide +kernel
theorem dX8_next_283 : decode cX8_next 283 = .ok (.aload_n 0, 1) := by decide +kernel
theorem dX8_next_284 : decode cX8_next 284 = .ok (.getfield 25, 3) := by decide +kernel
theorem dX8_next_287 : decode cX8_next 287 = .ok (.if_icmp .le 26, 3) := by decide +kernel
theorem dX8_next_290 : decode cX8_next 290 = .ok (.aload_n 0, 1) := by decide +kernel
theorem dX8_next_291 : decode cX8_next 291 = .ok (.aload_n 0, 1) := by decide +kernel
theorem dX8_next_292 : decode cX8_next 292 = .ok (.getfield 19, 3) := by decide +kernel
theorem dX8_next_295 : decode cX8_next 295 = .ok (.aload_n 0, 1) := by decide +kernel
theorem dX8_next_296 : decode cX8_next 296 = .ok (.getfield 25, 3) := by decide +kernel
theorem dX8_next_299 : decode cX8_next 299 = .ok (.isub, 1) := by decide +kernel
theorem dX8_next_300 : decode cX8_next 300 = .ok (.iconst 4, 1) := by decide +kernel
theorem dX8_next_301 : decode cX8_next 301 = .ok (.if_icmp .gt 7, 3) := by decide +kernel
theorem dX8_next_304 : decode cX8_next 304 = .ok (.iload_n 1, 1) := by decide +kernel
theorem dX8_next_305 : decode cX8_next 305 = .ok (.goto 4, 3) := by decide +kernel
theorem dX8_next_308 : decode cX8_next 308 = .ok (.iconst (-1), 1) := by decide +kernel
theorem dX8_next_309 : decode cX8_next 309 = .ok (.putfield 36, 3) := by decide +kernel
theorem dX8_next_312 : decode cX8_next 312 = .ok (.return_, 1) := by decide +kernel
theorem dX8_next_313 : decode cX8_next 313 = .ok (.aload_n 0, 1) := by decide +kernel
theorem dX8_next_314 : decode cX8_next 314 = .ok (.getfield 19, 3) := by decide +kernel
theorem dX8_next_317 : decode cX8_next 317 = .ok (.aload_n 0, 1) := by decide +kernel
theorem dX8_next_318 : decode cX8_next 318 = .ok (.getfield 15, 3) := by decide +kernel
theorem dX8_next_321 : decode cX8_next 321 = .ok (.if_icmp .ge 90, 3) := by decide +kernel
theorem dX8_next_324 : decode cX8_next 324 = .ok (.aload_n 0, 1) := by decide +kernel
theorem dX8_next_325 : decode cX8_next 325 = .ok (.getfield 11, 3) := by decide +kernel
theorem dX8_next_328 : decode cX8_next 328 = .ok (.aload_n 0, 1) := by decide +kernel
theorem dX8_next_329 : decode cX8_next 329 = .ok (.getfield 19, 3) := by decide +kernel
theorem dX8_next_332 : decode cX8_next 332 = .ok (.caload, 1) := by decide +kernel
theorem dX8_next_333 : decode cX8_next 333 = .ok (.istore_n 2, 1) := by decide +kernel
theorem dX8_next_334 : decode cX8_next 334 = .ok (.iload_n 2, 1) := by decide +kernel
theorem dX8_next_335 : decode cX8_next 335 = .ok (.bipush 40, 2) := by decide +kernel
theorem dX8_next_337 : decode cX8_next 337 = .ok (.if_icmp .eq 45, 3) := by decide +kernel
theorem dX8_next_340 : decode cX8_next 340 = .ok (.iload_n 2, 1) := by decide +kernel
theorem dX8_next_341 : decode cX8_next 341 = .ok (.bipush 41, 2) := by decide +kernel
theorem dX8_next_343 : decode cX8_next 343 = .ok (.if_icmp .eq 39, 3) := by decide +kernel
theorem dX8_next_346 : decode cX8_next 346 = .ok (.iload_n 2, 1) := by decide +kernel
theorem dX8_next_347 : decode cX8_next 347 = .ok (.bipush 60, 2) := by decide +kernel
theorem dX8_next_349 : decode cX8_next 349 = .ok (.if_icmp .eq 33, 3) := by decide +kernel
theorem dX8_next_352 : decode cX8_next 352 = .ok (.iload_n 2, 1) := by decide +kernel
theorem dX8_next_353 : decode cX8_next 353 = .ok (.bipush 61, 2) := by decide +kernel
theorem dX8_next_355 : decode cX8_next 355 = .ok (.if_icmp .eq 27, 3) := by decide +kernel
theorem dX8_next_358 : decode cX8_next 358 = .ok (.iload_n 2, 1) := by decide +kernel
theorem dX8_next_359 : decode cX8_next 359 = .ok (.bipush 43, 2) := by decide +kernel
theorem dX8_next_361 : decode cX8_next 361 = .ok (.if_icmp .eq 21, 3) := by decide +kernel
theorem dX8_next_364 : decode cX8_next 364 = .ok (.iload_n 2, 1) := by decide +kernel
theorem dX8_next_365 : decode cX8_next 365 = .ok (.bipush 45, 2) := by decide +kernel
theorem dX8_next_367 : decode cX8_next 367 = .ok (.if_icmp .eq 15, 3) := by decide +kernel
theorem dX8_next_370 : decode cX8_next 370 = .ok (.iload_n 2, 1) := by decide +kernel
theorem dX8_next_371 : decode cX8_next 371 = .ok (.bipush 42, 2) := by decide +kernel
theorem dX8_next_373 : decode cX8_next 373 = .ok (.if_icmp .eq 9, 3) := by decide +kernel
theorem dX8_next_376 : decode cX8_next 376 = .ok (.iload_n 2, 1) := by decide +kernel
theorem dX8_next_377 : decode cX8_next 377 = .ok (.bipush 59, 2) := by decide +kernel
theorem dX8_next_379 : decode cX8_next 379 = .ok (.if_icmp .ne 7, 3) := by decide +kernel
theorem dX8_next_382 : decode cX8_next 382 = .ok (.iconst 1, 1) := by decide +kernel
theorem dX8_next_383 : decode cX8_next 383 = .ok (.goto 4, 3) := by decide +kernel
theorem dX8_next_386 : decode cX8_next 386 = .ok (.iconst 0, 1) := by decide +kernel
theorem dX8_next_387 : decode cX8_next 387 = .ok (.istore_n 3, 1) := by decide +kernel
theorem dX8_next_388 : decode cX8_next 388 = .ok (.aload_n 0, 1) := by decide +kernel
theorem dX8_next_389 : decode cX8_next 389 = .ok (.iload_n 3, 1) := by decide +kernel
theorem dX8_next_390 : decode cX8_next 390 = .ok (.ifCond .eq 7, 3) := by decide +kernel
theorem dX8_next_393 : decode cX8_next 393 = .ok (.iload_n 2, 1) := by decide +kernel
theorem dX8_next_394 : decode cX8_next 394 = .ok (.goto 4, 3) := by decide +kernel
theorem dX8_next_397 : decode cX8_next 397 = .ok (.iconst 0, 1) := by decide +kernel
theorem dX8_next_398 : decode cX8_next 398 = .ok (.putfield 39, 3) := by decide +kernel
theorem dX8_next_401 : decode cX8_next 401 = .ok (.aload_n 0, 1) := by decide +kernel
theorem dX8_next_402 : decode cX8_next 402 = .ok (.dup, 1) := by decide +kernel
theorem dX8_next_403 : decode cX8_next 403 = .ok (.getfield 19, 3) := by decide +kernel
theorem dX8_next_406 : decode cX8_next 406 = .ok (.iconst 1, 1) := by decide +kernel
theorem dX8_next_407 : decode cX8_next 407 = .ok (.iadd, 1) := by decide +kernel
theorem dX8_next_408 : decode cX8_next 408 = .ok (.putfield 19, 3) := by decide +kernel
theorem dX8_next_411 : decode cX8_next 411 = .ok (.return_, 1) := by decide +kernel
theorem dX9_init_0 : decode cX9_init 0 = .ok (.aload_n 0, 1) := by decide +kernel
theorem dX9_init_1 : decode cX9_init 1 = .ok (.invokespecial 3, 3) := by decide +kernel
theorem dX9_init_4 : decode cX9_init 4 = .ok (.aload_n 0, 1) := by decide +kernel
theorem dX9_init_5 : decode cX9_init 5 = .ok (.bipush 6, 2) := by decide +kernel
theorem dX9_init_7 : decode cX9_init 7 = .ok (.newarray .int, 2) := by decide +kernel
theorem dX9_init_9 : decode cX9_init 9 = .ok (.putfield 9, 3) := by decide +kernel
theorem dX9_init_12 : decode cX9_init 12 = .ok (.aload_n 0, 1) := by decide +kernel
theorem dX9_init_13 : decode cX9_init 13 = .ok (.bipush 6, 2) := by decide +kernel
theorem dX9_init_15 : decode cX9_init 15 = .ok (.newarray .int, 2) := by decide +kernel
theorem dX9_init_17 : decode cX9_init 17 = .ok (.putfield 15, 3) := by decide +kernel
theorem dX9_init_20 : decode cX9_init 20 = .ok (.aload_n 0, 1) := by decide +kernel
theorem dX9_init_21 : decode cX9_init 21 = .ok (.bipush 6, 2) := by decide +kernel
theorem dX9_init_23 : decode cX9_init 23 = .ok (.newarray .int, 2) := by decide +kernel
theorem dX9_init_25 : decode cX9_init 25 = .ok (.putfield 18, 3) := by decide +kernel
theorem dX9_init_28 : decode cX9_init 28 = .ok (.aload_n 0, 1) := by decide +kernel
theorem dX9_init_29 : decode cX9_init 29 = .ok (.bipush 6, 2) := by decide +kernel
theorem dX9_init_31 : decode cX9_init 31 = .ok (.newarray .int, 2) := by decide +kernel
theorem dX9_init_33 : decode cX9_init 33 = .ok (.putfield 21, 3) := by decide +kernel
theorem dX9_init_36 : decode cX9_init 36 = .ok (.aload_n 0, 1) := by decide +kernel
theorem dX9_init_37 : decode cX9_init 37 = .ok (.bipush 6, 2) := by decide +kernel
theorem dX9_init_39 : decode cX9_init 39 = .ok (.newarray .int, 2) := by decide +kernel
theorem dX9_init_41 : decode cX9_init 41 = .ok (.putfield 24, 3) := by decide +kernel
theorem dX9_init_44 : decode cX9_init 44 = .ok (.aload_n 0, 1) := by decide +kernel
theorem dX9_init_45 : decode cX9_init 45 = .ok (.bipush 6, 2) := by decide +kernel
theorem dX9_init_47 : decode cX9_init 47 = .ok (.newarray .int, 2) := by decide +kernel
theorem dX9_init_49 : decode cX9_init 49 = .ok (.putfield 27, 3) := by decide +kernel
theorem dX9_init_52 : decode cX9_init 52 = .ok (.aload_n 0, 1) := by decide +kernel
theorem dX9_init_53 : decode cX9_init 53 = .ok (.bipush 6, 2) := by decide +kernel
theorem dX9_init_55 : decode cX9_init 55 = .ok (.newarray .int, 2) := by decide +kernel
theorem dX9_init_57 : decode cX9_init 57 = .ok (.putfield 30, 3) := by decide +kernel
theorem dX9_init_60 : decode cX9_init 60 = .ok (.aload_n 0, 1) := by decide +kernel
theorem dX9_init_61 : decode cX9_init 61 = .ok (.bipush 6, 2) := by decide +kernel
theorem dX9_init_63 : decode cX9_init 63 = .ok (.newarray .int, 2) := by decide +kernel
theorem dX9_init_65 : decode cX9_init 65 = .ok (.putfield 33, 3) := by decide +kernel
theorem dX9_init_68 : decode cX9_init 68 = .ok (.aload_n 0, 1) := by decide +kernel
theorem dX9_init_69 : decode cX9_init 69 = .ok (.aload_n 1, 1) := by decide +kernel
theorem dX9_init_70 : decode cX9_init 70 = .ok (.putfield 36, 3) := by decide +kernel
theorem dX9_init_73 : decode cX9_init 73 = .ok (.return_, 1) := by decide +kernel
theorem dX9_begin_0 : decode cX9_begin 0 = .ok (.aload_n 0, 1) := by decide +kernel
theorem dX9_begin_1 : decode cX9_begin 1 = .ok (.aload_n 1, 1) := by decide +kernel
theorem dX9_begin_2 : decode cX9_begin 2 = .ok (.putfield 36, 3) := by decide +kernel
theorem dX9_begin_5 : decode cX9_begin 5 = .ok (.aload_n 0, 1) := by decide +kernel
theorem dX9_begin_6 : decode cX9_begin 6 = .ok (.iconst 0, 1) := by decide +kernel
theorem dX9_begin_7 : decode cX9_begin 7 = .ok (.putfield 40, 3) := by decide +kernel
theorem dX9_begin_10 : decode cX9_begin 10 = .ok (.aload_n 0, 1) := by decide +kernel
theorem dX9_begin_11 : decode cX9_begin 11 = .ok (.lconst 0, 1) := by decide +kernel
theorem dX9_begin_12 : decode cX9_begin 12 = .ok (.putfield 44, 3) := by decide +kernel
theorem dX9_begin_15 : decode cX9_begin 15 = .ok (.aload_n 1, 1) := by decide +kernel
theorem dX9_begin_16 : decode cX9_begin 16 = .ok (.getfield 48, 3) := by decide +kernel
theorem dX9_begin_19 : decode cX9_begin 19 = .ok (.iconst 0, 1) := by decide +kernel
theorem dX9_begin_20 : decode cX9_begin 20 = .ok (.aload_n 0, 1) := by decide +kernel
theorem dX9_begin_21 : decode cX9_begin 21 = .ok (.getfield 9, 3) := by decide +kernel
theorem dX9_begin_24 : decode cX9_begin 24 = .ok (.iconst 0, 1) := by decide +kernel
theorem dX9_begin_25 : decode cX9_begin 25 = .ok (.bipush 6, 2) := by decide +kernel
theorem dX9_begin_27 : decode cX9_begin 27 = .ok (.invokestatic 51, 3) := by decide +kernel
theorem dX9_begin_30 : decode cX9_begin 30 = .ok (.aload_n 1, 1) := by decide +kernel
theorem dX9_begin_31 : decode cX9_begin 31 = .ok (.getfield 57, 3) := by decide +kernel
theorem dX9_begin_34 : decode cX9_begin 34 = .ok (.iconst 0, 1) := by decide +kernel
theorem dX9_begin_35 : decode cX9_begin 35 = .ok (.aload_n 0, 1) := by decide +kernel
theorem dX9_begin_36 : decode cX9_begin 36 = .ok (.getfield 15, 3) := by decide +kernel
theorem dX9_begin_39 : decode cX9_begin 39 = .ok (.iconst 0, 1) := by decide +kernel
theorem dX9_begin_40 : decode cX9_begin 40 = .ok (.bipush 6, 2) := by decide +kernel
theorem dX9_begin_42 : decode cX9_begin 42 = .ok (.invokestatic 51, 3) := by decide +kernel
theorem dX9_begin_45 : decode cX9_begin 45 = .ok (.aload_n 1, 1) := by decide +kernel
theorem dX9_begin_46 : decode cX9_begin 46 = .ok (.getfield 58, 3) := by decide +kernel
theorem dX9_begin_49 : decode cX9_begin 49 = .ok (.iconst 0, 1) := by decide +kernel
theorem dX9_begin_50 : decode cX9_begin 50 = .ok (.aload_n 0, 1) := by decide +kernel
theorem dX9_begin_51 : decode cX9_begin 51 = .ok (.getfield 27, 3) := by decide +kernel
theorem dX9_begin_54 : decode cX9_begin 54 = .ok (.iconst 0, 1) := by decide +kernel
theorem dX9_begin_55 : decode cX9_begin 55 = .ok (.bipush 6, 2) := by decide +kernel
theorem dX9_begin_57 : decode cX9_begin 57 = .ok (.invokestatic 51, 3) := by decide +kernel
theorem dX9_begin_60 : decode cX9_begin 60 = .ok (.aload_n 0, 1) := by decide +kernel
theorem dX9_begin_61 : decode cX9_begin 61 = .ok (.getfield 18, 3) := by decide +kernel
theorem dX9_begin_64 : decode cX9_begin 64 = .ok (.iconst 0, 1) := by decide +kernel
theorem dX9_begin_65 : decode cX9_begin 65 = .ok (.invokestatic 59, 3) := by decide +kernel
theorem dX9_begin_68 : decode cX9_begin 68 = .ok (.aload_n 0, 1) := by decide +kernel
theorem dX9_begin_69 : decode cX9_begin 69 = .ok (.getfield 21, 3) := by decide +kernel
theorem dX9_begin_72 : decode cX9_begin 72 = .ok (.iconst 0, 1) := by decide +kernel
theorem dX9_begin_73 : decode cX9_begin 73 = .ok (.invokestatic 59, 3) := by decide +kernel
theorem dX9_begin_76 : decode cX9_begin 76 = .ok (.aload_n 0, 1) := by decide +kernel
theorem dX9_begin_77 : decode cX9_begin 77 = .ok (.getfield 24, 3) := by decide +kernel
theorem dX9_begin_80 : decode cX9_begin 80 = .ok (.iconst 0, 1) := by decide +kernel
theorem dX9_begin_81 : decode cX9_begin 81 = .ok (.invokestatic 59, 3) := by decide +kernel
theorem dX9_begin_84 : decode cX9_begin 84 = .ok (.aload_n 0, 1) := by decide +kernel
theorem dX9_begin_85 : decode cX9_begin 85 = .ok (.getfield 30, 3) := by decide +kernel
theorem dX9_begin_88 : decode cX9_begin 88 = .ok (.iconst (-1), 1) := by decide +kernel
theorem dX9_begin_89 : decode cX9_begin 89 = .ok (.invokestatic 59, 3) := by decide +kernel
theorem dX9_begin_92 : decode cX9_begin 92 = .ok (.return_, 1) := by decide +kernel
theorem dX9_copyFrom_0 : decode cX9_copyFrom 0 = .ok (.aload_n 0, 1) := by decide +kernel
theorem dX9_copyFrom_1 : decode cX9_copyFrom 1 = .ok (.aload_n 1, 1) := by decide +kernel
theorem dX9_copyFrom_2 : decode cX9_copyFrom 2 = .ok (.getfield 36, 3) := by decide +kernel
theorem dX9_copyFrom_5 : decode cX9_copyFrom 5 = .ok (.putfield 36, 3) := by decide +kernel
theorem dX9_copyFrom_8 : decode cX9_copyFrom 8 = .ok (.aload_n 0, 1) := by decide +kernel
theorem dX9_copyFrom_9 : decode cX9_copyFrom 9 = .ok (.aload_n 1, 1) := by decide +kernel
theorem dX9_copyFrom_10 : decode cX9_copyFrom 10 = .ok (.getfield 40, 3) := by decide +kernel
theorem dX9_copyFrom_13 : decode cX9_copyFrom 13 = .ok (.putfield 40, 3) := by decide +kernel
theorem dX9_copyFrom_16 : decode cX9_copyFrom 16 = .ok (.aload_n 0, 1) := by decide +kernel
theorem dX9_copyFrom_17 : decode cX9_copyFrom 17 = .ok (.aload_n 1, 1) := by decide +kernel
theorem dX9_copyFrom_18 : decode cX9_copyFrom 18 = .ok (.getfield 44, 3) := by decide +kernel
theorem dX9_copyFrom_21 : decode cX9_copyFrom 21 = .ok (.putfield 44, 3) := by decide +kernel
theorem dX9_copyFrom_24 : decode cX9_copyFrom 24 = .ok (.aload_n 1, 1) := by decide +kernel
theorem dX9_copyFrom_25 : decode cX9_copyFrom 25 = .ok (.getfield 9, 3) := by decide +kernel
theorem dX9_copyFrom_28 : decode cX9_copyFrom 28 = .ok (.iconst 0, 1) := by decide +kernel
theorem dX9_copyFrom_29 : decode cX9_copyFrom 29 = .ok (.aload_n 0, 1) := by decide +kernel
theorem dX9_copyFrom_30 : decode cX9_copyFrom 30 = .ok (.getfield 9, 3) := by decide +kernel
theorem dX9_copyFrom_33 : decode cX9_copyFrom 33 = .ok (.iconst 0, 1) := by decide +kernel
theorem dX9_copyFrom_34 : decode cX9_copyFrom 34 = .ok (.bipush 6, 2) := by decide +kernel
theorem dX9_copyFrom_36 : decode cX9_copyFrom 36 = .ok (.invokestatic 51, 3) := by decide +kernel
theorem dX9_copyFrom_39 : decode cX9_copyFrom 39 = .ok (.aload_n 1, 1) := by decide +kernel
theorem dX9_copyFrom_40 : decode cX9_copyFrom 40 = .ok (.getfield 15, 3) := by decide +kernel
theorem dX9_copyFrom_43 : decode cX9_copyFrom 43 = .ok (.iconst 0, 1) := by decide +kernel
theorem dX9_copyFrom_44 : decode cX9_copyFrom 44 = .ok (.aload_n 0, 1) := by decide +kernel
theorem dX9_copyFrom_45 : decode cX9_copyFrom 45 = .ok (.getfield 15, 3) := by decide +kernel
theorem dX9_copyFrom_48 : decode cX9_copyFrom 48 = .ok (.iconst 0, 1) := by decide +kernel
theorem dX9_copyFrom_49 : decode cX9_copyFrom 49 = .ok (.bipush 6, 2) := by decide +kernel
theorem dX9_copyFrom_51 : decode cX9_copyFrom 51 = .ok (.invokestatic 51, 3) := by decide +kernel
theorem dX9_copyFrom_54 : decode cX9_copyFrom 54 = .ok (.aload_n 1, 1) := by decide +kernel
theorem dX9_copyFrom_55 : decode cX9_copyFrom 55 = .ok (.getfield 18, 3) := by decide +kernel
theorem dX9_copyFrom_58 : decode cX9_copyFrom 58 = .ok (.iconst 0, 1) := by decide +kernel
theorem dX9_copyFrom_59 : decode cX9_copyFrom 59 = .ok (.aload_n 0, 1) := by decide +kernel
theorem dX9_copyFrom_60 : decode cX9_copyFrom 60 = .ok (.getfield 18, 3) := by decide +kernel
theorem dX9_copyFrom_63 : decode cX9_copyFrom 63 = .ok (.iconst 0, 1) := by decide +kernel
theorem dX9_copyFrom_64 : decode cX9_copyFrom 64 = .ok (.bipush 6, 2) := by decide +kernel
theorem dX9_copyFrom_66 : decode cX9_copyFrom 66 = .ok (.invokestatic 51, 3) := by decide +kernel
theorem dX9_copyFrom_69 : decode cX9_copyFrom 69 = .ok (.aload_n 1, 1) := by decide +kernel
theorem dX9_copyFrom_70 : decode cX9_copyFrom 70 = .ok (.getfield 21, 3) := by decide +kernel
theorem dX9_copyFrom_73 : decode cX9_copyFrom 73 = .ok (.iconst 0, 1) := by decide +kernel
theorem dX9_copyFrom_74 : decode cX9_copyFrom 74 = .ok (.aload_n 0, 1) := by decide +kernel
theorem dX9_copyFrom_75 : decode cX9_copyFrom 75 = .ok (.getfield 21, 3) := by decide +kernel
theorem dX9_copyFrom_78 : decode cX9_copyFrom 78 = .ok (.iconst 0, 1) := by decide +kernel
theorem dX9_copyFrom_79 : decode cX9_copyFrom 79 = .ok (.bipush 6, 2) := by decide +kernel
theorem dX9_copyFrom_81 : decode cX9_copyFrom 81 = .ok (.invokestatic 51, 3) := by decide +kernel
theorem dX9_copyFrom_84 : decode cX9_copyFrom 84 = .ok (.aload_n 1, 1) := by decide +kernel
theorem dX9_copyFrom_85 : decode cX9_copyFrom 85 = .ok (.getfield 24, 3) := by decide +kernel
theorem dX9_copyFrom_88 : decode cX9_copyFrom 88 = .ok (.iconst 0, 1) := by decide +kernel
theorem dX9_copyFrom_89 : decode cX9_copyFrom 89 = .ok (.aload_n 0, 1) := by decide +kernel
theorem dX9_copyFrom_90 : decode cX9_copyFrom 90 = .ok (.getfield 24, 3) := by decide +kernel
theorem dX9_copyFrom_93 : decode cX9_copyFrom 93 = .ok (.iconst 0, 1) := by decide +kernel
theorem dX9_copyFrom_94 : decode cX9_copyFrom 94 = .ok (.bipush 6, 2) := by decide +kernel
theorem dX9_copyFrom_96 : decode cX9_copyFrom 96 = .ok (.invokestatic 51, 3) := by decide +kernel
theorem dX9_copyFrom_99 : decode cX9_copyFrom 99 = .ok (.aload_n 1, 1) := by decide +kernel
theorem dX9_copyFrom_100 : decode cX9_copyFrom 100 = .ok (.getfield 27, 3) := by decide +kernel
theorem dX9_copyFrom_103 : decode cX9_copyFrom 103 = .ok (.iconst 0, 1) := by decide +kernel
theorem dX9_copyFrom_104 : decode cX9_copyFrom 104 = .ok (.aload_n 0, 1) := by decide +kernel
theorem dX9_copyFrom_105 : decode cX9_copyFrom 105 = .ok (.getfield 27, 3) := by decide +kernel
theorem dX9_copyFrom_108 : decode cX9_copyFrom 108 = .ok (.iconst 0, 1) := by decide +kernel
theorem dX9_copyFrom_109 : decode cX9_copyFrom 109 = .ok (.bipush 6, 2) := by decide +kernel
theorem dX9_copyFrom_111 : decode cX9_copyFrom 111 = .ok (.invokestatic 51, 3) := by decide +kernel
theorem dX9_copyFrom_114 : decode cX9_copyFrom 114 = .ok (.aload_n 1, 1) := by decide +kernel
theorem dX9_copyFrom_115 : decode cX9_copyFrom 115 = .ok (.getfield 30, 3) := by decide +kernel
theorem dX9_copyFrom_118 : decode cX9_copyFrom 118 = .ok (.iconst 0, 1) := by decide +kernel
theorem dX9_copyFrom_119 : decode cX9_copyFrom 119 = .ok (.aload_n 0, 1) := by decide +kernel
theorem dX9_copyFrom_120 : decode cX9_copyFrom 120 = .ok (.getfield 30, 3) := by decide +kernel
theorem dX9_copyFrom_123 : decode cX9_copyFrom 123 = .ok (.iconst 0, 1) := by decide +kernel
theorem dX9_copyFrom_124 : decode cX9_copyFrom 124 = .ok (.bipush 6, 2) := by decide +kernel
theorem dX9_copyFrom_126 : decode cX9_copyFrom 126 = .ok (.invokestatic 51, 3) := by decide +kernel
theorem dX9_copyFrom_129 : decode cX9_copyFrom 129 = .ok (.return_, 1) := by decide +kernel
theorem dX9_homeOf_0 : decode cX9_homeOf 0 = .ok (.aload_n 0, 1) := by decide +kernel
theorem dX9_homeOf_1 : decode cX9_homeOf 1 = .ok (.getfield 36, 3) := by decide +kernel
theorem dX9_homeOf_4 : decode cX9_homeOf 4 = .ok (.getfield 65, 3) := by decide +kernel
theorem dX9_homeOf_7 : decode cX9_homeOf 7 = .ok (.iload_n 1, 1) := by decide +kernel
theorem dX9_homeOf_8 : decode cX9_homeOf 8 = .ok (.iaload, 1) := by decide +kernel
theorem dX9_homeOf_9 : decode cX9_homeOf 9 = .ok (.istore_n 2, 1) := by decide +kernel
theorem dX9_homeOf_10 : decode cX9_homeOf 10 = .ok (.aload_n 0, 1) := by decide +kernel
theorem dX9_homeOf_11 : decode cX9_homeOf 11 = .ok (.getfield 40, 3) := by decide +kernel
theorem dX9_homeOf_14 : decode cX9_homeOf 14 = .ok (.bipush 28, 2) := by decide +kernel
theorem dX9_homeOf_16 : decode cX9_homeOf 16 = .ok (.idiv, 1) := by decide +kernel
theorem dX9_homeOf_17 : decode cX9_homeOf 17 = .ok (.iconst 2, 1) := by decide +kernel
theorem dX9_homeOf_18 : decode cX9_homeOf 18 = .ok (.irem, 1) := by decide +kernel
theorem dX9_homeOf_19 : decode cX9_homeOf 19 = .ok (.iconst 1, 1) := by decide +kernel
theorem dX9_homeOf_20 : decode cX9_homeOf 20 = .ok (.if_icmp .ne 7, 3) := by decide +kernel
theorem dX9_homeOf_23 : decode cX9_homeOf 23 = .ok (.iconst 1, 1) := by decide +kernel
theorem dX9_homeOf_24 : decode cX9_homeOf 24 = .ok (.goto 4, 3) := by decide +kernel
theorem dX9_homeOf_27 : decode cX9_homeOf 27 = .ok (.iconst 0, 1) := by decide +kernel
theorem dX9_homeOf_28 : decode cX9_homeOf 28 = .ok (.istore_n 3, 1) := by decide +kernel
theorem dX9_homeOf_29 : decode cX9_homeOf 29 = .ok (.iload_n 3, 1) := by decide +kernel
theorem dX9_homeOf_30 : decode cX9_homeOf 30 = .ok (.ifCond .eq 12, 3) := by decide +kernel
theorem dX9_homeOf_33 : decode cX9_homeOf 33 = .ok (.iload_n 2, 1) := by decide +kernel
theorem dX9_homeOf_34 : decode cX9_homeOf 34 = .ok (.iconst (-1), 1) := by decide +kernel
theorem dX9_homeOf_35 : decode cX9_homeOf 35 = .ok (.if_icmp .eq 7, 3) := by decide +kernel
theorem dX9_homeOf_38 : decode cX9_homeOf 38 = .ok (.iload_n 2, 1) := by decide +kernel
theorem dX9_homeOf_39 : decode cX9_homeOf 39 = .ok (.goto 4, 3) := by decide +kernel
theorem dX9_homeOf_42 : decode cX9_homeOf 42 = .ok (.iload_n 1, 1) := by decide +kernel
theorem dX9_homeOf_43 : decode cX9_homeOf 43 = .ok (.ireturn, 1) := by decide +kernel
theorem dX9_neighboursOf_0 : decode cX9_neighboursOf 0 = .ok (.aload_n 0, 1) := by decide +kernel
theorem dX9_neighboursOf_1 : decode cX9_neighboursOf 1 = .ok (.getfield 36, 3) := by decide +kernel
theorem dX9_neighboursOf_4 : decode cX9_neighboursOf 4 = .ok (.getfield 68, 3) := by decide +kernel
theorem dX9_neighboursOf_7 : decode cX9_neighboursOf 7 = .ok (.iload_n 1, 1) := by decide +kernel
theorem dX9_neighboursOf_8 : decode cX9_neighboursOf 8 = .ok (.iaload, 1) := by decide +kernel
theorem dX9_neighboursOf_9 : decode cX9_neighboursOf 9 = .ok (.aload_n 0, 1) := by decide +kernel
theorem dX9_neighboursOf_10 : decode cX9_neighboursOf 10 = .ok (.getfield 27, 3) := by decide +kernel
theorem dX9_neighboursOf_13 : decode cX9_neighboursOf 13 = .ok (.iload_n 1, 1) := by decide +kernel
theorem dX9_neighboursOf_14 : decode cX9_neighboursOf 14 = .ok (.iaload, 1) := by decide +kernel
theorem dX9_neighboursOf_15 : decode cX9_neighboursOf 15 = .ok (.iconst (-1), 1) := by decide +kernel
theorem dX9_neighboursOf_16 : decode cX9_neighboursOf 16 = .ok (.ixor, 1) := by decide +kernel
theorem dX9_neighboursOf_17 : decode cX9_neighboursOf 17 = .ok (.iand, 1) := by decide +kernel
theorem dX9_neighboursOf_18 : decode cX9_neighboursOf 18 = .ok (.ireturn, 1) := by decide +kernel
theorem dX9_havePact_0 : decode cX9_havePact 0 = .ok (.aload_n 0, 1) := by decide +kernel
theorem dX9_havePact_1 : decode cX9_havePact 1 = .ok (.getfield 27, 3) := by decide +kernel
theorem dX9_havePact_4 : decode cX9_havePact 4 = .ok (.iload_n 1, 1) := by decide +kernel
theorem dX9_havePact_5 : decode cX9_havePact 5 = .ok (.iaload, 1) := by decide +kernel
theorem dX9_havePact_6 : decode cX9_havePact 6 = .ok (.iload_n 2, 1) := by decide +kernel
theorem dX9_havePact_7 : decode cX9_havePact 7 = .ok (.ishr, 1) := by decide +kernel
theorem dX9_havePact_8 : decode cX9_havePact 8 = .ok (.iconst 1, 1) := by decide +kernel
theorem dX9_havePact_9 : decode cX9_havePact 9 = .ok (.iand, 1) := by decide +kernel
theorem dX9_havePact_10 : decode cX9_havePact 10 = .ok (.iconst 1, 1) := by decide +kernel
theorem dX9_havePact_11 : decode cX9_havePact 11 = .ok (.if_icmp .ne 7, 3) := by decide +kernel
theorem dX9_havePact_14 : decode cX9_havePact 14 = .ok (.iconst 1, 1) := by decide +kernel
theorem dX9_havePact_15 : decode cX9_havePact 15 = .ok (.goto 4, 3) := by decide +kernel
theorem dX9_havePact_18 : decode cX9_havePact 18 = .ok (.iconst 0, 1) := by decide +kernel
theorem dX9_havePact_19 : decode cX9_havePact 19 = .ok (.ireturn, 1) := by decide +kernel
theorem dX9_turnPact_0 : decode cX9_turnPact 0 = .ok (.aload_n 0, 1) := by decide +kernel
theorem dX9_turnPact_1 : decode cX9_turnPact 1 = .ok (.getfield 27, 3) := by decide +kernel
theorem dX9_turnPact_4 : decode cX9_turnPact 4 = .ok (.iload_n 1, 1) := by decide +kernel
theorem dX9_turnPact_5 : decode cX9_turnPact 5 = .ok (.dup2, 1) := by decide +kernel
theorem dX9_turnPact_6 : decode cX9_turnPact 6 = .ok (.iaload, 1) := by decide +kernel
theorem dX9_turnPact_7 : decode cX9_turnPact 7 = .ok (.iconst 1, 1) := by decide +kernel
theorem dX9_turnPact_8 : decode cX9_turnPact 8 = .ok (.iload_n 2, 1) := by decide +kernel
theorem dX9_turnPact_9 : decode cX9_turnPact 9 = .ok (.ishl, 1) := by decide +kernel
theorem dX9_turnPact_10 : decode cX9_turnPact 10 = .ok (.ixor, 1) := by decide +kernel
theorem dX9_turnPact_11 : decode cX9_turnPact 11 = .ok (.iastore, 1) := by decide +kernel
theorem dX9_turnPact_12 : decode cX9_turnPact 12 = .ok (.aload_n 0, 1) := by decide +kernel
theorem dX9_turnPact_13 : decode cX9_turnPact 13 = .ok (.getfield 27, 3) := by decide +kernel
theorem dX9_turnPact_16 : decode cX9_turnPact 16 = .ok (.iload_n 2, 1) := by decide +kernel
theorem dX9_turnPact_17 : decode cX9_turnPact 17 = .ok (.dup2, 1) := by decide +kernel
theorem dX9_turnPact_18 : decode cX9_turnPact 18 = .ok (.iaload, 1) := by decide +kernel
theorem dX9_turnPact_19 : decode cX9_turnPact 19 = .ok (.iconst 1, 1) := by decide +kernel
theorem dX9_turnPact_20 : decode cX9_turnPact 20 = .ok (.iload_n 1, 1) := by decide +kernel
theorem dX9_turnPact_21 : decode cX9_turnPact 21 = .ok (.ishl, 1) := by decide +kernel
theorem dX9_turnPact_22 : decode cX9_turnPact 22 = .ok (.ixor, 1) := by decide +kernel
theorem dX9_turnPact_23 : decode cX9_turnPact 23 = .ok (.iastore, 1) := by decide +kernel
theorem dX9_turnPact_24 : decode cX9_turnPact 24 = .ok (.return_, 1) := by decide +kernel
theorem dX9_pactsInAll_0 : decode cX9_pactsInAll 0 = .ok (.iconst 0, 1) := by decide +kernel
theorem dX9_pactsInAll_1 : decode cX9_pactsInAll 1 = .ok (.istore_n 1, 1) := by decide +kernel
theorem dX9_pactsInAll_2 : decode cX9_pactsInAll 2 = .ok (.iconst 0, 1) := by decide +kernel
theorem dX9_pactsInAll_3 : decode cX9_pactsInAll 3 = .ok (.istore_n 2, 1) := by decide +kernel
theorem dX9_pactsInAll_4 : decode cX9_pactsInAll 4 = .ok (.iload_n 2, 1) := by decide +kernel
theorem dX9_pactsInAll_5 : decode cX9_pactsInAll 5 = .ok (.aload_n 0, 1) := by decide +kernel
theorem dX9_pactsInAll_6 : decode cX9_pactsInAll 6 = .ok (.getfield 36, 3) := by decide +kernel
theorem dX9_pactsInAll_9 : decode cX9_pactsInAll 9 = .ok (.getfield 71, 3) := by decide +kernel
theorem dX9_pactsInAll_12 : decode cX9_pactsInAll 12 = .ok (.if_icmp .ge 21, 3) := by decide +kernel
theorem dX9_pactsInAll_15 : decode cX9_pactsInAll 15 = .ok (.iload_n 1, 1) := by decide +kernel
theorem dX9_pactsInAll_16 : decode cX9_pactsInAll 16 = .ok (.aload_n 0, 1) := by decide +kernel
theorem dX9_pactsInAll_17 : decode cX9_pactsInAll 17 = .ok (.getfield 27, 3) := by decide +kernel
theorem dX9_pactsInAll_20 : decode cX9_pactsInAll 20 = .ok (.iload_n 2, 1) := by decide +kernel
theorem dX9_pactsInAll_21 : decode cX9_pactsInAll 21 = .ok (.iaload, 1) := by decide +kernel
theorem dX9_pactsInAll_22 : decode cX9_pactsInAll 22 = .ok (.invokestatic 74, 3) := by decide +kernel
theorem dX9_pactsInAll_25 : decode cX9_pactsInAll 25 = .ok (.iadd, 1) := by decide +kernel
theorem dX9_pactsInAll_26 : decode cX9_pactsInAll 26 = .ok (.istore_n 1, 1) := by decide +kernel
theorem dX9_pactsInAll_27 : decode cX9_pactsInAll 27 = .ok (.iinc 2 1, 3) := by decide +kernel
theorem dX9_pactsInAll_30 : decode cX9_pactsInAll 30 = .ok (.goto (-26), 3) := by decide +kernel
theorem dX9_pactsInAll_33 : decode cX9_pactsInAll 33 = .ok (.iload_n 1, 1) := by decide +kernel
theorem dX9_pactsInAll_34 : decode cX9_pactsInAll 34 = .ok (.iconst 2, 1) := by decide +kernel
theorem dX9_pactsInAll_35 : decode cX9_pactsInAll 35 = .ok (.idiv, 1) := by decide +kernel
theorem dX9_pactsInAll_36 : decode cX9_pactsInAll 36 = .ok (.ireturn, 1) := by decide +kernel
theorem dX9_goneFrom_0 : decode cX9_goneFrom 0 = .ok (.aload_n 0, 1) := by decide +kernel
theorem dX9_goneFrom_1 : decode cX9_goneFrom 1 = .ok (.getfield 21, 3) := by decide +kernel
theorem dX9_goneFrom_4 : decode cX9_goneFrom 4 = .ok (.iload_n 1, 1) := by decide +kernel
theorem dX9_goneFrom_5 : decode cX9_goneFrom 5 = .ok (.iaload, 1) := by decide +kernel
theorem dX9_goneFrom_6 : decode cX9_goneFrom 6 = .ok (.aload_n 0, 1) := by decide +kernel
theorem dX9_goneFrom_7 : decode cX9_goneFrom 7 = .ok (.getfield 24, 3) := by decide +kernel
theorem dX9_goneFrom_10 : decode cX9_goneFrom 10 = .ok (.iload_n 1, 1) := by decide +kernel
theorem dX9_goneFrom_11 : decode cX9_goneFrom 11 = .ok (.iaload, 1) := by decide +kernel
theorem dX9_goneFrom_12 : decode cX9_goneFrom 12 = .ok (.iadd, 1) := by decide +kernel
theorem dX9_goneFrom_13 : decode cX9_goneFrom 13 = .ok (.ireturn, 1) := by decide +kernel
theorem dX9_run_0 : decode cX9_run 0 = .ok (.iconst 0, 1) := by decide +kernel
theorem dX9_run_1 : decode cX9_run 1 = .ok (.istore_n 3, 1) := by decide +kernel
theorem dX9_run_2 : decode cX9_run 2 = .ok (.iload_n 3, 1) := by decide +kernel
theorem dX9_run_3 : decode cX9_run 3 = .ok (.iload_n 2, 1) := by decide +kernel
theorem dX9_run_4 : decode cX9_run 4 = .ok (.if_icmp .ge 51, 3) := by decide +kernel
theorem dX9_run_7 : decode cX9_run 7 = .ok (.iconst 0, 1) := by decide +kernel
theorem dX9_run_8 : decode cX9_run 8 = .ok (.istore 4, 2) := by decide +kernel
theorem dX9_run_10 : decode cX9_run 10 = .ok (.iload 4, 2) := by decide +kernel
theorem dX9_run_12 : decode cX9_run 12 = .ok (.aload_n 0, 1) := by decide +kernel
theorem dX9_run_13 : decode cX9_run 13 = .ok (.getfield 36, 3) := by decide +kernel
theorem dX9_run_16 : decode cX9_run 16 = .ok (.getfield 71, 3) := by decide +kernel
theorem dX9_run_19 : decode cX9_run 19 = .ok (.if_icmp .ge 26, 3) := by decide +kernel
theorem dX9_run_22 : decode cX9_run 22 = .ok (.aload_n 0, 1) := by decide +kernel
theorem dX9_run_23 : decode cX9_run 23 = .ok (.getfield 15, 3) := by decide +kernel
theorem dX9_run_26 : decode cX9_run 26 = .ok (.iload 4, 2) := by decide +kernel
theorem dX9_run_28 : decode cX9_run 28 = .ok (.iaload, 1) := by decide +kernel
theorem dX9_run_29 : decode cX9_run 29 = .ok (.ifCond .le 10, 3) := by decide +kernel
theorem dX9_run_32 : decode cX9_run 32 = .ok (.aload_n 0, 1) := by decide +kernel
theorem dX9_run_33 : decode cX9_run 33 = .ok (.aload_n 1, 1) := by decide +kernel
theorem dX9_run_34 : decode cX9_run 34 = .ok (.iload 4, 2) := by decide +kernel
theorem dX9_run_36 : decode cX9_run 36 = .ok (.invokevirtual 80, 3) := by decide +kernel
theorem dX9_run_39 : decode cX9_run 39 = .ok (.iinc 4 1, 3) := by decide +kernel
theorem dX9_run_42 : decode cX9_run 42 = .ok (.goto (-32), 3) := by decide +kernel
theorem dX9_run_45 : decode cX9_run 45 = .ok (.aload_n 0, 1) := by decide +kernel
theorem dX9_run_46 : decode cX9_run 46 = .ok (.invokevirtual 84, 3) := by decide +kernel
theorem dX9_run_49 : decode cX9_run 49 = .ok (.iinc 3 1, 3) := by decide +kernel
theorem dX9_run_52 : decode cX9_run 52 = .ok (.goto (-50), 3) := by decide +kernel
theorem dX9_run_55 : decode cX9_run 55 = .ok (.return_, 1) := by decide +kernel
theorem dX9_runWolf_0 : decode cX9_runWolf 0 = .ok (.aload_n 0, 1) := by decide +kernel
theorem dX9_runWolf_1 : decode cX9_runWolf 1 = .ok (.iload_n 2, 1) := by decide +kernel
theorem dX9_runWolf_2 : decode cX9_runWolf 2 = .ok (.invokevirtual 87, 3) := by decide +kernel
theorem dX9_runWolf_5 : decode cX9_runWolf 5 = .ok (.istore_n 3, 1) := by decide +kernel
theorem dX9_runWolf_6 : decode cX9_runWolf 6 = .ok (.aload_n 0, 1) := by decide +kernel
theorem dX9_runWolf_7 : decode cX9_runWolf 7 = .ok (.iload_n 3, 1) := by decide +kernel
theorem dX9_runWolf_8 : decode cX9_runWolf 8 = .ok (.aload_n 0, 1) := by decide +kernel
theorem dX9_runWolf_9 : decode cX9_runWolf 9 = .ok (.getfield 15, 3) := by decide +kernel
theorem dX9_runWolf_12 : decode cX9_runWolf 12 = .ok (.iload_n 2, 1) := by decide +kernel
theorem dX9_runWolf_13 : decode cX9_runWolf 13 = .ok (.iaload, 1) := by decide +kernel
theorem dX9_runWolf_14 : decode cX9_runWolf 14 = .ok (.invokevirtual 90, 3) := by decide +kernel
theorem dX9_runWolf_17 : decode cX9_runWolf 17 = .ok (.istore 4, 2) := by decide +kernel
theorem dX9_runWolf_19 : decode cX9_runWolf 19 = .ok (.aload_n 0, 1) := by decide +kernel
theorem dX9_runWolf_20 : decode cX9_runWolf 20 = .ok (.getfield 9, 3) := by decide +kernel
theorem dX9_runWolf_23 : decode cX9_runWolf 23 = .ok (.iload_n 3, 1) := by decide +kernel
theorem dX9_runWolf_24 : decode cX9_runWolf 24 = .ok (.dup2, 1) := by decide +kernel
theorem dX9_runWolf_25 : decode cX9_runWolf 25 = .ok (.iaload, 1) := by decide +kernel
theorem dX9_runWolf_26 : decode cX9_runWolf 26 = .ok (.iload 4, 2) := by decide +kernel
theorem dX9_runWolf_28 : decode cX9_runWolf 28 = .ok (.isub, 1) := by decide +kernel
theorem dX9_runWolf_29 : decode cX9_runWolf 29 = .ok (.iastore, 1) := by decide +kernel
theorem dX9_runWolf_30 : decode cX9_runWolf 30 = .ok (.aload_n 0, 1) := by decide +kernel
theorem dX9_runWolf_31 : decode cX9_runWolf 31 = .ok (.getfield 21, 3) := by decide +kernel
theorem dX9_runWolf_34 : decode cX9_runWolf 34 = .ok (.iload_n 3, 1) := by decide +kernel
theorem dX9_runWolf_35 : decode cX9_runWolf 35 = .ok (.dup2, 1) := by decide +kernel
theorem dX9_runWolf_36 : decode cX9_runWolf 36 = .ok (.iaload, 1) := by decide +kernel
theorem dX9_runWolf_37 : decode cX9_runWolf 37 = .ok (.iload 4, 2) := by decide +kernel
theorem dX9_runWolf_39 : decode cX9_runWolf 39 = .ok (.iadd, 1) := by decide +kernel
theorem dX9_runWolf_40 : decode cX9_runWolf 40 = .ok (.iastore, 1) := by decide +kernel
theorem dX9_runWolf_41 : decode cX9_runWolf 41 = .ok (.aload_n 0, 1) := by decide +kernel
theorem dX9_runWolf_42 : decode cX9_runWolf 42 = .ok (.getfield 15, 3) := by decide +kernel
theorem dX9_runWolf_45 : decode cX9_runWolf 45 = .ok (.iload_n 2, 1) := by decide +kernel
theorem dX9_runWolf_46 : decode cX9_runWolf 46 = .ok (.iaload, 1) := by decide +kernel
theorem dX9_runWolf_47 : decode cX9_runWolf 47 = .ok (.iload 4, 2) := by decide +kernel
theorem dX9_runWolf_49 : decode cX9_runWolf 49 = .ok (.isub, 1) := by decide +kernel
theorem dX9_runWolf_50 : decode cX9_runWolf 50 = .ok (.istore 5, 2) := by decide +kernel
theorem dX9_runWolf_52 : decode cX9_runWolf 52 = .ok (.iload 5, 2) := by decide +kernel
theorem dX9_runWolf_54 : decode cX9_runWolf 54 = .ok (.ifCond .le 23, 3) := by decide +kernel
theorem dX9_runWolf_57 : decode cX9_runWolf 57 = .ok (.aload_n 0, 1) := by decide +kernel
theorem dX9_runWolf_58 : decode cX9_runWolf 58 = .ok (.aload_n 0, 1) := by decide +kernel
theorem dX9_runWolf_59 : decode cX9_runWolf 59 = .ok (.iload_n 3, 1) := by decide +kernel
theorem dX9_runWolf_60 : decode cX9_runWolf 60 = .ok (.iload 5, 2) := by decide +kernel
theorem dX9_runWolf_62 : decode cX9_runWolf 62 = .ok (.aload_n 0, 1) := by decide +kernel
theorem dX9_runWolf_63 : decode cX9_runWolf 63 = .ok (.getfield 18, 3) := by decide +kernel
theorem dX9_runWolf_66 : decode cX9_runWolf 66 = .ok (.iload_n 2, 1) := by decide +kernel
theorem dX9_runWolf_67 : decode cX9_runWolf 67 = .ok (.iaload, 1) := by decide +kernel
theorem dX9_runWolf_68 : decode cX9_runWolf 68 = .ok (.invokevirtual 94, 3) := by decide +kernel
theorem dX9_runWolf_71 : decode cX9_runWolf 71 = .ok (.invokevirtual 98, 3) := by decide +kernel
theorem dX9_runWolf_74 : decode cX9_runWolf 74 = .ok (.goto 4, 3) := by decide +kernel
theorem dX9_runWolf_77 : decode cX9_runWolf 77 = .ok (.iconst (-1), 1) := by decide +kernel
theorem dX9_runWolf_78 : decode cX9_runWolf 78 = .ok (.istore 6, 2) := by decide +kernel
theorem dX9_runWolf_80 : decode cX9_runWolf 80 = .ok (.iload 6, 2) := by decide +kernel
theorem dX9_runWolf_82 : decode cX9_runWolf 82 = .ok (.iconst (-1), 1) := by decide +kernel
theorem dX9_runWolf_83 : decode cX9_runWolf 83 = .ok (.if_icmp .eq 62, 3) := by decide +kernel
theorem dX9_runWolf_86 : decode cX9_runWolf 86 = .ok (.aload_n 0, 1) := by decide +kernel
theorem dX9_runWolf_87 : decode cX9_runWolf 87 = .ok (.iload 6, 2) := by decide +kernel
theorem dX9_runWolf_89 : decode cX9_runWolf 89 = .ok (.iload 5, 2) := by decide +kernel
theorem dX9_runWolf_91 : decode cX9_runWolf 91 = .ok (.invokevirtual 101, 3) := by decide +kernel
theorem dX9_runWolf_94 : decode cX9_runWolf 94 = .ok (.istore 7, 2) := by decide +kernel
theorem dX9_runWolf_96 : decode cX9_runWolf 96 = .ok (.aload_n 0, 1) := by decide +kernel
theorem dX9_runWolf_97 : decode cX9_runWolf 97 = .ok (.getfield 9, 3) := by decide +kernel
theorem dX9_runWolf_100 : decode cX9_runWolf 100 = .ok (.iload 6, 2) := by decide +kernel
theorem dX9_runWolf_102 : decode cX9_runWolf 102 = .ok (.dup2, 1) := by decide +kernel
theorem dX9_runWolf_103 : decode cX9_runWolf 103 = .ok (.iaload, 1) := by decide +kernel
theorem dX9_runWolf_104 : decode cX9_runWolf 104 = .ok (.iload 7, 2) := by decide +kernel
theorem dX9_runWolf_106 : decode cX9_runWolf 106 = .ok (.isub, 1) := by decide +kernel
theorem dX9_runWolf_107 : decode cX9_runWolf 107 = .ok (.iastore, 1) := by decide +kernel
theorem dX9_runWolf_108 : decode cX9_runWolf 108 = .ok (.aload_n 0, 1) := by decide +kernel
theorem dX9_runWolf_109 : decode cX9_runWolf 109 = .ok (.getfield 24, 3) := by decide +kernel
theorem dX9_runWolf_112 : decode cX9_runWolf 112 = .ok (.iload 6, 2) := by decide +kernel
theorem dX9_runWolf_114 : decode cX9_runWolf 114 = .ok (.dup2, 1) := by decide +kernel
theorem dX9_runWolf_115 : decode cX9_runWolf 115 = .ok (.iaload, 1) := by decide +kernel
theorem dX9_runWolf_116 : decode cX9_runWolf 116 = .ok (.iload 7, 2) := by decide +kernel
theorem dX9_runWolf_118 : decode cX9_runWolf 118 = .ok (.iadd, 1) := by decide +kernel
theorem dX9_runWolf_119 : decode cX9_runWolf 119 = .ok (.iastore, 1) := by decide +kernel
theorem dX9_runWolf_120 : decode cX9_runWolf 120 = .ok (.iload 4, 2) := by decide +kernel
theorem dX9_runWolf_122 : decode cX9_runWolf 122 = .ok (.iload 7, 2) := by decide +kernel
theorem dX9_runWolf_124 : decode cX9_runWolf 124 = .ok (.iadd, 1) := by decide +kernel
theorem dX9_runWolf_125 : decode cX9_runWolf 125 = .ok (.istore 4, 2) := by decide +kernel
theorem dX9_runWolf_127 : decode cX9_runWolf 127 = .ok (.iload 7, 2) := by decide +kernel
theorem dX9_runWolf_129 : decode cX9_runWolf 129 = .ok (.ifCond .le 16, 3) := by decide +kernel
theorem dX9_runWolf_132 : decode cX9_runWolf 132 = .ok (.aload_n 1, 1) := by decide +kernel
theorem dX9_runWolf_133 : decode cX9_runWolf 133 = .ok (.aload_n 0, 1) := by decide +kernel
theorem dX9_runWolf_134 : decode cX9_runWolf 134 = .ok (.getfield 40, 3) := by decide +kernel
theorem dX9_runWolf_137 : decode cX9_runWolf 137 = .ok (.iload 6, 2) := by decide +kernel
theorem dX9_runWolf_139 : decode cX9_runWolf 139 = .ok (.iload_n 2, 1) := by decide +kernel
theorem dX9_runWolf_140 : decode cX9_runWolf 140 = .ok (.iload 7, 2) := by decide +kernel
theorem dX9_runWolf_142 : decode cX9_runWolf 142 = .ok (.invokevirtual 104, 3) := by decide +kernel
theorem dX9_runWolf_145 : decode cX9_runWolf 145 = .ok (.aload_n 0, 1) := by decide +kernel
theorem dX9_runWolf_146 : decode cX9_runWolf 146 = .ok (.getfield 18, 3) := by decide +kernel
theorem dX9_runWolf_149 : decode cX9_runWolf 149 = .ok (.iload_n 2, 1) := by decide +kernel
theorem dX9_runWolf_150 : decode cX9_runWolf 150 = .ok (.iconst 2, 1) := by decide +kernel
theorem dX9_runWolf_151 : decode cX9_runWolf 151 = .ok (.iload 4, 2) := by decide +kernel
theorem dX9_runWolf_153 : decode cX9_runWolf 153 = .ok (.imul, 1) := by decide +kernel
theorem dX9_runWolf_154 : decode cX9_runWolf 154 = .ok (.aload_n 0, 1) := by decide +kernel
theorem dX9_runWolf_155 : decode cX9_runWolf 155 = .ok (.getfield 15, 3) := by decide +kernel
theorem dX9_runWolf_158 : decode cX9_runWolf 158 = .ok (.iload_n 2, 1) := by decide +kernel
theorem dX9_runWolf_159 : decode cX9_runWolf 159 = .ok (.iaload, 1) := by decide +kernel
theorem dX9_runWolf_160 : decode cX9_runWolf 160 = .ok (.if_icmp .ge 14, 3) := by decide +kernel
theorem dX9_runWolf_163 : decode cX9_runWolf 163 = .ok (.aload_n 0, 1) := by decide +kernel
theorem dX9_runWolf_164 : decode cX9_runWolf 164 = .ok (.getfield 18, 3) := by decide +kernel
theorem dX9_runWolf_167 : decode cX9_runWolf 167 = .ok (.iload_n 2, 1) := by decide +kernel
theorem dX9_runWolf_168 : decode cX9_runWolf 168 = .ok (.iaload, 1) := by decide +kernel
theorem dX9_runWolf_169 : decode cX9_runWolf 169 = .ok (.iconst 1, 1) := by decide +kernel
theorem dX9_runWolf_170 : decode cX9_runWolf 170 = .ok (.iadd, 1) := by decide +kernel
theorem dX9_runWolf_171 : decode cX9_runWolf 171 = .ok (.goto 4, 3) := by decide +kernel
theorem dX9_runWolf_174 : decode cX9_runWolf 174 = .ok (.iconst 0, 1) := by decide +kernel
theorem dX9_runWolf_175 : decode cX9_runWolf 175 = .ok (.iastore, 1) := by decide +kernel
theorem dX9_runWolf_176 : decode cX9_runWolf 176 = .ok (.iload 6, 2) := by decide +kernel
theorem dX9_runWolf_178 : decode cX9_runWolf 178 = .ok (.iconst (-1), 1) := by decide +kernel
theorem dX9_runWolf_179 : decode cX9_runWolf 179 = .ok (.if_icmp .eq 27, 3) := by decide +kernel
theorem dX9_runWolf_182 : decode cX9_runWolf 182 = .ok (.aload_n 0, 1) := by decide +kernel
theorem dX9_runWolf_183 : decode cX9_runWolf 183 = .ok (.getfield 18, 3) := by decide +kernel
theorem dX9_runWolf_186 : decode cX9_runWolf 186 = .ok (.iload_n 2, 1) := by decide +kernel
theorem dX9_runWolf_187 : decode cX9_runWolf 187 = .ok (.iaload, 1) := by decide +kernel
theorem dX9_runWolf_188 : decode cX9_runWolf 188 = .ok (.iconst 3, 1) := by decide +kernel
theorem dX9_runWolf_189 : decode cX9_runWolf 189 = .ok (.if_icmp .lt 17, 3) := by decide +kernel
theorem dX9_runWolf_192 : decode cX9_runWolf 192 = .ok (.aload_n 1, 1) := by decide +kernel
theorem dX9_runWolf_193 : decode cX9_runWolf 193 = .ok (.iload_n 3, 1) := by decide +kernel
theorem dX9_runWolf_194 : decode cX9_runWolf 194 = .ok (.iload 6, 2) := by decide +kernel
theorem dX9_runWolf_196 : decode cX9_runWolf 196 = .ok (.invokevirtual 110, 3) := by decide +kernel
theorem dX9_runWolf_199 : decode cX9_runWolf 199 = .ok (.aload_n 0, 1) := by decide +kernel
theorem dX9_runWolf_200 : decode cX9_runWolf 200 = .ok (.getfield 18, 3) := by decide +kernel
theorem dX9_runWolf_203 : decode cX9_runWolf 203 = .ok (.iload_n 2, 1) := by decide +kernel
theorem dX9_runWolf_204 : decode cX9_runWolf 204 = .ok (.iconst 0, 1) := by decide +kernel
theorem dX9_runWolf_205 : decode cX9_runWolf 205 = .ok (.iastore, 1) := by decide +kernel
theorem dX9_runWolf_206 : decode cX9_runWolf 206 = .ok (.return_, 1) := by decide +kernel
theorem dX9_fedAt_0 : decode cX9_fedAt 0 = .ok (.aload_n 0, 1) := by decide +kernel
theorem dX9_fedAt_1 : decode cX9_fedAt 1 = .ok (.getfield 30, 3) := by decide +kernel
theorem dX9_fedAt_4 : decode cX9_fedAt 4 = .ok (.iload_n 1, 1) := by decide +kernel
theorem dX9_fedAt_5 : decode cX9_fedAt 5 = .ok (.iaload, 1) := by decide +kernel
theorem dX9_fedAt_6 : decode cX9_fedAt 6 = .ok (.istore_n 3, 1) := by decide +kernel
theorem dX9_fedAt_7 : decode cX9_fedAt 7 = .ok (.iload_n 3, 1) := by decide +kernel
theorem dX9_fedAt_8 : decode cX9_fedAt 8 = .ok (.iconst (-1), 1) := by decide +kernel
theorem dX9_fedAt_9 : decode cX9_fedAt 9 = .ok (.if_icmp .ne 62, 3) := by decide +kernel
theorem dX9_fedAt_12 : decode cX9_fedAt 12 = .ok (.aload_n 0, 1) := by decide +kernel
theorem dX9_fedAt_13 : decode cX9_fedAt 13 = .ok (.getfield 33, 3) := by decide +kernel
theorem dX9_fedAt_16 : decode cX9_fedAt 16 = .ok (.iconst 0, 1) := by decide +kernel
theorem dX9_fedAt_17 : decode cX9_fedAt 17 = .ok (.aload_n 0, 1) := by decide +kernel
theorem dX9_fedAt_18 : decode cX9_fedAt 18 = .ok (.getfield 9, 3) := by decide +kernel
theorem dX9_fedAt_21 : decode cX9_fedAt 21 = .ok (.iload_n 1, 1) := by decide +kernel
theorem dX9_fedAt_22 : decode cX9_fedAt 22 = .ok (.iaload, 1) := by decide +kernel
theorem dX9_fedAt_23 : decode cX9_fedAt 23 = .ok (.iastore, 1) := by decide +kernel
theorem dX9_fedAt_24 : decode cX9_fedAt 24 = .ok (.aload_n 0, 1) := by decide +kernel
theorem dX9_fedAt_25 : decode cX9_fedAt 25 = .ok (.getfield 33, 3) := by decide +kernel
theorem dX9_fedAt_28 : decode cX9_fedAt 28 = .ok (.iconst 1, 1) := by decide +kernel
theorem dX9_fedAt_29 : decode cX9_fedAt 29 = .ok (.aload_n 0, 1) := by decide +kernel
theorem dX9_fedAt_30 : decode cX9_fedAt 30 = .ok (.getfield 36, 3) := by decide +kernel
theorem dX9_fedAt_33 : decode cX9_fedAt 33 = .ok (.getfield 114, 3) := by decide +kernel
theorem dX9_fedAt_36 : decode cX9_fedAt 36 = .ok (.iload_n 1, 1) := by decide +kernel
theorem dX9_fedAt_37 : decode cX9_fedAt 37 = .ok (.iaload, 1) := by decide +kernel
theorem dX9_fedAt_38 : decode cX9_fedAt 38 = .ok (.iastore, 1) := by decide +kernel
theorem dX9_fedAt_39 : decode cX9_fedAt 39 = .ok (.aload_n 0, 1) := by decide +kernel
theorem dX9_fedAt_40 : decode cX9_fedAt 40 = .ok (.getfield 33, 3) := by decide +kernel
theorem dX9_fedAt_43 : decode cX9_fedAt 43 = .ok (.iconst 2, 1) := by decide +kernel
theorem dX9_fedAt_44 : decode cX9_fedAt 44 = .ok (.iload_n 2, 1) := by decide +kernel
theorem dX9_fedAt_45 : decode cX9_fedAt 45 = .ok (.iastore, 1) := by decide +kernel
theorem dX9_fedAt_46 : decode cX9_fedAt 46 = .ok (.aload_n 0, 1) := by decide +kernel
theorem dX9_fedAt_47 : decode cX9_fedAt 47 = .ok (.getfield 33, 3) := by decide +kernel
theorem dX9_fedAt_50 : decode cX9_fedAt 50 = .ok (.iconst 3, 1) := by decide +kernel
theorem dX9_fedAt_51 : decode cX9_fedAt 51 = .ok (.aload_n 0, 1) := by decide +kernel
theorem dX9_fedAt_52 : decode cX9_fedAt 52 = .ok (.getfield 40, 3) := by decide +kernel
theorem dX9_fedAt_55 : decode cX9_fedAt 55 = .ok (.iastore, 1) := by decide +kernel
theorem dX9_fedAt_56 : decode cX9_fedAt 56 = .ok (.aload_n 0, 1) := by decide +kernel
theorem dX9_fedAt_57 : decode cX9_fedAt 57 = .ok (.getfield 36, 3) := by decide +kernel
theorem dX9_fedAt_60 : decode cX9_fedAt 60 = .ok (.getfield 117, 3) := by decide +kernel
theorem dX9_fedAt_63 : decode cX9_fedAt 63 = .ok (.aload_n 0, 1) := by decide +kernel
theorem dX9_fedAt_64 : decode cX9_fedAt 64 = .ok (.getfield 33, 3) := by decide +kernel
theorem dX9_fedAt_67 : decode cX9_fedAt 67 = .ok (.invokevirtual 121, 3) := by decide +kernel
theorem dX9_fedAt_70 : decode cX9_fedAt 70 = .ok (.istore_n 3, 1) := by decide +kernel
theorem dX9_fedAt_71 : decode cX9_fedAt 71 = .ok (.iload_n 3, 1) := by decide +kernel
theorem dX9_fedAt_72 : decode cX9_fedAt 72 = .ok (.iconst 0, 1) := by decide +kernel
theorem dX9_fedAt_73 : decode cX9_fedAt 73 = .ok (.invokestatic 127, 3) := by decide +kernel
theorem dX9_fedAt_76 : decode cX9_fedAt 76 = .ok (.aload_n 0, 1) := by decide +kernel
theorem dX9_fedAt_77 : decode cX9_fedAt 77 = .ok (.getfield 9, 3) := by decide +kernel
theorem dX9_fedAt_80 : decode cX9_fedAt 80 = .ok (.iload_n 1, 1) := by decide +kernel
theorem dX9_fedAt_81 : decode cX9_fedAt 81 = .ok (.iaload, 1) := by decide +kernel
theorem dX9_fedAt_82 : decode cX9_fedAt 82 = .ok (.iload_n 2, 1) := by decide +kernel
theorem dX9_fedAt_83 : decode cX9_fedAt 83 = .ok (.invokestatic 132, 3) := by decide +kernel
theorem dX9_fedAt_86 : decode cX9_fedAt 86 = .ok (.invokestatic 132, 3) := by decide +kernel
theorem dX9_fedAt_89 : decode cX9_fedAt 89 = .ok (.ireturn, 1) := by decide +kernel
theorem dX9_takenAt_0 : decode cX9_takenAt 0 = .ok (.iload_n 2, 1) := by decide +kernel
theorem dX9_takenAt_1 : decode cX9_takenAt 1 = .ok (.iconst 1, 1) := by decide +kernel
theorem dX9_takenAt_2 : decode cX9_takenAt 2 = .ok (.iadd, 1) := by decide +kernel
theorem dX9_takenAt_3 : decode cX9_takenAt 3 = .ok (.iconst 2, 1) := by decide +kernel
theorem dX9_takenAt_4 : decode cX9_takenAt 4 = .ok (.idiv, 1) := by decide +kernel
theorem dX9_takenAt_5 : decode cX9_takenAt 5 = .ok (.aload_n 0, 1) := by decide +kernel
theorem dX9_takenAt_6 : decode cX9_takenAt 6 = .ok (.getfield 36, 3) := by decide +kernel
theorem dX9_takenAt_9 : decode cX9_takenAt 9 = .ok (.getfield 114, 3) := by decide +kernel
theorem dX9_takenAt_12 : decode cX9_takenAt 12 = .ok (.iload_n 1, 1) := by decide +kernel
theorem dX9_takenAt_13 : decode cX9_takenAt 13 = .ok (.iaload, 1) := by decide +kernel
theorem dX9_takenAt_14 : decode cX9_takenAt 14 = .ok (.isub, 1) := by decide +kernel
theorem dX9_takenAt_15 : decode cX9_takenAt 15 = .ok (.istore_n 3, 1) := by decide +kernel
theorem dX9_takenAt_16 : decode cX9_takenAt 16 = .ok (.iload_n 3, 1) := by decide +kernel
theorem dX9_takenAt_17 : decode cX9_takenAt 17 = .ok (.iconst 0, 1) := by decide +kernel
theorem dX9_takenAt_18 : decode cX9_takenAt 18 = .ok (.invokestatic 127, 3) := by decide +kernel
theorem dX9_takenAt_21 : decode cX9_takenAt 21 = .ok (.aload_n 0, 1) := by decide +kernel
theorem dX9_takenAt_22 : decode cX9_takenAt 22 = .ok (.getfield 9, 3) := by decide +kernel
theorem dX9_takenAt_25 : decode cX9_takenAt 25 = .ok (.iload_n 1, 1) := by decide +kernel
theorem dX9_takenAt_26 : decode cX9_takenAt 26 = .ok (.iaload, 1) := by decide +kernel
theorem dX9_takenAt_27 : decode cX9_takenAt 27 = .ok (.invokestatic 132, 3) := by decide +kernel
theorem dX9_takenAt_30 : decode cX9_takenAt 30 = .ok (.ireturn, 1) := by decide +kernel
theorem dX9_bestAround_0 : decode cX9_bestAround 0 = .ok (.iconst 0, 1) := by decide +kernel
theorem dX9_bestAround_1 : decode cX9_bestAround 1 = .ok (.istore 4, 2) := by decide +kernel
theorem dX9_bestAround_3 : decode cX9_bestAround 3 = .ok (.iconst 0, 1) := by decide +kernel
theorem dX9_bestAround_4 : decode cX9_bestAround 4 = .ok (.istore 5, 2) := by decide +kernel
theorem dX9_bestAround_6 : decode cX9_bestAround 6 = .ok (.aload_n 0, 1) := by decide +kernel
theorem dX9_bestAround_7 : decode cX9_bestAround 7 = .ok (.iload_n 1, 1) := by decide +kernel
theorem dX9_bestAround_8 : decode cX9_bestAround 8 = .ok (.invokevirtual 135, 3) := by decide +kernel
theorem dX9_bestAround_11 : decode cX9_bestAround 11 = .ok (.istore 6, 2) := by decide +kernel
theorem dX9_bestAround_13 : decode cX9_bestAround 13 = .ok (.aload_n 0, 1) := by decide +kernel
theorem dX9_bestAround_14 : decode cX9_bestAround 14 = .ok (.getfield 33, 3) := by decide +kernel
theorem dX9_bestAround_17 : decode cX9_bestAround 17 = .ok (.iconst 2, 1) := by decide +kernel
theorem dX9_bestAround_18 : decode cX9_bestAround 18 = .ok (.iload_n 2, 1) := by decide +kernel
theorem dX9_bestAround_19 : decode cX9_bestAround 19 = .ok (.iastore, 1) := by decide +kernel
theorem dX9_bestAround_20 : decode cX9_bestAround 20 = .ok (.aload_n 0, 1) := by decide +kernel
theorem dX9_bestAround_21 : decode cX9_bestAround 21 = .ok (.getfield 33, 3) := by decide +kernel
theorem dX9_bestAround_24 : decode cX9_bestAround 24 = .ok (.iconst 5, 1) := by decide +kernel
theorem dX9_bestAround_25 : decode cX9_bestAround 25 = .ok (.iload_n 3, 1) := by decide +kernel
theorem dX9_bestAround_26 : decode cX9_bestAround 26 = .ok (.iastore, 1) := by decide +kernel
theorem dX9_bestAround_27 : decode cX9_bestAround 27 = .ok (.iconst 0, 1) := by decide +kernel
theorem dX9_bestAround_28 : decode cX9_bestAround 28 = .ok (.istore 7, 2) := by decide +kernel
theorem dX9_bestAround_30 : decode cX9_bestAround 30 = .ok (.iload 7, 2) := by decide +kernel
theorem dX9_bestAround_32 : decode cX9_bestAround 32 = .ok (.aload_n 0, 1) := by decide +kernel
theorem dX9_bestAround_33 : decode cX9_bestAround 33 = .ok (.getfield 36, 3) := by decide +kernel
theorem dX9_bestAround_36 : decode cX9_bestAround 36 = .ok (.getfield 71, 3) := by decide +kernel
theorem dX9_bestAround_39 : decode cX9_bestAround 39 = .ok (.if_icmp .ge 127, 3) := by decide +kernel
theorem dX9_bestAround_42 : decode cX9_bestAround 42 = .ok (.iload 6, 2) := by decide +kernel
theorem dX9_bestAround_44 : decode cX9_bestAround 44 = .ok (.iload 7, 2) := by decide +kernel
theorem dX9_bestAround_46 : decode cX9_bestAround 46 = .ok (.ishr, 1) := by decide +kernel
theorem dX9_bestAround_47 : decode cX9_bestAround 47 = .ok (.iconst 1, 1) := by decide +kernel
theorem dX9_bestAround_48 : decode cX9_bestAround 48 = .ok (.iand, 1) := by decide +kernel
theorem dX9_bestAround_49 : decode cX9_bestAround 49 = .ok (.iconst 1, 1) := by decide +kernel
theorem dX9_bestAround_50 : decode cX9_bestAround 50 = .ok (.if_icmp .ne 110, 3) := by decide +kernel
theorem dX9_bestAround_53 : decode cX9_bestAround 53 = .ok (.aload_n 0, 1) := by decide +kernel
theorem dX9_bestAround_54 : decode cX9_bestAround 54 = .ok (.getfield 33, 3) := by decide +kernel
theorem dX9_bestAround_57 : decode cX9_bestAround 57 = .ok (.iconst 0, 1) := by decide +kernel
theorem dX9_bestAround_58 : decode cX9_bestAround 58 = .ok (.aload_n 0, 1) := by decide +kernel
theorem dX9_bestAround_59 : decode cX9_bestAround 59 = .ok (.getfield 9, 3) := by decide +kernel
theorem dX9_bestAround_62 : decode cX9_bestAround 62 = .ok (.iload 7, 2) := by decide +kernel
theorem dX9_bestAround_64 : decode cX9_bestAround 64 = .ok (.iaload, 1) := by decide +kernel
theorem dX9_bestAround_65 : decode cX9_bestAround 65 = .ok (.iastore, 1) := by decide +kernel
theorem dX9_bestAround_66 : decode cX9_bestAround 66 = .ok (.aload_n 0, 1) := by decide +kernel
theorem dX9_bestAround_67 : decode cX9_bestAround 67 = .ok (.getfield 33, 3) := by decide +kernel
theorem dX9_bestAround_70 : decode cX9_bestAround 70 = .ok (.iconst 1, 1) := by decide +kernel
theorem dX9_bestAround_71 : decode cX9_bestAround 71 = .ok (.aload_n 0, 1) := by decide +kernel
theorem dX9_bestAround_72 : decode cX9_bestAround 72 = .ok (.getfield 36, 3) := by decide +kernel
theorem dX9_bestAround_75 : decode cX9_bestAround 75 = .ok (.getfield 114, 3) := by decide +kernel
theorem dX9_bestAround_78 : decode cX9_bestAround 78 = .ok (.iload 7, 2) := by decide +kernel
theorem dX9_bestAround_80 : decode cX9_bestAround 80 = .ok (.iaload, 1) := by decide +kernel
theorem dX9_bestAround_81 : decode cX9_bestAround 81 = .ok (.iastore, 1) := by decide +kernel
theorem dX9_bestAround_82 : decode cX9_bestAround 82 = .ok (.aload_n 0, 1) := by decide +kernel
theorem dX9_bestAround_83 : decode cX9_bestAround 83 = .ok (.getfield 33, 3) := by decide +kernel
theorem dX9_bestAround_86 : decode cX9_bestAround 86 = .ok (.iconst 4, 1) := by decide +kernel
theorem dX9_bestAround_87 : decode cX9_bestAround 87 = .ok (.aload_n 0, 1) := by decide +kernel
theorem dX9_bestAround_88 : decode cX9_bestAround 88 = .ok (.getfield 36, 3) := by decide +kernel
theorem dX9_bestAround_91 : decode cX9_bestAround 91 = .ok (.getfield 138, 3) := by decide +kernel
theorem dX9_bestAround_94 : decode cX9_bestAround 94 = .ok (.iload_n 1, 1) := by decide +kernel
theorem dX9_bestAround_95 : decode cX9_bestAround 95 = .ok (.bipush 6, 2) := by decide +kernel
theorem dX9_bestAround_97 : decode cX9_bestAround 97 = .ok (.imul, 1) := by decide +kernel
theorem dX9_bestAround_98 : decode cX9_bestAround 98 = .ok (.iload 7, 2) := by decide +kernel
theorem dX9_bestAround_100 : decode cX9_bestAround 100 = .ok (.iadd, 1) := by decide +kernel
theorem dX9_bestAround_101 : decode cX9_bestAround 101 = .ok (.iaload, 1) := by decide +kernel
theorem dX9_bestAround_102 : decode cX9_bestAround 102 = .ok (.iastore, 1) := by decide +kernel
theorem dX9_bestAround_103 : decode cX9_bestAround 103 = .ok (.aload_n 0, 1) := by decide +kernel
theorem dX9_bestAround_104 : decode cX9_bestAround 104 = .ok (.getfield 36, 3) := by decide +kernel
theorem dX9_bestAround_107 : decode cX9_bestAround 107 = .ok (.getfield 141, 3) := by decide +kernel
theorem dX9_bestAround_110 : decode cX9_bestAround 110 = .ok (.aload_n 0, 1) := by decide +kernel
theorem dX9_bestAround_111 : decode cX9_bestAround 111 = .ok (.getfield 33, 3) := by decide +kernel
theorem dX9_bestAround_114 : decode cX9_bestAround 114 = .ok (.invokevirtual 121, 3) := by decide +kernel
theorem dX9_bestAround_117 : decode cX9_bestAround 117 = .ok (.istore 8, 2) := by decide +kernel
theorem dX9_bestAround_119 : decode cX9_bestAround 119 = .ok (.iload 8, 2) := by decide +kernel
theorem dX9_bestAround_121 : decode cX9_bestAround 121 = .ok (.iload 4, 2) := by decide +kernel
theorem dX9_bestAround_123 : decode cX9_bestAround 123 = .ok (.if_icmp .le 16, 3) := by decide +kernel
theorem dX9_bestAround_126 : decode cX9_bestAround 126 = .ok (.iload 8, 2) := by decide +kernel
theorem dX9_bestAround_128 : decode cX9_bestAround 128 = .ok (.istore 4, 2) := by decide +kernel
theorem dX9_bestAround_130 : decode cX9_bestAround 130 = .ok (.iconst 1, 1) := by decide +kernel
theorem dX9_bestAround_131 : decode cX9_bestAround 131 = .ok (.iload 7, 2) := by decide +kernel
theorem dX9_bestAround_133 : decode cX9_bestAround 133 = .ok (.ishl, 1) := by decide +kernel
theorem dX9_bestAround_134 : decode cX9_bestAround 134 = .ok (.istore 5, 2) := by decide +kernel
theorem dX9_bestAround_136 : decode cX9_bestAround 136 = .ok (.goto 24, 3) := by decide +kernel
theorem dX9_bestAround_139 : decode cX9_bestAround 139 = .ok (.iload 8, 2) := by decide +kernel
theorem dX9_bestAround_141 : decode cX9_bestAround 141 = .ok (.iload 4, 2) := by decide +kernel
theorem dX9_bestAround_143 : decode cX9_bestAround 143 = .ok (.if_icmp .ne 17, 3) := by decide +kernel
theorem dX9_bestAround_146 : decode cX9_bestAround 146 = .ok (.iload 5, 2) := by decide +kernel
theorem dX9_bestAround_148 : decode cX9_bestAround 148 = .ok (.ifCond .eq 12, 3) := by decide +kernel
theorem dX9_bestAround_151 : decode cX9_bestAround 151 = .ok (.iload 5, 2) := by decide +kernel
theorem dX9_bestAround_153 : decode cX9_bestAround 153 = .ok (.iconst 1, 1) := by decide +kernel
theorem dX9_bestAround_154 : decode cX9_bestAround 154 = .ok (.iload 7, 2) := by decide +kernel
theorem dX9_bestAround_156 : decode cX9_bestAround 156 = .ok (.ishl, 1) := by decide +kernel
theorem dX9_bestAround_157 : decode cX9_bestAround 157 = .ok (.ior, 1) := by decide +kernel
theorem dX9_bestAround_158 : decode cX9_bestAround 158 = .ok (.istore 5, 2) := by decide +kernel
theorem dX9_bestAround_160 : decode cX9_bestAround 160 = .ok (.iinc 7 1, 3) := by decide +kernel
theorem dX9_bestAround_163 : decode cX9_bestAround 163 = .ok (.goto (-133), 3) := by decide +kernel
theorem dX9_bestAround_166 : decode cX9_bestAround 166 = .ok (.iload 5, 2) := by decide +kernel
theorem dX9_bestAround_168 : decode cX9_bestAround 168 = .ok (.ireturn, 1) := by decide +kernel
theorem dX9_oneOf_0 : decode cX9_oneOf 0 = .ok (.iload_n 1, 1) := by decide +kernel
theorem dX9_oneOf_1 : decode cX9_oneOf 1 = .ok (.invokestatic 74, 3) := by decide +kernel
theorem dX9_oneOf_4 : decode cX9_oneOf 4 = .ok (.istore_n 2, 1) := by decide +kernel
theorem dX9_oneOf_5 : decode cX9_oneOf 5 = .ok (.iload_n 2, 1) := by decide +kernel
theorem dX9_oneOf_6 : decode cX9_oneOf 6 = .ok (.iconst 1, 1) := by decide +kernel
theorem dX9_oneOf_7 : decode cX9_oneOf 7 = .ok (.if_icmp .le 11, 3) := by decide +kernel
theorem dX9_oneOf_10 : decode cX9_oneOf 10 = .ok (.aload_n 0, 1) := by decide +kernel
theorem dX9_oneOf_11 : decode cX9_oneOf 11 = .ok (.iload_n 2, 1) := by decide +kernel
theorem dX9_oneOf_12 : decode cX9_oneOf 12 = .ok (.invokevirtual 144, 3) := by decide +kernel
theorem dX9_oneOf_15 : decode cX9_oneOf 15 = .ok (.goto 4, 3) := by decide +kernel
theorem dX9_oneOf_18 : decode cX9_oneOf 18 = .ok (.iconst 0, 1) := by decide +kernel
theorem dX9_oneOf_19 : decode cX9_oneOf 19 = .ok (.istore_n 3, 1) := by decide +kernel
theorem dX9_oneOf_20 : decode cX9_oneOf 20 = .ok (.iconst 0, 1) := by decide +kernel
theorem dX9_oneOf_21 : decode cX9_oneOf 21 = .ok (.istore 4, 2) := by decide +kernel
theorem dX9_oneOf_23 : decode cX9_oneOf 23 = .ok (.iload 4, 2) := by decide +kernel
theorem dX9_oneOf_25 : decode cX9_oneOf 25 = .ok (.bipush 6, 2) := by decide +kernel
theorem dX9_oneOf_27 : decode cX9_oneOf 27 = .ok (.if_icmp .ge 29, 3) := by decide +kernel
theorem dX9_oneOf_30 : decode cX9_oneOf 30 = .ok (.iload_n 1, 1) := by decide +kernel
theorem dX9_oneOf_31 : decode cX9_oneOf 31 = .ok (.iload 4, 2) := by decide +kernel
theorem dX9_oneOf_33 : decode cX9_oneOf 33 = .ok (.ishr, 1) := by decide +kernel
theorem dX9_oneOf_34 : decode cX9_oneOf 34 = .ok (.iconst 1, 1) := by decide +kernel
theorem dX9_oneOf_35 : decode cX9_oneOf 35 = .ok (.iand, 1) := by decide +kernel
theorem dX9_oneOf_36 : decode cX9_oneOf 36 = .ok (.iconst 1, 1) := by decide +kernel
theorem dX9_oneOf_37 : decode cX9_oneOf 37 = .ok (.if_icmp .ne 13, 3) := by decide +kernel
theorem dX9_oneOf_40 : decode cX9_oneOf 40 = .ok (.iload_n 3, 1) := by decide +kernel
theorem dX9_oneOf_41 : decode cX9_oneOf 41 = .ok (.ifCond .ne 6, 3) := by decide +kernel
theorem dX9_oneOf_44 : decode cX9_oneOf 44 = .ok (.iload 4, 2) := by decide +kernel
theorem dX9_oneOf_46 : decode cX9_oneOf 46 = .ok (.ireturn, 1) := by decide +kernel
theorem dX9_oneOf_47 : decode cX9_oneOf 47 = .ok (.iinc 3 (-1), 3) := by decide +kernel
theorem dX9_oneOf_50 : decode cX9_oneOf 50 = .ok (.iinc 4 1, 3) := by decide +kernel
theorem dX9_oneOf_53 : decode cX9_oneOf 53 = .ok (.goto (-30), 3) := by decide +kernel
theorem dX9_oneOf_56 : decode cX9_oneOf 56 = .ok (.iconst (-1), 1) := by decide +kernel
theorem dX9_oneOf_57 : decode cX9_oneOf 57 = .ok (.ireturn, 1) := by decide +kernel
theorem dX9_draw_0 : decode cX9_draw 0 = .ok (.aload_n 0, 1) := by decide +kernel
theorem dX9_draw_1 : decode cX9_draw 1 = .ok (.aload_n 0, 1) := by decide +kernel
theorem dX9_draw_2 : decode cX9_draw 2 = .ok (.getfield 44, 3) := by decide +kernel
theorem dX9_draw_5 : decode cX9_draw 5 = .ok (.ldc2_w 147, 3) := by decide +kernel
theorem dX9_draw_8 : decode cX9_draw 8 = .ok (.lmul, 1) := by decide +kernel
theorem dX9_draw_9 : decode cX9_draw 9 = .ok (.ldc2_w 149, 3) := by decide +kernel
theorem dX9_draw_12 : decode cX9_draw 12 = .ok (.ladd, 1) := by decide +kernel
theorem dX9_draw_13 : decode cX9_draw 13 = .ok (.ldc2_w 151, 3) := by decide +kernel
theorem dX9_draw_16 : decode cX9_draw 16 = .ok (.lrem, 1) := by decide +kernel
theorem dX9_draw_17 : decode cX9_draw 17 = .ok (.putfield 44, 3) := by decide +kernel
theorem dX9_draw_20 : decode cX9_draw 20 = .ok (.iload_n 1, 1) := by decide +kernel
theorem dX9_draw_21 : decode cX9_draw 21 = .ok (.ifCond .le 18, 3) := by decide +kernel
theorem dX9_draw_24 : decode cX9_draw 24 = .ok (.aload_n 0, 1) := by decide +kernel
theorem dX9_draw_25 : decode cX9_draw 25 = .ok (.getfield 44, 3) := by decide +kernel
theorem dX9_draw_28 : decode cX9_draw 28 = .ok (.ldc2_w 153, 3) := by decide +kernel
theorem dX9_draw_31 : decode cX9_draw 31 = .ok (.ldiv, 1) := by decide +kernel
theorem dX9_draw_32 : decode cX9_draw 32 = .ok (.iload_n 1, 1) := by decide +kernel
theorem dX9_draw_33 : decode cX9_draw 33 = .ok (.i2l, 1) := by decide +kernel
theorem dX9_draw_34 : decode cX9_draw 34 = .ok (.lrem, 1) := by decide +kernel
theorem dX9_draw_35 : decode cX9_draw 35 = .ok (.l2i, 1) := by decide +kernel
theorem dX9_draw_36 : decode cX9_draw 36 = .ok (.goto 4, 3) := by decide +kernel
theorem dX9_draw_39 : decode cX9_draw 39 = .ok (.iconst 0, 1) := by decide +kernel
theorem dX9_draw_40 : decode cX9_draw 40 = .ok (.ireturn, 1) := by decide +kernel
theorem dX9_endNight_0 : decode cX9_endNight 0 = .ok (.aload_n 0, 1) := by decide +kernel
theorem dX9_endNight_1 : decode cX9_endNight 1 = .ok (.dup, 1) := by decide +kernel
theorem dX9_endNight_2 : decode cX9_endNight 2 = .ok (.getfield 40, 3) := by decide +kernel
theorem dX9_endNight_5 : decode cX9_endNight 5 = .ok (.iconst 1, 1) := by decide +kernel
theorem dX9_endNight_6 : decode cX9_endNight 6 = .ok (.iadd, 1) := by decide +kernel
theorem dX9_endNight_7 : decode cX9_endNight 7 = .ok (.putfield 40, 3) := by decide +kernel
theorem dX9_endNight_10 : decode cX9_endNight 10 = .ok (.aload_n 0, 1) := by decide +kernel
theorem dX9_endNight_11 : decode cX9_endNight 11 = .ok (.getfield 40, 3) := by decide +kernel
theorem dX9_endNight_14 : decode cX9_endNight 14 = .ok (.bipush 28, 2) := by decide +kernel
theorem dX9_endNight_16 : decode cX9_endNight 16 = .ok (.irem, 1) := by decide +kernel
theorem dX9_endNight_17 : decode cX9_endNight 17 = .ok (.ifCond .ne 50, 3) := by decide +kernel
theorem dX9_endNight_20 : decode cX9_endNight 20 = .ok (.iconst 0, 1) := by decide +kernel
theorem dX9_endNight_21 : decode cX9_endNight 21 = .ok (.istore_n 1, 1) := by decide +kernel
theorem dX9_endNight_22 : decode cX9_endNight 22 = .ok (.iload_n 1, 1) := by decide +kernel
theorem dX9_endNight_23 : decode cX9_endNight 23 = .ok (.aload_n 0, 1) := by decide +kernel
theorem dX9_endNight_24 : decode cX9_endNight 24 = .ok (.getfield 36, 3) := by decide +kernel
theorem dX9_endNight_27 : decode cX9_endNight 27 = .ok (.getfield 71, 3) := by decide +kernel
theorem dX9_endNight_30 : decode cX9_endNight 30 = .ok (.if_icmp .ge 37, 3) := by decide +kernel
theorem dX9_endNight_33 : decode cX9_endNight 33 = .ok (.aload_n 0, 1) := by decide +kernel
theorem dX9_endNight_34 : decode cX9_endNight 34 = .ok (.getfield 9, 3) := by decide +kernel
theorem dX9_endNight_37 : decode cX9_endNight 37 = .ok (.iload_n 1, 1) := by decide +kernel
theorem dX9_endNight_38 : decode cX9_endNight 38 = .ok (.aload_n 0, 1) := by decide +kernel
theorem dX9_endNight_39 : decode cX9_endNight 39 = .ok (.getfield 9, 3) := by decide +kernel
theorem dX9_endNight_42 : decode cX9_endNight 42 = .ok (.iload_n 1, 1) := by decide +kernel
theorem dX9_endNight_43 : decode cX9_endNight 43 = .ok (.iaload, 1) := by decide +kernel
theorem dX9_endNight_44 : decode cX9_endNight 44 = .ok (.aload_n 0, 1) := by decide +kernel
theorem dX9_endNight_45 : decode cX9_endNight 45 = .ok (.getfield 9, 3) := by decide +kernel
theorem dX9_endNight_48 : decode cX9_endNight 48 = .ok (.iload_n 1, 1) := by decide +kernel
theorem dX9_endNight_49 : decode cX9_endNight 49 = .ok (.iaload, 1) := by decide +kernel
theorem dX9_endNight_50 : decode cX9_endNight 50 = .ok (.bipush 10, 2) := by decide +kernel
theorem dX9_endNight_52 : decode cX9_endNight 52 = .ok (.idiv, 1) := by decide +kernel
theorem dX9_endNight_53 : decode cX9_endNight 53 = .ok (.iadd, 1) := by decide +kernel
theorem dX9_endNight_54 : decode cX9_endNight 54 = .ok (.sipush 9999, 3) := by decide +kernel
theorem dX9_endNight_57 : decode cX9_endNight 57 = .ok (.invokestatic 132, 3) := by decide +kernel
theorem dX9_endNight_60 : decode cX9_endNight 60 = .ok (.iastore, 1) := by decide +kernel
theorem dX9_endNight_61 : decode cX9_endNight 61 = .ok (.iinc 1 1, 3) := by decide +kernel
theorem dX9_endNight_64 : decode cX9_endNight 64 = .ok (.goto (-42), 3) := by decide +kernel
theorem dX9_endNight_67 : decode cX9_endNight 67 = .ok (.return_, 1) := by decide +kernel
theorem dX10_init_0 : decode cX10_init 0 = .ok (.aload_n 0, 1) := by decide +kernel
theorem dX10_init_1 : decode cX10_init 1 = .ok (.invokespecial 1, 3) := by decide +kernel
theorem dX10_init_4 : decode cX10_init 4 = .ok (.new 7, 3) := by decide +kernel
theorem dX10_init_7 : decode cX10_init 7 = .ok (.dup, 1) := by decide +kernel
theorem dX10_init_8 : decode cX10_init 8 = .ok (.invokespecial 9, 3) := by decide +kernel
theorem dX10_init_11 : decode cX10_init 11 = .ok (.astore_n 1, 1) := by decide +kernel
theorem dX10_init_12 : decode cX10_init 12 = .ok (.aload_n 0, 1) := by decide +kernel
theorem dX10_init_13 : decode cX10_init 13 = .ok (.new 10, 3) := by decide +kernel
theorem dX10_init_16 : decode cX10_init 16 = .ok (.dup, 1) := by decide +kernel
theorem dX10_init_17 : decode cX10_init 17 = .ok (.invokespecial 12, 3) := by decide +kernel
theorem dX10_init_20 : decode cX10_init 20 = .ok (.putfield 13, 3) := by decide +kernel
theorem dX10_init_23 : decode cX10_init 23 = .ok (.aload_n 0, 1) := by decide +kernel
theorem dX10_init_24 : decode cX10_init 24 = .ok (.new 7, 3) := by decide +kernel
theorem dX10_init_27 : decode cX10_init 27 = .ok (.dup, 1) := by decide +kernel
theorem dX10_init_28 : decode cX10_init 28 = .ok (.invokespecial 9, 3) := by decide +kernel
theorem dX10_init_31 : decode cX10_init 31 = .ok (.putfield 19, 3) := by decide +kernel
theorem dX10_init_34 : decode cX10_init 34 = .ok (.aload_n 0, 1) := by decide +kernel
theorem dX10_init_35 : decode cX10_init 35 = .ok (.new 23, 3) := by decide +kernel
theorem dX10_init_38 : decode cX10_init 38 = .ok (.dup, 1) := by decide +kernel
theorem dX10_init_39 : decode cX10_init 39 = .ok (.aload_n 0, 1) := by decide +kernel
theorem dX10_init_40 : decode cX10_init 40 = .ok (.getfield 13, 3) := by decide +kernel
theorem dX10_init_43 : decode cX10_init 43 = .ok (.aload_n 0, 1) := by decide +kernel
theorem dX10_init_44 : decode cX10_init 44 = .ok (.getfield 19, 3) := by decide +kernel
theorem dX10_init_47 : decode cX10_init 47 = .ok (.invokespecial 25, 3) := by decide +kernel
theorem dX10_init_50 : decode cX10_init 50 = .ok (.putfield 28, 3) := by decide +kernel
theorem dX10_init_53 : decode cX10_init 53 = .ok (.aload_n 0, 1) := by decide +kernel
theorem dX10_init_54 : decode cX10_init 54 = .ok (.new 32, 3) := by decide +kernel
theorem dX10_init_57 : decode cX10_init 57 = .ok (.dup, 1) := by decide +kernel
theorem dX10_init_58 : decode cX10_init 58 = .ok (.aload_n 1, 1) := by decide +kernel
theorem dX10_init_59 : decode cX10_init 59 = .ok (.invokespecial 34, 3) := by decide +kernel
theorem dX10_init_62 : decode cX10_init 62 = .ok (.putfield 37, 3) := by decide +kernel
theorem dX10_init_65 : decode cX10_init 65 = .ok (.aload_n 0, 1) := by decide +kernel
theorem dX10_init_66 : decode cX10_init 66 = .ok (.new 41, 3) := by decide +kernel
theorem dX10_init_69 : decode cX10_init 69 = .ok (.dup, 1) := by decide +kernel
theorem dX10_init_70 : decode cX10_init 70 = .ok (.invokespecial 43, 3) := by decide +kernel
theorem dX10_init_73 : decode cX10_init 73 = .ok (.putfield 44, 3) := by decide +kernel
theorem dX10_init_76 : decode cX10_init 76 = .ok (.aload_n 0, 1) := by decide +kernel
theorem dX10_init_77 : decode cX10_init 77 = .ok (.new 32, 3) := by decide +kernel
theorem dX10_init_80 : decode cX10_init 80 = .ok (.dup, 1) := by decide +kernel
theorem dX10_init_81 : decode cX10_init 81 = .ok (.aload_n 1, 1) := by decide +kernel
theorem dX10_init_82 : decode cX10_init 82 = .ok (.invokespecial 34, 3) := by decide +kernel
theorem dX10_init_85 : decode cX10_init 85 = .ok (.putfield 48, 3) := by decide +kernel
theorem dX10_init_88 : decode cX10_init 88 = .ok (.aload_n 0, 1) := by decide +kernel
theorem dX10_init_89 : decode cX10_init 89 = .ok (.new 41, 3) := by decide +kernel
theorem dX10_init_92 : decode cX10_init 92 = .ok (.dup, 1) := by decide +kernel
theorem dX10_init_93 : decode cX10_init 93 = .ok (.invokespecial 43, 3) := by decide +kernel
theorem dX10_init_96 : decode cX10_init 96 = .ok (.putfield 51, 3) := by decide +kernel
theorem dX10_init_99 : decode cX10_init 99 = .ok (.aload_n 0, 1) := by decide +kernel
theorem dX10_init_100 : decode cX10_init 100 = .ok (.new 54, 3) := by decide +kernel
theorem dX10_init_103 : decode cX10_init 103 = .ok (.dup, 1) := by decide +kernel
theorem dX10_init_104 : decode cX10_init 104 = .ok (.aload_n 0, 1) := by decide +kernel
theorem dX10_init_105 : decode cX10_init 105 = .ok (.getfield 37, 3) := by decide +kernel
theorem dX10_init_108 : decode cX10_init 108 = .ok (.aload_n 0, 1) := by decide +kernel
theorem dX10_init_109 : decode cX10_init 109 = .ok (.getfield 48, 3) := by decide +kernel
theorem dX10_init_112 : decode cX10_init 112 = .ok (.aload_n 0, 1) := by decide +kernel
theorem dX10_init_113 : decode cX10_init 113 = .ok (.getfield 51, 3) := by decide +kernel
theorem dX10_init_116 : decode cX10_init 116 = .ok (.invokespecial 56, 3) := by decide +kernel
theorem dX10_init_119 : decode cX10_init 119 = .ok (.putfield 59, 3) := by decide +kernel
theorem dX10_init_122 : decode cX10_init 122 = .ok (.aload_n 0, 1) := by decide +kernel
theorem dX10_init_123 : decode cX10_init 123 = .ok (.new 63, 3) := by decide +kernel
theorem dX10_init_126 : decode cX10_init 126 = .ok (.dup, 1) := by decide +kernel
theorem dX10_init_127 : decode cX10_init 127 = .ok (.aload_n 0, 1) := by decide +kernel
theorem dX10_init_128 : decode cX10_init 128 = .ok (.getfield 37, 3) := by decide +kernel
theorem dX10_init_131 : decode cX10_init 131 = .ok (.aload_n 0, 1) := by decide +kernel
theorem dX10_init_132 : decode cX10_init 132 = .ok (.getfield 48, 3) := by decide +kernel
theorem dX10_init_135 : decode cX10_init 135 = .ok (.aload_n 0, 1) := by decide +kernel
theorem dX10_init_136 : decode cX10_init 136 = .ok (.getfield 51, 3) := by decide +kernel
theorem dX10_init_139 : decode cX10_init 139 = .ok (.invokespecial 65, 3) := by decide +kernel
theorem dX10_init_142 : decode cX10_init 142 = .ok (.putfield 66, 3) := by decide +kernel
theorem dX10_init_145 : decode cX10_init 145 = .ok (.aload_n 0, 1) := by decide +kernel
theorem dX10_init_146 : decode cX10_init 146 = .ok (.iconst 4, 1) := by decide +kernel
theorem dX10_init_147 : decode cX10_init 147 = .ok (.anewarray 70, 3) := by decide +kernel
theorem dX10_init_150 : decode cX10_init 150 = .ok (.putfield 72, 3) := by decide +kernel
theorem dX10_init_153 : decode cX10_init 153 = .ok (.iconst 0, 1) := by decide +kernel
theorem dX10_init_154 : decode cX10_init 154 = .ok (.istore_n 2, 1) := by decide +kernel
theorem dX10_init_155 : decode cX10_init 155 = .ok (.iload_n 2, 1) := by decide +kernel
theorem dX10_init_156 : decode cX10_init 156 = .ok (.iconst 4, 1) := by decide +kernel
theorem dX10_init_157 : decode cX10_init 157 = .ok (.if_icmp .ge 23, 3) := by decide +kernel
theorem dX10_init_160 : decode cX10_init 160 = .ok (.aload_n 0, 1) := by decide +kernel
theorem dX10_init_161 : decode cX10_init 161 = .ok (.getfield 72, 3) := by decide +kernel
theorem dX10_init_164 : decode cX10_init 164 = .ok (.iload_n 2, 1) := by decide +kernel
theorem dX10_init_165 : decode cX10_init 165 = .ok (.new 70, 3) := by decide +kernel
theorem dX10_init_168 : decode cX10_init 168 = .ok (.dup, 1) := by decide +kernel
theorem dX10_init_169 : decode cX10_init 169 = .ok (.aload_n 1, 1) := by decide +kernel
theorem dX10_init_170 : decode cX10_init 170 = .ok (.invokespecial 76, 3) := by decide +kernel
theorem dX10_init_173 : decode cX10_init 173 = .ok (.aastore, 1) := by decide +kernel
theorem dX10_init_174 : decode cX10_init 174 = .ok (.iinc 2 1, 3) := by decide +kernel
theorem dX10_init_177 : decode cX10_init 177 = .ok (.goto (-22), 3) := by decide +kernel
theorem dX10_init_180 : decode cX10_init 180 = .ok (.return_, 1) := by decide +kernel
theorem dX10_feed_0 : decode cX10_feed 0 = .ok (.aload_n 0, 1) := by decide +kernel
theorem dX10_feed_1 : decode cX10_feed 1 = .ok (.getfield 13, 3) := by decide +kernel
theorem dX10_feed_4 : decode cX10_feed 4 = .ok (.lload_n 1, 1) := by decide +kernel
theorem dX10_feed_5 : decode cX10_feed 5 = .ok (.invokevirtual 77, 3) := by decide +kernel
theorem dX10_feed_8 : decode cX10_feed 8 = .ok (.aload_n 0, 1) := by decide +kernel
theorem dX10_feed_9 : decode cX10_feed 9 = .ok (.getfield 13, 3) := by decide +kernel
theorem dX10_feed_12 : decode cX10_feed 12 = .ok (.lload_n 3, 1) := by decide +kernel
theorem dX10_feed_13 : decode cX10_feed 13 = .ok (.invokevirtual 77, 3) := by decide +kernel
theorem dX10_feed_16 : decode cX10_feed 16 = .ok (.aload_n 0, 1) := by decide +kernel
theorem dX10_feed_17 : decode cX10_feed 17 = .ok (.getfield 13, 3) := by decide +kernel
theorem dX10_feed_20 : decode cX10_feed 20 = .ok (.lload 5, 2) := by decide +kernel
theorem dX10_feed_22 : decode cX10_feed 22 = .ok (.invokevirtual 77, 3) := by decide +kernel
theorem dX10_feed_25 : decode cX10_feed 25 = .ok (.aload_n 0, 1) := by decide +kernel
theorem dX10_feed_26 : decode cX10_feed 26 = .ok (.getfield 13, 3) := by decide +kernel
theorem dX10_feed_29 : decode cX10_feed 29 = .ok (.getfield 81, 3) := by decide +kernel
theorem dX10_feed_32 : decode cX10_feed 32 = .ok (.ireturn, 1) := by decide +kernel
theorem dX10_mountain_0 : decode cX10_mountain 0 = .ok (.aload_n 0, 1) := by decide +kernel
theorem dX10_mountain_1 : decode cX10_mountain 1 = .ok (.getfield 28, 3) := by decide +kernel
theorem dX10_mountain_4 : decode cX10_mountain 4 = .ok (.aload_n 0, 1) := by decide +kernel
theorem dX10_mountain_5 : decode cX10_mountain 5 = .ok (.getfield 19, 3) := by decide +kernel
theorem dX10_mountain_8 : decode cX10_mountain 8 = .ok (.invokevirtual 85, 3) := by decide +kernel
theorem dX10_mountain_11 : decode cX10_mountain 11 = .ok (.istore_n 1, 1) := by decide +kernel
theorem dX10_mountain_12 : decode cX10_mountain 12 = .ok (.aload_n 0, 1) := by decide +kernel
theorem dX10_mountain_13 : decode cX10_mountain 13 = .ok (.getfield 13, 3) := by decide +kernel
theorem dX10_mountain_16 : decode cX10_mountain 16 = .ok (.invokevirtual 89, 3) := by decide +kernel
theorem dX10_mountain_19 : decode cX10_mountain 19 = .ok (.iload_n 1, 1) := by decide +kernel
theorem dX10_mountain_20 : decode cX10_mountain 20 = .ok (.ifCond .ne 7, 3) := by decide +kernel
theorem dX10_mountain_23 : decode cX10_mountain 23 = .ok (.aload_n 0, 1) := by decide +kernel
theorem dX10_mountain_24 : decode cX10_mountain 24 = .ok (.invokevirtual 92, 3) := by decide +kernel
theorem dX10_mountain_27 : decode cX10_mountain 27 = .ok (.iload_n 1, 1) := by decide +kernel
theorem dX10_mountain_28 : decode cX10_mountain 28 = .ok (.ireturn, 1) := by decide +kernel
theorem dX10_farm_0 : decode cX10_farm 0 = .ok (.aload_n 0, 1) := by decide +kernel
theorem dX10_farm_1 : decode cX10_farm 1 = .ok (.iload_n 1, 1) := by decide +kernel
theorem dX10_farm_2 : decode cX10_farm 2 = .ok (.invokevirtual 95, 3) := by decide +kernel
theorem dX10_farm_5 : decode cX10_farm 5 = .ok (.ifCond .ne 5, 3) := by decide +kernel
theorem dX10_farm_8 : decode cX10_farm 8 = .ok (.iconst (-1), 1) := by decide +kernel
theorem dX10_farm_9 : decode cX10_farm 9 = .ok (.ireturn, 1) := by decide +kernel
theorem dX10_farm_10 : decode cX10_farm 10 = .ok (.iload_n 2, 1) := by decide +kernel
theorem dX10_farm_11 : decode cX10_farm 11 = .ok (.tableswitch 112 0 6 #[41, 51, 64, 74, 84, 93, 102], 41) := by decide +kernel
theorem dX10_farm_52 : decode cX10_farm 52 = .ok (.aload_n 0, 1) := by decide +kernel
theorem dX10_farm_53 : decode cX10_farm 53 = .ok (.getfield 37, 3) := by decide +kernel
theorem dX10_farm_56 : decode cX10_farm 56 = .ok (.getfield 99, 3) := by decide +kernel
theorem dX10_farm_59 : decode cX10_farm 59 = .ok (.iload_n 1, 1) := by decide +kernel
theorem dX10_farm_60 : decode cX10_farm 60 = .ok (.iaload, 1) := by decide +kernel
theorem dX10_farm_61 : decode cX10_farm 61 = .ok (.ireturn, 1) := by decide +kernel
theorem dX10_farm_62 : decode cX10_farm 62 = .ok (.aload_n 0, 1) := by decide +kernel
theorem dX10_farm_63 : decode cX10_farm 63 = .ok (.getfield 37, 3) := by decide +kernel
theorem dX10_farm_66 : decode cX10_farm 66 = .ok (.getfield 103, 3) := by decide +kernel
theorem dX10_farm_69 : decode cX10_farm 69 = .ok (.getfield 106, 3) := by decide +kernel
theorem dX10_farm_72 : decode cX10_farm 72 = .ok (.iload_n 1, 1) := by decide +kernel
theorem dX10_farm_73 : decode cX10_farm 73 = .ok (.iaload, 1) := by decide +kernel
theorem dX10_farm_74 : decode cX10_farm 74 = .ok (.ireturn, 1) := by decide +kernel
theorem dX10_farm_75 : decode cX10_farm 75 = .ok (.aload_n 0, 1) := by decide +kernel
theorem dX10_farm_76 : decode cX10_farm 76 = .ok (.getfield 37, 3) := by decide +kernel
theorem dX10_farm_79 : decode cX10_farm 79 = .ok (.getfield 109, 3) := by decide +kernel
theorem dX10_farm_82 : decode cX10_farm 82 = .ok (.iload_n 1, 1) := by decide +kernel
theorem dX10_farm_83 : decode cX10_farm 83 = .ok (.iaload, 1) := by decide +kernel
theorem dX10_farm_84 : decode cX10_farm 84 = .ok (.ireturn, 1) := by decide +kernel
theorem dX10_farm_85 : decode cX10_farm 85 = .ok (.aload_n 0, 1) := by decide +kernel
theorem dX10_farm_86 : decode cX10_farm 86 = .ok (.getfield 37, 3) := by decide +kernel
theorem dX10_farm_89 : decode cX10_farm 89 = .ok (.getfield 112, 3) := by decide +kernel
theorem dX10_farm_92 : decode cX10_farm 92 = .ok (.iload_n 1, 1) := by decide +kernel
theorem dX10_farm_93 : decode cX10_farm 93 = .ok (.iaload, 1) := by decide +kernel
theorem dX10_farm_94 : decode cX10_farm 94 = .ok (.ireturn, 1) := by decide +kernel
theorem dX10_farm_95 : decode cX10_farm 95 = .ok (.aload_n 0, 1) := by decide +kernel
theorem dX10_farm_96 : decode cX10_farm 96 = .ok (.getfield 37, 3) := by decide +kernel
theorem dX10_farm_99 : decode cX10_farm 99 = .ok (.iload_n 1, 1) := by decide +kernel
theorem dX10_farm_100 : decode cX10_farm 100 = .ok (.invokevirtual 115, 3) := by decide +kernel
theorem dX10_farm_103 : decode cX10_farm 103 = .ok (.ireturn, 1) := by decide +kernel
theorem dX10_farm_104 : decode cX10_farm 104 = .ok (.aload_n 0, 1) := by decide +kernel
theorem dX10_farm_105 : decode cX10_farm 105 = .ok (.getfield 37, 3) := by decide +kernel
theorem dX10_farm_108 : decode cX10_farm 108 = .ok (.iload_n 1, 1) := by decide +kernel
theorem dX10_farm_109 : decode cX10_farm 109 = .ok (.invokevirtual 119, 3) := by decide +kernel
theorem dX10_farm_112 : decode cX10_farm 112 = .ok (.ireturn, 1) := by decide +kernel
theorem dX10_farm_113 : decode cX10_farm 113 = .ok (.aload_n 0, 1) := by decide +kernel
theorem dX10_farm_114 : decode cX10_farm 114 = .ok (.getfield 37, 3) := by decide +kernel
theorem dX10_farm_117 : decode cX10_farm 117 = .ok (.getfield 122, 3) := by decide +kernel
theorem dX10_farm_120 : decode cX10_farm 120 = .ok (.iload_n 1, 1) := by decide +kernel
theorem dX10_farm_121 : decode cX10_farm 121 = .ok (.iaload, 1) := by decide +kernel
theorem dX10_farm_122 : decode cX10_farm 122 = .ok (.ireturn, 1) := by decide +kernel
theorem dX10_farm_123 : decode cX10_farm 123 = .ok (.iconst (-1), 1) := by decide +kernel
theorem dX10_farm_124 : decode cX10_farm 124 = .ok (.ireturn, 1) := by decide +kernel
theorem dX10_tooth_0 : decode cX10_tooth 0 = .ok (.aload_n 0, 1) := by decide +kernel
theorem dX10_tooth_1 : decode cX10_tooth 1 = .ok (.iload_n 1, 1) := by decide +kernel
theorem dX10_tooth_2 : decode cX10_tooth 2 = .ok (.invokevirtual 95, 3) := by decide +kernel
theorem dX10_tooth_5 : decode cX10_tooth 5 = .ok (.ifCond .eq 13, 3) := by decide +kernel
theorem dX10_tooth_8 : decode cX10_tooth 8 = .ok (.iload_n 2, 1) := by decide +kernel
theorem dX10_tooth_9 : decode cX10_tooth 9 = .ok (.iconst 1, 1) := by decide +kernel
theorem dX10_tooth_10 : decode cX10_tooth 10 = .ok (.if_icmp .lt 8, 3) := by decide +kernel
theorem dX10_tooth_13 : decode cX10_tooth 13 = .ok (.iload_n 2, 1) := by decide +kernel
theorem dX10_tooth_14 : decode cX10_tooth 14 = .ok (.iconst 4, 1) := by decide +kernel
theorem dX10_tooth_15 : decode cX10_tooth 15 = .ok (.if_icmp .le 5, 3) := by decide +kernel
theorem dX10_tooth_18 : decode cX10_tooth 18 = .ok (.iconst (-1), 1) := by decide +kernel
theorem dX10_tooth_19 : decode cX10_tooth 19 = .ok (.ireturn, 1) := by decide +kernel
theorem dX10_tooth_20 : decode cX10_tooth 20 = .ok (.aload_n 0, 1) := by decide +kernel
theorem dX10_tooth_21 : decode cX10_tooth 21 = .ok (.getfield 37, 3) := by decide +kernel
theorem dX10_tooth_24 : decode cX10_tooth 24 = .ok (.getfield 103, 3) := by decide +kernel
theorem dX10_tooth_27 : decode cX10_tooth 27 = .ok (.iload_n 1, 1) := by decide +kernel
theorem dX10_tooth_28 : decode cX10_tooth 28 = .ok (.iload_n 2, 1) := by decide +kernel
theorem dX10_tooth_29 : decode cX10_tooth 29 = .ok (.invokevirtual 125, 3) := by decide +kernel
theorem dX10_tooth_32 : decode cX10_tooth 32 = .ok (.ireturn, 1) := by decide +kernel
theorem dX10_seed_0 : decode cX10_seed 0 = .ok (.iload_n 1, 1) := by decide +kernel
theorem dX10_seed_1 : decode cX10_seed 1 = .ok (.ifCond .lt 10, 3) := by decide +kernel
theorem dX10_seed_4 : decode cX10_seed 4 = .ok (.iload_n 1, 1) := by decide +kernel
theorem dX10_seed_5 : decode cX10_seed 5 = .ok (.sipush 9999, 3) := by decide +kernel
theorem dX10_seed_8 : decode cX10_seed 8 = .ok (.if_icmp .le 5, 3) := by decide +kernel
theorem dX10_seed_11 : decode cX10_seed 11 = .ok (.iconst 0, 1) := by decide +kernel
theorem dX10_seed_12 : decode cX10_seed 12 = .ok (.ireturn, 1) := by decide +kernel
theorem dX10_seed_13 : decode cX10_seed 13 = .ok (.aload_n 0, 1) := by decide +kernel
theorem dX10_seed_14 : decode cX10_seed 14 = .ok (.getfield 37, 3) := by decide +kernel
theorem dX10_seed_17 : decode cX10_seed 17 = .ok (.iload_n 1, 1) := by decide +kernel
theorem dX10_seed_18 : decode cX10_seed 18 = .ok (.i2l, 1) := by decide +kernel
theorem dX10_seed_19 : decode cX10_seed 19 = .ok (.putfield 129, 3) := by decide +kernel
theorem dX10_seed_22 : decode cX10_seed 22 = .ok (.aload_n 0, 1) := by decide +kernel
theorem dX10_seed_23 : decode cX10_seed 23 = .ok (.invokevirtual 133, 3) := by decide +kernel
theorem dX10_seed_26 : decode cX10_seed 26 = .ok (.iconst 1, 1) := by decide +kernel
theorem dX10_seed_27 : decode cX10_seed 27 = .ok (.ireturn, 1) := by decide +kernel
theorem dX10_nights_0 : decode cX10_nights 0 = .ok (.iload_n 1, 1) := by decide +kernel
theorem dX10_nights_1 : decode cX10_nights 1 = .ok (.iconst 1, 1) := by decide +kernel
theorem dX10_nights_2 : decode cX10_nights 2 = .ok (.if_icmp .lt 10, 3) := by decide +kernel
theorem dX10_nights_5 : decode cX10_nights 5 = .ok (.iload_n 1, 1) := by decide +kernel
theorem dX10_nights_6 : decode cX10_nights 6 = .ok (.sipush 1000, 3) := by decide +kernel
theorem dX10_nights_9 : decode cX10_nights 9 = .ok (.if_icmp .le 5, 3) := by decide +kernel
theorem dX10_nights_12 : decode cX10_nights 12 = .ok (.iconst (-1), 1) := by decide +kernel
theorem dX10_nights_13 : decode cX10_nights 13 = .ok (.ireturn, 1) := by decide +kernel
theorem dX10_nights_14 : decode cX10_nights 14 = .ok (.aload_n 0, 1) := by decide +kernel
theorem dX10_nights_15 : decode cX10_nights 15 = .ok (.getfield 37, 3) := by decide +kernel
theorem dX10_nights_18 : decode cX10_nights 18 = .ok (.aload_n 0, 1) := by decide +kernel
theorem dX10_nights_19 : decode cX10_nights 19 = .ok (.getfield 44, 3) := by decide +kernel
theorem dX10_nights_22 : decode cX10_nights 22 = .ok (.iload_n 1, 1) := by decide +kernel
theorem dX10_nights_23 : decode cX10_nights 23 = .ok (.invokevirtual 136, 3) := by decide +kernel
theorem dX10_nights_26 : decode cX10_nights 26 = .ok (.aload_n 0, 1) := by decide +kernel
theorem dX10_nights_27 : decode cX10_nights 27 = .ok (.invokevirtual 133, 3) := by decide +kernel
theorem dX10_nights_30 : decode cX10_nights 30 = .ok (.aload_n 0, 1) := by decide +kernel
theorem dX10_nights_31 : decode cX10_nights 31 = .ok (.getfield 37, 3) := by decide +kernel
theorem dX10_nights_34 : decode cX10_nights 34 = .ok (.getfield 140, 3) := by decide +kernel
theorem dX10_nights_37 : decode cX10_nights 37 = .ok (.ireturn, 1) := by decide +kernel
theorem dX10_pact_0 : decode cX10_pact 0 = .ok (.aload_n 0, 1) := by decide +kernel
theorem dX10_pact_1 : decode cX10_pact 1 = .ok (.iload_n 1, 1) := by decide +kernel
theorem dX10_pact_2 : decode cX10_pact 2 = .ok (.iload_n 2, 1) := by decide +kernel
theorem dX10_pact_3 : decode cX10_pact 3 = .ok (.invokevirtual 143, 3) := by decide +kernel
theorem dX10_pact_6 : decode cX10_pact 6 = .ok (.ifCond .eq 16, 3) := by decide +kernel
theorem dX10_pact_9 : decode cX10_pact 9 = .ok (.aload_n 0, 1) := by decide +kernel
theorem dX10_pact_10 : decode cX10_pact 10 = .ok (.getfield 37, 3) := by decide +kernel
theorem dX10_pact_13 : decode cX10_pact 13 = .ok (.iload_n 1, 1) := by decide +kernel
theorem dX10_pact_14 : decode cX10_pact 14 = .ok (.iload_n 2, 1) := by decide +kernel
theorem dX10_pact_15 : decode cX10_pact 15 = .ok (.invokevirtual 147, 3) := by decide +kernel
theorem dX10_pact_18 : decode cX10_pact 18 = .ok (.iload_n 3, 1) := by decide +kernel
theorem dX10_pact_19 : decode cX10_pact 19 = .ok (.if_icmp .ne 5, 3) := by decide +kernel
theorem dX10_pact_22 : decode cX10_pact 22 = .ok (.iconst 0, 1) := by decide +kernel
theorem dX10_pact_23 : decode cX10_pact 23 = .ok (.ireturn, 1) := by decide +kernel
theorem dX10_pact_24 : decode cX10_pact 24 = .ok (.aload_n 0, 1) := by decide +kernel
theorem dX10_pact_25 : decode cX10_pact 25 = .ok (.getfield 37, 3) := by decide +kernel
theorem dX10_pact_28 : decode cX10_pact 28 = .ok (.iload_n 1, 1) := by decide +kernel
theorem dX10_pact_29 : decode cX10_pact 29 = .ok (.iload_n 2, 1) := by decide +kernel
theorem dX10_pact_30 : decode cX10_pact 30 = .ok (.invokevirtual 150, 3) := by decide +kernel
theorem dX10_pact_33 : decode cX10_pact 33 = .ok (.aload_n 0, 1) := by decide +kernel
theorem dX10_pact_34 : decode cX10_pact 34 = .ok (.invokevirtual 133, 3) := by decide +kernel
theorem dX10_pact_37 : decode cX10_pact 37 = .ok (.iconst 1, 1) := by decide +kernel
theorem dX10_pact_38 : decode cX10_pact 38 = .ok (.ireturn, 1) := by decide +kernel
theorem dX10_bones_0 : decode cX10_bones 0 = .ok (.aload_n 0, 1) := by decide +kernel
theorem dX10_bones_1 : decode cX10_bones 1 = .ok (.getfield 44, 3) := by decide +kernel
theorem dX10_bones_4 : decode cX10_bones 4 = .ok (.getfield 154, 3) := by decide +kernel
theorem dX10_bones_7 : decode cX10_bones 7 = .ok (.ireturn, 1) := by decide +kernel
theorem dX10_bone_0 : decode cX10_bone 0 = .ok (.aload_n 0, 1) := by decide +kernel
theorem dX10_bone_1 : decode cX10_bone 1 = .ok (.getfield 44, 3) := by decide +kernel
theorem dX10_bone_4 : decode cX10_bone 4 = .ok (.iload_n 1, 1) := by decide +kernel
theorem dX10_bone_5 : decode cX10_bone 5 = .ok (.invokevirtual 157, 3) := by decide +kernel
theorem dX10_bone_8 : decode cX10_bone 8 = .ok (.ifCond .eq 12, 3) := by decide +kernel
theorem dX10_bone_11 : decode cX10_bone 11 = .ok (.iload_n 2, 1) := by decide +kernel
theorem dX10_bone_12 : decode cX10_bone 12 = .ok (.ifCond .lt 8, 3) := by decide +kernel
theorem dX10_bone_15 : decode cX10_bone 15 = .ok (.iload_n 2, 1) := by decide +kernel
theorem dX10_bone_16 : decode cX10_bone 16 = .ok (.iconst 4, 1) := by decide +kernel
theorem dX10_bone_17 : decode cX10_bone 17 = .ok (.if_icmp .lt 13, 3) := by decide +kernel
theorem dX10_bone_20 : decode cX10_bone 20 = .ok (.new 160, 3) := by decide +kernel
theorem dX10_bone_23 : decode cX10_bone 23 = .ok (.dup, 1) := by decide +kernel
theorem dX10_bone_24 : decode cX10_bone 24 = .ok (.ldc 162, 2) := by decide +kernel
theorem dX10_bone_26 : decode cX10_bone 26 = .ok (.invokespecial 164, 3) := by decide +kernel
theorem dX10_bone_29 : decode cX10_bone 29 = .ok (.athrow, 1) := by decide +kernel
theorem dX10_bone_30 : decode cX10_bone 30 = .ok (.aload_n 0, 1) := by decide +kernel
theorem dX10_bone_31 : decode cX10_bone 31 = .ok (.getfield 44, 3) := by decide +kernel
theorem dX10_bone_34 : decode cX10_bone 34 = .ok (.getfield 167, 3) := by decide +kernel
theorem dX10_bone_37 : decode cX10_bone 37 = .ok (.iload_n 1, 1) := by decide +kernel
theorem dX10_bone_38 : decode cX10_bone 38 = .ok (.iconst 4, 1) := by decide +kernel
theorem dX10_bone_39 : decode cX10_bone 39 = .ok (.imul, 1) := by decide +kernel
theorem dX10_bone_40 : decode cX10_bone 40 = .ok (.iload_n 2, 1) := by decide +kernel
theorem dX10_bone_41 : decode cX10_bone 41 = .ok (.iadd, 1) := by decide +kernel
theorem dX10_bone_42 : decode cX10_bone 42 = .ok (.iaload, 1) := by decide +kernel
theorem dX10_bone_43 : decode cX10_bone 43 = .ok (.ireturn, 1) := by decide +kernel
theorem dX10_feuds_0 : decode cX10_feuds 0 = .ok (.aload_n 0, 1) := by decide +kernel
theorem dX10_feuds_1 : decode cX10_feuds 1 = .ok (.iload_n 1, 1) := by decide +kernel
theorem dX10_feuds_2 : decode cX10_feuds 2 = .ok (.iload_n 2, 1) := by decide +kernel
theorem dX10_feuds_3 : decode cX10_feuds 3 = .ok (.invokevirtual 143, 3) := by decide +kernel
theorem dX10_feuds_6 : decode cX10_feuds 6 = .ok (.ifCond .eq 20, 3) := by decide +kernel
theorem dX10_feuds_9 : decode cX10_feuds 9 = .ok (.aload_n 0, 1) := by decide +kernel
theorem dX10_feuds_10 : decode cX10_feuds 10 = .ok (.getfield 44, 3) := by decide +kernel
theorem dX10_feuds_13 : decode cX10_feuds 13 = .ok (.getfield 170, 3) := by decide +kernel
theorem dX10_feuds_16 : decode cX10_feuds 16 = .ok (.iload_n 1, 1) := by decide +kernel
theorem dX10_feuds_17 : decode cX10_feuds 17 = .ok (.bipush 6, 2) := by decide +kernel
theorem dX10_feuds_19 : decode cX10_feuds 19 = .ok (.imul, 1) := by decide +kernel
theorem dX10_feuds_20 : decode cX10_feuds 20 = .ok (.iload_n 2, 1) := by decide +kernel
theorem dX10_feuds_21 : decode cX10_feuds 21 = .ok (.iadd, 1) := by decide +kernel
theorem dX10_feuds_22 : decode cX10_feuds 22 = .ok (.iaload, 1) := by decide +kernel
theorem dX10_feuds_23 : decode cX10_feuds 23 = .ok (.goto 4, 3) := by decide +kernel
theorem dX10_feuds_26 : decode cX10_feuds 26 = .ok (.iconst (-1), 1) := by decide +kernel
theorem dX10_feuds_27 : decode cX10_feuds 27 = .ok (.ireturn, 1) := by decide +kernel
theorem dX10_gone_0 : decode cX10_gone 0 = .ok (.aload_n 0, 1) := by decide +kernel
theorem dX10_gone_1 : decode cX10_gone 1 = .ok (.iload_n 1, 1) := by decide +kernel
theorem dX10_gone_2 : decode cX10_gone 2 = .ok (.invokevirtual 95, 3) := by decide +kernel
theorem dX10_gone_5 : decode cX10_gone 5 = .ok (.ifCond .ne 5, 3) := by decide +kernel
theorem dX10_gone_8 : decode cX10_gone 8 = .ok (.iconst (-1), 1) := by decide +kernel
theorem dX10_gone_9 : decode cX10_gone 9 = .ok (.ireturn, 1) := by decide +kernel
theorem dX10_gone_10 : decode cX10_gone 10 = .ok (.iload_n 2, 1) := by decide +kernel
theorem dX10_gone_11 : decode cX10_gone 11 = .ok (.ifCond .eq 15, 3) := by decide +kernel
theorem dX10_gone_14 : decode cX10_gone 14 = .ok (.aload_n 0, 1) := by decide +kernel
theorem dX10_gone_15 : decode cX10_gone 15 = .ok (.getfield 37, 3) := by decide +kernel
theorem dX10_gone_18 : decode cX10_gone 18 = .ok (.getfield 173, 3) := by decide +kernel
theorem dX10_gone_21 : decode cX10_gone 21 = .ok (.iload_n 1, 1) := by decide +kernel
theorem dX10_gone_22 : decode cX10_gone 22 = .ok (.iaload, 1) := by decide +kernel
theorem dX10_gone_23 : decode cX10_gone 23 = .ok (.goto 12, 3) := by decide +kernel
theorem dX10_gone_26 : decode cX10_gone 26 = .ok (.aload_n 0, 1) := by decide +kernel
theorem dX10_gone_27 : decode cX10_gone 27 = .ok (.getfield 37, 3) := by decide +kernel
theorem dX10_gone_30 : decode cX10_gone 30 = .ok (.getfield 176, 3) := by decide +kernel
theorem dX10_gone_33 : decode cX10_gone 33 = .ok (.iload_n 1, 1) := by decide +kernel
theorem dX10_gone_34 : decode cX10_gone 34 = .ok (.iaload, 1) := by decide +kernel
theorem dX10_gone_35 : decode cX10_gone 35 = .ok (.ireturn, 1) := by decide +kernel
theorem dX10_loss_0 : decode cX10_loss 0 = .ok (.aload_n 0, 1) := by decide +kernel
theorem dX10_loss_1 : decode cX10_loss 1 = .ok (.iload_n 1, 1) := by decide +kernel
theorem dX10_loss_2 : decode cX10_loss 2 = .ok (.invokevirtual 95, 3) := by decide +kernel
theorem dX10_loss_5 : decode cX10_loss 5 = .ok (.ifCond .eq 20, 3) := by decide +kernel
theorem dX10_loss_8 : decode cX10_loss 8 = .ok (.iload_n 2, 1) := by decide +kernel
theorem dX10_loss_9 : decode cX10_loss 9 = .ok (.invokestatic 179, 3) := by decide +kernel
theorem dX10_loss_12 : decode cX10_loss 12 = .ok (.ifCond .eq 13, 3) := by decide +kernel
theorem dX10_loss_15 : decode cX10_loss 15 = .ok (.aload_n 0, 1) := by decide +kernel
theorem dX10_loss_16 : decode cX10_loss 16 = .ok (.iload_n 1, 1) := by decide +kernel
theorem dX10_loss_17 : decode cX10_loss 17 = .ok (.iload_n 2, 1) := by decide +kernel
theorem dX10_loss_18 : decode cX10_loss 18 = .ok (.iconst 0, 1) := by decide +kernel
theorem dX10_loss_19 : decode cX10_loss 19 = .ok (.invokevirtual 182, 3) := by decide +kernel
theorem dX10_loss_22 : decode cX10_loss 22 = .ok (.goto 4, 3) := by decide +kernel
theorem dX10_loss_25 : decode cX10_loss 25 = .ok (.iconst (-1), 1) := by decide +kernel
theorem dX10_loss_26 : decode cX10_loss 26 = .ok (.ireturn, 1) := by decide +kernel
theorem dX10_level_0 : decode cX10_level 0 = .ok (.aload_n 0, 1) := by decide +kernel
theorem dX10_level_1 : decode cX10_level 1 = .ok (.iload_n 2, 1) := by decide +kernel
theorem dX10_level_2 : decode cX10_level 2 = .ok (.invokevirtual 95, 3) := by decide +kernel
theorem dX10_level_5 : decode cX10_level 5 = .ok (.ifCond .eq 25, 3) := by decide +kernel
theorem dX10_level_8 : decode cX10_level 8 = .ok (.aload_n 0, 1) := by decide +kernel
theorem dX10_level_9 : decode cX10_level 9 = .ok (.getfield 59, 3) := by decide +kernel
theorem dX10_level_12 : decode cX10_level 12 = .ok (.iload_n 3, 1) := by decide +kernel
theorem dX10_level_13 : decode cX10_level 13 = .ok (.invokevirtual 186, 3) := by decide +kernel
theorem dX10_level_16 : decode cX10_level 16 = .ok (.ifCond .eq 14, 3) := by decide +kernel
theorem dX10_level_19 : decode cX10_level 19 = .ok (.aload_n 0, 1) := by decide +kernel
theorem dX10_level_20 : decode cX10_level 20 = .ok (.getfield 59, 3) := by decide +kernel
theorem dX10_level_23 : decode cX10_level 23 = .ok (.iload_n 1, 1) := by decide +kernel
theorem dX10_level_24 : decode cX10_level 24 = .ok (.invokevirtual 189, 3) := by decide +kernel
theorem dX10_level_27 : decode cX10_level 27 = .ok (.ifCond .ne 5, 3) := by decide +kernel
theorem dX10_level_30 : decode cX10_level 30 = .ok (.iconst (-1), 1) := by decide +kernel
theorem dX10_level_31 : decode cX10_level 31 = .ok (.ireturn, 1) := by decide +kernel
theorem dX10_level_32 : decode cX10_level 32 = .ok (.aload_n 0, 1) := by decide +kernel
theorem dX10_level_33 : decode cX10_level 33 = .ok (.getfield 59, 3) := by decide +kernel
theorem dX10_level_36 : decode cX10_level 36 = .ok (.iload_n 1, 1) := by decide +kernel
theorem dX10_level_37 : decode cX10_level 37 = .ok (.invokevirtual 192, 3) := by decide +kernel
theorem dX10_level_40 : decode cX10_level 40 = .ok (.aload_n 0, 1) := by decide +kernel
theorem dX10_level_41 : decode cX10_level 41 = .ok (.getfield 59, 3) := by decide +kernel
theorem dX10_level_44 : decode cX10_level 44 = .ok (.iload_n 1, 1) := by decide +kernel
theorem dX10_level_45 : decode cX10_level 45 = .ok (.iload_n 2, 1) := by decide +kernel
theorem dX10_level_46 : decode cX10_level 46 = .ok (.invokevirtual 196, 3) := by decide +kernel
theorem dX10_level_49 : decode cX10_level 49 = .ok (.ireturn, 1) := by decide +kernel
theorem dX10_rests_0 : decode cX10_rests 0 = .ok (.aload_n 0, 1) := by decide +kernel
theorem dX10_rests_1 : decode cX10_rests 1 = .ok (.getfield 59, 3) := by decide +kernel
theorem dX10_rests_4 : decode cX10_rests 4 = .ok (.iload_n 1, 1) := by decide +kernel
theorem dX10_rests_5 : decode cX10_rests 5 = .ok (.invokevirtual 186, 3) := by decide +kernel
theorem dX10_rests_8 : decode cX10_rests 8 = .ok (.ifCond .eq 13, 3) := by decide +kernel
theorem dX10_rests_11 : decode cX10_rests 11 = .ok (.aload_n 0, 1) := by decide +kernel
theorem dX10_rests_12 : decode cX10_rests 12 = .ok (.getfield 59, 3) := by decide +kernel
theorem dX10_rests_15 : decode cX10_rests 15 = .ok (.invokevirtual 199, 3) := by decide +kernel
theorem dX10_rests_18 : decode cX10_rests 18 = .ok (.goto 4, 3) := by decide +kernel
theorem dX10_rests_21 : decode cX10_rests 21 = .ok (.iconst (-1), 1) := by decide +kernel
theorem dX10_rests_22 : decode cX10_rests 22 = .ok (.ireturn, 1) := by decide +kernel
theorem dX10_rest_0 : decode cX10_rest 0 = .ok (.aload_n 0, 1) := by decide +kernel
theorem dX10_rest_1 : decode cX10_rest 1 = .ok (.getfield 59, 3) := by decide +kernel
theorem dX10_rest_4 : decode cX10_rest 4 = .ok (.iload_n 1, 1) := by decide +kernel
theorem dX10_rest_5 : decode cX10_rest 5 = .ok (.invokevirtual 186, 3) := by decide +kernel
theorem dX10_rest_8 : decode cX10_rest 8 = .ok (.ifCond .ne 5, 3) := by decide +kernel
theorem dX10_rest_11 : decode cX10_rest 11 = .ok (.iconst (-1), 1) := by decide +kernel
theorem dX10_rest_12 : decode cX10_rest 12 = .ok (.ireturn, 1) := by decide +kernel
theorem dX10_rest_13 : decode cX10_rest 13 = .ok (.aload_n 0, 1) := by decide +kernel
theorem dX10_rest_14 : decode cX10_rest 14 = .ok (.getfield 59, 3) := by decide +kernel
theorem dX10_rest_17 : decode cX10_rest 17 = .ok (.invokevirtual 199, 3) := by decide +kernel
theorem dX10_rest_20 : decode cX10_rest 20 = .ok (.pop, 1) := by decide +kernel
theorem dX10_rest_21 : decode cX10_rest 21 = .ok (.aload_n 0, 1) := by decide +kernel
theorem dX10_rest_22 : decode cX10_rest 22 = .ok (.getfield 59, 3) := by decide +kernel
theorem dX10_rest_25 : decode cX10_rest 25 = .ok (.iload_n 2, 1) := by decide +kernel
theorem dX10_rest_26 : decode cX10_rest 26 = .ok (.invokevirtual 203, 3) := by decide +kernel
theorem dX10_rest_29 : decode cX10_rest 29 = .ok (.ireturn, 1) := by decide +kernel
theorem dX10_played_0 : decode cX10_played 0 = .ok (.iload_n 3, 1) := by decide +kernel
theorem dX10_played_1 : decode cX10_played 1 = .ok (.ifCond .lt 30, 3) := by decide +kernel
theorem dX10_played_4 : decode cX10_played 4 = .ok (.iload_n 3, 1) := by decide +kernel
theorem dX10_played_5 : decode cX10_played 5 = .ok (.iconst 1, 1) := by decide +kernel
theorem dX10_played_6 : decode cX10_played 6 = .ok (.if_icmp .gt 25, 3) := by decide +kernel
theorem dX10_played_9 : decode cX10_played 9 = .ok (.aload_n 0, 1) := by decide +kernel
theorem dX10_played_10 : decode cX10_played 10 = .ok (.getfield 59, 3) := by decide +kernel
theorem dX10_played_13 : decode cX10_played 13 = .ok (.iload_n 2, 1) := by decide +kernel
theorem dX10_played_14 : decode cX10_played 14 = .ok (.invokevirtual 186, 3) := by decide +kernel
theorem dX10_played_17 : decode cX10_played 17 = .ok (.ifCond .eq 14, 3) := by decide +kernel
theorem dX10_played_20 : decode cX10_played 20 = .ok (.aload_n 0, 1) := by decide +kernel
theorem dX10_played_21 : decode cX10_played 21 = .ok (.getfield 59, 3) := by decide +kernel
theorem dX10_played_24 : decode cX10_played 24 = .ok (.iload_n 1, 1) := by decide +kernel
theorem dX10_played_25 : decode cX10_played 25 = .ok (.invokevirtual 189, 3) := by decide +kernel
theorem dX10_played_28 : decode cX10_played 28 = .ok (.ifCond .ne 5, 3) := by decide +kernel
theorem dX10_played_31 : decode cX10_played 31 = .ok (.iconst (-1), 1) := by decide +kernel
theorem dX10_played_32 : decode cX10_played 32 = .ok (.ireturn, 1) := by decide +kernel
theorem dX10_played_33 : decode cX10_played 33 = .ok (.aload_n 0, 1) := by decide +kernel
theorem dX10_played_34 : decode cX10_played 34 = .ok (.getfield 59, 3) := by decide +kernel
theorem dX10_played_37 : decode cX10_played 37 = .ok (.iload_n 1, 1) := by decide +kernel
theorem dX10_played_38 : decode cX10_played 38 = .ok (.invokevirtual 206, 3) := by decide +kernel
theorem dX10_played_41 : decode cX10_played 41 = .ok (.istore 4, 2) := by decide +kernel
theorem dX10_played_43 : decode cX10_played 43 = .ok (.iload_n 3, 1) := by decide +kernel
theorem dX10_played_44 : decode cX10_played 44 = .ok (.ifCond .ne 13, 3) := by decide +kernel
theorem dX10_played_47 : decode cX10_played 47 = .ok (.aload_n 0, 1) := by decide +kernel
theorem dX10_played_48 : decode cX10_played 48 = .ok (.getfield 59, 3) := by decide +kernel
theorem dX10_played_51 : decode cX10_played 51 = .ok (.getfield 209, 3) := by decide +kernel
theorem dX10_played_54 : decode cX10_played 54 = .ok (.goto 5, 3) := by decide +kernel
theorem dX10_played_57 : decode cX10_played 57 = .ok (.iload 4, 2) := by decide +kernel
theorem dX10_played_59 : decode cX10_played 59 = .ok (.ireturn, 1) := by decide +kernel
theorem dX10_firm_0 : decode cX10_firm 0 = .ok (.aload_n 0, 1) := by decide +kernel
theorem dX10_firm_1 : decode cX10_firm 1 = .ok (.getfield 66, 3) := by decide +kernel
theorem dX10_firm_4 : decode cX10_firm 4 = .ok (.iload_n 1, 1) := by decide +kernel
theorem dX10_firm_5 : decode cX10_firm 5 = .ok (.invokevirtual 212, 3) := by decide +kernel
theorem dX10_firm_8 : decode cX10_firm 8 = .ok (.ifCond .eq 13, 3) := by decide +kernel
theorem dX10_firm_11 : decode cX10_firm 11 = .ok (.aload_n 0, 1) := by decide +kernel
theorem dX10_firm_12 : decode cX10_firm 12 = .ok (.getfield 66, 3) := by decide +kernel
theorem dX10_firm_15 : decode cX10_firm 15 = .ok (.invokevirtual 213, 3) := by decide +kernel
theorem dX10_firm_18 : decode cX10_firm 18 = .ok (.goto 4, 3) := by decide +kernel
theorem dX10_firm_21 : decode cX10_firm 21 = .ok (.iconst (-1), 1) := by decide +kernel
theorem dX10_firm_22 : decode cX10_firm 22 = .ok (.ireturn, 1) := by decide +kernel
theorem dX10_group_0 : decode cX10_group 0 = .ok (.aload_n 0, 1) := by decide +kernel
theorem dX10_group_1 : decode cX10_group 1 = .ok (.iload_n 3, 1) := by decide +kernel
theorem dX10_group_2 : decode cX10_group 2 = .ok (.invokevirtual 95, 3) := by decide +kernel
theorem dX10_group_5 : decode cX10_group 5 = .ok (.ifCond .eq 14, 3) := by decide +kernel
theorem dX10_group_8 : decode cX10_group 8 = .ok (.aload_n 0, 1) := by decide +kernel
theorem dX10_group_9 : decode cX10_group 9 = .ok (.getfield 66, 3) := by decide +kernel
theorem dX10_group_12 : decode cX10_group 12 = .ok (.iload_n 1, 1) := by decide +kernel
theorem dX10_group_13 : decode cX10_group 13 = .ok (.invokevirtual 212, 3) := by decide +kernel
theorem dX10_group_16 : decode cX10_group 16 = .ok (.ifCond .ne 5, 3) := by decide +kernel
theorem dX10_group_19 : decode cX10_group 19 = .ok (.iconst (-1), 1) := by decide +kernel
theorem dX10_group_20 : decode cX10_group 20 = .ok (.ireturn, 1) := by decide +kernel
theorem dX10_group_21 : decode cX10_group 21 = .ok (.aload_n 0, 1) := by decide +kernel
theorem dX10_group_22 : decode cX10_group 22 = .ok (.getfield 66, 3) := by decide +kernel
theorem dX10_group_25 : decode cX10_group 25 = .ok (.invokevirtual 213, 3) := by decide +kernel
theorem dX10_group_28 : decode cX10_group 28 = .ok (.pop, 1) := by decide +kernel
theorem dX10_group_29 : decode cX10_group 29 = .ok (.aload_n 0, 1) := by decide +kernel
theorem dX10_group_30 : decode cX10_group 30 = .ok (.getfield 66, 3) := by decide +kernel
theorem dX10_group_33 : decode cX10_group 33 = .ok (.iload_n 2, 1) := by decide +kernel
theorem dX10_group_34 : decode cX10_group 34 = .ok (.invokevirtual 214, 3) := by decide +kernel
theorem dX10_group_37 : decode cX10_group 37 = .ok (.istore 4, 2) := by decide +kernel
theorem dX10_group_39 : decode cX10_group 39 = .ok (.iload 4, 2) := by decide +kernel
theorem dX10_group_41 : decode cX10_group 41 = .ok (.iconst (-1), 1) := by decide +kernel
theorem dX10_group_42 : decode cX10_group 42 = .ok (.if_icmp .ne 7, 3) := by decide +kernel
theorem dX10_group_45 : decode cX10_group 45 = .ok (.iconst (-1), 1) := by decide +kernel
theorem dX10_group_46 : decode cX10_group 46 = .ok (.goto 13, 3) := by decide +kernel
theorem dX10_group_49 : decode cX10_group 49 = .ok (.aload_n 0, 1) := by decide +kernel
theorem dX10_group_50 : decode cX10_group 50 = .ok (.getfield 66, 3) := by decide +kernel
theorem dX10_group_53 : decode cX10_group 53 = .ok (.iload 4, 2) := by decide +kernel
theorem dX10_group_55 : decode cX10_group 55 = .ok (.iload_n 3, 1) := by decide +kernel
theorem dX10_group_56 : decode cX10_group 56 = .ok (.invokevirtual 215, 3) := by decide +kernel
theorem dX10_group_59 : decode cX10_group 59 = .ok (.ireturn, 1) := by decide +kernel
theorem dX10_pup_0 : decode cX10_pup 0 = .ok (.aload_n 0, 1) := by decide +kernel
theorem dX10_pup_1 : decode cX10_pup 1 = .ok (.iload_n 1, 1) := by decide +kernel
theorem dX10_pup_2 : decode cX10_pup 2 = .ok (.invokevirtual 95, 3) := by decide +kernel
theorem dX10_pup_5 : decode cX10_pup 5 = .ok (.ifCond .eq 24, 3) := by decide +kernel
theorem dX10_pup_8 : decode cX10_pup 8 = .ok (.iload_n 2, 1) := by decide +kernel
theorem dX10_pup_9 : decode cX10_pup 9 = .ok (.invokestatic 179, 3) := by decide +kernel
theorem dX10_pup_12 : decode cX10_pup 12 = .ok (.ifCond .eq 17, 3) := by decide +kernel
theorem dX10_pup_15 : decode cX10_pup 15 = .ok (.aload_n 0, 1) := by decide +kernel
theorem dX10_pup_16 : decode cX10_pup 16 = .ok (.getfield 37, 3) := by decide +kernel
theorem dX10_pup_19 : decode cX10_pup 19 = .ok (.getfield 109, 3) := by decide +kernel
theorem dX10_pup_22 : decode cX10_pup 22 = .ok (.iload_n 1, 1) := by decide +kernel
theorem dX10_pup_23 : decode cX10_pup 23 = .ok (.iaload, 1) := by decide +kernel
theorem dX10_pup_24 : decode cX10_pup 24 = .ok (.bipush 99, 2) := by decide +kernel
theorem dX10_pup_26 : decode cX10_pup 26 = .ok (.if_icmp .lt 13, 3) := by decide +kernel
theorem dX10_pup_29 : decode cX10_pup 29 = .ok (.new 160, 3) := by decide +kernel
theorem dX10_pup_32 : decode cX10_pup 32 = .ok (.dup, 1) := by decide +kernel
theorem dX10_pup_33 : decode cX10_pup 33 = .ok (.ldc 218, 2) := by decide +kernel
theorem dX10_pup_35 : decode cX10_pup 35 = .ok (.invokespecial 164, 3) := by decide +kernel
theorem dX10_pup_38 : decode cX10_pup 38 = .ok (.athrow, 1) := by decide +kernel
theorem dX10_pup_39 : decode cX10_pup 39 = .ok (.aload_n 0, 1) := by decide +kernel
theorem dX10_pup_40 : decode cX10_pup 40 = .ok (.iload_n 1, 1) := by decide +kernel
theorem dX10_pup_41 : decode cX10_pup 41 = .ok (.iload_n 2, 1) := by decide +kernel
theorem dX10_pup_42 : decode cX10_pup 42 = .ok (.iconst 0, 1) := by decide +kernel
theorem dX10_pup_43 : decode cX10_pup 43 = .ok (.invokevirtual 182, 3) := by decide +kernel
theorem dX10_pup_46 : decode cX10_pup 46 = .ok (.aload_n 0, 1) := by decide +kernel
theorem dX10_pup_47 : decode cX10_pup 47 = .ok (.iload_n 1, 1) := by decide +kernel
theorem dX10_pup_48 : decode cX10_pup 48 = .ok (.iload_n 2, 1) := by decide +kernel
theorem dX10_pup_49 : decode cX10_pup 49 = .ok (.iconst 1, 1) := by decide +kernel
theorem dX10_pup_50 : decode cX10_pup 50 = .ok (.invokevirtual 182, 3) := by decide +kernel
theorem dX10_pup_53 : decode cX10_pup 53 = .ok (.isub, 1) := by decide +kernel
theorem dX10_pup_54 : decode cX10_pup 54 = .ok (.ireturn, 1) := by decide +kernel
theorem dX10_bite_0 : decode cX10_bite 0 = .ok (.iload_n 1, 1) := by decide +kernel
theorem dX10_bite_1 : decode cX10_bite 1 = .ok (.ifCond .ne 13, 3) := by decide +kernel
theorem dX10_bite_4 : decode cX10_bite 4 = .ok (.aload_n 0, 1) := by decide +kernel
theorem dX10_bite_5 : decode cX10_bite 5 = .ok (.getfield 44, 3) := by decide +kernel
theorem dX10_bite_8 : decode cX10_bite 8 = .ok (.iconst 0, 1) := by decide +kernel
theorem dX10_bite_9 : decode cX10_bite 9 = .ok (.putfield 220, 3) := by decide +kernel
theorem dX10_bite_12 : decode cX10_bite 12 = .ok (.iconst 0, 1) := by decide +kernel
theorem dX10_bite_13 : decode cX10_bite 13 = .ok (.ireturn, 1) := by decide +kernel
theorem dX10_bite_14 : decode cX10_bite 14 = .ok (.iload_n 1, 1) := by decide +kernel
theorem dX10_bite_15 : decode cX10_bite 15 = .ok (.ifCond .lt 20, 3) := by decide +kernel
theorem dX10_bite_18 : decode cX10_bite 18 = .ok (.iload_n 1, 1) := by decide +kernel
theorem dX10_bite_19 : decode cX10_bite 19 = .ok (.iconst 4, 1) := by decide +kernel
theorem dX10_bite_20 : decode cX10_bite 20 = .ok (.if_icmp .gt 15, 3) := by decide +kernel
theorem dX10_bite_23 : decode cX10_bite 23 = .ok (.aload_n 0, 1) := by decide +kernel
theorem dX10_bite_24 : decode cX10_bite 24 = .ok (.getfield 44, 3) := by decide +kernel
theorem dX10_bite_27 : decode cX10_bite 27 = .ok (.getfield 220, 3) := by decide +kernel
theorem dX10_bite_30 : decode cX10_bite 30 = .ok (.bipush 8, 2) := by decide +kernel
theorem dX10_bite_32 : decode cX10_bite 32 = .ok (.if_icmp .lt 5, 3) := by decide +kernel
theorem dX10_bite_35 : decode cX10_bite 35 = .ok (.iconst (-1), 1) := by decide +kernel
theorem dX10_bite_36 : decode cX10_bite 36 = .ok (.ireturn, 1) := by decide +kernel
theorem dX10_bite_37 : decode cX10_bite 37 = .ok (.aload_n 0, 1) := by decide +kernel
theorem dX10_bite_38 : decode cX10_bite 38 = .ok (.getfield 44, 3) := by decide +kernel
theorem dX10_bite_41 : decode cX10_bite 41 = .ok (.getfield 223, 3) := by decide +kernel
theorem dX10_bite_44 : decode cX10_bite 44 = .ok (.aload_n 0, 1) := by decide +kernel
theorem dX10_bite_45 : decode cX10_bite 45 = .ok (.getfield 44, 3) := by decide +kernel
theorem dX10_bite_48 : decode cX10_bite 48 = .ok (.getfield 220, 3) := by decide +kernel
theorem dX10_bite_51 : decode cX10_bite 51 = .ok (.iload_n 1, 1) := by decide +kernel
theorem dX10_bite_52 : decode cX10_bite 52 = .ok (.iastore, 1) := by decide +kernel
theorem dX10_bite_53 : decode cX10_bite 53 = .ok (.aload_n 0, 1) := by decide +kernel
theorem dX10_bite_54 : decode cX10_bite 54 = .ok (.getfield 44, 3) := by decide +kernel
theorem dX10_bite_57 : decode cX10_bite 57 = .ok (.dup, 1) := by decide +kernel
theorem dX10_bite_58 : decode cX10_bite 58 = .ok (.getfield 220, 3) := by decide +kernel
theorem dX10_bite_61 : decode cX10_bite 61 = .ok (.iconst 1, 1) := by decide +kernel
theorem dX10_bite_62 : decode cX10_bite 62 = .ok (.iadd, 1) := by decide +kernel
theorem dX10_bite_63 : decode cX10_bite 63 = .ok (.putfield 220, 3) := by decide +kernel
theorem dX10_bite_66 : decode cX10_bite 66 = .ok (.aload_n 0, 1) := by decide +kernel
theorem dX10_bite_67 : decode cX10_bite 67 = .ok (.getfield 44, 3) := by decide +kernel
theorem dX10_bite_70 : decode cX10_bite 70 = .ok (.getfield 220, 3) := by decide +kernel
theorem dX10_bite_73 : decode cX10_bite 73 = .ok (.ireturn, 1) := by decide +kernel
theorem dX10_whose_0 : decode cX10_whose 0 = .ok (.aload_n 0, 1) := by decide +kernel
theorem dX10_whose_1 : decode cX10_whose 1 = .ok (.iload_n 1, 1) := by decide +kernel
theorem dX10_whose_2 : decode cX10_whose 2 = .ok (.invokevirtual 95, 3) := by decide +kernel
theorem dX10_whose_5 : decode cX10_whose 5 = .ok (.ifCond .eq 24, 3) := by decide +kernel
theorem dX10_whose_8 : decode cX10_whose 8 = .ok (.iload_n 2, 1) := by decide +kernel
theorem dX10_whose_9 : decode cX10_whose 9 = .ok (.ifCond .lt 20, 3) := by decide +kernel
theorem dX10_whose_12 : decode cX10_whose 12 = .ok (.iload_n 2, 1) := by decide +kernel
theorem dX10_whose_13 : decode cX10_whose 13 = .ok (.iconst 1, 1) := by decide +kernel
theorem dX10_whose_14 : decode cX10_whose 14 = .ok (.if_icmp .gt 15, 3) := by decide +kernel
theorem dX10_whose_17 : decode cX10_whose 17 = .ok (.aload_n 0, 1) := by decide +kernel
theorem dX10_whose_18 : decode cX10_whose 18 = .ok (.getfield 37, 3) := by decide +kernel
theorem dX10_whose_21 : decode cX10_whose 21 = .ok (.getfield 109, 3) := by decide +kernel
theorem dX10_whose_24 : decode cX10_whose 24 = .ok (.iload_n 1, 1) := by decide +kernel
theorem dX10_whose_25 : decode cX10_whose 25 = .ok (.iaload, 1) := by decide +kernel
theorem dX10_whose_26 : decode cX10_whose 26 = .ok (.ifCond .ne 5, 3) := by decide +kernel
theorem dX10_whose_29 : decode cX10_whose 29 = .ok (.iconst (-1), 1) := by decide +kernel
theorem dX10_whose_30 : decode cX10_whose 30 = .ok (.ireturn, 1) := by decide +kernel
theorem dX10_whose_31 : decode cX10_whose 31 = .ok (.iconst 0, 1) := by decide +kernel
theorem dX10_whose_32 : decode cX10_whose 32 = .ok (.istore_n 3, 1) := by decide +kernel
theorem dX10_whose_33 : decode cX10_whose 33 = .ok (.iconst 0, 1) := by decide +kernel
theorem dX10_whose_34 : decode cX10_whose 34 = .ok (.istore 4, 2) := by decide +kernel
theorem dX10_whose_36 : decode cX10_whose 36 = .ok (.iload 4, 2) := by decide +kernel
theorem dX10_whose_38 : decode cX10_whose 38 = .ok (.aload_n 0, 1) := by decide +kernel
theorem dX10_whose_39 : decode cX10_whose 39 = .ok (.getfield 37, 3) := by decide +kernel
theorem dX10_whose_42 : decode cX10_whose 42 = .ok (.getfield 103, 3) := by decide +kernel
theorem dX10_whose_45 : decode cX10_whose 45 = .ok (.getfield 226, 3) := by decide +kernel
theorem dX10_whose_48 : decode cX10_whose 48 = .ok (.if_icmp .ge 31, 3) := by decide +kernel
theorem dX10_whose_51 : decode cX10_whose 51 = .ok (.aload_n 0, 1) := by decide +kernel
theorem dX10_whose_52 : decode cX10_whose 52 = .ok (.getfield 37, 3) := by decide +kernel
theorem dX10_whose_55 : decode cX10_whose 55 = .ok (.getfield 109, 3) := by decide +kernel
theorem dX10_whose_58 : decode cX10_whose 58 = .ok (.iload 4, 2) := by decide +kernel
theorem dX10_whose_60 : decode cX10_whose 60 = .ok (.iaload, 1) := by decide +kernel
theorem dX10_whose_61 : decode cX10_whose 61 = .ok (.ifCond .le 12, 3) := by decide +kernel
theorem dX10_whose_64 : decode cX10_whose 64 = .ok (.iload_n 3, 1) := by decide +kernel
theorem dX10_whose_65 : decode cX10_whose 65 = .ok (.aload_n 0, 1) := by decide +kernel
theorem dX10_whose_66 : decode cX10_whose 66 = .ok (.iload 4, 2) := by decide +kernel
theorem dX10_whose_68 : decode cX10_whose 68 = .ok (.invokevirtual 229, 3) := by decide +kernel
theorem dX10_whose_71 : decode cX10_whose 71 = .ok (.iadd, 1) := by decide +kernel
theorem dX10_whose_72 : decode cX10_whose 72 = .ok (.istore_n 3, 1) := by decide +kernel
theorem dX10_whose_73 : decode cX10_whose 73 = .ok (.iinc 4 1, 3) := by decide +kernel
theorem dX10_whose_76 : decode cX10_whose 76 = .ok (.goto (-40), 3) := by decide +kernel
theorem dX10_whose_79 : decode cX10_whose 79 = .ok (.iload_n 3, 1) := by decide +kernel
theorem dX10_whose_80 : decode cX10_whose 80 = .ok (.ifCond .ne 7, 3) := by decide +kernel
theorem dX10_whose_83 : decode cX10_whose 83 = .ok (.iconst (-1), 1) := by decide +kernel
theorem dX10_whose_84 : decode cX10_whose 84 = .ok (.goto 13, 3) := by decide +kernel
theorem dX10_whose_87 : decode cX10_whose 87 = .ok (.aload_n 0, 1) := by decide +kernel
theorem dX10_whose_88 : decode cX10_whose 88 = .ok (.iload_n 1, 1) := by decide +kernel
theorem dX10_whose_89 : decode cX10_whose 89 = .ok (.invokevirtual 229, 3) := by decide +kernel
theorem dX10_whose_92 : decode cX10_whose 92 = .ok (.iload_n 3, 1) := by decide +kernel
theorem dX10_whose_93 : decode cX10_whose 93 = .ok (.iload_n 2, 1) := by decide +kernel
theorem dX10_whose_94 : decode cX10_whose 94 = .ok (.invokestatic 232, 3) := by decide +kernel
theorem dX10_whose_97 : decode cX10_whose 97 = .ok (.ireturn, 1) := by decide +kernel
theorem dX10_chance_0 : decode cX10_chance 0 = .ok (.iload_n 1, 1) := by decide +kernel
theorem dX10_chance_1 : decode cX10_chance 1 = .ok (.ifCond .lt 8, 3) := by decide +kernel
theorem dX10_chance_4 : decode cX10_chance 4 = .ok (.iload_n 1, 1) := by decide +kernel
theorem dX10_chance_5 : decode cX10_chance 5 = .ok (.iconst 1, 1) := by decide +kernel
theorem dX10_chance_6 : decode cX10_chance 6 = .ok (.if_icmp .le 5, 3) := by decide +kernel
theorem dX10_chance_9 : decode cX10_chance 9 = .ok (.iconst (-1), 1) := by decide +kernel
theorem dX10_chance_10 : decode cX10_chance 10 = .ok (.ireturn, 1) := by decide +kernel
theorem dX10_chance_11 : decode cX10_chance 11 = .ok (.iconst 1, 1) := by decide +kernel
theorem dX10_chance_12 : decode cX10_chance 12 = .ok (.istore_n 2, 1) := by decide +kernel
theorem dX10_chance_13 : decode cX10_chance 13 = .ok (.iconst 1, 1) := by decide +kernel
theorem dX10_chance_14 : decode cX10_chance 14 = .ok (.aload_n 0, 1) := by decide +kernel
theorem dX10_chance_15 : decode cX10_chance 15 = .ok (.getfield 37, 3) := by decide +kernel
theorem dX10_chance_18 : decode cX10_chance 18 = .ok (.getfield 103, 3) := by decide +kernel
theorem dX10_chance_21 : decode cX10_chance 21 = .ok (.getfield 226, 3) := by decide +kernel
theorem dX10_chance_24 : decode cX10_chance 24 = .ok (.ishl, 1) := by decide +kernel
theorem dX10_chance_25 : decode cX10_chance 25 = .ok (.iconst 1, 1) := by decide +kernel
theorem dX10_chance_26 : decode cX10_chance 26 = .ok (.isub, 1) := by decide +kernel
theorem dX10_chance_27 : decode cX10_chance 27 = .ok (.istore_n 3, 1) := by decide +kernel
theorem dX10_chance_28 : decode cX10_chance 28 = .ok (.iconst 0, 1) := by decide +kernel
theorem dX10_chance_29 : decode cX10_chance 29 = .ok (.istore 4, 2) := by decide +kernel
theorem dX10_chance_31 : decode cX10_chance 31 = .ok (.iconst 0, 1) := by decide +kernel
theorem dX10_chance_32 : decode cX10_chance 32 = .ok (.istore 5, 2) := by decide +kernel
theorem dX10_chance_34 : decode cX10_chance 34 = .ok (.iload 5, 2) := by decide +kernel
theorem dX10_chance_36 : decode cX10_chance 36 = .ok (.aload_n 0, 1) := by decide +kernel
theorem dX10_chance_37 : decode cX10_chance 37 = .ok (.getfield 37, 3) := by decide +kernel
theorem dX10_chance_40 : decode cX10_chance 40 = .ok (.getfield 103, 3) := by decide +kernel
theorem dX10_chance_43 : decode cX10_chance 43 = .ok (.getfield 226, 3) := by decide +kernel
theorem dX10_chance_46 : decode cX10_chance 46 = .ok (.if_icmp .ge 61, 3) := by decide +kernel
theorem dX10_chance_49 : decode cX10_chance 49 = .ok (.aload_n 0, 1) := by decide +kernel
theorem dX10_chance_50 : decode cX10_chance 50 = .ok (.getfield 37, 3) := by decide +kernel
theorem dX10_chance_53 : decode cX10_chance 53 = .ok (.aload_n 0, 1) := by decide +kernel
theorem dX10_chance_54 : decode cX10_chance 54 = .ok (.getfield 37, 3) := by decide +kernel
theorem dX10_chance_57 : decode cX10_chance 57 = .ok (.iload 5, 2) := by decide +kernel
theorem dX10_chance_59 : decode cX10_chance 59 = .ok (.invokevirtual 115, 3) := by decide +kernel
theorem dX10_chance_62 : decode cX10_chance 62 = .ok (.invokevirtual 119, 3) := by decide +kernel
theorem dX10_chance_65 : decode cX10_chance 65 = .ok (.istore 6, 2) := by decide +kernel
theorem dX10_chance_67 : decode cX10_chance 67 = .ok (.aload_n 0, 1) := by decide +kernel
theorem dX10_chance_68 : decode cX10_chance 68 = .ok (.getfield 37, 3) := by decide +kernel
theorem dX10_chance_71 : decode cX10_chance 71 = .ok (.getfield 109, 3) := by decide +kernel
theorem dX10_chance_74 : decode cX10_chance 74 = .ok (.iload 5, 2) := by decide +kernel
theorem dX10_chance_76 : decode cX10_chance 76 = .ok (.iaload, 1) := by decide +kernel
theorem dX10_chance_77 : decode cX10_chance 77 = .ok (.ifCond .le 24, 3) := by decide +kernel
theorem dX10_chance_80 : decode cX10_chance 80 = .ok (.iload 6, 2) := by decide +kernel
theorem dX10_chance_82 : decode cX10_chance 82 = .ok (.ifCond .eq 19, 3) := by decide +kernel
theorem dX10_chance_85 : decode cX10_chance 85 = .ok (.iconst 1, 1) := by decide +kernel
theorem dX10_chance_86 : decode cX10_chance 86 = .ok (.istore 4, 2) := by decide +kernel
theorem dX10_chance_88 : decode cX10_chance 88 = .ok (.iload_n 3, 1) := by decide +kernel
theorem dX10_chance_89 : decode cX10_chance 89 = .ok (.iload 6, 2) := by decide +kernel
theorem dX10_chance_91 : decode cX10_chance 91 = .ok (.iand, 1) := by decide +kernel
theorem dX10_chance_92 : decode cX10_chance 92 = .ok (.istore_n 3, 1) := by decide +kernel
theorem dX10_chance_93 : decode cX10_chance 93 = .ok (.iload_n 2, 1) := by decide +kernel
theorem dX10_chance_94 : decode cX10_chance 94 = .ok (.iload 6, 2) := by decide +kernel
theorem dX10_chance_96 : decode cX10_chance 96 = .ok (.invokestatic 235, 3) := by decide +kernel
theorem dX10_chance_99 : decode cX10_chance 99 = .ok (.imul, 1) := by decide +kernel
theorem dX10_chance_100 : decode cX10_chance 100 = .ok (.istore_n 2, 1) := by decide +kernel
theorem dX10_chance_101 : decode cX10_chance 101 = .ok (.iinc 5 1, 3) := by decide +kernel
theorem dX10_chance_104 : decode cX10_chance 104 = .ok (.goto (-70), 3) := by decide +kernel
theorem dX10_chance_107 : decode cX10_chance 107 = .ok (.iload 4, 2) := by decide +kernel
theorem dX10_chance_109 : decode cX10_chance 109 = .ok (.ifCond .eq 10, 3) := by decide +kernel
theorem dX10_chance_112 : decode cX10_chance 112 = .ok (.iload_n 3, 1) := by decide +kernel
theorem dX10_chance_113 : decode cX10_chance 113 = .ok (.invokestatic 235, 3) := by decide +kernel
theorem dX10_chance_116 : decode cX10_chance 116 = .ok (.goto 4, 3) := by decide +kernel
theorem dX10_chance_119 : decode cX10_chance 119 = .ok (.iconst 1, 1) := by decide +kernel
theorem dX10_chance_120 : decode cX10_chance 120 = .ok (.iload_n 2, 1) := by decide +kernel
theorem dX10_chance_121 : decode cX10_chance 121 = .ok (.iload_n 1, 1) := by decide +kernel
theorem dX10_chance_122 : decode cX10_chance 122 = .ok (.invokestatic 232, 3) := by decide +kernel
theorem dX10_chance_125 : decode cX10_chance 125 = .ok (.ireturn, 1) := by decide +kernel
theorem dX10_mark_0 : decode cX10_mark 0 = .ok (.iload_n 1, 1) := by decide +kernel
theorem dX10_mark_1 : decode cX10_mark 1 = .ok (.ifCond .lt 24, 3) := by decide +kernel
theorem dX10_mark_4 : decode cX10_mark 4 = .ok (.iload_n 1, 1) := by decide +kernel
theorem dX10_mark_5 : decode cX10_mark 5 = .ok (.iconst 4, 1) := by decide +kernel
theorem dX10_mark_6 : decode cX10_mark 6 = .ok (.if_icmp .ge 19, 3) := by decide +kernel
theorem dX10_mark_9 : decode cX10_mark 9 = .ok (.iload_n 2, 1) := by decide +kernel
theorem dX10_mark_10 : decode cX10_mark 10 = .ok (.ifCond .eq 17, 3) := by decide +kernel
theorem dX10_mark_13 : decode cX10_mark 13 = .ok (.aload_n 0, 1) := by decide +kernel
theorem dX10_mark_14 : decode cX10_mark 14 = .ok (.getfield 72, 3) := by decide +kernel
theorem dX10_mark_17 : decode cX10_mark 17 = .ok (.iload_n 1, 1) := by decide +kernel
theorem dX10_mark_18 : decode cX10_mark 18 = .ok (.aaload, 1) := by decide +kernel
theorem dX10_mark_19 : decode cX10_mark 19 = .ok (.getfield 240, 3) := by decide +kernel
theorem dX10_mark_22 : decode cX10_mark 22 = .ok (.ifCond .ne 5, 3) := by decide +kernel
theorem dX10_mark_25 : decode cX10_mark 25 = .ok (.iconst 0, 1) := by decide +kernel
theorem dX10_mark_26 : decode cX10_mark 26 = .ok (.ireturn, 1) := by decide +kernel
theorem dX10_mark_27 : decode cX10_mark 27 = .ok (.iload_n 2, 1) := by decide +kernel
theorem dX10_mark_28 : decode cX10_mark 28 = .ok (.ifCond .eq 42, 3) := by decide +kernel
theorem dX10_mark_31 : decode cX10_mark 31 = .ok (.aload_n 0, 1) := by decide +kernel
theorem dX10_mark_32 : decode cX10_mark 32 = .ok (.getfield 37, 3) := by decide +kernel
theorem dX10_mark_35 : decode cX10_mark 35 = .ok (.aload_n 0, 1) := by decide +kernel
theorem dX10_mark_36 : decode cX10_mark 36 = .ok (.getfield 72, 3) := by decide +kernel
theorem dX10_mark_39 : decode cX10_mark 39 = .ok (.iload_n 1, 1) := by decide +kernel
theorem dX10_mark_40 : decode cX10_mark 40 = .ok (.aaload, 1) := by decide +kernel
theorem dX10_mark_41 : decode cX10_mark 41 = .ok (.getfield 244, 3) := by decide +kernel
theorem dX10_mark_44 : decode cX10_mark 44 = .ok (.invokevirtual 247, 3) := by decide +kernel
theorem dX10_mark_47 : decode cX10_mark 47 = .ok (.aload_n 0, 1) := by decide +kernel
theorem dX10_mark_48 : decode cX10_mark 48 = .ok (.getfield 44, 3) := by decide +kernel
theorem dX10_mark_51 : decode cX10_mark 51 = .ok (.aload_n 0, 1) := by decide +kernel
theorem dX10_mark_52 : decode cX10_mark 52 = .ok (.getfield 72, 3) := by decide +kernel
theorem dX10_mark_55 : decode cX10_mark 55 = .ok (.iload_n 1, 1) := by decide +kernel
theorem dX10_mark_56 : decode cX10_mark 56 = .ok (.aaload, 1) := by decide +kernel
theorem dX10_mark_57 : decode cX10_mark 57 = .ok (.getfield 251, 3) := by decide +kernel
theorem dX10_mark_60 : decode cX10_mark 60 = .ok (.invokevirtual 252, 3) := by decide +kernel
theorem dX10_mark_63 : decode cX10_mark 63 = .ok (.aload_n 0, 1) := by decide +kernel
theorem dX10_mark_64 : decode cX10_mark 64 = .ok (.invokevirtual 133, 3) := by decide +kernel
theorem dX10_mark_67 : decode cX10_mark 67 = .ok (.goto 45, 3) := by decide +kernel
theorem dX10_mark_70 : decode cX10_mark 70 = .ok (.aload_n 0, 1) := by decide +kernel
theorem dX10_mark_71 : decode cX10_mark 71 = .ok (.getfield 72, 3) := by decide +kernel
theorem dX10_mark_74 : decode cX10_mark 74 = .ok (.iload_n 1, 1) := by decide +kernel
theorem dX10_mark_75 : decode cX10_mark 75 = .ok (.aaload, 1) := by decide +kernel
theorem dX10_mark_76 : decode cX10_mark 76 = .ok (.getfield 244, 3) := by decide +kernel
theorem dX10_mark_79 : decode cX10_mark 79 = .ok (.aload_n 0, 1) := by decide +kernel
theorem dX10_mark_80 : decode cX10_mark 80 = .ok (.getfield 37, 3) := by decide +kernel
theorem dX10_mark_83 : decode cX10_mark 83 = .ok (.invokevirtual 247, 3) := by decide +kernel
theorem dX10_mark_86 : decode cX10_mark 86 = .ok (.aload_n 0, 1) := by decide +kernel
theorem dX10_mark_87 : decode cX10_mark 87 = .ok (.getfield 72, 3) := by decide +kernel
theorem dX10_mark_90 : decode cX10_mark 90 = .ok (.iload_n 1, 1) := by decide +kernel
theorem dX10_mark_91 : decode cX10_mark 91 = .ok (.aaload, 1) := by decide +kernel
theorem dX10_mark_92 : decode cX10_mark 92 = .ok (.getfield 251, 3) := by decide +kernel
theorem dX10_mark_95 : decode cX10_mark 95 = .ok (.aload_n 0, 1) := by decide +kernel
theorem dX10_mark_96 : decode cX10_mark 96 = .ok (.getfield 44, 3) := by decide +kernel
theorem dX10_mark_99 : decode cX10_mark 99 = .ok (.invokevirtual 252, 3) := by decide +kernel
theorem dX10_mark_102 : decode cX10_mark 102 = .ok (.aload_n 0, 1) := by decide +kernel
theorem dX10_mark_103 : decode cX10_mark 103 = .ok (.getfield 72, 3) := by decide +kernel
theorem dX10_mark_106 : decode cX10_mark 106 = .ok (.iload_n 1, 1) := by decide +kernel
theorem dX10_mark_107 : decode cX10_mark 107 = .ok (.aaload, 1) := by decide +kernel
theorem dX10_mark_108 : decode cX10_mark 108 = .ok (.iconst 1, 1) := by decide +kernel
theorem dX10_mark_109 : decode cX10_mark 109 = .ok (.putfield 240, 3) := by decide +kernel
theorem dX10_mark_112 : decode cX10_mark 112 = .ok (.iconst 1, 1) := by decide +kernel
theorem dX10_mark_113 : decode cX10_mark 113 = .ok (.ireturn, 1) := by decide +kernel
theorem dX10_count_0 : decode cX10_count 0 = .ok (.iload_n 1, 1) := by decide +kernel
theorem dX10_count_1 : decode cX10_count 1 = .ok (.tableswitch 135 0 8 #[51, 62, 70, 81, 92, 100, 111, 119, 127], 51) := by decide +kernel
theorem dX10_count_52 : decode cX10_count 52 = .ok (.aload_n 0, 1) := by decide +kernel
theorem dX10_count_53 : decode cX10_count 53 = .ok (.getfield 37, 3) := by decide +kernel
theorem dX10_count_56 : decode cX10_count 56 = .ok (.getfield 103, 3) := by decide +kernel
theorem dX10_count_59 : decode cX10_count 59 = .ok (.getfield 226, 3) := by decide +kernel
theorem dX10_count_62 : decode cX10_count 62 = .ok (.ireturn, 1) := by decide +kernel
theorem dX10_count_63 : decode cX10_count 63 = .ok (.aload_n 0, 1) := by decide +kernel
theorem dX10_count_64 : decode cX10_count 64 = .ok (.getfield 37, 3) := by decide +kernel
theorem dX10_count_67 : decode cX10_count 67 = .ok (.getfield 140, 3) := by decide +kernel
theorem dX10_count_70 : decode cX10_count 70 = .ok (.ireturn, 1) := by decide +kernel
theorem dX10_count_71 : decode cX10_count 71 = .ok (.aload_n 0, 1) := by decide +kernel
theorem dX10_count_72 : decode cX10_count 72 = .ok (.getfield 37, 3) := by decide +kernel
theorem dX10_count_75 : decode cX10_count 75 = .ok (.getfield 140, 3) := by decide +kernel
theorem dX10_count_78 : decode cX10_count 78 = .ok (.bipush 28, 2) := by decide +kernel
theorem dX10_count_80 : decode cX10_count 80 = .ok (.idiv, 1) := by decide +kernel
theorem dX10_count_81 : decode cX10_count 81 = .ok (.ireturn, 1) := by decide +kernel
theorem dX10_count_82 : decode cX10_count 82 = .ok (.aload_n 0, 1) := by decide +kernel
theorem dX10_count_83 : decode cX10_count 83 = .ok (.getfield 37, 3) := by decide +kernel
theorem dX10_count_86 : decode cX10_count 86 = .ok (.getfield 103, 3) := by decide +kernel
theorem dX10_count_89 : decode cX10_count 89 = .ok (.getfield 255, 3) := by decide +kernel
theorem dX10_count_92 : decode cX10_count 92 = .ok (.ireturn, 1) := by decide +kernel
theorem dX10_count_93 : decode cX10_count 93 = .ok (.aload_n 0, 1) := by decide +kernel
theorem dX10_count_94 : decode cX10_count 94 = .ok (.getfield 37, 3) := by decide +kernel
theorem dX10_count_97 : decode cX10_count 97 = .ok (.invokevirtual 258, 3) := by decide +kernel
theorem dX10_count_100 : decode cX10_count 100 = .ok (.ireturn, 1) := by decide +kernel
theorem dX10_count_101 : decode cX10_count 101 = .ok (.aload_n 0, 1) := by decide +kernel
theorem dX10_count_102 : decode cX10_count 102 = .ok (.getfield 37, 3) := by decide +kernel
theorem dX10_count_105 : decode cX10_count 105 = .ok (.getfield 103, 3) := by decide +kernel
theorem dX10_count_108 : decode cX10_count 108 = .ok (.getfield 261, 3) := by decide +kernel
theorem dX10_count_111 : decode cX10_count 111 = .ok (.ireturn, 1) := by decide +kernel
theorem dX10_count_112 : decode cX10_count 112 = .ok (.aload_n 0, 1) := by decide +kernel
theorem dX10_count_113 : decode cX10_count 113 = .ok (.getfield 44, 3) := by decide +kernel
theorem dX10_count_116 : decode cX10_count 116 = .ok (.getfield 220, 3) := by decide +kernel
theorem dX10_count_119 : decode cX10_count 119 = .ok (.ireturn, 1) := by decide +kernel
theorem dX10_count_120 : decode cX10_count 120 = .ok (.aload_n 0, 1) := by decide +kernel
theorem dX10_count_121 : decode cX10_count 121 = .ok (.getfield 44, 3) := by decide +kernel
theorem dX10_count_124 : decode cX10_count 124 = .ok (.getfield 264, 3) := by decide +kernel
theorem dX10_count_127 : decode cX10_count 127 = .ok (.ireturn, 1) := by decide +kernel
theorem dX10_count_128 : decode cX10_count 128 = .ok (.aload_n 0, 1) := by decide +kernel
theorem dX10_count_129 : decode cX10_count 129 = .ok (.getfield 13, 3) := by decide +kernel
theorem dX10_count_132 : decode cX10_count 132 = .ok (.getfield 81, 3) := by decide +kernel
theorem dX10_count_135 : decode cX10_count 135 = .ok (.ireturn, 1) := by decide +kernel
theorem dX10_count_136 : decode cX10_count 136 = .ok (.iconst (-1), 1) := by decide +kernel
theorem dX10_count_137 : decode cX10_count 137 = .ok (.ireturn, 1) := by decide +kernel
theorem dX10_isFarm_0 : decode cX10_isFarm 0 = .ok (.iload_n 1, 1) := by decide +kernel
theorem dX10_isFarm_1 : decode cX10_isFarm 1 = .ok (.ifCond .lt 21, 3) := by decide +kernel
theorem dX10_isFarm_4 : decode cX10_isFarm 4 = .ok (.iload_n 1, 1) := by decide +kernel
theorem dX10_isFarm_5 : decode cX10_isFarm 5 = .ok (.aload_n 0, 1) := by decide +kernel
theorem dX10_isFarm_6 : decode cX10_isFarm 6 = .ok (.getfield 37, 3) := by decide +kernel
theorem dX10_isFarm_9 : decode cX10_isFarm 9 = .ok (.getfield 103, 3) := by decide +kernel
theorem dX10_isFarm_12 : decode cX10_isFarm 12 = .ok (.getfield 226, 3) := by decide +kernel
theorem dX10_isFarm_15 : decode cX10_isFarm 15 = .ok (.if_icmp .ge 7, 3) := by decide +kernel
theorem dX10_isFarm_18 : decode cX10_isFarm 18 = .ok (.iconst 1, 1) := by decide +kernel
theorem dX10_isFarm_19 : decode cX10_isFarm 19 = .ok (.goto 4, 3) := by decide +kernel
theorem dX10_isFarm_22 : decode cX10_isFarm 22 = .ok (.iconst 0, 1) := by decide +kernel
theorem dX10_isFarm_23 : decode cX10_isFarm 23 = .ok (.ireturn, 1) := by decide +kernel
theorem dX10_isPair_0 : decode cX10_isPair 0 = .ok (.aload_n 0, 1) := by decide +kernel
theorem dX10_isPair_1 : decode cX10_isPair 1 = .ok (.iload_n 1, 1) := by decide +kernel
theorem dX10_isPair_2 : decode cX10_isPair 2 = .ok (.invokevirtual 95, 3) := by decide +kernel
theorem dX10_isPair_5 : decode cX10_isPair 5 = .ok (.ifCond .eq 20, 3) := by decide +kernel
theorem dX10_isPair_8 : decode cX10_isPair 8 = .ok (.aload_n 0, 1) := by decide +kernel
theorem dX10_isPair_9 : decode cX10_isPair 9 = .ok (.iload_n 2, 1) := by decide +kernel
theorem dX10_isPair_10 : decode cX10_isPair 10 = .ok (.invokevirtual 95, 3) := by decide +kernel
theorem dX10_isPair_13 : decode cX10_isPair 13 = .ok (.ifCond .eq 12, 3) := by decide +kernel
theorem dX10_isPair_16 : decode cX10_isPair 16 = .ok (.iload_n 1, 1) := by decide +kernel
theorem dX10_isPair_17 : decode cX10_isPair 17 = .ok (.iload_n 2, 1) := by decide +kernel
theorem dX10_isPair_18 : decode cX10_isPair 18 = .ok (.if_icmp .eq 7, 3) := by decide +kernel
theorem dX10_isPair_21 : decode cX10_isPair 21 = .ok (.iconst 1, 1) := by decide +kernel
theorem dX10_isPair_22 : decode cX10_isPair 22 = .ok (.goto 4, 3) := by decide +kernel
theorem dX10_isPair_25 : decode cX10_isPair 25 = .ok (.iconst 0, 1) := by decide +kernel
theorem dX10_isPair_26 : decode cX10_isPair 26 = .ok (.ireturn, 1) := by decide +kernel
theorem dX10_isAhead_0 : decode cX10_isAhead 0 = .ok (.iload_n 0, 1) := by decide +kernel
theorem dX10_isAhead_1 : decode cX10_isAhead 1 = .ok (.iconst 1, 1) := by decide +kernel
theorem dX10_isAhead_2 : decode cX10_isAhead 2 = .ok (.if_icmp .lt 13, 3) := by decide +kernel
theorem dX10_isAhead_5 : decode cX10_isAhead 5 = .ok (.iload_n 0, 1) := by decide +kernel
theorem dX10_isAhead_6 : decode cX10_isAhead 6 = .ok (.bipush 28, 2) := by decide +kernel
theorem dX10_isAhead_8 : decode cX10_isAhead 8 = .ok (.if_icmp .gt 7, 3) := by decide +kernel
theorem dX10_isAhead_11 : decode cX10_isAhead 11 = .ok (.iconst 1, 1) := by decide +kernel
theorem dX10_isAhead_12 : decode cX10_isAhead 12 = .ok (.goto 4, 3) := by decide +kernel
theorem dX10_isAhead_15 : decode cX10_isAhead 15 = .ok (.iconst 0, 1) := by decide +kernel
theorem dX10_isAhead_16 : decode cX10_isAhead 16 = .ok (.ireturn, 1) := by decide +kernel
theorem dX10_settle_0 : decode cX10_settle 0 = .ok (.aload_n 0, 1) := by decide +kernel
theorem dX10_settle_1 : decode cX10_settle 1 = .ok (.getfield 37, 3) := by decide +kernel
theorem dX10_settle_4 : decode cX10_settle 4 = .ok (.getfield 103, 3) := by decide +kernel
theorem dX10_settle_7 : decode cX10_settle 7 = .ok (.astore_n 1, 1) := by decide +kernel
theorem dX10_settle_8 : decode cX10_settle 8 = .ok (.aload_n 0, 1) := by decide +kernel
theorem dX10_settle_9 : decode cX10_settle 9 = .ok (.getfield 37, 3) := by decide +kernel
theorem dX10_settle_12 : decode cX10_settle 12 = .ok (.aload_n 0, 1) := by decide +kernel
theorem dX10_settle_13 : decode cX10_settle 13 = .ok (.getfield 19, 3) := by decide +kernel
theorem dX10_settle_16 : decode cX10_settle 16 = .ok (.invokevirtual 267, 3) := by decide +kernel
theorem dX10_settle_19 : decode cX10_settle 19 = .ok (.aload_n 0, 1) := by decide +kernel
theorem dX10_settle_20 : decode cX10_settle 20 = .ok (.aload_n 1, 1) := by decide +kernel
theorem dX10_settle_21 : decode cX10_settle 21 = .ok (.putfield 19, 3) := by decide +kernel
theorem dX10_settle_24 : decode cX10_settle 24 = .ok (.aload_n 0, 1) := by decide +kernel
theorem dX10_settle_25 : decode cX10_settle 25 = .ok (.getfield 44, 3) := by decide +kernel
theorem dX10_settle_28 : decode cX10_settle 28 = .ok (.invokevirtual 270, 3) := by decide +kernel
theorem dX10_settle_31 : decode cX10_settle 31 = .ok (.iconst 0, 1) := by decide +kernel
theorem dX10_settle_32 : decode cX10_settle 32 = .ok (.istore_n 2, 1) := by decide +kernel
theorem dX10_settle_33 : decode cX10_settle 33 = .ok (.iload_n 2, 1) := by decide +kernel
theorem dX10_settle_34 : decode cX10_settle 34 = .ok (.iconst 4, 1) := by decide +kernel
theorem dX10_settle_35 : decode cX10_settle 35 = .ok (.if_icmp .ge 19, 3) := by decide +kernel
theorem dX10_settle_38 : decode cX10_settle 38 = .ok (.aload_n 0, 1) := by decide +kernel
theorem dX10_settle_39 : decode cX10_settle 39 = .ok (.getfield 72, 3) := by decide +kernel
theorem dX10_settle_42 : decode cX10_settle 42 = .ok (.iload_n 2, 1) := by decide +kernel
theorem dX10_settle_43 : decode cX10_settle 43 = .ok (.aaload, 1) := by decide +kernel
theorem dX10_settle_44 : decode cX10_settle 44 = .ok (.iconst 0, 1) := by decide +kernel
theorem dX10_settle_45 : decode cX10_settle 45 = .ok (.putfield 240, 3) := by decide +kernel
theorem dX10_settle_48 : decode cX10_settle 48 = .ok (.iinc 2 1, 3) := by decide +kernel
theorem dX10_settle_51 : decode cX10_settle 51 = .ok (.goto (-18), 3) := by decide +kernel
theorem dX10_settle_54 : decode cX10_settle 54 = .ok (.aload_n 0, 1) := by decide +kernel
theorem dX10_settle_55 : decode cX10_settle 55 = .ok (.invokevirtual 133, 3) := by decide +kernel
theorem dX10_settle_58 : decode cX10_settle 58 = .ok (.return_, 1) := by decide +kernel
theorem dX10_forgetAhead_0 : decode cX10_forgetAhead 0 = .ok (.aload_n 0, 1) := by decide +kernel
theorem dX10_forgetAhead_1 : decode cX10_forgetAhead 1 = .ok (.getfield 59, 3) := by decide +kernel
theorem dX10_forgetAhead_4 : decode cX10_forgetAhead 4 = .ok (.invokevirtual 271, 3) := by decide +kernel
theorem dX10_forgetAhead_7 : decode cX10_forgetAhead 7 = .ok (.aload_n 0, 1) := by decide +kernel
theorem dX10_forgetAhead_8 : decode cX10_forgetAhead 8 = .ok (.getfield 66, 3) := by decide +kernel
theorem dX10_forgetAhead_11 : decode cX10_forgetAhead 11 = .ok (.invokevirtual 274, 3) := by decide +kernel
theorem dX10_forgetAhead_14 : decode cX10_forgetAhead 14 = .ok (.return_, 1) := by decide +kernel
theorem dX10_lossIf_0 : decode cX10_lossIf 0 = .ok (.aload_n 0, 1) := by decide +kernel
theorem dX10_lossIf_1 : decode cX10_lossIf 1 = .ok (.getfield 48, 3) := by decide +kernel
theorem dX10_lossIf_4 : decode cX10_lossIf 4 = .ok (.aload_n 0, 1) := by decide +kernel
theorem dX10_lossIf_5 : decode cX10_lossIf 5 = .ok (.getfield 37, 3) := by decide +kernel
theorem dX10_lossIf_8 : decode cX10_lossIf 8 = .ok (.invokevirtual 247, 3) := by decide +kernel
theorem dX10_lossIf_11 : decode cX10_lossIf 11 = .ok (.aload_n 0, 1) := by decide +kernel
theorem dX10_lossIf_12 : decode cX10_lossIf 12 = .ok (.getfield 48, 3) := by decide +kernel
theorem dX10_lossIf_15 : decode cX10_lossIf 15 = .ok (.getfield 109, 3) := by decide +kernel
theorem dX10_lossIf_18 : decode cX10_lossIf 18 = .ok (.iload_n 1, 1) := by decide +kernel
theorem dX10_lossIf_19 : decode cX10_lossIf 19 = .ok (.dup2, 1) := by decide +kernel
theorem dX10_lossIf_20 : decode cX10_lossIf 20 = .ok (.iaload, 1) := by decide +kernel
theorem dX10_lossIf_21 : decode cX10_lossIf 21 = .ok (.iload_n 3, 1) := by decide +kernel
theorem dX10_lossIf_22 : decode cX10_lossIf 22 = .ok (.iadd, 1) := by decide +kernel
theorem dX10_lossIf_23 : decode cX10_lossIf 23 = .ok (.iastore, 1) := by decide +kernel
theorem dX10_lossIf_24 : decode cX10_lossIf 24 = .ok (.aload_n 0, 1) := by decide +kernel
theorem dX10_lossIf_25 : decode cX10_lossIf 25 = .ok (.getfield 48, 3) := by decide +kernel
theorem dX10_lossIf_28 : decode cX10_lossIf 28 = .ok (.aload_n 0, 1) := by decide +kernel
theorem dX10_lossIf_29 : decode cX10_lossIf 29 = .ok (.getfield 51, 3) := by decide +kernel
theorem dX10_lossIf_32 : decode cX10_lossIf 32 = .ok (.iload_n 2, 1) := by decide +kernel
theorem dX10_lossIf_33 : decode cX10_lossIf 33 = .ok (.invokevirtual 136, 3) := by decide +kernel
theorem dX10_lossIf_36 : decode cX10_lossIf 36 = .ok (.aload_n 0, 1) := by decide +kernel
theorem dX10_lossIf_37 : decode cX10_lossIf 37 = .ok (.getfield 48, 3) := by decide +kernel
theorem dX10_lossIf_40 : decode cX10_lossIf 40 = .ok (.iload_n 1, 1) := by decide +kernel
theorem dX10_lossIf_41 : decode cX10_lossIf 41 = .ok (.invokevirtual 275, 3) := by decide +kernel
theorem dX10_lossIf_44 : decode cX10_lossIf 44 = .ok (.aload_n 0, 1) := by decide +kernel
theorem dX10_lossIf_45 : decode cX10_lossIf 45 = .ok (.getfield 37, 3) := by decide +kernel
theorem dX10_lossIf_48 : decode cX10_lossIf 48 = .ok (.iload_n 1, 1) := by decide +kernel
theorem dX10_lossIf_49 : decode cX10_lossIf 49 = .ok (.invokevirtual 275, 3) := by decide +kernel
theorem dX10_lossIf_52 : decode cX10_lossIf 52 = .ok (.isub, 1) := by decide +kernel
theorem dX10_lossIf_53 : decode cX10_lossIf 53 = .ok (.ireturn, 1) := by decide +kernel
theorem dX10_oddsOf_0 : decode cX10_oddsOf 0 = .ok (.iconst 1, 1) := by decide +kernel
theorem dX10_oddsOf_1 : decode cX10_oddsOf 1 = .ok (.istore_n 2, 1) := by decide +kernel
theorem dX10_oddsOf_2 : decode cX10_oddsOf 2 = .ok (.iconst 0, 1) := by decide +kernel
theorem dX10_oddsOf_3 : decode cX10_oddsOf 3 = .ok (.istore_n 3, 1) := by decide +kernel
theorem dX10_oddsOf_4 : decode cX10_oddsOf 4 = .ok (.iload_n 3, 1) := by decide +kernel
theorem dX10_oddsOf_5 : decode cX10_oddsOf 5 = .ok (.aload_n 0, 1) := by decide +kernel
theorem dX10_oddsOf_6 : decode cX10_oddsOf 6 = .ok (.getfield 44, 3) := by decide +kernel
theorem dX10_oddsOf_9 : decode cX10_oddsOf 9 = .ok (.getfield 220, 3) := by decide +kernel
theorem dX10_oddsOf_12 : decode cX10_oddsOf 12 = .ok (.if_icmp .ge 32, 3) := by decide +kernel
theorem dX10_oddsOf_15 : decode cX10_oddsOf 15 = .ok (.iload_n 2, 1) := by decide +kernel
theorem dX10_oddsOf_16 : decode cX10_oddsOf 16 = .ok (.aload_n 0, 1) := by decide +kernel
theorem dX10_oddsOf_17 : decode cX10_oddsOf 17 = .ok (.getfield 37, 3) := by decide +kernel
theorem dX10_oddsOf_20 : decode cX10_oddsOf 20 = .ok (.getfield 103, 3) := by decide +kernel
theorem dX10_oddsOf_23 : decode cX10_oddsOf 23 = .ok (.iload_n 1, 1) := by decide +kernel
theorem dX10_oddsOf_24 : decode cX10_oddsOf 24 = .ok (.aload_n 0, 1) := by decide +kernel
theorem dX10_oddsOf_25 : decode cX10_oddsOf 25 = .ok (.getfield 44, 3) := by decide +kernel
theorem dX10_oddsOf_28 : decode cX10_oddsOf 28 = .ok (.getfield 223, 3) := by decide +kernel
theorem dX10_oddsOf_31 : decode cX10_oddsOf 31 = .ok (.iload_n 3, 1) := by decide +kernel
theorem dX10_oddsOf_32 : decode cX10_oddsOf 32 = .ok (.iaload, 1) := by decide +kernel
theorem dX10_oddsOf_33 : decode cX10_oddsOf 33 = .ok (.invokevirtual 125, 3) := by decide +kernel
theorem dX10_oddsOf_36 : decode cX10_oddsOf 36 = .ok (.imul, 1) := by decide +kernel
theorem dX10_oddsOf_37 : decode cX10_oddsOf 37 = .ok (.istore_n 2, 1) := by decide +kernel
theorem dX10_oddsOf_38 : decode cX10_oddsOf 38 = .ok (.iinc 3 1, 3) := by decide +kernel
theorem dX10_oddsOf_41 : decode cX10_oddsOf 41 = .ok (.goto (-37), 3) := by decide +kernel
theorem dX10_oddsOf_44 : decode cX10_oddsOf 44 = .ok (.iload_n 2, 1) := by decide +kernel
theorem dX10_oddsOf_45 : decode cX10_oddsOf 45 = .ok (.ireturn, 1) := by decide +kernel
theorem dX10_inLowestTerms_0 : decode cX10_inLowestTerms 0 = .ok (.iload_n 0, 1) := by decide +kernel
theorem dX10_inLowestTerms_1 : decode cX10_inLowestTerms 1 = .ok (.iload_n 1, 1) := by decide +kernel
theorem dX10_inLowestTerms_2 : decode cX10_inLowestTerms 2 = .ok (.invokestatic 278, 3) := by decide +kernel
theorem dX10_inLowestTerms_5 : decode cX10_inLowestTerms 5 = .ok (.istore_n 3, 1) := by decide +kernel
theorem dX10_inLowestTerms_6 : decode cX10_inLowestTerms 6 = .ok (.iload_n 2, 1) := by decide +kernel
theorem dX10_inLowestTerms_7 : decode cX10_inLowestTerms 7 = .ok (.ifCond .ne 7, 3) := by decide +kernel
theorem dX10_inLowestTerms_10 : decode cX10_inLowestTerms 10 = .ok (.iload_n 0, 1) := by decide +kernel
theorem dX10_inLowestTerms_11 : decode cX10_inLowestTerms 11 = .ok (.goto 4, 3) := by decide +kernel
theorem dX10_inLowestTerms_14 : decode cX10_inLowestTerms 14 = .ok (.iload_n 1, 1) := by decide +kernel
theorem dX10_inLowestTerms_15 : decode cX10_inLowestTerms 15 = .ok (.istore 4, 2) := by decide +kernel
theorem dX10_inLowestTerms_17 : decode cX10_inLowestTerms 17 = .ok (.iload_n 3, 1) := by decide +kernel
theorem dX10_inLowestTerms_18 : decode cX10_inLowestTerms 18 = .ok (.ifCond .ne 8, 3) := by decide +kernel
theorem dX10_inLowestTerms_21 : decode cX10_inLowestTerms 21 = .ok (.iload 4, 2) := by decide +kernel
theorem dX10_inLowestTerms_23 : decode cX10_inLowestTerms 23 = .ok (.goto 7, 3) := by decide +kernel
theorem dX10_inLowestTerms_26 : decode cX10_inLowestTerms 26 = .ok (.iload 4, 2) := by decide +kernel
theorem dX10_inLowestTerms_28 : decode cX10_inLowestTerms 28 = .ok (.iload_n 3, 1) := by decide +kernel
theorem dX10_inLowestTerms_29 : decode cX10_inLowestTerms 29 = .ok (.idiv, 1) := by decide +kernel
theorem dX10_inLowestTerms_30 : decode cX10_inLowestTerms 30 = .ok (.ireturn, 1) := by decide +kernel
theorem dX10_greatestDivisor_0 : decode cX10_greatestDivisor 0 = .ok (.iload_n 0, 1) := by decide +kernel
theorem dX10_greatestDivisor_1 : decode cX10_greatestDivisor 1 = .ok (.istore_n 2, 1) := by decide +kernel
theorem dX10_greatestDivisor_2 : decode cX10_greatestDivisor 2 = .ok (.iload_n 1, 1) := by decide +kernel
theorem dX10_greatestDivisor_3 : decode cX10_greatestDivisor 3 = .ok (.istore_n 3, 1) := by decide +kernel
theorem dX10_greatestDivisor_4 : decode cX10_greatestDivisor 4 = .ok (.iconst 0, 1) := by decide +kernel
theorem dX10_greatestDivisor_5 : decode cX10_greatestDivisor 5 = .ok (.istore 4, 2) := by decide +kernel
theorem dX10_greatestDivisor_7 : decode cX10_greatestDivisor 7 = .ok (.iload 4, 2) := by decide +kernel
theorem dX10_greatestDivisor_9 : decode cX10_greatestDivisor 9 = .ok (.bipush 64, 2) := by decide +kernel
theorem dX10_greatestDivisor_11 : decode cX10_greatestDivisor 11 = .ok (.if_icmp .ge 23, 3) := by decide +kernel
theorem dX10_greatestDivisor_14 : decode cX10_greatestDivisor 14 = .ok (.iload_n 3, 1) := by decide +kernel
theorem dX10_greatestDivisor_15 : decode cX10_greatestDivisor 15 = .ok (.ifCond .eq 19, 3) := by decide +kernel
theorem dX10_greatestDivisor_18 : decode cX10_greatestDivisor 18 = .ok (.iload_n 2, 1) := by decide +kernel
theorem dX10_greatestDivisor_19 : decode cX10_greatestDivisor 19 = .ok (.iload_n 3, 1) := by decide +kernel
theorem dX10_greatestDivisor_20 : decode cX10_greatestDivisor 20 = .ok (.irem, 1) := by decide +kernel
theorem dX10_greatestDivisor_21 : decode cX10_greatestDivisor 21 = .ok (.istore 5, 2) := by decide +kernel
theorem dX10_greatestDivisor_23 : decode cX10_greatestDivisor 23 = .ok (.iload_n 3, 1) := by decide +kernel
theorem dX10_greatestDivisor_24 : decode cX10_greatestDivisor 24 = .ok (.istore_n 2, 1) := by decide +kernel
theorem dX10_greatestDivisor_25 : decode cX10_greatestDivisor 25 = .ok (.iload 5, 2) := by decide +kernel
theorem dX10_greatestDivisor_27 : decode cX10_greatestDivisor 27 = .ok (.istore_n 3, 1) := by decide +kernel
theorem dX10_greatestDivisor_28 : decode cX10_greatestDivisor 28 = .ok (.iinc 4 1, 3) := by decide +kernel
theorem dX10_greatestDivisor_31 : decode cX10_greatestDivisor 31 = .ok (.goto (-24), 3) := by decide +kernel
theorem dX10_greatestDivisor_34 : decode cX10_greatestDivisor 34 = .ok (.iload_n 2, 1) := by decide +kernel
theorem dX10_greatestDivisor_35 : decode cX10_greatestDivisor 35 = .ok (.ireturn, 1) := by decide +kernel
theorem dJ6_bitCount_0f7a4_0 : decode cJ6_bitCount_0f7a4 0 = .ok (.iload_n 0, 1) := by decide +kernel
theorem dJ6_bitCount_0f7a4_1 : decode cJ6_bitCount_0f7a4 1 = .ok (.iload_n 0, 1) := by decide +kernel
theorem dJ6_bitCount_0f7a4_2 : decode cJ6_bitCount_0f7a4 2 = .ok (.iconst 1, 1) := by decide +kernel
theorem dJ6_bitCount_0f7a4_3 : decode cJ6_bitCount_0f7a4 3 = .ok (.iushr, 1) := by decide +kernel
theorem dJ6_bitCount_0f7a4_4 : decode cJ6_bitCount_0f7a4 4 = .ok (.ldc_w 265, 3) := by decide +kernel
theorem dJ6_bitCount_0f7a4_7 : decode cJ6_bitCount_0f7a4 7 = .ok (.iand, 1) := by decide +kernel
theorem dJ6_bitCount_0f7a4_8 : decode cJ6_bitCount_0f7a4 8 = .ok (.isub, 1) := by decide +kernel
theorem dJ6_bitCount_0f7a4_9 : decode cJ6_bitCount_0f7a4 9 = .ok (.istore_n 0, 1) := by decide +kernel
theorem dJ6_bitCount_0f7a4_10 : decode cJ6_bitCount_0f7a4 10 = .ok (.iload_n 0, 1) := by decide +kernel
theorem dJ6_bitCount_0f7a4_11 : decode cJ6_bitCount_0f7a4 11 = .ok (.ldc_w 266, 3) := by decide +kernel
theorem dJ6_bitCount_0f7a4_14 : decode cJ6_bitCount_0f7a4 14 = .ok (.iand, 1) := by decide +kernel
theorem dJ6_bitCount_0f7a4_15 : decode cJ6_bitCount_0f7a4 15 = .ok (.iload_n 0, 1) := by decide +kernel
theorem dJ6_bitCount_0f7a4_16 : decode cJ6_bitCount_0f7a4 16 = .ok (.iconst 2, 1) := by decide +kernel
theorem dJ6_bitCount_0f7a4_17 : decode cJ6_bitCount_0f7a4 17 = .ok (.iushr, 1) := by decide +kernel
theorem dJ6_bitCount_0f7a4_18 : decode cJ6_bitCount_0f7a4 18 = .ok (.ldc_w 266, 3) := by decide +kernel
theorem dJ6_bitCount_0f7a4_21 : decode cJ6_bitCount_0f7a4 21 = .ok (.iand, 1) := by decide +kernel
theorem dJ6_bitCount_0f7a4_22 : decode cJ6_bitCount_0f7a4 22 = .ok (.iadd, 1) := by decide +kernel
theorem dJ6_bitCount_0f7a4_23 : decode cJ6_bitCount_0f7a4 23 = .ok (.istore_n 0, 1) := by decide +kernel
theorem dJ6_bitCount_0f7a4_24 : decode cJ6_bitCount_0f7a4 24 = .ok (.iload_n 0, 1) := by decide +kernel
theorem dJ6_bitCount_0f7a4_25 : decode cJ6_bitCount_0f7a4 25 = .ok (.iload_n 0, 1) := by decide +kernel
theorem dJ6_bitCount_0f7a4_26 : decode cJ6_bitCount_0f7a4 26 = .ok (.iconst 4, 1) := by decide +kernel
theorem dJ6_bitCount_0f7a4_27 : decode cJ6_bitCount_0f7a4 27 = .ok (.iushr, 1) := by decide +kernel
theorem dJ6_bitCount_0f7a4_28 : decode cJ6_bitCount_0f7a4 28 = .ok (.iadd, 1) := by decide +kernel
theorem dJ6_bitCount_0f7a4_29 : decode cJ6_bitCount_0f7a4 29 = .ok (.ldc_w 267, 3) := by decide +kernel
theorem dJ6_bitCount_0f7a4_32 : decode cJ6_bitCount_0f7a4 32 = .ok (.iand, 1) := by decide +kernel
theorem dJ6_bitCount_0f7a4_33 : decode cJ6_bitCount_0f7a4 33 = .ok (.istore_n 0, 1) := by decide +kernel
theorem dJ6_bitCount_0f7a4_34 : decode cJ6_bitCount_0f7a4 34 = .ok (.iload_n 0, 1) := by decide +kernel
theorem dJ6_bitCount_0f7a4_35 : decode cJ6_bitCount_0f7a4 35 = .ok (.iload_n 0, 1) := by decide +kernel
theorem dJ6_bitCount_0f7a4_36 : decode cJ6_bitCount_0f7a4 36 = .ok (.bipush 8, 2) := by decide +kernel
theorem dJ6_bitCount_0f7a4_38 : decode cJ6_bitCount_0f7a4 38 = .ok (.iushr, 1) := by decide +kernel
theorem dJ6_bitCount_0f7a4_39 : decode cJ6_bitCount_0f7a4 39 = .ok (.iadd, 1) := by decide +kernel
theorem dJ6_bitCount_0f7a4_40 : decode cJ6_bitCount_0f7a4 40 = .ok (.istore_n 0, 1) := by decide +kernel
theorem dJ6_bitCount_0f7a4_41 : decode cJ6_bitCount_0f7a4 41 = .ok (.iload_n 0, 1) := by decide +kernel
theorem dJ6_bitCount_0f7a4_42 : decode cJ6_bitCount_0f7a4 42 = .ok (.iload_n 0, 1) := by decide +kernel
theorem dJ6_bitCount_0f7a4_43 : decode cJ6_bitCount_0f7a4 43 = .ok (.bipush 16, 2) := by decide +kernel
theorem dJ6_bitCount_0f7a4_45 : decode cJ6_bitCount_0f7a4 45 = .ok (.iushr, 1) := by decide +kernel
theorem dJ6_bitCount_0f7a4_46 : decode cJ6_bitCount_0f7a4 46 = .ok (.iadd, 1) := by decide +kernel
theorem dJ6_bitCount_0f7a4_47 : decode cJ6_bitCount_0f7a4 47 = .ok (.istore_n 0, 1) := by decide +kernel
theorem dJ6_bitCount_0f7a4_48 : decode cJ6_bitCount_0f7a4 48 = .ok (.iload_n 0, 1) := by decide +kernel
theorem dJ6_bitCount_0f7a4_49 : decode cJ6_bitCount_0f7a4 49 = .ok (.bipush 63, 2) := by decide +kernel
theorem dJ6_bitCount_0f7a4_51 : decode cJ6_bitCount_0f7a4 51 = .ok (.iand, 1) := by decide +kernel
theorem dJ6_bitCount_0f7a4_52 : decode cJ6_bitCount_0f7a4 52 = .ok (.ireturn, 1) := by decide +kernel
theorem dJ9_max_7cf53_0 : decode cJ9_max_7cf53 0 = .ok (.iload_n 0, 1) := by decide +kernel
theorem dJ9_max_7cf53_1 : decode cJ9_max_7cf53 1 = .ok (.iload_n 1, 1) := by decide +kernel
theorem dJ9_max_7cf53_2 : decode cJ9_max_7cf53 2 = .ok (.if_icmp .lt 7, 3) := by decide +kernel
theorem dJ9_max_7cf53_5 : decode cJ9_max_7cf53 5 = .ok (.iload_n 0, 1) := by decide +kernel
theorem dJ9_max_7cf53_6 : decode cJ9_max_7cf53 6 = .ok (.goto 4, 3) := by decide +kernel
theorem dJ9_max_7cf53_9 : decode cJ9_max_7cf53 9 = .ok (.iload_n 1, 1) := by decide +kernel
theorem dJ9_max_7cf53_10 : decode cJ9_max_7cf53 10 = .ok (.ireturn, 1) := by decide +kernel
theorem dJ9_min_7cf53_0 : decode cJ9_min_7cf53 0 = .ok (.iload_n 0, 1) := by decide +kernel
theorem dJ9_min_7cf53_1 : decode cJ9_min_7cf53 1 = .ok (.iload_n 1, 1) := by decide +kernel
theorem dJ9_min_7cf53_2 : decode cJ9_min_7cf53 2 = .ok (.if_icmp .gt 7, 3) := by decide +kernel
theorem dJ9_min_7cf53_5 : decode cJ9_min_7cf53 5 = .ok (.iload_n 0, 1) := by decide +kernel
theorem dJ9_min_7cf53_6 : decode cJ9_min_7cf53 6 = .ok (.goto 4, 3) := by decide +kernel
theorem dJ9_min_7cf53_9 : decode cJ9_min_7cf53 9 = .ok (.iload_n 1, 1) := by decide +kernel
theorem dJ9_min_7cf53_10 : decode cJ9_min_7cf53 10 = .ok (.ireturn, 1) := by decide +kernel
theorem dJ7_fill_53178_0 : decode cJ7_fill_53178 0 = .ok (.iconst 0, 1) := by decide +kernel
theorem dJ7_fill_53178_1 : decode cJ7_fill_53178 1 = .ok (.istore_n 2, 1) := by decide +kernel
theorem dJ7_fill_53178_2 : decode cJ7_fill_53178 2 = .ok (.aload_n 0, 1) := by decide +kernel
theorem dJ7_fill_53178_3 : decode cJ7_fill_53178 3 = .ok (.arraylength, 1) := by decide +kernel
theorem dJ7_fill_53178_4 : decode cJ7_fill_53178 4 = .ok (.istore_n 3, 1) := by decide +kernel
theorem dJ7_fill_53178_5 : decode cJ7_fill_53178 5 = .ok (.iload_n 2, 1) := by decide +kernel
theorem dJ7_fill_53178_6 : decode cJ7_fill_53178 6 = .ok (.iload_n 3, 1) := by decide +kernel
theorem dJ7_fill_53178_7 : decode cJ7_fill_53178 7 = .ok (.if_icmp .ge 13, 3) := by decide +kernel
theorem dJ7_fill_53178_10 : decode cJ7_fill_53178 10 = .ok (.aload_n 0, 1) := by decide +kernel
theorem dJ7_fill_53178_11 : decode cJ7_fill_53178 11 = .ok (.iload_n 2, 1) := by decide +kernel
theorem dJ7_fill_53178_12 : decode cJ7_fill_53178 12 = .ok (.iload_n 1, 1) := by decide +kernel
theorem dJ7_fill_53178_13 : decode cJ7_fill_53178 13 = .ok (.iastore, 1) := by decide +kernel
theorem dJ7_fill_53178_14 : decode cJ7_fill_53178 14 = .ok (.iinc 2 1, 3) := by decide +kernel
theorem dJ7_fill_53178_17 : decode cJ7_fill_53178 17 = .ok (.goto (-12), 3) := by decide +kernel
theorem dJ7_fill_53178_20 : decode cJ7_fill_53178 20 = .ok (.return_, 1) := by decide +kernel
