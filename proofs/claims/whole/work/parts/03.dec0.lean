theorem dX0_init_0 : decode cX0_init 0 = .ok (.aload_n 0, 1) := by decide +kernel
theorem dX0_init_1 : decode cX0_init 1 = .ok (.invokespecial 1, 3) := by decide +kernel
theorem dX0_init_4 : decode cX0_init 4 = .ok (.return_, 1) := by decide +kernel
theorem dX0_worth_0 : decode cX0_worth 0 = .ok (.aload 4, 2) := by decide +kernel
theorem dX0_worth_2 : decode cX0_worth 2 = .ok (.iconst 0, 1) := by decide +kernel
theorem dX0_worth_3 : decode cX0_worth 3 = .ok (.dup2, 1) := by decide +kernel
theorem dX0_worth_4 : decode cX0_worth 4 = .ok (.laload, 1) := by decide +kernel
theorem dX0_worth_5 : decode cX0_worth 5 = .ok (.ldc2_w 7, 3) := by decide +kernel
theorem dX0_worth_8 : decode cX0_worth 8 = .ok (.ladd, 1) := by decide +kernel
theorem dX0_worth_9 : decode cX0_worth 9 = .ok (.lastore, 1) := by decide +kernel
theorem dX0_worth_10 : decode cX0_worth 10 = .ok (.aload_n 0, 1) := by decide +kernel
theorem dX0_worth_11 : decode cX0_worth 11 = .ok (.aload_n 1, 1) := by decide +kernel
theorem dX0_worth_12 : decode cX0_worth 12 = .ok (.aload_n 2, 1) := by decide +kernel
theorem dX0_worth_13 : decode cX0_worth 13 = .ok (.iload_n 3, 1) := by decide +kernel
theorem dX0_worth_14 : decode cX0_worth 14 = .ok (.aload 4, 2) := by decide +kernel
theorem dX0_worth_16 : decode cX0_worth 16 = .ok (.invokespecial 9, 3) := by decide +kernel
theorem dX0_worth_19 : decode cX0_worth 19 = .ok (.aload_n 2, 1) := by decide +kernel
theorem dX0_worth_20 : decode cX0_worth 20 = .ok (.getfield 13, 3) := by decide +kernel
theorem dX0_worth_23 : decode cX0_worth 23 = .ok (.iload_n 3, 1) := by decide +kernel
theorem dX0_worth_24 : decode cX0_worth 24 = .ok (.iaload, 1) := by decide +kernel
theorem dX0_worth_25 : decode cX0_worth 25 = .ok (.iadd, 1) := by decide +kernel
theorem dX0_worth_26 : decode cX0_worth 26 = .ok (.ireturn, 1) := by decide +kernel
theorem dX1_init_0 : decode cX1_init 0 = .ok (.aload_n 0, 1) := by decide +kernel
theorem dX1_init_1 : decode cX1_init 1 = .ok (.invokespecial 1, 3) := by decide +kernel
theorem dX1_init_4 : decode cX1_init 4 = .ok (.return_, 1) := by decide +kernel
theorem dX1_worth_0 : decode cX1_worth 0 = .ok (.aload 4, 2) := by decide +kernel
theorem dX1_worth_2 : decode cX1_worth 2 = .ok (.iconst 0, 1) := by decide +kernel
theorem dX1_worth_3 : decode cX1_worth 3 = .ok (.dup2, 1) := by decide +kernel
theorem dX1_worth_4 : decode cX1_worth 4 = .ok (.laload, 1) := by decide +kernel
theorem dX1_worth_5 : decode cX1_worth 5 = .ok (.ldc2_w 7, 3) := by decide +kernel
theorem dX1_worth_8 : decode cX1_worth 8 = .ok (.ladd, 1) := by decide +kernel
theorem dX1_worth_9 : decode cX1_worth 9 = .ok (.lastore, 1) := by decide +kernel
theorem dX1_worth_10 : decode cX1_worth 10 = .ok (.aload_n 0, 1) := by decide +kernel
theorem dX1_worth_11 : decode cX1_worth 11 = .ok (.aload_n 1, 1) := by decide +kernel
theorem dX1_worth_12 : decode cX1_worth 12 = .ok (.aload_n 2, 1) := by decide +kernel
theorem dX1_worth_13 : decode cX1_worth 13 = .ok (.iload_n 3, 1) := by decide +kernel
theorem dX1_worth_14 : decode cX1_worth 14 = .ok (.aload 4, 2) := by decide +kernel
theorem dX1_worth_16 : decode cX1_worth 16 = .ok (.invokespecial 9, 3) := by decide +kernel
theorem dX1_worth_19 : decode cX1_worth 19 = .ok (.aload_n 1, 1) := by decide +kernel
theorem dX1_worth_20 : decode cX1_worth 20 = .ok (.getfield 13, 3) := by decide +kernel
theorem dX1_worth_23 : decode cX1_worth 23 = .ok (.iload_n 3, 1) := by decide +kernel
theorem dX1_worth_24 : decode cX1_worth 24 = .ok (.iaload, 1) := by decide +kernel
theorem dX1_worth_25 : decode cX1_worth 25 = .ok (.isub, 1) := by decide +kernel
theorem dX1_worth_26 : decode cX1_worth 26 = .ok (.ireturn, 1) := by decide +kernel
theorem dX2_init_0 : decode cX2_init 0 = .ok (.aload_n 0, 1) := by decide +kernel
theorem dX2_init_1 : decode cX2_init 1 = .ok (.invokespecial 3, 3) := by decide +kernel
theorem dX2_init_4 : decode cX2_init 4 = .ok (.aload_n 0, 1) := by decide +kernel
theorem dX2_init_5 : decode cX2_init 5 = .ok (.bipush 6, 2) := by decide +kernel
theorem dX2_init_7 : decode cX2_init 7 = .ok (.newarray .int, 2) := by decide +kernel
theorem dX2_init_9 : decode cX2_init 9 = .ok (.putfield 9, 3) := by decide +kernel
theorem dX2_init_12 : decode cX2_init 12 = .ok (.aload_n 0, 1) := by decide +kernel
theorem dX2_init_13 : decode cX2_init 13 = .ok (.bipush 6, 2) := by decide +kernel
theorem dX2_init_15 : decode cX2_init 15 = .ok (.newarray .int, 2) := by decide +kernel
theorem dX2_init_17 : decode cX2_init 17 = .ok (.putfield 15, 3) := by decide +kernel
theorem dX2_init_20 : decode cX2_init 20 = .ok (.aload_n 0, 1) := by decide +kernel
theorem dX2_init_21 : decode cX2_init 21 = .ok (.bipush 6, 2) := by decide +kernel
theorem dX2_init_23 : decode cX2_init 23 = .ok (.newarray .int, 2) := by decide +kernel
theorem dX2_init_25 : decode cX2_init 25 = .ok (.putfield 18, 3) := by decide +kernel
theorem dX2_init_28 : decode cX2_init 28 = .ok (.aload_n 0, 1) := by decide +kernel
theorem dX2_init_29 : decode cX2_init 29 = .ok (.iconst 4, 1) := by decide +kernel
theorem dX2_init_30 : decode cX2_init 30 = .ok (.newarray .int, 2) := by decide +kernel
theorem dX2_init_32 : decode cX2_init 32 = .ok (.putfield 21, 3) := by decide +kernel
theorem dX2_init_35 : decode cX2_init 35 = .ok (.aload_n 0, 1) := by decide +kernel
theorem dX2_init_36 : decode cX2_init 36 = .ok (.iconst 4, 1) := by decide +kernel
theorem dX2_init_37 : decode cX2_init 37 = .ok (.newarray .int, 2) := by decide +kernel
theorem dX2_init_39 : decode cX2_init 39 = .ok (.putfield 24, 3) := by decide +kernel
theorem dX2_init_42 : decode cX2_init 42 = .ok (.aload_n 0, 1) := by decide +kernel
theorem dX2_init_43 : decode cX2_init 43 = .ok (.bipush 60, 2) := by decide +kernel
theorem dX2_init_45 : decode cX2_init 45 = .ok (.putfield 27, 3) := by decide +kernel
theorem dX2_init_48 : decode cX2_init 48 = .ok (.aload_n 0, 1) := by decide +kernel
theorem dX2_init_49 : decode cX2_init 49 = .ok (.bipush 64, 2) := by decide +kernel
theorem dX2_init_51 : decode cX2_init 51 = .ok (.newarray .int, 2) := by decide +kernel
theorem dX2_init_53 : decode cX2_init 53 = .ok (.putfield 31, 3) := by decide +kernel
theorem dX2_init_56 : decode cX2_init 56 = .ok (.aload_n 0, 1) := by decide +kernel
theorem dX2_init_57 : decode cX2_init 57 = .ok (.sipush 200, 3) := by decide +kernel
theorem dX2_init_60 : decode cX2_init 60 = .ok (.newarray .int, 2) := by decide +kernel
theorem dX2_init_62 : decode cX2_init 62 = .ok (.putfield 34, 3) := by decide +kernel
theorem dX2_init_65 : decode cX2_init 65 = .ok (.return_, 1) := by decide +kernel
theorem dX2_empty_0 : decode cX2_empty 0 = .ok (.aload_n 0, 1) := by decide +kernel
theorem dX2_empty_1 : decode cX2_empty 1 = .ok (.iconst 0, 1) := by decide +kernel
theorem dX2_empty_2 : decode cX2_empty 2 = .ok (.putfield 37, 3) := by decide +kernel
theorem dX2_empty_5 : decode cX2_empty 5 = .ok (.aload_n 0, 1) := by decide +kernel
theorem dX2_empty_6 : decode cX2_empty 6 = .ok (.iconst 0, 1) := by decide +kernel
theorem dX2_empty_7 : decode cX2_empty 7 = .ok (.putfield 40, 3) := by decide +kernel
theorem dX2_empty_10 : decode cX2_empty 10 = .ok (.aload_n 0, 1) := by decide +kernel
theorem dX2_empty_11 : decode cX2_empty 11 = .ok (.bipush 60, 2) := by decide +kernel
theorem dX2_empty_13 : decode cX2_empty 13 = .ok (.putfield 27, 3) := by decide +kernel
theorem dX2_empty_16 : decode cX2_empty 16 = .ok (.aload_n 0, 1) := by decide +kernel
theorem dX2_empty_17 : decode cX2_empty 17 = .ok (.iconst 0, 1) := by decide +kernel
theorem dX2_empty_18 : decode cX2_empty 18 = .ok (.putfield 43, 3) := by decide +kernel
theorem dX2_empty_21 : decode cX2_empty 21 = .ok (.return_, 1) := by decide +kernel
theorem dX2_addPassenger_0 : decode cX2_addPassenger 0 = .ok (.aload_n 0, 1) := by decide +kernel
theorem dX2_addPassenger_1 : decode cX2_addPassenger 1 = .ok (.getfield 37, 3) := by decide +kernel
theorem dX2_addPassenger_4 : decode cX2_addPassenger 4 = .ok (.bipush 6, 2) := by decide +kernel
theorem dX2_addPassenger_6 : decode cX2_addPassenger 6 = .ok (.if_icmp .ge 43, 3) := by decide +kernel
theorem dX2_addPassenger_9 : decode cX2_addPassenger 9 = .ok (.aload_n 0, 1) := by decide +kernel
theorem dX2_addPassenger_10 : decode cX2_addPassenger 10 = .ok (.getfield 9, 3) := by decide +kernel
theorem dX2_addPassenger_13 : decode cX2_addPassenger 13 = .ok (.aload_n 0, 1) := by decide +kernel
theorem dX2_addPassenger_14 : decode cX2_addPassenger 14 = .ok (.getfield 37, 3) := by decide +kernel
theorem dX2_addPassenger_17 : decode cX2_addPassenger 17 = .ok (.iload_n 1, 1) := by decide +kernel
theorem dX2_addPassenger_18 : decode cX2_addPassenger 18 = .ok (.iastore, 1) := by decide +kernel
theorem dX2_addPassenger_19 : decode cX2_addPassenger 19 = .ok (.aload_n 0, 1) := by decide +kernel
theorem dX2_addPassenger_20 : decode cX2_addPassenger 20 = .ok (.getfield 15, 3) := by decide +kernel
theorem dX2_addPassenger_23 : decode cX2_addPassenger 23 = .ok (.aload_n 0, 1) := by decide +kernel
theorem dX2_addPassenger_24 : decode cX2_addPassenger 24 = .ok (.getfield 37, 3) := by decide +kernel
theorem dX2_addPassenger_27 : decode cX2_addPassenger 27 = .ok (.iload_n 2, 1) := by decide +kernel
theorem dX2_addPassenger_28 : decode cX2_addPassenger 28 = .ok (.iastore, 1) := by decide +kernel
theorem dX2_addPassenger_29 : decode cX2_addPassenger 29 = .ok (.aload_n 0, 1) := by decide +kernel
theorem dX2_addPassenger_30 : decode cX2_addPassenger 30 = .ok (.getfield 18, 3) := by decide +kernel
theorem dX2_addPassenger_33 : decode cX2_addPassenger 33 = .ok (.aload_n 0, 1) := by decide +kernel
theorem dX2_addPassenger_34 : decode cX2_addPassenger 34 = .ok (.getfield 37, 3) := by decide +kernel
theorem dX2_addPassenger_37 : decode cX2_addPassenger 37 = .ok (.iload_n 3, 1) := by decide +kernel
theorem dX2_addPassenger_38 : decode cX2_addPassenger 38 = .ok (.iastore, 1) := by decide +kernel
theorem dX2_addPassenger_39 : decode cX2_addPassenger 39 = .ok (.aload_n 0, 1) := by decide +kernel
theorem dX2_addPassenger_40 : decode cX2_addPassenger 40 = .ok (.dup, 1) := by decide +kernel
theorem dX2_addPassenger_41 : decode cX2_addPassenger 41 = .ok (.getfield 37, 3) := by decide +kernel
theorem dX2_addPassenger_44 : decode cX2_addPassenger 44 = .ok (.iconst 1, 1) := by decide +kernel
theorem dX2_addPassenger_45 : decode cX2_addPassenger 45 = .ok (.iadd, 1) := by decide +kernel
theorem dX2_addPassenger_46 : decode cX2_addPassenger 46 = .ok (.putfield 37, 3) := by decide +kernel
theorem dX2_addPassenger_49 : decode cX2_addPassenger 49 = .ok (.return_, 1) := by decide +kernel
theorem dX2_addCurrent_0 : decode cX2_addCurrent 0 = .ok (.aload_n 0, 1) := by decide +kernel
theorem dX2_addCurrent_1 : decode cX2_addCurrent 1 = .ok (.getfield 40, 3) := by decide +kernel
theorem dX2_addCurrent_4 : decode cX2_addCurrent 4 = .ok (.iconst 4, 1) := by decide +kernel
theorem dX2_addCurrent_5 : decode cX2_addCurrent 5 = .ok (.if_icmp .ge 33, 3) := by decide +kernel
theorem dX2_addCurrent_8 : decode cX2_addCurrent 8 = .ok (.aload_n 0, 1) := by decide +kernel
theorem dX2_addCurrent_9 : decode cX2_addCurrent 9 = .ok (.getfield 21, 3) := by decide +kernel
theorem dX2_addCurrent_12 : decode cX2_addCurrent 12 = .ok (.aload_n 0, 1) := by decide +kernel
theorem dX2_addCurrent_13 : decode cX2_addCurrent 13 = .ok (.getfield 40, 3) := by decide +kernel
theorem dX2_addCurrent_16 : decode cX2_addCurrent 16 = .ok (.iload_n 1, 1) := by decide +kernel
theorem dX2_addCurrent_17 : decode cX2_addCurrent 17 = .ok (.iastore, 1) := by decide +kernel
theorem dX2_addCurrent_18 : decode cX2_addCurrent 18 = .ok (.aload_n 0, 1) := by decide +kernel
theorem dX2_addCurrent_19 : decode cX2_addCurrent 19 = .ok (.getfield 24, 3) := by decide +kernel
theorem dX2_addCurrent_22 : decode cX2_addCurrent 22 = .ok (.aload_n 0, 1) := by decide +kernel
theorem dX2_addCurrent_23 : decode cX2_addCurrent 23 = .ok (.getfield 40, 3) := by decide +kernel
theorem dX2_addCurrent_26 : decode cX2_addCurrent 26 = .ok (.iload_n 2, 1) := by decide +kernel
theorem dX2_addCurrent_27 : decode cX2_addCurrent 27 = .ok (.iastore, 1) := by decide +kernel
theorem dX2_addCurrent_28 : decode cX2_addCurrent 28 = .ok (.aload_n 0, 1) := by decide +kernel
theorem dX2_addCurrent_29 : decode cX2_addCurrent 29 = .ok (.dup, 1) := by decide +kernel
theorem dX2_addCurrent_30 : decode cX2_addCurrent 30 = .ok (.getfield 40, 3) := by decide +kernel
theorem dX2_addCurrent_33 : decode cX2_addCurrent 33 = .ok (.iconst 1, 1) := by decide +kernel
theorem dX2_addCurrent_34 : decode cX2_addCurrent 34 = .ok (.iadd, 1) := by decide +kernel
theorem dX2_addCurrent_35 : decode cX2_addCurrent 35 = .ok (.putfield 40, 3) := by decide +kernel
theorem dX2_addCurrent_38 : decode cX2_addCurrent 38 = .ok (.return_, 1) := by decide +kernel
theorem dX2_hasCurrentFrom_0 : decode cX2_hasCurrentFrom 0 = .ok (.iconst 0, 1) := by decide +kernel
theorem dX2_hasCurrentFrom_1 : decode cX2_hasCurrentFrom 1 = .ok (.istore_n 2, 1) := by decide +kernel
theorem dX2_hasCurrentFrom_2 : decode cX2_hasCurrentFrom 2 = .ok (.iload_n 2, 1) := by decide +kernel
theorem dX2_hasCurrentFrom_3 : decode cX2_hasCurrentFrom 3 = .ok (.aload_n 0, 1) := by decide +kernel
theorem dX2_hasCurrentFrom_4 : decode cX2_hasCurrentFrom 4 = .ok (.getfield 40, 3) := by decide +kernel
theorem dX2_hasCurrentFrom_7 : decode cX2_hasCurrentFrom 7 = .ok (.if_icmp .ge 26, 3) := by decide +kernel
theorem dX2_hasCurrentFrom_10 : decode cX2_hasCurrentFrom 10 = .ok (.iload_n 2, 1) := by decide +kernel
theorem dX2_hasCurrentFrom_11 : decode cX2_hasCurrentFrom 11 = .ok (.iconst 4, 1) := by decide +kernel
theorem dX2_hasCurrentFrom_12 : decode cX2_hasCurrentFrom 12 = .ok (.if_icmp .ge 21, 3) := by decide +kernel
theorem dX2_hasCurrentFrom_15 : decode cX2_hasCurrentFrom 15 = .ok (.aload_n 0, 1) := by decide +kernel
theorem dX2_hasCurrentFrom_16 : decode cX2_hasCurrentFrom 16 = .ok (.getfield 21, 3) := by decide +kernel
theorem dX2_hasCurrentFrom_19 : decode cX2_hasCurrentFrom 19 = .ok (.iload_n 2, 1) := by decide +kernel
theorem dX2_hasCurrentFrom_20 : decode cX2_hasCurrentFrom 20 = .ok (.iaload, 1) := by decide +kernel
theorem dX2_hasCurrentFrom_21 : decode cX2_hasCurrentFrom 21 = .ok (.iload_n 1, 1) := by decide +kernel
theorem dX2_hasCurrentFrom_22 : decode cX2_hasCurrentFrom 22 = .ok (.if_icmp .ne 5, 3) := by decide +kernel
theorem dX2_hasCurrentFrom_25 : decode cX2_hasCurrentFrom 25 = .ok (.iconst 1, 1) := by decide +kernel
theorem dX2_hasCurrentFrom_26 : decode cX2_hasCurrentFrom 26 = .ok (.ireturn, 1) := by decide +kernel
theorem dX2_hasCurrentFrom_27 : decode cX2_hasCurrentFrom 27 = .ok (.iinc 2 1, 3) := by decide +kernel
theorem dX2_hasCurrentFrom_30 : decode cX2_hasCurrentFrom 30 = .ok (.goto (-28), 3) := by decide +kernel
theorem dX2_hasCurrentFrom_33 : decode cX2_hasCurrentFrom 33 = .ok (.iconst 0, 1) := by decide +kernel
theorem dX2_hasCurrentFrom_34 : decode cX2_hasCurrentFrom 34 = .ok (.ireturn, 1) := by decide +kernel
theorem dX2_settle_0 : decode cX2_settle 0 = .ok (.iconst 0, 1) := by decide +kernel
theorem dX2_settle_1 : decode cX2_settle 1 = .ok (.istore_n 1, 1) := by decide +kernel
theorem dX2_settle_2 : decode cX2_settle 2 = .ok (.iload_n 1, 1) := by decide +kernel
theorem dX2_settle_3 : decode cX2_settle 3 = .ok (.aload_n 0, 1) := by decide +kernel
theorem dX2_settle_4 : decode cX2_settle 4 = .ok (.getfield 31, 3) := by decide +kernel
theorem dX2_settle_7 : decode cX2_settle 7 = .ok (.arraylength, 1) := by decide +kernel
theorem dX2_settle_8 : decode cX2_settle 8 = .ok (.if_icmp .ge 20, 3) := by decide +kernel
theorem dX2_settle_11 : decode cX2_settle 11 = .ok (.aload_n 0, 1) := by decide +kernel
theorem dX2_settle_12 : decode cX2_settle 12 = .ok (.getfield 31, 3) := by decide +kernel
theorem dX2_settle_15 : decode cX2_settle 15 = .ok (.iload_n 1, 1) := by decide +kernel
theorem dX2_settle_16 : decode cX2_settle 16 = .ok (.aload_n 0, 1) := by decide +kernel
theorem dX2_settle_17 : decode cX2_settle 17 = .ok (.iload_n 1, 1) := by decide +kernel
theorem dX2_settle_18 : decode cX2_settle 18 = .ok (.invokevirtual 47, 3) := by decide +kernel
theorem dX2_settle_21 : decode cX2_settle 21 = .ok (.iastore, 1) := by decide +kernel
theorem dX2_settle_22 : decode cX2_settle 22 = .ok (.iinc 1 1, 3) := by decide +kernel
theorem dX2_settle_25 : decode cX2_settle 25 = .ok (.goto (-23), 3) := by decide +kernel
theorem dX2_settle_28 : decode cX2_settle 28 = .ok (.iconst 0, 1) := by decide +kernel
theorem dX2_settle_29 : decode cX2_settle 29 = .ok (.istore_n 1, 1) := by decide +kernel
theorem dX2_settle_30 : decode cX2_settle 30 = .ok (.iload_n 1, 1) := by decide +kernel
theorem dX2_settle_31 : decode cX2_settle 31 = .ok (.aload_n 0, 1) := by decide +kernel
theorem dX2_settle_32 : decode cX2_settle 32 = .ok (.getfield 34, 3) := by decide +kernel
theorem dX2_settle_35 : decode cX2_settle 35 = .ok (.arraylength, 1) := by decide +kernel
theorem dX2_settle_36 : decode cX2_settle 36 = .ok (.if_icmp .ge 20, 3) := by decide +kernel
theorem dX2_settle_39 : decode cX2_settle 39 = .ok (.aload_n 0, 1) := by decide +kernel
theorem dX2_settle_40 : decode cX2_settle 40 = .ok (.getfield 34, 3) := by decide +kernel
theorem dX2_settle_43 : decode cX2_settle 43 = .ok (.iload_n 1, 1) := by decide +kernel
theorem dX2_settle_44 : decode cX2_settle 44 = .ok (.aload_n 0, 1) := by decide +kernel
theorem dX2_settle_45 : decode cX2_settle 45 = .ok (.iload_n 1, 1) := by decide +kernel
theorem dX2_settle_46 : decode cX2_settle 46 = .ok (.invokevirtual 51, 3) := by decide +kernel
theorem dX2_settle_49 : decode cX2_settle 49 = .ok (.iastore, 1) := by decide +kernel
theorem dX2_settle_50 : decode cX2_settle 50 = .ok (.iinc 1 1, 3) := by decide +kernel
theorem dX2_settle_53 : decode cX2_settle 53 = .ok (.goto (-23), 3) := by decide +kernel
theorem dX2_settle_56 : decode cX2_settle 56 = .ok (.return_, 1) := by decide +kernel
theorem dX2_findPull_0 : decode cX2_findPull 0 = .ok (.iconst (-1), 1) := by decide +kernel
theorem dX2_findPull_1 : decode cX2_findPull 1 = .ok (.istore_n 2, 1) := by decide +kernel
theorem dX2_findPull_2 : decode cX2_findPull 2 = .ok (.iconst 0, 1) := by decide +kernel
theorem dX2_findPull_3 : decode cX2_findPull 3 = .ok (.istore_n 3, 1) := by decide +kernel
theorem dX2_findPull_4 : decode cX2_findPull 4 = .ok (.iconst 0, 1) := by decide +kernel
theorem dX2_findPull_5 : decode cX2_findPull 5 = .ok (.istore 4, 2) := by decide +kernel
theorem dX2_findPull_7 : decode cX2_findPull 7 = .ok (.iload 4, 2) := by decide +kernel
theorem dX2_findPull_9 : decode cX2_findPull 9 = .ok (.aload_n 0, 1) := by decide +kernel
theorem dX2_findPull_10 : decode cX2_findPull 10 = .ok (.getfield 37, 3) := by decide +kernel
theorem dX2_findPull_13 : decode cX2_findPull 13 = .ok (.if_icmp .ge 80, 3) := by decide +kernel
theorem dX2_findPull_16 : decode cX2_findPull 16 = .ok (.iload 4, 2) := by decide +kernel
theorem dX2_findPull_18 : decode cX2_findPull 18 = .ok (.bipush 6, 2) := by decide +kernel
theorem dX2_findPull_20 : decode cX2_findPull 20 = .ok (.if_icmp .ge 73, 3) := by decide +kernel
theorem dX2_findPull_23 : decode cX2_findPull 23 = .ok (.iload_n 1, 1) := by decide +kernel
theorem dX2_findPull_24 : decode cX2_findPull 24 = .ok (.iload 4, 2) := by decide +kernel
theorem dX2_findPull_26 : decode cX2_findPull 26 = .ok (.ishr, 1) := by decide +kernel
theorem dX2_findPull_27 : decode cX2_findPull 27 = .ok (.iconst 1, 1) := by decide +kernel
theorem dX2_findPull_28 : decode cX2_findPull 28 = .ok (.iand, 1) := by decide +kernel
theorem dX2_findPull_29 : decode cX2_findPull 29 = .ok (.ifCond .ne 6, 3) := by decide +kernel
theorem dX2_findPull_32 : decode cX2_findPull 32 = .ok (.goto 55, 3) := by decide +kernel
theorem dX2_findPull_35 : decode cX2_findPull 35 = .ok (.iload_n 2, 1) := by decide +kernel
theorem dX2_findPull_36 : decode cX2_findPull 36 = .ok (.ifCond .lt 18, 3) := by decide +kernel
theorem dX2_findPull_39 : decode cX2_findPull 39 = .ok (.iload_n 2, 1) := by decide +kernel
theorem dX2_findPull_40 : decode cX2_findPull 40 = .ok (.aload_n 0, 1) := by decide +kernel
theorem dX2_findPull_41 : decode cX2_findPull 41 = .ok (.getfield 18, 3) := by decide +kernel
theorem dX2_findPull_44 : decode cX2_findPull 44 = .ok (.iload 4, 2) := by decide +kernel
theorem dX2_findPull_46 : decode cX2_findPull 46 = .ok (.iaload, 1) := by decide +kernel
theorem dX2_findPull_47 : decode cX2_findPull 47 = .ok (.if_icmp .ne 11, 3) := by decide +kernel
theorem dX2_findPull_50 : decode cX2_findPull 50 = .ok (.iload_n 2, 1) := by decide +kernel
theorem dX2_findPull_51 : decode cX2_findPull 51 = .ok (.ifCond .eq 7, 3) := by decide +kernel
theorem dX2_findPull_54 : decode cX2_findPull 54 = .ok (.iconst 1, 1) := by decide +kernel
theorem dX2_findPull_55 : decode cX2_findPull 55 = .ok (.goto 4, 3) := by decide +kernel
theorem dX2_findPull_58 : decode cX2_findPull 58 = .ok (.iconst 0, 1) := by decide +kernel
theorem dX2_findPull_59 : decode cX2_findPull 59 = .ok (.istore 5, 2) := by decide +kernel
theorem dX2_findPull_61 : decode cX2_findPull 61 = .ok (.iload 5, 2) := by decide +kernel
theorem dX2_findPull_63 : decode cX2_findPull 63 = .ok (.ifCond .ne 6, 3) := by decide +kernel
theorem dX2_findPull_66 : decode cX2_findPull 66 = .ok (.bipush (-9), 2) := by decide +kernel
theorem dX2_findPull_68 : decode cX2_findPull 68 = .ok (.ireturn, 1) := by decide +kernel
theorem dX2_findPull_69 : decode cX2_findPull 69 = .ok (.aload_n 0, 1) := by decide +kernel
theorem dX2_findPull_70 : decode cX2_findPull 70 = .ok (.getfield 18, 3) := by decide +kernel
theorem dX2_findPull_73 : decode cX2_findPull 73 = .ok (.iload 4, 2) := by decide +kernel
theorem dX2_findPull_75 : decode cX2_findPull 75 = .ok (.iaload, 1) := by decide +kernel
theorem dX2_findPull_76 : decode cX2_findPull 76 = .ok (.istore_n 2, 1) := by decide +kernel
theorem dX2_findPull_77 : decode cX2_findPull 77 = .ok (.iload_n 3, 1) := by decide +kernel
theorem dX2_findPull_78 : decode cX2_findPull 78 = .ok (.aload_n 0, 1) := by decide +kernel
theorem dX2_findPull_79 : decode cX2_findPull 79 = .ok (.getfield 9, 3) := by decide +kernel
theorem dX2_findPull_82 : decode cX2_findPull 82 = .ok (.iload 4, 2) := by decide +kernel
theorem dX2_findPull_84 : decode cX2_findPull 84 = .ok (.iaload, 1) := by decide +kernel
theorem dX2_findPull_85 : decode cX2_findPull 85 = .ok (.iadd, 1) := by decide +kernel
theorem dX2_findPull_86 : decode cX2_findPull 86 = .ok (.istore_n 3, 1) := by decide +kernel
theorem dX2_findPull_87 : decode cX2_findPull 87 = .ok (.iinc 4 1, 3) := by decide +kernel
theorem dX2_findPull_90 : decode cX2_findPull 90 = .ok (.goto (-83), 3) := by decide +kernel
theorem dX2_findPull_93 : decode cX2_findPull 93 = .ok (.iload_n 3, 1) := by decide +kernel
theorem dX2_findPull_94 : decode cX2_findPull 94 = .ok (.ireturn, 1) := by decide +kernel
theorem dX2_findFlow_0 : decode cX2_findFlow 0 = .ok (.iconst 0, 1) := by decide +kernel
theorem dX2_findFlow_1 : decode cX2_findFlow 1 = .ok (.istore_n 2, 1) := by decide +kernel
theorem dX2_findFlow_2 : decode cX2_findFlow 2 = .ok (.iconst (-1), 1) := by decide +kernel
theorem dX2_findFlow_3 : decode cX2_findFlow 3 = .ok (.istore_n 3, 1) := by decide +kernel
theorem dX2_findFlow_4 : decode cX2_findFlow 4 = .ok (.iconst 0, 1) := by decide +kernel
theorem dX2_findFlow_5 : decode cX2_findFlow 5 = .ok (.istore 4, 2) := by decide +kernel
theorem dX2_findFlow_7 : decode cX2_findFlow 7 = .ok (.iload 4, 2) := by decide +kernel
theorem dX2_findFlow_9 : decode cX2_findFlow 9 = .ok (.aload_n 0, 1) := by decide +kernel
theorem dX2_findFlow_10 : decode cX2_findFlow 10 = .ok (.getfield 40, 3) := by decide +kernel
theorem dX2_findFlow_13 : decode cX2_findFlow 13 = .ok (.if_icmp .ge 53, 3) := by decide +kernel
theorem dX2_findFlow_16 : decode cX2_findFlow 16 = .ok (.iload 4, 2) := by decide +kernel
theorem dX2_findFlow_18 : decode cX2_findFlow 18 = .ok (.iconst 4, 1) := by decide +kernel
theorem dX2_findFlow_19 : decode cX2_findFlow 19 = .ok (.if_icmp .ge 47, 3) := by decide +kernel
theorem dX2_findFlow_22 : decode cX2_findFlow 22 = .ok (.aload_n 0, 1) := by decide +kernel
theorem dX2_findFlow_23 : decode cX2_findFlow 23 = .ok (.getfield 21, 3) := by decide +kernel
theorem dX2_findFlow_26 : decode cX2_findFlow 26 = .ok (.iload 4, 2) := by decide +kernel
theorem dX2_findFlow_28 : decode cX2_findFlow 28 = .ok (.iaload, 1) := by decide +kernel
theorem dX2_findFlow_29 : decode cX2_findFlow 29 = .ok (.iload_n 1, 1) := by decide +kernel
theorem dX2_findFlow_30 : decode cX2_findFlow 30 = .ok (.if_icmp .gt 30, 3) := by decide +kernel
theorem dX2_findFlow_33 : decode cX2_findFlow 33 = .ok (.aload_n 0, 1) := by decide +kernel
theorem dX2_findFlow_34 : decode cX2_findFlow 34 = .ok (.getfield 21, 3) := by decide +kernel
theorem dX2_findFlow_37 : decode cX2_findFlow 37 = .ok (.iload 4, 2) := by decide +kernel
theorem dX2_findFlow_39 : decode cX2_findFlow 39 = .ok (.iaload, 1) := by decide +kernel
theorem dX2_findFlow_40 : decode cX2_findFlow 40 = .ok (.iload_n 3, 1) := by decide +kernel
theorem dX2_findFlow_41 : decode cX2_findFlow 41 = .ok (.if_icmp .le 19, 3) := by decide +kernel
theorem dX2_findFlow_44 : decode cX2_findFlow 44 = .ok (.aload_n 0, 1) := by decide +kernel
theorem dX2_findFlow_45 : decode cX2_findFlow 45 = .ok (.getfield 21, 3) := by decide +kernel
theorem dX2_findFlow_48 : decode cX2_findFlow 48 = .ok (.iload 4, 2) := by decide +kernel
theorem dX2_findFlow_50 : decode cX2_findFlow 50 = .ok (.iaload, 1) := by decide +kernel
theorem dX2_findFlow_51 : decode cX2_findFlow 51 = .ok (.istore_n 3, 1) := by decide +kernel
theorem dX2_findFlow_52 : decode cX2_findFlow 52 = .ok (.aload_n 0, 1) := by decide +kernel
theorem dX2_findFlow_53 : decode cX2_findFlow 53 = .ok (.getfield 24, 3) := by decide +kernel
theorem dX2_findFlow_56 : decode cX2_findFlow 56 = .ok (.iload 4, 2) := by decide +kernel
theorem dX2_findFlow_58 : decode cX2_findFlow 58 = .ok (.iaload, 1) := by decide +kernel
theorem dX2_findFlow_59 : decode cX2_findFlow 59 = .ok (.istore_n 2, 1) := by decide +kernel
theorem dX2_findFlow_60 : decode cX2_findFlow 60 = .ok (.iinc 4 1, 3) := by decide +kernel
theorem dX2_findFlow_63 : decode cX2_findFlow 63 = .ok (.goto (-56), 3) := by decide +kernel
theorem dX2_findFlow_66 : decode cX2_findFlow 66 = .ok (.iload_n 2, 1) := by decide +kernel
theorem dX2_findFlow_67 : decode cX2_findFlow 67 = .ok (.ireturn, 1) := by decide +kernel
theorem dX2_has_0 : decode cX2_has 0 = .ok (.iload_n 1, 1) := by decide +kernel
theorem dX2_has_1 : decode cX2_has 1 = .ok (.ifCond .lt 21, 3) := by decide +kernel
theorem dX2_has_4 : decode cX2_has 4 = .ok (.iload_n 1, 1) := by decide +kernel
theorem dX2_has_5 : decode cX2_has 5 = .ok (.aload_n 0, 1) := by decide +kernel
theorem dX2_has_6 : decode cX2_has 6 = .ok (.getfield 37, 3) := by decide +kernel
theorem dX2_has_9 : decode cX2_has 9 = .ok (.if_icmp .ge 13, 3) := by decide +kernel
theorem dX2_has_12 : decode cX2_has 12 = .ok (.iload_n 1, 1) := by decide +kernel
theorem dX2_has_13 : decode cX2_has 13 = .ok (.bipush 6, 2) := by decide +kernel
theorem dX2_has_15 : decode cX2_has 15 = .ok (.if_icmp .ge 7, 3) := by decide +kernel
theorem dX2_has_18 : decode cX2_has 18 = .ok (.iconst 1, 1) := by decide +kernel
theorem dX2_has_19 : decode cX2_has 19 = .ok (.goto 4, 3) := by decide +kernel
theorem dX2_has_22 : decode cX2_has 22 = .ok (.iconst 0, 1) := by decide +kernel
theorem dX2_has_23 : decode cX2_has 23 = .ok (.ireturn, 1) := by decide +kernel
theorem dX2_everybody_0 : decode cX2_everybody 0 = .ok (.iconst 1, 1) := by decide +kernel
theorem dX2_everybody_1 : decode cX2_everybody 1 = .ok (.aload_n 0, 1) := by decide +kernel
theorem dX2_everybody_2 : decode cX2_everybody 2 = .ok (.getfield 37, 3) := by decide +kernel
theorem dX2_everybody_5 : decode cX2_everybody 5 = .ok (.ishl, 1) := by decide +kernel
theorem dX2_everybody_6 : decode cX2_everybody 6 = .ok (.iconst 1, 1) := by decide +kernel
theorem dX2_everybody_7 : decode cX2_everybody 7 = .ok (.isub, 1) := by decide +kernel
theorem dX2_everybody_8 : decode cX2_everybody 8 = .ok (.ireturn, 1) := by decide +kernel
theorem dX2_singersOf_0 : decode cX2_singersOf 0 = .ok (.iconst 0, 1) := by decide +kernel
theorem dX2_singersOf_1 : decode cX2_singersOf 1 = .ok (.istore_n 2, 1) := by decide +kernel
theorem dX2_singersOf_2 : decode cX2_singersOf 2 = .ok (.iconst 0, 1) := by decide +kernel
theorem dX2_singersOf_3 : decode cX2_singersOf 3 = .ok (.istore_n 3, 1) := by decide +kernel
theorem dX2_singersOf_4 : decode cX2_singersOf 4 = .ok (.iload_n 3, 1) := by decide +kernel
theorem dX2_singersOf_5 : decode cX2_singersOf 5 = .ok (.aload_n 0, 1) := by decide +kernel
theorem dX2_singersOf_6 : decode cX2_singersOf 6 = .ok (.getfield 37, 3) := by decide +kernel
theorem dX2_singersOf_9 : decode cX2_singersOf 9 = .ok (.if_icmp .ge 31, 3) := by decide +kernel
theorem dX2_singersOf_12 : decode cX2_singersOf 12 = .ok (.iload_n 3, 1) := by decide +kernel
theorem dX2_singersOf_13 : decode cX2_singersOf 13 = .ok (.bipush 6, 2) := by decide +kernel
theorem dX2_singersOf_15 : decode cX2_singersOf 15 = .ok (.if_icmp .ge 25, 3) := by decide +kernel
theorem dX2_singersOf_18 : decode cX2_singersOf 18 = .ok (.aload_n 0, 1) := by decide +kernel
theorem dX2_singersOf_19 : decode cX2_singersOf 19 = .ok (.getfield 18, 3) := by decide +kernel
theorem dX2_singersOf_22 : decode cX2_singersOf 22 = .ok (.iload_n 3, 1) := by decide +kernel
theorem dX2_singersOf_23 : decode cX2_singersOf 23 = .ok (.iaload, 1) := by decide +kernel
theorem dX2_singersOf_24 : decode cX2_singersOf 24 = .ok (.iload_n 1, 1) := by decide +kernel
theorem dX2_singersOf_25 : decode cX2_singersOf 25 = .ok (.if_icmp .ne 9, 3) := by decide +kernel
theorem dX2_singersOf_28 : decode cX2_singersOf 28 = .ok (.iload_n 2, 1) := by decide +kernel
theorem dX2_singersOf_29 : decode cX2_singersOf 29 = .ok (.iconst 1, 1) := by decide +kernel
theorem dX2_singersOf_30 : decode cX2_singersOf 30 = .ok (.iload_n 3, 1) := by decide +kernel
theorem dX2_singersOf_31 : decode cX2_singersOf 31 = .ok (.ishl, 1) := by decide +kernel
theorem dX2_singersOf_32 : decode cX2_singersOf 32 = .ok (.ior, 1) := by decide +kernel
theorem dX2_singersOf_33 : decode cX2_singersOf 33 = .ok (.istore_n 2, 1) := by decide +kernel
theorem dX2_singersOf_34 : decode cX2_singersOf 34 = .ok (.iinc 3 1, 3) := by decide +kernel
theorem dX2_singersOf_37 : decode cX2_singersOf 37 = .ok (.goto (-33), 3) := by decide +kernel
theorem dX2_singersOf_40 : decode cX2_singersOf 40 = .ok (.iload_n 2, 1) := by decide +kernel
theorem dX2_singersOf_41 : decode cX2_singersOf 41 = .ok (.ireturn, 1) := by decide +kernel
theorem dX2_pullOf_0 : decode cX2_pullOf 0 = .ok (.iload_n 1, 1) := by decide +kernel
theorem dX2_pullOf_1 : decode cX2_pullOf 1 = .ok (.ifCond .lt 12, 3) := by decide +kernel
theorem dX2_pullOf_4 : decode cX2_pullOf 4 = .ok (.iload_n 1, 1) := by decide +kernel
theorem dX2_pullOf_5 : decode cX2_pullOf 5 = .ok (.aload_n 0, 1) := by decide +kernel
theorem dX2_pullOf_6 : decode cX2_pullOf 6 = .ok (.getfield 31, 3) := by decide +kernel
theorem dX2_pullOf_9 : decode cX2_pullOf 9 = .ok (.arraylength, 1) := by decide +kernel
theorem dX2_pullOf_10 : decode cX2_pullOf 10 = .ok (.if_icmp .lt 7, 3) := by decide +kernel
theorem dX2_pullOf_13 : decode cX2_pullOf 13 = .ok (.iconst 0, 1) := by decide +kernel
theorem dX2_pullOf_14 : decode cX2_pullOf 14 = .ok (.goto 9, 3) := by decide +kernel
theorem dX2_pullOf_17 : decode cX2_pullOf 17 = .ok (.aload_n 0, 1) := by decide +kernel
theorem dX2_pullOf_18 : decode cX2_pullOf 18 = .ok (.getfield 31, 3) := by decide +kernel
theorem dX2_pullOf_21 : decode cX2_pullOf 21 = .ok (.iload_n 1, 1) := by decide +kernel
theorem dX2_pullOf_22 : decode cX2_pullOf 22 = .ok (.iaload, 1) := by decide +kernel
theorem dX2_pullOf_23 : decode cX2_pullOf 23 = .ok (.ireturn, 1) := by decide +kernel
theorem dX2_flowAt_0 : decode cX2_flowAt 0 = .ok (.iload_n 1, 1) := by decide +kernel
theorem dX2_flowAt_1 : decode cX2_flowAt 1 = .ok (.ifCond .ge 7, 3) := by decide +kernel
theorem dX2_flowAt_4 : decode cX2_flowAt 4 = .ok (.iconst 0, 1) := by decide +kernel
theorem dX2_flowAt_5 : decode cX2_flowAt 5 = .ok (.goto 15, 3) := by decide +kernel
theorem dX2_flowAt_8 : decode cX2_flowAt 8 = .ok (.aload_n 0, 1) := by decide +kernel
theorem dX2_flowAt_9 : decode cX2_flowAt 9 = .ok (.getfield 34, 3) := by decide +kernel
theorem dX2_flowAt_12 : decode cX2_flowAt 12 = .ok (.iload_n 1, 1) := by decide +kernel
theorem dX2_flowAt_13 : decode cX2_flowAt 13 = .ok (.sipush 199, 3) := by decide +kernel
theorem dX2_flowAt_16 : decode cX2_flowAt 16 = .ok (.invokestatic 54, 3) := by decide +kernel
theorem dX2_flowAt_19 : decode cX2_flowAt 19 = .ok (.iaload, 1) := by decide +kernel
theorem dX2_flowAt_20 : decode cX2_flowAt 20 = .ok (.ireturn, 1) := by decide +kernel
theorem dX2_isOver_0 : decode cX2_isOver 0 = .ok (.iload_n 1, 1) := by decide +kernel
theorem dX2_isOver_1 : decode cX2_isOver 1 = .ok (.aload_n 0, 1) := by decide +kernel
theorem dX2_isOver_2 : decode cX2_isOver 2 = .ok (.getfield 27, 3) := by decide +kernel
theorem dX2_isOver_5 : decode cX2_isOver 5 = .ok (.if_icmp .lt 7, 3) := by decide +kernel
theorem dX2_isOver_8 : decode cX2_isOver 8 = .ok (.iconst 1, 1) := by decide +kernel
theorem dX2_isOver_9 : decode cX2_isOver 9 = .ok (.goto 4, 3) := by decide +kernel
theorem dX2_isOver_12 : decode cX2_isOver 12 = .ok (.iconst 0, 1) := by decide +kernel
theorem dX2_isOver_13 : decode cX2_isOver 13 = .ok (.ireturn, 1) := by decide +kernel
theorem dX3_init_0 : decode cX3_init 0 = .ok (.aload_n 0, 1) := by decide +kernel
theorem dX3_init_1 : decode cX3_init 1 = .ok (.invokespecial 1, 3) := by decide +kernel
theorem dX3_init_4 : decode cX3_init 4 = .ok (.return_, 1) := by decide +kernel
theorem dX3_worth_0 : decode cX3_worth 0 = .ok (.aload 4, 2) := by decide +kernel
theorem dX3_worth_2 : decode cX3_worth 2 = .ok (.iconst 0, 1) := by decide +kernel
theorem dX3_worth_3 : decode cX3_worth 3 = .ok (.dup2, 1) := by decide +kernel
theorem dX3_worth_4 : decode cX3_worth 4 = .ok (.laload, 1) := by decide +kernel
theorem dX3_worth_5 : decode cX3_worth 5 = .ok (.ldc2_w 7, 3) := by decide +kernel
theorem dX3_worth_8 : decode cX3_worth 8 = .ok (.ladd, 1) := by decide +kernel
theorem dX3_worth_9 : decode cX3_worth 9 = .ok (.lastore, 1) := by decide +kernel
theorem dX3_worth_10 : decode cX3_worth 10 = .ok (.iconst 2, 1) := by decide +kernel
theorem dX3_worth_11 : decode cX3_worth 11 = .ok (.aload_n 0, 1) := by decide +kernel
theorem dX3_worth_12 : decode cX3_worth 12 = .ok (.aload_n 1, 1) := by decide +kernel
theorem dX3_worth_13 : decode cX3_worth 13 = .ok (.aload_n 2, 1) := by decide +kernel
theorem dX3_worth_14 : decode cX3_worth 14 = .ok (.iload_n 3, 1) := by decide +kernel
theorem dX3_worth_15 : decode cX3_worth 15 = .ok (.aload 4, 2) := by decide +kernel
theorem dX3_worth_17 : decode cX3_worth 17 = .ok (.invokespecial 9, 3) := by decide +kernel
theorem dX3_worth_20 : decode cX3_worth 20 = .ok (.imul, 1) := by decide +kernel
theorem dX3_worth_21 : decode cX3_worth 21 = .ok (.ireturn, 1) := by decide +kernel
theorem dX4_init_0 : decode cX4_init 0 = .ok (.aload_n 0, 1) := by decide +kernel
theorem dX4_init_1 : decode cX4_init 1 = .ok (.invokespecial 3, 3) := by decide +kernel
theorem dX4_init_4 : decode cX4_init 4 = .ok (.aload_n 0, 1) := by decide +kernel
theorem dX4_init_5 : decode cX4_init 5 = .ok (.bipush 6, 2) := by decide +kernel
theorem dX4_init_7 : decode cX4_init 7 = .ok (.newarray .int, 2) := by decide +kernel
theorem dX4_init_9 : decode cX4_init 9 = .ok (.putfield 9, 3) := by decide +kernel
theorem dX4_init_12 : decode cX4_init 12 = .ok (.aload_n 0, 1) := by decide +kernel
theorem dX4_init_13 : decode cX4_init 13 = .ok (.bipush 6, 2) := by decide +kernel
theorem dX4_init_15 : decode cX4_init 15 = .ok (.newarray .int, 2) := by decide +kernel
theorem dX4_init_17 : decode cX4_init 17 = .ok (.putfield 15, 3) := by decide +kernel
theorem dX4_init_20 : decode cX4_init 20 = .ok (.aload_n 0, 1) := by decide +kernel
theorem dX4_init_21 : decode cX4_init 21 = .ok (.ldc 18, 2) := by decide +kernel
theorem dX4_init_23 : decode cX4_init 23 = .ok (.putfield 19, 3) := by decide +kernel
theorem dX4_init_26 : decode cX4_init 26 = .ok (.return_, 1) := by decide +kernel
theorem dX4_start_0 : decode cX4_start 0 = .ok (.aload_n 0, 1) := by decide +kernel
theorem dX4_start_1 : decode cX4_start 1 = .ok (.iconst 0, 1) := by decide +kernel
theorem dX4_start_2 : decode cX4_start 2 = .ok (.putfield 23, 3) := by decide +kernel
theorem dX4_start_5 : decode cX4_start 5 = .ok (.aload_n 0, 1) := by decide +kernel
theorem dX4_start_6 : decode cX4_start 6 = .ok (.iconst 0, 1) := by decide +kernel
theorem dX4_start_7 : decode cX4_start 7 = .ok (.putfield 26, 3) := by decide +kernel
theorem dX4_start_10 : decode cX4_start 10 = .ok (.aload_n 0, 1) := by decide +kernel
theorem dX4_start_11 : decode cX4_start 11 = .ok (.getfield 9, 3) := by decide +kernel
theorem dX4_start_14 : decode cX4_start 14 = .ok (.iconst 0, 1) := by decide +kernel
theorem dX4_start_15 : decode cX4_start 15 = .ok (.invokestatic 29, 3) := by decide +kernel
theorem dX4_start_18 : decode cX4_start 18 = .ok (.aload_n 0, 1) := by decide +kernel
theorem dX4_start_19 : decode cX4_start 19 = .ok (.getfield 15, 3) := by decide +kernel
theorem dX4_start_22 : decode cX4_start 22 = .ok (.iconst 0, 1) := by decide +kernel
theorem dX4_start_23 : decode cX4_start 23 = .ok (.invokestatic 29, 3) := by decide +kernel
theorem dX4_start_26 : decode cX4_start 26 = .ok (.aload_n 0, 1) := by decide +kernel
theorem dX4_start_27 : decode cX4_start 27 = .ok (.aload_n 1, 1) := by decide +kernel
theorem dX4_start_28 : decode cX4_start 28 = .ok (.iconst 0, 1) := by decide +kernel
theorem dX4_start_29 : decode cX4_start 29 = .ok (.invokevirtual 35, 3) := by decide +kernel
theorem dX4_start_32 : decode cX4_start 32 = .ok (.return_, 1) := by decide +kernel
theorem dX4_copyFrom_0 : decode cX4_copyFrom 0 = .ok (.aload_n 0, 1) := by decide +kernel
theorem dX4_copyFrom_1 : decode cX4_copyFrom 1 = .ok (.aload_n 1, 1) := by decide +kernel
theorem dX4_copyFrom_2 : decode cX4_copyFrom 2 = .ok (.getfield 23, 3) := by decide +kernel
theorem dX4_copyFrom_5 : decode cX4_copyFrom 5 = .ok (.putfield 23, 3) := by decide +kernel
theorem dX4_copyFrom_8 : decode cX4_copyFrom 8 = .ok (.aload_n 0, 1) := by decide +kernel
theorem dX4_copyFrom_9 : decode cX4_copyFrom 9 = .ok (.aload_n 1, 1) := by decide +kernel
theorem dX4_copyFrom_10 : decode cX4_copyFrom 10 = .ok (.getfield 26, 3) := by decide +kernel
theorem dX4_copyFrom_13 : decode cX4_copyFrom 13 = .ok (.putfield 26, 3) := by decide +kernel
theorem dX4_copyFrom_16 : decode cX4_copyFrom 16 = .ok (.aload_n 0, 1) := by decide +kernel
theorem dX4_copyFrom_17 : decode cX4_copyFrom 17 = .ok (.aload_n 1, 1) := by decide +kernel
theorem dX4_copyFrom_18 : decode cX4_copyFrom 18 = .ok (.getfield 39, 3) := by decide +kernel
theorem dX4_copyFrom_21 : decode cX4_copyFrom 21 = .ok (.putfield 39, 3) := by decide +kernel
theorem dX4_copyFrom_24 : decode cX4_copyFrom 24 = .ok (.aload_n 0, 1) := by decide +kernel
theorem dX4_copyFrom_25 : decode cX4_copyFrom 25 = .ok (.aload_n 1, 1) := by decide +kernel
theorem dX4_copyFrom_26 : decode cX4_copyFrom 26 = .ok (.getfield 19, 3) := by decide +kernel
theorem dX4_copyFrom_29 : decode cX4_copyFrom 29 = .ok (.putfield 19, 3) := by decide +kernel
theorem dX4_copyFrom_32 : decode cX4_copyFrom 32 = .ok (.iconst 0, 1) := by decide +kernel
theorem dX4_copyFrom_33 : decode cX4_copyFrom 33 = .ok (.istore_n 2, 1) := by decide +kernel
theorem dX4_copyFrom_34 : decode cX4_copyFrom 34 = .ok (.iload_n 2, 1) := by decide +kernel
theorem dX4_copyFrom_35 : decode cX4_copyFrom 35 = .ok (.bipush 6, 2) := by decide +kernel
theorem dX4_copyFrom_37 : decode cX4_copyFrom 37 = .ok (.if_icmp .ge 33, 3) := by decide +kernel
theorem dX4_copyFrom_40 : decode cX4_copyFrom 40 = .ok (.aload_n 0, 1) := by decide +kernel
theorem dX4_copyFrom_41 : decode cX4_copyFrom 41 = .ok (.getfield 9, 3) := by decide +kernel
theorem dX4_copyFrom_44 : decode cX4_copyFrom 44 = .ok (.iload_n 2, 1) := by decide +kernel
theorem dX4_copyFrom_45 : decode cX4_copyFrom 45 = .ok (.aload_n 1, 1) := by decide +kernel
theorem dX4_copyFrom_46 : decode cX4_copyFrom 46 = .ok (.getfield 9, 3) := by decide +kernel
theorem dX4_copyFrom_49 : decode cX4_copyFrom 49 = .ok (.iload_n 2, 1) := by decide +kernel
theorem dX4_copyFrom_50 : decode cX4_copyFrom 50 = .ok (.iaload, 1) := by decide +kernel
theorem dX4_copyFrom_51 : decode cX4_copyFrom 51 = .ok (.iastore, 1) := by decide +kernel
theorem dX4_copyFrom_52 : decode cX4_copyFrom 52 = .ok (.aload_n 0, 1) := by decide +kernel
theorem dX4_copyFrom_53 : decode cX4_copyFrom 53 = .ok (.getfield 15, 3) := by decide +kernel
theorem dX4_copyFrom_56 : decode cX4_copyFrom 56 = .ok (.iload_n 2, 1) := by decide +kernel
theorem dX4_copyFrom_57 : decode cX4_copyFrom 57 = .ok (.aload_n 1, 1) := by decide +kernel
theorem dX4_copyFrom_58 : decode cX4_copyFrom 58 = .ok (.getfield 15, 3) := by decide +kernel
theorem dX4_copyFrom_61 : decode cX4_copyFrom 61 = .ok (.iload_n 2, 1) := by decide +kernel
theorem dX4_copyFrom_62 : decode cX4_copyFrom 62 = .ok (.iaload, 1) := by decide +kernel
theorem dX4_copyFrom_63 : decode cX4_copyFrom 63 = .ok (.iastore, 1) := by decide +kernel
theorem dX4_copyFrom_64 : decode cX4_copyFrom 64 = .ok (.iinc 2 1, 3) := by decide +kernel
theorem dX4_copyFrom_67 : decode cX4_copyFrom 67 = .ok (.goto (-33), 3) := by decide +kernel
theorem dX4_copyFrom_70 : decode cX4_copyFrom 70 = .ok (.return_, 1) := by decide +kernel
theorem dX4_speak_0 : decode cX4_speak 0 = .ok (.aload_n 0, 1) := by decide +kernel
theorem dX4_speak_1 : decode cX4_speak 1 = .ok (.iload_n 2, 1) := by decide +kernel
theorem dX4_speak_2 : decode cX4_speak 2 = .ok (.putfield 39, 3) := by decide +kernel
theorem dX4_speak_5 : decode cX4_speak 5 = .ok (.aload_n 0, 1) := by decide +kernel
theorem dX4_speak_6 : decode cX4_speak 6 = .ok (.ldc 18, 2) := by decide +kernel
theorem dX4_speak_8 : decode cX4_speak 8 = .ok (.putfield 19, 3) := by decide +kernel
theorem dX4_speak_11 : decode cX4_speak 11 = .ok (.iconst 0, 1) := by decide +kernel
theorem dX4_speak_12 : decode cX4_speak 12 = .ok (.istore_n 3, 1) := by decide +kernel
theorem dX4_speak_13 : decode cX4_speak 13 = .ok (.iload_n 3, 1) := by decide +kernel
theorem dX4_speak_14 : decode cX4_speak 14 = .ok (.aload_n 1, 1) := by decide +kernel
theorem dX4_speak_15 : decode cX4_speak 15 = .ok (.getfield 42, 3) := by decide +kernel
theorem dX4_speak_18 : decode cX4_speak 18 = .ok (.if_icmp .ge 80, 3) := by decide +kernel
theorem dX4_speak_21 : decode cX4_speak 21 = .ok (.iload_n 3, 1) := by decide +kernel
theorem dX4_speak_22 : decode cX4_speak 22 = .ok (.bipush 6, 2) := by decide +kernel
theorem dX4_speak_24 : decode cX4_speak 24 = .ok (.if_icmp .ge 74, 3) := by decide +kernel
theorem dX4_speak_27 : decode cX4_speak 27 = .ok (.iload_n 2, 1) := by decide +kernel
theorem dX4_speak_28 : decode cX4_speak 28 = .ok (.iload_n 3, 1) := by decide +kernel
theorem dX4_speak_29 : decode cX4_speak 29 = .ok (.ishr, 1) := by decide +kernel
theorem dX4_speak_30 : decode cX4_speak 30 = .ok (.iconst 1, 1) := by decide +kernel
theorem dX4_speak_31 : decode cX4_speak 31 = .ok (.iand, 1) := by decide +kernel
theorem dX4_speak_32 : decode cX4_speak 32 = .ok (.ifCond .eq 23, 3) := by decide +kernel
theorem dX4_speak_35 : decode cX4_speak 35 = .ok (.aload_n 0, 1) := by decide +kernel
theorem dX4_speak_36 : decode cX4_speak 36 = .ok (.getfield 9, 3) := by decide +kernel
theorem dX4_speak_39 : decode cX4_speak 39 = .ok (.iload_n 3, 1) := by decide +kernel
theorem dX4_speak_40 : decode cX4_speak 40 = .ok (.aload_n 0, 1) := by decide +kernel
theorem dX4_speak_41 : decode cX4_speak 41 = .ok (.getfield 23, 3) := by decide +kernel
theorem dX4_speak_44 : decode cX4_speak 44 = .ok (.iastore, 1) := by decide +kernel
theorem dX4_speak_45 : decode cX4_speak 45 = .ok (.aload_n 0, 1) := by decide +kernel
theorem dX4_speak_46 : decode cX4_speak 46 = .ok (.getfield 15, 3) := by decide +kernel
theorem dX4_speak_49 : decode cX4_speak 49 = .ok (.iload_n 3, 1) := by decide +kernel
theorem dX4_speak_50 : decode cX4_speak 50 = .ok (.dup2, 1) := by decide +kernel
theorem dX4_speak_51 : decode cX4_speak 51 = .ok (.iaload, 1) := by decide +kernel
theorem dX4_speak_52 : decode cX4_speak 52 = .ok (.iconst 1, 1) := by decide +kernel
theorem dX4_speak_53 : decode cX4_speak 53 = .ok (.iadd, 1) := by decide +kernel
theorem dX4_speak_54 : decode cX4_speak 54 = .ok (.iastore, 1) := by decide +kernel
theorem dX4_speak_55 : decode cX4_speak 55 = .ok (.aload_n 0, 1) := by decide +kernel
theorem dX4_speak_56 : decode cX4_speak 56 = .ok (.getfield 9, 3) := by decide +kernel
theorem dX4_speak_59 : decode cX4_speak 59 = .ok (.iload_n 3, 1) := by decide +kernel
theorem dX4_speak_60 : decode cX4_speak 60 = .ok (.iaload, 1) := by decide +kernel
theorem dX4_speak_61 : decode cX4_speak 61 = .ok (.aload_n 1, 1) := by decide +kernel
theorem dX4_speak_62 : decode cX4_speak 62 = .ok (.getfield 47, 3) := by decide +kernel
theorem dX4_speak_65 : decode cX4_speak 65 = .ok (.iload_n 3, 1) := by decide +kernel
theorem dX4_speak_66 : decode cX4_speak 66 = .ok (.iaload, 1) := by decide +kernel
theorem dX4_speak_67 : decode cX4_speak 67 = .ok (.iadd, 1) := by decide +kernel
theorem dX4_speak_68 : decode cX4_speak 68 = .ok (.istore 4, 2) := by decide +kernel
theorem dX4_speak_70 : decode cX4_speak 70 = .ok (.aload_n 0, 1) := by decide +kernel
theorem dX4_speak_71 : decode cX4_speak 71 = .ok (.iload 4, 2) := by decide +kernel
theorem dX4_speak_73 : decode cX4_speak 73 = .ok (.aload_n 0, 1) := by decide +kernel
theorem dX4_speak_74 : decode cX4_speak 74 = .ok (.getfield 19, 3) := by decide +kernel
theorem dX4_speak_77 : decode cX4_speak 77 = .ok (.if_icmp .ge 8, 3) := by decide +kernel
theorem dX4_speak_80 : decode cX4_speak 80 = .ok (.iload 4, 2) := by decide +kernel
theorem dX4_speak_82 : decode cX4_speak 82 = .ok (.goto 7, 3) := by decide +kernel
theorem dX4_speak_85 : decode cX4_speak 85 = .ok (.aload_n 0, 1) := by decide +kernel
theorem dX4_speak_86 : decode cX4_speak 86 = .ok (.getfield 19, 3) := by decide +kernel
theorem dX4_speak_89 : decode cX4_speak 89 = .ok (.putfield 19, 3) := by decide +kernel
theorem dX4_speak_92 : decode cX4_speak 92 = .ok (.iinc 3 1, 3) := by decide +kernel
theorem dX4_speak_95 : decode cX4_speak 95 = .ok (.goto (-82), 3) := by decide +kernel
theorem dX4_speak_98 : decode cX4_speak 98 = .ok (.return_, 1) := by decide +kernel
theorem dX4_row_0 : decode cX4_row 0 = .ok (.aload_n 1, 1) := by decide +kernel
theorem dX4_row_1 : decode cX4_row 1 = .ok (.aload_n 0, 1) := by decide +kernel
theorem dX4_row_2 : decode cX4_row 2 = .ok (.getfield 26, 3) := by decide +kernel
theorem dX4_row_5 : decode cX4_row 5 = .ok (.invokevirtual 50, 3) := by decide +kernel
theorem dX4_row_8 : decode cX4_row 8 = .ok (.ifCond .eq 4, 3) := by decide +kernel
theorem dX4_row_11 : decode cX4_row 11 = .ok (.return_, 1) := by decide +kernel
theorem dX4_row_12 : decode cX4_row 12 = .ok (.aload_n 1, 1) := by decide +kernel
theorem dX4_row_13 : decode cX4_row 13 = .ok (.aload_n 0, 1) := by decide +kernel
theorem dX4_row_14 : decode cX4_row 14 = .ok (.getfield 39, 3) := by decide +kernel
theorem dX4_row_17 : decode cX4_row 17 = .ok (.invokevirtual 54, 3) := by decide +kernel
theorem dX4_row_20 : decode cX4_row 20 = .ok (.istore_n 2, 1) := by decide +kernel
theorem dX4_row_21 : decode cX4_row 21 = .ok (.iload_n 2, 1) := by decide +kernel
theorem dX4_row_22 : decode cX4_row 22 = .ok (.bipush (-9), 2) := by decide +kernel
theorem dX4_row_24 : decode cX4_row 24 = .ok (.if_icmp .eq 26, 3) := by decide +kernel
theorem dX4_row_27 : decode cX4_row 27 = .ok (.aload_n 0, 1) := by decide +kernel
theorem dX4_row_28 : decode cX4_row 28 = .ok (.iconst 0, 1) := by decide +kernel
theorem dX4_row_29 : decode cX4_row 29 = .ok (.aload_n 0, 1) := by decide +kernel
theorem dX4_row_30 : decode cX4_row 30 = .ok (.getfield 26, 3) := by decide +kernel
theorem dX4_row_33 : decode cX4_row 33 = .ok (.iload_n 2, 1) := by decide +kernel
theorem dX4_row_34 : decode cX4_row 34 = .ok (.iadd, 1) := by decide +kernel
theorem dX4_row_35 : decode cX4_row 35 = .ok (.aload_n 1, 1) := by decide +kernel
theorem dX4_row_36 : decode cX4_row 36 = .ok (.aload_n 0, 1) := by decide +kernel
theorem dX4_row_37 : decode cX4_row 37 = .ok (.getfield 26, 3) := by decide +kernel
theorem dX4_row_40 : decode cX4_row 40 = .ok (.invokevirtual 58, 3) := by decide +kernel
theorem dX4_row_43 : decode cX4_row 43 = .ok (.isub, 1) := by decide +kernel
theorem dX4_row_44 : decode cX4_row 44 = .ok (.invokestatic 61, 3) := by decide +kernel
theorem dX4_row_47 : decode cX4_row 47 = .ok (.putfield 26, 3) := by decide +kernel
theorem dX4_row_50 : decode cX4_row 50 = .ok (.aload_n 0, 1) := by decide +kernel
theorem dX4_row_51 : decode cX4_row 51 = .ok (.aload_n 1, 1) := by decide +kernel
theorem dX4_row_52 : decode cX4_row 52 = .ok (.invokevirtual 67, 3) := by decide +kernel
theorem dX4_row_55 : decode cX4_row 55 = .ok (.return_, 1) := by decide +kernel
theorem dX4_passTime_0 : decode cX4_passTime 0 = .ok (.aload_n 0, 1) := by decide +kernel
theorem dX4_passTime_1 : decode cX4_passTime 1 = .ok (.dup, 1) := by decide +kernel
theorem dX4_passTime_2 : decode cX4_passTime 2 = .ok (.getfield 23, 3) := by decide +kernel
theorem dX4_passTime_5 : decode cX4_passTime 5 = .ok (.iconst 1, 1) := by decide +kernel
theorem dX4_passTime_6 : decode cX4_passTime 6 = .ok (.iadd, 1) := by decide +kernel
theorem dX4_passTime_7 : decode cX4_passTime 7 = .ok (.putfield 23, 3) := by decide +kernel
theorem dX4_passTime_10 : decode cX4_passTime 10 = .ok (.aload_n 0, 1) := by decide +kernel
theorem dX4_passTime_11 : decode cX4_passTime 11 = .ok (.getfield 23, 3) := by decide +kernel
theorem dX4_passTime_14 : decode cX4_passTime 14 = .ok (.aload_n 0, 1) := by decide +kernel
theorem dX4_passTime_15 : decode cX4_passTime 15 = .ok (.getfield 19, 3) := by decide +kernel
theorem dX4_passTime_18 : decode cX4_passTime 18 = .ok (.if_icmp .lt 17, 3) := by decide +kernel
theorem dX4_passTime_21 : decode cX4_passTime 21 = .ok (.aload_n 0, 1) := by decide +kernel
theorem dX4_passTime_22 : decode cX4_passTime 22 = .ok (.aload_n 1, 1) := by decide +kernel
theorem dX4_passTime_23 : decode cX4_passTime 23 = .ok (.aload_n 0, 1) := by decide +kernel
theorem dX4_passTime_24 : decode cX4_passTime 24 = .ok (.aload_n 1, 1) := by decide +kernel
theorem dX4_passTime_25 : decode cX4_passTime 25 = .ok (.aload_n 0, 1) := by decide +kernel
theorem dX4_passTime_26 : decode cX4_passTime 26 = .ok (.getfield 23, 3) := by decide +kernel
theorem dX4_passTime_29 : decode cX4_passTime 29 = .ok (.invokevirtual 71, 3) := by decide +kernel
theorem dX4_passTime_32 : decode cX4_passTime 32 = .ok (.invokevirtual 35, 3) := by decide +kernel
theorem dX4_passTime_35 : decode cX4_passTime 35 = .ok (.return_, 1) := by decide +kernel
theorem dX4_rowTillOver_0 : decode cX4_rowTillOver 0 = .ok (.iconst 0, 1) := by decide +kernel
theorem dX4_rowTillOver_1 : decode cX4_rowTillOver 1 = .ok (.istore_n 3, 1) := by decide +kernel
theorem dX4_rowTillOver_2 : decode cX4_rowTillOver 2 = .ok (.iload_n 3, 1) := by decide +kernel
theorem dX4_rowTillOver_3 : decode cX4_rowTillOver 3 = .ok (.iload_n 2, 1) := by decide +kernel
theorem dX4_rowTillOver_4 : decode cX4_rowTillOver 4 = .ok (.if_icmp .gt 27, 3) := by decide +kernel
theorem dX4_rowTillOver_7 : decode cX4_rowTillOver 7 = .ok (.aload_n 1, 1) := by decide +kernel
theorem dX4_rowTillOver_8 : decode cX4_rowTillOver 8 = .ok (.aload_n 0, 1) := by decide +kernel
theorem dX4_rowTillOver_9 : decode cX4_rowTillOver 9 = .ok (.getfield 26, 3) := by decide +kernel
theorem dX4_rowTillOver_12 : decode cX4_rowTillOver 12 = .ok (.invokevirtual 50, 3) := by decide +kernel
theorem dX4_rowTillOver_15 : decode cX4_rowTillOver 15 = .ok (.ifCond .eq 5, 3) := by decide +kernel
theorem dX4_rowTillOver_18 : decode cX4_rowTillOver 18 = .ok (.iload_n 3, 1) := by decide +kernel
theorem dX4_rowTillOver_19 : decode cX4_rowTillOver 19 = .ok (.ireturn, 1) := by decide +kernel
theorem dX4_rowTillOver_20 : decode cX4_rowTillOver 20 = .ok (.aload_n 0, 1) := by decide +kernel
theorem dX4_rowTillOver_21 : decode cX4_rowTillOver 21 = .ok (.aload_n 1, 1) := by decide +kernel
theorem dX4_rowTillOver_22 : decode cX4_rowTillOver 22 = .ok (.invokevirtual 75, 3) := by decide +kernel
theorem dX4_rowTillOver_25 : decode cX4_rowTillOver 25 = .ok (.iinc 3 1, 3) := by decide +kernel
theorem dX4_rowTillOver_28 : decode cX4_rowTillOver 28 = .ok (.goto (-26), 3) := by decide +kernel
theorem dX4_rowTillOver_31 : decode cX4_rowTillOver 31 = .ok (.bipush (-9), 2) := by decide +kernel
theorem dX4_rowTillOver_33 : decode cX4_rowTillOver 33 = .ok (.ireturn, 1) := by decide +kernel
theorem dX4_whoIsDueAt_0 : decode cX4_whoIsDueAt 0 = .ok (.iconst 0, 1) := by decide +kernel
theorem dX4_whoIsDueAt_1 : decode cX4_whoIsDueAt 1 = .ok (.istore_n 3, 1) := by decide +kernel
theorem dX4_whoIsDueAt_2 : decode cX4_whoIsDueAt 2 = .ok (.iconst 0, 1) := by decide +kernel
theorem dX4_whoIsDueAt_3 : decode cX4_whoIsDueAt 3 = .ok (.istore 4, 2) := by decide +kernel
theorem dX4_whoIsDueAt_5 : decode cX4_whoIsDueAt 5 = .ok (.iload 4, 2) := by decide +kernel
theorem dX4_whoIsDueAt_7 : decode cX4_whoIsDueAt 7 = .ok (.aload_n 1, 1) := by decide +kernel
theorem dX4_whoIsDueAt_8 : decode cX4_whoIsDueAt 8 = .ok (.getfield 42, 3) := by decide +kernel
theorem dX4_whoIsDueAt_11 : decode cX4_whoIsDueAt 11 = .ok (.if_icmp .ge 42, 3) := by decide +kernel
theorem dX4_whoIsDueAt_14 : decode cX4_whoIsDueAt 14 = .ok (.iload 4, 2) := by decide +kernel
theorem dX4_whoIsDueAt_16 : decode cX4_whoIsDueAt 16 = .ok (.bipush 6, 2) := by decide +kernel
theorem dX4_whoIsDueAt_18 : decode cX4_whoIsDueAt 18 = .ok (.if_icmp .ge 35, 3) := by decide +kernel
theorem dX4_whoIsDueAt_21 : decode cX4_whoIsDueAt 21 = .ok (.aload_n 0, 1) := by decide +kernel
theorem dX4_whoIsDueAt_22 : decode cX4_whoIsDueAt 22 = .ok (.getfield 9, 3) := by decide +kernel
theorem dX4_whoIsDueAt_25 : decode cX4_whoIsDueAt 25 = .ok (.iload 4, 2) := by decide +kernel
theorem dX4_whoIsDueAt_27 : decode cX4_whoIsDueAt 27 = .ok (.iaload, 1) := by decide +kernel
theorem dX4_whoIsDueAt_28 : decode cX4_whoIsDueAt 28 = .ok (.aload_n 1, 1) := by decide +kernel
theorem dX4_whoIsDueAt_29 : decode cX4_whoIsDueAt 29 = .ok (.getfield 47, 3) := by decide +kernel
theorem dX4_whoIsDueAt_32 : decode cX4_whoIsDueAt 32 = .ok (.iload 4, 2) := by decide +kernel
theorem dX4_whoIsDueAt_34 : decode cX4_whoIsDueAt 34 = .ok (.iaload, 1) := by decide +kernel
theorem dX4_whoIsDueAt_35 : decode cX4_whoIsDueAt 35 = .ok (.iadd, 1) := by decide +kernel
theorem dX4_whoIsDueAt_36 : decode cX4_whoIsDueAt 36 = .ok (.iload_n 2, 1) := by decide +kernel
theorem dX4_whoIsDueAt_37 : decode cX4_whoIsDueAt 37 = .ok (.if_icmp .gt 10, 3) := by decide +kernel
theorem dX4_whoIsDueAt_40 : decode cX4_whoIsDueAt 40 = .ok (.iload_n 3, 1) := by decide +kernel
theorem dX4_whoIsDueAt_41 : decode cX4_whoIsDueAt 41 = .ok (.iconst 1, 1) := by decide +kernel
theorem dX4_whoIsDueAt_42 : decode cX4_whoIsDueAt 42 = .ok (.iload 4, 2) := by decide +kernel
theorem dX4_whoIsDueAt_44 : decode cX4_whoIsDueAt 44 = .ok (.ishl, 1) := by decide +kernel
theorem dX4_whoIsDueAt_45 : decode cX4_whoIsDueAt 45 = .ok (.ior, 1) := by decide +kernel
theorem dX4_whoIsDueAt_46 : decode cX4_whoIsDueAt 46 = .ok (.istore_n 3, 1) := by decide +kernel
theorem dX4_whoIsDueAt_47 : decode cX4_whoIsDueAt 47 = .ok (.iinc 4 1, 3) := by decide +kernel
theorem dX4_whoIsDueAt_50 : decode cX4_whoIsDueAt 50 = .ok (.goto (-45), 3) := by decide +kernel
theorem dX4_whoIsDueAt_53 : decode cX4_whoIsDueAt 53 = .ok (.iload_n 3, 1) := by decide +kernel
theorem dX4_whoIsDueAt_54 : decode cX4_whoIsDueAt 54 = .ok (.ireturn, 1) := by decide +kernel
theorem dX4_silenceOf_0 : decode cX4_silenceOf 0 = .ok (.iload_n 1, 1) := by decide +kernel
theorem dX4_silenceOf_1 : decode cX4_silenceOf 1 = .ok (.ifCond .lt 9, 3) := by decide +kernel
theorem dX4_silenceOf_4 : decode cX4_silenceOf 4 = .ok (.iload_n 1, 1) := by decide +kernel
theorem dX4_silenceOf_5 : decode cX4_silenceOf 5 = .ok (.bipush 6, 2) := by decide +kernel
theorem dX4_silenceOf_7 : decode cX4_silenceOf 7 = .ok (.if_icmp .lt 7, 3) := by decide +kernel
theorem dX4_silenceOf_10 : decode cX4_silenceOf 10 = .ok (.iconst 0, 1) := by decide +kernel
theorem dX4_silenceOf_11 : decode cX4_silenceOf 11 = .ok (.goto 14, 3) := by decide +kernel
theorem dX4_silenceOf_14 : decode cX4_silenceOf 14 = .ok (.aload_n 0, 1) := by decide +kernel
theorem dX4_silenceOf_15 : decode cX4_silenceOf 15 = .ok (.getfield 23, 3) := by decide +kernel
theorem dX4_silenceOf_18 : decode cX4_silenceOf 18 = .ok (.aload_n 0, 1) := by decide +kernel
theorem dX4_silenceOf_19 : decode cX4_silenceOf 19 = .ok (.getfield 9, 3) := by decide +kernel
theorem dX4_silenceOf_22 : decode cX4_silenceOf 22 = .ok (.iload_n 1, 1) := by decide +kernel
theorem dX4_silenceOf_23 : decode cX4_silenceOf 23 = .ok (.iaload, 1) := by decide +kernel
theorem dX4_silenceOf_24 : decode cX4_silenceOf 24 = .ok (.isub, 1) := by decide +kernel
theorem dX4_silenceOf_25 : decode cX4_silenceOf 25 = .ok (.ireturn, 1) := by decide +kernel
theorem dX4_allWords_0 : decode cX4_allWords 0 = .ok (.iconst 0, 1) := by decide +kernel
theorem dX4_allWords_1 : decode cX4_allWords 1 = .ok (.istore_n 1, 1) := by decide +kernel
theorem dX4_allWords_2 : decode cX4_allWords 2 = .ok (.iconst 0, 1) := by decide +kernel
theorem dX4_allWords_3 : decode cX4_allWords 3 = .ok (.istore_n 2, 1) := by decide +kernel
theorem dX4_allWords_4 : decode cX4_allWords 4 = .ok (.iload_n 2, 1) := by decide +kernel
theorem dX4_allWords_5 : decode cX4_allWords 5 = .ok (.bipush 6, 2) := by decide +kernel
theorem dX4_allWords_7 : decode cX4_allWords 7 = .ok (.if_icmp .ge 18, 3) := by decide +kernel
theorem dX4_allWords_10 : decode cX4_allWords 10 = .ok (.iload_n 1, 1) := by decide +kernel
theorem dX4_allWords_11 : decode cX4_allWords 11 = .ok (.aload_n 0, 1) := by decide +kernel
theorem dX4_allWords_12 : decode cX4_allWords 12 = .ok (.getfield 15, 3) := by decide +kernel
theorem dX4_allWords_15 : decode cX4_allWords 15 = .ok (.iload_n 2, 1) := by decide +kernel
theorem dX4_allWords_16 : decode cX4_allWords 16 = .ok (.iaload, 1) := by decide +kernel
theorem dX4_allWords_17 : decode cX4_allWords 17 = .ok (.iadd, 1) := by decide +kernel
theorem dX4_allWords_18 : decode cX4_allWords 18 = .ok (.istore_n 1, 1) := by decide +kernel
theorem dX4_allWords_19 : decode cX4_allWords 19 = .ok (.iinc 2 1, 3) := by decide +kernel
theorem dX4_allWords_22 : decode cX4_allWords 22 = .ok (.goto (-18), 3) := by decide +kernel
theorem dX4_allWords_25 : decode cX4_allWords 25 = .ok (.iload_n 1, 1) := by decide +kernel
theorem dX4_allWords_26 : decode cX4_allWords 26 = .ok (.ireturn, 1) := by decide +kernel
theorem dX4_soundsLike_0 : decode cX4_soundsLike 0 = .ok (.aload_n 0, 1) := by decide +kernel
theorem dX4_soundsLike_1 : decode cX4_soundsLike 1 = .ok (.getfield 39, 3) := by decide +kernel
theorem dX4_soundsLike_4 : decode cX4_soundsLike 4 = .ok (.aload_n 2, 1) := by decide +kernel
theorem dX4_soundsLike_5 : decode cX4_soundsLike 5 = .ok (.getfield 39, 3) := by decide +kernel
theorem dX4_soundsLike_8 : decode cX4_soundsLike 8 = .ok (.if_icmp .ne 7, 3) := by decide +kernel
theorem dX4_soundsLike_11 : decode cX4_soundsLike 11 = .ok (.iconst 1, 1) := by decide +kernel
theorem dX4_soundsLike_12 : decode cX4_soundsLike 12 = .ok (.goto 4, 3) := by decide +kernel
theorem dX4_soundsLike_15 : decode cX4_soundsLike 15 = .ok (.iconst 0, 1) := by decide +kernel
theorem dX4_soundsLike_16 : decode cX4_soundsLike 16 = .ok (.istore_n 3, 1) := by decide +kernel
theorem dX4_soundsLike_17 : decode cX4_soundsLike 17 = .ok (.iconst 0, 1) := by decide +kernel
theorem dX4_soundsLike_18 : decode cX4_soundsLike 18 = .ok (.istore 4, 2) := by decide +kernel
theorem dX4_soundsLike_20 : decode cX4_soundsLike 20 = .ok (.iload 4, 2) := by decide +kernel
theorem dX4_soundsLike_22 : decode cX4_soundsLike 22 = .ok (.aload_n 1, 1) := by decide +kernel
theorem dX4_soundsLike_23 : decode cX4_soundsLike 23 = .ok (.getfield 42, 3) := by decide +kernel
theorem dX4_soundsLike_26 : decode cX4_soundsLike 26 = .ok (.if_icmp .ge 34, 3) := by decide +kernel
theorem dX4_soundsLike_29 : decode cX4_soundsLike 29 = .ok (.iload_n 3, 1) := by decide +kernel
theorem dX4_soundsLike_30 : decode cX4_soundsLike 30 = .ok (.ifCond .eq 30, 3) := by decide +kernel
theorem dX4_soundsLike_33 : decode cX4_soundsLike 33 = .ok (.aload_n 0, 1) := by decide +kernel
theorem dX4_soundsLike_34 : decode cX4_soundsLike 34 = .ok (.iload 4, 2) := by decide +kernel
theorem dX4_soundsLike_36 : decode cX4_soundsLike 36 = .ok (.invokevirtual 78, 3) := by decide +kernel
theorem dX4_soundsLike_39 : decode cX4_soundsLike 39 = .ok (.aload_n 2, 1) := by decide +kernel
theorem dX4_soundsLike_40 : decode cX4_soundsLike 40 = .ok (.iload 4, 2) := by decide +kernel
theorem dX4_soundsLike_42 : decode cX4_soundsLike 42 = .ok (.invokevirtual 78, 3) := by decide +kernel
theorem dX4_soundsLike_45 : decode cX4_soundsLike 45 = .ok (.if_icmp .ne 7, 3) := by decide +kernel
theorem dX4_soundsLike_48 : decode cX4_soundsLike 48 = .ok (.iconst 1, 1) := by decide +kernel
theorem dX4_soundsLike_49 : decode cX4_soundsLike 49 = .ok (.goto 4, 3) := by decide +kernel
theorem dX4_soundsLike_52 : decode cX4_soundsLike 52 = .ok (.iconst 0, 1) := by decide +kernel
theorem dX4_soundsLike_53 : decode cX4_soundsLike 53 = .ok (.istore_n 3, 1) := by decide +kernel
theorem dX4_soundsLike_54 : decode cX4_soundsLike 54 = .ok (.iinc 4 1, 3) := by decide +kernel
theorem dX4_soundsLike_57 : decode cX4_soundsLike 57 = .ok (.goto (-37), 3) := by decide +kernel
theorem dX4_soundsLike_60 : decode cX4_soundsLike 60 = .ok (.iload_n 3, 1) := by decide +kernel
theorem dX4_soundsLike_61 : decode cX4_soundsLike 61 = .ok (.ireturn, 1) := by decide +kernel
theorem dX5_init_0 : decode cX5_init 0 = .ok (.aload_n 0, 1) := by decide +kernel
theorem dX5_init_1 : decode cX5_init 1 = .ok (.invokespecial 1, 3) := by decide +kernel
theorem dX5_init_4 : decode cX5_init 4 = .ok (.return_, 1) := by decide +kernel
theorem dX5_worth_0 : decode cX5_worth 0 = .ok (.aload 4, 2) := by decide +kernel
theorem dX5_worth_2 : decode cX5_worth 2 = .ok (.iconst 0, 1) := by decide +kernel
theorem dX5_worth_3 : decode cX5_worth 3 = .ok (.dup2, 1) := by decide +kernel
theorem dX5_worth_4 : decode cX5_worth 4 = .ok (.laload, 1) := by decide +kernel
theorem dX5_worth_5 : decode cX5_worth 5 = .ok (.ldc2_w 7, 3) := by decide +kernel
theorem dX5_worth_8 : decode cX5_worth 8 = .ok (.ladd, 1) := by decide +kernel
theorem dX5_worth_9 : decode cX5_worth 9 = .ok (.lastore, 1) := by decide +kernel
theorem dX5_worth_10 : decode cX5_worth 10 = .ok (.aload_n 0, 1) := by decide +kernel
theorem dX5_worth_11 : decode cX5_worth 11 = .ok (.aload_n 1, 1) := by decide +kernel
theorem dX5_worth_12 : decode cX5_worth 12 = .ok (.aload_n 2, 1) := by decide +kernel
theorem dX5_worth_13 : decode cX5_worth 13 = .ok (.iload_n 3, 1) := by decide +kernel
theorem dX5_worth_14 : decode cX5_worth 14 = .ok (.aload 4, 2) := by decide +kernel
theorem dX5_worth_16 : decode cX5_worth 16 = .ok (.invokespecial 9, 3) := by decide +kernel
theorem dX5_worth_19 : decode cX5_worth 19 = .ok (.aload_n 2, 1) := by decide +kernel
theorem dX5_worth_20 : decode cX5_worth 20 = .ok (.iload_n 3, 1) := by decide +kernel
theorem dX5_worth_21 : decode cX5_worth 21 = .ok (.invokevirtual 13, 3) := by decide +kernel
theorem dX5_worth_24 : decode cX5_worth 24 = .ok (.iadd, 1) := by decide +kernel
theorem dX5_worth_25 : decode cX5_worth 25 = .ok (.ireturn, 1) := by decide +kernel
theorem dX6_init_0 : decode cX6_init 0 = .ok (.aload_n 0, 1) := by decide +kernel
theorem dX6_init_1 : decode cX6_init 1 = .ok (.invokespecial 1, 3) := by decide +kernel
theorem dX6_init_4 : decode cX6_init 4 = .ok (.return_, 1) := by decide +kernel
theorem dX6_worth_0 : decode cX6_worth 0 = .ok (.aload 4, 2) := by decide +kernel
theorem dX6_worth_2 : decode cX6_worth 2 = .ok (.iconst 0, 1) := by decide +kernel
theorem dX6_worth_3 : decode cX6_worth 3 = .ok (.dup2, 1) := by decide +kernel
theorem dX6_worth_4 : decode cX6_worth 4 = .ok (.laload, 1) := by decide +kernel
theorem dX6_worth_5 : decode cX6_worth 5 = .ok (.ldc2_w 7, 3) := by decide +kernel
theorem dX6_worth_8 : decode cX6_worth 8 = .ok (.ladd, 1) := by decide +kernel
theorem dX6_worth_9 : decode cX6_worth 9 = .ok (.lastore, 1) := by decide +kernel
theorem dX6_worth_10 : decode cX6_worth 10 = .ok (.aload_n 0, 1) := by decide +kernel
theorem dX6_worth_11 : decode cX6_worth 11 = .ok (.aload_n 1, 1) := by decide +kernel
theorem dX6_worth_12 : decode cX6_worth 12 = .ok (.aload_n 2, 1) := by decide +kernel
theorem dX6_worth_13 : decode cX6_worth 13 = .ok (.iload_n 3, 1) := by decide +kernel
theorem dX6_worth_14 : decode cX6_worth 14 = .ok (.aload 4, 2) := by decide +kernel
theorem dX6_worth_16 : decode cX6_worth 16 = .ok (.invokespecial 9, 3) := by decide +kernel
theorem dX6_worth_19 : decode cX6_worth 19 = .ok (.iload_n 3, 1) := by decide +kernel
theorem dX6_worth_20 : decode cX6_worth 20 = .ok (.iadd, 1) := by decide +kernel
theorem dX6_worth_21 : decode cX6_worth 21 = .ok (.ireturn, 1) := by decide +kernel
theorem dX7_init_0 : decode cX7_init 0 = .ok (.aload_n 0, 1) := by decide +kernel
theorem dX7_init_1 : decode cX7_init 1 = .ok (.invokespecial 1, 3) := by decide +kernel
theorem dX7_init_4 : decode cX7_init 4 = .ok (.return_, 1) := by decide +kernel
theorem dX7_worth_0 : decode cX7_worth 0 = .ok (.aload 4, 2) := by decide +kernel
theorem dX7_worth_2 : decode cX7_worth 2 = .ok (.iconst 0, 1) := by decide +kernel
theorem dX7_worth_3 : decode cX7_worth 3 = .ok (.dup2, 1) := by decide +kernel
theorem dX7_worth_4 : decode cX7_worth 4 = .ok (.laload, 1) := by decide +kernel
theorem dX7_worth_5 : decode cX7_worth 5 = .ok (.lconst 1, 1) := by decide +kernel
theorem dX7_worth_6 : decode cX7_worth 6 = .ok (.ladd, 1) := by decide +kernel
theorem dX7_worth_7 : decode cX7_worth 7 = .ok (.lastore, 1) := by decide +kernel
theorem dX7_worth_8 : decode cX7_worth 8 = .ok (.aload_n 1, 1) := by decide +kernel
theorem dX7_worth_9 : decode cX7_worth 9 = .ok (.getfield 7, 3) := by decide +kernel
theorem dX7_worth_12 : decode cX7_worth 12 = .ok (.iload_n 3, 1) := by decide +kernel
theorem dX7_worth_13 : decode cX7_worth 13 = .ok (.iaload, 1) := by decide +kernel
theorem dX7_worth_14 : decode cX7_worth 14 = .ok (.ireturn, 1) := by decide +kernel
theorem dX8_init_0 : decode cX8_init 0 = .ok (.aload_n 0, 1) := by decide +kernel
theorem dX8_init_1 : decode cX8_init 1 = .ok (.invokespecial 1, 3) := by decide +kernel
theorem dX8_init_4 : decode cX8_init 4 = .ok (.aload_n 0, 1) := by decide +kernel
theorem dX8_init_5 : decode cX8_init 5 = .ok (.bipush 10, 2) := by decide +kernel
theorem dX8_init_7 : decode cX8_init 7 = .ok (.anewarray 9, 3) := by decide +kernel
theorem dX8_init_10 : decode cX8_init 10 = .ok (.putfield 11, 3) := by decide +kernel
theorem dX8_init_13 : decode cX8_init 13 = .ok (.iconst 0, 1) := by decide +kernel
theorem dX8_init_14 : decode cX8_init 14 = .ok (.istore_n 1, 1) := by decide +kernel
theorem dX8_init_15 : decode cX8_init 15 = .ok (.iload_n 1, 1) := by decide +kernel
theorem dX8_init_16 : decode cX8_init 16 = .ok (.bipush 10, 2) := by decide +kernel
theorem dX8_init_18 : decode cX8_init 18 = .ok (.if_icmp .ge 22, 3) := by decide +kernel
theorem dX8_init_21 : decode cX8_init 21 = .ok (.aload_n 0, 1) := by decide +kernel
theorem dX8_init_22 : decode cX8_init 22 = .ok (.getfield 11, 3) := by decide +kernel
theorem dX8_init_25 : decode cX8_init 25 = .ok (.iload_n 1, 1) := by decide +kernel
theorem dX8_init_26 : decode cX8_init 26 = .ok (.new 9, 3) := by decide +kernel
theorem dX8_init_29 : decode cX8_init 29 = .ok (.dup, 1) := by decide +kernel
theorem dX8_init_30 : decode cX8_init 30 = .ok (.invokespecial 15, 3) := by decide +kernel
theorem dX8_init_33 : decode cX8_init 33 = .ok (.aastore, 1) := by decide +kernel
theorem dX8_init_34 : decode cX8_init 34 = .ok (.iinc 1 1, 3) := by decide +kernel
theorem dX8_init_37 : decode cX8_init 37 = .ok (.goto (-22), 3) := by decide +kernel
theorem dX8_init_40 : decode cX8_init 40 = .ok (.return_, 1) := by decide +kernel
theorem dX8_lose_0 : decode cX8_lose 0 = .ok (.aload_n 0, 1) := by decide +kernel
theorem dX8_lose_1 : decode cX8_lose 1 = .ok (.iconst 0, 1) := by decide +kernel
theorem dX8_lose_2 : decode cX8_lose 2 = .ok (.putfield 16, 3) := by decide +kernel
theorem dX8_lose_5 : decode cX8_lose 5 = .ok (.return_, 1) := by decide +kernel
theorem dX8_add_0 : decode cX8_add 0 = .ok (.aload_n 0, 1) := by decide +kernel
theorem dX8_add_1 : decode cX8_add 1 = .ok (.aload_n 0, 1) := by decide +kernel
theorem dX8_add_2 : decode cX8_add 2 = .ok (.getfield 20, 3) := by decide +kernel
theorem dX8_add_5 : decode cX8_add 5 = .ok (.iconst 1, 1) := by decide +kernel
theorem dX8_add_6 : decode cX8_add 6 = .ok (.iadd, 1) := by decide +kernel
theorem dX8_add_7 : decode cX8_add 7 = .ok (.bipush 10, 2) := by decide +kernel
theorem dX8_add_9 : decode cX8_add 9 = .ok (.irem, 1) := by decide +kernel
theorem dX8_add_10 : decode cX8_add 10 = .ok (.putfield 20, 3) := by decide +kernel
theorem dX8_add_13 : decode cX8_add 13 = .ok (.aload_n 0, 1) := by decide +kernel
theorem dX8_add_14 : decode cX8_add 14 = .ok (.getfield 11, 3) := by decide +kernel
theorem dX8_add_17 : decode cX8_add 17 = .ok (.aload_n 0, 1) := by decide +kernel
theorem dX8_add_18 : decode cX8_add 18 = .ok (.getfield 20, 3) := by decide +kernel
theorem dX8_add_21 : decode cX8_add 21 = .ok (.aaload, 1) := by decide +kernel
theorem dX8_add_22 : decode cX8_add 22 = .ok (.aload_n 1, 1) := by decide +kernel
theorem dX8_add_23 : decode cX8_add 23 = .ok (.invokevirtual 23, 3) := by decide +kernel
theorem dX8_add_26 : decode cX8_add 26 = .ok (.aload_n 0, 1) := by decide +kernel
theorem dX8_add_27 : decode cX8_add 27 = .ok (.aload_n 0, 1) := by decide +kernel
theorem dX8_add_28 : decode cX8_add 28 = .ok (.getfield 16, 3) := by decide +kernel
theorem dX8_add_31 : decode cX8_add 31 = .ok (.iconst 1, 1) := by decide +kernel
theorem dX8_add_32 : decode cX8_add 32 = .ok (.iadd, 1) := by decide +kernel
theorem dX8_add_33 : decode cX8_add 33 = .ok (.bipush 10, 2) := by decide +kernel
theorem dX8_add_35 : decode cX8_add 35 = .ok (.invokestatic 27, 3) := by decide +kernel
theorem dX8_add_38 : decode cX8_add 38 = .ok (.putfield 16, 3) := by decide +kernel
theorem dX8_add_41 : decode cX8_add 41 = .ok (.return_, 1) := by decide +kernel
theorem dX8_restore_0 : decode cX8_restore 0 = .ok (.aload_n 0, 1) := by decide +kernel
theorem dX8_restore_1 : decode cX8_restore 1 = .ok (.getfield 16, 3) := by decide +kernel
theorem dX8_restore_4 : decode cX8_restore 4 = .ok (.ifCond .gt 5, 3) := by decide +kernel
theorem dX8_restore_7 : decode cX8_restore 7 = .ok (.iconst 0, 1) := by decide +kernel
theorem dX8_restore_8 : decode cX8_restore 8 = .ok (.ireturn, 1) := by decide +kernel
theorem dX8_restore_9 : decode cX8_restore 9 = .ok (.aload_n 1, 1) := by decide +kernel
theorem dX8_restore_10 : decode cX8_restore 10 = .ok (.aload_n 0, 1) := by decide +kernel
theorem dX8_restore_11 : decode cX8_restore 11 = .ok (.getfield 11, 3) := by decide +kernel
theorem dX8_restore_14 : decode cX8_restore 14 = .ok (.aload_n 0, 1) := by decide +kernel
theorem dX8_restore_15 : decode cX8_restore 15 = .ok (.getfield 20, 3) := by decide +kernel
theorem dX8_restore_18 : decode cX8_restore 18 = .ok (.aaload, 1) := by decide +kernel
theorem dX8_restore_19 : decode cX8_restore 19 = .ok (.invokevirtual 23, 3) := by decide +kernel
theorem dX8_restore_22 : decode cX8_restore 22 = .ok (.aload_n 0, 1) := by decide +kernel
theorem dX8_restore_23 : decode cX8_restore 23 = .ok (.aload_n 0, 1) := by decide +kernel
theorem dX8_restore_24 : decode cX8_restore 24 = .ok (.getfield 20, 3) := by decide +kernel
theorem dX8_restore_27 : decode cX8_restore 27 = .ok (.bipush 10, 2) := by decide +kernel
theorem dX8_restore_29 : decode cX8_restore 29 = .ok (.iadd, 1) := by decide +kernel
theorem dX8_restore_30 : decode cX8_restore 30 = .ok (.iconst 1, 1) := by decide +kernel
theorem dX8_restore_31 : decode cX8_restore 31 = .ok (.isub, 1) := by decide +kernel
theorem dX8_restore_32 : decode cX8_restore 32 = .ok (.bipush 10, 2) := by decide +kernel
theorem dX8_restore_34 : decode cX8_restore 34 = .ok (.irem, 1) := by decide +kernel
theorem dX8_restore_35 : decode cX8_restore 35 = .ok (.putfield 20, 3) := by decide +kernel
theorem dX8_restore_38 : decode cX8_restore 38 = .ok (.aload_n 0, 1) := by decide +kernel
theorem dX8_restore_39 : decode cX8_restore 39 = .ok (.dup, 1) := by decide +kernel
theorem dX8_restore_40 : decode cX8_restore 40 = .ok (.getfield 16, 3) := by decide +kernel
theorem dX8_restore_43 : decode cX8_restore 43 = .ok (.iconst 1, 1) := by decide +kernel
theorem dX8_restore_44 : decode cX8_restore 44 = .ok (.isub, 1) := by decide +kernel
theorem dX8_restore_45 : decode cX8_restore 45 = .ok (.putfield 16, 3) := by decide +kernel
theorem dX8_restore_48 : decode cX8_restore 48 = .ok (.iconst 1, 1) := by decide +kernel
theorem dX8_restore_49 : decode cX8_restore 49 = .ok (.ireturn, 1) := by decide +kernel
theorem dX9_init_0 : decode cX9_init 0 = .ok (.aload_n 0, 1) := by decide +kernel
theorem dX9_init_1 : decode cX9_init 1 = .ok (.invokespecial 3, 3) := by decide +kernel
theorem dX9_init_4 : decode cX9_init 4 = .ok (.aload_n 0, 1) := by decide +kernel
theorem dX9_init_5 : decode cX9_init 5 = .ok (.iconst 4, 1) := by decide +kernel
theorem dX9_init_6 : decode cX9_init 6 = .ok (.anewarray 9, 3) := by decide +kernel
theorem dX9_init_9 : decode cX9_init 9 = .ok (.putfield 11, 3) := by decide +kernel
theorem dX9_init_12 : decode cX9_init 12 = .ok (.aload_n 0, 1) := by decide +kernel
theorem dX9_init_13 : decode cX9_init 13 = .ok (.iconst 3, 1) := by decide +kernel
theorem dX9_init_14 : decode cX9_init 14 = .ok (.newarray .int, 2) := by decide +kernel
theorem dX9_init_16 : decode cX9_init 16 = .ok (.putfield 17, 3) := by decide +kernel
theorem dX9_init_19 : decode cX9_init 19 = .ok (.aload_n 0, 1) := by decide +kernel
theorem dX9_init_20 : decode cX9_init 20 = .ok (.iconst 3, 1) := by decide +kernel
theorem dX9_init_21 : decode cX9_init 21 = .ok (.newarray .int, 2) := by decide +kernel
theorem dX9_init_23 : decode cX9_init 23 = .ok (.putfield 21, 3) := by decide +kernel
theorem dX9_init_26 : decode cX9_init 26 = .ok (.iconst 0, 1) := by decide +kernel
theorem dX9_init_27 : decode cX9_init 27 = .ok (.istore_n 1, 1) := by decide +kernel
theorem dX9_init_28 : decode cX9_init 28 = .ok (.iload_n 1, 1) := by decide +kernel
theorem dX9_init_29 : decode cX9_init 29 = .ok (.aload_n 0, 1) := by decide +kernel
theorem dX9_init_30 : decode cX9_init 30 = .ok (.getfield 11, 3) := by decide +kernel
theorem dX9_init_33 : decode cX9_init 33 = .ok (.arraylength, 1) := by decide +kernel
theorem dX9_init_34 : decode cX9_init 34 = .ok (.if_icmp .ge 22, 3) := by decide +kernel
theorem dX9_init_37 : decode cX9_init 37 = .ok (.aload_n 0, 1) := by decide +kernel
theorem dX9_init_38 : decode cX9_init 38 = .ok (.getfield 11, 3) := by decide +kernel
theorem dX9_init_41 : decode cX9_init 41 = .ok (.iload_n 1, 1) := by decide +kernel
theorem dX9_init_42 : decode cX9_init 42 = .ok (.new 9, 3) := by decide +kernel
theorem dX9_init_45 : decode cX9_init 45 = .ok (.dup, 1) := by decide +kernel
theorem dX9_init_46 : decode cX9_init 46 = .ok (.invokespecial 24, 3) := by decide +kernel
theorem dX9_init_49 : decode cX9_init 49 = .ok (.aastore, 1) := by decide +kernel
theorem dX9_init_50 : decode cX9_init 50 = .ok (.iinc 1 1, 3) := by decide +kernel
theorem dX9_init_53 : decode cX9_init 53 = .ok (.goto (-25), 3) := by decide +kernel
theorem dX9_init_56 : decode cX9_init 56 = .ok (.return_, 1) := by decide +kernel
theorem dX9_search_0 : decode cX9_search 0 = .ok (.aload_n 0, 1) := by decide +kernel
theorem dX9_search_1 : decode cX9_search 1 = .ok (.iload_n 3, 1) := by decide +kernel
theorem dX9_search_2 : decode cX9_search 2 = .ok (.iconst 3, 1) := by decide +kernel
theorem dX9_search_3 : decode cX9_search 3 = .ok (.invokestatic 25, 3) := by decide +kernel
theorem dX9_search_6 : decode cX9_search 6 = .ok (.putfield 31, 3) := by decide +kernel
theorem dX9_search_9 : decode cX9_search 9 = .ok (.aload_n 0, 1) := by decide +kernel
theorem dX9_search_10 : decode cX9_search 10 = .ok (.iload 4, 2) := by decide +kernel
theorem dX9_search_12 : decode cX9_search 12 = .ok (.putfield 35, 3) := by decide +kernel
theorem dX9_search_15 : decode cX9_search 15 = .ok (.aload_n 0, 1) := by decide +kernel
theorem dX9_search_16 : decode cX9_search 16 = .ok (.sipush 401, 3) := by decide +kernel
theorem dX9_search_19 : decode cX9_search 19 = .ok (.putfield 38, 3) := by decide +kernel
theorem dX9_search_22 : decode cX9_search 22 = .ok (.aload_n 0, 1) := by decide +kernel
theorem dX9_search_23 : decode cX9_search 23 = .ok (.getfield 11, 3) := by decide +kernel
theorem dX9_search_26 : decode cX9_search 26 = .ok (.iconst 0, 1) := by decide +kernel
theorem dX9_search_27 : decode cX9_search 27 = .ok (.aaload, 1) := by decide +kernel
theorem dX9_search_28 : decode cX9_search 28 = .ok (.aload_n 2, 1) := by decide +kernel
theorem dX9_search_29 : decode cX9_search 29 = .ok (.invokevirtual 41, 3) := by decide +kernel
theorem dX9_search_32 : decode cX9_search 32 = .ok (.aload_n 0, 1) := by decide +kernel
theorem dX9_search_33 : decode cX9_search 33 = .ok (.aload_n 1, 1) := by decide +kernel
theorem dX9_search_34 : decode cX9_search 34 = .ok (.iconst 0, 1) := by decide +kernel
theorem dX9_search_35 : decode cX9_search 35 = .ok (.invokevirtual 45, 3) := by decide +kernel
theorem dX9_search_38 : decode cX9_search 38 = .ok (.return_, 1) := by decide +kernel
theorem dX9_tryAll_0 : decode cX9_tryAll 0 = .ok (.iload_n 2, 1) := by decide +kernel
theorem dX9_tryAll_1 : decode cX9_tryAll 1 = .ok (.ifCond .lt 20, 3) := by decide +kernel
theorem dX9_tryAll_4 : decode cX9_tryAll 4 = .ok (.iload_n 2, 1) := by decide +kernel
theorem dX9_tryAll_5 : decode cX9_tryAll 5 = .ok (.aload_n 0, 1) := by decide +kernel
theorem dX9_tryAll_6 : decode cX9_tryAll 6 = .ok (.getfield 31, 3) := by decide +kernel
theorem dX9_tryAll_9 : decode cX9_tryAll 9 = .ok (.if_icmp .gt 12, 3) := by decide +kernel
theorem dX9_tryAll_12 : decode cX9_tryAll 12 = .ok (.iload_n 2, 1) := by decide +kernel
theorem dX9_tryAll_13 : decode cX9_tryAll 13 = .ok (.aload_n 0, 1) := by decide +kernel
theorem dX9_tryAll_14 : decode cX9_tryAll 14 = .ok (.getfield 11, 3) := by decide +kernel
theorem dX9_tryAll_17 : decode cX9_tryAll 17 = .ok (.arraylength, 1) := by decide +kernel
theorem dX9_tryAll_18 : decode cX9_tryAll 18 = .ok (.if_icmp .lt 4, 3) := by decide +kernel
theorem dX9_tryAll_21 : decode cX9_tryAll 21 = .ok (.return_, 1) := by decide +kernel
theorem dX9_tryAll_22 : decode cX9_tryAll 22 = .ok (.iload_n 2, 1) := by decide +kernel
theorem dX9_tryAll_23 : decode cX9_tryAll 23 = .ok (.aload_n 0, 1) := by decide +kernel
theorem dX9_tryAll_24 : decode cX9_tryAll 24 = .ok (.getfield 31, 3) := by decide +kernel
theorem dX9_tryAll_27 : decode cX9_tryAll 27 = .ok (.if_icmp .eq 19, 3) := by decide +kernel
theorem dX9_tryAll_30 : decode cX9_tryAll 30 = .ok (.aload_n 1, 1) := by decide +kernel
theorem dX9_tryAll_31 : decode cX9_tryAll 31 = .ok (.aload_n 0, 1) := by decide +kernel
theorem dX9_tryAll_32 : decode cX9_tryAll 32 = .ok (.getfield 11, 3) := by decide +kernel
theorem dX9_tryAll_35 : decode cX9_tryAll 35 = .ok (.iload_n 2, 1) := by decide +kernel
theorem dX9_tryAll_36 : decode cX9_tryAll 36 = .ok (.aaload, 1) := by decide +kernel
theorem dX9_tryAll_37 : decode cX9_tryAll 37 = .ok (.getfield 49, 3) := by decide +kernel
theorem dX9_tryAll_40 : decode cX9_tryAll 40 = .ok (.invokevirtual 52, 3) := by decide +kernel
theorem dX9_tryAll_43 : decode cX9_tryAll 43 = .ok (.ifCond .eq 10, 3) := by decide +kernel
theorem dX9_tryAll_46 : decode cX9_tryAll 46 = .ok (.aload_n 0, 1) := by decide +kernel
theorem dX9_tryAll_47 : decode cX9_tryAll 47 = .ok (.aload_n 1, 1) := by decide +kernel
theorem dX9_tryAll_48 : decode cX9_tryAll 48 = .ok (.iload_n 2, 1) := by decide +kernel
theorem dX9_tryAll_49 : decode cX9_tryAll 49 = .ok (.invokevirtual 58, 3) := by decide +kernel
theorem dX9_tryAll_52 : decode cX9_tryAll 52 = .ok (.return_, 1) := by decide +kernel
theorem dX9_tryAll_53 : decode cX9_tryAll 53 = .ok (.iconst (-1), 1) := by decide +kernel
theorem dX9_tryAll_54 : decode cX9_tryAll 54 = .ok (.istore_n 3, 1) := by decide +kernel
theorem dX9_tryAll_55 : decode cX9_tryAll 55 = .ok (.iload_n 3, 1) := by decide +kernel
theorem dX9_tryAll_56 : decode cX9_tryAll 56 = .ok (.aload_n 1, 1) := by decide +kernel
theorem dX9_tryAll_57 : decode cX9_tryAll 57 = .ok (.getfield 61, 3) := by decide +kernel
theorem dX9_tryAll_60 : decode cX9_tryAll 60 = .ok (.if_icmp .ge 73, 3) := by decide +kernel
theorem dX9_tryAll_63 : decode cX9_tryAll 63 = .ok (.aload_n 0, 1) := by decide +kernel
theorem dX9_tryAll_64 : decode cX9_tryAll 64 = .ok (.getfield 17, 3) := by decide +kernel
theorem dX9_tryAll_67 : decode cX9_tryAll 67 = .ok (.iload_n 2, 1) := by decide +kernel
theorem dX9_tryAll_68 : decode cX9_tryAll 68 = .ok (.iload_n 3, 1) := by decide +kernel
theorem dX9_tryAll_69 : decode cX9_tryAll 69 = .ok (.ifCond .ge 8, 3) := by decide +kernel
theorem dX9_tryAll_72 : decode cX9_tryAll 72 = .ok (.bipush (-5), 2) := by decide +kernel
theorem dX9_tryAll_74 : decode cX9_tryAll 74 = .ok (.goto 4, 3) := by decide +kernel
theorem dX9_tryAll_77 : decode cX9_tryAll 77 = .ok (.iload_n 3, 1) := by decide +kernel
theorem dX9_tryAll_78 : decode cX9_tryAll 78 = .ok (.iastore, 1) := by decide +kernel
theorem dX9_tryAll_79 : decode cX9_tryAll 79 = .ok (.aload_n 0, 1) := by decide +kernel
theorem dX9_tryAll_80 : decode cX9_tryAll 80 = .ok (.getfield 11, 3) := by decide +kernel
theorem dX9_tryAll_83 : decode cX9_tryAll 83 = .ok (.iload_n 2, 1) := by decide +kernel
theorem dX9_tryAll_84 : decode cX9_tryAll 84 = .ok (.iconst 1, 1) := by decide +kernel
theorem dX9_tryAll_85 : decode cX9_tryAll 85 = .ok (.iadd, 1) := by decide +kernel
theorem dX9_tryAll_86 : decode cX9_tryAll 86 = .ok (.aaload, 1) := by decide +kernel
theorem dX9_tryAll_87 : decode cX9_tryAll 87 = .ok (.astore 4, 2) := by decide +kernel
theorem dX9_tryAll_89 : decode cX9_tryAll 89 = .ok (.aload 4, 2) := by decide +kernel
theorem dX9_tryAll_91 : decode cX9_tryAll 91 = .ok (.aload_n 0, 1) := by decide +kernel
theorem dX9_tryAll_92 : decode cX9_tryAll 92 = .ok (.getfield 11, 3) := by decide +kernel
theorem dX9_tryAll_95 : decode cX9_tryAll 95 = .ok (.iload_n 2, 1) := by decide +kernel
theorem dX9_tryAll_96 : decode cX9_tryAll 96 = .ok (.aaload, 1) := by decide +kernel
theorem dX9_tryAll_97 : decode cX9_tryAll 97 = .ok (.invokevirtual 41, 3) := by decide +kernel
theorem dX9_tryAll_100 : decode cX9_tryAll 100 = .ok (.iload_n 3, 1) := by decide +kernel
theorem dX9_tryAll_101 : decode cX9_tryAll 101 = .ok (.ifCond .lt 12, 3) := by decide +kernel
theorem dX9_tryAll_104 : decode cX9_tryAll 104 = .ok (.aload 4, 2) := by decide +kernel
theorem dX9_tryAll_106 : decode cX9_tryAll 106 = .ok (.aload_n 1, 1) := by decide +kernel
theorem dX9_tryAll_107 : decode cX9_tryAll 107 = .ok (.iconst 1, 1) := by decide +kernel
theorem dX9_tryAll_108 : decode cX9_tryAll 108 = .ok (.iload_n 3, 1) := by decide +kernel
theorem dX9_tryAll_109 : decode cX9_tryAll 109 = .ok (.ishl, 1) := by decide +kernel
theorem dX9_tryAll_110 : decode cX9_tryAll 110 = .ok (.invokevirtual 64, 3) := by decide +kernel
theorem dX9_tryAll_113 : decode cX9_tryAll 113 = .ok (.aload 4, 2) := by decide +kernel
theorem dX9_tryAll_115 : decode cX9_tryAll 115 = .ok (.aload_n 1, 1) := by decide +kernel
theorem dX9_tryAll_116 : decode cX9_tryAll 116 = .ok (.invokevirtual 67, 3) := by decide +kernel
theorem dX9_tryAll_119 : decode cX9_tryAll 119 = .ok (.aload_n 0, 1) := by decide +kernel
theorem dX9_tryAll_120 : decode cX9_tryAll 120 = .ok (.aload_n 1, 1) := by decide +kernel
theorem dX9_tryAll_121 : decode cX9_tryAll 121 = .ok (.iload_n 2, 1) := by decide +kernel
theorem dX9_tryAll_122 : decode cX9_tryAll 122 = .ok (.iconst 1, 1) := by decide +kernel
theorem dX9_tryAll_123 : decode cX9_tryAll 123 = .ok (.iadd, 1) := by decide +kernel
theorem dX9_tryAll_124 : decode cX9_tryAll 124 = .ok (.invokevirtual 45, 3) := by decide +kernel
theorem dX9_tryAll_127 : decode cX9_tryAll 127 = .ok (.iinc 3 1, 3) := by decide +kernel
theorem dX9_tryAll_130 : decode cX9_tryAll 130 = .ok (.goto (-75), 3) := by decide +kernel
theorem dX9_tryAll_133 : decode cX9_tryAll 133 = .ok (.return_, 1) := by decide +kernel
theorem dX9_weigh_0 : decode cX9_weigh 0 = .ok (.aload_n 0, 1) := by decide +kernel
theorem dX9_weigh_1 : decode cX9_weigh 1 = .ok (.getfield 11, 3) := by decide +kernel
theorem dX9_weigh_4 : decode cX9_weigh 4 = .ok (.iload_n 2, 1) := by decide +kernel
theorem dX9_weigh_5 : decode cX9_weigh 5 = .ok (.aaload, 1) := by decide +kernel
theorem dX9_weigh_6 : decode cX9_weigh 6 = .ok (.astore_n 3, 1) := by decide +kernel
theorem dX9_weigh_7 : decode cX9_weigh 7 = .ok (.aload_n 3, 1) := by decide +kernel
theorem dX9_weigh_8 : decode cX9_weigh 8 = .ok (.aload_n 1, 1) := by decide +kernel
theorem dX9_weigh_9 : decode cX9_weigh 9 = .ok (.aload_n 0, 1) := by decide +kernel
theorem dX9_weigh_10 : decode cX9_weigh 10 = .ok (.getfield 38, 3) := by decide +kernel
theorem dX9_weigh_13 : decode cX9_weigh 13 = .ok (.iconst 1, 1) := by decide +kernel
theorem dX9_weigh_14 : decode cX9_weigh 14 = .ok (.isub, 1) := by decide +kernel
theorem dX9_weigh_15 : decode cX9_weigh 15 = .ok (.iload_n 2, 1) := by decide +kernel
theorem dX9_weigh_16 : decode cX9_weigh 16 = .ok (.isub, 1) := by decide +kernel
theorem dX9_weigh_17 : decode cX9_weigh 17 = .ok (.invokevirtual 71, 3) := by decide +kernel
theorem dX9_weigh_20 : decode cX9_weigh 20 = .ok (.istore 4, 2) := by decide +kernel
theorem dX9_weigh_22 : decode cX9_weigh 22 = .ok (.iload 4, 2) := by decide +kernel
theorem dX9_weigh_24 : decode cX9_weigh 24 = .ok (.bipush (-9), 2) := by decide +kernel
theorem dX9_weigh_26 : decode cX9_weigh 26 = .ok (.if_icmp .eq 22, 3) := by decide +kernel
theorem dX9_weigh_29 : decode cX9_weigh 29 = .ok (.iconst 0, 1) := by decide +kernel
theorem dX9_weigh_30 : decode cX9_weigh 30 = .ok (.aload_n 1, 1) := by decide +kernel
theorem dX9_weigh_31 : decode cX9_weigh 31 = .ok (.aload_n 3, 1) := by decide +kernel
theorem dX9_weigh_32 : decode cX9_weigh 32 = .ok (.getfield 75, 3) := by decide +kernel
theorem dX9_weigh_35 : decode cX9_weigh 35 = .ok (.invokevirtual 78, 3) := by decide +kernel
theorem dX9_weigh_38 : decode cX9_weigh 38 = .ok (.invokestatic 82, 3) := by decide +kernel
theorem dX9_weigh_41 : decode cX9_weigh 41 = .ok (.aload_n 0, 1) := by decide +kernel
theorem dX9_weigh_42 : decode cX9_weigh 42 = .ok (.getfield 35, 3) := by decide +kernel
theorem dX9_weigh_45 : decode cX9_weigh 45 = .ok (.if_icmp .ge 4, 3) := by decide +kernel
theorem dX9_weigh_48 : decode cX9_weigh 48 = .ok (.return_, 1) := by decide +kernel
theorem dX9_weigh_49 : decode cX9_weigh 49 = .ok (.aload_n 0, 1) := by decide +kernel
theorem dX9_weigh_50 : decode cX9_weigh 50 = .ok (.iload_n 2, 1) := by decide +kernel
theorem dX9_weigh_51 : decode cX9_weigh 51 = .ok (.iload 4, 2) := by decide +kernel
theorem dX9_weigh_53 : decode cX9_weigh 53 = .ok (.iadd, 1) := by decide +kernel
theorem dX9_weigh_54 : decode cX9_weigh 54 = .ok (.putfield 38, 3) := by decide +kernel
theorem dX9_weigh_57 : decode cX9_weigh 57 = .ok (.iconst 0, 1) := by decide +kernel
theorem dX9_weigh_58 : decode cX9_weigh 58 = .ok (.istore 5, 2) := by decide +kernel
theorem dX9_weigh_60 : decode cX9_weigh 60 = .ok (.iload 5, 2) := by decide +kernel
theorem dX9_weigh_62 : decode cX9_weigh 62 = .ok (.iconst 3, 1) := by decide +kernel
theorem dX9_weigh_63 : decode cX9_weigh 63 = .ok (.if_icmp .ge 34, 3) := by decide +kernel
theorem dX9_weigh_66 : decode cX9_weigh 66 = .ok (.aload_n 0, 1) := by decide +kernel
theorem dX9_weigh_67 : decode cX9_weigh 67 = .ok (.getfield 21, 3) := by decide +kernel
theorem dX9_weigh_70 : decode cX9_weigh 70 = .ok (.iload 5, 2) := by decide +kernel
theorem dX9_weigh_72 : decode cX9_weigh 72 = .ok (.iload 5, 2) := by decide +kernel
theorem dX9_weigh_74 : decode cX9_weigh 74 = .ok (.iload_n 2, 1) := by decide +kernel
theorem dX9_weigh_75 : decode cX9_weigh 75 = .ok (.if_icmp .ge 13, 3) := by decide +kernel
theorem dX9_weigh_78 : decode cX9_weigh 78 = .ok (.aload_n 0, 1) := by decide +kernel
theorem dX9_weigh_79 : decode cX9_weigh 79 = .ok (.getfield 17, 3) := by decide +kernel
theorem dX9_weigh_82 : decode cX9_weigh 82 = .ok (.iload 5, 2) := by decide +kernel
theorem dX9_weigh_84 : decode cX9_weigh 84 = .ok (.iaload, 1) := by decide +kernel
theorem dX9_weigh_85 : decode cX9_weigh 85 = .ok (.goto 5, 3) := by decide +kernel
theorem dX9_weigh_88 : decode cX9_weigh 88 = .ok (.bipush (-5), 2) := by decide +kernel
theorem dX9_weigh_90 : decode cX9_weigh 90 = .ok (.iastore, 1) := by decide +kernel
theorem dX9_weigh_91 : decode cX9_weigh 91 = .ok (.iinc 5 1, 3) := by decide +kernel
theorem dX9_weigh_94 : decode cX9_weigh 94 = .ok (.goto (-34), 3) := by decide +kernel
theorem dX9_weigh_97 : decode cX9_weigh 97 = .ok (.return_, 1) := by decide +kernel
theorem dX10_init_0 : decode cX10_init 0 = .ok (.aload_n 0, 1) := by decide +kernel
theorem dX10_init_1 : decode cX10_init 1 = .ok (.invokespecial 3, 3) := by decide +kernel
theorem dX10_init_4 : decode cX10_init 4 = .ok (.aload_n 0, 1) := by decide +kernel
theorem dX10_init_5 : decode cX10_init 5 = .ok (.sipush 200, 3) := by decide +kernel
theorem dX10_init_8 : decode cX10_init 8 = .ok (.newarray .int, 2) := by decide +kernel
theorem dX10_init_10 : decode cX10_init 10 = .ok (.putfield 9, 3) := by decide +kernel
theorem dX10_init_13 : decode cX10_init 13 = .ok (.return_, 1) := by decide +kernel
theorem dX10_append_0 : decode cX10_append 0 = .ok (.aload_n 0, 1) := by decide +kernel
theorem dX10_append_1 : decode cX10_append 1 = .ok (.getfield 15, 3) := by decide +kernel
theorem dX10_append_4 : decode cX10_append 4 = .ok (.sipush 200, 3) := by decide +kernel
theorem dX10_append_7 : decode cX10_append 7 = .ok (.if_icmp .lt 5, 3) := by decide +kernel
theorem dX10_append_10 : decode cX10_append 10 = .ok (.iconst 0, 1) := by decide +kernel
theorem dX10_append_11 : decode cX10_append 11 = .ok (.ireturn, 1) := by decide +kernel
theorem dX10_append_12 : decode cX10_append 12 = .ok (.aload_n 0, 1) := by decide +kernel
theorem dX10_append_13 : decode cX10_append 13 = .ok (.getfield 9, 3) := by decide +kernel
theorem dX10_append_16 : decode cX10_append 16 = .ok (.aload_n 0, 1) := by decide +kernel
theorem dX10_append_17 : decode cX10_append 17 = .ok (.getfield 15, 3) := by decide +kernel
theorem dX10_append_20 : decode cX10_append 20 = .ok (.iload_n 1, 1) := by decide +kernel
theorem dX10_append_21 : decode cX10_append 21 = .ok (.iastore, 1) := by decide +kernel
theorem dX10_append_22 : decode cX10_append 22 = .ok (.aload_n 0, 1) := by decide +kernel
theorem dX10_append_23 : decode cX10_append 23 = .ok (.dup, 1) := by decide +kernel
theorem dX10_append_24 : decode cX10_append 24 = .ok (.getfield 15, 3) := by decide +kernel
theorem dX10_append_27 : decode cX10_append 27 = .ok (.iconst 1, 1) := by decide +kernel
theorem dX10_append_28 : decode cX10_append 28 = .ok (.iadd, 1) := by decide +kernel
theorem dX10_append_29 : decode cX10_append 29 = .ok (.putfield 15, 3) := by decide +kernel
theorem dX10_append_32 : decode cX10_append 32 = .ok (.iconst 1, 1) := by decide +kernel
theorem dX10_append_33 : decode cX10_append 33 = .ok (.ireturn, 1) := by decide +kernel
theorem dX10_readInto_0 : decode cX10_readInto 0 = .ok (.aload_n 1, 1) := by decide +kernel
theorem dX10_readInto_1 : decode cX10_readInto 1 = .ok (.invokevirtual 19, 3) := by decide +kernel
theorem dX10_readInto_4 : decode cX10_readInto 4 = .ok (.aload_n 0, 1) := by decide +kernel
theorem dX10_readInto_5 : decode cX10_readInto 5 = .ok (.iconst 0, 1) := by decide +kernel
theorem dX10_readInto_6 : decode cX10_readInto 6 = .ok (.putfield 24, 3) := by decide +kernel
theorem dX10_readInto_9 : decode cX10_readInto 9 = .ok (.iconst 0, 1) := by decide +kernel
theorem dX10_readInto_10 : decode cX10_readInto 10 = .ok (.istore_n 2, 1) := by decide +kernel
theorem dX10_readInto_11 : decode cX10_readInto 11 = .ok (.aload_n 0, 1) := by decide +kernel
theorem dX10_readInto_12 : decode cX10_readInto 12 = .ok (.invokevirtual 27, 3) := by decide +kernel
theorem dX10_readInto_15 : decode cX10_readInto 15 = .ok (.iload_n 2, 1) := by decide +kernel
theorem dX10_readInto_16 : decode cX10_readInto 16 = .ok (.sipush 200, 3) := by decide +kernel
theorem dX10_readInto_19 : decode cX10_readInto 19 = .ok (.if_icmp .ge 44, 3) := by decide +kernel
theorem dX10_readInto_22 : decode cX10_readInto 22 = .ok (.aload_n 0, 1) := by decide +kernel
theorem dX10_readInto_23 : decode cX10_readInto 23 = .ok (.getfield 30, 3) := by decide +kernel
theorem dX10_readInto_26 : decode cX10_readInto 26 = .ok (.iconst (-1), 1) := by decide +kernel
theorem dX10_readInto_27 : decode cX10_readInto 27 = .ok (.if_icmp .eq 36, 3) := by decide +kernel
theorem dX10_readInto_30 : decode cX10_readInto 30 = .ok (.aload_n 0, 1) := by decide +kernel
theorem dX10_readInto_31 : decode cX10_readInto 31 = .ok (.aload_n 1, 1) := by decide +kernel
theorem dX10_readInto_32 : decode cX10_readInto 32 = .ok (.invokevirtual 33, 3) := by decide +kernel
theorem dX10_readInto_35 : decode cX10_readInto 35 = .ok (.ifCond .eq 10, 3) := by decide +kernel
theorem dX10_readInto_38 : decode cX10_readInto 38 = .ok (.aload_n 0, 1) := by decide +kernel
theorem dX10_readInto_39 : decode cX10_readInto 39 = .ok (.invokevirtual 37, 3) := by decide +kernel
theorem dX10_readInto_42 : decode cX10_readInto 42 = .ok (.ifCond .ne 11, 3) := by decide +kernel
theorem dX10_readInto_45 : decode cX10_readInto 45 = .ok (.bipush (-10), 2) := by decide +kernel
theorem dX10_readInto_47 : decode cX10_readInto 47 = .ok (.aload_n 0, 1) := by decide +kernel
theorem dX10_readInto_48 : decode cX10_readInto 48 = .ok (.getfield 41, 3) := by decide +kernel
theorem dX10_readInto_51 : decode cX10_readInto 51 = .ok (.isub, 1) := by decide +kernel
theorem dX10_readInto_52 : decode cX10_readInto 52 = .ok (.ireturn, 1) := by decide +kernel
theorem dX10_readInto_53 : decode cX10_readInto 53 = .ok (.iinc 2 1, 3) := by decide +kernel
theorem dX10_readInto_56 : decode cX10_readInto 56 = .ok (.aload_n 0, 1) := by decide +kernel
theorem dX10_readInto_57 : decode cX10_readInto 57 = .ok (.invokevirtual 27, 3) := by decide +kernel
theorem dX10_readInto_60 : decode cX10_readInto 60 = .ok (.goto (-45), 3) := by decide +kernel
theorem dX10_readInto_63 : decode cX10_readInto 63 = .ok (.aload_n 1, 1) := by decide +kernel
theorem dX10_readInto_64 : decode cX10_readInto 64 = .ok (.invokevirtual 44, 3) := by decide +kernel
theorem dX10_readInto_67 : decode cX10_readInto 67 = .ok (.iload_n 2, 1) := by decide +kernel
theorem dX10_readInto_68 : decode cX10_readInto 68 = .ok (.ireturn, 1) := by decide +kernel
theorem dX10_readItem_0 : decode cX10_readItem 0 = .ok (.aload_n 0, 1) := by decide +kernel
theorem dX10_readItem_1 : decode cX10_readItem 1 = .ok (.getfield 30, 3) := by decide +kernel
theorem dX10_readItem_4 : decode cX10_readItem 4 = .ok (.lookupswitch 102 #[(99, 59), (112, 36), (119, 81)], 36) := by decide +kernel
theorem dX10_readItem_40 : decode cX10_readItem 40 = .ok (.aload_n 1, 1) := by decide +kernel
theorem dX10_readItem_41 : decode cX10_readItem 41 = .ok (.getfield 47, 3) := by decide +kernel
theorem dX10_readItem_44 : decode cX10_readItem 44 = .ok (.bipush 6, 2) := by decide +kernel
theorem dX10_readItem_46 : decode cX10_readItem 46 = .ok (.if_icmp .ge 15, 3) := by decide +kernel
theorem dX10_readItem_49 : decode cX10_readItem 49 = .ok (.aload_n 0, 1) := by decide +kernel
theorem dX10_readItem_50 : decode cX10_readItem 50 = .ok (.aload_n 1, 1) := by decide +kernel
theorem dX10_readItem_51 : decode cX10_readItem 51 = .ok (.invokevirtual 50, 3) := by decide +kernel
theorem dX10_readItem_54 : decode cX10_readItem 54 = .ok (.ifCond .eq 7, 3) := by decide +kernel
theorem dX10_readItem_57 : decode cX10_readItem 57 = .ok (.iconst 1, 1) := by decide +kernel
theorem dX10_readItem_58 : decode cX10_readItem 58 = .ok (.goto 4, 3) := by decide +kernel
theorem dX10_readItem_61 : decode cX10_readItem 61 = .ok (.iconst 0, 1) := by decide +kernel
theorem dX10_readItem_62 : decode cX10_readItem 62 = .ok (.ireturn, 1) := by decide +kernel
theorem dX10_readItem_63 : decode cX10_readItem 63 = .ok (.aload_n 1, 1) := by decide +kernel
theorem dX10_readItem_64 : decode cX10_readItem 64 = .ok (.getfield 53, 3) := by decide +kernel
theorem dX10_readItem_67 : decode cX10_readItem 67 = .ok (.iconst 4, 1) := by decide +kernel
theorem dX10_readItem_68 : decode cX10_readItem 68 = .ok (.if_icmp .ge 15, 3) := by decide +kernel
theorem dX10_readItem_71 : decode cX10_readItem 71 = .ok (.aload_n 0, 1) := by decide +kernel
theorem dX10_readItem_72 : decode cX10_readItem 72 = .ok (.aload_n 1, 1) := by decide +kernel
theorem dX10_readItem_73 : decode cX10_readItem 73 = .ok (.invokevirtual 56, 3) := by decide +kernel
theorem dX10_readItem_76 : decode cX10_readItem 76 = .ok (.ifCond .eq 7, 3) := by decide +kernel
theorem dX10_readItem_79 : decode cX10_readItem 79 = .ok (.iconst 1, 1) := by decide +kernel
theorem dX10_readItem_80 : decode cX10_readItem 80 = .ok (.goto 4, 3) := by decide +kernel
theorem dX10_readItem_83 : decode cX10_readItem 83 = .ok (.iconst 0, 1) := by decide +kernel
theorem dX10_readItem_84 : decode cX10_readItem 84 = .ok (.ireturn, 1) := by decide +kernel
theorem dX10_readItem_85 : decode cX10_readItem 85 = .ok (.aload_n 1, 1) := by decide +kernel
theorem dX10_readItem_86 : decode cX10_readItem 86 = .ok (.getfield 59, 3) := by decide +kernel
theorem dX10_readItem_89 : decode cX10_readItem 89 = .ok (.ifCond .ne 15, 3) := by decide +kernel
theorem dX10_readItem_92 : decode cX10_readItem 92 = .ok (.aload_n 0, 1) := by decide +kernel
theorem dX10_readItem_93 : decode cX10_readItem 93 = .ok (.aload_n 1, 1) := by decide +kernel
theorem dX10_readItem_94 : decode cX10_readItem 94 = .ok (.invokevirtual 63, 3) := by decide +kernel
theorem dX10_readItem_97 : decode cX10_readItem 97 = .ok (.ifCond .eq 7, 3) := by decide +kernel
theorem dX10_readItem_100 : decode cX10_readItem 100 = .ok (.iconst 1, 1) := by decide +kernel
theorem dX10_readItem_101 : decode cX10_readItem 101 = .ok (.goto 4, 3) := by decide +kernel
theorem dX10_readItem_104 : decode cX10_readItem 104 = .ok (.iconst 0, 1) := by decide +kernel
theorem dX10_readItem_105 : decode cX10_readItem 105 = .ok (.ireturn, 1) := by decide +kernel
theorem dX10_readItem_106 : decode cX10_readItem 106 = .ok (.iconst 0, 1) := by decide +kernel
theorem dX10_readItem_107 : decode cX10_readItem 107 = .ok (.ireturn, 1) := by decide +kernel
theorem dX10_readPassenger_0 : decode cX10_readPassenger 0 = .ok (.aload_n 0, 1) := by decide +kernel
theorem dX10_readPassenger_1 : decode cX10_readPassenger 1 = .ok (.iconst 1, 1) := by decide +kernel
theorem dX10_readPassenger_2 : decode cX10_readPassenger 2 = .ok (.bipush 9, 2) := by decide +kernel
theorem dX10_readPassenger_4 : decode cX10_readPassenger 4 = .ok (.invokevirtual 66, 3) := by decide +kernel
theorem dX10_readPassenger_7 : decode cX10_readPassenger 7 = .ok (.ifCond .ne 5, 3) := by decide +kernel
theorem dX10_readPassenger_10 : decode cX10_readPassenger 10 = .ok (.iconst 0, 1) := by decide +kernel
theorem dX10_readPassenger_11 : decode cX10_readPassenger 11 = .ok (.ireturn, 1) := by decide +kernel
theorem dX10_readPassenger_12 : decode cX10_readPassenger 12 = .ok (.aload_n 0, 1) := by decide +kernel
theorem dX10_readPassenger_13 : decode cX10_readPassenger 13 = .ok (.getfield 70, 3) := by decide +kernel
theorem dX10_readPassenger_16 : decode cX10_readPassenger 16 = .ok (.istore_n 2, 1) := by decide +kernel
theorem dX10_readPassenger_17 : decode cX10_readPassenger 17 = .ok (.aload_n 0, 1) := by decide +kernel
theorem dX10_readPassenger_18 : decode cX10_readPassenger 18 = .ok (.iconst 1, 1) := by decide +kernel
theorem dX10_readPassenger_19 : decode cX10_readPassenger 19 = .ok (.bipush 30, 2) := by decide +kernel
theorem dX10_readPassenger_21 : decode cX10_readPassenger 21 = .ok (.invokevirtual 66, 3) := by decide +kernel
theorem dX10_readPassenger_24 : decode cX10_readPassenger 24 = .ok (.ifCond .ne 5, 3) := by decide +kernel
theorem dX10_readPassenger_27 : decode cX10_readPassenger 27 = .ok (.iconst 0, 1) := by decide +kernel
theorem dX10_readPassenger_28 : decode cX10_readPassenger 28 = .ok (.ireturn, 1) := by decide +kernel
theorem dX10_readPassenger_29 : decode cX10_readPassenger 29 = .ok (.aload_n 0, 1) := by decide +kernel
theorem dX10_readPassenger_30 : decode cX10_readPassenger 30 = .ok (.getfield 70, 3) := by decide +kernel
theorem dX10_readPassenger_33 : decode cX10_readPassenger 33 = .ok (.istore_n 3, 1) := by decide +kernel
theorem dX10_readPassenger_34 : decode cX10_readPassenger 34 = .ok (.aload_n 0, 1) := by decide +kernel
theorem dX10_readPassenger_35 : decode cX10_readPassenger 35 = .ok (.iconst 0, 1) := by decide +kernel
theorem dX10_readPassenger_36 : decode cX10_readPassenger 36 = .ok (.iconst 3, 1) := by decide +kernel
theorem dX10_readPassenger_37 : decode cX10_readPassenger 37 = .ok (.invokevirtual 66, 3) := by decide +kernel
theorem dX10_readPassenger_40 : decode cX10_readPassenger 40 = .ok (.ifCond .ne 5, 3) := by decide +kernel
theorem dX10_readPassenger_43 : decode cX10_readPassenger 43 = .ok (.iconst 0, 1) := by decide +kernel
theorem dX10_readPassenger_44 : decode cX10_readPassenger 44 = .ok (.ireturn, 1) := by decide +kernel
theorem dX10_readPassenger_45 : decode cX10_readPassenger 45 = .ok (.aload_n 1, 1) := by decide +kernel
theorem dX10_readPassenger_46 : decode cX10_readPassenger 46 = .ok (.iload_n 2, 1) := by decide +kernel
theorem dX10_readPassenger_47 : decode cX10_readPassenger 47 = .ok (.iload_n 3, 1) := by decide +kernel
theorem dX10_readPassenger_48 : decode cX10_readPassenger 48 = .ok (.aload_n 0, 1) := by decide +kernel
theorem dX10_readPassenger_49 : decode cX10_readPassenger 49 = .ok (.getfield 70, 3) := by decide +kernel
theorem dX10_readPassenger_52 : decode cX10_readPassenger 52 = .ok (.invokevirtual 73, 3) := by decide +kernel
theorem dX10_readPassenger_55 : decode cX10_readPassenger 55 = .ok (.iconst 1, 1) := by decide +kernel
theorem dX10_readPassenger_56 : decode cX10_readPassenger 56 = .ok (.ireturn, 1) := by decide +kernel
theorem dX10_readCurrent_0 : decode cX10_readCurrent 0 = .ok (.aload_n 0, 1) := by decide +kernel
theorem dX10_readCurrent_1 : decode cX10_readCurrent 1 = .ok (.iconst 0, 1) := by decide +kernel
theorem dX10_readCurrent_2 : decode cX10_readCurrent 2 = .ok (.sipush 199, 3) := by decide +kernel
theorem dX10_readCurrent_5 : decode cX10_readCurrent 5 = .ok (.invokevirtual 66, 3) := by decide +kernel
theorem dX10_readCurrent_8 : decode cX10_readCurrent 8 = .ok (.ifCond .eq 14, 3) := by decide +kernel
theorem dX10_readCurrent_11 : decode cX10_readCurrent 11 = .ok (.aload_n 1, 1) := by decide +kernel
theorem dX10_readCurrent_12 : decode cX10_readCurrent 12 = .ok (.aload_n 0, 1) := by decide +kernel
theorem dX10_readCurrent_13 : decode cX10_readCurrent 13 = .ok (.getfield 70, 3) := by decide +kernel
theorem dX10_readCurrent_16 : decode cX10_readCurrent 16 = .ok (.invokevirtual 77, 3) := by decide +kernel
theorem dX10_readCurrent_19 : decode cX10_readCurrent 19 = .ok (.ifCond .eq 5, 3) := by decide +kernel
theorem dX10_readCurrent_22 : decode cX10_readCurrent 22 = .ok (.iconst 0, 1) := by decide +kernel
theorem dX10_readCurrent_23 : decode cX10_readCurrent 23 = .ok (.ireturn, 1) := by decide +kernel
theorem dX10_readCurrent_24 : decode cX10_readCurrent 24 = .ok (.aload_n 0, 1) := by decide +kernel
theorem dX10_readCurrent_25 : decode cX10_readCurrent 25 = .ok (.getfield 70, 3) := by decide +kernel
theorem dX10_readCurrent_28 : decode cX10_readCurrent 28 = .ok (.istore_n 2, 1) := by decide +kernel
theorem dX10_readCurrent_29 : decode cX10_readCurrent 29 = .ok (.aload_n 0, 1) := by decide +kernel
theorem dX10_readCurrent_30 : decode cX10_readCurrent 30 = .ok (.iconst 0, 1) := by decide +kernel
theorem dX10_readCurrent_31 : decode cX10_readCurrent 31 = .ok (.bipush 8, 2) := by decide +kernel
theorem dX10_readCurrent_33 : decode cX10_readCurrent 33 = .ok (.invokevirtual 66, 3) := by decide +kernel
theorem dX10_readCurrent_36 : decode cX10_readCurrent 36 = .ok (.ifCond .ne 5, 3) := by decide +kernel
theorem dX10_readCurrent_39 : decode cX10_readCurrent 39 = .ok (.iconst 0, 1) := by decide +kernel
theorem dX10_readCurrent_40 : decode cX10_readCurrent 40 = .ok (.ireturn, 1) := by decide +kernel
theorem dX10_readCurrent_41 : decode cX10_readCurrent 41 = .ok (.aload_n 1, 1) := by decide +kernel
theorem dX10_readCurrent_42 : decode cX10_readCurrent 42 = .ok (.iload_n 2, 1) := by decide +kernel
theorem dX10_readCurrent_43 : decode cX10_readCurrent 43 = .ok (.aload_n 0, 1) := by decide +kernel
theorem dX10_readCurrent_44 : decode cX10_readCurrent 44 = .ok (.getfield 70, 3) := by decide +kernel
theorem dX10_readCurrent_47 : decode cX10_readCurrent 47 = .ok (.invokevirtual 81, 3) := by decide +kernel
theorem dX10_readCurrent_50 : decode cX10_readCurrent 50 = .ok (.iconst 1, 1) := by decide +kernel
theorem dX10_readCurrent_51 : decode cX10_readCurrent 51 = .ok (.ireturn, 1) := by decide +kernel
theorem dX10_readWide_0 : decode cX10_readWide 0 = .ok (.aload_n 0, 1) := by decide +kernel
theorem dX10_readWide_1 : decode cX10_readWide 1 = .ok (.bipush 10, 2) := by decide +kernel
theorem dX10_readWide_3 : decode cX10_readWide 3 = .ok (.sipush 200, 3) := by decide +kernel
theorem dX10_readWide_6 : decode cX10_readWide 6 = .ok (.invokevirtual 66, 3) := by decide +kernel
theorem dX10_readWide_9 : decode cX10_readWide 9 = .ok (.ifCond .ne 5, 3) := by decide +kernel
theorem dX10_readWide_12 : decode cX10_readWide 12 = .ok (.iconst 0, 1) := by decide +kernel
theorem dX10_readWide_13 : decode cX10_readWide 13 = .ok (.ireturn, 1) := by decide +kernel
theorem dX10_readWide_14 : decode cX10_readWide 14 = .ok (.aload_n 1, 1) := by decide +kernel
theorem dX10_readWide_15 : decode cX10_readWide 15 = .ok (.aload_n 0, 1) := by decide +kernel
theorem dX10_readWide_16 : decode cX10_readWide 16 = .ok (.getfield 70, 3) := by decide +kernel
theorem dX10_readWide_19 : decode cX10_readWide 19 = .ok (.putfield 85, 3) := by decide +kernel
theorem dX10_readWide_22 : decode cX10_readWide 22 = .ok (.aload_n 1, 1) := by decide +kernel
theorem dX10_readWide_23 : decode cX10_readWide 23 = .ok (.iconst 1, 1) := by decide +kernel
theorem dX10_readWide_24 : decode cX10_readWide 24 = .ok (.putfield 59, 3) := by decide +kernel
theorem dX10_readWide_27 : decode cX10_readWide 27 = .ok (.iconst 1, 1) := by decide +kernel
theorem dX10_readWide_28 : decode cX10_readWide 28 = .ok (.ireturn, 1) := by decide +kernel
theorem dX10_readSemicolon_0 : decode cX10_readSemicolon 0 = .ok (.aload_n 0, 1) := by decide +kernel
theorem dX10_readSemicolon_1 : decode cX10_readSemicolon 1 = .ok (.invokevirtual 27, 3) := by decide +kernel
theorem dX10_readSemicolon_4 : decode cX10_readSemicolon 4 = .ok (.aload_n 0, 1) := by decide +kernel
theorem dX10_readSemicolon_5 : decode cX10_readSemicolon 5 = .ok (.getfield 30, 3) := by decide +kernel
theorem dX10_readSemicolon_8 : decode cX10_readSemicolon 8 = .ok (.bipush 59, 2) := by decide +kernel
theorem dX10_readSemicolon_10 : decode cX10_readSemicolon 10 = .ok (.if_icmp .ne 7, 3) := by decide +kernel
theorem dX10_readSemicolon_13 : decode cX10_readSemicolon 13 = .ok (.iconst 1, 1) := by decide +kernel
theorem dX10_readSemicolon_14 : decode cX10_readSemicolon 14 = .ok (.goto 4, 3) := by decide +kernel
theorem dX10_readSemicolon_17 : decode cX10_readSemicolon 17 = .ok (.iconst 0, 1) := by decide +kernel
theorem dX10_readSemicolon_18 : decode cX10_readSemicolon 18 = .ok (.ireturn, 1) := by decide +kernel
theorem dX10_readNumber_0 : decode cX10_readNumber 0 = .ok (.aload_n 0, 1) := by decide +kernel
theorem dX10_readNumber_1 : decode cX10_readNumber 1 = .ok (.invokevirtual 27, 3) := by decide +kernel
theorem dX10_readNumber_4 : decode cX10_readNumber 4 = .ok (.aload_n 0, 1) := by decide +kernel
theorem dX10_readNumber_5 : decode cX10_readNumber 5 = .ok (.getfield 30, 3) := by decide +kernel
theorem dX10_readNumber_8 : decode cX10_readNumber 8 = .ok (.bipush (-2), 2) := by decide +kernel
theorem dX10_readNumber_10 : decode cX10_readNumber 10 = .ok (.if_icmp .ne 23, 3) := by decide +kernel
theorem dX10_readNumber_13 : decode cX10_readNumber 13 = .ok (.aload_n 0, 1) := by decide +kernel
theorem dX10_readNumber_14 : decode cX10_readNumber 14 = .ok (.getfield 70, 3) := by decide +kernel
theorem dX10_readNumber_17 : decode cX10_readNumber 17 = .ok (.iload_n 1, 1) := by decide +kernel
theorem dX10_readNumber_18 : decode cX10_readNumber 18 = .ok (.if_icmp .lt 15, 3) := by decide +kernel
theorem dX10_readNumber_21 : decode cX10_readNumber 21 = .ok (.aload_n 0, 1) := by decide +kernel
theorem dX10_readNumber_22 : decode cX10_readNumber 22 = .ok (.getfield 70, 3) := by decide +kernel
theorem dX10_readNumber_25 : decode cX10_readNumber 25 = .ok (.iload_n 2, 1) := by decide +kernel
theorem dX10_readNumber_26 : decode cX10_readNumber 26 = .ok (.if_icmp .gt 7, 3) := by decide +kernel
theorem dX10_readNumber_29 : decode cX10_readNumber 29 = .ok (.iconst 1, 1) := by decide +kernel
theorem dX10_readNumber_30 : decode cX10_readNumber 30 = .ok (.goto 4, 3) := by decide +kernel
theorem dX10_readNumber_33 : decode cX10_readNumber 33 = .ok (.iconst 0, 1) := by decide +kernel
theorem dX10_readNumber_34 : decode cX10_readNumber 34 = .ok (.ireturn, 1) := by decide +kernel
theorem dX10_readToken_0 : decode cX10_readToken 0 = .ok (.aload_n 0, 1) := by decide +kernel
theorem dX10_readToken_1 : decode cX10_readToken 1 = .ok (.getfield 24, 3) := by decide +kernel
theorem dX10_readToken_4 : decode cX10_readToken 4 = .ok (.aload_n 0, 1) := by decide +kernel
theorem dX10_readToken_5 : decode cX10_readToken 5 = .ok (.getfield 15, 3) := by decide +kernel
theorem dX10_readToken_8 : decode cX10_readToken 8 = .ok (.if_icmp .ge 30, 3) := by decide +kernel
theorem dX10_readToken_11 : decode cX10_readToken 11 = .ok (.aload_n 0, 1) := by decide +kernel
theorem dX10_readToken_12 : decode cX10_readToken 12 = .ok (.getfield 9, 3) := by decide +kernel
theorem dX10_readToken_15 : decode cX10_readToken 15 = .ok (.aload_n 0, 1) := by decide +kernel
theorem dX10_readToken_16 : decode cX10_readToken 16 = .ok (.getfield 24, 3) := by decide +kernel
theorem dX10_readToken_19 : decode cX10_readToken 19 = .ok (.iaload, 1) := by decide +kernel
theorem dX10_readToken_20 : decode cX10_readToken 20 = .ok (.bipush 32, 2) := by decide +kernel
theorem dX10_readToken_22 : decode cX10_readToken 22 = .ok (.if_icmp .ne 16, 3) := by decide +kernel
theorem dX10_readToken_25 : decode cX10_readToken 25 = .ok (.aload_n 0, 1) := by decide +kernel
theorem dX10_readToken_26 : decode cX10_readToken 26 = .ok (.dup, 1) := by decide +kernel
theorem dX10_readToken_27 : decode cX10_readToken 27 = .ok (.getfield 24, 3) := by decide +kernel
theorem dX10_readToken_30 : decode cX10_readToken 30 = .ok (.iconst 1, 1) := by decide +kernel
theorem dX10_readToken_31 : decode cX10_readToken 31 = .ok (.iadd, 1) := by decide +kernel
theorem dX10_readToken_32 : decode cX10_readToken 32 = .ok (.putfield 24, 3) := by decide +kernel
theorem dX10_readToken_35 : decode cX10_readToken 35 = .ok (.goto (-35), 3) := by decide +kernel
theorem dX10_readToken_38 : decode cX10_readToken 38 = .ok (.aload_n 0, 1) := by decide +kernel
theorem dX10_readToken_39 : decode cX10_readToken 39 = .ok (.aload_n 0, 1) := by decide +kernel
theorem dX10_readToken_40 : decode cX10_readToken 40 = .ok (.getfield 24, 3) := by decide +kernel
theorem dX10_readToken_43 : decode cX10_readToken 43 = .ok (.putfield 41, 3) := by decide +kernel
theorem dX10_readToken_46 : decode cX10_readToken 46 = .ok (.aload_n 0, 1) := by decide +kernel
theorem dX10_readToken_47 : decode cX10_readToken 47 = .ok (.getfield 24, 3) := by decide +kernel
theorem dX10_readToken_50 : decode cX10_readToken 50 = .ok (.aload_n 0, 1) := by decide +kernel
theorem dX10_readToken_51 : decode cX10_readToken 51 = .ok (.getfield 15, 3) := by decide +kernel
theorem dX10_readToken_54 : decode cX10_readToken 54 = .ok (.if_icmp .lt 11, 3) := by decide +kernel
theorem dX10_readToken_57 : decode cX10_readToken 57 = .ok (.aload_n 0, 1) := by decide +kernel
theorem dX10_readToken_58 : decode cX10_readToken 58 = .ok (.iconst (-1), 1) := by decide +kernel
theorem dX10_readToken_59 : decode cX10_readToken 59 = .ok (.putfield 30, 3) := by decide +kernel
theorem dX10_readToken_62 : decode cX10_readToken 62 = .ok (.goto 48, 3) := by decide +kernel
theorem dX10_readToken_65 : decode cX10_readToken 65 = .ok (.aload_n 0, 1) := by decide +kernel
theorem dX10_readToken_66 : decode cX10_readToken 66 = .ok (.getfield 9, 3) := by decide +kernel
theorem dX10_readToken_69 : decode cX10_readToken 69 = .ok (.aload_n 0, 1) := by decide +kernel
theorem dX10_readToken_70 : decode cX10_readToken 70 = .ok (.getfield 24, 3) := by decide +kernel
theorem dX10_readToken_73 : decode cX10_readToken 73 = .ok (.iaload, 1) := by decide +kernel
theorem dX10_readToken_74 : decode cX10_readToken 74 = .ok (.invokestatic 88, 3) := by decide +kernel
theorem dX10_readToken_77 : decode cX10_readToken 77 = .ok (.ifCond .eq 10, 3) := by decide +kernel
theorem dX10_readToken_80 : decode cX10_readToken 80 = .ok (.aload_n 0, 1) := by decide +kernel
theorem dX10_readToken_81 : decode cX10_readToken 81 = .ok (.invokevirtual 91, 3) := by decide +kernel
theorem dX10_readToken_84 : decode cX10_readToken 84 = .ok (.goto 26, 3) := by decide +kernel
theorem dX10_readToken_87 : decode cX10_readToken 87 = .ok (.aload_n 0, 1) := by decide +kernel
theorem dX10_readToken_88 : decode cX10_readToken 88 = .ok (.aload_n 0, 1) := by decide +kernel
theorem dX10_readToken_89 : decode cX10_readToken 89 = .ok (.getfield 9, 3) := by decide +kernel
theorem dX10_readToken_92 : decode cX10_readToken 92 = .ok (.aload_n 0, 1) := by decide +kernel
theorem dX10_readToken_93 : decode cX10_readToken 93 = .ok (.getfield 24, 3) := by decide +kernel
theorem dX10_readToken_96 : decode cX10_readToken 96 = .ok (.iaload, 1) := by decide +kernel
theorem dX10_readToken_97 : decode cX10_readToken 97 = .ok (.putfield 30, 3) := by decide +kernel
theorem dX10_readToken_100 : decode cX10_readToken 100 = .ok (.aload_n 0, 1) := by decide +kernel
theorem dX10_readToken_101 : decode cX10_readToken 101 = .ok (.dup, 1) := by decide +kernel
theorem dX10_readToken_102 : decode cX10_readToken 102 = .ok (.getfield 24, 3) := by decide +kernel
theorem dX10_readToken_105 : decode cX10_readToken 105 = .ok (.iconst 1, 1) := by decide +kernel
theorem dX10_readToken_106 : decode cX10_readToken 106 = .ok (.iadd, 1) := by decide +kernel
theorem dX10_readToken_107 : decode cX10_readToken 107 = .ok (.putfield 24, 3) := by decide +kernel
theorem dX10_readToken_110 : decode cX10_readToken 110 = .ok (.return_, 1) := by decide +kernel
theorem dX10_readDigits_0 : decode cX10_readDigits 0 = .ok (.aload_n 0, 1) := by decide +kernel
theorem dX10_readDigits_1 : decode cX10_readDigits 1 = .ok (.iconst 0, 1) := by decide +kernel
theorem dX10_readDigits_2 : decode cX10_readDigits 2 = .ok (.putfield 70, 3) := by decide +kernel
theorem dX10_readDigits_5 : decode cX10_readDigits 5 = .ok (.aload_n 0, 1) := by decide +kernel
theorem dX10_readDigits_6 : decode cX10_readDigits 6 = .ok (.getfield 24, 3) := by decide +kernel
theorem dX10_readDigits_9 : decode cX10_readDigits 9 = .ok (.aload_n 0, 1) := by decide +kernel
theorem dX10_readDigits_10 : decode cX10_readDigits 10 = .ok (.getfield 15, 3) := by decide +kernel
theorem dX10_readDigits_13 : decode cX10_readDigits 13 = .ok (.if_icmp .ge 61, 3) := by decide +kernel
theorem dX10_readDigits_16 : decode cX10_readDigits 16 = .ok (.aload_n 0, 1) := by decide +kernel
theorem dX10_readDigits_17 : decode cX10_readDigits 17 = .ok (.getfield 9, 3) := by decide +kernel
theorem dX10_readDigits_20 : decode cX10_readDigits 20 = .ok (.aload_n 0, 1) := by decide +kernel
theorem dX10_readDigits_21 : decode cX10_readDigits 21 = .ok (.getfield 24, 3) := by decide +kernel
theorem dX10_readDigits_24 : decode cX10_readDigits 24 = .ok (.iaload, 1) := by decide +kernel
theorem dX10_readDigits_25 : decode cX10_readDigits 25 = .ok (.invokestatic 88, 3) := by decide +kernel
theorem dX10_readDigits_28 : decode cX10_readDigits 28 = .ok (.ifCond .eq 46, 3) := by decide +kernel
theorem dX10_readDigits_31 : decode cX10_readDigits 31 = .ok (.aload_n 0, 1) := by decide +kernel
theorem dX10_readDigits_32 : decode cX10_readDigits 32 = .ok (.aload_n 0, 1) := by decide +kernel
theorem dX10_readDigits_33 : decode cX10_readDigits 33 = .ok (.getfield 70, 3) := by decide +kernel
theorem dX10_readDigits_36 : decode cX10_readDigits 36 = .ok (.bipush 10, 2) := by decide +kernel
theorem dX10_readDigits_38 : decode cX10_readDigits 38 = .ok (.imul, 1) := by decide +kernel
theorem dX10_readDigits_39 : decode cX10_readDigits 39 = .ok (.aload_n 0, 1) := by decide +kernel
theorem dX10_readDigits_40 : decode cX10_readDigits 40 = .ok (.getfield 9, 3) := by decide +kernel
theorem dX10_readDigits_43 : decode cX10_readDigits 43 = .ok (.aload_n 0, 1) := by decide +kernel
theorem dX10_readDigits_44 : decode cX10_readDigits 44 = .ok (.getfield 24, 3) := by decide +kernel
theorem dX10_readDigits_47 : decode cX10_readDigits 47 = .ok (.iaload, 1) := by decide +kernel
theorem dX10_readDigits_48 : decode cX10_readDigits 48 = .ok (.iadd, 1) := by decide +kernel
theorem dX10_readDigits_49 : decode cX10_readDigits 49 = .ok (.bipush 48, 2) := by decide +kernel
theorem dX10_readDigits_51 : decode cX10_readDigits 51 = .ok (.isub, 1) := by decide +kernel
theorem dX10_readDigits_52 : decode cX10_readDigits 52 = .ok (.sipush 201, 3) := by decide +kernel
theorem dX10_readDigits_55 : decode cX10_readDigits 55 = .ok (.invokestatic 94, 3) := by decide +kernel
theorem dX10_readDigits_58 : decode cX10_readDigits 58 = .ok (.putfield 70, 3) := by decide +kernel
theorem dX10_readDigits_61 : decode cX10_readDigits 61 = .ok (.aload_n 0, 1) := by decide +kernel
theorem dX10_readDigits_62 : decode cX10_readDigits 62 = .ok (.dup, 1) := by decide +kernel
theorem dX10_readDigits_63 : decode cX10_readDigits 63 = .ok (.getfield 24, 3) := by decide +kernel
theorem dX10_readDigits_66 : decode cX10_readDigits 66 = .ok (.iconst 1, 1) := by decide +kernel
theorem dX10_readDigits_67 : decode cX10_readDigits 67 = .ok (.iadd, 1) := by decide +kernel
theorem dX10_readDigits_68 : decode cX10_readDigits 68 = .ok (.putfield 24, 3) := by decide +kernel
theorem dX10_readDigits_71 : decode cX10_readDigits 71 = .ok (.goto (-66), 3) := by decide +kernel
theorem dX10_readDigits_74 : decode cX10_readDigits 74 = .ok (.aload_n 0, 1) := by decide +kernel
theorem dX10_readDigits_75 : decode cX10_readDigits 75 = .ok (.getfield 9, 3) := by decide +kernel
theorem dX10_readDigits_78 : decode cX10_readDigits 78 = .ok (.aload_n 0, 1) := by decide +kernel
theorem dX10_readDigits_79 : decode cX10_readDigits 79 = .ok (.getfield 41, 3) := by decide +kernel
theorem dX10_readDigits_82 : decode cX10_readDigits 82 = .ok (.iaload, 1) := by decide +kernel
theorem dX10_readDigits_83 : decode cX10_readDigits 83 = .ok (.bipush 48, 2) := by decide +kernel
theorem dX10_readDigits_85 : decode cX10_readDigits 85 = .ok (.if_icmp .ne 20, 3) := by decide +kernel
theorem dX10_readDigits_88 : decode cX10_readDigits 88 = .ok (.aload_n 0, 1) := by decide +kernel
theorem dX10_readDigits_89 : decode cX10_readDigits 89 = .ok (.getfield 24, 3) := by decide +kernel
theorem dX10_readDigits_92 : decode cX10_readDigits 92 = .ok (.aload_n 0, 1) := by decide +kernel
theorem dX10_readDigits_93 : decode cX10_readDigits 93 = .ok (.getfield 41, 3) := by decide +kernel
theorem dX10_readDigits_96 : decode cX10_readDigits 96 = .ok (.isub, 1) := by decide +kernel
theorem dX10_readDigits_97 : decode cX10_readDigits 97 = .ok (.iconst 1, 1) := by decide +kernel
theorem dX10_readDigits_98 : decode cX10_readDigits 98 = .ok (.if_icmp .le 7, 3) := by decide +kernel
theorem dX10_readDigits_101 : decode cX10_readDigits 101 = .ok (.iconst 1, 1) := by decide +kernel
theorem dX10_readDigits_102 : decode cX10_readDigits 102 = .ok (.goto 4, 3) := by decide +kernel
theorem dX10_readDigits_105 : decode cX10_readDigits 105 = .ok (.iconst 0, 1) := by decide +kernel
theorem dX10_readDigits_106 : decode cX10_readDigits 106 = .ok (.istore_n 1, 1) := by decide +kernel
theorem dX10_readDigits_107 : decode cX10_readDigits 107 = .ok (.aload_n 0, 1) := by decide +kernel
theorem dX10_readDigits_108 : decode cX10_readDigits 108 = .ok (.iload_n 1, 1) := by decide +kernel
theorem dX10_readDigits_109 : decode cX10_readDigits 109 = .ok (.ifCond .ne 13, 3) := by decide +kernel
theorem dX10_readDigits_112 : decode cX10_readDigits 112 = .ok (.aload_n 0, 1) := by decide +kernel
theorem dX10_readDigits_113 : decode cX10_readDigits 113 = .ok (.getfield 70, 3) := by decide +kernel
theorem dX10_readDigits_116 : decode cX10_readDigits 116 = .ok (.sipush 200, 3) := by decide +kernel
theorem dX10_readDigits_119 : decode cX10_readDigits 119 = .ok (.if_icmp .le 8, 3) := by decide +kernel
theorem dX10_readDigits_122 : decode cX10_readDigits 122 = .ok (.bipush (-3), 2) := by decide +kernel
theorem dX10_readDigits_124 : decode cX10_readDigits 124 = .ok (.goto 5, 3) := by decide +kernel
theorem dX10_readDigits_127 : decode cX10_readDigits 127 = .ok (.bipush (-2), 2) := by decide +kernel
theorem dX10_readDigits_129 : decode cX10_readDigits 129 = .ok (.putfield 30, 3) := by decide +kernel
theorem dX10_readDigits_132 : decode cX10_readDigits 132 = .ok (.return_, 1) := by decide +kernel
theorem dX10_isDigit_0 : decode cX10_isDigit 0 = .ok (.iload_n 0, 1) := by decide +kernel
theorem dX10_isDigit_1 : decode cX10_isDigit 1 = .ok (.bipush 48, 2) := by decide +kernel
theorem dX10_isDigit_3 : decode cX10_isDigit 3 = .ok (.if_icmp .lt 13, 3) := by decide +kernel
theorem dX10_isDigit_6 : decode cX10_isDigit 6 = .ok (.iload_n 0, 1) := by decide +kernel
theorem dX10_isDigit_7 : decode cX10_isDigit 7 = .ok (.bipush 57, 2) := by decide +kernel
theorem dX10_isDigit_9 : decode cX10_isDigit 9 = .ok (.if_icmp .gt 7, 3) := by decide +kernel
theorem dX10_isDigit_12 : decode cX10_isDigit 12 = .ok (.iconst 1, 1) := by decide +kernel
theorem dX10_isDigit_13 : decode cX10_isDigit 13 = .ok (.goto 4, 3) := by decide +kernel
theorem dX10_isDigit_16 : decode cX10_isDigit 16 = .ok (.iconst 0, 1) := by decide +kernel
theorem dX10_isDigit_17 : decode cX10_isDigit 17 = .ok (.ireturn, 1) := by decide +kernel
theorem dX11_init_0 : decode cX11_init 0 = .ok (.aload_n 0, 1) := by decide +kernel
theorem dX11_init_1 : decode cX11_init 1 = .ok (.invokespecial 1, 3) := by decide +kernel
theorem dX11_init_4 : decode cX11_init 4 = .ok (.aload_n 0, 1) := by decide +kernel
theorem dX11_init_5 : decode cX11_init 5 = .ok (.new 7, 3) := by decide +kernel
theorem dX11_init_8 : decode cX11_init 8 = .ok (.dup, 1) := by decide +kernel
theorem dX11_init_9 : decode cX11_init 9 = .ok (.invokespecial 9, 3) := by decide +kernel
theorem dX11_init_12 : decode cX11_init 12 = .ok (.putfield 10, 3) := by decide +kernel
theorem dX11_init_15 : decode cX11_init 15 = .ok (.aload_n 0, 1) := by decide +kernel
theorem dX11_init_16 : decode cX11_init 16 = .ok (.new 16, 3) := by decide +kernel
theorem dX11_init_19 : decode cX11_init 19 = .ok (.dup, 1) := by decide +kernel
theorem dX11_init_20 : decode cX11_init 20 = .ok (.invokespecial 18, 3) := by decide +kernel
theorem dX11_init_23 : decode cX11_init 23 = .ok (.putfield 19, 3) := by decide +kernel
theorem dX11_init_26 : decode cX11_init 26 = .ok (.aload_n 0, 1) := by decide +kernel
theorem dX11_init_27 : decode cX11_init 27 = .ok (.new 16, 3) := by decide +kernel
theorem dX11_init_30 : decode cX11_init 30 = .ok (.dup, 1) := by decide +kernel
theorem dX11_init_31 : decode cX11_init 31 = .ok (.invokespecial 18, 3) := by decide +kernel
theorem dX11_init_34 : decode cX11_init 34 = .ok (.putfield 23, 3) := by decide +kernel
theorem dX11_init_37 : decode cX11_init 37 = .ok (.aload_n 0, 1) := by decide +kernel
theorem dX11_init_38 : decode cX11_init 38 = .ok (.new 26, 3) := by decide +kernel
theorem dX11_init_41 : decode cX11_init 41 = .ok (.dup, 1) := by decide +kernel
theorem dX11_init_42 : decode cX11_init 42 = .ok (.invokespecial 28, 3) := by decide +kernel
theorem dX11_init_45 : decode cX11_init 45 = .ok (.putfield 29, 3) := by decide +kernel
theorem dX11_init_48 : decode cX11_init 48 = .ok (.aload_n 0, 1) := by decide +kernel
theorem dX11_init_49 : decode cX11_init 49 = .ok (.new 33, 3) := by decide +kernel
theorem dX11_init_52 : decode cX11_init 52 = .ok (.dup, 1) := by decide +kernel
theorem dX11_init_53 : decode cX11_init 53 = .ok (.invokespecial 35, 3) := by decide +kernel
theorem dX11_init_56 : decode cX11_init 56 = .ok (.putfield 36, 3) := by decide +kernel
theorem dX11_init_59 : decode cX11_init 59 = .ok (.aload_n 0, 1) := by decide +kernel
theorem dX11_init_60 : decode cX11_init 60 = .ok (.iconst 2, 1) := by decide +kernel
theorem dX11_init_61 : decode cX11_init 61 = .ok (.anewarray 26, 3) := by decide +kernel
theorem dX11_init_64 : decode cX11_init 64 = .ok (.putfield 40, 3) := by decide +kernel
theorem dX11_init_67 : decode cX11_init 67 = .ok (.aload_n 0, 1) := by decide +kernel
theorem dX11_init_68 : decode cX11_init 68 = .ok (.iconst 5, 1) := by decide +kernel
theorem dX11_init_69 : decode cX11_init 69 = .ok (.newarray .int, 2) := by decide +kernel
theorem dX11_init_71 : decode cX11_init 71 = .ok (.putfield 44, 3) := by decide +kernel
theorem dX11_init_74 : decode cX11_init 74 = .ok (.aload_n 0, 1) := by decide +kernel
theorem dX11_init_75 : decode cX11_init 75 = .ok (.iconst 5, 1) := by decide +kernel
theorem dX11_init_76 : decode cX11_init 76 = .ok (.newarray .int, 2) := by decide +kernel
theorem dX11_init_78 : decode cX11_init 78 = .ok (.putfield 48, 3) := by decide +kernel
theorem dX11_init_81 : decode cX11_init 81 = .ok (.aload_n 0, 1) := by decide +kernel
theorem dX11_init_82 : decode cX11_init 82 = .ok (.bipush 7, 2) := by decide +kernel
theorem dX11_init_84 : decode cX11_init 84 = .ok (.anewarray 26, 3) := by decide +kernel
theorem dX11_init_87 : decode cX11_init 87 = .ok (.putfield 51, 3) := by decide +kernel
theorem dX11_init_90 : decode cX11_init 90 = .ok (.aload_n 0, 1) := by decide +kernel
theorem dX11_init_91 : decode cX11_init 91 = .ok (.new 54, 3) := by decide +kernel
theorem dX11_init_94 : decode cX11_init 94 = .ok (.dup, 1) := by decide +kernel
theorem dX11_init_95 : decode cX11_init 95 = .ok (.invokespecial 56, 3) := by decide +kernel
theorem dX11_init_98 : decode cX11_init 98 = .ok (.putfield 57, 3) := by decide +kernel
theorem dX11_init_101 : decode cX11_init 101 = .ok (.aload_n 0, 1) := by decide +kernel
theorem dX11_init_102 : decode cX11_init 102 = .ok (.bipush 6, 2) := by decide +kernel
