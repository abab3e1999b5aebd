theorem dX0_init_0 : decode cX0_init 0 = .ok (.aload_n 0, 1) := by decide +kernel
theorem dX0_init_1 : decode cX0_init 1 = .ok (.invokespecial 3, 3) := by decide +kernel
theorem dX0_init_4 : decode cX0_init 4 = .ok (.aload_n 0, 1) := by decide +kernel
theorem dX0_init_5 : decode cX0_init 5 = .ok (.iload_n 1, 1) := by decide +kernel
theorem dX0_init_6 : decode cX0_init 6 = .ok (.ifCond .ge 7, 3) := by decide +kernel
theorem dX0_init_9 : decode cX0_init 9 = .ok (.iconst 0, 1) := by decide +kernel
theorem dX0_init_10 : decode cX0_init 10 = .ok (.goto 4, 3) := by decide +kernel
theorem dX0_init_13 : decode cX0_init 13 = .ok (.iload_n 1, 1) := by decide +kernel
theorem dX0_init_14 : decode cX0_init 14 = .ok (.newarray .int, 2) := by decide +kernel
theorem dX0_init_16 : decode cX0_init 16 = .ok (.putfield 9, 3) := by decide +kernel
theorem dX0_init_19 : decode cX0_init 19 = .ok (.aload_n 0, 1) := by decide +kernel
theorem dX0_init_20 : decode cX0_init 20 = .ok (.iconst 0, 1) := by decide +kernel
theorem dX0_init_21 : decode cX0_init 21 = .ok (.putfield 15, 3) := by decide +kernel
theorem dX0_init_24 : decode cX0_init 24 = .ok (.return_, 1) := by decide +kernel
theorem dX0_length_0 : decode cX0_length 0 = .ok (.aload_n 0, 1) := by decide +kernel
theorem dX0_length_1 : decode cX0_length 1 = .ok (.getfield 15, 3) := by decide +kernel
theorem dX0_length_4 : decode cX0_length 4 = .ok (.ireturn, 1) := by decide +kernel
theorem dX0_jarAt_0 : decode cX0_jarAt 0 = .ok (.iload_n 1, 1) := by decide +kernel
theorem dX0_jarAt_1 : decode cX0_jarAt 1 = .ok (.ifCond .lt 20, 3) := by decide +kernel
theorem dX0_jarAt_4 : decode cX0_jarAt 4 = .ok (.iload_n 1, 1) := by decide +kernel
theorem dX0_jarAt_5 : decode cX0_jarAt 5 = .ok (.aload_n 0, 1) := by decide +kernel
theorem dX0_jarAt_6 : decode cX0_jarAt 6 = .ok (.getfield 15, 3) := by decide +kernel
theorem dX0_jarAt_9 : decode cX0_jarAt 9 = .ok (.if_icmp .ge 12, 3) := by decide +kernel
theorem dX0_jarAt_12 : decode cX0_jarAt 12 = .ok (.iload_n 1, 1) := by decide +kernel
theorem dX0_jarAt_13 : decode cX0_jarAt 13 = .ok (.aload_n 0, 1) := by decide +kernel
theorem dX0_jarAt_14 : decode cX0_jarAt 14 = .ok (.getfield 9, 3) := by decide +kernel
theorem dX0_jarAt_17 : decode cX0_jarAt 17 = .ok (.arraylength, 1) := by decide +kernel
theorem dX0_jarAt_18 : decode cX0_jarAt 18 = .ok (.if_icmp .lt 5, 3) := by decide +kernel
theorem dX0_jarAt_21 : decode cX0_jarAt 21 = .ok (.iconst (-1), 1) := by decide +kernel
theorem dX0_jarAt_22 : decode cX0_jarAt 22 = .ok (.ireturn, 1) := by decide +kernel
theorem dX0_jarAt_23 : decode cX0_jarAt 23 = .ok (.aload_n 0, 1) := by decide +kernel
theorem dX0_jarAt_24 : decode cX0_jarAt 24 = .ok (.getfield 9, 3) := by decide +kernel
theorem dX0_jarAt_27 : decode cX0_jarAt 27 = .ok (.iload_n 1, 1) := by decide +kernel
theorem dX0_jarAt_28 : decode cX0_jarAt 28 = .ok (.iaload, 1) := by decide +kernel
theorem dX0_jarAt_29 : decode cX0_jarAt 29 = .ok (.ireturn, 1) := by decide +kernel
theorem dX0_placeOf_0 : decode cX0_placeOf 0 = .ok (.iconst 0, 1) := by decide +kernel
theorem dX0_placeOf_1 : decode cX0_placeOf 1 = .ok (.istore_n 2, 1) := by decide +kernel
theorem dX0_placeOf_2 : decode cX0_placeOf 2 = .ok (.iload_n 2, 1) := by decide +kernel
theorem dX0_placeOf_3 : decode cX0_placeOf 3 = .ok (.aload_n 0, 1) := by decide +kernel
theorem dX0_placeOf_4 : decode cX0_placeOf 4 = .ok (.getfield 15, 3) := by decide +kernel
theorem dX0_placeOf_7 : decode cX0_placeOf 7 = .ok (.if_icmp .ge 30, 3) := by decide +kernel
theorem dX0_placeOf_10 : decode cX0_placeOf 10 = .ok (.iload_n 2, 1) := by decide +kernel
theorem dX0_placeOf_11 : decode cX0_placeOf 11 = .ok (.aload_n 0, 1) := by decide +kernel
theorem dX0_placeOf_12 : decode cX0_placeOf 12 = .ok (.getfield 9, 3) := by decide +kernel
theorem dX0_placeOf_15 : decode cX0_placeOf 15 = .ok (.arraylength, 1) := by decide +kernel
theorem dX0_placeOf_16 : decode cX0_placeOf 16 = .ok (.if_icmp .ge 21, 3) := by decide +kernel
theorem dX0_placeOf_19 : decode cX0_placeOf 19 = .ok (.aload_n 0, 1) := by decide +kernel
theorem dX0_placeOf_20 : decode cX0_placeOf 20 = .ok (.getfield 9, 3) := by decide +kernel
theorem dX0_placeOf_23 : decode cX0_placeOf 23 = .ok (.iload_n 2, 1) := by decide +kernel
theorem dX0_placeOf_24 : decode cX0_placeOf 24 = .ok (.iaload, 1) := by decide +kernel
theorem dX0_placeOf_25 : decode cX0_placeOf 25 = .ok (.iload_n 1, 1) := by decide +kernel
theorem dX0_placeOf_26 : decode cX0_placeOf 26 = .ok (.if_icmp .ne 5, 3) := by decide +kernel
theorem dX0_placeOf_29 : decode cX0_placeOf 29 = .ok (.iload_n 2, 1) := by decide +kernel
theorem dX0_placeOf_30 : decode cX0_placeOf 30 = .ok (.ireturn, 1) := by decide +kernel
theorem dX0_placeOf_31 : decode cX0_placeOf 31 = .ok (.iinc 2 1, 3) := by decide +kernel
theorem dX0_placeOf_34 : decode cX0_placeOf 34 = .ok (.goto (-32), 3) := by decide +kernel
theorem dX0_placeOf_37 : decode cX0_placeOf 37 = .ok (.iconst (-1), 1) := by decide +kernel
theorem dX0_placeOf_38 : decode cX0_placeOf 38 = .ok (.ireturn, 1) := by decide +kernel
theorem dX0_putFirst_0 : decode cX0_putFirst 0 = .ok (.aload_n 0, 1) := by decide +kernel
theorem dX0_putFirst_1 : decode cX0_putFirst 1 = .ok (.getfield 15, 3) := by decide +kernel
theorem dX0_putFirst_4 : decode cX0_putFirst 4 = .ok (.ifCond .lt 15, 3) := by decide +kernel
theorem dX0_putFirst_7 : decode cX0_putFirst 7 = .ok (.aload_n 0, 1) := by decide +kernel
theorem dX0_putFirst_8 : decode cX0_putFirst 8 = .ok (.getfield 15, 3) := by decide +kernel
theorem dX0_putFirst_11 : decode cX0_putFirst 11 = .ok (.aload_n 0, 1) := by decide +kernel
theorem dX0_putFirst_12 : decode cX0_putFirst 12 = .ok (.getfield 9, 3) := by decide +kernel
theorem dX0_putFirst_15 : decode cX0_putFirst 15 = .ok (.arraylength, 1) := by decide +kernel
theorem dX0_putFirst_16 : decode cX0_putFirst 16 = .ok (.if_icmp .lt 4, 3) := by decide +kernel
theorem dX0_putFirst_19 : decode cX0_putFirst 19 = .ok (.return_, 1) := by decide +kernel
theorem dX0_putFirst_20 : decode cX0_putFirst 20 = .ok (.aload_n 0, 1) := by decide +kernel
theorem dX0_putFirst_21 : decode cX0_putFirst 21 = .ok (.getfield 15, 3) := by decide +kernel
theorem dX0_putFirst_24 : decode cX0_putFirst 24 = .ok (.ifCond .le 20, 3) := by decide +kernel
theorem dX0_putFirst_27 : decode cX0_putFirst 27 = .ok (.aload_n 0, 1) := by decide +kernel
theorem dX0_putFirst_28 : decode cX0_putFirst 28 = .ok (.getfield 9, 3) := by decide +kernel
theorem dX0_putFirst_31 : decode cX0_putFirst 31 = .ok (.iconst 0, 1) := by decide +kernel
theorem dX0_putFirst_32 : decode cX0_putFirst 32 = .ok (.aload_n 0, 1) := by decide +kernel
theorem dX0_putFirst_33 : decode cX0_putFirst 33 = .ok (.getfield 9, 3) := by decide +kernel
theorem dX0_putFirst_36 : decode cX0_putFirst 36 = .ok (.iconst 1, 1) := by decide +kernel
theorem dX0_putFirst_37 : decode cX0_putFirst 37 = .ok (.aload_n 0, 1) := by decide +kernel
theorem dX0_putFirst_38 : decode cX0_putFirst 38 = .ok (.getfield 15, 3) := by decide +kernel
theorem dX0_putFirst_41 : decode cX0_putFirst 41 = .ok (.invokestatic 19, 3) := by decide +kernel
theorem dX0_putFirst_44 : decode cX0_putFirst 44 = .ok (.aload_n 0, 1) := by decide +kernel
theorem dX0_putFirst_45 : decode cX0_putFirst 45 = .ok (.getfield 9, 3) := by decide +kernel
theorem dX0_putFirst_48 : decode cX0_putFirst 48 = .ok (.iconst 0, 1) := by decide +kernel
theorem dX0_putFirst_49 : decode cX0_putFirst 49 = .ok (.iload_n 1, 1) := by decide +kernel
theorem dX0_putFirst_50 : decode cX0_putFirst 50 = .ok (.iastore, 1) := by decide +kernel
theorem dX0_putFirst_51 : decode cX0_putFirst 51 = .ok (.aload_n 0, 1) := by decide +kernel
theorem dX0_putFirst_52 : decode cX0_putFirst 52 = .ok (.dup, 1) := by decide +kernel
theorem dX0_putFirst_53 : decode cX0_putFirst 53 = .ok (.getfield 15, 3) := by decide +kernel
theorem dX0_putFirst_56 : decode cX0_putFirst 56 = .ok (.iconst 1, 1) := by decide +kernel
theorem dX0_putFirst_57 : decode cX0_putFirst 57 = .ok (.iadd, 1) := by decide +kernel
theorem dX0_putFirst_58 : decode cX0_putFirst 58 = .ok (.putfield 15, 3) := by decide +kernel
theorem dX0_putFirst_61 : decode cX0_putFirst 61 = .ok (.return_, 1) := by decide +kernel
theorem dX0_putLast_0 : decode cX0_putLast 0 = .ok (.aload_n 0, 1) := by decide +kernel
theorem dX0_putLast_1 : decode cX0_putLast 1 = .ok (.getfield 15, 3) := by decide +kernel
theorem dX0_putLast_4 : decode cX0_putLast 4 = .ok (.ifCond .lt 15, 3) := by decide +kernel
theorem dX0_putLast_7 : decode cX0_putLast 7 = .ok (.aload_n 0, 1) := by decide +kernel
theorem dX0_putLast_8 : decode cX0_putLast 8 = .ok (.getfield 15, 3) := by decide +kernel
theorem dX0_putLast_11 : decode cX0_putLast 11 = .ok (.aload_n 0, 1) := by decide +kernel
theorem dX0_putLast_12 : decode cX0_putLast 12 = .ok (.getfield 9, 3) := by decide +kernel
theorem dX0_putLast_15 : decode cX0_putLast 15 = .ok (.arraylength, 1) := by decide +kernel
theorem dX0_putLast_16 : decode cX0_putLast 16 = .ok (.if_icmp .lt 4, 3) := by decide +kernel
theorem dX0_putLast_19 : decode cX0_putLast 19 = .ok (.return_, 1) := by decide +kernel
theorem dX0_putLast_20 : decode cX0_putLast 20 = .ok (.aload_n 0, 1) := by decide +kernel
theorem dX0_putLast_21 : decode cX0_putLast 21 = .ok (.getfield 9, 3) := by decide +kernel
theorem dX0_putLast_24 : decode cX0_putLast 24 = .ok (.aload_n 0, 1) := by decide +kernel
theorem dX0_putLast_25 : decode cX0_putLast 25 = .ok (.getfield 15, 3) := by decide +kernel
theorem dX0_putLast_28 : decode cX0_putLast 28 = .ok (.iload_n 1, 1) := by decide +kernel
theorem dX0_putLast_29 : decode cX0_putLast 29 = .ok (.iastore, 1) := by decide +kernel
theorem dX0_putLast_30 : decode cX0_putLast 30 = .ok (.aload_n 0, 1) := by decide +kernel
theorem dX0_putLast_31 : decode cX0_putLast 31 = .ok (.dup, 1) := by decide +kernel
theorem dX0_putLast_32 : decode cX0_putLast 32 = .ok (.getfield 15, 3) := by decide +kernel
theorem dX0_putLast_35 : decode cX0_putLast 35 = .ok (.iconst 1, 1) := by decide +kernel
theorem dX0_putLast_36 : decode cX0_putLast 36 = .ok (.iadd, 1) := by decide +kernel
theorem dX0_putLast_37 : decode cX0_putLast 37 = .ok (.putfield 15, 3) := by decide +kernel
theorem dX0_putLast_40 : decode cX0_putLast 40 = .ok (.return_, 1) := by decide +kernel
theorem dX0_takeLast_0 : decode cX0_takeLast 0 = .ok (.aload_n 0, 1) := by decide +kernel
theorem dX0_takeLast_1 : decode cX0_takeLast 1 = .ok (.getfield 15, 3) := by decide +kernel
theorem dX0_takeLast_4 : decode cX0_takeLast 4 = .ok (.ifCond .le 15, 3) := by decide +kernel
theorem dX0_takeLast_7 : decode cX0_takeLast 7 = .ok (.aload_n 0, 1) := by decide +kernel
theorem dX0_takeLast_8 : decode cX0_takeLast 8 = .ok (.getfield 15, 3) := by decide +kernel
theorem dX0_takeLast_11 : decode cX0_takeLast 11 = .ok (.aload_n 0, 1) := by decide +kernel
theorem dX0_takeLast_12 : decode cX0_takeLast 12 = .ok (.getfield 9, 3) := by decide +kernel
theorem dX0_takeLast_15 : decode cX0_takeLast 15 = .ok (.arraylength, 1) := by decide +kernel
theorem dX0_takeLast_16 : decode cX0_takeLast 16 = .ok (.if_icmp .le 5, 3) := by decide +kernel
theorem dX0_takeLast_19 : decode cX0_takeLast 19 = .ok (.iconst (-1), 1) := by decide +kernel
theorem dX0_takeLast_20 : decode cX0_takeLast 20 = .ok (.ireturn, 1) := by decide +kernel
theorem dX0_takeLast_21 : decode cX0_takeLast 21 = .ok (.aload_n 0, 1) := by decide +kernel
theorem dX0_takeLast_22 : decode cX0_takeLast 22 = .ok (.dup, 1) := by decide +kernel
theorem dX0_takeLast_23 : decode cX0_takeLast 23 = .ok (.getfield 15, 3) := by decide +kernel
theorem dX0_takeLast_26 : decode cX0_takeLast 26 = .ok (.iconst 1, 1) := by decide +kernel
theorem dX0_takeLast_27 : decode cX0_takeLast 27 = .ok (.isub, 1) := by decide +kernel
theorem dX0_takeLast_28 : decode cX0_takeLast 28 = .ok (.putfield 15, 3) := by decide +kernel
theorem dX0_takeLast_31 : decode cX0_takeLast 31 = .ok (.aload_n 0, 1) := by decide +kernel
theorem dX0_takeLast_32 : decode cX0_takeLast 32 = .ok (.getfield 9, 3) := by decide +kernel
theorem dX0_takeLast_35 : decode cX0_takeLast 35 = .ok (.aload_n 0, 1) := by decide +kernel
theorem dX0_takeLast_36 : decode cX0_takeLast 36 = .ok (.getfield 15, 3) := by decide +kernel
theorem dX0_takeLast_39 : decode cX0_takeLast 39 = .ok (.iaload, 1) := by decide +kernel
theorem dX0_takeLast_40 : decode cX0_takeLast 40 = .ok (.ireturn, 1) := by decide +kernel
theorem dX0_takeAt_0 : decode cX0_takeAt 0 = .ok (.iload_n 1, 1) := by decide +kernel
theorem dX0_takeAt_1 : decode cX0_takeAt 1 = .ok (.ifCond .lt 23, 3) := by decide +kernel
theorem dX0_takeAt_4 : decode cX0_takeAt 4 = .ok (.iload_n 1, 1) := by decide +kernel
theorem dX0_takeAt_5 : decode cX0_takeAt 5 = .ok (.aload_n 0, 1) := by decide +kernel
theorem dX0_takeAt_6 : decode cX0_takeAt 6 = .ok (.getfield 15, 3) := by decide +kernel
theorem dX0_takeAt_9 : decode cX0_takeAt 9 = .ok (.if_icmp .ge 15, 3) := by decide +kernel
theorem dX0_takeAt_12 : decode cX0_takeAt 12 = .ok (.aload_n 0, 1) := by decide +kernel
theorem dX0_takeAt_13 : decode cX0_takeAt 13 = .ok (.getfield 15, 3) := by decide +kernel
theorem dX0_takeAt_16 : decode cX0_takeAt 16 = .ok (.aload_n 0, 1) := by decide +kernel
theorem dX0_takeAt_17 : decode cX0_takeAt 17 = .ok (.getfield 9, 3) := by decide +kernel
theorem dX0_takeAt_20 : decode cX0_takeAt 20 = .ok (.arraylength, 1) := by decide +kernel
theorem dX0_takeAt_21 : decode cX0_takeAt 21 = .ok (.if_icmp .le 5, 3) := by decide +kernel
theorem dX0_takeAt_24 : decode cX0_takeAt 24 = .ok (.iconst (-1), 1) := by decide +kernel
theorem dX0_takeAt_25 : decode cX0_takeAt 25 = .ok (.ireturn, 1) := by decide +kernel
theorem dX0_takeAt_26 : decode cX0_takeAt 26 = .ok (.aload_n 0, 1) := by decide +kernel
theorem dX0_takeAt_27 : decode cX0_takeAt 27 = .ok (.getfield 9, 3) := by decide +kernel
theorem dX0_takeAt_30 : decode cX0_takeAt 30 = .ok (.iload_n 1, 1) := by decide +kernel
theorem dX0_takeAt_31 : decode cX0_takeAt 31 = .ok (.iaload, 1) := by decide +kernel
theorem dX0_takeAt_32 : decode cX0_takeAt 32 = .ok (.istore_n 2, 1) := by decide +kernel
theorem dX0_takeAt_33 : decode cX0_takeAt 33 = .ok (.aload_n 0, 1) := by decide +kernel
theorem dX0_takeAt_34 : decode cX0_takeAt 34 = .ok (.getfield 15, 3) := by decide +kernel
theorem dX0_takeAt_37 : decode cX0_takeAt 37 = .ok (.iload_n 1, 1) := by decide +kernel
theorem dX0_takeAt_38 : decode cX0_takeAt 38 = .ok (.isub, 1) := by decide +kernel
theorem dX0_takeAt_39 : decode cX0_takeAt 39 = .ok (.iconst 1, 1) := by decide +kernel
theorem dX0_takeAt_40 : decode cX0_takeAt 40 = .ok (.isub, 1) := by decide +kernel
theorem dX0_takeAt_41 : decode cX0_takeAt 41 = .ok (.istore_n 3, 1) := by decide +kernel
theorem dX0_takeAt_42 : decode cX0_takeAt 42 = .ok (.iload_n 3, 1) := by decide +kernel
theorem dX0_takeAt_43 : decode cX0_takeAt 43 = .ok (.ifCond .le 19, 3) := by decide +kernel
theorem dX0_takeAt_46 : decode cX0_takeAt 46 = .ok (.aload_n 0, 1) := by decide +kernel
theorem dX0_takeAt_47 : decode cX0_takeAt 47 = .ok (.getfield 9, 3) := by decide +kernel
theorem dX0_takeAt_50 : decode cX0_takeAt 50 = .ok (.iload_n 1, 1) := by decide +kernel
theorem dX0_takeAt_51 : decode cX0_takeAt 51 = .ok (.iconst 1, 1) := by decide +kernel
theorem dX0_takeAt_52 : decode cX0_takeAt 52 = .ok (.iadd, 1) := by decide +kernel
theorem dX0_takeAt_53 : decode cX0_takeAt 53 = .ok (.aload_n 0, 1) := by decide +kernel
theorem dX0_takeAt_54 : decode cX0_takeAt 54 = .ok (.getfield 9, 3) := by decide +kernel
theorem dX0_takeAt_57 : decode cX0_takeAt 57 = .ok (.iload_n 1, 1) := by decide +kernel
theorem dX0_takeAt_58 : decode cX0_takeAt 58 = .ok (.iload_n 3, 1) := by decide +kernel
theorem dX0_takeAt_59 : decode cX0_takeAt 59 = .ok (.invokestatic 19, 3) := by decide +kernel
theorem dX0_takeAt_62 : decode cX0_takeAt 62 = .ok (.aload_n 0, 1) := by decide +kernel
theorem dX0_takeAt_63 : decode cX0_takeAt 63 = .ok (.dup, 1) := by decide +kernel
theorem dX0_takeAt_64 : decode cX0_takeAt 64 = .ok (.getfield 15, 3) := by decide +kernel
theorem dX0_takeAt_67 : decode cX0_takeAt 67 = .ok (.iconst 1, 1) := by decide +kernel
theorem dX0_takeAt_68 : decode cX0_takeAt 68 = .ok (.isub, 1) := by decide +kernel
theorem dX0_takeAt_69 : decode cX0_takeAt 69 = .ok (.putfield 15, 3) := by decide +kernel
theorem dX0_takeAt_72 : decode cX0_takeAt 72 = .ok (.iload_n 2, 1) := by decide +kernel
theorem dX0_takeAt_73 : decode cX0_takeAt 73 = .ok (.ireturn, 1) := by decide +kernel
theorem dX0_clear_0 : decode cX0_clear 0 = .ok (.aload_n 0, 1) := by decide +kernel
theorem dX0_clear_1 : decode cX0_clear 1 = .ok (.iconst 0, 1) := by decide +kernel
theorem dX0_clear_2 : decode cX0_clear 2 = .ok (.putfield 15, 3) := by decide +kernel
theorem dX0_clear_5 : decode cX0_clear 5 = .ok (.return_, 1) := by decide +kernel
theorem dX0_copyFrom_0 : decode cX0_copyFrom 0 = .ok (.aload_n 1, 1) := by decide +kernel
theorem dX0_copyFrom_1 : decode cX0_copyFrom 1 = .ok (.getfield 15, 3) := by decide +kernel
theorem dX0_copyFrom_4 : decode cX0_copyFrom 4 = .ok (.istore_n 2, 1) := by decide +kernel
theorem dX0_copyFrom_5 : decode cX0_copyFrom 5 = .ok (.iload_n 2, 1) := by decide +kernel
theorem dX0_copyFrom_6 : decode cX0_copyFrom 6 = .ok (.ifCond .lt 21, 3) := by decide +kernel
theorem dX0_copyFrom_9 : decode cX0_copyFrom 9 = .ok (.iload_n 2, 1) := by decide +kernel
theorem dX0_copyFrom_10 : decode cX0_copyFrom 10 = .ok (.aload_n 0, 1) := by decide +kernel
theorem dX0_copyFrom_11 : decode cX0_copyFrom 11 = .ok (.getfield 9, 3) := by decide +kernel
theorem dX0_copyFrom_14 : decode cX0_copyFrom 14 = .ok (.arraylength, 1) := by decide +kernel
theorem dX0_copyFrom_15 : decode cX0_copyFrom 15 = .ok (.if_icmp .gt 12, 3) := by decide +kernel
theorem dX0_copyFrom_18 : decode cX0_copyFrom 18 = .ok (.iload_n 2, 1) := by decide +kernel
theorem dX0_copyFrom_19 : decode cX0_copyFrom 19 = .ok (.aload_n 1, 1) := by decide +kernel
theorem dX0_copyFrom_20 : decode cX0_copyFrom 20 = .ok (.getfield 9, 3) := by decide +kernel
theorem dX0_copyFrom_23 : decode cX0_copyFrom 23 = .ok (.arraylength, 1) := by decide +kernel
theorem dX0_copyFrom_24 : decode cX0_copyFrom 24 = .ok (.if_icmp .le 4, 3) := by decide +kernel
theorem dX0_copyFrom_27 : decode cX0_copyFrom 27 = .ok (.return_, 1) := by decide +kernel
theorem dX0_copyFrom_28 : decode cX0_copyFrom 28 = .ok (.aload_n 1, 1) := by decide +kernel
theorem dX0_copyFrom_29 : decode cX0_copyFrom 29 = .ok (.getfield 9, 3) := by decide +kernel
theorem dX0_copyFrom_32 : decode cX0_copyFrom 32 = .ok (.iconst 0, 1) := by decide +kernel
theorem dX0_copyFrom_33 : decode cX0_copyFrom 33 = .ok (.aload_n 0, 1) := by decide +kernel
theorem dX0_copyFrom_34 : decode cX0_copyFrom 34 = .ok (.getfield 9, 3) := by decide +kernel
theorem dX0_copyFrom_37 : decode cX0_copyFrom 37 = .ok (.iconst 0, 1) := by decide +kernel
theorem dX0_copyFrom_38 : decode cX0_copyFrom 38 = .ok (.iload_n 2, 1) := by decide +kernel
theorem dX0_copyFrom_39 : decode cX0_copyFrom 39 = .ok (.invokestatic 19, 3) := by decide +kernel
theorem dX0_copyFrom_42 : decode cX0_copyFrom 42 = .ok (.aload_n 0, 1) := by decide +kernel
theorem dX0_copyFrom_43 : decode cX0_copyFrom 43 = .ok (.iload_n 2, 1) := by decide +kernel
theorem dX0_copyFrom_44 : decode cX0_copyFrom 44 = .ok (.putfield 15, 3) := by decide +kernel
theorem dX0_copyFrom_47 : decode cX0_copyFrom 47 = .ok (.return_, 1) := by decide +kernel
set_option maxRecDepth 20000 in
theorem ggX1_init_X0_init : GoodIn wsX1_init wsX0_init := goodIn_r _ [16, 17, 2, 3, 18, 19, 20, 21, 22] (by decide +kernel) (by decide +kernel)
set_option maxRecDepth 20000 in
theorem gX1_init_X0_init : GoodIn wsX1_init (wsX0_init) := ggX1_init_X0_init
theorem dX1_init_0 : decode cX1_init 0 = .ok (.aload_n 0, 1) := by decide +kernel
theorem dX1_init_1 : decode cX1_init 1 = .ok (.invokespecial 3, 3) := by decide +kernel
theorem dX1_init_4 : decode cX1_init 4 = .ok (.aload_n 0, 1) := by decide +kernel
theorem dX1_init_5 : decode cX1_init 5 = .ok (.new 9, 3) := by decide +kernel
theorem dX1_init_8 : decode cX1_init 8 = .ok (.dup, 1) := by decide +kernel
theorem dX1_init_9 : decode cX1_init 9 = .ok (.bipush 30, 2) := by decide +kernel
theorem dX1_init_11 : decode cX1_init 11 = .ok (.invokespecial 11, 3) := by decide +kernel
theorem dX1_init_14 : decode cX1_init 14 = .ok (.putfield 14, 3) := by decide +kernel
theorem dX1_init_17 : decode cX1_init 17 = .ok (.aload_n 0, 1) := by decide +kernel
theorem dX1_init_18 : decode cX1_init 18 = .ok (.new 9, 3) := by decide +kernel
theorem dX1_init_21 : decode cX1_init 21 = .ok (.dup, 1) := by decide +kernel
theorem dX1_init_22 : decode cX1_init 22 = .ok (.bipush 30, 2) := by decide +kernel
theorem dX1_init_24 : decode cX1_init 24 = .ok (.invokespecial 11, 3) := by decide +kernel
theorem dX1_init_27 : decode cX1_init 27 = .ok (.putfield 20, 3) := by decide +kernel
theorem dX1_init_30 : decode cX1_init 30 = .ok (.aload_n 0, 1) := by decide +kernel
theorem dX1_init_31 : decode cX1_init 31 = .ok (.new 9, 3) := by decide +kernel
theorem dX1_init_34 : decode cX1_init 34 = .ok (.dup, 1) := by decide +kernel
theorem dX1_init_35 : decode cX1_init 35 = .ok (.bipush 30, 2) := by decide +kernel
theorem dX1_init_37 : decode cX1_init 37 = .ok (.invokespecial 11, 3) := by decide +kernel
theorem dX1_init_40 : decode cX1_init 40 = .ok (.putfield 23, 3) := by decide +kernel
theorem dX1_init_43 : decode cX1_init 43 = .ok (.aload_n 0, 1) := by decide +kernel
theorem dX1_init_44 : decode cX1_init 44 = .ok (.new 9, 3) := by decide +kernel
theorem dX1_init_47 : decode cX1_init 47 = .ok (.dup, 1) := by decide +kernel
theorem dX1_init_48 : decode cX1_init 48 = .ok (.bipush 30, 2) := by decide +kernel
theorem dX1_init_50 : decode cX1_init 50 = .ok (.invokespecial 11, 3) := by decide +kernel
theorem dX1_init_53 : decode cX1_init 53 = .ok (.putfield 26, 3) := by decide +kernel
theorem dX1_init_56 : decode cX1_init 56 = .ok (.aload_n 0, 1) := by decide +kernel
theorem dX1_init_57 : decode cX1_init 57 = .ok (.bipush 6, 2) := by decide +kernel
theorem dX1_init_59 : decode cX1_init 59 = .ok (.putfield 29, 3) := by decide +kernel
theorem dX1_init_62 : decode cX1_init 62 = .ok (.aload_n 0, 1) := by decide +kernel
theorem dX1_init_63 : decode cX1_init 63 = .ok (.iconst 0, 1) := by decide +kernel
theorem dX1_init_64 : decode cX1_init 64 = .ok (.putfield 33, 3) := by decide +kernel
theorem dX1_init_67 : decode cX1_init 67 = .ok (.aload_n 0, 1) := by decide +kernel
theorem dX1_init_68 : decode cX1_init 68 = .ok (.iconst (-1), 1) := by decide +kernel
theorem dX1_init_69 : decode cX1_init 69 = .ok (.putfield 36, 3) := by decide +kernel
theorem dX1_init_72 : decode cX1_init 72 = .ok (.return_, 1) := by decide +kernel
set_option maxRecDepth 20000 in
theorem ggX1_startAnew_X0_clear : GoodIn wsX1_startAnew wsX0_clear := goodIn_r _ [12, 13, 21, 22] (by decide +kernel) (by decide +kernel)
set_option maxRecDepth 20000 in
theorem gX1_startAnew_X0_clear : GoodIn wsX1_startAnew (wsV RX1 39 RX0 yX0_clear wsX0_clear) := goodIn_app (goodIn_of _ (by decide +kernel)) ggX1_startAnew_X0_clear
theorem dX1_startAnew_0 : decode cX1_startAnew 0 = .ok (.aload_n 0, 1) := by decide +kernel
theorem dX1_startAnew_1 : decode cX1_startAnew 1 = .ok (.getfield 14, 3) := by decide +kernel
theorem dX1_startAnew_4 : decode cX1_startAnew 4 = .ok (.invokevirtual 39, 3) := by decide +kernel
theorem dX1_startAnew_7 : decode cX1_startAnew 7 = .ok (.aload_n 0, 1) := by decide +kernel
theorem dX1_startAnew_8 : decode cX1_startAnew 8 = .ok (.getfield 20, 3) := by decide +kernel
theorem dX1_startAnew_11 : decode cX1_startAnew 11 = .ok (.invokevirtual 39, 3) := by decide +kernel
theorem dX1_startAnew_14 : decode cX1_startAnew 14 = .ok (.aload_n 0, 1) := by decide +kernel
theorem dX1_startAnew_15 : decode cX1_startAnew 15 = .ok (.getfield 23, 3) := by decide +kernel
theorem dX1_startAnew_18 : decode cX1_startAnew 18 = .ok (.invokevirtual 39, 3) := by decide +kernel
theorem dX1_startAnew_21 : decode cX1_startAnew 21 = .ok (.aload_n 0, 1) := by decide +kernel
theorem dX1_startAnew_22 : decode cX1_startAnew 22 = .ok (.getfield 26, 3) := by decide +kernel
theorem dX1_startAnew_25 : decode cX1_startAnew 25 = .ok (.invokevirtual 39, 3) := by decide +kernel
theorem dX1_startAnew_28 : decode cX1_startAnew 28 = .ok (.aload_n 0, 1) := by decide +kernel
theorem dX1_startAnew_29 : decode cX1_startAnew 29 = .ok (.iload_n 1, 1) := by decide +kernel
theorem dX1_startAnew_30 : decode cX1_startAnew 30 = .ok (.putfield 29, 3) := by decide +kernel
theorem dX1_startAnew_33 : decode cX1_startAnew 33 = .ok (.aload_n 0, 1) := by decide +kernel
theorem dX1_startAnew_34 : decode cX1_startAnew 34 = .ok (.iconst 0, 1) := by decide +kernel
theorem dX1_startAnew_35 : decode cX1_startAnew 35 = .ok (.putfield 33, 3) := by decide +kernel
theorem dX1_startAnew_38 : decode cX1_startAnew 38 = .ok (.aload_n 0, 1) := by decide +kernel
theorem dX1_startAnew_39 : decode cX1_startAnew 39 = .ok (.iconst (-1), 1) := by decide +kernel
theorem dX1_startAnew_40 : decode cX1_startAnew 40 = .ok (.putfield 36, 3) := by decide +kernel
theorem dX1_startAnew_43 : decode cX1_startAnew 43 = .ok (.return_, 1) := by decide +kernel
set_option maxRecDepth 20000 in
theorem ggX1_copyFrom_X0_copyFrom : GoodIn wsX1_copyFrom wsX0_copyFrom := goodIn_r _ [12, 13, 14, 15, 16, 17, 18, 26, 27] (by decide +kernel) (by decide +kernel)
set_option maxRecDepth 20000 in
theorem gX1_copyFrom_X0_copyFrom : GoodIn wsX1_copyFrom (wsV RX1 42 RX0 yX0_copyFrom wsX0_copyFrom) := goodIn_app (goodIn_of _ (by decide +kernel)) ggX1_copyFrom_X0_copyFrom
theorem dX1_copyFrom_0 : decode cX1_copyFrom 0 = .ok (.aload_n 0, 1) := by decide +kernel
theorem dX1_copyFrom_1 : decode cX1_copyFrom 1 = .ok (.getfield 14, 3) := by decide +kernel
theorem dX1_copyFrom_4 : decode cX1_copyFrom 4 = .ok (.aload_n 1, 1) := by decide +kernel
theorem dX1_copyFrom_5 : decode cX1_copyFrom 5 = .ok (.getfield 14, 3) := by decide +kernel
theorem dX1_copyFrom_8 : decode cX1_copyFrom 8 = .ok (.invokevirtual 42, 3) := by decide +kernel
theorem dX1_copyFrom_11 : decode cX1_copyFrom 11 = .ok (.aload_n 0, 1) := by decide +kernel
theorem dX1_copyFrom_12 : decode cX1_copyFrom 12 = .ok (.getfield 20, 3) := by decide +kernel
theorem dX1_copyFrom_15 : decode cX1_copyFrom 15 = .ok (.aload_n 1, 1) := by decide +kernel
theorem dX1_copyFrom_16 : decode cX1_copyFrom 16 = .ok (.getfield 20, 3) := by decide +kernel
theorem dX1_copyFrom_19 : decode cX1_copyFrom 19 = .ok (.invokevirtual 42, 3) := by decide +kernel
theorem dX1_copyFrom_22 : decode cX1_copyFrom 22 = .ok (.aload_n 0, 1) := by decide +kernel
theorem dX1_copyFrom_23 : decode cX1_copyFrom 23 = .ok (.getfield 23, 3) := by decide +kernel
theorem dX1_copyFrom_26 : decode cX1_copyFrom 26 = .ok (.aload_n 1, 1) := by decide +kernel
theorem dX1_copyFrom_27 : decode cX1_copyFrom 27 = .ok (.getfield 23, 3) := by decide +kernel
theorem dX1_copyFrom_30 : decode cX1_copyFrom 30 = .ok (.invokevirtual 42, 3) := by decide +kernel
theorem dX1_copyFrom_33 : decode cX1_copyFrom 33 = .ok (.aload_n 0, 1) := by decide +kernel
theorem dX1_copyFrom_34 : decode cX1_copyFrom 34 = .ok (.getfield 26, 3) := by decide +kernel
theorem dX1_copyFrom_37 : decode cX1_copyFrom 37 = .ok (.aload_n 1, 1) := by decide +kernel
theorem dX1_copyFrom_38 : decode cX1_copyFrom 38 = .ok (.getfield 26, 3) := by decide +kernel
theorem dX1_copyFrom_41 : decode cX1_copyFrom 41 = .ok (.invokevirtual 42, 3) := by decide +kernel
theorem dX1_copyFrom_44 : decode cX1_copyFrom 44 = .ok (.aload_n 0, 1) := by decide +kernel
theorem dX1_copyFrom_45 : decode cX1_copyFrom 45 = .ok (.aload_n 1, 1) := by decide +kernel
theorem dX1_copyFrom_46 : decode cX1_copyFrom 46 = .ok (.getfield 29, 3) := by decide +kernel
theorem dX1_copyFrom_49 : decode cX1_copyFrom 49 = .ok (.putfield 29, 3) := by decide +kernel
theorem dX1_copyFrom_52 : decode cX1_copyFrom 52 = .ok (.aload_n 0, 1) := by decide +kernel
theorem dX1_copyFrom_53 : decode cX1_copyFrom 53 = .ok (.aload_n 1, 1) := by decide +kernel
theorem dX1_copyFrom_54 : decode cX1_copyFrom 54 = .ok (.getfield 33, 3) := by decide +kernel
theorem dX1_copyFrom_57 : decode cX1_copyFrom 57 = .ok (.putfield 33, 3) := by decide +kernel
theorem dX1_copyFrom_60 : decode cX1_copyFrom 60 = .ok (.aload_n 0, 1) := by decide +kernel
theorem dX1_copyFrom_61 : decode cX1_copyFrom 61 = .ok (.aload_n 1, 1) := by decide +kernel
theorem dX1_copyFrom_62 : decode cX1_copyFrom 62 = .ok (.getfield 36, 3) := by decide +kernel
theorem dX1_copyFrom_65 : decode cX1_copyFrom 65 = .ok (.putfield 36, 3) := by decide +kernel
theorem dX1_copyFrom_68 : decode cX1_copyFrom 68 = .ok (.return_, 1) := by decide +kernel
theorem dX1_rowAt_0 : decode cX1_rowAt 0 = .ok (.iload_n 1, 1) := by decide +kernel
theorem dX1_rowAt_1 : decode cX1_rowAt 1 = .ok (.tableswitch 51 1 4 #[31, 36, 41, 46], 31) := by decide +kernel
theorem dX1_rowAt_32 : decode cX1_rowAt 32 = .ok (.aload_n 0, 1) := by decide +kernel
theorem dX1_rowAt_33 : decode cX1_rowAt 33 = .ok (.getfield 14, 3) := by decide +kernel
theorem dX1_rowAt_36 : decode cX1_rowAt 36 = .ok (.areturn, 1) := by decide +kernel
theorem dX1_rowAt_37 : decode cX1_rowAt 37 = .ok (.aload_n 0, 1) := by decide +kernel
theorem dX1_rowAt_38 : decode cX1_rowAt 38 = .ok (.getfield 20, 3) := by decide +kernel
theorem dX1_rowAt_41 : decode cX1_rowAt 41 = .ok (.areturn, 1) := by decide +kernel
theorem dX1_rowAt_42 : decode cX1_rowAt 42 = .ok (.aload_n 0, 1) := by decide +kernel
theorem dX1_rowAt_43 : decode cX1_rowAt 43 = .ok (.getfield 23, 3) := by decide +kernel
theorem dX1_rowAt_46 : decode cX1_rowAt 46 = .ok (.areturn, 1) := by decide +kernel
theorem dX1_rowAt_47 : decode cX1_rowAt 47 = .ok (.aload_n 0, 1) := by decide +kernel
theorem dX1_rowAt_48 : decode cX1_rowAt 48 = .ok (.getfield 26, 3) := by decide +kernel
theorem dX1_rowAt_51 : decode cX1_rowAt 51 = .ok (.areturn, 1) := by decide +kernel
theorem dX1_rowAt_52 : decode cX1_rowAt 52 = .ok (.aconst_null, 1) := by decide +kernel
theorem dX1_rowAt_53 : decode cX1_rowAt 53 = .ok (.areturn, 1) := by decide +kernel
set_option maxRecDepth 20000 in
theorem ggX1_whereIs_X1_rowAt : GoodIn wsX1_whereIs wsX1_rowAt := goodIn_r _ [5, 6, 7, 8, 9, 17, 18, 19, 20, 21, 22, 23] (by decide +kernel) (by decide +kernel)
set_option maxRecDepth 20000 in
theorem gX1_whereIs_X1_rowAt : GoodIn wsX1_whereIs (wsV RX1 46 RX1 yX1_rowAt wsX1_rowAt) := goodIn_app (goodIn_of _ (by decide +kernel)) ggX1_whereIs_X1_rowAt
set_option maxRecDepth 20000 in
theorem ggX1_whereIs_X0_placeOf : GoodIn wsX1_whereIs wsX0_placeOf := goodIn_r _ [14, 15, 16, 24, 25] (by decide +kernel) (by decide +kernel)
set_option maxRecDepth 20000 in
theorem gX1_whereIs_X0_placeOf : GoodIn wsX1_whereIs (wsV RX1 50 RX0 yX0_placeOf wsX0_placeOf) := goodIn_app (goodIn_of _ (by decide +kernel)) ggX1_whereIs_X0_placeOf
theorem dX1_whereIs_0 : decode cX1_whereIs 0 = .ok (.iconst 1, 1) := by decide +kernel
theorem dX1_whereIs_1 : decode cX1_whereIs 1 = .ok (.istore_n 2, 1) := by decide +kernel
theorem dX1_whereIs_2 : decode cX1_whereIs 2 = .ok (.iload_n 2, 1) := by decide +kernel
theorem dX1_whereIs_3 : decode cX1_whereIs 3 = .ok (.iconst 4, 1) := by decide +kernel
theorem dX1_whereIs_4 : decode cX1_whereIs 4 = .ok (.if_icmp .gt 30, 3) := by decide +kernel
theorem dX1_whereIs_7 : decode cX1_whereIs 7 = .ok (.aload_n 0, 1) := by decide +kernel
theorem dX1_whereIs_8 : decode cX1_whereIs 8 = .ok (.iload_n 2, 1) := by decide +kernel
theorem dX1_whereIs_9 : decode cX1_whereIs 9 = .ok (.invokevirtual 46, 3) := by decide +kernel
theorem dX1_whereIs_12 : decode cX1_whereIs 12 = .ok (.astore_n 3, 1) := by decide +kernel
theorem dX1_whereIs_13 : decode cX1_whereIs 13 = .ok (.aload_n 3, 1) := by decide +kernel
theorem dX1_whereIs_14 : decode cX1_whereIs 14 = .ok (.ifnull 14, 3) := by decide +kernel
theorem dX1_whereIs_17 : decode cX1_whereIs 17 = .ok (.aload_n 3, 1) := by decide +kernel
theorem dX1_whereIs_18 : decode cX1_whereIs 18 = .ok (.iload_n 1, 1) := by decide +kernel
theorem dX1_whereIs_19 : decode cX1_whereIs 19 = .ok (.invokevirtual 50, 3) := by decide +kernel
theorem dX1_whereIs_22 : decode cX1_whereIs 22 = .ok (.iconst (-1), 1) := by decide +kernel
theorem dX1_whereIs_23 : decode cX1_whereIs 23 = .ok (.if_icmp .eq 5, 3) := by decide +kernel
theorem dX1_whereIs_26 : decode cX1_whereIs 26 = .ok (.iload_n 2, 1) := by decide +kernel
theorem dX1_whereIs_27 : decode cX1_whereIs 27 = .ok (.ireturn, 1) := by decide +kernel
theorem dX1_whereIs_28 : decode cX1_whereIs 28 = .ok (.iinc 2 1, 3) := by decide +kernel
theorem dX1_whereIs_31 : decode cX1_whereIs 31 = .ok (.goto (-29), 3) := by decide +kernel
theorem dX1_whereIs_34 : decode cX1_whereIs 34 = .ok (.iconst 0, 1) := by decide +kernel
theorem dX1_whereIs_35 : decode cX1_whereIs 35 = .ok (.ireturn, 1) := by decide +kernel
set_option maxRecDepth 20000 in
theorem ggX1_serve_X1_whereIs : GoodIn wsX1_serve wsX1_whereIs := goodIn_r _ [19, 20, 21, 22, 18, 23, 2, 14, 6, 5, 24, 25, 26, 27, 28, 29, 30, 63, 64, 65, 66, 67, 68, 69, 70, 71] (by decide +kernel) (by decide +kernel)
set_option maxRecDepth 20000 in
theorem gX1_serve_X1_whereIs : GoodIn wsX1_serve (wsV RX1 54 RX1 yX1_whereIs wsX1_whereIs) := goodIn_app (goodIn_of _ (by decide +kernel)) ggX1_serve_X1_whereIs
set_option maxRecDepth 20000 in
theorem ggX1_serve_X1_rowAt : GoodIn wsX1_serve wsX1_rowAt := goodIn_r _ [23, 2, 14, 6, 5, 63, 64, 65, 66, 67, 68, 69] (by decide +kernel) (by decide +kernel)
set_option maxRecDepth 20000 in
theorem gX1_serve_X1_rowAt : GoodIn wsX1_serve (wsV RX1 46 RX1 yX1_rowAt wsX1_rowAt) := goodIn_app (goodIn_of _ (by decide +kernel)) ggX1_serve_X1_rowAt
set_option maxRecDepth 20000 in
theorem ggX1_serve_X1_makeWayForNewJar : GoodIn wsX1_serve wsX1_makeWayForNewJar := goodIn_r _ [34, 2, 6, 14, 5, 3, 1, 35, 36, 37, 27, 38, 29, 39, 40, 41, 42, 30, 43, 44, 45, 18, 46, 4, 47, 48, 49, 50, 51, 52, 53, 54, 63, 64, 65, 66, 67, 68, 69, 70, 71] (by decide +kernel) (by decide +kernel)
set_option maxRecDepth 20000 in
theorem gX1_serve_X1_makeWayForNewJar : GoodIn wsX1_serve (wsV RX1 57 RX1 yX1_makeWayForNewJar wsX1_makeWayForNewJar) := goodIn_app (goodIn_of _ (by decide +kernel)) ggX1_serve_X1_makeWayForNewJar
set_option maxRecDepth 20000 in
theorem ggX1_serve_X0_putFirst : GoodIn wsX1_serve wsX0_putFirst := goodIn_r _ [50, 29, 30, 51, 52, 53, 54, 70, 71] (by decide +kernel) (by decide +kernel)
set_option maxRecDepth 20000 in
theorem gX1_serve_X0_putFirst : GoodIn wsX1_serve (wsV RX1 60 RX0 yX0_putFirst wsX0_putFirst) := goodIn_app (goodIn_of _ (by decide +kernel)) ggX1_serve_X0_putFirst
set_option maxRecDepth 20000 in
theorem ggX1_serve_X1_step : GoodIn wsX1_serve wsX1_step := goodIn_r _ [58, 11, 12, 9, 13, 35, 36, 37, 27, 38, 29, 70, 71] (by decide +kernel) (by decide +kernel)
set_option maxRecDepth 20000 in
theorem gX1_serve_X1_step : GoodIn wsX1_serve (wsV RX1 63 RX1 yX1_step wsX1_step) := goodIn_app (goodIn_of _ (by decide +kernel)) ggX1_serve_X1_step
set_option maxRecDepth 20000 in
theorem ggX1_serve_X1_makeRoom : GoodIn wsX1_serve wsX1_makeRoom := goodIn_r _ [46, 2, 14, 3, 4, 6, 5, 1, 35, 36, 37, 27, 38, 29, 39, 40, 41, 42, 30, 47, 48, 49, 50, 51, 52, 53, 54, 63, 64, 65, 66, 67, 68, 69, 70, 71] (by decide +kernel) (by decide +kernel)
set_option maxRecDepth 20000 in
theorem gX1_serve_X1_makeRoom : GoodIn wsX1_serve (wsV RX1 73 RX1 yX1_makeRoom wsX1_makeRoom) := goodIn_app (goodIn_of _ (by decide +kernel)) ggX1_serve_X1_makeRoom
set_option maxRecDepth 20000 in
theorem ggX1_serve_X0_placeOf : GoodIn wsX1_serve wsX0_placeOf := goodIn_r _ [28, 29, 30, 70, 71] (by decide +kernel) (by decide +kernel)
set_option maxRecDepth 20000 in
theorem gX1_serve_X0_placeOf : GoodIn wsX1_serve (wsV RX1 50 RX0 yX0_placeOf wsX0_placeOf) := goodIn_app (goodIn_of _ (by decide +kernel)) ggX1_serve_X0_placeOf
set_option maxRecDepth 20000 in
theorem ggX1_serve_X0_takeAt : GoodIn wsX1_serve wsX0_takeAt := goodIn_r _ [62, 29, 30, 51, 52, 53, 54, 70, 71] (by decide +kernel) (by decide +kernel)
set_option maxRecDepth 20000 in
theorem gX1_serve_X0_takeAt : GoodIn wsX1_serve (wsV RX1 80 RX0 yX0_takeAt wsX0_takeAt) := goodIn_app (goodIn_of _ (by decide +kernel)) ggX1_serve_X0_takeAt
theorem dX1_serve_0 : decode cX1_serve 0 = .ok (.aload_n 0, 1) := by decide +kernel
theorem dX1_serve_1 : decode cX1_serve 1 = .ok (.iload_n 1, 1) := by decide +kernel
theorem dX1_serve_2 : decode cX1_serve 2 = .ok (.invokevirtual 54, 3) := by decide +kernel
theorem dX1_serve_5 : decode cX1_serve 5 = .ok (.istore_n 2, 1) := by decide +kernel
theorem dX1_serve_6 : decode cX1_serve 6 = .ok (.aload_n 0, 1) := by decide +kernel
theorem dX1_serve_7 : decode cX1_serve 7 = .ok (.iload_n 2, 1) := by decide +kernel
theorem dX1_serve_8 : decode cX1_serve 8 = .ok (.invokevirtual 46, 3) := by decide +kernel
theorem dX1_serve_11 : decode cX1_serve 11 = .ok (.astore_n 3, 1) := by decide +kernel
theorem dX1_serve_12 : decode cX1_serve 12 = .ok (.aload_n 0, 1) := by decide +kernel
theorem dX1_serve_13 : decode cX1_serve 13 = .ok (.iconst (-1), 1) := by decide +kernel
theorem dX1_serve_14 : decode cX1_serve 14 = .ok (.putfield 36, 3) := by decide +kernel
theorem dX1_serve_17 : decode cX1_serve 17 = .ok (.aload_n 3, 1) := by decide +kernel
theorem dX1_serve_18 : decode cX1_serve 18 = .ok (.ifnonnull 17, 3) := by decide +kernel
theorem dX1_serve_21 : decode cX1_serve 21 = .ok (.aload_n 0, 1) := by decide +kernel
theorem dX1_serve_22 : decode cX1_serve 22 = .ok (.invokevirtual 57, 3) := by decide +kernel
theorem dX1_serve_25 : decode cX1_serve 25 = .ok (.aload_n 0, 1) := by decide +kernel
theorem dX1_serve_26 : decode cX1_serve 26 = .ok (.getfield 14, 3) := by decide +kernel
theorem dX1_serve_29 : decode cX1_serve 29 = .ok (.iload_n 1, 1) := by decide +kernel
theorem dX1_serve_30 : decode cX1_serve 30 = .ok (.invokevirtual 60, 3) := by decide +kernel
theorem dX1_serve_33 : decode cX1_serve 33 = .ok (.iload_n 2, 1) := by decide +kernel
theorem dX1_serve_34 : decode cX1_serve 34 = .ok (.ireturn, 1) := by decide +kernel
theorem dX1_serve_35 : decode cX1_serve 35 = .ok (.iload_n 2, 1) := by decide +kernel
theorem dX1_serve_36 : decode cX1_serve 36 = .ok (.iconst 3, 1) := by decide +kernel
theorem dX1_serve_37 : decode cX1_serve 37 = .ok (.if_icmp .ne 39, 3) := by decide +kernel
theorem dX1_serve_40 : decode cX1_serve 40 = .ok (.aload_n 0, 1) := by decide +kernel
theorem dX1_serve_41 : decode cX1_serve 41 = .ok (.aload_n 0, 1) := by decide +kernel
theorem dX1_serve_42 : decode cX1_serve 42 = .ok (.getfield 29, 3) := by decide +kernel
theorem dX1_serve_45 : decode cX1_serve 45 = .ok (.aload_n 0, 1) := by decide +kernel
theorem dX1_serve_46 : decode cX1_serve 46 = .ok (.getfield 33, 3) := by decide +kernel
theorem dX1_serve_49 : decode cX1_serve 49 = .ok (.aload_n 0, 1) := by decide +kernel
theorem dX1_serve_50 : decode cX1_serve 50 = .ok (.aload_n 0, 1) := by decide +kernel
theorem dX1_serve_51 : decode cX1_serve 51 = .ok (.getfield 26, 3) := by decide +kernel
theorem dX1_serve_54 : decode cX1_serve 54 = .ok (.aload_n 0, 1) := by decide +kernel
theorem dX1_serve_55 : decode cX1_serve 55 = .ok (.getfield 23, 3) := by decide +kernel
theorem dX1_serve_58 : decode cX1_serve 58 = .ok (.invokevirtual 63, 3) := by decide +kernel
theorem dX1_serve_61 : decode cX1_serve 61 = .ok (.iadd, 1) := by decide +kernel
theorem dX1_serve_62 : decode cX1_serve 62 = .ok (.invokestatic 67, 3) := by decide +kernel
theorem dX1_serve_65 : decode cX1_serve 65 = .ok (.putfield 33, 3) := by decide +kernel
theorem dX1_serve_68 : decode cX1_serve 68 = .ok (.aload_n 0, 1) := by decide +kernel
theorem dX1_serve_69 : decode cX1_serve 69 = .ok (.iconst 0, 1) := by decide +kernel
theorem dX1_serve_70 : decode cX1_serve 70 = .ok (.invokevirtual 73, 3) := by decide +kernel
theorem dX1_serve_73 : decode cX1_serve 73 = .ok (.goto 38, 3) := by decide +kernel
theorem dX1_serve_76 : decode cX1_serve 76 = .ok (.iload_n 2, 1) := by decide +kernel
theorem dX1_serve_77 : decode cX1_serve 77 = .ok (.iconst 4, 1) := by decide +kernel
theorem dX1_serve_78 : decode cX1_serve 78 = .ok (.if_icmp .ne 33, 3) := by decide +kernel
theorem dX1_serve_81 : decode cX1_serve 81 = .ok (.aload_n 0, 1) := by decide +kernel
theorem dX1_serve_82 : decode cX1_serve 82 = .ok (.iconst 0, 1) := by decide +kernel
theorem dX1_serve_83 : decode cX1_serve 83 = .ok (.aload_n 0, 1) := by decide +kernel
theorem dX1_serve_84 : decode cX1_serve 84 = .ok (.getfield 33, 3) := by decide +kernel
theorem dX1_serve_87 : decode cX1_serve 87 = .ok (.aload_n 0, 1) := by decide +kernel
theorem dX1_serve_88 : decode cX1_serve 88 = .ok (.aload_n 0, 1) := by decide +kernel
theorem dX1_serve_89 : decode cX1_serve 89 = .ok (.getfield 23, 3) := by decide +kernel
theorem dX1_serve_92 : decode cX1_serve 92 = .ok (.aload_n 0, 1) := by decide +kernel
theorem dX1_serve_93 : decode cX1_serve 93 = .ok (.getfield 26, 3) := by decide +kernel
theorem dX1_serve_96 : decode cX1_serve 96 = .ok (.invokevirtual 63, 3) := by decide +kernel
theorem dX1_serve_99 : decode cX1_serve 99 = .ok (.isub, 1) := by decide +kernel
theorem dX1_serve_100 : decode cX1_serve 100 = .ok (.invokestatic 77, 3) := by decide +kernel
theorem dX1_serve_103 : decode cX1_serve 103 = .ok (.putfield 33, 3) := by decide +kernel
theorem dX1_serve_106 : decode cX1_serve 106 = .ok (.aload_n 0, 1) := by decide +kernel
theorem dX1_serve_107 : decode cX1_serve 107 = .ok (.iconst 1, 1) := by decide +kernel
theorem dX1_serve_108 : decode cX1_serve 108 = .ok (.invokevirtual 73, 3) := by decide +kernel
theorem dX1_serve_111 : decode cX1_serve 111 = .ok (.aload_n 3, 1) := by decide +kernel
theorem dX1_serve_112 : decode cX1_serve 112 = .ok (.aload_n 3, 1) := by decide +kernel
theorem dX1_serve_113 : decode cX1_serve 113 = .ok (.iload_n 1, 1) := by decide +kernel
theorem dX1_serve_114 : decode cX1_serve 114 = .ok (.invokevirtual 50, 3) := by decide +kernel
theorem dX1_serve_117 : decode cX1_serve 117 = .ok (.invokevirtual 80, 3) := by decide +kernel
theorem dX1_serve_120 : decode cX1_serve 120 = .ok (.pop, 1) := by decide +kernel
theorem dX1_serve_121 : decode cX1_serve 121 = .ok (.aload_n 0, 1) := by decide +kernel
theorem dX1_serve_122 : decode cX1_serve 122 = .ok (.getfield 20, 3) := by decide +kernel
theorem dX1_serve_125 : decode cX1_serve 125 = .ok (.iload_n 1, 1) := by decide +kernel
theorem dX1_serve_126 : decode cX1_serve 126 = .ok (.invokevirtual 60, 3) := by decide +kernel
theorem dX1_serve_129 : decode cX1_serve 129 = .ok (.iload_n 2, 1) := by decide +kernel
theorem dX1_serve_130 : decode cX1_serve 130 = .ok (.ireturn, 1) := by decide +kernel
set_option maxRecDepth 20000 in
theorem ggX1_step_X0_length : GoodIn wsX1_step wsX0_length := goodIn_r _ [9, 10, 11, 12] (by decide +kernel) (by decide +kernel)
set_option maxRecDepth 20000 in
theorem gX1_step_X0_length : GoodIn wsX1_step (wsV RX1 83 RX0 yX0_length wsX0_length) := goodIn_app (goodIn_of _ (by decide +kernel)) ggX1_step_X0_length
theorem dX1_step_0 : decode cX1_step 0 = .ok (.aload_n 2, 1) := by decide +kernel
theorem dX1_step_1 : decode cX1_step 1 = .ok (.invokevirtual 83, 3) := by decide +kernel
theorem dX1_step_4 : decode cX1_step 4 = .ok (.istore_n 3, 1) := by decide +kernel
theorem dX1_step_5 : decode cX1_step 5 = .ok (.iload_n 3, 1) := by decide +kernel
theorem dX1_step_6 : decode cX1_step 6 = .ok (.ifCond .gt 5, 3) := by decide +kernel
theorem dX1_step_9 : decode cX1_step 9 = .ok (.iconst 1, 1) := by decide +kernel
theorem dX1_step_10 : decode cX1_step 10 = .ok (.ireturn, 1) := by decide +kernel
theorem dX1_step_11 : decode cX1_step 11 = .ok (.iconst 1, 1) := by decide +kernel
theorem dX1_step_12 : decode cX1_step 12 = .ok (.aload_n 1, 1) := by decide +kernel
theorem dX1_step_13 : decode cX1_step 13 = .ok (.invokevirtual 83, 3) := by decide +kernel
theorem dX1_step_16 : decode cX1_step 16 = .ok (.iload_n 3, 1) := by decide +kernel
theorem dX1_step_17 : decode cX1_step 17 = .ok (.idiv, 1) := by decide +kernel
theorem dX1_step_18 : decode cX1_step 18 = .ok (.invokestatic 77, 3) := by decide +kernel
theorem dX1_step_21 : decode cX1_step 21 = .ok (.ireturn, 1) := by decide +kernel
set_option maxRecDepth 20000 in
theorem ggX1_makeWayForNewJar_X0_length : GoodIn wsX1_makeWayForNewJar wsX0_length := goodIn_r _ [11, 12, 39, 40] (by decide +kernel) (by decide +kernel)
set_option maxRecDepth 20000 in
theorem gX1_makeWayForNewJar_X0_length : GoodIn wsX1_makeWayForNewJar (wsV RX1 83 RX0 yX0_length wsX0_length) := goodIn_app (goodIn_of _ (by decide +kernel)) ggX1_makeWayForNewJar_X0_length
set_option maxRecDepth 20000 in
theorem ggX1_makeWayForNewJar_X0_takeLast : GoodIn wsX1_makeWayForNewJar wsX0_takeLast := goodIn_r _ [16, 12, 17, 39, 40] (by decide +kernel) (by decide +kernel)
set_option maxRecDepth 20000 in
theorem gX1_makeWayForNewJar_X0_takeLast : GoodIn wsX1_makeWayForNewJar (wsV RX1 87 RX0 yX0_takeLast wsX0_takeLast) := goodIn_app (goodIn_of _ (by decide +kernel)) ggX1_makeWayForNewJar_X0_takeLast
set_option maxRecDepth 20000 in
theorem ggX1_makeWayForNewJar_X1_makeRoom : GoodIn wsX1_makeWayForNewJar wsX1_makeRoom := goodIn_r _ [22, 1, 3, 5, 23, 2, 4, 6, 7, 8, 9, 10, 11, 12, 13, 14, 15, 16, 17, 24, 25, 26, 27, 28, 29, 30, 31, 32, 33, 34, 35, 36, 37, 38, 39, 40] (by decide +kernel) (by decide +kernel)
set_option maxRecDepth 20000 in
theorem gX1_makeWayForNewJar_X1_makeRoom : GoodIn wsX1_makeWayForNewJar (wsV RX1 73 RX1 yX1_makeRoom wsX1_makeRoom) := goodIn_app (goodIn_of _ (by decide +kernel)) ggX1_makeWayForNewJar_X1_makeRoom
theorem dX1_makeWayForNewJar_0 : decode cX1_makeWayForNewJar 0 = .ok (.aload_n 0, 1) := by decide +kernel
theorem dX1_makeWayForNewJar_1 : decode cX1_makeWayForNewJar 1 = .ok (.getfield 14, 3) := by decide +kernel
theorem dX1_makeWayForNewJar_4 : decode cX1_makeWayForNewJar 4 = .ok (.invokevirtual 83, 3) := by decide +kernel
theorem dX1_makeWayForNewJar_7 : decode cX1_makeWayForNewJar 7 = .ok (.aload_n 0, 1) := by decide +kernel
theorem dX1_makeWayForNewJar_8 : decode cX1_makeWayForNewJar 8 = .ok (.getfield 23, 3) := by decide +kernel
theorem dX1_makeWayForNewJar_11 : decode cX1_makeWayForNewJar 11 = .ok (.invokevirtual 83, 3) := by decide +kernel
theorem dX1_makeWayForNewJar_14 : decode cX1_makeWayForNewJar 14 = .ok (.iadd, 1) := by decide +kernel
theorem dX1_makeWayForNewJar_15 : decode cX1_makeWayForNewJar 15 = .ok (.istore_n 1, 1) := by decide +kernel
theorem dX1_makeWayForNewJar_16 : decode cX1_makeWayForNewJar 16 = .ok (.iload_n 1, 1) := by decide +kernel
theorem dX1_makeWayForNewJar_17 : decode cX1_makeWayForNewJar 17 = .ok (.aload_n 0, 1) := by decide +kernel
theorem dX1_makeWayForNewJar_18 : decode cX1_makeWayForNewJar 18 = .ok (.getfield 20, 3) := by decide +kernel
theorem dX1_makeWayForNewJar_21 : decode cX1_makeWayForNewJar 21 = .ok (.invokevirtual 83, 3) := by decide +kernel
theorem dX1_makeWayForNewJar_24 : decode cX1_makeWayForNewJar 24 = .ok (.iadd, 1) := by decide +kernel
theorem dX1_makeWayForNewJar_25 : decode cX1_makeWayForNewJar 25 = .ok (.aload_n 0, 1) := by decide +kernel
theorem dX1_makeWayForNewJar_26 : decode cX1_makeWayForNewJar 26 = .ok (.getfield 26, 3) := by decide +kernel
theorem dX1_makeWayForNewJar_29 : decode cX1_makeWayForNewJar 29 = .ok (.invokevirtual 83, 3) := by decide +kernel
theorem dX1_makeWayForNewJar_32 : decode cX1_makeWayForNewJar 32 = .ok (.iadd, 1) := by decide +kernel
theorem dX1_makeWayForNewJar_33 : decode cX1_makeWayForNewJar 33 = .ok (.istore_n 2, 1) := by decide +kernel
theorem dX1_makeWayForNewJar_34 : decode cX1_makeWayForNewJar 34 = .ok (.iload_n 1, 1) := by decide +kernel
theorem dX1_makeWayForNewJar_35 : decode cX1_makeWayForNewJar 35 = .ok (.aload_n 0, 1) := by decide +kernel
theorem dX1_makeWayForNewJar_36 : decode cX1_makeWayForNewJar 36 = .ok (.getfield 29, 3) := by decide +kernel
theorem dX1_makeWayForNewJar_39 : decode cX1_makeWayForNewJar 39 = .ok (.if_icmp .ne 43, 3) := by decide +kernel
theorem dX1_makeWayForNewJar_42 : decode cX1_makeWayForNewJar 42 = .ok (.aload_n 0, 1) := by decide +kernel
theorem dX1_makeWayForNewJar_43 : decode cX1_makeWayForNewJar 43 = .ok (.getfield 23, 3) := by decide +kernel
theorem dX1_makeWayForNewJar_46 : decode cX1_makeWayForNewJar 46 = .ok (.invokevirtual 83, 3) := by decide +kernel
theorem dX1_makeWayForNewJar_49 : decode cX1_makeWayForNewJar 49 = .ok (.ifCond .le 19, 3) := by decide +kernel
theorem dX1_makeWayForNewJar_52 : decode cX1_makeWayForNewJar 52 = .ok (.aload_n 0, 1) := by decide +kernel
theorem dX1_makeWayForNewJar_53 : decode cX1_makeWayForNewJar 53 = .ok (.getfield 23, 3) := by decide +kernel
theorem dX1_makeWayForNewJar_56 : decode cX1_makeWayForNewJar 56 = .ok (.invokevirtual 87, 3) := by decide +kernel
theorem dX1_makeWayForNewJar_59 : decode cX1_makeWayForNewJar 59 = .ok (.pop, 1) := by decide +kernel
theorem dX1_makeWayForNewJar_60 : decode cX1_makeWayForNewJar 60 = .ok (.aload_n 0, 1) := by decide +kernel
theorem dX1_makeWayForNewJar_61 : decode cX1_makeWayForNewJar 61 = .ok (.iconst 0, 1) := by decide +kernel
theorem dX1_makeWayForNewJar_62 : decode cX1_makeWayForNewJar 62 = .ok (.invokevirtual 73, 3) := by decide +kernel
theorem dX1_makeWayForNewJar_65 : decode cX1_makeWayForNewJar 65 = .ok (.goto 48, 3) := by decide +kernel
theorem dX1_makeWayForNewJar_68 : decode cX1_makeWayForNewJar 68 = .ok (.aload_n 0, 1) := by decide +kernel
theorem dX1_makeWayForNewJar_69 : decode cX1_makeWayForNewJar 69 = .ok (.aload_n 0, 1) := by decide +kernel
theorem dX1_makeWayForNewJar_70 : decode cX1_makeWayForNewJar 70 = .ok (.getfield 14, 3) := by decide +kernel
theorem dX1_makeWayForNewJar_73 : decode cX1_makeWayForNewJar 73 = .ok (.invokevirtual 87, 3) := by decide +kernel
theorem dX1_makeWayForNewJar_76 : decode cX1_makeWayForNewJar 76 = .ok (.putfield 36, 3) := by decide +kernel
theorem dX1_makeWayForNewJar_79 : decode cX1_makeWayForNewJar 79 = .ok (.goto 34, 3) := by decide +kernel
theorem dX1_makeWayForNewJar_82 : decode cX1_makeWayForNewJar 82 = .ok (.iload_n 2, 1) := by decide +kernel
theorem dX1_makeWayForNewJar_83 : decode cX1_makeWayForNewJar 83 = .ok (.aload_n 0, 1) := by decide +kernel
theorem dX1_makeWayForNewJar_84 : decode cX1_makeWayForNewJar 84 = .ok (.getfield 29, 3) := by decide +kernel
theorem dX1_makeWayForNewJar_87 : decode cX1_makeWayForNewJar 87 = .ok (.if_icmp .lt 26, 3) := by decide +kernel
theorem dX1_makeWayForNewJar_90 : decode cX1_makeWayForNewJar 90 = .ok (.iload_n 2, 1) := by decide +kernel
theorem dX1_makeWayForNewJar_91 : decode cX1_makeWayForNewJar 91 = .ok (.iconst 2, 1) := by decide +kernel
theorem dX1_makeWayForNewJar_92 : decode cX1_makeWayForNewJar 92 = .ok (.aload_n 0, 1) := by decide +kernel
theorem dX1_makeWayForNewJar_93 : decode cX1_makeWayForNewJar 93 = .ok (.getfield 29, 3) := by decide +kernel
theorem dX1_makeWayForNewJar_96 : decode cX1_makeWayForNewJar 96 = .ok (.imul, 1) := by decide +kernel
theorem dX1_makeWayForNewJar_97 : decode cX1_makeWayForNewJar 97 = .ok (.if_icmp .ne 11, 3) := by decide +kernel
theorem dX1_makeWayForNewJar_100 : decode cX1_makeWayForNewJar 100 = .ok (.aload_n 0, 1) := by decide +kernel
theorem dX1_makeWayForNewJar_101 : decode cX1_makeWayForNewJar 101 = .ok (.getfield 26, 3) := by decide +kernel
theorem dX1_makeWayForNewJar_104 : decode cX1_makeWayForNewJar 104 = .ok (.invokevirtual 87, 3) := by decide +kernel
theorem dX1_makeWayForNewJar_107 : decode cX1_makeWayForNewJar 107 = .ok (.pop, 1) := by decide +kernel
theorem dX1_makeWayForNewJar_108 : decode cX1_makeWayForNewJar 108 = .ok (.aload_n 0, 1) := by decide +kernel
theorem dX1_makeWayForNewJar_109 : decode cX1_makeWayForNewJar 109 = .ok (.iconst 0, 1) := by decide +kernel
theorem dX1_makeWayForNewJar_110 : decode cX1_makeWayForNewJar 110 = .ok (.invokevirtual 73, 3) := by decide +kernel
theorem dX1_makeWayForNewJar_113 : decode cX1_makeWayForNewJar 113 = .ok (.return_, 1) := by decide +kernel
set_option maxRecDepth 20000 in
theorem ggX1_makeRoom_X0_length : GoodIn wsX1_makeRoom wsX0_length := goodIn_r _ [12, 13, 34, 35] (by decide +kernel) (by decide +kernel)
set_option maxRecDepth 20000 in
theorem gX1_makeRoom_X0_length : GoodIn wsX1_makeRoom (wsV RX1 83 RX0 yX0_length wsX0_length) := goodIn_app (goodIn_of _ (by decide +kernel)) ggX1_makeRoom_X0_length
set_option maxRecDepth 20000 in
theorem ggX1_makeRoom_X0_takeLast : GoodIn wsX1_makeRoom wsX0_takeLast := goodIn_r _ [17, 13, 18, 34, 35] (by decide +kernel) (by decide +kernel)
set_option maxRecDepth 20000 in
theorem gX1_makeRoom_X0_takeLast : GoodIn wsX1_makeRoom (wsV RX1 87 RX0 yX0_takeLast wsX0_takeLast) := goodIn_app (goodIn_of _ (by decide +kernel)) ggX1_makeRoom_X0_takeLast
set_option maxRecDepth 20000 in
theorem ggX1_makeRoom_X0_putFirst : GoodIn wsX1_makeRoom wsX0_putFirst := goodIn_r _ [22, 13, 18, 23, 24, 25, 26, 34, 35] (by decide +kernel) (by decide +kernel)
set_option maxRecDepth 20000 in
theorem gX1_makeRoom_X0_putFirst : GoodIn wsX1_makeRoom (wsV RX1 60 RX0 yX0_putFirst wsX0_putFirst) := goodIn_app (goodIn_of _ (by decide +kernel)) ggX1_makeRoom_X0_putFirst
theorem dX1_makeRoom_0 : decode cX1_makeRoom 0 = .ok (.aload_n 0, 1) := by decide +kernel
theorem dX1_makeRoom_1 : decode cX1_makeRoom 1 = .ok (.getfield 14, 3) := by decide +kernel
theorem dX1_makeRoom_4 : decode cX1_makeRoom 4 = .ok (.invokevirtual 83, 3) := by decide +kernel
theorem dX1_makeRoom_7 : decode cX1_makeRoom 7 = .ok (.istore_n 2, 1) := by decide +kernel
theorem dX1_makeRoom_8 : decode cX1_makeRoom 8 = .ok (.iload_n 2, 1) := by decide +kernel
theorem dX1_makeRoom_9 : decode cX1_makeRoom 9 = .ok (.aload_n 0, 1) := by decide +kernel
theorem dX1_makeRoom_10 : decode cX1_makeRoom 10 = .ok (.getfield 20, 3) := by decide +kernel
theorem dX1_makeRoom_13 : decode cX1_makeRoom 13 = .ok (.invokevirtual 83, 3) := by decide +kernel
theorem dX1_makeRoom_16 : decode cX1_makeRoom 16 = .ok (.iadd, 1) := by decide +kernel
theorem dX1_makeRoom_17 : decode cX1_makeRoom 17 = .ok (.aload_n 0, 1) := by decide +kernel
theorem dX1_makeRoom_18 : decode cX1_makeRoom 18 = .ok (.getfield 29, 3) := by decide +kernel
theorem dX1_makeRoom_21 : decode cX1_makeRoom 21 = .ok (.if_icmp .eq 4, 3) := by decide +kernel
theorem dX1_makeRoom_24 : decode cX1_makeRoom 24 = .ok (.return_, 1) := by decide +kernel
theorem dX1_makeRoom_25 : decode cX1_makeRoom 25 = .ok (.iload_n 2, 1) := by decide +kernel
theorem dX1_makeRoom_26 : decode cX1_makeRoom 26 = .ok (.aload_n 0, 1) := by decide +kernel
theorem dX1_makeRoom_27 : decode cX1_makeRoom 27 = .ok (.getfield 33, 3) := by decide +kernel
theorem dX1_makeRoom_30 : decode cX1_makeRoom 30 = .ok (.if_icmp .gt 15, 3) := by decide +kernel
theorem dX1_makeRoom_33 : decode cX1_makeRoom 33 = .ok (.iload_n 1, 1) := by decide +kernel
theorem dX1_makeRoom_34 : decode cX1_makeRoom 34 = .ok (.ifCond .eq 15, 3) := by decide +kernel
theorem dX1_makeRoom_37 : decode cX1_makeRoom 37 = .ok (.iload_n 2, 1) := by decide +kernel
theorem dX1_makeRoom_38 : decode cX1_makeRoom 38 = .ok (.aload_n 0, 1) := by decide +kernel
theorem dX1_makeRoom_39 : decode cX1_makeRoom 39 = .ok (.getfield 33, 3) := by decide +kernel
theorem dX1_makeRoom_42 : decode cX1_makeRoom 42 = .ok (.if_icmp .ne 7, 3) := by decide +kernel
theorem dX1_makeRoom_45 : decode cX1_makeRoom 45 = .ok (.iconst 1, 1) := by decide +kernel
theorem dX1_makeRoom_46 : decode cX1_makeRoom 46 = .ok (.goto 4, 3) := by decide +kernel
theorem dX1_makeRoom_49 : decode cX1_makeRoom 49 = .ok (.iconst 0, 1) := by decide +kernel
theorem dX1_makeRoom_50 : decode cX1_makeRoom 50 = .ok (.istore_n 3, 1) := by decide +kernel
theorem dX1_makeRoom_51 : decode cX1_makeRoom 51 = .ok (.iload_n 2, 1) := by decide +kernel
theorem dX1_makeRoom_52 : decode cX1_makeRoom 52 = .ok (.ifCond .le 7, 3) := by decide +kernel
theorem dX1_makeRoom_55 : decode cX1_makeRoom 55 = .ok (.iload_n 3, 1) := by decide +kernel
theorem dX1_makeRoom_56 : decode cX1_makeRoom 56 = .ok (.ifCond .ne 13, 3) := by decide +kernel
theorem dX1_makeRoom_59 : decode cX1_makeRoom 59 = .ok (.aload_n 0, 1) := by decide +kernel
theorem dX1_makeRoom_60 : decode cX1_makeRoom 60 = .ok (.getfield 20, 3) := by decide +kernel
theorem dX1_makeRoom_63 : decode cX1_makeRoom 63 = .ok (.invokevirtual 83, 3) := by decide +kernel
theorem dX1_makeRoom_66 : decode cX1_makeRoom 66 = .ok (.ifCond .ne 7, 3) := by decide +kernel
theorem dX1_makeRoom_69 : decode cX1_makeRoom 69 = .ok (.iconst 1, 1) := by decide +kernel
theorem dX1_makeRoom_70 : decode cX1_makeRoom 70 = .ok (.goto 4, 3) := by decide +kernel
theorem dX1_makeRoom_73 : decode cX1_makeRoom 73 = .ok (.iconst 0, 1) := by decide +kernel
theorem dX1_makeRoom_74 : decode cX1_makeRoom 74 = .ok (.istore 4, 2) := by decide +kernel
theorem dX1_makeRoom_76 : decode cX1_makeRoom 76 = .ok (.iload 4, 2) := by decide +kernel
theorem dX1_makeRoom_78 : decode cX1_makeRoom 78 = .ok (.ifCond .eq 10, 3) := by decide +kernel
theorem dX1_makeRoom_81 : decode cX1_makeRoom 81 = .ok (.aload_n 0, 1) := by decide +kernel
theorem dX1_makeRoom_82 : decode cX1_makeRoom 82 = .ok (.getfield 14, 3) := by decide +kernel
theorem dX1_makeRoom_85 : decode cX1_makeRoom 85 = .ok (.goto 7, 3) := by decide +kernel
theorem dX1_makeRoom_88 : decode cX1_makeRoom 88 = .ok (.aload_n 0, 1) := by decide +kernel
theorem dX1_makeRoom_89 : decode cX1_makeRoom 89 = .ok (.getfield 20, 3) := by decide +kernel
theorem dX1_makeRoom_92 : decode cX1_makeRoom 92 = .ok (.astore 5, 2) := by decide +kernel
theorem dX1_makeRoom_94 : decode cX1_makeRoom 94 = .ok (.iload 4, 2) := by decide +kernel
theorem dX1_makeRoom_96 : decode cX1_makeRoom 96 = .ok (.ifCond .eq 10, 3) := by decide +kernel
theorem dX1_makeRoom_99 : decode cX1_makeRoom 99 = .ok (.aload_n 0, 1) := by decide +kernel
theorem dX1_makeRoom_100 : decode cX1_makeRoom 100 = .ok (.getfield 23, 3) := by decide +kernel
theorem dX1_makeRoom_103 : decode cX1_makeRoom 103 = .ok (.goto 7, 3) := by decide +kernel
theorem dX1_makeRoom_106 : decode cX1_makeRoom 106 = .ok (.aload_n 0, 1) := by decide +kernel
theorem dX1_makeRoom_107 : decode cX1_makeRoom 107 = .ok (.getfield 26, 3) := by decide +kernel
theorem dX1_makeRoom_110 : decode cX1_makeRoom 110 = .ok (.astore 6, 2) := by decide +kernel
theorem dX1_makeRoom_112 : decode cX1_makeRoom 112 = .ok (.aload_n 0, 1) := by decide +kernel
theorem dX1_makeRoom_113 : decode cX1_makeRoom 113 = .ok (.aload 5, 2) := by decide +kernel
theorem dX1_makeRoom_115 : decode cX1_makeRoom 115 = .ok (.invokevirtual 87, 3) := by decide +kernel
theorem dX1_makeRoom_118 : decode cX1_makeRoom 118 = .ok (.putfield 36, 3) := by decide +kernel
theorem dX1_makeRoom_121 : decode cX1_makeRoom 121 = .ok (.aload_n 0, 1) := by decide +kernel
theorem dX1_makeRoom_122 : decode cX1_makeRoom 122 = .ok (.getfield 36, 3) := by decide +kernel
theorem dX1_makeRoom_125 : decode cX1_makeRoom 125 = .ok (.iconst (-1), 1) := by decide +kernel
theorem dX1_makeRoom_126 : decode cX1_makeRoom 126 = .ok (.if_icmp .eq 12, 3) := by decide +kernel
theorem dX1_makeRoom_129 : decode cX1_makeRoom 129 = .ok (.aload 6, 2) := by decide +kernel
theorem dX1_makeRoom_131 : decode cX1_makeRoom 131 = .ok (.aload_n 0, 1) := by decide +kernel
theorem dX1_makeRoom_132 : decode cX1_makeRoom 132 = .ok (.getfield 36, 3) := by decide +kernel
theorem dX1_makeRoom_135 : decode cX1_makeRoom 135 = .ok (.invokevirtual 60, 3) := by decide +kernel
theorem dX1_makeRoom_138 : decode cX1_makeRoom 138 = .ok (.return_, 1) := by decide +kernel
