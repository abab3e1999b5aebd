theorem dX3_init_0 : decode cX3_init 0 = .ok (.aload_n 0, 1) := by decide +kernel
theorem dX3_init_1 : decode cX3_init 1 = .ok (.invokespecial 1, 3) := by decide +kernel
theorem dX3_init_4 : decode cX3_init 4 = .ok (.aload_n 0, 1) := by decide +kernel
theorem dX3_init_5 : decode cX3_init 5 = .ok (.bipush 7, 2) := by decide +kernel
theorem dX3_init_7 : decode cX3_init 7 = .ok (.bipush 31, 2) := by decide +kernel
theorem dX3_init_9 : decode cX3_init 9 = .ok (.multianewarray 9 2, 4) := by decide +kernel
theorem dX3_init_13 : decode cX3_init 13 = .ok (.putfield 11, 3) := by decide +kernel
theorem dX3_init_16 : decode cX3_init 16 = .ok (.aload_n 0, 1) := by decide +kernel
theorem dX3_init_17 : decode cX3_init 17 = .ok (.bipush 7, 2) := by decide +kernel
theorem dX3_init_19 : decode cX3_init 19 = .ok (.newarray .int, 2) := by decide +kernel
theorem dX3_init_21 : decode cX3_init 21 = .ok (.putfield 14, 3) := by decide +kernel
theorem dX3_init_24 : decode cX3_init 24 = .ok (.aload_n 0, 1) := by decide +kernel
theorem dX3_init_25 : decode cX3_init 25 = .ok (.bipush 6, 2) := by decide +kernel
theorem dX3_init_27 : decode cX3_init 27 = .ok (.newarray .int, 2) := by decide +kernel
theorem dX3_init_29 : decode cX3_init 29 = .ok (.dup, 1) := by decide +kernel
theorem dX3_init_30 : decode cX3_init 30 = .ok (.iconst 0, 1) := by decide +kernel
theorem dX3_init_31 : decode cX3_init 31 = .ok (.bipush 6, 2) := by decide +kernel
theorem dX3_init_33 : decode cX3_init 33 = .ok (.iastore, 1) := by decide +kernel
theorem dX3_init_34 : decode cX3_init 34 = .ok (.dup, 1) := by decide +kernel
theorem dX3_init_35 : decode cX3_init 35 = .ok (.iconst 1, 1) := by decide +kernel
theorem dX3_init_36 : decode cX3_init 36 = .ok (.iconst 0, 1) := by decide +kernel
theorem dX3_init_37 : decode cX3_init 37 = .ok (.iastore, 1) := by decide +kernel
theorem dX3_init_38 : decode cX3_init 38 = .ok (.dup, 1) := by decide +kernel
theorem dX3_init_39 : decode cX3_init 39 = .ok (.iconst 2, 1) := by decide +kernel
theorem dX3_init_40 : decode cX3_init 40 = .ok (.iconst 0, 1) := by decide +kernel
theorem dX3_init_41 : decode cX3_init 41 = .ok (.iastore, 1) := by decide +kernel
theorem dX3_init_42 : decode cX3_init 42 = .ok (.dup, 1) := by decide +kernel
theorem dX3_init_43 : decode cX3_init 43 = .ok (.iconst 3, 1) := by decide +kernel
theorem dX3_init_44 : decode cX3_init 44 = .ok (.iconst 0, 1) := by decide +kernel
theorem dX3_init_45 : decode cX3_init 45 = .ok (.iastore, 1) := by decide +kernel
theorem dX3_init_46 : decode cX3_init 46 = .ok (.dup, 1) := by decide +kernel
theorem dX3_init_47 : decode cX3_init 47 = .ok (.iconst 4, 1) := by decide +kernel
theorem dX3_init_48 : decode cX3_init 48 = .ok (.iconst 0, 1) := by decide +kernel
theorem dX3_init_49 : decode cX3_init 49 = .ok (.iastore, 1) := by decide +kernel
theorem dX3_init_50 : decode cX3_init 50 = .ok (.dup, 1) := by decide +kernel
theorem dX3_init_51 : decode cX3_init 51 = .ok (.iconst 5, 1) := by decide +kernel
theorem dX3_init_52 : decode cX3_init 52 = .ok (.iconst 0, 1) := by decide +kernel
theorem dX3_init_53 : decode cX3_init 53 = .ok (.iastore, 1) := by decide +kernel
theorem dX3_init_54 : decode cX3_init 54 = .ok (.putfield 18, 3) := by decide +kernel
theorem dX3_init_57 : decode cX3_init 57 = .ok (.aload_n 0, 1) := by decide +kernel
theorem dX3_init_58 : decode cX3_init 58 = .ok (.bipush 30, 2) := by decide +kernel
theorem dX3_init_60 : decode cX3_init 60 = .ok (.newarray .int, 2) := by decide +kernel
theorem dX3_init_62 : decode cX3_init 62 = .ok (.putfield 21, 3) := by decide +kernel
theorem dX3_init_65 : decode cX3_init 65 = .ok (.aload_n 0, 1) := by decide +kernel
theorem dX3_init_66 : decode cX3_init 66 = .ok (.bipush 30, 2) := by decide +kernel
theorem dX3_init_68 : decode cX3_init 68 = .ok (.newarray .int, 2) := by decide +kernel
theorem dX3_init_70 : decode cX3_init 70 = .ok (.putfield 24, 3) := by decide +kernel
theorem dX3_init_73 : decode cX3_init 73 = .ok (.return_, 1) := by decide +kernel
theorem dX3_thrown_0 : decode cX3_thrown 0 = .ok (.aload_n 0, 1) := by decide +kernel
theorem dX3_thrown_1 : decode cX3_thrown 1 = .ok (.getfield 27, 3) := by decide +kernel
theorem dX3_thrown_4 : decode cX3_thrown 4 = .ok (.ireturn, 1) := by decide +kernel
theorem dX3_fail_0 : decode cX3_fail 0 = .ok (.aload_n 0, 1) := by decide +kernel
theorem dX3_fail_1 : decode cX3_fail 1 = .ok (.iload_n 1, 1) := by decide +kernel
theorem dX3_fail_2 : decode cX3_fail 2 = .ok (.putfield 27, 3) := by decide +kernel
theorem dX3_fail_5 : decode cX3_fail 5 = .ok (.iconst 0, 1) := by decide +kernel
theorem dX3_fail_6 : decode cX3_fail 6 = .ok (.ireturn, 1) := by decide +kernel
theorem dX3_isIn_0 : decode cX3_isIn 0 = .ok (.iload_n 0, 1) := by decide +kernel
theorem dX3_isIn_1 : decode cX3_isIn 1 = .ok (.iload_n 1, 1) := by decide +kernel
theorem dX3_isIn_2 : decode cX3_isIn 2 = .ok (.if_icmp .lt 12, 3) := by decide +kernel
theorem dX3_isIn_5 : decode cX3_isIn 5 = .ok (.iload_n 0, 1) := by decide +kernel
theorem dX3_isIn_6 : decode cX3_isIn 6 = .ok (.iload_n 2, 1) := by decide +kernel
theorem dX3_isIn_7 : decode cX3_isIn 7 = .ok (.if_icmp .gt 7, 3) := by decide +kernel
theorem dX3_isIn_10 : decode cX3_isIn 10 = .ok (.iconst 1, 1) := by decide +kernel
theorem dX3_isIn_11 : decode cX3_isIn 11 = .ok (.goto 4, 3) := by decide +kernel
theorem dX3_isIn_14 : decode cX3_isIn 14 = .ok (.iconst 0, 1) := by decide +kernel
theorem dX3_isIn_15 : decode cX3_isIn 15 = .ok (.ireturn, 1) := by decide +kernel
set_option maxRecDepth 20000 in
theorem ggX3_isJar_X3_isIn : GoodIn wsX3_isJar wsX3_isIn := goodIn_r _ [4] (by decide +kernel) (by decide +kernel)
set_option maxRecDepth 20000 in
theorem gX3_isJar_X3_isIn : GoodIn wsX3_isJar (va_wsS RX3 31 yX3_isIn wsX3_isIn) := goodIn_app (goodIn_of _ (by decide +kernel)) ggX3_isJar_X3_isIn
theorem dX3_isJar_0 : decode cX3_isJar 0 = .ok (.iload_n 0, 1) := by decide +kernel
theorem dX3_isJar_1 : decode cX3_isJar 1 = .ok (.iconst 0, 1) := by decide +kernel
theorem dX3_isJar_2 : decode cX3_isJar 2 = .ok (.bipush 29, 2) := by decide +kernel
theorem dX3_isJar_4 : decode cX3_isJar 4 = .ok (.invokestatic 31, 3) := by decide +kernel
theorem dX3_isJar_7 : decode cX3_isJar 7 = .ok (.ireturn, 1) := by decide +kernel
theorem dX3_find_0 : decode cX3_find 0 = .ok (.iconst 0, 1) := by decide +kernel
theorem dX3_find_1 : decode cX3_find 1 = .ok (.istore_n 3, 1) := by decide +kernel
theorem dX3_find_2 : decode cX3_find 2 = .ok (.iload_n 3, 1) := by decide +kernel
theorem dX3_find_3 : decode cX3_find 3 = .ok (.aload_n 0, 1) := by decide +kernel
theorem dX3_find_4 : decode cX3_find 4 = .ok (.getfield 14, 3) := by decide +kernel
theorem dX3_find_7 : decode cX3_find 7 = .ok (.iload_n 1, 1) := by decide +kernel
theorem dX3_find_8 : decode cX3_find 8 = .ok (.iaload, 1) := by decide +kernel
theorem dX3_find_9 : decode cX3_find 9 = .ok (.if_icmp .ge 23, 3) := by decide +kernel
theorem dX3_find_12 : decode cX3_find 12 = .ok (.aload_n 0, 1) := by decide +kernel
theorem dX3_find_13 : decode cX3_find 13 = .ok (.getfield 11, 3) := by decide +kernel
theorem dX3_find_16 : decode cX3_find 16 = .ok (.iload_n 1, 1) := by decide +kernel
theorem dX3_find_17 : decode cX3_find 17 = .ok (.aaload, 1) := by decide +kernel
theorem dX3_find_18 : decode cX3_find 18 = .ok (.iload_n 3, 1) := by decide +kernel
theorem dX3_find_19 : decode cX3_find 19 = .ok (.iaload, 1) := by decide +kernel
theorem dX3_find_20 : decode cX3_find 20 = .ok (.iload_n 2, 1) := by decide +kernel
theorem dX3_find_21 : decode cX3_find 21 = .ok (.if_icmp .ne 5, 3) := by decide +kernel
theorem dX3_find_24 : decode cX3_find 24 = .ok (.iload_n 3, 1) := by decide +kernel
theorem dX3_find_25 : decode cX3_find 25 = .ok (.ireturn, 1) := by decide +kernel
theorem dX3_find_26 : decode cX3_find 26 = .ok (.iinc 3 1, 3) := by decide +kernel
theorem dX3_find_29 : decode cX3_find 29 = .ok (.goto (-27), 3) := by decide +kernel
theorem dX3_find_32 : decode cX3_find 32 = .ok (.iconst (-1), 1) := by decide +kernel
theorem dX3_find_33 : decode cX3_find 33 = .ok (.ireturn, 1) := by decide +kernel
set_option maxRecDepth 20000 in
theorem ggX3_where_X3_find : GoodIn wsX3_where wsX3_find := goodIn_r _ [5, 6, 7, 8, 9, 10, 11, 12, 13] (by decide +kernel) (by decide +kernel)
set_option maxRecDepth 20000 in
theorem gX3_where_X3_find : GoodIn wsX3_where (wsV RX3 35 RX3 yX3_find wsX3_find) := goodIn_app (goodIn_of _ (by decide +kernel)) ggX3_where_X3_find
theorem dX3_where_0 : decode cX3_where 0 = .ok (.iconst 1, 1) := by decide +kernel
theorem dX3_where_1 : decode cX3_where 1 = .ok (.istore_n 2, 1) := by decide +kernel
theorem dX3_where_2 : decode cX3_where 2 = .ok (.iload_n 2, 1) := by decide +kernel
theorem dX3_where_3 : decode cX3_where 3 = .ok (.iconst 4, 1) := by decide +kernel
theorem dX3_where_4 : decode cX3_where 4 = .ok (.if_icmp .gt 21, 3) := by decide +kernel
theorem dX3_where_7 : decode cX3_where 7 = .ok (.aload_n 0, 1) := by decide +kernel
theorem dX3_where_8 : decode cX3_where 8 = .ok (.iload_n 2, 1) := by decide +kernel
theorem dX3_where_9 : decode cX3_where 9 = .ok (.iload_n 1, 1) := by decide +kernel
theorem dX3_where_10 : decode cX3_where 10 = .ok (.invokevirtual 35, 3) := by decide +kernel
theorem dX3_where_13 : decode cX3_where 13 = .ok (.iconst (-1), 1) := by decide +kernel
theorem dX3_where_14 : decode cX3_where 14 = .ok (.if_icmp .eq 5, 3) := by decide +kernel
theorem dX3_where_17 : decode cX3_where 17 = .ok (.iload_n 2, 1) := by decide +kernel
theorem dX3_where_18 : decode cX3_where 18 = .ok (.ireturn, 1) := by decide +kernel
theorem dX3_where_19 : decode cX3_where 19 = .ok (.iinc 2 1, 3) := by decide +kernel
theorem dX3_where_22 : decode cX3_where 22 = .ok (.goto (-20), 3) := by decide +kernel
theorem dX3_where_25 : decode cX3_where 25 = .ok (.iconst 0, 1) := by decide +kernel
theorem dX3_where_26 : decode cX3_where 26 = .ok (.ireturn, 1) := by decide +kernel
theorem dX3_toFront_0 : decode cX3_toFront 0 = .ok (.aload_n 0, 1) := by decide +kernel
theorem dX3_toFront_1 : decode cX3_toFront 1 = .ok (.getfield 11, 3) := by decide +kernel
theorem dX3_toFront_4 : decode cX3_toFront 4 = .ok (.iload_n 1, 1) := by decide +kernel
theorem dX3_toFront_5 : decode cX3_toFront 5 = .ok (.aaload, 1) := by decide +kernel
theorem dX3_toFront_6 : decode cX3_toFront 6 = .ok (.iconst 0, 1) := by decide +kernel
theorem dX3_toFront_7 : decode cX3_toFront 7 = .ok (.aload_n 0, 1) := by decide +kernel
theorem dX3_toFront_8 : decode cX3_toFront 8 = .ok (.getfield 11, 3) := by decide +kernel
theorem dX3_toFront_11 : decode cX3_toFront 11 = .ok (.iload_n 1, 1) := by decide +kernel
theorem dX3_toFront_12 : decode cX3_toFront 12 = .ok (.aaload, 1) := by decide +kernel
theorem dX3_toFront_13 : decode cX3_toFront 13 = .ok (.iconst 1, 1) := by decide +kernel
theorem dX3_toFront_14 : decode cX3_toFront 14 = .ok (.aload_n 0, 1) := by decide +kernel
theorem dX3_toFront_15 : decode cX3_toFront 15 = .ok (.getfield 14, 3) := by decide +kernel
theorem dX3_toFront_18 : decode cX3_toFront 18 = .ok (.iload_n 1, 1) := by decide +kernel
theorem dX3_toFront_19 : decode cX3_toFront 19 = .ok (.iaload, 1) := by decide +kernel
theorem dX3_toFront_20 : decode cX3_toFront 20 = .ok (.invokestatic 39, 3) := by decide +kernel
theorem dX3_toFront_23 : decode cX3_toFront 23 = .ok (.aload_n 0, 1) := by decide +kernel
theorem dX3_toFront_24 : decode cX3_toFront 24 = .ok (.getfield 11, 3) := by decide +kernel
theorem dX3_toFront_27 : decode cX3_toFront 27 = .ok (.iload_n 1, 1) := by decide +kernel
theorem dX3_toFront_28 : decode cX3_toFront 28 = .ok (.aaload, 1) := by decide +kernel
theorem dX3_toFront_29 : decode cX3_toFront 29 = .ok (.iconst 0, 1) := by decide +kernel
theorem dX3_toFront_30 : decode cX3_toFront 30 = .ok (.iload_n 2, 1) := by decide +kernel
theorem dX3_toFront_31 : decode cX3_toFront 31 = .ok (.iastore, 1) := by decide +kernel
theorem dX3_toFront_32 : decode cX3_toFront 32 = .ok (.aload_n 0, 1) := by decide +kernel
theorem dX3_toFront_33 : decode cX3_toFront 33 = .ok (.getfield 14, 3) := by decide +kernel
theorem dX3_toFront_36 : decode cX3_toFront 36 = .ok (.iload_n 1, 1) := by decide +kernel
theorem dX3_toFront_37 : decode cX3_toFront 37 = .ok (.dup2, 1) := by decide +kernel
theorem dX3_toFront_38 : decode cX3_toFront 38 = .ok (.iaload, 1) := by decide +kernel
theorem dX3_toFront_39 : decode cX3_toFront 39 = .ok (.iconst 1, 1) := by decide +kernel
theorem dX3_toFront_40 : decode cX3_toFront 40 = .ok (.iadd, 1) := by decide +kernel
theorem dX3_toFront_41 : decode cX3_toFront 41 = .ok (.iastore, 1) := by decide +kernel
theorem dX3_toFront_42 : decode cX3_toFront 42 = .ok (.return_, 1) := by decide +kernel
theorem dX3_takeOut_0 : decode cX3_takeOut 0 = .ok (.aload_n 0, 1) := by decide +kernel
theorem dX3_takeOut_1 : decode cX3_takeOut 1 = .ok (.getfield 14, 3) := by decide +kernel
theorem dX3_takeOut_4 : decode cX3_takeOut 4 = .ok (.iload_n 1, 1) := by decide +kernel
theorem dX3_takeOut_5 : decode cX3_takeOut 5 = .ok (.dup2, 1) := by decide +kernel
theorem dX3_takeOut_6 : decode cX3_takeOut 6 = .ok (.iaload, 1) := by decide +kernel
theorem dX3_takeOut_7 : decode cX3_takeOut 7 = .ok (.iconst 1, 1) := by decide +kernel
theorem dX3_takeOut_8 : decode cX3_takeOut 8 = .ok (.isub, 1) := by decide +kernel
theorem dX3_takeOut_9 : decode cX3_takeOut 9 = .ok (.iastore, 1) := by decide +kernel
theorem dX3_takeOut_10 : decode cX3_takeOut 10 = .ok (.aload_n 0, 1) := by decide +kernel
theorem dX3_takeOut_11 : decode cX3_takeOut 11 = .ok (.getfield 11, 3) := by decide +kernel
theorem dX3_takeOut_14 : decode cX3_takeOut 14 = .ok (.iload_n 1, 1) := by decide +kernel
theorem dX3_takeOut_15 : decode cX3_takeOut 15 = .ok (.aaload, 1) := by decide +kernel
theorem dX3_takeOut_16 : decode cX3_takeOut 16 = .ok (.iload_n 2, 1) := by decide +kernel
theorem dX3_takeOut_17 : decode cX3_takeOut 17 = .ok (.iconst 1, 1) := by decide +kernel
theorem dX3_takeOut_18 : decode cX3_takeOut 18 = .ok (.iadd, 1) := by decide +kernel
theorem dX3_takeOut_19 : decode cX3_takeOut 19 = .ok (.aload_n 0, 1) := by decide +kernel
theorem dX3_takeOut_20 : decode cX3_takeOut 20 = .ok (.getfield 11, 3) := by decide +kernel
theorem dX3_takeOut_23 : decode cX3_takeOut 23 = .ok (.iload_n 1, 1) := by decide +kernel
theorem dX3_takeOut_24 : decode cX3_takeOut 24 = .ok (.aaload, 1) := by decide +kernel
theorem dX3_takeOut_25 : decode cX3_takeOut 25 = .ok (.iload_n 2, 1) := by decide +kernel
theorem dX3_takeOut_26 : decode cX3_takeOut 26 = .ok (.aload_n 0, 1) := by decide +kernel
theorem dX3_takeOut_27 : decode cX3_takeOut 27 = .ok (.getfield 14, 3) := by decide +kernel
theorem dX3_takeOut_30 : decode cX3_takeOut 30 = .ok (.iload_n 1, 1) := by decide +kernel
theorem dX3_takeOut_31 : decode cX3_takeOut 31 = .ok (.iaload, 1) := by decide +kernel
theorem dX3_takeOut_32 : decode cX3_takeOut 32 = .ok (.iload_n 2, 1) := by decide +kernel
theorem dX3_takeOut_33 : decode cX3_takeOut 33 = .ok (.isub, 1) := by decide +kernel
theorem dX3_takeOut_34 : decode cX3_takeOut 34 = .ok (.invokestatic 39, 3) := by decide +kernel
theorem dX3_takeOut_37 : decode cX3_takeOut 37 = .ok (.return_, 1) := by decide +kernel
theorem dX3_last_0 : decode cX3_last 0 = .ok (.aload_n 0, 1) := by decide +kernel
theorem dX3_last_1 : decode cX3_last 1 = .ok (.getfield 14, 3) := by decide +kernel
theorem dX3_last_4 : decode cX3_last 4 = .ok (.iload_n 1, 1) := by decide +kernel
theorem dX3_last_5 : decode cX3_last 5 = .ok (.dup2, 1) := by decide +kernel
theorem dX3_last_6 : decode cX3_last 6 = .ok (.iaload, 1) := by decide +kernel
theorem dX3_last_7 : decode cX3_last 7 = .ok (.iconst 1, 1) := by decide +kernel
theorem dX3_last_8 : decode cX3_last 8 = .ok (.isub, 1) := by decide +kernel
theorem dX3_last_9 : decode cX3_last 9 = .ok (.iastore, 1) := by decide +kernel
theorem dX3_last_10 : decode cX3_last 10 = .ok (.aload_n 0, 1) := by decide +kernel
theorem dX3_last_11 : decode cX3_last 11 = .ok (.getfield 11, 3) := by decide +kernel
theorem dX3_last_14 : decode cX3_last 14 = .ok (.iload_n 1, 1) := by decide +kernel
theorem dX3_last_15 : decode cX3_last 15 = .ok (.aaload, 1) := by decide +kernel
theorem dX3_last_16 : decode cX3_last 16 = .ok (.aload_n 0, 1) := by decide +kernel
theorem dX3_last_17 : decode cX3_last 17 = .ok (.getfield 14, 3) := by decide +kernel
theorem dX3_last_20 : decode cX3_last 20 = .ok (.iload_n 1, 1) := by decide +kernel
theorem dX3_last_21 : decode cX3_last 21 = .ok (.iaload, 1) := by decide +kernel
theorem dX3_last_22 : decode cX3_last 22 = .ok (.iaload, 1) := by decide +kernel
theorem dX3_last_23 : decode cX3_last 23 = .ok (.ireturn, 1) := by decide +kernel
theorem dX3_empty_0 : decode cX3_empty 0 = .ok (.iconst 1, 1) := by decide +kernel
theorem dX3_empty_1 : decode cX3_empty 1 = .ok (.istore_n 2, 1) := by decide +kernel
theorem dX3_empty_2 : decode cX3_empty 2 = .ok (.iload_n 2, 1) := by decide +kernel
theorem dX3_empty_3 : decode cX3_empty 3 = .ok (.iconst 5, 1) := by decide +kernel
theorem dX3_empty_4 : decode cX3_empty 4 = .ok (.if_icmp .gt 16, 3) := by decide +kernel
theorem dX3_empty_7 : decode cX3_empty 7 = .ok (.aload_n 0, 1) := by decide +kernel
theorem dX3_empty_8 : decode cX3_empty 8 = .ok (.getfield 14, 3) := by decide +kernel
theorem dX3_empty_11 : decode cX3_empty 11 = .ok (.iload_n 2, 1) := by decide +kernel
theorem dX3_empty_12 : decode cX3_empty 12 = .ok (.iconst 0, 1) := by decide +kernel
theorem dX3_empty_13 : decode cX3_empty 13 = .ok (.iastore, 1) := by decide +kernel
theorem dX3_empty_14 : decode cX3_empty 14 = .ok (.iinc 2 1, 3) := by decide +kernel
theorem dX3_empty_17 : decode cX3_empty 17 = .ok (.goto (-15), 3) := by decide +kernel
theorem dX3_empty_20 : decode cX3_empty 20 = .ok (.aload_n 0, 1) := by decide +kernel
theorem dX3_empty_21 : decode cX3_empty 21 = .ok (.getfield 18, 3) := by decide +kernel
theorem dX3_empty_24 : decode cX3_empty 24 = .ok (.iconst 0, 1) := by decide +kernel
theorem dX3_empty_25 : decode cX3_empty 25 = .ok (.iload_n 1, 1) := by decide +kernel
theorem dX3_empty_26 : decode cX3_empty 26 = .ok (.iastore, 1) := by decide +kernel
theorem dX3_empty_27 : decode cX3_empty 27 = .ok (.aload_n 0, 1) := by decide +kernel
theorem dX3_empty_28 : decode cX3_empty 28 = .ok (.getfield 18, 3) := by decide +kernel
theorem dX3_empty_31 : decode cX3_empty 31 = .ok (.iconst 1, 1) := by decide +kernel
theorem dX3_empty_32 : decode cX3_empty 32 = .ok (.iconst 0, 1) := by decide +kernel
theorem dX3_empty_33 : decode cX3_empty 33 = .ok (.iastore, 1) := by decide +kernel
theorem dX3_empty_34 : decode cX3_empty 34 = .ok (.return_, 1) := by decide +kernel
set_option maxRecDepth 20000 in
theorem ggX3_setRoom_X3_isIn : GoodIn wsX3_setRoom wsX3_isIn := goodIn_r _ [6] (by decide +kernel) (by decide +kernel)
set_option maxRecDepth 20000 in
theorem gX3_setRoom_X3_isIn : GoodIn wsX3_setRoom (va_wsS RX3 31 yX3_isIn wsX3_isIn) := goodIn_app (goodIn_of _ (by decide +kernel)) ggX3_setRoom_X3_isIn
set_option maxRecDepth 20000 in
theorem ggX3_setRoom_X3_fail : GoodIn wsX3_setRoom wsX3_fail := goodIn_r _ [10, 1, 16, 17, 18, 19, 20, 21] (by decide +kernel) (by decide +kernel)
set_option maxRecDepth 20000 in
theorem gX3_setRoom_X3_fail : GoodIn wsX3_setRoom (wsV RX3 45 RX3 yX3_fail wsX3_fail) := goodIn_app (goodIn_of _ (by decide +kernel)) ggX3_setRoom_X3_fail
set_option maxRecDepth 20000 in
theorem ggX3_setRoom_X3_empty : GoodIn wsX3_setRoom wsX3_empty := goodIn_r _ [14, 15, 2, 16, 17, 18, 19, 20, 21] (by decide +kernel) (by decide +kernel)
set_option maxRecDepth 20000 in
theorem gX3_setRoom_X3_empty : GoodIn wsX3_setRoom (wsV RX3 49 RX3 yX3_empty wsX3_empty) := goodIn_app (goodIn_of _ (by decide +kernel)) ggX3_setRoom_X3_empty
theorem dX3_setRoom_0 : decode cX3_setRoom 0 = .ok (.aload_n 0, 1) := by decide +kernel
theorem dX3_setRoom_1 : decode cX3_setRoom 1 = .ok (.iconst 0, 1) := by decide +kernel
theorem dX3_setRoom_2 : decode cX3_setRoom 2 = .ok (.putfield 27, 3) := by decide +kernel
theorem dX3_setRoom_5 : decode cX3_setRoom 5 = .ok (.iload_n 1, 1) := by decide +kernel
theorem dX3_setRoom_6 : decode cX3_setRoom 6 = .ok (.iconst 1, 1) := by decide +kernel
theorem dX3_setRoom_7 : decode cX3_setRoom 7 = .ok (.bipush 12, 2) := by decide +kernel
theorem dX3_setRoom_9 : decode cX3_setRoom 9 = .ok (.invokestatic 31, 3) := by decide +kernel
theorem dX3_setRoom_12 : decode cX3_setRoom 12 = .ok (.ifCond .ne 9, 3) := by decide +kernel
theorem dX3_setRoom_15 : decode cX3_setRoom 15 = .ok (.aload_n 0, 1) := by decide +kernel
theorem dX3_setRoom_16 : decode cX3_setRoom 16 = .ok (.iconst 1, 1) := by decide +kernel
theorem dX3_setRoom_17 : decode cX3_setRoom 17 = .ok (.invokevirtual 45, 3) := by decide +kernel
theorem dX3_setRoom_20 : decode cX3_setRoom 20 = .ok (.ireturn, 1) := by decide +kernel
theorem dX3_setRoom_21 : decode cX3_setRoom 21 = .ok (.aload_n 0, 1) := by decide +kernel
theorem dX3_setRoom_22 : decode cX3_setRoom 22 = .ok (.getfield 18, 3) := by decide +kernel
theorem dX3_setRoom_25 : decode cX3_setRoom 25 = .ok (.iconst 0, 1) := by decide +kernel
theorem dX3_setRoom_26 : decode cX3_setRoom 26 = .ok (.iaload, 1) := by decide +kernel
theorem dX3_setRoom_27 : decode cX3_setRoom 27 = .ok (.istore_n 2, 1) := by decide +kernel
theorem dX3_setRoom_28 : decode cX3_setRoom 28 = .ok (.aload_n 0, 1) := by decide +kernel
theorem dX3_setRoom_29 : decode cX3_setRoom 29 = .ok (.iload_n 1, 1) := by decide +kernel
theorem dX3_setRoom_30 : decode cX3_setRoom 30 = .ok (.invokevirtual 49, 3) := by decide +kernel
theorem dX3_setRoom_33 : decode cX3_setRoom 33 = .ok (.iload_n 2, 1) := by decide +kernel
theorem dX3_setRoom_34 : decode cX3_setRoom 34 = .ok (.ireturn, 1) := by decide +kernel
set_option maxRecDepth 20000 in
theorem ggX3_makeRoom_X3_last : GoodIn wsX3_makeRoom wsX3_last := goodIn_r _ [7, 1, 8, 17, 18, 19, 20, 21, 22] (by decide +kernel) (by decide +kernel)
set_option maxRecDepth 20000 in
theorem gX3_makeRoom_X3_last : GoodIn wsX3_makeRoom (wsV RX3 53 RX3 yX3_last wsX3_last) := goodIn_app (goodIn_of _ (by decide +kernel)) ggX3_makeRoom_X3_last
set_option maxRecDepth 20000 in
theorem ggX3_makeRoom_X3_toFront : GoodIn wsX3_makeRoom wsX3_toFront := goodIn_r _ [12, 8, 1, 13, 14, 15, 16, 17, 18, 19, 20, 21, 22] (by decide +kernel) (by decide +kernel)
set_option maxRecDepth 20000 in
theorem gX3_makeRoom_X3_toFront : GoodIn wsX3_makeRoom (wsV RX3 56 RX3 yX3_toFront wsX3_toFront) := goodIn_app (goodIn_of _ (by decide +kernel)) ggX3_makeRoom_X3_toFront
theorem dX3_makeRoom_0 : decode cX3_makeRoom 0 = .ok (.aload_n 0, 1) := by decide +kernel
theorem dX3_makeRoom_1 : decode cX3_makeRoom 1 = .ok (.getfield 14, 3) := by decide +kernel
theorem dX3_makeRoom_4 : decode cX3_makeRoom 4 = .ok (.iconst 1, 1) := by decide +kernel
theorem dX3_makeRoom_5 : decode cX3_makeRoom 5 = .ok (.iaload, 1) := by decide +kernel
theorem dX3_makeRoom_6 : decode cX3_makeRoom 6 = .ok (.aload_n 0, 1) := by decide +kernel
theorem dX3_makeRoom_7 : decode cX3_makeRoom 7 = .ok (.getfield 14, 3) := by decide +kernel
theorem dX3_makeRoom_10 : decode cX3_makeRoom 10 = .ok (.iconst 2, 1) := by decide +kernel
theorem dX3_makeRoom_11 : decode cX3_makeRoom 11 = .ok (.iaload, 1) := by decide +kernel
theorem dX3_makeRoom_12 : decode cX3_makeRoom 12 = .ok (.iadd, 1) := by decide +kernel
theorem dX3_makeRoom_13 : decode cX3_makeRoom 13 = .ok (.aload_n 0, 1) := by decide +kernel
theorem dX3_makeRoom_14 : decode cX3_makeRoom 14 = .ok (.getfield 18, 3) := by decide +kernel
theorem dX3_makeRoom_17 : decode cX3_makeRoom 17 = .ok (.iconst 0, 1) := by decide +kernel
theorem dX3_makeRoom_18 : decode cX3_makeRoom 18 = .ok (.iaload, 1) := by decide +kernel
theorem dX3_makeRoom_19 : decode cX3_makeRoom 19 = .ok (.if_icmp .ge 4, 3) := by decide +kernel
theorem dX3_makeRoom_22 : decode cX3_makeRoom 22 = .ok (.return_, 1) := by decide +kernel
theorem dX3_makeRoom_23 : decode cX3_makeRoom 23 = .ok (.aload_n 0, 1) := by decide +kernel
theorem dX3_makeRoom_24 : decode cX3_makeRoom 24 = .ok (.getfield 14, 3) := by decide +kernel
theorem dX3_makeRoom_27 : decode cX3_makeRoom 27 = .ok (.iconst 1, 1) := by decide +kernel
theorem dX3_makeRoom_28 : decode cX3_makeRoom 28 = .ok (.iaload, 1) := by decide +kernel
theorem dX3_makeRoom_29 : decode cX3_makeRoom 29 = .ok (.aload_n 0, 1) := by decide +kernel
theorem dX3_makeRoom_30 : decode cX3_makeRoom 30 = .ok (.getfield 18, 3) := by decide +kernel
theorem dX3_makeRoom_33 : decode cX3_makeRoom 33 = .ok (.iconst 1, 1) := by decide +kernel
theorem dX3_makeRoom_34 : decode cX3_makeRoom 34 = .ok (.iaload, 1) := by decide +kernel
theorem dX3_makeRoom_35 : decode cX3_makeRoom 35 = .ok (.if_icmp .gt 22, 3) := by decide +kernel
theorem dX3_makeRoom_38 : decode cX3_makeRoom 38 = .ok (.aload_n 0, 1) := by decide +kernel
theorem dX3_makeRoom_39 : decode cX3_makeRoom 39 = .ok (.getfield 14, 3) := by decide +kernel
theorem dX3_makeRoom_42 : decode cX3_makeRoom 42 = .ok (.iconst 1, 1) := by decide +kernel
theorem dX3_makeRoom_43 : decode cX3_makeRoom 43 = .ok (.iaload, 1) := by decide +kernel
theorem dX3_makeRoom_44 : decode cX3_makeRoom 44 = .ok (.aload_n 0, 1) := by decide +kernel
theorem dX3_makeRoom_45 : decode cX3_makeRoom 45 = .ok (.getfield 18, 3) := by decide +kernel
theorem dX3_makeRoom_48 : decode cX3_makeRoom 48 = .ok (.iconst 1, 1) := by decide +kernel
theorem dX3_makeRoom_49 : decode cX3_makeRoom 49 = .ok (.iaload, 1) := by decide +kernel
theorem dX3_makeRoom_50 : decode cX3_makeRoom 50 = .ok (.if_icmp .ne 11, 3) := by decide +kernel
theorem dX3_makeRoom_53 : decode cX3_makeRoom 53 = .ok (.iload_n 1, 1) := by decide +kernel
theorem dX3_makeRoom_54 : decode cX3_makeRoom 54 = .ok (.ifCond .eq 7, 3) := by decide +kernel
theorem dX3_makeRoom_57 : decode cX3_makeRoom 57 = .ok (.iconst 1, 1) := by decide +kernel
theorem dX3_makeRoom_58 : decode cX3_makeRoom 58 = .ok (.goto 4, 3) := by decide +kernel
theorem dX3_makeRoom_61 : decode cX3_makeRoom 61 = .ok (.iconst 0, 1) := by decide +kernel
theorem dX3_makeRoom_62 : decode cX3_makeRoom 62 = .ok (.istore_n 2, 1) := by decide +kernel
theorem dX3_makeRoom_63 : decode cX3_makeRoom 63 = .ok (.aload_n 0, 1) := by decide +kernel
theorem dX3_makeRoom_64 : decode cX3_makeRoom 64 = .ok (.getfield 14, 3) := by decide +kernel
theorem dX3_makeRoom_67 : decode cX3_makeRoom 67 = .ok (.iconst 1, 1) := by decide +kernel
theorem dX3_makeRoom_68 : decode cX3_makeRoom 68 = .ok (.iaload, 1) := by decide +kernel
theorem dX3_makeRoom_69 : decode cX3_makeRoom 69 = .ok (.ifCond .le 29, 3) := by decide +kernel
theorem dX3_makeRoom_72 : decode cX3_makeRoom 72 = .ok (.iload_n 2, 1) := by decide +kernel
theorem dX3_makeRoom_73 : decode cX3_makeRoom 73 = .ok (.ifCond .ne 12, 3) := by decide +kernel
theorem dX3_makeRoom_76 : decode cX3_makeRoom 76 = .ok (.aload_n 0, 1) := by decide +kernel
theorem dX3_makeRoom_77 : decode cX3_makeRoom 77 = .ok (.getfield 14, 3) := by decide +kernel
theorem dX3_makeRoom_80 : decode cX3_makeRoom 80 = .ok (.iconst 2, 1) := by decide +kernel
theorem dX3_makeRoom_81 : decode cX3_makeRoom 81 = .ok (.iaload, 1) := by decide +kernel
theorem dX3_makeRoom_82 : decode cX3_makeRoom 82 = .ok (.ifCond .ne 16, 3) := by decide +kernel
theorem dX3_makeRoom_85 : decode cX3_makeRoom 85 = .ok (.aload_n 0, 1) := by decide +kernel
theorem dX3_makeRoom_86 : decode cX3_makeRoom 86 = .ok (.iconst 3, 1) := by decide +kernel
theorem dX3_makeRoom_87 : decode cX3_makeRoom 87 = .ok (.aload_n 0, 1) := by decide +kernel
theorem dX3_makeRoom_88 : decode cX3_makeRoom 88 = .ok (.iconst 1, 1) := by decide +kernel
theorem dX3_makeRoom_89 : decode cX3_makeRoom 89 = .ok (.invokevirtual 53, 3) := by decide +kernel
theorem dX3_makeRoom_92 : decode cX3_makeRoom 92 = .ok (.invokevirtual 56, 3) := by decide +kernel
theorem dX3_makeRoom_95 : decode cX3_makeRoom 95 = .ok (.goto 22, 3) := by decide +kernel
theorem dX3_makeRoom_98 : decode cX3_makeRoom 98 = .ok (.aload_n 0, 1) := by decide +kernel
theorem dX3_makeRoom_99 : decode cX3_makeRoom 99 = .ok (.getfield 14, 3) := by decide +kernel
theorem dX3_makeRoom_102 : decode cX3_makeRoom 102 = .ok (.iconst 2, 1) := by decide +kernel
theorem dX3_makeRoom_103 : decode cX3_makeRoom 103 = .ok (.iaload, 1) := by decide +kernel
theorem dX3_makeRoom_104 : decode cX3_makeRoom 104 = .ok (.ifCond .le 13, 3) := by decide +kernel
theorem dX3_makeRoom_107 : decode cX3_makeRoom 107 = .ok (.aload_n 0, 1) := by decide +kernel
theorem dX3_makeRoom_108 : decode cX3_makeRoom 108 = .ok (.iconst 4, 1) := by decide +kernel
theorem dX3_makeRoom_109 : decode cX3_makeRoom 109 = .ok (.aload_n 0, 1) := by decide +kernel
theorem dX3_makeRoom_110 : decode cX3_makeRoom 110 = .ok (.iconst 2, 1) := by decide +kernel
theorem dX3_makeRoom_111 : decode cX3_makeRoom 111 = .ok (.invokevirtual 53, 3) := by decide +kernel
theorem dX3_makeRoom_114 : decode cX3_makeRoom 114 = .ok (.invokevirtual 56, 3) := by decide +kernel
theorem dX3_makeRoom_117 : decode cX3_makeRoom 117 = .ok (.return_, 1) := by decide +kernel
theorem dX3_shift_0 : decode cX3_shift 0 = .ok (.aload_n 0, 1) := by decide +kernel
theorem dX3_shift_1 : decode cX3_shift 1 = .ok (.getfield 18, 3) := by decide +kernel
theorem dX3_shift_4 : decode cX3_shift 4 = .ok (.iconst 1, 1) := by decide +kernel
theorem dX3_shift_5 : decode cX3_shift 5 = .ok (.iaload, 1) := by decide +kernel
theorem dX3_shift_6 : decode cX3_shift 6 = .ok (.istore_n 2, 1) := by decide +kernel
theorem dX3_shift_7 : decode cX3_shift 7 = .ok (.aload_n 0, 1) := by decide +kernel
theorem dX3_shift_8 : decode cX3_shift 8 = .ok (.getfield 18, 3) := by decide +kernel
theorem dX3_shift_11 : decode cX3_shift 11 = .ok (.iconst 1, 1) := by decide +kernel
theorem dX3_shift_12 : decode cX3_shift 12 = .ok (.iconst 0, 1) := by decide +kernel
theorem dX3_shift_13 : decode cX3_shift 13 = .ok (.aload_n 0, 1) := by decide +kernel
theorem dX3_shift_14 : decode cX3_shift 14 = .ok (.getfield 18, 3) := by decide +kernel
theorem dX3_shift_17 : decode cX3_shift 17 = .ok (.iconst 0, 1) := by decide +kernel
theorem dX3_shift_18 : decode cX3_shift 18 = .ok (.iaload, 1) := by decide +kernel
theorem dX3_shift_19 : decode cX3_shift 19 = .ok (.iload_n 2, 1) := by decide +kernel
theorem dX3_shift_20 : decode cX3_shift 20 = .ok (.iload_n 1, 1) := by decide +kernel
theorem dX3_shift_21 : decode cX3_shift 21 = .ok (.iadd, 1) := by decide +kernel
theorem dX3_shift_22 : decode cX3_shift 22 = .ok (.invokestatic 60, 3) := by decide +kernel
theorem dX3_shift_25 : decode cX3_shift 25 = .ok (.invokestatic 65, 3) := by decide +kernel
theorem dX3_shift_28 : decode cX3_shift 28 = .ok (.iastore, 1) := by decide +kernel
theorem dX3_shift_29 : decode cX3_shift 29 = .ok (.aload_n 0, 1) := by decide +kernel
theorem dX3_shift_30 : decode cX3_shift 30 = .ok (.getfield 18, 3) := by decide +kernel
theorem dX3_shift_33 : decode cX3_shift 33 = .ok (.iconst 5, 1) := by decide +kernel
theorem dX3_shift_34 : decode cX3_shift 34 = .ok (.dup2, 1) := by decide +kernel
theorem dX3_shift_35 : decode cX3_shift 35 = .ok (.iaload, 1) := by decide +kernel
theorem dX3_shift_36 : decode cX3_shift 36 = .ok (.aload_n 0, 1) := by decide +kernel
theorem dX3_shift_37 : decode cX3_shift 37 = .ok (.getfield 18, 3) := by decide +kernel
theorem dX3_shift_40 : decode cX3_shift 40 = .ok (.iconst 1, 1) := by decide +kernel
theorem dX3_shift_41 : decode cX3_shift 41 = .ok (.iaload, 1) := by decide +kernel
theorem dX3_shift_42 : decode cX3_shift 42 = .ok (.iload_n 2, 1) := by decide +kernel
theorem dX3_shift_43 : decode cX3_shift 43 = .ok (.isub, 1) := by decide +kernel
theorem dX3_shift_44 : decode cX3_shift 44 = .ok (.invokestatic 68, 3) := by decide +kernel
theorem dX3_shift_47 : decode cX3_shift 47 = .ok (.iadd, 1) := by decide +kernel
theorem dX3_shift_48 : decode cX3_shift 48 = .ok (.iastore, 1) := by decide +kernel
theorem dX3_shift_49 : decode cX3_shift 49 = .ok (.return_, 1) := by decide +kernel
set_option maxRecDepth 20000 in
theorem ggX3_comeNew_X3_last : GoodIn wsX3_comeNew wsX3_last := goodIn_r _ [7, 1, 8, 21, 22, 23, 24, 25, 26] (by decide +kernel) (by decide +kernel)
set_option maxRecDepth 20000 in
theorem gX3_comeNew_X3_last : GoodIn wsX3_comeNew (wsV RX3 53 RX3 yX3_last wsX3_last) := goodIn_app (goodIn_of _ (by decide +kernel)) ggX3_comeNew_X3_last
set_option maxRecDepth 20000 in
theorem ggX3_comeNew_X3_makeRoom : GoodIn wsX3_comeNew wsX3_makeRoom := goodIn_r _ [12, 1, 2, 3, 4, 5, 6, 7, 8, 13, 14, 15, 16, 17, 18, 19, 20, 21, 22, 23, 24, 25, 26] (by decide +kernel) (by decide +kernel)
set_option maxRecDepth 20000 in
theorem gX3_comeNew_X3_makeRoom : GoodIn wsX3_comeNew (wsV RX3 71 RX3 yX3_makeRoom wsX3_makeRoom) := goodIn_app (goodIn_of _ (by decide +kernel)) ggX3_comeNew_X3_makeRoom
set_option maxRecDepth 20000 in
theorem ggX3_comeNew_X3_toFront : GoodIn wsX3_comeNew wsX3_toFront := goodIn_r _ [16, 8, 1, 17, 18, 19, 20, 21, 22, 23, 24, 25, 26] (by decide +kernel) (by decide +kernel)
set_option maxRecDepth 20000 in
theorem gX3_comeNew_X3_toFront : GoodIn wsX3_comeNew (wsV RX3 56 RX3 yX3_toFront wsX3_toFront) := goodIn_app (goodIn_of _ (by decide +kernel)) ggX3_comeNew_X3_toFront
theorem dX3_comeNew_0 : decode cX3_comeNew 0 = .ok (.aload_n 0, 1) := by decide +kernel
theorem dX3_comeNew_1 : decode cX3_comeNew 1 = .ok (.getfield 14, 3) := by decide +kernel
theorem dX3_comeNew_4 : decode cX3_comeNew 4 = .ok (.iconst 1, 1) := by decide +kernel
theorem dX3_comeNew_5 : decode cX3_comeNew 5 = .ok (.iaload, 1) := by decide +kernel
theorem dX3_comeNew_6 : decode cX3_comeNew 6 = .ok (.aload_n 0, 1) := by decide +kernel
theorem dX3_comeNew_7 : decode cX3_comeNew 7 = .ok (.getfield 14, 3) := by decide +kernel
theorem dX3_comeNew_10 : decode cX3_comeNew 10 = .ok (.iconst 3, 1) := by decide +kernel
theorem dX3_comeNew_11 : decode cX3_comeNew 11 = .ok (.iaload, 1) := by decide +kernel
theorem dX3_comeNew_12 : decode cX3_comeNew 12 = .ok (.iadd, 1) := by decide +kernel
theorem dX3_comeNew_13 : decode cX3_comeNew 13 = .ok (.istore_n 2, 1) := by decide +kernel
theorem dX3_comeNew_14 : decode cX3_comeNew 14 = .ok (.iload_n 2, 1) := by decide +kernel
theorem dX3_comeNew_15 : decode cX3_comeNew 15 = .ok (.aload_n 0, 1) := by decide +kernel
theorem dX3_comeNew_16 : decode cX3_comeNew 16 = .ok (.getfield 14, 3) := by decide +kernel
theorem dX3_comeNew_19 : decode cX3_comeNew 19 = .ok (.iconst 2, 1) := by decide +kernel
theorem dX3_comeNew_20 : decode cX3_comeNew 20 = .ok (.iaload, 1) := by decide +kernel
theorem dX3_comeNew_21 : decode cX3_comeNew 21 = .ok (.iadd, 1) := by decide +kernel
theorem dX3_comeNew_22 : decode cX3_comeNew 22 = .ok (.aload_n 0, 1) := by decide +kernel
theorem dX3_comeNew_23 : decode cX3_comeNew 23 = .ok (.getfield 14, 3) := by decide +kernel
theorem dX3_comeNew_26 : decode cX3_comeNew 26 = .ok (.iconst 4, 1) := by decide +kernel
theorem dX3_comeNew_27 : decode cX3_comeNew 27 = .ok (.iaload, 1) := by decide +kernel
theorem dX3_comeNew_28 : decode cX3_comeNew 28 = .ok (.iadd, 1) := by decide +kernel
theorem dX3_comeNew_29 : decode cX3_comeNew 29 = .ok (.istore_n 3, 1) := by decide +kernel
theorem dX3_comeNew_30 : decode cX3_comeNew 30 = .ok (.iload_n 2, 1) := by decide +kernel
theorem dX3_comeNew_31 : decode cX3_comeNew 31 = .ok (.aload_n 0, 1) := by decide +kernel
theorem dX3_comeNew_32 : decode cX3_comeNew 32 = .ok (.getfield 18, 3) := by decide +kernel
theorem dX3_comeNew_35 : decode cX3_comeNew 35 = .ok (.iconst 0, 1) := by decide +kernel
theorem dX3_comeNew_36 : decode cX3_comeNew 36 = .ok (.iaload, 1) := by decide +kernel
theorem dX3_comeNew_37 : decode cX3_comeNew 37 = .ok (.if_icmp .ne 35, 3) := by decide +kernel
theorem dX3_comeNew_40 : decode cX3_comeNew 40 = .ok (.aload_n 0, 1) := by decide +kernel
theorem dX3_comeNew_41 : decode cX3_comeNew 41 = .ok (.getfield 14, 3) := by decide +kernel
theorem dX3_comeNew_44 : decode cX3_comeNew 44 = .ok (.iconst 3, 1) := by decide +kernel
theorem dX3_comeNew_45 : decode cX3_comeNew 45 = .ok (.iaload, 1) := by decide +kernel
theorem dX3_comeNew_46 : decode cX3_comeNew 46 = .ok (.ifCond .le 17, 3) := by decide +kernel
theorem dX3_comeNew_49 : decode cX3_comeNew 49 = .ok (.aload_n 0, 1) := by decide +kernel
theorem dX3_comeNew_50 : decode cX3_comeNew 50 = .ok (.iconst 3, 1) := by decide +kernel
theorem dX3_comeNew_51 : decode cX3_comeNew 51 = .ok (.invokevirtual 53, 3) := by decide +kernel
theorem dX3_comeNew_54 : decode cX3_comeNew 54 = .ok (.pop, 1) := by decide +kernel
theorem dX3_comeNew_55 : decode cX3_comeNew 55 = .ok (.aload_n 0, 1) := by decide +kernel
theorem dX3_comeNew_56 : decode cX3_comeNew 56 = .ok (.iconst 0, 1) := by decide +kernel
theorem dX3_comeNew_57 : decode cX3_comeNew 57 = .ok (.invokevirtual 71, 3) := by decide +kernel
theorem dX3_comeNew_60 : decode cX3_comeNew 60 = .ok (.goto 55, 3) := by decide +kernel
theorem dX3_comeNew_63 : decode cX3_comeNew 63 = .ok (.aload_n 0, 1) := by decide +kernel
theorem dX3_comeNew_64 : decode cX3_comeNew 64 = .ok (.iconst 1, 1) := by decide +kernel
theorem dX3_comeNew_65 : decode cX3_comeNew 65 = .ok (.invokevirtual 53, 3) := by decide +kernel
theorem dX3_comeNew_68 : decode cX3_comeNew 68 = .ok (.pop, 1) := by decide +kernel
theorem dX3_comeNew_69 : decode cX3_comeNew 69 = .ok (.goto 46, 3) := by decide +kernel
theorem dX3_comeNew_72 : decode cX3_comeNew 72 = .ok (.iload_n 2, 1) := by decide +kernel
theorem dX3_comeNew_73 : decode cX3_comeNew 73 = .ok (.aload_n 0, 1) := by decide +kernel
theorem dX3_comeNew_74 : decode cX3_comeNew 74 = .ok (.getfield 18, 3) := by decide +kernel
theorem dX3_comeNew_77 : decode cX3_comeNew 77 = .ok (.iconst 0, 1) := by decide +kernel
theorem dX3_comeNew_78 : decode cX3_comeNew 78 = .ok (.iaload, 1) := by decide +kernel
theorem dX3_comeNew_79 : decode cX3_comeNew 79 = .ok (.if_icmp .ge 36, 3) := by decide +kernel
theorem dX3_comeNew_82 : decode cX3_comeNew 82 = .ok (.iload_n 3, 1) := by decide +kernel
theorem dX3_comeNew_83 : decode cX3_comeNew 83 = .ok (.aload_n 0, 1) := by decide +kernel
theorem dX3_comeNew_84 : decode cX3_comeNew 84 = .ok (.getfield 18, 3) := by decide +kernel
theorem dX3_comeNew_87 : decode cX3_comeNew 87 = .ok (.iconst 0, 1) := by decide +kernel
theorem dX3_comeNew_88 : decode cX3_comeNew 88 = .ok (.iaload, 1) := by decide +kernel
theorem dX3_comeNew_89 : decode cX3_comeNew 89 = .ok (.if_icmp .lt 26, 3) := by decide +kernel
theorem dX3_comeNew_92 : decode cX3_comeNew 92 = .ok (.iload_n 3, 1) := by decide +kernel
theorem dX3_comeNew_93 : decode cX3_comeNew 93 = .ok (.iconst 2, 1) := by decide +kernel
theorem dX3_comeNew_94 : decode cX3_comeNew 94 = .ok (.aload_n 0, 1) := by decide +kernel
theorem dX3_comeNew_95 : decode cX3_comeNew 95 = .ok (.getfield 18, 3) := by decide +kernel
theorem dX3_comeNew_98 : decode cX3_comeNew 98 = .ok (.iconst 0, 1) := by decide +kernel
theorem dX3_comeNew_99 : decode cX3_comeNew 99 = .ok (.iaload, 1) := by decide +kernel
theorem dX3_comeNew_100 : decode cX3_comeNew 100 = .ok (.imul, 1) := by decide +kernel
theorem dX3_comeNew_101 : decode cX3_comeNew 101 = .ok (.if_icmp .ne 9, 3) := by decide +kernel
theorem dX3_comeNew_104 : decode cX3_comeNew 104 = .ok (.aload_n 0, 1) := by decide +kernel
theorem dX3_comeNew_105 : decode cX3_comeNew 105 = .ok (.iconst 4, 1) := by decide +kernel
theorem dX3_comeNew_106 : decode cX3_comeNew 106 = .ok (.invokevirtual 53, 3) := by decide +kernel
theorem dX3_comeNew_109 : decode cX3_comeNew 109 = .ok (.pop, 1) := by decide +kernel
theorem dX3_comeNew_110 : decode cX3_comeNew 110 = .ok (.aload_n 0, 1) := by decide +kernel
theorem dX3_comeNew_111 : decode cX3_comeNew 111 = .ok (.iconst 0, 1) := by decide +kernel
theorem dX3_comeNew_112 : decode cX3_comeNew 112 = .ok (.invokevirtual 71, 3) := by decide +kernel
theorem dX3_comeNew_115 : decode cX3_comeNew 115 = .ok (.aload_n 0, 1) := by decide +kernel
theorem dX3_comeNew_116 : decode cX3_comeNew 116 = .ok (.iconst 1, 1) := by decide +kernel
theorem dX3_comeNew_117 : decode cX3_comeNew 117 = .ok (.iload_n 1, 1) := by decide +kernel
theorem dX3_comeNew_118 : decode cX3_comeNew 118 = .ok (.invokevirtual 56, 3) := by decide +kernel
theorem dX3_comeNew_121 : decode cX3_comeNew 121 = .ok (.return_, 1) := by decide +kernel
set_option maxRecDepth 20000 in
theorem ggX3_askPlain_X3_find : GoodIn wsX3_askPlain wsX3_find := goodIn_r _ [7, 1, 8, 25, 26, 27, 28, 29, 30] (by decide +kernel) (by decide +kernel)
set_option maxRecDepth 20000 in
theorem gX3_askPlain_X3_find : GoodIn wsX3_askPlain (wsV RX3 35 RX3 yX3_find wsX3_find) := goodIn_app (goodIn_of _ (by decide +kernel)) ggX3_askPlain_X3_find
set_option maxRecDepth 20000 in
theorem ggX3_askPlain_X3_takeOut : GoodIn wsX3_askPlain wsX3_takeOut := goodIn_r _ [12, 1, 8, 13, 14, 15, 16, 25, 26, 27, 28, 29, 30] (by decide +kernel) (by decide +kernel)
set_option maxRecDepth 20000 in
theorem gX3_askPlain_X3_takeOut : GoodIn wsX3_askPlain (wsV RX3 75 RX3 yX3_takeOut wsX3_takeOut) := goodIn_app (goodIn_of _ (by decide +kernel)) ggX3_askPlain_X3_takeOut
set_option maxRecDepth 20000 in
theorem ggX3_askPlain_X3_last : GoodIn wsX3_askPlain wsX3_last := goodIn_r _ [20, 1, 8, 25, 26, 27, 28, 29, 30] (by decide +kernel) (by decide +kernel)
set_option maxRecDepth 20000 in
theorem gX3_askPlain_X3_last : GoodIn wsX3_askPlain (wsV RX3 53 RX3 yX3_last wsX3_last) := goodIn_app (goodIn_of _ (by decide +kernel)) ggX3_askPlain_X3_last
set_option maxRecDepth 20000 in
theorem ggX3_askPlain_X3_toFront : GoodIn wsX3_askPlain wsX3_toFront := goodIn_r _ [24, 8, 1, 13, 14, 15, 16, 25, 26, 27, 28, 29, 30] (by decide +kernel) (by decide +kernel)
set_option maxRecDepth 20000 in
theorem gX3_askPlain_X3_toFront : GoodIn wsX3_askPlain (wsV RX3 56 RX3 yX3_toFront wsX3_toFront) := goodIn_app (goodIn_of _ (by decide +kernel)) ggX3_askPlain_X3_toFront
theorem dX3_askPlain_0 : decode cX3_askPlain 0 = .ok (.aload_n 0, 1) := by decide +kernel
theorem dX3_askPlain_1 : decode cX3_askPlain 1 = .ok (.iconst 5, 1) := by decide +kernel
theorem dX3_askPlain_2 : decode cX3_askPlain 2 = .ok (.iload_n 1, 1) := by decide +kernel
theorem dX3_askPlain_3 : decode cX3_askPlain 3 = .ok (.invokevirtual 35, 3) := by decide +kernel
theorem dX3_askPlain_6 : decode cX3_askPlain 6 = .ok (.istore_n 2, 1) := by decide +kernel
theorem dX3_askPlain_7 : decode cX3_askPlain 7 = .ok (.iload_n 2, 1) := by decide +kernel
theorem dX3_askPlain_8 : decode cX3_askPlain 8 = .ok (.iconst (-1), 1) := by decide +kernel
theorem dX3_askPlain_9 : decode cX3_askPlain 9 = .ok (.if_icmp .eq 12, 3) := by decide +kernel
theorem dX3_askPlain_12 : decode cX3_askPlain 12 = .ok (.aload_n 0, 1) := by decide +kernel
theorem dX3_askPlain_13 : decode cX3_askPlain 13 = .ok (.iconst 5, 1) := by decide +kernel
theorem dX3_askPlain_14 : decode cX3_askPlain 14 = .ok (.iload_n 2, 1) := by decide +kernel
theorem dX3_askPlain_15 : decode cX3_askPlain 15 = .ok (.invokevirtual 75, 3) := by decide +kernel
theorem dX3_askPlain_18 : decode cX3_askPlain 18 = .ok (.goto 24, 3) := by decide +kernel
theorem dX3_askPlain_21 : decode cX3_askPlain 21 = .ok (.aload_n 0, 1) := by decide +kernel
theorem dX3_askPlain_22 : decode cX3_askPlain 22 = .ok (.getfield 14, 3) := by decide +kernel
theorem dX3_askPlain_25 : decode cX3_askPlain 25 = .ok (.iconst 5, 1) := by decide +kernel
theorem dX3_askPlain_26 : decode cX3_askPlain 26 = .ok (.iaload, 1) := by decide +kernel
theorem dX3_askPlain_27 : decode cX3_askPlain 27 = .ok (.aload_n 0, 1) := by decide +kernel
theorem dX3_askPlain_28 : decode cX3_askPlain 28 = .ok (.getfield 18, 3) := by decide +kernel
theorem dX3_askPlain_31 : decode cX3_askPlain 31 = .ok (.iconst 0, 1) := by decide +kernel
theorem dX3_askPlain_32 : decode cX3_askPlain 32 = .ok (.iaload, 1) := by decide +kernel
theorem dX3_askPlain_33 : decode cX3_askPlain 33 = .ok (.if_icmp .ne 9, 3) := by decide +kernel
theorem dX3_askPlain_36 : decode cX3_askPlain 36 = .ok (.aload_n 0, 1) := by decide +kernel
theorem dX3_askPlain_37 : decode cX3_askPlain 37 = .ok (.iconst 5, 1) := by decide +kernel
theorem dX3_askPlain_38 : decode cX3_askPlain 38 = .ok (.invokevirtual 53, 3) := by decide +kernel
theorem dX3_askPlain_41 : decode cX3_askPlain 41 = .ok (.pop, 1) := by decide +kernel
theorem dX3_askPlain_42 : decode cX3_askPlain 42 = .ok (.aload_n 0, 1) := by decide +kernel
theorem dX3_askPlain_43 : decode cX3_askPlain 43 = .ok (.iconst 5, 1) := by decide +kernel
theorem dX3_askPlain_44 : decode cX3_askPlain 44 = .ok (.iload_n 1, 1) := by decide +kernel
theorem dX3_askPlain_45 : decode cX3_askPlain 45 = .ok (.invokevirtual 56, 3) := by decide +kernel
theorem dX3_askPlain_48 : decode cX3_askPlain 48 = .ok (.iload_n 2, 1) := by decide +kernel
theorem dX3_askPlain_49 : decode cX3_askPlain 49 = .ok (.iconst (-1), 1) := by decide +kernel
theorem dX3_askPlain_50 : decode cX3_askPlain 50 = .ok (.if_icmp .eq 7, 3) := by decide +kernel
theorem dX3_askPlain_53 : decode cX3_askPlain 53 = .ok (.iconst 1, 1) := by decide +kernel
theorem dX3_askPlain_54 : decode cX3_askPlain 54 = .ok (.goto 4, 3) := by decide +kernel
theorem dX3_askPlain_57 : decode cX3_askPlain 57 = .ok (.iconst 0, 1) := by decide +kernel
theorem dX3_askPlain_58 : decode cX3_askPlain 58 = .ok (.ireturn, 1) := by decide +kernel
set_option maxRecDepth 20000 in
theorem ggX3_asked_X3_where : GoodIn wsX3_asked wsX3_where := goodIn_r _ [13, 14, 15, 16, 12, 17, 4, 18, 57, 58, 59, 60, 61, 62] (by decide +kernel) (by decide +kernel)
set_option maxRecDepth 20000 in
theorem gX3_asked_X3_where : GoodIn wsX3_asked (wsV RX3 78 RX3 yX3_where wsX3_where) := goodIn_app (goodIn_of _ (by decide +kernel)) ggX3_asked_X3_where
set_option maxRecDepth 20000 in
theorem ggX3_asked_X3_askPlain : GoodIn wsX3_asked wsX3_askPlain := goodIn_r _ [22, 4, 1, 14, 15, 16, 12, 17, 18, 23, 24, 25, 26, 27, 28, 29, 30, 31, 32, 33, 34, 35, 36, 37, 38, 57, 58, 59, 60, 61, 62] (by decide +kernel) (by decide +kernel)
set_option maxRecDepth 20000 in
theorem gX3_asked_X3_askPlain : GoodIn wsX3_asked (wsV RX3 81 RX3 yX3_askPlain wsX3_askPlain) := goodIn_app (goodIn_of _ (by decide +kernel)) ggX3_asked_X3_askPlain
set_option maxRecDepth 20000 in
theorem ggX3_asked_X3_comeNew : GoodIn wsX3_asked wsX3_comeNew := goodIn_r _ [42, 4, 1, 31, 32, 33, 12, 34, 18, 43, 44, 45, 46, 35, 36, 37, 38, 27, 28, 29, 30, 57, 58, 59, 60, 61, 62] (by decide +kernel) (by decide +kernel)
set_option maxRecDepth 20000 in
theorem gX3_asked_X3_comeNew : GoodIn wsX3_asked (wsV RX3 85 RX3 yX3_comeNew wsX3_comeNew) := goodIn_app (goodIn_of _ (by decide +kernel)) ggX3_asked_X3_comeNew
set_option maxRecDepth 20000 in
theorem ggX3_asked_X3_shift : GoodIn wsX3_asked wsX3_shift := goodIn_r _ [50, 1, 51, 52, 7, 53, 5, 6, 8, 54, 55, 56, 57, 58, 59, 60, 61, 62] (by decide +kernel) (by decide +kernel)
set_option maxRecDepth 20000 in
theorem gX3_asked_X3_shift : GoodIn wsX3_asked (wsV RX3 88 RX3 yX3_shift wsX3_shift) := goodIn_app (goodIn_of _ (by decide +kernel)) ggX3_asked_X3_shift
set_option maxRecDepth 20000 in
theorem ggX3_asked_X3_makeRoom : GoodIn wsX3_asked wsX3_makeRoom := goodIn_r _ [46, 4, 1, 31, 32, 33, 12, 34, 18, 35, 36, 37, 38, 27, 28, 29, 30, 57, 58, 59, 60, 61, 62] (by decide +kernel) (by decide +kernel)
set_option maxRecDepth 20000 in
theorem gX3_asked_X3_makeRoom : GoodIn wsX3_asked (wsV RX3 71 RX3 yX3_makeRoom wsX3_makeRoom) := goodIn_app (goodIn_of _ (by decide +kernel)) ggX3_asked_X3_makeRoom
set_option maxRecDepth 20000 in
theorem ggX3_asked_X3_find : GoodIn wsX3_asked wsX3_find := goodIn_r _ [17, 4, 18, 57, 58, 59, 60, 61, 62] (by decide +kernel) (by decide +kernel)
set_option maxRecDepth 20000 in
theorem gX3_asked_X3_find : GoodIn wsX3_asked (wsV RX3 35 RX3 yX3_find wsX3_find) := goodIn_app (goodIn_of _ (by decide +kernel)) ggX3_asked_X3_find
set_option maxRecDepth 20000 in
theorem ggX3_asked_X3_takeOut : GoodIn wsX3_asked wsX3_takeOut := goodIn_r _ [26, 4, 18, 27, 28, 29, 30, 57, 58, 59, 60, 61, 62] (by decide +kernel) (by decide +kernel)
set_option maxRecDepth 20000 in
theorem gX3_asked_X3_takeOut : GoodIn wsX3_asked (wsV RX3 75 RX3 yX3_takeOut wsX3_takeOut) := goodIn_app (goodIn_of _ (by decide +kernel)) ggX3_asked_X3_takeOut
set_option maxRecDepth 20000 in
theorem ggX3_asked_X3_toFront : GoodIn wsX3_asked wsX3_toFront := goodIn_r _ [38, 18, 4, 27, 28, 29, 30, 57, 58, 59, 60, 61, 62] (by decide +kernel) (by decide +kernel)
set_option maxRecDepth 20000 in
theorem gX3_asked_X3_toFront : GoodIn wsX3_asked (wsV RX3 56 RX3 yX3_toFront wsX3_toFront) := goodIn_app (goodIn_of _ (by decide +kernel)) ggX3_asked_X3_toFront
theorem dX3_asked_0 : decode cX3_asked 0 = .ok (.aload_n 0, 1) := by decide +kernel
theorem dX3_asked_1 : decode cX3_asked 1 = .ok (.iload_n 1, 1) := by decide +kernel
theorem dX3_asked_2 : decode cX3_asked 2 = .ok (.invokevirtual 78, 3) := by decide +kernel
theorem dX3_asked_5 : decode cX3_asked 5 = .ok (.istore_n 2, 1) := by decide +kernel
theorem dX3_asked_6 : decode cX3_asked 6 = .ok (.aload_n 0, 1) := by decide +kernel
theorem dX3_asked_7 : decode cX3_asked 7 = .ok (.getfield 18, 3) := by decide +kernel
theorem dX3_asked_10 : decode cX3_asked 10 = .ok (.iconst 2, 1) := by decide +kernel
theorem dX3_asked_11 : decode cX3_asked 11 = .ok (.dup2, 1) := by decide +kernel
theorem dX3_asked_12 : decode cX3_asked 12 = .ok (.iaload, 1) := by decide +kernel
theorem dX3_asked_13 : decode cX3_asked 13 = .ok (.iconst 1, 1) := by decide +kernel
theorem dX3_asked_14 : decode cX3_asked 14 = .ok (.iadd, 1) := by decide +kernel
theorem dX3_asked_15 : decode cX3_asked 15 = .ok (.iastore, 1) := by decide +kernel
theorem dX3_asked_16 : decode cX3_asked 16 = .ok (.aload_n 0, 1) := by decide +kernel
theorem dX3_asked_17 : decode cX3_asked 17 = .ok (.getfield 21, 3) := by decide +kernel
theorem dX3_asked_20 : decode cX3_asked 20 = .ok (.iload_n 1, 1) := by decide +kernel
theorem dX3_asked_21 : decode cX3_asked 21 = .ok (.dup2, 1) := by decide +kernel
theorem dX3_asked_22 : decode cX3_asked 22 = .ok (.iaload, 1) := by decide +kernel
theorem dX3_asked_23 : decode cX3_asked 23 = .ok (.iconst 1, 1) := by decide +kernel
theorem dX3_asked_24 : decode cX3_asked 24 = .ok (.iadd, 1) := by decide +kernel
theorem dX3_asked_25 : decode cX3_asked 25 = .ok (.iastore, 1) := by decide +kernel
theorem dX3_asked_26 : decode cX3_asked 26 = .ok (.aload_n 0, 1) := by decide +kernel
theorem dX3_asked_27 : decode cX3_asked 27 = .ok (.getfield 18, 3) := by decide +kernel
theorem dX3_asked_30 : decode cX3_asked 30 = .ok (.iconst 4, 1) := by decide +kernel
theorem dX3_asked_31 : decode cX3_asked 31 = .ok (.dup2, 1) := by decide +kernel
theorem dX3_asked_32 : decode cX3_asked 32 = .ok (.iaload, 1) := by decide +kernel
theorem dX3_asked_33 : decode cX3_asked 33 = .ok (.aload_n 0, 1) := by decide +kernel
theorem dX3_asked_34 : decode cX3_asked 34 = .ok (.iload_n 1, 1) := by decide +kernel
theorem dX3_asked_35 : decode cX3_asked 35 = .ok (.invokevirtual 81, 3) := by decide +kernel
theorem dX3_asked_38 : decode cX3_asked 38 = .ok (.ifCond .eq 7, 3) := by decide +kernel
theorem dX3_asked_41 : decode cX3_asked 41 = .ok (.iconst 1, 1) := by decide +kernel
theorem dX3_asked_42 : decode cX3_asked 42 = .ok (.goto 4, 3) := by decide +kernel
theorem dX3_asked_45 : decode cX3_asked 45 = .ok (.iconst 0, 1) := by decide +kernel
theorem dX3_asked_46 : decode cX3_asked 46 = .ok (.iadd, 1) := by decide +kernel
theorem dX3_asked_47 : decode cX3_asked 47 = .ok (.iastore, 1) := by decide +kernel
theorem dX3_asked_48 : decode cX3_asked 48 = .ok (.iload_n 2, 1) := by decide +kernel
theorem dX3_asked_49 : decode cX3_asked 49 = .ok (.ifCond .ne 10, 3) := by decide +kernel
theorem dX3_asked_52 : decode cX3_asked 52 = .ok (.aload_n 0, 1) := by decide +kernel
theorem dX3_asked_53 : decode cX3_asked 53 = .ok (.iload_n 1, 1) := by decide +kernel
theorem dX3_asked_54 : decode cX3_asked 54 = .ok (.invokevirtual 85, 3) := by decide +kernel
theorem dX3_asked_57 : decode cX3_asked 57 = .ok (.iconst 0, 1) := by decide +kernel
theorem dX3_asked_58 : decode cX3_asked 58 = .ok (.ireturn, 1) := by decide +kernel
theorem dX3_asked_59 : decode cX3_asked 59 = .ok (.iload_n 2, 1) := by decide +kernel
theorem dX3_asked_60 : decode cX3_asked 60 = .ok (.iconst 2, 1) := by decide +kernel
theorem dX3_asked_61 : decode cX3_asked 61 = .ok (.if_icmp .gt 26, 3) := by decide +kernel
theorem dX3_asked_64 : decode cX3_asked 64 = .ok (.aload_n 0, 1) := by decide +kernel
theorem dX3_asked_65 : decode cX3_asked 65 = .ok (.getfield 18, 3) := by decide +kernel
theorem dX3_asked_68 : decode cX3_asked 68 = .ok (.iconst 3, 1) := by decide +kernel
theorem dX3_asked_69 : decode cX3_asked 69 = .ok (.dup2, 1) := by decide +kernel
theorem dX3_asked_70 : decode cX3_asked 70 = .ok (.iaload, 1) := by decide +kernel
theorem dX3_asked_71 : decode cX3_asked 71 = .ok (.iconst 1, 1) := by decide +kernel
theorem dX3_asked_72 : decode cX3_asked 72 = .ok (.iadd, 1) := by decide +kernel
theorem dX3_asked_73 : decode cX3_asked 73 = .ok (.iastore, 1) := by decide +kernel
theorem dX3_asked_74 : decode cX3_asked 74 = .ok (.aload_n 0, 1) := by decide +kernel
theorem dX3_asked_75 : decode cX3_asked 75 = .ok (.getfield 24, 3) := by decide +kernel
theorem dX3_asked_78 : decode cX3_asked 78 = .ok (.iload_n 1, 1) := by decide +kernel
theorem dX3_asked_79 : decode cX3_asked 79 = .ok (.dup2, 1) := by decide +kernel
theorem dX3_asked_80 : decode cX3_asked 80 = .ok (.iaload, 1) := by decide +kernel
theorem dX3_asked_81 : decode cX3_asked 81 = .ok (.iconst 1, 1) := by decide +kernel
theorem dX3_asked_82 : decode cX3_asked 82 = .ok (.iadd, 1) := by decide +kernel
theorem dX3_asked_83 : decode cX3_asked 83 = .ok (.iastore, 1) := by decide +kernel
theorem dX3_asked_84 : decode cX3_asked 84 = .ok (.goto 64, 3) := by decide +kernel
theorem dX3_asked_87 : decode cX3_asked 87 = .ok (.iload_n 2, 1) := by decide +kernel
theorem dX3_asked_88 : decode cX3_asked 88 = .ok (.iconst 3, 1) := by decide +kernel
theorem dX3_asked_89 : decode cX3_asked 89 = .ok (.if_icmp .ne 32, 3) := by decide +kernel
theorem dX3_asked_92 : decode cX3_asked 92 = .ok (.aload_n 0, 1) := by decide +kernel
theorem dX3_asked_93 : decode cX3_asked 93 = .ok (.iconst 1, 1) := by decide +kernel
theorem dX3_asked_94 : decode cX3_asked 94 = .ok (.aload_n 0, 1) := by decide +kernel
theorem dX3_asked_95 : decode cX3_asked 95 = .ok (.getfield 14, 3) := by decide +kernel
theorem dX3_asked_98 : decode cX3_asked 98 = .ok (.iconst 4, 1) := by decide +kernel
theorem dX3_asked_99 : decode cX3_asked 99 = .ok (.iaload, 1) := by decide +kernel
theorem dX3_asked_100 : decode cX3_asked 100 = .ok (.aload_n 0, 1) := by decide +kernel
theorem dX3_asked_101 : decode cX3_asked 101 = .ok (.getfield 14, 3) := by decide +kernel
theorem dX3_asked_104 : decode cX3_asked 104 = .ok (.iconst 3, 1) := by decide +kernel
theorem dX3_asked_105 : decode cX3_asked 105 = .ok (.iaload, 1) := by decide +kernel
theorem dX3_asked_106 : decode cX3_asked 106 = .ok (.idiv, 1) := by decide +kernel
theorem dX3_asked_107 : decode cX3_asked 107 = .ok (.invokestatic 65, 3) := by decide +kernel
theorem dX3_asked_110 : decode cX3_asked 110 = .ok (.invokevirtual 88, 3) := by decide +kernel
theorem dX3_asked_113 : decode cX3_asked 113 = .ok (.aload_n 0, 1) := by decide +kernel
theorem dX3_asked_114 : decode cX3_asked 114 = .ok (.iconst 0, 1) := by decide +kernel
theorem dX3_asked_115 : decode cX3_asked 115 = .ok (.invokevirtual 71, 3) := by decide +kernel
theorem dX3_asked_118 : decode cX3_asked 118 = .ok (.goto 30, 3) := by decide +kernel
theorem dX3_asked_121 : decode cX3_asked 121 = .ok (.aload_n 0, 1) := by decide +kernel
theorem dX3_asked_122 : decode cX3_asked 122 = .ok (.iconst 1, 1) := by decide +kernel
theorem dX3_asked_123 : decode cX3_asked 123 = .ok (.aload_n 0, 1) := by decide +kernel
theorem dX3_asked_124 : decode cX3_asked 124 = .ok (.getfield 14, 3) := by decide +kernel
theorem dX3_asked_127 : decode cX3_asked 127 = .ok (.iconst 3, 1) := by decide +kernel
theorem dX3_asked_128 : decode cX3_asked 128 = .ok (.iaload, 1) := by decide +kernel
theorem dX3_asked_129 : decode cX3_asked 129 = .ok (.aload_n 0, 1) := by decide +kernel
theorem dX3_asked_130 : decode cX3_asked 130 = .ok (.getfield 14, 3) := by decide +kernel
theorem dX3_asked_133 : decode cX3_asked 133 = .ok (.iconst 4, 1) := by decide +kernel
theorem dX3_asked_134 : decode cX3_asked 134 = .ok (.iaload, 1) := by decide +kernel
theorem dX3_asked_135 : decode cX3_asked 135 = .ok (.idiv, 1) := by decide +kernel
theorem dX3_asked_136 : decode cX3_asked 136 = .ok (.invokestatic 65, 3) := by decide +kernel
theorem dX3_asked_139 : decode cX3_asked 139 = .ok (.ineg, 1) := by decide +kernel
theorem dX3_asked_140 : decode cX3_asked 140 = .ok (.invokevirtual 88, 3) := by decide +kernel
theorem dX3_asked_143 : decode cX3_asked 143 = .ok (.aload_n 0, 1) := by decide +kernel
theorem dX3_asked_144 : decode cX3_asked 144 = .ok (.iconst 1, 1) := by decide +kernel
theorem dX3_asked_145 : decode cX3_asked 145 = .ok (.invokevirtual 71, 3) := by decide +kernel
theorem dX3_asked_148 : decode cX3_asked 148 = .ok (.aload_n 0, 1) := by decide +kernel
theorem dX3_asked_149 : decode cX3_asked 149 = .ok (.iload_n 2, 1) := by decide +kernel
theorem dX3_asked_150 : decode cX3_asked 150 = .ok (.aload_n 0, 1) := by decide +kernel
theorem dX3_asked_151 : decode cX3_asked 151 = .ok (.iload_n 2, 1) := by decide +kernel
theorem dX3_asked_152 : decode cX3_asked 152 = .ok (.iload_n 1, 1) := by decide +kernel
theorem dX3_asked_153 : decode cX3_asked 153 = .ok (.invokevirtual 35, 3) := by decide +kernel
theorem dX3_asked_156 : decode cX3_asked 156 = .ok (.invokevirtual 75, 3) := by decide +kernel
theorem dX3_asked_159 : decode cX3_asked 159 = .ok (.aload_n 0, 1) := by decide +kernel
theorem dX3_asked_160 : decode cX3_asked 160 = .ok (.iconst 2, 1) := by decide +kernel
theorem dX3_asked_161 : decode cX3_asked 161 = .ok (.iload_n 1, 1) := by decide +kernel
theorem dX3_asked_162 : decode cX3_asked 162 = .ok (.invokevirtual 56, 3) := by decide +kernel
theorem dX3_asked_165 : decode cX3_asked 165 = .ok (.iload_n 2, 1) := by decide +kernel
theorem dX3_asked_166 : decode cX3_asked 166 = .ok (.ireturn, 1) := by decide +kernel
set_option maxRecDepth 20000 in
theorem ggX3_ask_X3_isJar : GoodIn wsX3_ask wsX3_isJar := goodIn_r _ [5, 6, 7, 4, 8] (by decide +kernel) (by decide +kernel)
set_option maxRecDepth 20000 in
theorem gX3_ask_X3_isJar : GoodIn wsX3_ask (va_wsS RX3 91 yX3_isJar wsX3_isJar) := goodIn_app (goodIn_of _ (by decide +kernel)) ggX3_ask_X3_isJar
set_option maxRecDepth 20000 in
theorem ggX3_ask_X3_asked : GoodIn wsX3_ask wsX3_asked := goodIn_r _ [12, 13, 14, 15, 16, 17, 18, 19, 20, 21, 22, 23, 4, 24, 25, 26, 27, 28, 29, 30, 31, 32, 33, 34, 35, 36, 37, 38, 39, 40, 41, 42, 43, 44, 45, 46, 47, 48, 49, 50, 51, 52, 53, 54, 55, 56, 57, 58, 59, 60, 61, 62, 63, 64, 65, 66, 67, 72, 73, 74, 75, 76, 77] (by decide +kernel) (by decide +kernel)
set_option maxRecDepth 20000 in
theorem gX3_ask_X3_asked : GoodIn wsX3_ask (wsV RX3 94 RX3 yX3_asked wsX3_asked) := goodIn_app (goodIn_of _ (by decide +kernel)) ggX3_ask_X3_asked
set_option maxRecDepth 20000 in
theorem ggX3_ask_X3_fail : GoodIn wsX3_ask wsX3_fail := goodIn_r _ [71, 1, 72, 73, 74, 75, 76, 77] (by decide +kernel) (by decide +kernel)
set_option maxRecDepth 20000 in
theorem gX3_ask_X3_fail : GoodIn wsX3_ask (wsV RX3 45 RX3 yX3_fail wsX3_fail) := goodIn_app (goodIn_of _ (by decide +kernel)) ggX3_ask_X3_fail
theorem dX3_ask_0 : decode cX3_ask 0 = .ok (.aload_n 0, 1) := by decide +kernel
theorem dX3_ask_1 : decode cX3_ask 1 = .ok (.iconst 0, 1) := by decide +kernel
theorem dX3_ask_2 : decode cX3_ask 2 = .ok (.putfield 27, 3) := by decide +kernel
theorem dX3_ask_5 : decode cX3_ask 5 = .ok (.iload_n 1, 1) := by decide +kernel
theorem dX3_ask_6 : decode cX3_ask 6 = .ok (.invokestatic 91, 3) := by decide +kernel
theorem dX3_ask_9 : decode cX3_ask 9 = .ok (.ifCond .eq 11, 3) := by decide +kernel
theorem dX3_ask_12 : decode cX3_ask 12 = .ok (.aload_n 0, 1) := by decide +kernel
theorem dX3_ask_13 : decode cX3_ask 13 = .ok (.iload_n 1, 1) := by decide +kernel
theorem dX3_ask_14 : decode cX3_ask 14 = .ok (.invokevirtual 94, 3) := by decide +kernel
theorem dX3_ask_17 : decode cX3_ask 17 = .ok (.goto 8, 3) := by decide +kernel
theorem dX3_ask_20 : decode cX3_ask 20 = .ok (.aload_n 0, 1) := by decide +kernel
theorem dX3_ask_21 : decode cX3_ask 21 = .ok (.iconst 1, 1) := by decide +kernel
theorem dX3_ask_22 : decode cX3_ask 22 = .ok (.invokevirtual 45, 3) := by decide +kernel
theorem dX3_ask_25 : decode cX3_ask 25 = .ok (.ireturn, 1) := by decide +kernel
set_option maxRecDepth 20000 in
theorem ggX3_spoil_X3_isJar : GoodIn wsX3_spoil wsX3_isJar := goodIn_r _ [5, 6, 7, 4, 8] (by decide +kernel) (by decide +kernel)
set_option maxRecDepth 20000 in
theorem gX3_spoil_X3_isJar : GoodIn wsX3_spoil (va_wsS RX3 91 yX3_isJar wsX3_isJar) := goodIn_app (goodIn_of _ (by decide +kernel)) ggX3_spoil_X3_isJar
set_option maxRecDepth 20000 in
theorem ggX3_spoil_X3_fail : GoodIn wsX3_spoil wsX3_fail := goodIn_r _ [12, 1, 31, 32, 33, 34, 35, 36] (by decide +kernel) (by decide +kernel)
set_option maxRecDepth 20000 in
theorem gX3_spoil_X3_fail : GoodIn wsX3_spoil (wsV RX3 45 RX3 yX3_fail wsX3_fail) := goodIn_app (goodIn_of _ (by decide +kernel)) ggX3_spoil_X3_fail
set_option maxRecDepth 20000 in
theorem ggX3_spoil_X3_where : GoodIn wsX3_spoil wsX3_where := goodIn_r _ [16, 17, 18, 19, 4, 20, 21, 22, 31, 32, 33, 34, 35, 36] (by decide +kernel) (by decide +kernel)
set_option maxRecDepth 20000 in
theorem gX3_spoil_X3_where : GoodIn wsX3_spoil (wsV RX3 78 RX3 yX3_where wsX3_where) := goodIn_app (goodIn_of _ (by decide +kernel)) ggX3_spoil_X3_where
set_option maxRecDepth 20000 in
theorem ggX3_spoil_X3_isIn : GoodIn wsX3_spoil wsX3_isIn := goodIn_r _ [8] (by decide +kernel) (by decide +kernel)
set_option maxRecDepth 20000 in
theorem gX3_spoil_X3_isIn : GoodIn wsX3_spoil (va_wsS RX3 31 yX3_isIn wsX3_isIn) := goodIn_app (goodIn_of _ (by decide +kernel)) ggX3_spoil_X3_isIn
set_option maxRecDepth 20000 in
theorem ggX3_spoil_X3_find : GoodIn wsX3_spoil wsX3_find := goodIn_r _ [20, 21, 22, 31, 32, 33, 34, 35, 36] (by decide +kernel) (by decide +kernel)
set_option maxRecDepth 20000 in
theorem gX3_spoil_X3_find : GoodIn wsX3_spoil (wsV RX3 35 RX3 yX3_find wsX3_find) := goodIn_app (goodIn_of _ (by decide +kernel)) ggX3_spoil_X3_find
set_option maxRecDepth 20000 in
theorem ggX3_spoil_X3_takeOut : GoodIn wsX3_spoil wsX3_takeOut := goodIn_r _ [26, 21, 22, 27, 28, 29, 30, 31, 32, 33, 34, 35, 36] (by decide +kernel) (by decide +kernel)
set_option maxRecDepth 20000 in
theorem gX3_spoil_X3_takeOut : GoodIn wsX3_spoil (wsV RX3 75 RX3 yX3_takeOut wsX3_takeOut) := goodIn_app (goodIn_of _ (by decide +kernel)) ggX3_spoil_X3_takeOut
theorem dX3_spoil_0 : decode cX3_spoil 0 = .ok (.aload_n 0, 1) := by decide +kernel
theorem dX3_spoil_1 : decode cX3_spoil 1 = .ok (.iconst 0, 1) := by decide +kernel
theorem dX3_spoil_2 : decode cX3_spoil 2 = .ok (.putfield 27, 3) := by decide +kernel
theorem dX3_spoil_5 : decode cX3_spoil 5 = .ok (.iload_n 1, 1) := by decide +kernel
theorem dX3_spoil_6 : decode cX3_spoil 6 = .ok (.invokestatic 91, 3) := by decide +kernel
theorem dX3_spoil_9 : decode cX3_spoil 9 = .ok (.ifCond .ne 9, 3) := by decide +kernel
theorem dX3_spoil_12 : decode cX3_spoil 12 = .ok (.aload_n 0, 1) := by decide +kernel
theorem dX3_spoil_13 : decode cX3_spoil 13 = .ok (.iconst 1, 1) := by decide +kernel
theorem dX3_spoil_14 : decode cX3_spoil 14 = .ok (.invokevirtual 45, 3) := by decide +kernel
theorem dX3_spoil_17 : decode cX3_spoil 17 = .ok (.ireturn, 1) := by decide +kernel
theorem dX3_spoil_18 : decode cX3_spoil 18 = .ok (.aload_n 0, 1) := by decide +kernel
theorem dX3_spoil_19 : decode cX3_spoil 19 = .ok (.iload_n 1, 1) := by decide +kernel
theorem dX3_spoil_20 : decode cX3_spoil 20 = .ok (.invokevirtual 78, 3) := by decide +kernel
theorem dX3_spoil_23 : decode cX3_spoil 23 = .ok (.istore_n 2, 1) := by decide +kernel
theorem dX3_spoil_24 : decode cX3_spoil 24 = .ok (.iload_n 2, 1) := by decide +kernel
theorem dX3_spoil_25 : decode cX3_spoil 25 = .ok (.iconst 1, 1) := by decide +kernel
theorem dX3_spoil_26 : decode cX3_spoil 26 = .ok (.iconst 2, 1) := by decide +kernel
theorem dX3_spoil_27 : decode cX3_spoil 27 = .ok (.invokestatic 31, 3) := by decide +kernel
theorem dX3_spoil_30 : decode cX3_spoil 30 = .ok (.ifCond .ne 9, 3) := by decide +kernel
theorem dX3_spoil_33 : decode cX3_spoil 33 = .ok (.aload_n 0, 1) := by decide +kernel
theorem dX3_spoil_34 : decode cX3_spoil 34 = .ok (.iconst 2, 1) := by decide +kernel
theorem dX3_spoil_35 : decode cX3_spoil 35 = .ok (.invokevirtual 45, 3) := by decide +kernel
theorem dX3_spoil_38 : decode cX3_spoil 38 = .ok (.ireturn, 1) := by decide +kernel
theorem dX3_spoil_39 : decode cX3_spoil 39 = .ok (.aload_n 0, 1) := by decide +kernel
theorem dX3_spoil_40 : decode cX3_spoil 40 = .ok (.iload_n 2, 1) := by decide +kernel
theorem dX3_spoil_41 : decode cX3_spoil 41 = .ok (.aload_n 0, 1) := by decide +kernel
theorem dX3_spoil_42 : decode cX3_spoil 42 = .ok (.iload_n 2, 1) := by decide +kernel
theorem dX3_spoil_43 : decode cX3_spoil 43 = .ok (.iload_n 1, 1) := by decide +kernel
theorem dX3_spoil_44 : decode cX3_spoil 44 = .ok (.invokevirtual 35, 3) := by decide +kernel
theorem dX3_spoil_47 : decode cX3_spoil 47 = .ok (.invokevirtual 75, 3) := by decide +kernel
theorem dX3_spoil_50 : decode cX3_spoil 50 = .ok (.iload_n 2, 1) := by decide +kernel
theorem dX3_spoil_51 : decode cX3_spoil 51 = .ok (.ireturn, 1) := by decide +kernel
theorem dX3_sweep_0 : decode cX3_sweep 0 = .ok (.aload_n 0, 1) := by decide +kernel
theorem dX3_sweep_1 : decode cX3_sweep 1 = .ok (.iconst 0, 1) := by decide +kernel
theorem dX3_sweep_2 : decode cX3_sweep 2 = .ok (.putfield 27, 3) := by decide +kernel
theorem dX3_sweep_5 : decode cX3_sweep 5 = .ok (.aload_n 0, 1) := by decide +kernel
theorem dX3_sweep_6 : decode cX3_sweep 6 = .ok (.getfield 14, 3) := by decide +kernel
theorem dX3_sweep_9 : decode cX3_sweep 9 = .ok (.iconst 3, 1) := by decide +kernel
theorem dX3_sweep_10 : decode cX3_sweep 10 = .ok (.iaload, 1) := by decide +kernel
theorem dX3_sweep_11 : decode cX3_sweep 11 = .ok (.aload_n 0, 1) := by decide +kernel
theorem dX3_sweep_12 : decode cX3_sweep 12 = .ok (.getfield 14, 3) := by decide +kernel
theorem dX3_sweep_15 : decode cX3_sweep 15 = .ok (.iconst 4, 1) := by decide +kernel
theorem dX3_sweep_16 : decode cX3_sweep 16 = .ok (.iaload, 1) := by decide +kernel
theorem dX3_sweep_17 : decode cX3_sweep 17 = .ok (.iadd, 1) := by decide +kernel
theorem dX3_sweep_18 : decode cX3_sweep 18 = .ok (.istore_n 1, 1) := by decide +kernel
theorem dX3_sweep_19 : decode cX3_sweep 19 = .ok (.aload_n 0, 1) := by decide +kernel
theorem dX3_sweep_20 : decode cX3_sweep 20 = .ok (.getfield 14, 3) := by decide +kernel
theorem dX3_sweep_23 : decode cX3_sweep 23 = .ok (.iconst 3, 1) := by decide +kernel
theorem dX3_sweep_24 : decode cX3_sweep 24 = .ok (.iconst 0, 1) := by decide +kernel
theorem dX3_sweep_25 : decode cX3_sweep 25 = .ok (.iastore, 1) := by decide +kernel
theorem dX3_sweep_26 : decode cX3_sweep 26 = .ok (.aload_n 0, 1) := by decide +kernel
theorem dX3_sweep_27 : decode cX3_sweep 27 = .ok (.getfield 14, 3) := by decide +kernel
theorem dX3_sweep_30 : decode cX3_sweep 30 = .ok (.iconst 4, 1) := by decide +kernel
theorem dX3_sweep_31 : decode cX3_sweep 31 = .ok (.iconst 0, 1) := by decide +kernel
theorem dX3_sweep_32 : decode cX3_sweep 32 = .ok (.iastore, 1) := by decide +kernel
theorem dX3_sweep_33 : decode cX3_sweep 33 = .ok (.iload_n 1, 1) := by decide +kernel
theorem dX3_sweep_34 : decode cX3_sweep 34 = .ok (.ireturn, 1) := by decide +kernel
set_option maxRecDepth 20000 in
theorem ggX3_add_X3_isJar : GoodIn wsX3_add wsX3_isJar := goodIn_r _ [7, 8, 9, 6, 10] (by decide +kernel) (by decide +kernel)
set_option maxRecDepth 20000 in
theorem gX3_add_X3_isJar : GoodIn wsX3_add (va_wsS RX3 91 yX3_isJar wsX3_isJar) := goodIn_app (goodIn_of _ (by decide +kernel)) ggX3_add_X3_isJar
set_option maxRecDepth 20000 in
theorem ggX3_add_X3_fail : GoodIn wsX3_add wsX3_fail := goodIn_r _ [14, 1, 15, 16, 17, 18, 19, 20] (by decide +kernel) (by decide +kernel)
set_option maxRecDepth 20000 in
theorem gX3_add_X3_fail : GoodIn wsX3_add (wsV RX3 45 RX3 yX3_fail wsX3_fail) := goodIn_app (goodIn_of _ (by decide +kernel)) ggX3_add_X3_fail
theorem dX3_add_0 : decode cX3_add 0 = .ok (.aload_n 0, 1) := by decide +kernel
theorem dX3_add_1 : decode cX3_add 1 = .ok (.iconst 0, 1) := by decide +kernel
theorem dX3_add_2 : decode cX3_add 2 = .ok (.putfield 27, 3) := by decide +kernel
theorem dX3_add_5 : decode cX3_add 5 = .ok (.iload_n 1, 1) := by decide +kernel
theorem dX3_add_6 : decode cX3_add 6 = .ok (.invokestatic 91, 3) := by decide +kernel
theorem dX3_add_9 : decode cX3_add 9 = .ok (.ifCond .ne 9, 3) := by decide +kernel
theorem dX3_add_12 : decode cX3_add 12 = .ok (.aload_n 0, 1) := by decide +kernel
theorem dX3_add_13 : decode cX3_add 13 = .ok (.iconst 1, 1) := by decide +kernel
theorem dX3_add_14 : decode cX3_add 14 = .ok (.invokevirtual 45, 3) := by decide +kernel
theorem dX3_add_17 : decode cX3_add 17 = .ok (.ireturn, 1) := by decide +kernel
theorem dX3_add_18 : decode cX3_add 18 = .ok (.aload_n 0, 1) := by decide +kernel
theorem dX3_add_19 : decode cX3_add 19 = .ok (.getfield 14, 3) := by decide +kernel
theorem dX3_add_22 : decode cX3_add 22 = .ok (.bipush 6, 2) := by decide +kernel
theorem dX3_add_24 : decode cX3_add 24 = .ok (.iaload, 1) := by decide +kernel
theorem dX3_add_25 : decode cX3_add 25 = .ok (.bipush 30, 2) := by decide +kernel
theorem dX3_add_27 : decode cX3_add 27 = .ok (.if_icmp .ne 9, 3) := by decide +kernel
theorem dX3_add_30 : decode cX3_add 30 = .ok (.aload_n 0, 1) := by decide +kernel
theorem dX3_add_31 : decode cX3_add 31 = .ok (.iconst 2, 1) := by decide +kernel
theorem dX3_add_32 : decode cX3_add 32 = .ok (.invokevirtual 45, 3) := by decide +kernel
theorem dX3_add_35 : decode cX3_add 35 = .ok (.ireturn, 1) := by decide +kernel
theorem dX3_add_36 : decode cX3_add 36 = .ok (.aload_n 0, 1) := by decide +kernel
theorem dX3_add_37 : decode cX3_add 37 = .ok (.getfield 11, 3) := by decide +kernel
theorem dX3_add_40 : decode cX3_add 40 = .ok (.bipush 6, 2) := by decide +kernel
theorem dX3_add_42 : decode cX3_add 42 = .ok (.aaload, 1) := by decide +kernel
theorem dX3_add_43 : decode cX3_add 43 = .ok (.aload_n 0, 1) := by decide +kernel
theorem dX3_add_44 : decode cX3_add 44 = .ok (.getfield 14, 3) := by decide +kernel
theorem dX3_add_47 : decode cX3_add 47 = .ok (.bipush 6, 2) := by decide +kernel
theorem dX3_add_49 : decode cX3_add 49 = .ok (.iaload, 1) := by decide +kernel
theorem dX3_add_50 : decode cX3_add 50 = .ok (.iload_n 1, 1) := by decide +kernel
theorem dX3_add_51 : decode cX3_add 51 = .ok (.iastore, 1) := by decide +kernel
theorem dX3_add_52 : decode cX3_add 52 = .ok (.aload_n 0, 1) := by decide +kernel
theorem dX3_add_53 : decode cX3_add 53 = .ok (.getfield 14, 3) := by decide +kernel
theorem dX3_add_56 : decode cX3_add 56 = .ok (.bipush 6, 2) := by decide +kernel
theorem dX3_add_58 : decode cX3_add 58 = .ok (.dup2, 1) := by decide +kernel
theorem dX3_add_59 : decode cX3_add 59 = .ok (.iaload, 1) := by decide +kernel
theorem dX3_add_60 : decode cX3_add 60 = .ok (.iconst 1, 1) := by decide +kernel
theorem dX3_add_61 : decode cX3_add 61 = .ok (.iadd, 1) := by decide +kernel
theorem dX3_add_62 : decode cX3_add 62 = .ok (.iastore, 1) := by decide +kernel
theorem dX3_add_63 : decode cX3_add 63 = .ok (.aload_n 0, 1) := by decide +kernel
theorem dX3_add_64 : decode cX3_add 64 = .ok (.getfield 14, 3) := by decide +kernel
theorem dX3_add_67 : decode cX3_add 67 = .ok (.bipush 6, 2) := by decide +kernel
theorem dX3_add_69 : decode cX3_add 69 = .ok (.iaload, 1) := by decide +kernel
theorem dX3_add_70 : decode cX3_add 70 = .ok (.ireturn, 1) := by decide +kernel
set_option maxRecDepth 20000 in
theorem ggX3_drop_X3_isIn : GoodIn wsX3_drop wsX3_isIn := goodIn_r _ [7] (by decide +kernel) (by decide +kernel)
set_option maxRecDepth 20000 in
theorem gX3_drop_X3_isIn : GoodIn wsX3_drop (va_wsS RX3 31 yX3_isIn wsX3_isIn) := goodIn_app (goodIn_of _ (by decide +kernel)) ggX3_drop_X3_isIn
set_option maxRecDepth 20000 in
theorem ggX3_drop_X3_fail : GoodIn wsX3_drop wsX3_fail := goodIn_r _ [11, 1, 20, 21, 22, 23, 24, 25] (by decide +kernel) (by decide +kernel)
set_option maxRecDepth 20000 in
theorem gX3_drop_X3_fail : GoodIn wsX3_drop (wsV RX3 45 RX3 yX3_fail wsX3_fail) := goodIn_app (goodIn_of _ (by decide +kernel)) ggX3_drop_X3_fail
set_option maxRecDepth 20000 in
theorem ggX3_drop_X3_takeOut : GoodIn wsX3_drop wsX3_takeOut := goodIn_r _ [15, 2, 3, 16, 17, 18, 19, 20, 21, 22, 23, 24, 25] (by decide +kernel) (by decide +kernel)
set_option maxRecDepth 20000 in
theorem gX3_drop_X3_takeOut : GoodIn wsX3_drop (wsV RX3 75 RX3 yX3_takeOut wsX3_takeOut) := goodIn_app (goodIn_of _ (by decide +kernel)) ggX3_drop_X3_takeOut
theorem dX3_drop_0 : decode cX3_drop 0 = .ok (.aload_n 0, 1) := by decide +kernel
theorem dX3_drop_1 : decode cX3_drop 1 = .ok (.iconst 0, 1) := by decide +kernel
theorem dX3_drop_2 : decode cX3_drop 2 = .ok (.putfield 27, 3) := by decide +kernel
theorem dX3_drop_5 : decode cX3_drop 5 = .ok (.iload_n 1, 1) := by decide +kernel
theorem dX3_drop_6 : decode cX3_drop 6 = .ok (.iconst 0, 1) := by decide +kernel
theorem dX3_drop_7 : decode cX3_drop 7 = .ok (.aload_n 0, 1) := by decide +kernel
theorem dX3_drop_8 : decode cX3_drop 8 = .ok (.getfield 14, 3) := by decide +kernel
theorem dX3_drop_11 : decode cX3_drop 11 = .ok (.bipush 6, 2) := by decide +kernel
theorem dX3_drop_13 : decode cX3_drop 13 = .ok (.iaload, 1) := by decide +kernel
theorem dX3_drop_14 : decode cX3_drop 14 = .ok (.iconst 1, 1) := by decide +kernel
theorem dX3_drop_15 : decode cX3_drop 15 = .ok (.isub, 1) := by decide +kernel
theorem dX3_drop_16 : decode cX3_drop 16 = .ok (.invokestatic 31, 3) := by decide +kernel
theorem dX3_drop_19 : decode cX3_drop 19 = .ok (.ifCond .ne 9, 3) := by decide +kernel
theorem dX3_drop_22 : decode cX3_drop 22 = .ok (.aload_n 0, 1) := by decide +kernel
theorem dX3_drop_23 : decode cX3_drop 23 = .ok (.iconst 1, 1) := by decide +kernel
theorem dX3_drop_24 : decode cX3_drop 24 = .ok (.invokevirtual 45, 3) := by decide +kernel
theorem dX3_drop_27 : decode cX3_drop 27 = .ok (.ireturn, 1) := by decide +kernel
theorem dX3_drop_28 : decode cX3_drop 28 = .ok (.aload_n 0, 1) := by decide +kernel
theorem dX3_drop_29 : decode cX3_drop 29 = .ok (.getfield 11, 3) := by decide +kernel
theorem dX3_drop_32 : decode cX3_drop 32 = .ok (.bipush 6, 2) := by decide +kernel
theorem dX3_drop_34 : decode cX3_drop 34 = .ok (.aaload, 1) := by decide +kernel
theorem dX3_drop_35 : decode cX3_drop 35 = .ok (.iload_n 1, 1) := by decide +kernel
theorem dX3_drop_36 : decode cX3_drop 36 = .ok (.iaload, 1) := by decide +kernel
theorem dX3_drop_37 : decode cX3_drop 37 = .ok (.istore_n 2, 1) := by decide +kernel
theorem dX3_drop_38 : decode cX3_drop 38 = .ok (.aload_n 0, 1) := by decide +kernel
theorem dX3_drop_39 : decode cX3_drop 39 = .ok (.bipush 6, 2) := by decide +kernel
theorem dX3_drop_41 : decode cX3_drop 41 = .ok (.iload_n 1, 1) := by decide +kernel
theorem dX3_drop_42 : decode cX3_drop 42 = .ok (.invokevirtual 75, 3) := by decide +kernel
theorem dX3_drop_45 : decode cX3_drop 45 = .ok (.iload_n 2, 1) := by decide +kernel
theorem dX3_drop_46 : decode cX3_drop 46 = .ok (.ireturn, 1) := by decide +kernel
set_option maxRecDepth 20000 in
theorem ggX3_cookAll_X3_asked : GoodIn wsX3_cookAll wsX3_asked := goodIn_r _ [7, 8, 9, 10, 1, 11, 12, 13, 14, 15, 16, 17, 6, 18, 19, 20, 21, 22, 2, 23, 24, 25, 26, 27, 28, 29, 30, 31, 32, 33, 34, 35, 36, 37, 38, 39, 40, 41, 42, 43, 44, 45, 46, 47, 48, 49, 50, 51, 52, 53, 54, 55, 56, 57, 58, 59, 60, 61, 62, 63, 64, 65, 66] (by decide +kernel) (by decide +kernel)
set_option maxRecDepth 20000 in
theorem gX3_cookAll_X3_asked : GoodIn wsX3_cookAll (wsV RX3 94 RX3 yX3_asked wsX3_asked) := goodIn_app (goodIn_of _ (by decide +kernel)) ggX3_cookAll_X3_asked
theorem dX3_cookAll_0 : decode cX3_cookAll 0 = .ok (.iconst 0, 1) := by decide +kernel
theorem dX3_cookAll_1 : decode cX3_cookAll 1 = .ok (.istore_n 2, 1) := by decide +kernel
theorem dX3_cookAll_2 : decode cX3_cookAll 2 = .ok (.iload_n 2, 1) := by decide +kernel
theorem dX3_cookAll_3 : decode cX3_cookAll 3 = .ok (.iload_n 1, 1) := by decide +kernel
theorem dX3_cookAll_4 : decode cX3_cookAll 4 = .ok (.if_icmp .ge 42, 3) := by decide +kernel
theorem dX3_cookAll_7 : decode cX3_cookAll 7 = .ok (.iconst 0, 1) := by decide +kernel
theorem dX3_cookAll_8 : decode cX3_cookAll 8 = .ok (.istore_n 3, 1) := by decide +kernel
theorem dX3_cookAll_9 : decode cX3_cookAll 9 = .ok (.iload_n 3, 1) := by decide +kernel
theorem dX3_cookAll_10 : decode cX3_cookAll 10 = .ok (.aload_n 0, 1) := by decide +kernel
theorem dX3_cookAll_11 : decode cX3_cookAll 11 = .ok (.getfield 14, 3) := by decide +kernel
theorem dX3_cookAll_14 : decode cX3_cookAll 14 = .ok (.bipush 6, 2) := by decide +kernel
theorem dX3_cookAll_16 : decode cX3_cookAll 16 = .ok (.iaload, 1) := by decide +kernel
theorem dX3_cookAll_17 : decode cX3_cookAll 17 = .ok (.if_icmp .ge 23, 3) := by decide +kernel
theorem dX3_cookAll_20 : decode cX3_cookAll 20 = .ok (.aload_n 0, 1) := by decide +kernel
theorem dX3_cookAll_21 : decode cX3_cookAll 21 = .ok (.aload_n 0, 1) := by decide +kernel
theorem dX3_cookAll_22 : decode cX3_cookAll 22 = .ok (.getfield 11, 3) := by decide +kernel
theorem dX3_cookAll_25 : decode cX3_cookAll 25 = .ok (.bipush 6, 2) := by decide +kernel
theorem dX3_cookAll_27 : decode cX3_cookAll 27 = .ok (.aaload, 1) := by decide +kernel
theorem dX3_cookAll_28 : decode cX3_cookAll 28 = .ok (.iload_n 3, 1) := by decide +kernel
theorem dX3_cookAll_29 : decode cX3_cookAll 29 = .ok (.iaload, 1) := by decide +kernel
theorem dX3_cookAll_30 : decode cX3_cookAll 30 = .ok (.invokevirtual 94, 3) := by decide +kernel
theorem dX3_cookAll_33 : decode cX3_cookAll 33 = .ok (.pop, 1) := by decide +kernel
theorem dX3_cookAll_34 : decode cX3_cookAll 34 = .ok (.iinc 3 1, 3) := by decide +kernel
theorem dX3_cookAll_37 : decode cX3_cookAll 37 = .ok (.goto (-28), 3) := by decide +kernel
theorem dX3_cookAll_40 : decode cX3_cookAll 40 = .ok (.iinc 2 1, 3) := by decide +kernel
theorem dX3_cookAll_43 : decode cX3_cookAll 43 = .ok (.goto (-41), 3) := by decide +kernel
theorem dX3_cookAll_46 : decode cX3_cookAll 46 = .ok (.return_, 1) := by decide +kernel
set_option maxRecDepth 20000 in
theorem ggX3_cook_X3_cookAll : GoodIn wsX3_cook wsX3_cookAll := goodIn_r _ [7, 8, 9, 10, 11, 12, 6, 13, 2, 14, 15, 16, 17, 18, 19, 20, 21, 22, 23, 24, 25, 26, 27, 28, 29, 30, 31, 32, 33, 34, 35, 36, 37, 38, 39, 40, 41, 42, 43, 44, 45, 46, 47, 48, 49, 50, 51, 52, 53, 54, 55, 56, 57, 58, 59, 60, 61, 62, 63, 64, 65, 66, 67, 68, 69, 70, 71] (by decide +kernel) (by decide +kernel)
set_option maxRecDepth 20000 in
theorem gX3_cook_X3_cookAll : GoodIn wsX3_cook (wsV RX3 97 RX3 yX3_cookAll wsX3_cookAll) := goodIn_app (goodIn_of _ (by decide +kernel)) ggX3_cook_X3_cookAll
theorem dX3_cook_0 : decode cX3_cook 0 = .ok (.aload_n 0, 1) := by decide +kernel
theorem dX3_cook_1 : decode cX3_cook 1 = .ok (.iconst 0, 1) := by decide +kernel
theorem dX3_cook_2 : decode cX3_cook 2 = .ok (.putfield 27, 3) := by decide +kernel
theorem dX3_cook_5 : decode cX3_cook 5 = .ok (.aload_n 0, 1) := by decide +kernel
theorem dX3_cook_6 : decode cX3_cook 6 = .ok (.getfield 18, 3) := by decide +kernel
theorem dX3_cook_9 : decode cX3_cook 9 = .ok (.iconst 3, 1) := by decide +kernel
theorem dX3_cook_10 : decode cX3_cook 10 = .ok (.iaload, 1) := by decide +kernel
theorem dX3_cook_11 : decode cX3_cook 11 = .ok (.istore_n 1, 1) := by decide +kernel
theorem dX3_cook_12 : decode cX3_cook 12 = .ok (.aload_n 0, 1) := by decide +kernel
theorem dX3_cook_13 : decode cX3_cook 13 = .ok (.iconst 1, 1) := by decide +kernel
theorem dX3_cook_14 : decode cX3_cook 14 = .ok (.invokevirtual 97, 3) := by decide +kernel
theorem dX3_cook_17 : decode cX3_cook 17 = .ok (.aload_n 0, 1) := by decide +kernel
theorem dX3_cook_18 : decode cX3_cook 18 = .ok (.getfield 18, 3) := by decide +kernel
theorem dX3_cook_21 : decode cX3_cook 21 = .ok (.iconst 3, 1) := by decide +kernel
theorem dX3_cook_22 : decode cX3_cook 22 = .ok (.iaload, 1) := by decide +kernel
theorem dX3_cook_23 : decode cX3_cook 23 = .ok (.iload_n 1, 1) := by decide +kernel
theorem dX3_cook_24 : decode cX3_cook 24 = .ok (.isub, 1) := by decide +kernel
theorem dX3_cook_25 : decode cX3_cook 25 = .ok (.ireturn, 1) := by decide +kernel
set_option maxRecDepth 20000 in
theorem ggX3_jarTold_X3_where : GoodIn wsX3_jarTold wsX3_where := goodIn_r _ [7, 8, 9, 10, 6, 11, 12, 13, 14, 15, 16, 17, 18, 19] (by decide +kernel) (by decide +kernel)
set_option maxRecDepth 20000 in
theorem gX3_jarTold_X3_where : GoodIn wsX3_jarTold (wsV RX3 78 RX3 yX3_where wsX3_where) := goodIn_app (goodIn_of _ (by decide +kernel)) ggX3_jarTold_X3_where
set_option maxRecDepth 20000 in
theorem ggX3_jarTold_X3_find : GoodIn wsX3_jarTold wsX3_find := goodIn_r _ [11, 12, 13, 14, 15, 16, 17, 18, 19] (by decide +kernel) (by decide +kernel)
set_option maxRecDepth 20000 in
theorem gX3_jarTold_X3_find : GoodIn wsX3_jarTold (wsV RX3 35 RX3 yX3_find wsX3_find) := goodIn_app (goodIn_of _ (by decide +kernel)) ggX3_jarTold_X3_find
theorem dX3_jarTold_0 : decode cX3_jarTold 0 = .ok (.aload_n 0, 1) := by decide +kernel
theorem dX3_jarTold_1 : decode cX3_jarTold 1 = .ok (.iload_n 1, 1) := by decide +kernel
theorem dX3_jarTold_2 : decode cX3_jarTold 2 = .ok (.invokevirtual 78, 3) := by decide +kernel
theorem dX3_jarTold_5 : decode cX3_jarTold 5 = .ok (.istore_n 3, 1) := by decide +kernel
theorem dX3_jarTold_6 : decode cX3_jarTold 6 = .ok (.iload_n 2, 1) := by decide +kernel
theorem dX3_jarTold_7 : decode cX3_jarTold 7 = .ok (.tableswitch 60 0 3 #[29, 31, 46, 53], 29) := by decide +kernel
theorem dX3_jarTold_36 : decode cX3_jarTold 36 = .ok (.iload_n 3, 1) := by decide +kernel
theorem dX3_jarTold_37 : decode cX3_jarTold 37 = .ok (.ireturn, 1) := by decide +kernel
theorem dX3_jarTold_38 : decode cX3_jarTold 38 = .ok (.iload_n 3, 1) := by decide +kernel
theorem dX3_jarTold_39 : decode cX3_jarTold 39 = .ok (.ifCond .ne 7, 3) := by decide +kernel
theorem dX3_jarTold_42 : decode cX3_jarTold 42 = .ok (.iconst (-1), 1) := by decide +kernel
theorem dX3_jarTold_43 : decode cX3_jarTold 43 = .ok (.goto 9, 3) := by decide +kernel
theorem dX3_jarTold_46 : decode cX3_jarTold 46 = .ok (.aload_n 0, 1) := by decide +kernel
theorem dX3_jarTold_47 : decode cX3_jarTold 47 = .ok (.iload_n 3, 1) := by decide +kernel
theorem dX3_jarTold_48 : decode cX3_jarTold 48 = .ok (.iload_n 1, 1) := by decide +kernel
theorem dX3_jarTold_49 : decode cX3_jarTold 49 = .ok (.invokevirtual 35, 3) := by decide +kernel
theorem dX3_jarTold_52 : decode cX3_jarTold 52 = .ok (.ireturn, 1) := by decide +kernel
theorem dX3_jarTold_53 : decode cX3_jarTold 53 = .ok (.aload_n 0, 1) := by decide +kernel
theorem dX3_jarTold_54 : decode cX3_jarTold 54 = .ok (.getfield 21, 3) := by decide +kernel
theorem dX3_jarTold_57 : decode cX3_jarTold 57 = .ok (.iload_n 1, 1) := by decide +kernel
theorem dX3_jarTold_58 : decode cX3_jarTold 58 = .ok (.iaload, 1) := by decide +kernel
theorem dX3_jarTold_59 : decode cX3_jarTold 59 = .ok (.ireturn, 1) := by decide +kernel
theorem dX3_jarTold_60 : decode cX3_jarTold 60 = .ok (.aload_n 0, 1) := by decide +kernel
theorem dX3_jarTold_61 : decode cX3_jarTold 61 = .ok (.getfield 24, 3) := by decide +kernel
theorem dX3_jarTold_64 : decode cX3_jarTold 64 = .ok (.iload_n 1, 1) := by decide +kernel
theorem dX3_jarTold_65 : decode cX3_jarTold 65 = .ok (.iaload, 1) := by decide +kernel
theorem dX3_jarTold_66 : decode cX3_jarTold 66 = .ok (.ireturn, 1) := by decide +kernel
theorem dX3_jarTold_67 : decode cX3_jarTold 67 = .ok (.aload_n 0, 1) := by decide +kernel
theorem dX3_jarTold_68 : decode cX3_jarTold 68 = .ok (.iconst 5, 1) := by decide +kernel
theorem dX3_jarTold_69 : decode cX3_jarTold 69 = .ok (.iload_n 1, 1) := by decide +kernel
theorem dX3_jarTold_70 : decode cX3_jarTold 70 = .ok (.invokevirtual 35, 3) := by decide +kernel
theorem dX3_jarTold_73 : decode cX3_jarTold 73 = .ok (.iconst (-1), 1) := by decide +kernel
theorem dX3_jarTold_74 : decode cX3_jarTold 74 = .ok (.if_icmp .ne 7, 3) := by decide +kernel
theorem dX3_jarTold_77 : decode cX3_jarTold 77 = .ok (.iconst 0, 1) := by decide +kernel
theorem dX3_jarTold_78 : decode cX3_jarTold 78 = .ok (.goto 4, 3) := by decide +kernel
theorem dX3_jarTold_81 : decode cX3_jarTold 81 = .ok (.iconst 1, 1) := by decide +kernel
theorem dX3_jarTold_82 : decode cX3_jarTold 82 = .ok (.ireturn, 1) := by decide +kernel
set_option maxRecDepth 20000 in
theorem ggX3_told_X3_isJar : GoodIn wsX3_told wsX3_isJar := goodIn_r _ [5, 6, 7, 4, 8] (by decide +kernel) (by decide +kernel)
set_option maxRecDepth 20000 in
theorem gX3_told_X3_isJar : GoodIn wsX3_told (va_wsS RX3 91 yX3_isJar wsX3_isJar) := goodIn_app (goodIn_of _ (by decide +kernel)) ggX3_told_X3_isJar
set_option maxRecDepth 20000 in
theorem ggX3_told_X3_isIn : GoodIn wsX3_told wsX3_isIn := goodIn_r _ [8] (by decide +kernel) (by decide +kernel)
set_option maxRecDepth 20000 in
theorem gX3_told_X3_isIn : GoodIn wsX3_told (va_wsS RX3 31 yX3_isIn wsX3_isIn) := goodIn_app (goodIn_of _ (by decide +kernel)) ggX3_told_X3_isIn
set_option maxRecDepth 20000 in
theorem ggX3_told_X3_jarTold : GoodIn wsX3_told wsX3_jarTold := goodIn_r _ [12, 13, 14, 15, 16, 17, 4, 18, 19, 20, 21, 22, 23, 24, 29, 30, 31, 32, 33, 34] (by decide +kernel) (by decide +kernel)
set_option maxRecDepth 20000 in
theorem gX3_told_X3_jarTold : GoodIn wsX3_told (wsV RX3 100 RX3 yX3_jarTold wsX3_jarTold) := goodIn_app (goodIn_of _ (by decide +kernel)) ggX3_told_X3_jarTold
set_option maxRecDepth 20000 in
theorem ggX3_told_X3_fail : GoodIn wsX3_told wsX3_fail := goodIn_r _ [28, 1, 29, 30, 31, 32, 33, 34] (by decide +kernel) (by decide +kernel)
set_option maxRecDepth 20000 in
theorem gX3_told_X3_fail : GoodIn wsX3_told (wsV RX3 45 RX3 yX3_fail wsX3_fail) := goodIn_app (goodIn_of _ (by decide +kernel)) ggX3_told_X3_fail
theorem dX3_told_0 : decode cX3_told 0 = .ok (.aload_n 0, 1) := by decide +kernel
theorem dX3_told_1 : decode cX3_told 1 = .ok (.iconst 0, 1) := by decide +kernel
theorem dX3_told_2 : decode cX3_told 2 = .ok (.putfield 27, 3) := by decide +kernel
theorem dX3_told_5 : decode cX3_told 5 = .ok (.iload_n 1, 1) := by decide +kernel
theorem dX3_told_6 : decode cX3_told 6 = .ok (.invokestatic 91, 3) := by decide +kernel
theorem dX3_told_9 : decode cX3_told 9 = .ok (.ifCond .eq 21, 3) := by decide +kernel
theorem dX3_told_12 : decode cX3_told 12 = .ok (.iload_n 2, 1) := by decide +kernel
theorem dX3_told_13 : decode cX3_told 13 = .ok (.iconst 0, 1) := by decide +kernel
theorem dX3_told_14 : decode cX3_told 14 = .ok (.iconst 4, 1) := by decide +kernel
theorem dX3_told_15 : decode cX3_told 15 = .ok (.invokestatic 31, 3) := by decide +kernel
theorem dX3_told_18 : decode cX3_told 18 = .ok (.ifCond .eq 12, 3) := by decide +kernel
theorem dX3_told_21 : decode cX3_told 21 = .ok (.aload_n 0, 1) := by decide +kernel
theorem dX3_told_22 : decode cX3_told 22 = .ok (.iload_n 1, 1) := by decide +kernel
theorem dX3_told_23 : decode cX3_told 23 = .ok (.iload_n 2, 1) := by decide +kernel
theorem dX3_told_24 : decode cX3_told 24 = .ok (.invokevirtual 100, 3) := by decide +kernel
theorem dX3_told_27 : decode cX3_told 27 = .ok (.goto 8, 3) := by decide +kernel
theorem dX3_told_30 : decode cX3_told 30 = .ok (.aload_n 0, 1) := by decide +kernel
theorem dX3_told_31 : decode cX3_told 31 = .ok (.iconst 1, 1) := by decide +kernel
theorem dX3_told_32 : decode cX3_told 32 = .ok (.invokevirtual 45, 3) := by decide +kernel
theorem dX3_told_35 : decode cX3_told 35 = .ok (.ireturn, 1) := by decide +kernel
set_option maxRecDepth 20000 in
theorem ggX3_row_X3_isIn : GoodIn wsX3_row wsX3_isIn := goodIn_r _ [7] (by decide +kernel) (by decide +kernel)
set_option maxRecDepth 20000 in
theorem gX3_row_X3_isIn : GoodIn wsX3_row (va_wsS RX3 31 yX3_isIn wsX3_isIn) := goodIn_app (goodIn_of _ (by decide +kernel)) ggX3_row_X3_isIn
set_option maxRecDepth 20000 in
theorem ggX3_row_X3_fail : GoodIn wsX3_row wsX3_fail := goodIn_r _ [11, 1, 12, 13, 14, 15, 16, 17] (by decide +kernel) (by decide +kernel)
set_option maxRecDepth 20000 in
theorem gX3_row_X3_fail : GoodIn wsX3_row (wsV RX3 45 RX3 yX3_fail wsX3_fail) := goodIn_app (goodIn_of _ (by decide +kernel)) ggX3_row_X3_fail
theorem dX3_row_0 : decode cX3_row 0 = .ok (.aload_n 0, 1) := by decide +kernel
theorem dX3_row_1 : decode cX3_row 1 = .ok (.iconst 0, 1) := by decide +kernel
theorem dX3_row_2 : decode cX3_row 2 = .ok (.putfield 27, 3) := by decide +kernel
theorem dX3_row_5 : decode cX3_row 5 = .ok (.iload_n 1, 1) := by decide +kernel
theorem dX3_row_6 : decode cX3_row 6 = .ok (.iconst 1, 1) := by decide +kernel
theorem dX3_row_7 : decode cX3_row 7 = .ok (.bipush 6, 2) := by decide +kernel
theorem dX3_row_9 : decode cX3_row 9 = .ok (.invokestatic 31, 3) := by decide +kernel
theorem dX3_row_12 : decode cX3_row 12 = .ok (.ifCond .eq 30, 3) := by decide +kernel
theorem dX3_row_15 : decode cX3_row 15 = .ok (.iload_n 2, 1) := by decide +kernel
theorem dX3_row_16 : decode cX3_row 16 = .ok (.iconst 0, 1) := by decide +kernel
theorem dX3_row_17 : decode cX3_row 17 = .ok (.aload_n 0, 1) := by decide +kernel
theorem dX3_row_18 : decode cX3_row 18 = .ok (.getfield 14, 3) := by decide +kernel
theorem dX3_row_21 : decode cX3_row 21 = .ok (.iload_n 1, 1) := by decide +kernel
theorem dX3_row_22 : decode cX3_row 22 = .ok (.iaload, 1) := by decide +kernel
theorem dX3_row_23 : decode cX3_row 23 = .ok (.iconst 1, 1) := by decide +kernel
theorem dX3_row_24 : decode cX3_row 24 = .ok (.isub, 1) := by decide +kernel
theorem dX3_row_25 : decode cX3_row 25 = .ok (.invokestatic 31, 3) := by decide +kernel
theorem dX3_row_28 : decode cX3_row 28 = .ok (.ifCond .eq 14, 3) := by decide +kernel
theorem dX3_row_31 : decode cX3_row 31 = .ok (.aload_n 0, 1) := by decide +kernel
theorem dX3_row_32 : decode cX3_row 32 = .ok (.getfield 11, 3) := by decide +kernel
theorem dX3_row_35 : decode cX3_row 35 = .ok (.iload_n 1, 1) := by decide +kernel
theorem dX3_row_36 : decode cX3_row 36 = .ok (.aaload, 1) := by decide +kernel
theorem dX3_row_37 : decode cX3_row 37 = .ok (.iload_n 2, 1) := by decide +kernel
theorem dX3_row_38 : decode cX3_row 38 = .ok (.iaload, 1) := by decide +kernel
theorem dX3_row_39 : decode cX3_row 39 = .ok (.goto 8, 3) := by decide +kernel
theorem dX3_row_42 : decode cX3_row 42 = .ok (.aload_n 0, 1) := by decide +kernel
theorem dX3_row_43 : decode cX3_row 43 = .ok (.iconst 1, 1) := by decide +kernel
theorem dX3_row_44 : decode cX3_row 44 = .ok (.invokevirtual 45, 3) := by decide +kernel
theorem dX3_row_47 : decode cX3_row 47 = .ok (.ireturn, 1) := by decide +kernel
theorem dX3_counted_0 : decode cX3_counted 0 = .ok (.iload_n 1, 1) := by decide +kernel
theorem dX3_counted_1 : decode cX3_counted 1 = .ok (.ifCond .ne 12, 3) := by decide +kernel
theorem dX3_counted_4 : decode cX3_counted 4 = .ok (.aload_n 0, 1) := by decide +kernel
theorem dX3_counted_5 : decode cX3_counted 5 = .ok (.getfield 18, 3) := by decide +kernel
theorem dX3_counted_8 : decode cX3_counted 8 = .ok (.iconst 0, 1) := by decide +kernel
theorem dX3_counted_9 : decode cX3_counted 9 = .ok (.iaload, 1) := by decide +kernel
theorem dX3_counted_10 : decode cX3_counted 10 = .ok (.goto 27, 3) := by decide +kernel
theorem dX3_counted_13 : decode cX3_counted 13 = .ok (.iload_n 1, 1) := by decide +kernel
theorem dX3_counted_14 : decode cX3_counted 14 = .ok (.bipush 7, 2) := by decide +kernel
theorem dX3_counted_16 : decode cX3_counted 16 = .ok (.if_icmp .ge 12, 3) := by decide +kernel
theorem dX3_counted_19 : decode cX3_counted 19 = .ok (.aload_n 0, 1) := by decide +kernel
theorem dX3_counted_20 : decode cX3_counted 20 = .ok (.getfield 14, 3) := by decide +kernel
theorem dX3_counted_23 : decode cX3_counted 23 = .ok (.iload_n 1, 1) := by decide +kernel
theorem dX3_counted_24 : decode cX3_counted 24 = .ok (.iaload, 1) := by decide +kernel
theorem dX3_counted_25 : decode cX3_counted 25 = .ok (.goto 12, 3) := by decide +kernel
theorem dX3_counted_28 : decode cX3_counted 28 = .ok (.aload_n 0, 1) := by decide +kernel
theorem dX3_counted_29 : decode cX3_counted 29 = .ok (.getfield 18, 3) := by decide +kernel
theorem dX3_counted_32 : decode cX3_counted 32 = .ok (.iload_n 1, 1) := by decide +kernel
theorem dX3_counted_33 : decode cX3_counted 33 = .ok (.bipush 6, 2) := by decide +kernel
theorem dX3_counted_35 : decode cX3_counted 35 = .ok (.isub, 1) := by decide +kernel
theorem dX3_counted_36 : decode cX3_counted 36 = .ok (.iaload, 1) := by decide +kernel
theorem dX3_counted_37 : decode cX3_counted 37 = .ok (.ireturn, 1) := by decide +kernel
set_option maxRecDepth 20000 in
theorem ggX3_count_X3_isIn : GoodIn wsX3_count wsX3_isIn := goodIn_r _ [5] (by decide +kernel) (by decide +kernel)
set_option maxRecDepth 20000 in
theorem gX3_count_X3_isIn : GoodIn wsX3_count (va_wsS RX3 31 yX3_isIn wsX3_isIn) := goodIn_app (goodIn_of _ (by decide +kernel)) ggX3_count_X3_isIn
set_option maxRecDepth 20000 in
theorem ggX3_count_X3_counted : GoodIn wsX3_count wsX3_counted := goodIn_r _ [9, 10, 11, 16, 17, 18, 19, 20, 21] (by decide +kernel) (by decide +kernel)
set_option maxRecDepth 20000 in
theorem gX3_count_X3_counted : GoodIn wsX3_count (wsV RX3 103 RX3 yX3_counted wsX3_counted) := goodIn_app (goodIn_of _ (by decide +kernel)) ggX3_count_X3_counted
set_option maxRecDepth 20000 in
theorem ggX3_count_X3_fail : GoodIn wsX3_count wsX3_fail := goodIn_r _ [15, 1, 16, 17, 18, 19, 20, 21] (by decide +kernel) (by decide +kernel)
set_option maxRecDepth 20000 in
theorem gX3_count_X3_fail : GoodIn wsX3_count (wsV RX3 45 RX3 yX3_fail wsX3_fail) := goodIn_app (goodIn_of _ (by decide +kernel)) ggX3_count_X3_fail
theorem dX3_count_0 : decode cX3_count 0 = .ok (.aload_n 0, 1) := by decide +kernel
theorem dX3_count_1 : decode cX3_count 1 = .ok (.iconst 0, 1) := by decide +kernel
theorem dX3_count_2 : decode cX3_count 2 = .ok (.putfield 27, 3) := by decide +kernel
theorem dX3_count_5 : decode cX3_count 5 = .ok (.iload_n 1, 1) := by decide +kernel
theorem dX3_count_6 : decode cX3_count 6 = .ok (.iconst 0, 1) := by decide +kernel
theorem dX3_count_7 : decode cX3_count 7 = .ok (.bipush 11, 2) := by decide +kernel
theorem dX3_count_9 : decode cX3_count 9 = .ok (.invokestatic 31, 3) := by decide +kernel
theorem dX3_count_12 : decode cX3_count 12 = .ok (.ifCond .eq 11, 3) := by decide +kernel
theorem dX3_count_15 : decode cX3_count 15 = .ok (.aload_n 0, 1) := by decide +kernel
theorem dX3_count_16 : decode cX3_count 16 = .ok (.iload_n 1, 1) := by decide +kernel
theorem dX3_count_17 : decode cX3_count 17 = .ok (.invokevirtual 103, 3) := by decide +kernel
theorem dX3_count_20 : decode cX3_count 20 = .ok (.goto 8, 3) := by decide +kernel
theorem dX3_count_23 : decode cX3_count 23 = .ok (.aload_n 0, 1) := by decide +kernel
theorem dX3_count_24 : decode cX3_count 24 = .ok (.iconst 1, 1) := by decide +kernel
theorem dX3_count_25 : decode cX3_count 25 = .ok (.invokevirtual 45, 3) := by decide +kernel
theorem dX3_count_28 : decode cX3_count 28 = .ok (.ireturn, 1) := by decide +kernel
theorem dX3_kept_0 : decode cX3_kept 0 = .ok (.bipush 10, 2) := by decide +kernel
theorem dX3_kept_2 : decode cX3_kept 2 = .ok (.anewarray 106, 3) := by decide +kernel
theorem dX3_kept_5 : decode cX3_kept 5 = .ok (.astore_n 1, 1) := by decide +kernel
theorem dX3_kept_6 : decode cX3_kept 6 = .ok (.iconst 1, 1) := by decide +kernel
theorem dX3_kept_7 : decode cX3_kept 7 = .ok (.istore_n 2, 1) := by decide +kernel
theorem dX3_kept_8 : decode cX3_kept 8 = .ok (.iload_n 2, 1) := by decide +kernel
theorem dX3_kept_9 : decode cX3_kept 9 = .ok (.bipush 7, 2) := by decide +kernel
theorem dX3_kept_11 : decode cX3_kept 11 = .ok (.if_icmp .ge 24, 3) := by decide +kernel
theorem dX3_kept_14 : decode cX3_kept 14 = .ok (.aload_n 1, 1) := by decide +kernel
theorem dX3_kept_15 : decode cX3_kept 15 = .ok (.iload_n 2, 1) := by decide +kernel
theorem dX3_kept_16 : decode cX3_kept 16 = .ok (.aload_n 0, 1) := by decide +kernel
theorem dX3_kept_17 : decode cX3_kept 17 = .ok (.getfield 11, 3) := by decide +kernel
theorem dX3_kept_20 : decode cX3_kept 20 = .ok (.iload_n 2, 1) := by decide +kernel
theorem dX3_kept_21 : decode cX3_kept 21 = .ok (.aaload, 1) := by decide +kernel
theorem dX3_kept_22 : decode cX3_kept 22 = .ok (.invokevirtual 107, 3) := by decide +kernel
theorem dX3_kept_25 : decode cX3_kept 25 = .ok (.checkcast 106, 3) := by decide +kernel
theorem dX3_kept_28 : decode cX3_kept 28 = .ok (.aastore, 1) := by decide +kernel
theorem dX3_kept_29 : decode cX3_kept 29 = .ok (.iinc 2 1, 3) := by decide +kernel
theorem dX3_kept_32 : decode cX3_kept 32 = .ok (.goto (-24), 3) := by decide +kernel
theorem dX3_kept_35 : decode cX3_kept 35 = .ok (.aload_n 1, 1) := by decide +kernel
theorem dX3_kept_36 : decode cX3_kept 36 = .ok (.iconst 0, 1) := by decide +kernel
theorem dX3_kept_37 : decode cX3_kept 37 = .ok (.aload_n 0, 1) := by decide +kernel
theorem dX3_kept_38 : decode cX3_kept 38 = .ok (.getfield 14, 3) := by decide +kernel
theorem dX3_kept_41 : decode cX3_kept 41 = .ok (.invokevirtual 107, 3) := by decide +kernel
theorem dX3_kept_44 : decode cX3_kept 44 = .ok (.checkcast 106, 3) := by decide +kernel
theorem dX3_kept_47 : decode cX3_kept 47 = .ok (.aastore, 1) := by decide +kernel
theorem dX3_kept_48 : decode cX3_kept 48 = .ok (.aload_n 1, 1) := by decide +kernel
theorem dX3_kept_49 : decode cX3_kept 49 = .ok (.bipush 7, 2) := by decide +kernel
theorem dX3_kept_51 : decode cX3_kept 51 = .ok (.aload_n 0, 1) := by decide +kernel
theorem dX3_kept_52 : decode cX3_kept 52 = .ok (.getfield 18, 3) := by decide +kernel
theorem dX3_kept_55 : decode cX3_kept 55 = .ok (.invokevirtual 107, 3) := by decide +kernel
theorem dX3_kept_58 : decode cX3_kept 58 = .ok (.checkcast 106, 3) := by decide +kernel
theorem dX3_kept_61 : decode cX3_kept 61 = .ok (.aastore, 1) := by decide +kernel
theorem dX3_kept_62 : decode cX3_kept 62 = .ok (.aload_n 1, 1) := by decide +kernel
theorem dX3_kept_63 : decode cX3_kept 63 = .ok (.bipush 8, 2) := by decide +kernel
theorem dX3_kept_65 : decode cX3_kept 65 = .ok (.aload_n 0, 1) := by decide +kernel
theorem dX3_kept_66 : decode cX3_kept 66 = .ok (.getfield 21, 3) := by decide +kernel
theorem dX3_kept_69 : decode cX3_kept 69 = .ok (.invokevirtual 107, 3) := by decide +kernel
theorem dX3_kept_72 : decode cX3_kept 72 = .ok (.checkcast 106, 3) := by decide +kernel
theorem dX3_kept_75 : decode cX3_kept 75 = .ok (.aastore, 1) := by decide +kernel
theorem dX3_kept_76 : decode cX3_kept 76 = .ok (.aload_n 1, 1) := by decide +kernel
theorem dX3_kept_77 : decode cX3_kept 77 = .ok (.bipush 9, 2) := by decide +kernel
theorem dX3_kept_79 : decode cX3_kept 79 = .ok (.aload_n 0, 1) := by decide +kernel
theorem dX3_kept_80 : decode cX3_kept 80 = .ok (.getfield 24, 3) := by decide +kernel
theorem dX3_kept_83 : decode cX3_kept 83 = .ok (.invokevirtual 107, 3) := by decide +kernel
theorem dX3_kept_86 : decode cX3_kept 86 = .ok (.checkcast 106, 3) := by decide +kernel
theorem dX3_kept_89 : decode cX3_kept 89 = .ok (.aastore, 1) := by decide +kernel
theorem dX3_kept_90 : decode cX3_kept 90 = .ok (.aload_n 1, 1) := by decide +kernel
theorem dX3_kept_91 : decode cX3_kept 91 = .ok (.areturn, 1) := by decide +kernel
theorem dX3_bringBack_0 : decode cX3_bringBack 0 = .ok (.iconst 1, 1) := by decide +kernel
theorem dX3_bringBack_1 : decode cX3_bringBack 1 = .ok (.istore_n 2, 1) := by decide +kernel
theorem dX3_bringBack_2 : decode cX3_bringBack 2 = .ok (.iload_n 2, 1) := by decide +kernel
theorem dX3_bringBack_3 : decode cX3_bringBack 3 = .ok (.bipush 7, 2) := by decide +kernel
theorem dX3_bringBack_5 : decode cX3_bringBack 5 = .ok (.if_icmp .ge 25, 3) := by decide +kernel
theorem dX3_bringBack_8 : decode cX3_bringBack 8 = .ok (.aload_n 1, 1) := by decide +kernel
theorem dX3_bringBack_9 : decode cX3_bringBack 9 = .ok (.iload_n 2, 1) := by decide +kernel
theorem dX3_bringBack_10 : decode cX3_bringBack 10 = .ok (.aaload, 1) := by decide +kernel
theorem dX3_bringBack_11 : decode cX3_bringBack 11 = .ok (.iconst 0, 1) := by decide +kernel
theorem dX3_bringBack_12 : decode cX3_bringBack 12 = .ok (.aload_n 0, 1) := by decide +kernel
theorem dX3_bringBack_13 : decode cX3_bringBack 13 = .ok (.getfield 11, 3) := by decide +kernel
theorem dX3_bringBack_16 : decode cX3_bringBack 16 = .ok (.iload_n 2, 1) := by decide +kernel
theorem dX3_bringBack_17 : decode cX3_bringBack 17 = .ok (.aaload, 1) := by decide +kernel
theorem dX3_bringBack_18 : decode cX3_bringBack 18 = .ok (.iconst 0, 1) := by decide +kernel
theorem dX3_bringBack_19 : decode cX3_bringBack 19 = .ok (.bipush 31, 2) := by decide +kernel
theorem dX3_bringBack_21 : decode cX3_bringBack 21 = .ok (.invokestatic 39, 3) := by decide +kernel
theorem dX3_bringBack_24 : decode cX3_bringBack 24 = .ok (.iinc 2 1, 3) := by decide +kernel
theorem dX3_bringBack_27 : decode cX3_bringBack 27 = .ok (.goto (-25), 3) := by decide +kernel
theorem dX3_bringBack_30 : decode cX3_bringBack 30 = .ok (.aload_n 1, 1) := by decide +kernel
theorem dX3_bringBack_31 : decode cX3_bringBack 31 = .ok (.iconst 0, 1) := by decide +kernel
theorem dX3_bringBack_32 : decode cX3_bringBack 32 = .ok (.aaload, 1) := by decide +kernel
theorem dX3_bringBack_33 : decode cX3_bringBack 33 = .ok (.iconst 0, 1) := by decide +kernel
theorem dX3_bringBack_34 : decode cX3_bringBack 34 = .ok (.aload_n 0, 1) := by decide +kernel
theorem dX3_bringBack_35 : decode cX3_bringBack 35 = .ok (.getfield 14, 3) := by decide +kernel
theorem dX3_bringBack_38 : decode cX3_bringBack 38 = .ok (.iconst 0, 1) := by decide +kernel
theorem dX3_bringBack_39 : decode cX3_bringBack 39 = .ok (.bipush 7, 2) := by decide +kernel
theorem dX3_bringBack_41 : decode cX3_bringBack 41 = .ok (.invokestatic 39, 3) := by decide +kernel
theorem dX3_bringBack_44 : decode cX3_bringBack 44 = .ok (.aload_n 1, 1) := by decide +kernel
theorem dX3_bringBack_45 : decode cX3_bringBack 45 = .ok (.bipush 7, 2) := by decide +kernel
theorem dX3_bringBack_47 : decode cX3_bringBack 47 = .ok (.aaload, 1) := by decide +kernel
theorem dX3_bringBack_48 : decode cX3_bringBack 48 = .ok (.iconst 0, 1) := by decide +kernel
theorem dX3_bringBack_49 : decode cX3_bringBack 49 = .ok (.aload_n 0, 1) := by decide +kernel
theorem dX3_bringBack_50 : decode cX3_bringBack 50 = .ok (.getfield 18, 3) := by decide +kernel
theorem dX3_bringBack_53 : decode cX3_bringBack 53 = .ok (.iconst 0, 1) := by decide +kernel
theorem dX3_bringBack_54 : decode cX3_bringBack 54 = .ok (.bipush 6, 2) := by decide +kernel
theorem dX3_bringBack_56 : decode cX3_bringBack 56 = .ok (.invokestatic 39, 3) := by decide +kernel
theorem dX3_bringBack_59 : decode cX3_bringBack 59 = .ok (.aload_n 1, 1) := by decide +kernel
theorem dX3_bringBack_60 : decode cX3_bringBack 60 = .ok (.bipush 8, 2) := by decide +kernel
theorem dX3_bringBack_62 : decode cX3_bringBack 62 = .ok (.aaload, 1) := by decide +kernel
theorem dX3_bringBack_63 : decode cX3_bringBack 63 = .ok (.iconst 0, 1) := by decide +kernel
theorem dX3_bringBack_64 : decode cX3_bringBack 64 = .ok (.aload_n 0, 1) := by decide +kernel
theorem dX3_bringBack_65 : decode cX3_bringBack 65 = .ok (.getfield 21, 3) := by decide +kernel
theorem dX3_bringBack_68 : decode cX3_bringBack 68 = .ok (.iconst 0, 1) := by decide +kernel
theorem dX3_bringBack_69 : decode cX3_bringBack 69 = .ok (.bipush 30, 2) := by decide +kernel
theorem dX3_bringBack_71 : decode cX3_bringBack 71 = .ok (.invokestatic 39, 3) := by decide +kernel
theorem dX3_bringBack_74 : decode cX3_bringBack 74 = .ok (.aload_n 1, 1) := by decide +kernel
theorem dX3_bringBack_75 : decode cX3_bringBack 75 = .ok (.bipush 9, 2) := by decide +kernel
theorem dX3_bringBack_77 : decode cX3_bringBack 77 = .ok (.aaload, 1) := by decide +kernel
theorem dX3_bringBack_78 : decode cX3_bringBack 78 = .ok (.iconst 0, 1) := by decide +kernel
theorem dX3_bringBack_79 : decode cX3_bringBack 79 = .ok (.aload_n 0, 1) := by decide +kernel
theorem dX3_bringBack_80 : decode cX3_bringBack 80 = .ok (.getfield 24, 3) := by decide +kernel
theorem dX3_bringBack_83 : decode cX3_bringBack 83 = .ok (.iconst 0, 1) := by decide +kernel
theorem dX3_bringBack_84 : decode cX3_bringBack 84 = .ok (.bipush 30, 2) := by decide +kernel
theorem dX3_bringBack_86 : decode cX3_bringBack 86 = .ok (.invokestatic 39, 3) := by decide +kernel
theorem dX3_bringBack_89 : decode cX3_bringBack 89 = .ok (.return_, 1) := by decide +kernel
set_option maxRecDepth 20000 in
theorem ggX3_leaves_X3_isJar : GoodIn wsX3_leaves wsX3_isJar := goodIn_r _ [5, 6, 7, 4, 8] (by decide +kernel) (by decide +kernel)
set_option maxRecDepth 20000 in
theorem gX3_leaves_X3_isJar : GoodIn wsX3_leaves (va_wsS RX3 91 yX3_isJar wsX3_isJar) := goodIn_app (goodIn_of _ (by decide +kernel)) ggX3_leaves_X3_isJar
set_option maxRecDepth 20000 in
theorem ggX3_leaves_X3_fail : GoodIn wsX3_leaves wsX3_fail := goodIn_r _ [12, 1, 86, 87, 88, 89, 90, 91] (by decide +kernel) (by decide +kernel)
set_option maxRecDepth 20000 in
theorem gX3_leaves_X3_fail : GoodIn wsX3_leaves (wsV RX3 45 RX3 yX3_fail wsX3_fail) := goodIn_app (goodIn_of _ (by decide +kernel)) ggX3_leaves_X3_fail
set_option maxRecDepth 20000 in
theorem ggX3_leaves_X3_kept : GoodIn wsX3_leaves wsX3_kept := goodIn_r _ [16, 17, 18, 19, 20, 21, 22, 23, 24, 25, 26, 27, 86, 87, 88, 89, 90, 91] (by decide +kernel) (by decide +kernel)
set_option maxRecDepth 20000 in
theorem gX3_leaves_X3_kept : GoodIn wsX3_leaves (wsV RX3 111 RX3 yX3_kept wsX3_kept) := goodIn_app (goodIn_of _ (by decide +kernel)) ggX3_leaves_X3_kept
set_option maxRecDepth 20000 in
theorem ggX3_leaves_X3_asked : GoodIn wsX3_leaves wsX3_asked := goodIn_r _ [31, 25, 26, 27, 24, 32, 33, 34, 35, 36, 37, 38, 4, 39, 40, 41, 42, 43, 18, 44, 45, 46, 47, 48, 49, 50, 51, 52, 53, 54, 55, 56, 57, 58, 59, 60, 61, 62, 63, 64, 65, 66, 67, 68, 69, 70, 71, 72, 73, 74, 75, 76, 77, 78, 79, 80, 81, 86, 87, 88, 89, 90, 91] (by decide +kernel) (by decide +kernel)
set_option maxRecDepth 20000 in
theorem gX3_leaves_X3_asked : GoodIn wsX3_leaves (wsV RX3 94 RX3 yX3_asked wsX3_asked) := goodIn_app (goodIn_of _ (by decide +kernel)) ggX3_leaves_X3_asked
set_option maxRecDepth 20000 in
theorem ggX3_leaves_X3_where : GoodIn wsX3_leaves wsX3_where := goodIn_r _ [39, 40, 41, 42, 4, 43, 24, 18, 86, 87, 88, 89, 90, 91] (by decide +kernel) (by decide +kernel)
set_option maxRecDepth 20000 in
theorem gX3_leaves_X3_where : GoodIn wsX3_leaves (wsV RX3 78 RX3 yX3_where wsX3_where) := goodIn_app (goodIn_of _ (by decide +kernel)) ggX3_leaves_X3_where
set_option maxRecDepth 20000 in
theorem ggX3_leaves_X3_isIn : GoodIn wsX3_leaves wsX3_isIn := goodIn_r _ [8] (by decide +kernel) (by decide +kernel)
set_option maxRecDepth 20000 in
theorem gX3_leaves_X3_isIn : GoodIn wsX3_leaves (va_wsS RX3 31 yX3_isIn wsX3_isIn) := goodIn_app (goodIn_of _ (by decide +kernel)) ggX3_leaves_X3_isIn
set_option maxRecDepth 20000 in
theorem ggX3_leaves_X3_bringBack : GoodIn wsX3_leaves wsX3_bringBack := goodIn_r _ [85, 18, 52, 53, 54, 55, 24, 25, 26, 27, 86, 87, 88, 89, 90, 91] (by decide +kernel) (by decide +kernel)
set_option maxRecDepth 20000 in
theorem gX3_leaves_X3_bringBack : GoodIn wsX3_leaves (wsV RX3 115 RX3 yX3_bringBack wsX3_bringBack) := goodIn_app (goodIn_of _ (by decide +kernel)) ggX3_leaves_X3_bringBack
theorem dX3_leaves_0 : decode cX3_leaves 0 = .ok (.aload_n 0, 1) := by decide +kernel
theorem dX3_leaves_1 : decode cX3_leaves 1 = .ok (.iconst 0, 1) := by decide +kernel
theorem dX3_leaves_2 : decode cX3_leaves 2 = .ok (.putfield 27, 3) := by decide +kernel
theorem dX3_leaves_5 : decode cX3_leaves 5 = .ok (.iload_n 1, 1) := by decide +kernel
theorem dX3_leaves_6 : decode cX3_leaves 6 = .ok (.invokestatic 91, 3) := by decide +kernel
theorem dX3_leaves_9 : decode cX3_leaves 9 = .ok (.ifCond .ne 9, 3) := by decide +kernel
theorem dX3_leaves_12 : decode cX3_leaves 12 = .ok (.aload_n 0, 1) := by decide +kernel
theorem dX3_leaves_13 : decode cX3_leaves 13 = .ok (.iconst 1, 1) := by decide +kernel
theorem dX3_leaves_14 : decode cX3_leaves 14 = .ok (.invokevirtual 45, 3) := by decide +kernel
theorem dX3_leaves_17 : decode cX3_leaves 17 = .ok (.ireturn, 1) := by decide +kernel
theorem dX3_leaves_18 : decode cX3_leaves 18 = .ok (.aload_n 0, 1) := by decide +kernel
theorem dX3_leaves_19 : decode cX3_leaves 19 = .ok (.invokevirtual 111, 3) := by decide +kernel
theorem dX3_leaves_22 : decode cX3_leaves 22 = .ok (.astore_n 2, 1) := by decide +kernel
theorem dX3_leaves_23 : decode cX3_leaves 23 = .ok (.aload_n 0, 1) := by decide +kernel
theorem dX3_leaves_24 : decode cX3_leaves 24 = .ok (.iload_n 1, 1) := by decide +kernel
theorem dX3_leaves_25 : decode cX3_leaves 25 = .ok (.invokevirtual 94, 3) := by decide +kernel
theorem dX3_leaves_28 : decode cX3_leaves 28 = .ok (.pop, 1) := by decide +kernel
theorem dX3_leaves_29 : decode cX3_leaves 29 = .ok (.iconst (-1), 1) := by decide +kernel
theorem dX3_leaves_30 : decode cX3_leaves 30 = .ok (.istore_n 3, 1) := by decide +kernel
theorem dX3_leaves_31 : decode cX3_leaves 31 = .ok (.iconst 1, 1) := by decide +kernel
theorem dX3_leaves_32 : decode cX3_leaves 32 = .ok (.istore 4, 2) := by decide +kernel
theorem dX3_leaves_34 : decode cX3_leaves 34 = .ok (.iload 4, 2) := by decide +kernel
theorem dX3_leaves_36 : decode cX3_leaves 36 = .ok (.iconst 2, 1) := by decide +kernel
theorem dX3_leaves_37 : decode cX3_leaves 37 = .ok (.if_icmp .gt 56, 3) := by decide +kernel
theorem dX3_leaves_40 : decode cX3_leaves 40 = .ok (.iconst 0, 1) := by decide +kernel
theorem dX3_leaves_41 : decode cX3_leaves 41 = .ok (.istore 5, 2) := by decide +kernel
theorem dX3_leaves_43 : decode cX3_leaves 43 = .ok (.iload 5, 2) := by decide +kernel
theorem dX3_leaves_45 : decode cX3_leaves 45 = .ok (.aload_n 2, 1) := by decide +kernel
theorem dX3_leaves_46 : decode cX3_leaves 46 = .ok (.iconst 0, 1) := by decide +kernel
theorem dX3_leaves_47 : decode cX3_leaves 47 = .ok (.aaload, 1) := by decide +kernel
theorem dX3_leaves_48 : decode cX3_leaves 48 = .ok (.iload 4, 2) := by decide +kernel
theorem dX3_leaves_50 : decode cX3_leaves 50 = .ok (.iaload, 1) := by decide +kernel
theorem dX3_leaves_51 : decode cX3_leaves 51 = .ok (.if_icmp .ge 36, 3) := by decide +kernel
theorem dX3_leaves_54 : decode cX3_leaves 54 = .ok (.aload_n 0, 1) := by decide +kernel
theorem dX3_leaves_55 : decode cX3_leaves 55 = .ok (.aload_n 2, 1) := by decide +kernel
theorem dX3_leaves_56 : decode cX3_leaves 56 = .ok (.iload 4, 2) := by decide +kernel
theorem dX3_leaves_58 : decode cX3_leaves 58 = .ok (.aaload, 1) := by decide +kernel
theorem dX3_leaves_59 : decode cX3_leaves 59 = .ok (.iload 5, 2) := by decide +kernel
theorem dX3_leaves_61 : decode cX3_leaves 61 = .ok (.iaload, 1) := by decide +kernel
theorem dX3_leaves_62 : decode cX3_leaves 62 = .ok (.invokevirtual 78, 3) := by decide +kernel
theorem dX3_leaves_65 : decode cX3_leaves 65 = .ok (.iconst 1, 1) := by decide +kernel
theorem dX3_leaves_66 : decode cX3_leaves 66 = .ok (.iconst 2, 1) := by decide +kernel
theorem dX3_leaves_67 : decode cX3_leaves 67 = .ok (.invokestatic 31, 3) := by decide +kernel
theorem dX3_leaves_70 : decode cX3_leaves 70 = .ok (.ifCond .ne 11, 3) := by decide +kernel
theorem dX3_leaves_73 : decode cX3_leaves 73 = .ok (.aload_n 2, 1) := by decide +kernel
theorem dX3_leaves_74 : decode cX3_leaves 74 = .ok (.iload 4, 2) := by decide +kernel
theorem dX3_leaves_76 : decode cX3_leaves 76 = .ok (.aaload, 1) := by decide +kernel
theorem dX3_leaves_77 : decode cX3_leaves 77 = .ok (.iload 5, 2) := by decide +kernel
theorem dX3_leaves_79 : decode cX3_leaves 79 = .ok (.iaload, 1) := by decide +kernel
theorem dX3_leaves_80 : decode cX3_leaves 80 = .ok (.istore_n 3, 1) := by decide +kernel
theorem dX3_leaves_81 : decode cX3_leaves 81 = .ok (.iinc 5 1, 3) := by decide +kernel
theorem dX3_leaves_84 : decode cX3_leaves 84 = .ok (.goto (-41), 3) := by decide +kernel
theorem dX3_leaves_87 : decode cX3_leaves 87 = .ok (.iinc 4 1, 3) := by decide +kernel
theorem dX3_leaves_90 : decode cX3_leaves 90 = .ok (.goto (-56), 3) := by decide +kernel
theorem dX3_leaves_93 : decode cX3_leaves 93 = .ok (.aload_n 0, 1) := by decide +kernel
theorem dX3_leaves_94 : decode cX3_leaves 94 = .ok (.aload_n 2, 1) := by decide +kernel
theorem dX3_leaves_95 : decode cX3_leaves 95 = .ok (.invokevirtual 115, 3) := by decide +kernel
theorem dX3_leaves_98 : decode cX3_leaves 98 = .ok (.iload_n 3, 1) := by decide +kernel
theorem dX3_leaves_99 : decode cX3_leaves 99 = .ok (.ireturn, 1) := by decide +kernel
set_option maxRecDepth 20000 in
theorem ggX3_tried_X3_kept : GoodIn wsX3_tried wsX3_kept := goodIn_r _ [6, 7, 8, 9, 10, 11, 12, 13, 14, 1, 15, 16, 79, 80, 81, 82, 83, 84] (by decide +kernel) (by decide +kernel)
set_option maxRecDepth 20000 in
theorem gX3_tried_X3_kept : GoodIn wsX3_tried (wsV RX3 111 RX3 yX3_kept wsX3_kept) := goodIn_app (goodIn_of _ (by decide +kernel)) ggX3_tried_X3_kept
set_option maxRecDepth 20000 in
theorem ggX3_tried_X3_cookAll : GoodIn wsX3_tried wsX3_cookAll := goodIn_r _ [20, 14, 8, 21, 22, 23, 5, 24, 1, 15, 16, 25, 26, 27, 28, 29, 30, 31, 32, 33, 34, 35, 36, 37, 38, 39, 40, 41, 42, 43, 44, 45, 46, 47, 48, 49, 50, 51, 52, 53, 54, 55, 56, 57, 58, 59, 60, 61, 62, 63, 64, 65, 66, 67, 68, 69, 70, 71, 72, 73, 74, 79, 80, 81, 82, 83, 84] (by decide +kernel) (by decide +kernel)
set_option maxRecDepth 20000 in
theorem gX3_tried_X3_cookAll : GoodIn wsX3_tried (wsV RX3 97 RX3 yX3_cookAll wsX3_cookAll) := goodIn_app (goodIn_of _ (by decide +kernel)) ggX3_tried_X3_cookAll
set_option maxRecDepth 20000 in
theorem ggX3_tried_X3_bringBack : GoodIn wsX3_tried wsX3_bringBack := goodIn_r _ [78, 8, 45, 46, 47, 48, 14, 1, 15, 16, 79, 80, 81, 82, 83, 84] (by decide +kernel) (by decide +kernel)
set_option maxRecDepth 20000 in
theorem gX3_tried_X3_bringBack : GoodIn wsX3_tried (wsV RX3 115 RX3 yX3_bringBack wsX3_bringBack) := goodIn_app (goodIn_of _ (by decide +kernel)) ggX3_tried_X3_bringBack
theorem dX3_tried_0 : decode cX3_tried 0 = .ok (.aload_n 0, 1) := by decide +kernel
theorem dX3_tried_1 : decode cX3_tried 1 = .ok (.invokevirtual 111, 3) := by decide +kernel
theorem dX3_tried_4 : decode cX3_tried 4 = .ok (.astore_n 3, 1) := by decide +kernel
theorem dX3_tried_5 : decode cX3_tried 5 = .ok (.aload_n 0, 1) := by decide +kernel
theorem dX3_tried_6 : decode cX3_tried 6 = .ok (.getfield 18, 3) := by decide +kernel
theorem dX3_tried_9 : decode cX3_tried 9 = .ok (.iload_n 2, 1) := by decide +kernel
theorem dX3_tried_10 : decode cX3_tried 10 = .ok (.iaload, 1) := by decide +kernel
theorem dX3_tried_11 : decode cX3_tried 11 = .ok (.istore 4, 2) := by decide +kernel
theorem dX3_tried_13 : decode cX3_tried 13 = .ok (.aload_n 0, 1) := by decide +kernel
theorem dX3_tried_14 : decode cX3_tried 14 = .ok (.iload_n 1, 1) := by decide +kernel
theorem dX3_tried_15 : decode cX3_tried 15 = .ok (.invokevirtual 97, 3) := by decide +kernel
theorem dX3_tried_18 : decode cX3_tried 18 = .ok (.aload_n 0, 1) := by decide +kernel
theorem dX3_tried_19 : decode cX3_tried 19 = .ok (.getfield 18, 3) := by decide +kernel
theorem dX3_tried_22 : decode cX3_tried 22 = .ok (.iload_n 2, 1) := by decide +kernel
theorem dX3_tried_23 : decode cX3_tried 23 = .ok (.iaload, 1) := by decide +kernel
theorem dX3_tried_24 : decode cX3_tried 24 = .ok (.iload 4, 2) := by decide +kernel
theorem dX3_tried_26 : decode cX3_tried 26 = .ok (.isub, 1) := by decide +kernel
theorem dX3_tried_27 : decode cX3_tried 27 = .ok (.istore 5, 2) := by decide +kernel
theorem dX3_tried_29 : decode cX3_tried 29 = .ok (.aload_n 0, 1) := by decide +kernel
theorem dX3_tried_30 : decode cX3_tried 30 = .ok (.aload_n 3, 1) := by decide +kernel
theorem dX3_tried_31 : decode cX3_tried 31 = .ok (.invokevirtual 115, 3) := by decide +kernel
theorem dX3_tried_34 : decode cX3_tried 34 = .ok (.iload 5, 2) := by decide +kernel
theorem dX3_tried_36 : decode cX3_tried 36 = .ok (.ireturn, 1) := by decide +kernel
set_option maxRecDepth 20000 in
theorem ggX3_foresee_X3_isIn : GoodIn wsX3_foresee wsX3_isIn := goodIn_r _ [5] (by decide +kernel) (by decide +kernel)
set_option maxRecDepth 20000 in
theorem gX3_foresee_X3_isIn : GoodIn wsX3_foresee (va_wsS RX3 31 yX3_isIn wsX3_isIn) := goodIn_app (goodIn_of _ (by decide +kernel)) ggX3_foresee_X3_isIn
set_option maxRecDepth 20000 in
theorem ggX3_foresee_X3_tried : GoodIn wsX3_foresee wsX3_tried := goodIn_r _ [9, 10, 11, 12, 13, 4, 14, 15, 16, 17, 18, 19, 20, 21, 22, 23, 24, 25, 26, 27, 28, 29, 30, 31, 32, 33, 34, 35, 36, 37, 38, 39, 40, 41, 42, 43, 44, 45, 46, 47, 48, 49, 50, 51, 52, 53, 54, 55, 56, 57, 58, 59, 60, 61, 62, 63, 64, 65, 66, 67, 68, 69, 70, 71, 72, 73, 74, 75, 76, 77, 78, 79, 80, 81, 82, 83, 84, 85, 86, 91, 92, 93, 94, 95, 96] (by decide +kernel) (by decide +kernel)
set_option maxRecDepth 20000 in
theorem gX3_foresee_X3_tried : GoodIn wsX3_foresee (wsV RX3 119 RX3 yX3_tried wsX3_tried) := goodIn_app (goodIn_of _ (by decide +kernel)) ggX3_foresee_X3_tried
set_option maxRecDepth 20000 in
theorem ggX3_foresee_X3_fail : GoodIn wsX3_foresee wsX3_fail := goodIn_r _ [90, 1, 91, 92, 93, 94, 95, 96] (by decide +kernel) (by decide +kernel)
set_option maxRecDepth 20000 in
theorem gX3_foresee_X3_fail : GoodIn wsX3_foresee (wsV RX3 45 RX3 yX3_fail wsX3_fail) := goodIn_app (goodIn_of _ (by decide +kernel)) ggX3_foresee_X3_fail
theorem dX3_foresee_0 : decode cX3_foresee 0 = .ok (.aload_n 0, 1) := by decide +kernel
theorem dX3_foresee_1 : decode cX3_foresee 1 = .ok (.iconst 0, 1) := by decide +kernel
theorem dX3_foresee_2 : decode cX3_foresee 2 = .ok (.putfield 27, 3) := by decide +kernel
theorem dX3_foresee_5 : decode cX3_foresee 5 = .ok (.iload_n 1, 1) := by decide +kernel
theorem dX3_foresee_6 : decode cX3_foresee 6 = .ok (.iconst 1, 1) := by decide +kernel
theorem dX3_foresee_7 : decode cX3_foresee 7 = .ok (.bipush 9, 2) := by decide +kernel
theorem dX3_foresee_9 : decode cX3_foresee 9 = .ok (.invokestatic 31, 3) := by decide +kernel
theorem dX3_foresee_12 : decode cX3_foresee 12 = .ok (.ifCond .eq 12, 3) := by decide +kernel
theorem dX3_foresee_15 : decode cX3_foresee 15 = .ok (.aload_n 0, 1) := by decide +kernel
theorem dX3_foresee_16 : decode cX3_foresee 16 = .ok (.iload_n 1, 1) := by decide +kernel
theorem dX3_foresee_17 : decode cX3_foresee 17 = .ok (.iconst 3, 1) := by decide +kernel
theorem dX3_foresee_18 : decode cX3_foresee 18 = .ok (.invokevirtual 119, 3) := by decide +kernel
theorem dX3_foresee_21 : decode cX3_foresee 21 = .ok (.goto 8, 3) := by decide +kernel
theorem dX3_foresee_24 : decode cX3_foresee 24 = .ok (.aload_n 0, 1) := by decide +kernel
theorem dX3_foresee_25 : decode cX3_foresee 25 = .ok (.iconst 1, 1) := by decide +kernel
theorem dX3_foresee_26 : decode cX3_foresee 26 = .ok (.invokevirtual 45, 3) := by decide +kernel
theorem dX3_foresee_29 : decode cX3_foresee 29 = .ok (.ireturn, 1) := by decide +kernel
set_option maxRecDepth 20000 in
theorem ggX3_plain_X3_isIn : GoodIn wsX3_plain wsX3_isIn := goodIn_r _ [5] (by decide +kernel) (by decide +kernel)
set_option maxRecDepth 20000 in
theorem gX3_plain_X3_isIn : GoodIn wsX3_plain (va_wsS RX3 31 yX3_isIn wsX3_isIn) := goodIn_app (goodIn_of _ (by decide +kernel)) ggX3_plain_X3_isIn
set_option maxRecDepth 20000 in
theorem ggX3_plain_X3_tried : GoodIn wsX3_plain wsX3_tried := goodIn_r _ [9, 10, 11, 12, 13, 4, 14, 15, 16, 17, 18, 19, 20, 21, 22, 23, 24, 25, 26, 27, 28, 29, 30, 31, 32, 33, 34, 35, 36, 37, 38, 39, 40, 41, 42, 43, 44, 45, 46, 47, 48, 49, 50, 51, 52, 53, 54, 55, 56, 57, 58, 59, 60, 61, 62, 63, 64, 65, 66, 67, 68, 69, 70, 71, 72, 73, 74, 75, 76, 77, 78, 79, 80, 81, 82, 83, 84, 85, 86, 91, 92, 93, 94, 95, 96] (by decide +kernel) (by decide +kernel)
set_option maxRecDepth 20000 in
theorem gX3_plain_X3_tried : GoodIn wsX3_plain (wsV RX3 119 RX3 yX3_tried wsX3_tried) := goodIn_app (goodIn_of _ (by decide +kernel)) ggX3_plain_X3_tried
set_option maxRecDepth 20000 in
theorem ggX3_plain_X3_fail : GoodIn wsX3_plain wsX3_fail := goodIn_r _ [90, 1, 91, 92, 93, 94, 95, 96] (by decide +kernel) (by decide +kernel)
set_option maxRecDepth 20000 in
theorem gX3_plain_X3_fail : GoodIn wsX3_plain (wsV RX3 45 RX3 yX3_fail wsX3_fail) := goodIn_app (goodIn_of _ (by decide +kernel)) ggX3_plain_X3_fail
theorem dX3_plain_0 : decode cX3_plain 0 = .ok (.aload_n 0, 1) := by decide +kernel
theorem dX3_plain_1 : decode cX3_plain 1 = .ok (.iconst 0, 1) := by decide +kernel
theorem dX3_plain_2 : decode cX3_plain 2 = .ok (.putfield 27, 3) := by decide +kernel
theorem dX3_plain_5 : decode cX3_plain 5 = .ok (.iload_n 1, 1) := by decide +kernel
theorem dX3_plain_6 : decode cX3_plain 6 = .ok (.iconst 1, 1) := by decide +kernel
theorem dX3_plain_7 : decode cX3_plain 7 = .ok (.bipush 9, 2) := by decide +kernel
theorem dX3_plain_9 : decode cX3_plain 9 = .ok (.invokestatic 31, 3) := by decide +kernel
theorem dX3_plain_12 : decode cX3_plain 12 = .ok (.ifCond .eq 12, 3) := by decide +kernel
theorem dX3_plain_15 : decode cX3_plain 15 = .ok (.aload_n 0, 1) := by decide +kernel
theorem dX3_plain_16 : decode cX3_plain 16 = .ok (.iload_n 1, 1) := by decide +kernel
theorem dX3_plain_17 : decode cX3_plain 17 = .ok (.iconst 4, 1) := by decide +kernel
theorem dX3_plain_18 : decode cX3_plain 18 = .ok (.invokevirtual 119, 3) := by decide +kernel
theorem dX3_plain_21 : decode cX3_plain 21 = .ok (.goto 8, 3) := by decide +kernel
theorem dX3_plain_24 : decode cX3_plain 24 = .ok (.aload_n 0, 1) := by decide +kernel
theorem dX3_plain_25 : decode cX3_plain 25 = .ok (.iconst 1, 1) := by decide +kernel
theorem dX3_plain_26 : decode cX3_plain 26 = .ok (.invokevirtual 45, 3) := by decide +kernel
theorem dX3_plain_29 : decode cX3_plain 29 = .ok (.ireturn, 1) := by decide +kernel
set_option maxRecDepth 20000 in
theorem ggX3_best_X3_isIn : GoodIn wsX3_best wsX3_isIn := goodIn_r _ [6] (by decide +kernel) (by decide +kernel)
set_option maxRecDepth 20000 in
theorem gX3_best_X3_isIn : GoodIn wsX3_best (va_wsS RX3 31 yX3_isIn wsX3_isIn) := goodIn_app (goodIn_of _ (by decide +kernel)) ggX3_best_X3_isIn
set_option maxRecDepth 20000 in
theorem ggX3_best_X3_fail : GoodIn wsX3_best wsX3_fail := goodIn_r _ [10, 1, 95, 96, 97, 98, 99, 100] (by decide +kernel) (by decide +kernel)
set_option maxRecDepth 20000 in
theorem gX3_best_X3_fail : GoodIn wsX3_best (wsV RX3 45 RX3 yX3_fail wsX3_fail) := goodIn_app (goodIn_of _ (by decide +kernel)) ggX3_best_X3_fail
set_option maxRecDepth 20000 in
theorem ggX3_best_X3_kept : GoodIn wsX3_best wsX3_kept := goodIn_r _ [14, 15, 16, 17, 18, 19, 20, 21, 2, 22, 23, 24, 95, 96, 97, 98, 99, 100] (by decide +kernel) (by decide +kernel)
set_option maxRecDepth 20000 in
theorem gX3_best_X3_kept : GoodIn wsX3_best (wsV RX3 111 RX3 yX3_kept wsX3_kept) := goodIn_app (goodIn_of _ (by decide +kernel)) ggX3_best_X3_kept
set_option maxRecDepth 20000 in
theorem ggX3_best_X3_empty : GoodIn wsX3_best wsX3_empty := goodIn_r _ [28, 2, 22, 95, 96, 97, 98, 99, 100] (by decide +kernel) (by decide +kernel)
set_option maxRecDepth 20000 in
theorem gX3_best_X3_empty : GoodIn wsX3_best (wsV RX3 49 RX3 yX3_empty wsX3_empty) := goodIn_app (goodIn_of _ (by decide +kernel)) ggX3_best_X3_empty
set_option maxRecDepth 20000 in
theorem ggX3_best_X3_tried : GoodIn wsX3_best wsX3_tried := goodIn_r _ [32, 22, 11, 12, 13, 5, 14, 15, 16, 17, 18, 19, 20, 21, 2, 23, 24, 33, 34, 35, 36, 37, 38, 39, 40, 41, 42, 43, 44, 45, 46, 47, 48, 49, 50, 51, 52, 53, 54, 55, 56, 57, 58, 59, 60, 61, 62, 63, 64, 65, 66, 67, 68, 69, 70, 71, 72, 73, 74, 75, 76, 77, 78, 79, 80, 81, 82, 83, 84, 85, 86, 87, 88, 89, 90, 91, 92, 93, 94, 95, 96, 97, 98, 99, 100] (by decide +kernel) (by decide +kernel)
set_option maxRecDepth 20000 in
theorem gX3_best_X3_tried : GoodIn wsX3_best (wsV RX3 119 RX3 yX3_tried wsX3_tried) := goodIn_app (goodIn_of _ (by decide +kernel)) ggX3_best_X3_tried
set_option maxRecDepth 20000 in
theorem ggX3_best_X3_bringBack : GoodIn wsX3_best wsX3_bringBack := goodIn_r _ [94, 16, 61, 62, 63, 64, 2, 22, 23, 24, 95, 96, 97, 98, 99, 100] (by decide +kernel) (by decide +kernel)
set_option maxRecDepth 20000 in
theorem gX3_best_X3_bringBack : GoodIn wsX3_best (wsV RX3 115 RX3 yX3_bringBack wsX3_bringBack) := goodIn_app (goodIn_of _ (by decide +kernel)) ggX3_best_X3_bringBack
theorem dX3_best_0 : decode cX3_best 0 = .ok (.aload_n 0, 1) := by decide +kernel
theorem dX3_best_1 : decode cX3_best 1 = .ok (.iconst 0, 1) := by decide +kernel
theorem dX3_best_2 : decode cX3_best 2 = .ok (.putfield 27, 3) := by decide +kernel
theorem dX3_best_5 : decode cX3_best 5 = .ok (.iload_n 1, 1) := by decide +kernel
theorem dX3_best_6 : decode cX3_best 6 = .ok (.iconst 1, 1) := by decide +kernel
theorem dX3_best_7 : decode cX3_best 7 = .ok (.bipush 9, 2) := by decide +kernel
theorem dX3_best_9 : decode cX3_best 9 = .ok (.invokestatic 31, 3) := by decide +kernel
theorem dX3_best_12 : decode cX3_best 12 = .ok (.ifCond .ne 9, 3) := by decide +kernel
theorem dX3_best_15 : decode cX3_best 15 = .ok (.aload_n 0, 1) := by decide +kernel
theorem dX3_best_16 : decode cX3_best 16 = .ok (.iconst 1, 1) := by decide +kernel
theorem dX3_best_17 : decode cX3_best 17 = .ok (.invokevirtual 45, 3) := by decide +kernel
theorem dX3_best_20 : decode cX3_best 20 = .ok (.ireturn, 1) := by decide +kernel
theorem dX3_best_21 : decode cX3_best 21 = .ok (.iconst (-1), 1) := by decide +kernel
theorem dX3_best_22 : decode cX3_best 22 = .ok (.istore_n 2, 1) := by decide +kernel
theorem dX3_best_23 : decode cX3_best 23 = .ok (.iconst (-1), 1) := by decide +kernel
theorem dX3_best_24 : decode cX3_best 24 = .ok (.istore_n 3, 1) := by decide +kernel
theorem dX3_best_25 : decode cX3_best 25 = .ok (.aload_n 0, 1) := by decide +kernel
theorem dX3_best_26 : decode cX3_best 26 = .ok (.invokevirtual 111, 3) := by decide +kernel
theorem dX3_best_29 : decode cX3_best 29 = .ok (.astore 4, 2) := by decide +kernel
theorem dX3_best_31 : decode cX3_best 31 = .ok (.iconst 1, 1) := by decide +kernel
theorem dX3_best_32 : decode cX3_best 32 = .ok (.istore 5, 2) := by decide +kernel
theorem dX3_best_34 : decode cX3_best 34 = .ok (.iload 5, 2) := by decide +kernel
theorem dX3_best_36 : decode cX3_best 36 = .ok (.bipush 12, 2) := by decide +kernel
theorem dX3_best_38 : decode cX3_best 38 = .ok (.if_icmp .gt 48, 3) := by decide +kernel
theorem dX3_best_41 : decode cX3_best 41 = .ok (.aload_n 0, 1) := by decide +kernel
theorem dX3_best_42 : decode cX3_best 42 = .ok (.getfield 14, 3) := by decide +kernel
theorem dX3_best_45 : decode cX3_best 45 = .ok (.bipush 6, 2) := by decide +kernel
theorem dX3_best_47 : decode cX3_best 47 = .ok (.iaload, 1) := by decide +kernel
theorem dX3_best_48 : decode cX3_best 48 = .ok (.ifCond .le 38, 3) := by decide +kernel
theorem dX3_best_51 : decode cX3_best 51 = .ok (.aload_n 0, 1) := by decide +kernel
theorem dX3_best_52 : decode cX3_best 52 = .ok (.iload 5, 2) := by decide +kernel
theorem dX3_best_54 : decode cX3_best 54 = .ok (.invokevirtual 49, 3) := by decide +kernel
theorem dX3_best_57 : decode cX3_best 57 = .ok (.aload_n 0, 1) := by decide +kernel
theorem dX3_best_58 : decode cX3_best 58 = .ok (.iload_n 1, 1) := by decide +kernel
theorem dX3_best_59 : decode cX3_best 59 = .ok (.iconst 3, 1) := by decide +kernel
theorem dX3_best_60 : decode cX3_best 60 = .ok (.invokevirtual 119, 3) := by decide +kernel
theorem dX3_best_63 : decode cX3_best 63 = .ok (.istore 6, 2) := by decide +kernel
theorem dX3_best_65 : decode cX3_best 65 = .ok (.iload 6, 2) := by decide +kernel
theorem dX3_best_67 : decode cX3_best 67 = .ok (.iload_n 3, 1) := by decide +kernel
theorem dX3_best_68 : decode cX3_best 68 = .ok (.if_icmp .gt 6, 3) := by decide +kernel
theorem dX3_best_71 : decode cX3_best 71 = .ok (.goto 9, 3) := by decide +kernel
theorem dX3_best_74 : decode cX3_best 74 = .ok (.iload 5, 2) := by decide +kernel
theorem dX3_best_76 : decode cX3_best 76 = .ok (.istore_n 2, 1) := by decide +kernel
theorem dX3_best_77 : decode cX3_best 77 = .ok (.iload 6, 2) := by decide +kernel
theorem dX3_best_79 : decode cX3_best 79 = .ok (.istore_n 3, 1) := by decide +kernel
theorem dX3_best_80 : decode cX3_best 80 = .ok (.iinc 5 1, 3) := by decide +kernel
theorem dX3_best_83 : decode cX3_best 83 = .ok (.goto (-49), 3) := by decide +kernel
theorem dX3_best_86 : decode cX3_best 86 = .ok (.aload_n 0, 1) := by decide +kernel
theorem dX3_best_87 : decode cX3_best 87 = .ok (.aload 4, 2) := by decide +kernel
theorem dX3_best_89 : decode cX3_best 89 = .ok (.invokevirtual 115, 3) := by decide +kernel
theorem dX3_best_92 : decode cX3_best 92 = .ok (.iload_n 2, 1) := by decide +kernel
theorem dX3_best_93 : decode cX3_best 93 = .ok (.ireturn, 1) := by decide +kernel
theorem dX3_mean_0 : decode cX3_mean 0 = .ok (.aload_n 0, 1) := by decide +kernel
theorem dX3_mean_1 : decode cX3_mean 1 = .ok (.iconst 0, 1) := by decide +kernel
theorem dX3_mean_2 : decode cX3_mean 2 = .ok (.putfield 27, 3) := by decide +kernel
theorem dX3_mean_5 : decode cX3_mean 5 = .ok (.aload_n 0, 1) := by decide +kernel
theorem dX3_mean_6 : decode cX3_mean 6 = .ok (.getfield 18, 3) := by decide +kernel
theorem dX3_mean_9 : decode cX3_mean 9 = .ok (.iconst 2, 1) := by decide +kernel
theorem dX3_mean_10 : decode cX3_mean 10 = .ok (.iaload, 1) := by decide +kernel
theorem dX3_mean_11 : decode cX3_mean 11 = .ok (.ifCond .ne 7, 3) := by decide +kernel
theorem dX3_mean_14 : decode cX3_mean 14 = .ok (.dconst 0, 1) := by decide +kernel
theorem dX3_mean_15 : decode cX3_mean 15 = .ok (.goto 18, 3) := by decide +kernel
theorem dX3_mean_18 : decode cX3_mean 18 = .ok (.aload_n 0, 1) := by decide +kernel
theorem dX3_mean_19 : decode cX3_mean 19 = .ok (.getfield 18, 3) := by decide +kernel
theorem dX3_mean_22 : decode cX3_mean 22 = .ok (.iconst 3, 1) := by decide +kernel
theorem dX3_mean_23 : decode cX3_mean 23 = .ok (.iaload, 1) := by decide +kernel
theorem dX3_mean_24 : decode cX3_mean 24 = .ok (.i2d, 1) := by decide +kernel
theorem dX3_mean_25 : decode cX3_mean 25 = .ok (.aload_n 0, 1) := by decide +kernel
theorem dX3_mean_26 : decode cX3_mean 26 = .ok (.getfield 18, 3) := by decide +kernel
theorem dX3_mean_29 : decode cX3_mean 29 = .ok (.iconst 2, 1) := by decide +kernel
theorem dX3_mean_30 : decode cX3_mean 30 = .ok (.iaload, 1) := by decide +kernel
theorem dX3_mean_31 : decode cX3_mean 31 = .ok (.i2d, 1) := by decide +kernel
theorem dX3_mean_32 : decode cX3_mean 32 = .ok (.ddiv, 1) := by decide +kernel
theorem dX3_mean_33 : decode cX3_mean 33 = .ok (.dreturn, 1) := by decide +kernel
set_option maxRecDepth 20000 in
theorem ggX3_digest_X3_counted : GoodIn wsX3_digest wsX3_counted := goodIn_r _ [12, 13, 4, 14, 15, 16, 17, 18, 19] (by decide +kernel) (by decide +kernel)
set_option maxRecDepth 20000 in
theorem gX3_digest_X3_counted : GoodIn wsX3_digest (wsV RX3 103 RX3 yX3_counted wsX3_counted) := goodIn_app (goodIn_of _ (by decide +kernel)) ggX3_digest_X3_counted
theorem dX3_digest_0 : decode cX3_digest 0 = .ok (.aload_n 0, 1) := by decide +kernel
theorem dX3_digest_1 : decode cX3_digest 1 = .ok (.iconst 0, 1) := by decide +kernel
theorem dX3_digest_2 : decode cX3_digest 2 = .ok (.putfield 27, 3) := by decide +kernel
theorem dX3_digest_5 : decode cX3_digest 5 = .ok (.ldc2_w 122, 3) := by decide +kernel
theorem dX3_digest_8 : decode cX3_digest 8 = .ok (.lstore_n 1, 1) := by decide +kernel
theorem dX3_digest_9 : decode cX3_digest 9 = .ok (.iconst 0, 1) := by decide +kernel
theorem dX3_digest_10 : decode cX3_digest 10 = .ok (.istore_n 3, 1) := by decide +kernel
theorem dX3_digest_11 : decode cX3_digest 11 = .ok (.iload_n 3, 1) := by decide +kernel
theorem dX3_digest_12 : decode cX3_digest 12 = .ok (.bipush 12, 2) := by decide +kernel
theorem dX3_digest_14 : decode cX3_digest 14 = .ok (.if_icmp .ge 22, 3) := by decide +kernel
theorem dX3_digest_17 : decode cX3_digest 17 = .ok (.lload_n 1, 1) := by decide +kernel
theorem dX3_digest_18 : decode cX3_digest 18 = .ok (.ldc2_w 124, 3) := by decide +kernel
theorem dX3_digest_21 : decode cX3_digest 21 = .ok (.lmul, 1) := by decide +kernel
theorem dX3_digest_22 : decode cX3_digest 22 = .ok (.aload_n 0, 1) := by decide +kernel
theorem dX3_digest_23 : decode cX3_digest 23 = .ok (.iload_n 3, 1) := by decide +kernel
theorem dX3_digest_24 : decode cX3_digest 24 = .ok (.invokevirtual 103, 3) := by decide +kernel
theorem dX3_digest_27 : decode cX3_digest 27 = .ok (.i2l, 1) := by decide +kernel
theorem dX3_digest_28 : decode cX3_digest 28 = .ok (.ladd, 1) := by decide +kernel
theorem dX3_digest_29 : decode cX3_digest 29 = .ok (.lstore_n 1, 1) := by decide +kernel
theorem dX3_digest_30 : decode cX3_digest 30 = .ok (.iinc 3 1, 3) := by decide +kernel
theorem dX3_digest_33 : decode cX3_digest 33 = .ok (.goto (-22), 3) := by decide +kernel
theorem dX3_digest_36 : decode cX3_digest 36 = .ok (.iconst 1, 1) := by decide +kernel
theorem dX3_digest_37 : decode cX3_digest 37 = .ok (.istore_n 3, 1) := by decide +kernel
theorem dX3_digest_38 : decode cX3_digest 38 = .ok (.iload_n 3, 1) := by decide +kernel
theorem dX3_digest_39 : decode cX3_digest 39 = .ok (.bipush 7, 2) := by decide +kernel
theorem dX3_digest_41 : decode cX3_digest 41 = .ok (.if_icmp .ge 46, 3) := by decide +kernel
theorem dX3_digest_44 : decode cX3_digest 44 = .ok (.iconst 0, 1) := by decide +kernel
theorem dX3_digest_45 : decode cX3_digest 45 = .ok (.istore 4, 2) := by decide +kernel
theorem dX3_digest_47 : decode cX3_digest 47 = .ok (.iload 4, 2) := by decide +kernel
theorem dX3_digest_49 : decode cX3_digest 49 = .ok (.aload_n 0, 1) := by decide +kernel
theorem dX3_digest_50 : decode cX3_digest 50 = .ok (.getfield 14, 3) := by decide +kernel
theorem dX3_digest_53 : decode cX3_digest 53 = .ok (.iload_n 3, 1) := by decide +kernel
theorem dX3_digest_54 : decode cX3_digest 54 = .ok (.iaload, 1) := by decide +kernel
theorem dX3_digest_55 : decode cX3_digest 55 = .ok (.if_icmp .ge 26, 3) := by decide +kernel
theorem dX3_digest_58 : decode cX3_digest 58 = .ok (.lload_n 1, 1) := by decide +kernel
theorem dX3_digest_59 : decode cX3_digest 59 = .ok (.ldc2_w 124, 3) := by decide +kernel
theorem dX3_digest_62 : decode cX3_digest 62 = .ok (.lmul, 1) := by decide +kernel
theorem dX3_digest_63 : decode cX3_digest 63 = .ok (.aload_n 0, 1) := by decide +kernel
theorem dX3_digest_64 : decode cX3_digest 64 = .ok (.getfield 11, 3) := by decide +kernel
theorem dX3_digest_67 : decode cX3_digest 67 = .ok (.iload_n 3, 1) := by decide +kernel
theorem dX3_digest_68 : decode cX3_digest 68 = .ok (.aaload, 1) := by decide +kernel
theorem dX3_digest_69 : decode cX3_digest 69 = .ok (.iload 4, 2) := by decide +kernel
theorem dX3_digest_71 : decode cX3_digest 71 = .ok (.iaload, 1) := by decide +kernel
theorem dX3_digest_72 : decode cX3_digest 72 = .ok (.i2l, 1) := by decide +kernel
theorem dX3_digest_73 : decode cX3_digest 73 = .ok (.ladd, 1) := by decide +kernel
theorem dX3_digest_74 : decode cX3_digest 74 = .ok (.lstore_n 1, 1) := by decide +kernel
theorem dX3_digest_75 : decode cX3_digest 75 = .ok (.iinc 4 1, 3) := by decide +kernel
theorem dX3_digest_78 : decode cX3_digest 78 = .ok (.goto (-31), 3) := by decide +kernel
theorem dX3_digest_81 : decode cX3_digest 81 = .ok (.iinc 3 1, 3) := by decide +kernel
theorem dX3_digest_84 : decode cX3_digest 84 = .ok (.goto (-46), 3) := by decide +kernel
theorem dX3_digest_87 : decode cX3_digest 87 = .ok (.iconst 0, 1) := by decide +kernel
theorem dX3_digest_88 : decode cX3_digest 88 = .ok (.istore_n 3, 1) := by decide +kernel
theorem dX3_digest_89 : decode cX3_digest 89 = .ok (.iload_n 3, 1) := by decide +kernel
theorem dX3_digest_90 : decode cX3_digest 90 = .ok (.bipush 30, 2) := by decide +kernel
theorem dX3_digest_92 : decode cX3_digest 92 = .ok (.if_icmp .ge 37, 3) := by decide +kernel
theorem dX3_digest_95 : decode cX3_digest 95 = .ok (.lload_n 1, 1) := by decide +kernel
theorem dX3_digest_96 : decode cX3_digest 96 = .ok (.ldc2_w 124, 3) := by decide +kernel
theorem dX3_digest_99 : decode cX3_digest 99 = .ok (.lmul, 1) := by decide +kernel
theorem dX3_digest_100 : decode cX3_digest 100 = .ok (.aload_n 0, 1) := by decide +kernel
theorem dX3_digest_101 : decode cX3_digest 101 = .ok (.getfield 21, 3) := by decide +kernel
theorem dX3_digest_104 : decode cX3_digest 104 = .ok (.iload_n 3, 1) := by decide +kernel
theorem dX3_digest_105 : decode cX3_digest 105 = .ok (.iaload, 1) := by decide +kernel
theorem dX3_digest_106 : decode cX3_digest 106 = .ok (.i2l, 1) := by decide +kernel
theorem dX3_digest_107 : decode cX3_digest 107 = .ok (.ladd, 1) := by decide +kernel
theorem dX3_digest_108 : decode cX3_digest 108 = .ok (.lstore_n 1, 1) := by decide +kernel
theorem dX3_digest_109 : decode cX3_digest 109 = .ok (.lload_n 1, 1) := by decide +kernel
theorem dX3_digest_110 : decode cX3_digest 110 = .ok (.ldc2_w 124, 3) := by decide +kernel
theorem dX3_digest_113 : decode cX3_digest 113 = .ok (.lmul, 1) := by decide +kernel
theorem dX3_digest_114 : decode cX3_digest 114 = .ok (.aload_n 0, 1) := by decide +kernel
theorem dX3_digest_115 : decode cX3_digest 115 = .ok (.getfield 24, 3) := by decide +kernel
theorem dX3_digest_118 : decode cX3_digest 118 = .ok (.iload_n 3, 1) := by decide +kernel
theorem dX3_digest_119 : decode cX3_digest 119 = .ok (.iaload, 1) := by decide +kernel
theorem dX3_digest_120 : decode cX3_digest 120 = .ok (.i2l, 1) := by decide +kernel
theorem dX3_digest_121 : decode cX3_digest 121 = .ok (.ladd, 1) := by decide +kernel
theorem dX3_digest_122 : decode cX3_digest 122 = .ok (.lstore_n 1, 1) := by decide +kernel
theorem dX3_digest_123 : decode cX3_digest 123 = .ok (.iinc 3 1, 3) := by decide +kernel
theorem dX3_digest_126 : decode cX3_digest 126 = .ok (.goto (-37), 3) := by decide +kernel
theorem dX3_digest_129 : decode cX3_digest 129 = .ok (.lload_n 1, 1) := by decide +kernel
theorem dX3_digest_130 : decode cX3_digest 130 = .ok (.lreturn, 1) := by decide +kernel
