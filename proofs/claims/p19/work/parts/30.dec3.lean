theorem dX3_init_0 : decode cX3_init 0 = .ok (.aload_n 0, 1) := by decide +kernel
theorem dX3_init_1 : decode cX3_init 1 = .ok (.invokespecial 1, 3) := by decide +kernel
theorem dX3_init_4 : decode cX3_init 4 = .ok (.aload_n 0, 1) := by decide +kernel
theorem dX3_init_5 : decode cX3_init 5 = .ok (.bipush 6, 2) := by decide +kernel
theorem dX3_init_7 : decode cX3_init 7 = .ok (.putfield 7, 3) := by decide +kernel
theorem dX3_init_10 : decode cX3_init 10 = .ok (.aload_n 0, 1) := by decide +kernel
theorem dX3_init_11 : decode cX3_init 11 = .ok (.bipush 30, 2) := by decide +kernel
theorem dX3_init_13 : decode cX3_init 13 = .ok (.newarray .int, 2) := by decide +kernel
theorem dX3_init_15 : decode cX3_init 15 = .ok (.putfield 13, 3) := by decide +kernel
theorem dX3_init_18 : decode cX3_init 18 = .ok (.aload_n 0, 1) := by decide +kernel
theorem dX3_init_19 : decode cX3_init 19 = .ok (.bipush 30, 2) := by decide +kernel
theorem dX3_init_21 : decode cX3_init 21 = .ok (.newarray .int, 2) := by decide +kernel
theorem dX3_init_23 : decode cX3_init 23 = .ok (.putfield 17, 3) := by decide +kernel
theorem dX3_init_26 : decode cX3_init 26 = .ok (.aload_n 0, 1) := by decide +kernel
theorem dX3_init_27 : decode cX3_init 27 = .ok (.bipush 30, 2) := by decide +kernel
theorem dX3_init_29 : decode cX3_init 29 = .ok (.newarray .int, 2) := by decide +kernel
theorem dX3_init_31 : decode cX3_init 31 = .ok (.putfield 20, 3) := by decide +kernel
theorem dX3_init_34 : decode cX3_init 34 = .ok (.aload_n 0, 1) := by decide +kernel
theorem dX3_init_35 : decode cX3_init 35 = .ok (.iconst 0, 1) := by decide +kernel
theorem dX3_init_36 : decode cX3_init 36 = .ok (.newarray .int, 2) := by decide +kernel
theorem dX3_init_38 : decode cX3_init 38 = .ok (.putfield 23, 3) := by decide +kernel
theorem dX3_init_41 : decode cX3_init 41 = .ok (.aload_n 0, 1) := by decide +kernel
theorem dX3_init_42 : decode cX3_init 42 = .ok (.bipush 30, 2) := by decide +kernel
theorem dX3_init_44 : decode cX3_init 44 = .ok (.newarray .int, 2) := by decide +kernel
theorem dX3_init_46 : decode cX3_init 46 = .ok (.putfield 26, 3) := by decide +kernel
theorem dX3_init_49 : decode cX3_init 49 = .ok (.aload_n 0, 1) := by decide +kernel
theorem dX3_init_50 : decode cX3_init 50 = .ok (.bipush 30, 2) := by decide +kernel
theorem dX3_init_52 : decode cX3_init 52 = .ok (.newarray .int, 2) := by decide +kernel
theorem dX3_init_54 : decode cX3_init 54 = .ok (.putfield 29, 3) := by decide +kernel
theorem dX3_init_57 : decode cX3_init 57 = .ok (.return_, 1) := by decide +kernel
theorem dX3_many_0 : decode cX3_many 0 = .ok (.iconst 0, 1) := by decide +kernel
theorem dX3_many_1 : decode cX3_many 1 = .ok (.istore_n 2, 1) := by decide +kernel
theorem dX3_many_2 : decode cX3_many 2 = .ok (.aload_n 0, 1) := by decide +kernel
theorem dX3_many_3 : decode cX3_many 3 = .ok (.getfield 13, 3) := by decide +kernel
theorem dX3_many_6 : decode cX3_many 6 = .ok (.astore_n 3, 1) := by decide +kernel
theorem dX3_many_7 : decode cX3_many 7 = .ok (.aload_n 3, 1) := by decide +kernel
theorem dX3_many_8 : decode cX3_many 8 = .ok (.arraylength, 1) := by decide +kernel
theorem dX3_many_9 : decode cX3_many 9 = .ok (.istore 4, 2) := by decide +kernel
theorem dX3_many_11 : decode cX3_many 11 = .ok (.iconst 0, 1) := by decide +kernel
theorem dX3_many_12 : decode cX3_many 12 = .ok (.istore 5, 2) := by decide +kernel
theorem dX3_many_14 : decode cX3_many 14 = .ok (.iload 5, 2) := by decide +kernel
theorem dX3_many_16 : decode cX3_many 16 = .ok (.iload 4, 2) := by decide +kernel
theorem dX3_many_18 : decode cX3_many 18 = .ok (.if_icmp .ge 29, 3) := by decide +kernel
theorem dX3_many_21 : decode cX3_many 21 = .ok (.aload_n 3, 1) := by decide +kernel
theorem dX3_many_22 : decode cX3_many 22 = .ok (.iload 5, 2) := by decide +kernel
theorem dX3_many_24 : decode cX3_many 24 = .ok (.iaload, 1) := by decide +kernel
theorem dX3_many_25 : decode cX3_many 25 = .ok (.istore 6, 2) := by decide +kernel
theorem dX3_many_27 : decode cX3_many 27 = .ok (.iload_n 2, 1) := by decide +kernel
theorem dX3_many_28 : decode cX3_many 28 = .ok (.iload 6, 2) := by decide +kernel
theorem dX3_many_30 : decode cX3_many 30 = .ok (.iload_n 1, 1) := by decide +kernel
theorem dX3_many_31 : decode cX3_many 31 = .ok (.if_icmp .ne 7, 3) := by decide +kernel
theorem dX3_many_34 : decode cX3_many 34 = .ok (.iconst 1, 1) := by decide +kernel
theorem dX3_many_35 : decode cX3_many 35 = .ok (.goto 4, 3) := by decide +kernel
theorem dX3_many_38 : decode cX3_many 38 = .ok (.iconst 0, 1) := by decide +kernel
theorem dX3_many_39 : decode cX3_many 39 = .ok (.iadd, 1) := by decide +kernel
theorem dX3_many_40 : decode cX3_many 40 = .ok (.istore_n 2, 1) := by decide +kernel
theorem dX3_many_41 : decode cX3_many 41 = .ok (.iinc 5 1, 3) := by decide +kernel
theorem dX3_many_44 : decode cX3_many 44 = .ok (.goto (-30), 3) := by decide +kernel
theorem dX3_many_47 : decode cX3_many 47 = .ok (.iload_n 2, 1) := by decide +kernel
theorem dX3_many_48 : decode cX3_many 48 = .ok (.ireturn, 1) := by decide +kernel
theorem dX3_last_0 : decode cX3_last 0 = .ok (.iconst (-1), 1) := by decide +kernel
theorem dX3_last_1 : decode cX3_last 1 = .ok (.istore_n 2, 1) := by decide +kernel
theorem dX3_last_2 : decode cX3_last 2 = .ok (.iconst 0, 1) := by decide +kernel
theorem dX3_last_3 : decode cX3_last 3 = .ok (.istore_n 3, 1) := by decide +kernel
theorem dX3_last_4 : decode cX3_last 4 = .ok (.iload_n 3, 1) := by decide +kernel
theorem dX3_last_5 : decode cX3_last 5 = .ok (.bipush 30, 2) := by decide +kernel
theorem dX3_last_7 : decode cX3_last 7 = .ok (.if_icmp .ge 40, 3) := by decide +kernel
theorem dX3_last_10 : decode cX3_last 10 = .ok (.aload_n 0, 1) := by decide +kernel
theorem dX3_last_11 : decode cX3_last 11 = .ok (.getfield 13, 3) := by decide +kernel
theorem dX3_last_14 : decode cX3_last 14 = .ok (.iload_n 3, 1) := by decide +kernel
theorem dX3_last_15 : decode cX3_last 15 = .ok (.iaload, 1) := by decide +kernel
theorem dX3_last_16 : decode cX3_last 16 = .ok (.iload_n 1, 1) := by decide +kernel
theorem dX3_last_17 : decode cX3_last 17 = .ok (.if_icmp .ne 24, 3) := by decide +kernel
theorem dX3_last_20 : decode cX3_last 20 = .ok (.iload_n 2, 1) := by decide +kernel
theorem dX3_last_21 : decode cX3_last 21 = .ok (.ifCond .lt 18, 3) := by decide +kernel
theorem dX3_last_24 : decode cX3_last 24 = .ok (.aload_n 0, 1) := by decide +kernel
theorem dX3_last_25 : decode cX3_last 25 = .ok (.getfield 17, 3) := by decide +kernel
theorem dX3_last_28 : decode cX3_last 28 = .ok (.iload_n 3, 1) := by decide +kernel
theorem dX3_last_29 : decode cX3_last 29 = .ok (.iaload, 1) := by decide +kernel
theorem dX3_last_30 : decode cX3_last 30 = .ok (.aload_n 0, 1) := by decide +kernel
theorem dX3_last_31 : decode cX3_last 31 = .ok (.getfield 17, 3) := by decide +kernel
theorem dX3_last_34 : decode cX3_last 34 = .ok (.iload_n 2, 1) := by decide +kernel
theorem dX3_last_35 : decode cX3_last 35 = .ok (.iaload, 1) := by decide +kernel
theorem dX3_last_36 : decode cX3_last 36 = .ok (.if_icmp .ge 5, 3) := by decide +kernel
theorem dX3_last_39 : decode cX3_last 39 = .ok (.iload_n 3, 1) := by decide +kernel
theorem dX3_last_40 : decode cX3_last 40 = .ok (.istore_n 2, 1) := by decide +kernel
theorem dX3_last_41 : decode cX3_last 41 = .ok (.iinc 3 1, 3) := by decide +kernel
theorem dX3_last_44 : decode cX3_last 44 = .ok (.goto (-40), 3) := by decide +kernel
theorem dX3_last_47 : decode cX3_last 47 = .ok (.iload_n 2, 1) := by decide +kernel
theorem dX3_last_48 : decode cX3_last 48 = .ok (.ireturn, 1) := by decide +kernel
theorem dX3_put_0 : decode cX3_put 0 = .ok (.aload_n 0, 1) := by decide +kernel
theorem dX3_put_1 : decode cX3_put 1 = .ok (.dup, 1) := by decide +kernel
theorem dX3_put_2 : decode cX3_put 2 = .ok (.getfield 41, 3) := by decide +kernel
theorem dX3_put_5 : decode cX3_put 5 = .ok (.iconst 1, 1) := by decide +kernel
theorem dX3_put_6 : decode cX3_put 6 = .ok (.iadd, 1) := by decide +kernel
theorem dX3_put_7 : decode cX3_put 7 = .ok (.putfield 41, 3) := by decide +kernel
theorem dX3_put_10 : decode cX3_put 10 = .ok (.aload_n 0, 1) := by decide +kernel
theorem dX3_put_11 : decode cX3_put 11 = .ok (.getfield 13, 3) := by decide +kernel
theorem dX3_put_14 : decode cX3_put 14 = .ok (.iload_n 1, 1) := by decide +kernel
theorem dX3_put_15 : decode cX3_put 15 = .ok (.iload_n 2, 1) := by decide +kernel
theorem dX3_put_16 : decode cX3_put 16 = .ok (.iastore, 1) := by decide +kernel
theorem dX3_put_17 : decode cX3_put 17 = .ok (.aload_n 0, 1) := by decide +kernel
theorem dX3_put_18 : decode cX3_put 18 = .ok (.getfield 17, 3) := by decide +kernel
theorem dX3_put_21 : decode cX3_put 21 = .ok (.iload_n 1, 1) := by decide +kernel
theorem dX3_put_22 : decode cX3_put 22 = .ok (.aload_n 0, 1) := by decide +kernel
theorem dX3_put_23 : decode cX3_put 23 = .ok (.getfield 41, 3) := by decide +kernel
theorem dX3_put_26 : decode cX3_put 26 = .ok (.iastore, 1) := by decide +kernel
theorem dX3_put_27 : decode cX3_put 27 = .ok (.return_, 1) := by decide +kernel
theorem dX3_empty_0 : decode cX3_empty 0 = .ok (.aload_n 0, 1) := by decide +kernel
theorem dX3_empty_1 : decode cX3_empty 1 = .ok (.iload_n 1, 1) := by decide +kernel
theorem dX3_empty_2 : decode cX3_empty 2 = .ok (.putfield 7, 3) := by decide +kernel
theorem dX3_empty_5 : decode cX3_empty 5 = .ok (.aload_n 0, 1) := by decide +kernel
theorem dX3_empty_6 : decode cX3_empty 6 = .ok (.iconst 0, 1) := by decide +kernel
theorem dX3_empty_7 : decode cX3_empty 7 = .ok (.putfield 33, 3) := by decide +kernel
theorem dX3_empty_10 : decode cX3_empty 10 = .ok (.aload_n 0, 1) := by decide +kernel
theorem dX3_empty_11 : decode cX3_empty 11 = .ok (.bipush 30, 2) := by decide +kernel
theorem dX3_empty_13 : decode cX3_empty 13 = .ok (.newarray .int, 2) := by decide +kernel
theorem dX3_empty_15 : decode cX3_empty 15 = .ok (.putfield 13, 3) := by decide +kernel
theorem dX3_empty_18 : decode cX3_empty 18 = .ok (.aload_n 0, 1) := by decide +kernel
theorem dX3_empty_19 : decode cX3_empty 19 = .ok (.bipush 30, 2) := by decide +kernel
theorem dX3_empty_21 : decode cX3_empty 21 = .ok (.newarray .int, 2) := by decide +kernel
theorem dX3_empty_23 : decode cX3_empty 23 = .ok (.putfield 20, 3) := by decide +kernel
theorem dX3_empty_26 : decode cX3_empty 26 = .ok (.return_, 1) := by decide +kernel
set_option maxRecDepth 20000 in
theorem ggX3_makeRoom_X3_many : GoodIn wsX3_makeRoom wsX3_many := goodIn_r _ [7, 8, 19, 20, 21, 22, 23, 24, 25, 26, 27, 28, 29, 30, 31] (by decide +kernel) (by decide +kernel)
set_option maxRecDepth 20000 in
theorem gX3_makeRoom_X3_many : GoodIn wsX3_makeRoom (wsV RX3 56 RX3 yX3_many wsX3_many) := goodIn_app (goodIn_of _ (by decide +kernel)) ggX3_makeRoom_X3_many
set_option maxRecDepth 20000 in
theorem ggX3_makeRoom_X3_last : GoodIn wsX3_makeRoom wsX3_last := goodIn_r _ [12, 8, 13, 19, 20, 21, 22, 23, 24, 25, 26, 27, 28, 29, 30, 31] (by decide +kernel) (by decide +kernel)
set_option maxRecDepth 20000 in
theorem gX3_makeRoom_X3_last : GoodIn wsX3_makeRoom (wsV RX3 60 RX3 yX3_last wsX3_last) := goodIn_app (goodIn_of _ (by decide +kernel)) ggX3_makeRoom_X3_last
set_option maxRecDepth 20000 in
theorem ggX3_makeRoom_X3_put : GoodIn wsX3_makeRoom wsX3_put := goodIn_r _ [17, 18, 8, 13, 19, 20, 21, 22, 23, 24, 25, 26, 27, 28, 29, 30, 31] (by decide +kernel) (by decide +kernel)
set_option maxRecDepth 20000 in
theorem gX3_makeRoom_X3_put : GoodIn wsX3_makeRoom (wsV RX3 63 RX3 yX3_put wsX3_put) := goodIn_app (goodIn_of _ (by decide +kernel)) ggX3_makeRoom_X3_put
theorem dX3_makeRoom_0 : decode cX3_makeRoom 0 = .ok (.aload_n 0, 1) := by decide +kernel
theorem dX3_makeRoom_1 : decode cX3_makeRoom 1 = .ok (.iconst 1, 1) := by decide +kernel
theorem dX3_makeRoom_2 : decode cX3_makeRoom 2 = .ok (.invokevirtual 56, 3) := by decide +kernel
theorem dX3_makeRoom_5 : decode cX3_makeRoom 5 = .ok (.istore_n 2, 1) := by decide +kernel
theorem dX3_makeRoom_6 : decode cX3_makeRoom 6 = .ok (.aload_n 0, 1) := by decide +kernel
theorem dX3_makeRoom_7 : decode cX3_makeRoom 7 = .ok (.iconst 2, 1) := by decide +kernel
theorem dX3_makeRoom_8 : decode cX3_makeRoom 8 = .ok (.invokevirtual 56, 3) := by decide +kernel
theorem dX3_makeRoom_11 : decode cX3_makeRoom 11 = .ok (.istore_n 3, 1) := by decide +kernel
theorem dX3_makeRoom_12 : decode cX3_makeRoom 12 = .ok (.iload_n 2, 1) := by decide +kernel
theorem dX3_makeRoom_13 : decode cX3_makeRoom 13 = .ok (.iload_n 3, 1) := by decide +kernel
theorem dX3_makeRoom_14 : decode cX3_makeRoom 14 = .ok (.iadd, 1) := by decide +kernel
theorem dX3_makeRoom_15 : decode cX3_makeRoom 15 = .ok (.aload_n 0, 1) := by decide +kernel
theorem dX3_makeRoom_16 : decode cX3_makeRoom 16 = .ok (.getfield 7, 3) := by decide +kernel
theorem dX3_makeRoom_19 : decode cX3_makeRoom 19 = .ok (.if_icmp .eq 4, 3) := by decide +kernel
theorem dX3_makeRoom_22 : decode cX3_makeRoom 22 = .ok (.return_, 1) := by decide +kernel
theorem dX3_makeRoom_23 : decode cX3_makeRoom 23 = .ok (.iload_n 2, 1) := by decide +kernel
theorem dX3_makeRoom_24 : decode cX3_makeRoom 24 = .ok (.ifCond .le 36, 3) := by decide +kernel
theorem dX3_makeRoom_27 : decode cX3_makeRoom 27 = .ok (.iload_n 2, 1) := by decide +kernel
theorem dX3_makeRoom_28 : decode cX3_makeRoom 28 = .ok (.aload_n 0, 1) := by decide +kernel
theorem dX3_makeRoom_29 : decode cX3_makeRoom 29 = .ok (.getfield 33, 3) := by decide +kernel
theorem dX3_makeRoom_32 : decode cX3_makeRoom 32 = .ok (.if_icmp .gt 15, 3) := by decide +kernel
theorem dX3_makeRoom_35 : decode cX3_makeRoom 35 = .ok (.iload_n 1, 1) := by decide +kernel
theorem dX3_makeRoom_36 : decode cX3_makeRoom 36 = .ok (.ifCond .eq 24, 3) := by decide +kernel
theorem dX3_makeRoom_39 : decode cX3_makeRoom 39 = .ok (.iload_n 2, 1) := by decide +kernel
theorem dX3_makeRoom_40 : decode cX3_makeRoom 40 = .ok (.aload_n 0, 1) := by decide +kernel
theorem dX3_makeRoom_41 : decode cX3_makeRoom 41 = .ok (.getfield 33, 3) := by decide +kernel
theorem dX3_makeRoom_44 : decode cX3_makeRoom 44 = .ok (.if_icmp .ne 16, 3) := by decide +kernel
theorem dX3_makeRoom_47 : decode cX3_makeRoom 47 = .ok (.aload_n 0, 1) := by decide +kernel
theorem dX3_makeRoom_48 : decode cX3_makeRoom 48 = .ok (.aload_n 0, 1) := by decide +kernel
theorem dX3_makeRoom_49 : decode cX3_makeRoom 49 = .ok (.iconst 1, 1) := by decide +kernel
theorem dX3_makeRoom_50 : decode cX3_makeRoom 50 = .ok (.invokevirtual 60, 3) := by decide +kernel
theorem dX3_makeRoom_53 : decode cX3_makeRoom 53 = .ok (.iconst 3, 1) := by decide +kernel
theorem dX3_makeRoom_54 : decode cX3_makeRoom 54 = .ok (.invokevirtual 63, 3) := by decide +kernel
theorem dX3_makeRoom_57 : decode cX3_makeRoom 57 = .ok (.goto 34, 3) := by decide +kernel
theorem dX3_makeRoom_60 : decode cX3_makeRoom 60 = .ok (.iload_n 3, 1) := by decide +kernel
theorem dX3_makeRoom_61 : decode cX3_makeRoom 61 = .ok (.ifCond .le 16, 3) := by decide +kernel
theorem dX3_makeRoom_64 : decode cX3_makeRoom 64 = .ok (.aload_n 0, 1) := by decide +kernel
theorem dX3_makeRoom_65 : decode cX3_makeRoom 65 = .ok (.aload_n 0, 1) := by decide +kernel
theorem dX3_makeRoom_66 : decode cX3_makeRoom 66 = .ok (.iconst 2, 1) := by decide +kernel
theorem dX3_makeRoom_67 : decode cX3_makeRoom 67 = .ok (.invokevirtual 60, 3) := by decide +kernel
theorem dX3_makeRoom_70 : decode cX3_makeRoom 70 = .ok (.iconst 4, 1) := by decide +kernel
theorem dX3_makeRoom_71 : decode cX3_makeRoom 71 = .ok (.invokevirtual 63, 3) := by decide +kernel
theorem dX3_makeRoom_74 : decode cX3_makeRoom 74 = .ok (.goto 17, 3) := by decide +kernel
theorem dX3_makeRoom_77 : decode cX3_makeRoom 77 = .ok (.iload_n 2, 1) := by decide +kernel
theorem dX3_makeRoom_78 : decode cX3_makeRoom 78 = .ok (.ifCond .le 13, 3) := by decide +kernel
theorem dX3_makeRoom_81 : decode cX3_makeRoom 81 = .ok (.aload_n 0, 1) := by decide +kernel
theorem dX3_makeRoom_82 : decode cX3_makeRoom 82 = .ok (.aload_n 0, 1) := by decide +kernel
theorem dX3_makeRoom_83 : decode cX3_makeRoom 83 = .ok (.iconst 1, 1) := by decide +kernel
theorem dX3_makeRoom_84 : decode cX3_makeRoom 84 = .ok (.invokevirtual 60, 3) := by decide +kernel
theorem dX3_makeRoom_87 : decode cX3_makeRoom 87 = .ok (.iconst 3, 1) := by decide +kernel
theorem dX3_makeRoom_88 : decode cX3_makeRoom 88 = .ok (.invokevirtual 63, 3) := by decide +kernel
theorem dX3_makeRoom_91 : decode cX3_makeRoom 91 = .ok (.return_, 1) := by decide +kernel
theorem dX3_move_0 : decode cX3_move 0 = .ok (.iload_n 1, 1) := by decide +kernel
theorem dX3_move_1 : decode cX3_move 1 = .ok (.ifCond .ge 7, 3) := by decide +kernel
theorem dX3_move_4 : decode cX3_move 4 = .ok (.iconst 0, 1) := by decide +kernel
theorem dX3_move_5 : decode cX3_move 5 = .ok (.goto 19, 3) := by decide +kernel
theorem dX3_move_8 : decode cX3_move 8 = .ok (.iload_n 1, 1) := by decide +kernel
theorem dX3_move_9 : decode cX3_move 9 = .ok (.aload_n 0, 1) := by decide +kernel
theorem dX3_move_10 : decode cX3_move 10 = .ok (.getfield 7, 3) := by decide +kernel
theorem dX3_move_13 : decode cX3_move 13 = .ok (.if_icmp .le 10, 3) := by decide +kernel
theorem dX3_move_16 : decode cX3_move 16 = .ok (.aload_n 0, 1) := by decide +kernel
theorem dX3_move_17 : decode cX3_move 17 = .ok (.getfield 7, 3) := by decide +kernel
theorem dX3_move_20 : decode cX3_move 20 = .ok (.goto 4, 3) := by decide +kernel
theorem dX3_move_23 : decode cX3_move 23 = .ok (.iload_n 1, 1) := by decide +kernel
theorem dX3_move_24 : decode cX3_move 24 = .ok (.istore_n 2, 1) := by decide +kernel
theorem dX3_move_25 : decode cX3_move 25 = .ok (.aload_n 0, 1) := by decide +kernel
theorem dX3_move_26 : decode cX3_move 26 = .ok (.dup, 1) := by decide +kernel
theorem dX3_move_27 : decode cX3_move 27 = .ok (.getfield 53, 3) := by decide +kernel
theorem dX3_move_30 : decode cX3_move 30 = .ok (.iload_n 2, 1) := by decide +kernel
theorem dX3_move_31 : decode cX3_move 31 = .ok (.aload_n 0, 1) := by decide +kernel
theorem dX3_move_32 : decode cX3_move 32 = .ok (.getfield 33, 3) := by decide +kernel
theorem dX3_move_35 : decode cX3_move 35 = .ok (.if_icmp .le 12, 3) := by decide +kernel
theorem dX3_move_38 : decode cX3_move 38 = .ok (.iload_n 2, 1) := by decide +kernel
theorem dX3_move_39 : decode cX3_move 39 = .ok (.aload_n 0, 1) := by decide +kernel
theorem dX3_move_40 : decode cX3_move 40 = .ok (.getfield 33, 3) := by decide +kernel
theorem dX3_move_43 : decode cX3_move 43 = .ok (.isub, 1) := by decide +kernel
theorem dX3_move_44 : decode cX3_move 44 = .ok (.goto 9, 3) := by decide +kernel
theorem dX3_move_47 : decode cX3_move 47 = .ok (.aload_n 0, 1) := by decide +kernel
theorem dX3_move_48 : decode cX3_move 48 = .ok (.getfield 33, 3) := by decide +kernel
theorem dX3_move_51 : decode cX3_move 51 = .ok (.iload_n 2, 1) := by decide +kernel
theorem dX3_move_52 : decode cX3_move 52 = .ok (.isub, 1) := by decide +kernel
theorem dX3_move_53 : decode cX3_move 53 = .ok (.iadd, 1) := by decide +kernel
theorem dX3_move_54 : decode cX3_move 54 = .ok (.putfield 53, 3) := by decide +kernel
theorem dX3_move_57 : decode cX3_move 57 = .ok (.aload_n 0, 1) := by decide +kernel
theorem dX3_move_58 : decode cX3_move 58 = .ok (.iload_n 2, 1) := by decide +kernel
theorem dX3_move_59 : decode cX3_move 59 = .ok (.putfield 33, 3) := by decide +kernel
theorem dX3_move_62 : decode cX3_move 62 = .ok (.return_, 1) := by decide +kernel
set_option maxRecDepth 20000 in
theorem ggX3_ask_X3_many : GoodIn wsX3_ask wsX3_many := goodIn_r _ [15, 1, 34, 35, 36, 37, 38, 39, 40, 41, 42, 43, 44, 45, 46] (by decide +kernel) (by decide +kernel)
set_option maxRecDepth 20000 in
theorem gX3_ask_X3_many : GoodIn wsX3_ask (wsV RX3 56 RX3 yX3_many wsX3_many) := goodIn_app (goodIn_of _ (by decide +kernel)) ggX3_ask_X3_many
set_option maxRecDepth 20000 in
theorem ggX3_ask_X3_move : GoodIn wsX3_ask wsX3_move := goodIn_r _ [19, 7, 20, 10, 34, 35, 36, 37, 38, 39, 40, 41, 42, 43, 44, 45, 46] (by decide +kernel) (by decide +kernel)
set_option maxRecDepth 20000 in
theorem gX3_ask_X3_move : GoodIn wsX3_ask (wsV RX3 67 RX3 yX3_move wsX3_move) := goodIn_app (goodIn_of _ (by decide +kernel)) ggX3_ask_X3_move
set_option maxRecDepth 20000 in
theorem ggX3_ask_X3_makeRoom : GoodIn wsX3_ask wsX3_makeRoom := goodIn_r _ [24, 7, 10, 11, 12, 13, 14, 15, 1, 25, 26, 27, 28, 29, 30, 31, 32, 33, 4, 34, 35, 36, 37, 38, 39, 40, 41, 42, 43, 44, 45, 46] (by decide +kernel) (by decide +kernel)
set_option maxRecDepth 20000 in
theorem gX3_ask_X3_makeRoom : GoodIn wsX3_ask (wsV RX3 71 RX3 yX3_makeRoom wsX3_makeRoom) := goodIn_app (goodIn_of _ (by decide +kernel)) ggX3_ask_X3_makeRoom
set_option maxRecDepth 20000 in
theorem ggX3_ask_X3_last : GoodIn wsX3_ask wsX3_last := goodIn_r _ [28, 1, 29, 34, 35, 36, 37, 38, 39, 40, 41, 42, 43, 44, 45, 46] (by decide +kernel) (by decide +kernel)
set_option maxRecDepth 20000 in
theorem gX3_ask_X3_last : GoodIn wsX3_ask (wsV RX3 60 RX3 yX3_last wsX3_last) := goodIn_app (goodIn_of _ (by decide +kernel)) ggX3_ask_X3_last
set_option maxRecDepth 20000 in
theorem ggX3_ask_X3_put : GoodIn wsX3_ask wsX3_put := goodIn_r _ [33, 4, 1, 29, 34, 35, 36, 37, 38, 39, 40, 41, 42, 43, 44, 45, 46] (by decide +kernel) (by decide +kernel)
set_option maxRecDepth 20000 in
theorem gX3_ask_X3_put : GoodIn wsX3_ask (wsV RX3 63 RX3 yX3_put wsX3_put) := goodIn_app (goodIn_of _ (by decide +kernel)) ggX3_ask_X3_put
theorem dX3_ask_0 : decode cX3_ask 0 = .ok (.aload_n 0, 1) := by decide +kernel
theorem dX3_ask_1 : decode cX3_ask 1 = .ok (.getfield 13, 3) := by decide +kernel
theorem dX3_ask_4 : decode cX3_ask 4 = .ok (.iload_n 1, 1) := by decide +kernel
theorem dX3_ask_5 : decode cX3_ask 5 = .ok (.iaload, 1) := by decide +kernel
theorem dX3_ask_6 : decode cX3_ask 6 = .ok (.istore_n 2, 1) := by decide +kernel
theorem dX3_ask_7 : decode cX3_ask 7 = .ok (.aload_n 0, 1) := by decide +kernel
theorem dX3_ask_8 : decode cX3_ask 8 = .ok (.dup, 1) := by decide +kernel
theorem dX3_ask_9 : decode cX3_ask 9 = .ok (.getfield 44, 3) := by decide +kernel
theorem dX3_ask_12 : decode cX3_ask 12 = .ok (.iconst 1, 1) := by decide +kernel
theorem dX3_ask_13 : decode cX3_ask 13 = .ok (.iadd, 1) := by decide +kernel
theorem dX3_ask_14 : decode cX3_ask 14 = .ok (.putfield 44, 3) := by decide +kernel
theorem dX3_ask_17 : decode cX3_ask 17 = .ok (.aload_n 0, 1) := by decide +kernel
theorem dX3_ask_18 : decode cX3_ask 18 = .ok (.getfield 26, 3) := by decide +kernel
theorem dX3_ask_21 : decode cX3_ask 21 = .ok (.iload_n 1, 1) := by decide +kernel
theorem dX3_ask_22 : decode cX3_ask 22 = .ok (.dup2, 1) := by decide +kernel
theorem dX3_ask_23 : decode cX3_ask 23 = .ok (.iaload, 1) := by decide +kernel
theorem dX3_ask_24 : decode cX3_ask 24 = .ok (.iconst 1, 1) := by decide +kernel
theorem dX3_ask_25 : decode cX3_ask 25 = .ok (.iadd, 1) := by decide +kernel
theorem dX3_ask_26 : decode cX3_ask 26 = .ok (.iastore, 1) := by decide +kernel
theorem dX3_ask_27 : decode cX3_ask 27 = .ok (.aload_n 0, 1) := by decide +kernel
theorem dX3_ask_28 : decode cX3_ask 28 = .ok (.dup, 1) := by decide +kernel
theorem dX3_ask_29 : decode cX3_ask 29 = .ok (.getfield 41, 3) := by decide +kernel
theorem dX3_ask_32 : decode cX3_ask 32 = .ok (.iconst 1, 1) := by decide +kernel
theorem dX3_ask_33 : decode cX3_ask 33 = .ok (.iadd, 1) := by decide +kernel
theorem dX3_ask_34 : decode cX3_ask 34 = .ok (.putfield 41, 3) := by decide +kernel
theorem dX3_ask_37 : decode cX3_ask 37 = .ok (.aload_n 0, 1) := by decide +kernel
theorem dX3_ask_38 : decode cX3_ask 38 = .ok (.getfield 20, 3) := by decide +kernel
theorem dX3_ask_41 : decode cX3_ask 41 = .ok (.iload_n 1, 1) := by decide +kernel
theorem dX3_ask_42 : decode cX3_ask 42 = .ok (.iaload, 1) := by decide +kernel
theorem dX3_ask_43 : decode cX3_ask 43 = .ok (.ifCond .le 16, 3) := by decide +kernel
theorem dX3_ask_46 : decode cX3_ask 46 = .ok (.aload_n 0, 1) := by decide +kernel
theorem dX3_ask_47 : decode cX3_ask 47 = .ok (.dup, 1) := by decide +kernel
theorem dX3_ask_48 : decode cX3_ask 48 = .ok (.getfield 50, 3) := by decide +kernel
theorem dX3_ask_51 : decode cX3_ask 51 = .ok (.iconst 1, 1) := by decide +kernel
theorem dX3_ask_52 : decode cX3_ask 52 = .ok (.iadd, 1) := by decide +kernel
theorem dX3_ask_53 : decode cX3_ask 53 = .ok (.putfield 50, 3) := by decide +kernel
theorem dX3_ask_56 : decode cX3_ask 56 = .ok (.goto 79, 3) := by decide +kernel
theorem dX3_ask_59 : decode cX3_ask 59 = .ok (.iconst (-1), 1) := by decide +kernel
theorem dX3_ask_60 : decode cX3_ask 60 = .ok (.istore_n 3, 1) := by decide +kernel
theorem dX3_ask_61 : decode cX3_ask 61 = .ok (.iconst 0, 1) := by decide +kernel
theorem dX3_ask_62 : decode cX3_ask 62 = .ok (.istore 4, 2) := by decide +kernel
theorem dX3_ask_64 : decode cX3_ask 64 = .ok (.iconst 0, 1) := by decide +kernel
theorem dX3_ask_65 : decode cX3_ask 65 = .ok (.istore 5, 2) := by decide +kernel
theorem dX3_ask_67 : decode cX3_ask 67 = .ok (.iload 5, 2) := by decide +kernel
theorem dX3_ask_69 : decode cX3_ask 69 = .ok (.bipush 30, 2) := by decide +kernel
theorem dX3_ask_71 : decode cX3_ask 71 = .ok (.if_icmp .ge 48, 3) := by decide +kernel
theorem dX3_ask_74 : decode cX3_ask 74 = .ok (.aload_n 0, 1) := by decide +kernel
theorem dX3_ask_75 : decode cX3_ask 75 = .ok (.getfield 20, 3) := by decide +kernel
theorem dX3_ask_78 : decode cX3_ask 78 = .ok (.iload 5, 2) := by decide +kernel
theorem dX3_ask_80 : decode cX3_ask 80 = .ok (.iaload, 1) := by decide +kernel
theorem dX3_ask_81 : decode cX3_ask 81 = .ok (.ifCond .ne 6, 3) := by decide +kernel
theorem dX3_ask_84 : decode cX3_ask 84 = .ok (.goto 29, 3) := by decide +kernel
theorem dX3_ask_87 : decode cX3_ask 87 = .ok (.iinc 4 1, 3) := by decide +kernel
theorem dX3_ask_90 : decode cX3_ask 90 = .ok (.iload_n 3, 1) := by decide +kernel
theorem dX3_ask_91 : decode cX3_ask 91 = .ok (.ifCond .lt 19, 3) := by decide +kernel
theorem dX3_ask_94 : decode cX3_ask 94 = .ok (.aload_n 0, 1) := by decide +kernel
theorem dX3_ask_95 : decode cX3_ask 95 = .ok (.getfield 20, 3) := by decide +kernel
theorem dX3_ask_98 : decode cX3_ask 98 = .ok (.iload 5, 2) := by decide +kernel
theorem dX3_ask_100 : decode cX3_ask 100 = .ok (.iaload, 1) := by decide +kernel
theorem dX3_ask_101 : decode cX3_ask 101 = .ok (.aload_n 0, 1) := by decide +kernel
theorem dX3_ask_102 : decode cX3_ask 102 = .ok (.getfield 20, 3) := by decide +kernel
theorem dX3_ask_105 : decode cX3_ask 105 = .ok (.iload_n 3, 1) := by decide +kernel
theorem dX3_ask_106 : decode cX3_ask 106 = .ok (.iaload, 1) := by decide +kernel
theorem dX3_ask_107 : decode cX3_ask 107 = .ok (.if_icmp .ge 6, 3) := by decide +kernel
theorem dX3_ask_110 : decode cX3_ask 110 = .ok (.iload 5, 2) := by decide +kernel
theorem dX3_ask_112 : decode cX3_ask 112 = .ok (.istore_n 3, 1) := by decide +kernel
theorem dX3_ask_113 : decode cX3_ask 113 = .ok (.iinc 5 1, 3) := by decide +kernel
theorem dX3_ask_116 : decode cX3_ask 116 = .ok (.goto (-49), 3) := by decide +kernel
theorem dX3_ask_119 : decode cX3_ask 119 = .ok (.iload 4, 2) := by decide +kernel
theorem dX3_ask_121 : decode cX3_ask 121 = .ok (.aload_n 0, 1) := by decide +kernel
theorem dX3_ask_122 : decode cX3_ask 122 = .ok (.getfield 7, 3) := by decide +kernel
theorem dX3_ask_125 : decode cX3_ask 125 = .ok (.if_icmp .ne 10, 3) := by decide +kernel
theorem dX3_ask_128 : decode cX3_ask 128 = .ok (.aload_n 0, 1) := by decide +kernel
theorem dX3_ask_129 : decode cX3_ask 129 = .ok (.getfield 20, 3) := by decide +kernel
theorem dX3_ask_132 : decode cX3_ask 132 = .ok (.iload_n 3, 1) := by decide +kernel
theorem dX3_ask_133 : decode cX3_ask 133 = .ok (.iconst 0, 1) := by decide +kernel
theorem dX3_ask_134 : decode cX3_ask 134 = .ok (.iastore, 1) := by decide +kernel
theorem dX3_ask_135 : decode cX3_ask 135 = .ok (.aload_n 0, 1) := by decide +kernel
theorem dX3_ask_136 : decode cX3_ask 136 = .ok (.getfield 20, 3) := by decide +kernel
theorem dX3_ask_139 : decode cX3_ask 139 = .ok (.iload_n 1, 1) := by decide +kernel
theorem dX3_ask_140 : decode cX3_ask 140 = .ok (.aload_n 0, 1) := by decide +kernel
theorem dX3_ask_141 : decode cX3_ask 141 = .ok (.getfield 41, 3) := by decide +kernel
theorem dX3_ask_144 : decode cX3_ask 144 = .ok (.iastore, 1) := by decide +kernel
theorem dX3_ask_145 : decode cX3_ask 145 = .ok (.aload_n 0, 1) := by decide +kernel
theorem dX3_ask_146 : decode cX3_ask 146 = .ok (.iconst 3, 1) := by decide +kernel
theorem dX3_ask_147 : decode cX3_ask 147 = .ok (.invokevirtual 56, 3) := by decide +kernel
theorem dX3_ask_150 : decode cX3_ask 150 = .ok (.istore_n 3, 1) := by decide +kernel
theorem dX3_ask_151 : decode cX3_ask 151 = .ok (.aload_n 0, 1) := by decide +kernel
theorem dX3_ask_152 : decode cX3_ask 152 = .ok (.iconst 4, 1) := by decide +kernel
theorem dX3_ask_153 : decode cX3_ask 153 = .ok (.invokevirtual 56, 3) := by decide +kernel
theorem dX3_ask_156 : decode cX3_ask 156 = .ok (.istore 4, 2) := by decide +kernel
theorem dX3_ask_158 : decode cX3_ask 158 = .ok (.iload_n 2, 1) := by decide +kernel
theorem dX3_ask_159 : decode cX3_ask 159 = .ok (.iconst 1, 1) := by decide +kernel
theorem dX3_ask_160 : decode cX3_ask 160 = .ok (.if_icmp .eq 8, 3) := by decide +kernel
theorem dX3_ask_163 : decode cX3_ask 163 = .ok (.iload_n 2, 1) := by decide +kernel
theorem dX3_ask_164 : decode cX3_ask 164 = .ok (.iconst 2, 1) := by decide +kernel
theorem dX3_ask_165 : decode cX3_ask 165 = .ok (.if_icmp .ne 26, 3) := by decide +kernel
theorem dX3_ask_168 : decode cX3_ask 168 = .ok (.aload_n 0, 1) := by decide +kernel
theorem dX3_ask_169 : decode cX3_ask 169 = .ok (.dup, 1) := by decide +kernel
theorem dX3_ask_170 : decode cX3_ask 170 = .ok (.getfield 47, 3) := by decide +kernel
theorem dX3_ask_173 : decode cX3_ask 173 = .ok (.iconst 1, 1) := by decide +kernel
theorem dX3_ask_174 : decode cX3_ask 174 = .ok (.iadd, 1) := by decide +kernel
theorem dX3_ask_175 : decode cX3_ask 175 = .ok (.putfield 47, 3) := by decide +kernel
theorem dX3_ask_178 : decode cX3_ask 178 = .ok (.aload_n 0, 1) := by decide +kernel
theorem dX3_ask_179 : decode cX3_ask 179 = .ok (.getfield 29, 3) := by decide +kernel
theorem dX3_ask_182 : decode cX3_ask 182 = .ok (.iload_n 1, 1) := by decide +kernel
theorem dX3_ask_183 : decode cX3_ask 183 = .ok (.dup2, 1) := by decide +kernel
theorem dX3_ask_184 : decode cX3_ask 184 = .ok (.iaload, 1) := by decide +kernel
theorem dX3_ask_185 : decode cX3_ask 185 = .ok (.iconst 1, 1) := by decide +kernel
theorem dX3_ask_186 : decode cX3_ask 186 = .ok (.iadd, 1) := by decide +kernel
theorem dX3_ask_187 : decode cX3_ask 187 = .ok (.iastore, 1) := by decide +kernel
theorem dX3_ask_188 : decode cX3_ask 188 = .ok (.goto 200, 3) := by decide +kernel
theorem dX3_ask_191 : decode cX3_ask 191 = .ok (.iload_n 2, 1) := by decide +kernel
theorem dX3_ask_192 : decode cX3_ask 192 = .ok (.iconst 3, 1) := by decide +kernel
theorem dX3_ask_193 : decode cX3_ask 193 = .ok (.if_icmp .ne 34, 3) := by decide +kernel
theorem dX3_ask_196 : decode cX3_ask 196 = .ok (.aload_n 0, 1) := by decide +kernel
theorem dX3_ask_197 : decode cX3_ask 197 = .ok (.aload_n 0, 1) := by decide +kernel
theorem dX3_ask_198 : decode cX3_ask 198 = .ok (.getfield 33, 3) := by decide +kernel
theorem dX3_ask_201 : decode cX3_ask 201 = .ok (.iload 4, 2) := by decide +kernel
theorem dX3_ask_203 : decode cX3_ask 203 = .ok (.iload_n 3, 1) := by decide +kernel
theorem dX3_ask_204 : decode cX3_ask 204 = .ok (.if_icmp .le 10, 3) := by decide +kernel
theorem dX3_ask_207 : decode cX3_ask 207 = .ok (.iload 4, 2) := by decide +kernel
theorem dX3_ask_209 : decode cX3_ask 209 = .ok (.iload_n 3, 1) := by decide +kernel
theorem dX3_ask_210 : decode cX3_ask 210 = .ok (.idiv, 1) := by decide +kernel
theorem dX3_ask_211 : decode cX3_ask 211 = .ok (.goto 4, 3) := by decide +kernel
theorem dX3_ask_214 : decode cX3_ask 214 = .ok (.iconst 1, 1) := by decide +kernel
theorem dX3_ask_215 : decode cX3_ask 215 = .ok (.iadd, 1) := by decide +kernel
theorem dX3_ask_216 : decode cX3_ask 216 = .ok (.invokevirtual 67, 3) := by decide +kernel
theorem dX3_ask_219 : decode cX3_ask 219 = .ok (.aload_n 0, 1) := by decide +kernel
theorem dX3_ask_220 : decode cX3_ask 220 = .ok (.iconst 0, 1) := by decide +kernel
theorem dX3_ask_221 : decode cX3_ask 221 = .ok (.invokevirtual 71, 3) := by decide +kernel
theorem dX3_ask_224 : decode cX3_ask 224 = .ok (.goto 164, 3) := by decide +kernel
theorem dX3_ask_227 : decode cX3_ask 227 = .ok (.iload_n 2, 1) := by decide +kernel
theorem dX3_ask_228 : decode cX3_ask 228 = .ok (.iconst 4, 1) := by decide +kernel
theorem dX3_ask_229 : decode cX3_ask 229 = .ok (.if_icmp .ne 34, 3) := by decide +kernel
theorem dX3_ask_232 : decode cX3_ask 232 = .ok (.aload_n 0, 1) := by decide +kernel
theorem dX3_ask_233 : decode cX3_ask 233 = .ok (.aload_n 0, 1) := by decide +kernel
theorem dX3_ask_234 : decode cX3_ask 234 = .ok (.getfield 33, 3) := by decide +kernel
theorem dX3_ask_237 : decode cX3_ask 237 = .ok (.iload_n 3, 1) := by decide +kernel
theorem dX3_ask_238 : decode cX3_ask 238 = .ok (.iload 4, 2) := by decide +kernel
theorem dX3_ask_240 : decode cX3_ask 240 = .ok (.if_icmp .le 10, 3) := by decide +kernel
theorem dX3_ask_243 : decode cX3_ask 243 = .ok (.iload_n 3, 1) := by decide +kernel
theorem dX3_ask_244 : decode cX3_ask 244 = .ok (.iload 4, 2) := by decide +kernel
theorem dX3_ask_246 : decode cX3_ask 246 = .ok (.idiv, 1) := by decide +kernel
theorem dX3_ask_247 : decode cX3_ask 247 = .ok (.goto 4, 3) := by decide +kernel
theorem dX3_ask_250 : decode cX3_ask 250 = .ok (.iconst 1, 1) := by decide +kernel
theorem dX3_ask_251 : decode cX3_ask 251 = .ok (.isub, 1) := by decide +kernel
theorem dX3_ask_252 : decode cX3_ask 252 = .ok (.invokevirtual 67, 3) := by decide +kernel
theorem dX3_ask_255 : decode cX3_ask 255 = .ok (.aload_n 0, 1) := by decide +kernel
theorem dX3_ask_256 : decode cX3_ask 256 = .ok (.iconst 1, 1) := by decide +kernel
theorem dX3_ask_257 : decode cX3_ask 257 = .ok (.invokevirtual 71, 3) := by decide +kernel
theorem dX3_ask_260 : decode cX3_ask 260 = .ok (.goto 128, 3) := by decide +kernel
theorem dX3_ask_263 : decode cX3_ask 263 = .ok (.aload_n 0, 1) := by decide +kernel
theorem dX3_ask_264 : decode cX3_ask 264 = .ok (.iconst 1, 1) := by decide +kernel
theorem dX3_ask_265 : decode cX3_ask 265 = .ok (.invokevirtual 56, 3) := by decide +kernel
theorem dX3_ask_268 : decode cX3_ask 268 = .ok (.iload_n 3, 1) := by decide +kernel
theorem dX3_ask_269 : decode cX3_ask 269 = .ok (.iadd, 1) := by decide +kernel
theorem dX3_ask_270 : decode cX3_ask 270 = .ok (.istore 5, 2) := by decide +kernel
theorem dX3_ask_272 : decode cX3_ask 272 = .ok (.iload 5, 2) := by decide +kernel
theorem dX3_ask_274 : decode cX3_ask 274 = .ok (.aload_n 0, 1) := by decide +kernel
theorem dX3_ask_275 : decode cX3_ask 275 = .ok (.iconst 2, 1) := by decide +kernel
theorem dX3_ask_276 : decode cX3_ask 276 = .ok (.invokevirtual 56, 3) := by decide +kernel
theorem dX3_ask_279 : decode cX3_ask 279 = .ok (.iadd, 1) := by decide +kernel
theorem dX3_ask_280 : decode cX3_ask 280 = .ok (.iload 4, 2) := by decide +kernel
theorem dX3_ask_282 : decode cX3_ask 282 = .ok (.iadd, 1) := by decide +kernel
theorem dX3_ask_283 : decode cX3_ask 283 = .ok (.istore 6, 2) := by decide +kernel
theorem dX3_ask_285 : decode cX3_ask 285 = .ok (.iload 5, 2) := by decide +kernel
theorem dX3_ask_287 : decode cX3_ask 287 = .ok (.aload_n 0, 1) := by decide +kernel
theorem dX3_ask_288 : decode cX3_ask 288 = .ok (.getfield 7, 3) := by decide +kernel
theorem dX3_ask_291 : decode cX3_ask 291 = .ok (.if_icmp .ne 21, 3) := by decide +kernel
theorem dX3_ask_294 : decode cX3_ask 294 = .ok (.iload_n 3, 1) := by decide +kernel
theorem dX3_ask_295 : decode cX3_ask 295 = .ok (.ifCond .ne 17, 3) := by decide +kernel
theorem dX3_ask_298 : decode cX3_ask 298 = .ok (.aload_n 0, 1) := by decide +kernel
theorem dX3_ask_299 : decode cX3_ask 299 = .ok (.getfield 13, 3) := by decide +kernel
theorem dX3_ask_302 : decode cX3_ask 302 = .ok (.aload_n 0, 1) := by decide +kernel
theorem dX3_ask_303 : decode cX3_ask 303 = .ok (.iconst 1, 1) := by decide +kernel
theorem dX3_ask_304 : decode cX3_ask 304 = .ok (.invokevirtual 60, 3) := by decide +kernel
theorem dX3_ask_307 : decode cX3_ask 307 = .ok (.iconst 0, 1) := by decide +kernel
theorem dX3_ask_308 : decode cX3_ask 308 = .ok (.iastore, 1) := by decide +kernel
theorem dX3_ask_309 : decode cX3_ask 309 = .ok (.goto 79, 3) := by decide +kernel
theorem dX3_ask_312 : decode cX3_ask 312 = .ok (.iload 5, 2) := by decide +kernel
theorem dX3_ask_314 : decode cX3_ask 314 = .ok (.aload_n 0, 1) := by decide +kernel
theorem dX3_ask_315 : decode cX3_ask 315 = .ok (.getfield 7, 3) := by decide +kernel
theorem dX3_ask_318 : decode cX3_ask 318 = .ok (.if_icmp .ne 22, 3) := by decide +kernel
theorem dX3_ask_321 : decode cX3_ask 321 = .ok (.aload_n 0, 1) := by decide +kernel
theorem dX3_ask_322 : decode cX3_ask 322 = .ok (.getfield 13, 3) := by decide +kernel
theorem dX3_ask_325 : decode cX3_ask 325 = .ok (.aload_n 0, 1) := by decide +kernel
theorem dX3_ask_326 : decode cX3_ask 326 = .ok (.iconst 3, 1) := by decide +kernel
theorem dX3_ask_327 : decode cX3_ask 327 = .ok (.invokevirtual 60, 3) := by decide +kernel
theorem dX3_ask_330 : decode cX3_ask 330 = .ok (.iconst 0, 1) := by decide +kernel
theorem dX3_ask_331 : decode cX3_ask 331 = .ok (.iastore, 1) := by decide +kernel
theorem dX3_ask_332 : decode cX3_ask 332 = .ok (.aload_n 0, 1) := by decide +kernel
theorem dX3_ask_333 : decode cX3_ask 333 = .ok (.iconst 0, 1) := by decide +kernel
theorem dX3_ask_334 : decode cX3_ask 334 = .ok (.invokevirtual 71, 3) := by decide +kernel
theorem dX3_ask_337 : decode cX3_ask 337 = .ok (.goto 51, 3) := by decide +kernel
theorem dX3_ask_340 : decode cX3_ask 340 = .ok (.iload 5, 2) := by decide +kernel
theorem dX3_ask_342 : decode cX3_ask 342 = .ok (.aload_n 0, 1) := by decide +kernel
theorem dX3_ask_343 : decode cX3_ask 343 = .ok (.getfield 7, 3) := by decide +kernel
theorem dX3_ask_346 : decode cX3_ask 346 = .ok (.if_icmp .ge 42, 3) := by decide +kernel
theorem dX3_ask_349 : decode cX3_ask 349 = .ok (.iload 6, 2) := by decide +kernel
theorem dX3_ask_351 : decode cX3_ask 351 = .ok (.aload_n 0, 1) := by decide +kernel
theorem dX3_ask_352 : decode cX3_ask 352 = .ok (.getfield 7, 3) := by decide +kernel
theorem dX3_ask_355 : decode cX3_ask 355 = .ok (.if_icmp .lt 33, 3) := by decide +kernel
theorem dX3_ask_358 : decode cX3_ask 358 = .ok (.iload 6, 2) := by decide +kernel
theorem dX3_ask_360 : decode cX3_ask 360 = .ok (.aload_n 0, 1) := by decide +kernel
theorem dX3_ask_361 : decode cX3_ask 361 = .ok (.getfield 7, 3) := by decide +kernel
theorem dX3_ask_364 : decode cX3_ask 364 = .ok (.aload_n 0, 1) := by decide +kernel
theorem dX3_ask_365 : decode cX3_ask 365 = .ok (.getfield 7, 3) := by decide +kernel
theorem dX3_ask_368 : decode cX3_ask 368 = .ok (.iadd, 1) := by decide +kernel
theorem dX3_ask_369 : decode cX3_ask 369 = .ok (.if_icmp .ne 14, 3) := by decide +kernel
theorem dX3_ask_372 : decode cX3_ask 372 = .ok (.aload_n 0, 1) := by decide +kernel
theorem dX3_ask_373 : decode cX3_ask 373 = .ok (.getfield 13, 3) := by decide +kernel
theorem dX3_ask_376 : decode cX3_ask 376 = .ok (.aload_n 0, 1) := by decide +kernel
theorem dX3_ask_377 : decode cX3_ask 377 = .ok (.iconst 4, 1) := by decide +kernel
theorem dX3_ask_378 : decode cX3_ask 378 = .ok (.invokevirtual 60, 3) := by decide +kernel
theorem dX3_ask_381 : decode cX3_ask 381 = .ok (.iconst 0, 1) := by decide +kernel
theorem dX3_ask_382 : decode cX3_ask 382 = .ok (.iastore, 1) := by decide +kernel
theorem dX3_ask_383 : decode cX3_ask 383 = .ok (.aload_n 0, 1) := by decide +kernel
theorem dX3_ask_384 : decode cX3_ask 384 = .ok (.iconst 0, 1) := by decide +kernel
theorem dX3_ask_385 : decode cX3_ask 385 = .ok (.invokevirtual 71, 3) := by decide +kernel
theorem dX3_ask_388 : decode cX3_ask 388 = .ok (.aload_n 0, 1) := by decide +kernel
theorem dX3_ask_389 : decode cX3_ask 389 = .ok (.iload_n 1, 1) := by decide +kernel
theorem dX3_ask_390 : decode cX3_ask 390 = .ok (.iload_n 2, 1) := by decide +kernel
theorem dX3_ask_391 : decode cX3_ask 391 = .ok (.ifCond .ne 7, 3) := by decide +kernel
theorem dX3_ask_394 : decode cX3_ask 394 = .ok (.iconst 1, 1) := by decide +kernel
theorem dX3_ask_395 : decode cX3_ask 395 = .ok (.goto 4, 3) := by decide +kernel
theorem dX3_ask_398 : decode cX3_ask 398 = .ok (.iconst 2, 1) := by decide +kernel
theorem dX3_ask_399 : decode cX3_ask 399 = .ok (.invokevirtual 63, 3) := by decide +kernel
theorem dX3_ask_402 : decode cX3_ask 402 = .ok (.iload_n 2, 1) := by decide +kernel
theorem dX3_ask_403 : decode cX3_ask 403 = .ok (.ireturn, 1) := by decide +kernel
set_option maxRecDepth 20000 in
theorem ggX3_cook_X3_ask : GoodIn wsX3_cook wsX3_ask := goodIn_r _ [7, 8, 9, 10, 11, 12, 13, 14, 1, 15, 16, 17, 18, 19, 6, 20, 21, 22, 23, 24, 25, 26, 27, 28, 29, 30, 31, 32, 33, 34, 35, 36, 37, 38, 39, 40, 41, 42, 43, 44, 45, 46, 47, 48, 49, 50, 51] (by decide +kernel) (by decide +kernel)
set_option maxRecDepth 20000 in
theorem gX3_cook_X3_ask : GoodIn wsX3_cook (wsV RX3 75 RX3 yX3_ask wsX3_ask) := goodIn_app (goodIn_of _ (by decide +kernel)) ggX3_cook_X3_ask
theorem dX3_cook_0 : decode cX3_cook 0 = .ok (.aload_n 0, 1) := by decide +kernel
theorem dX3_cook_1 : decode cX3_cook 1 = .ok (.getfield 47, 3) := by decide +kernel
theorem dX3_cook_4 : decode cX3_cook 4 = .ok (.istore_n 1, 1) := by decide +kernel
theorem dX3_cook_5 : decode cX3_cook 5 = .ok (.aload_n 0, 1) := by decide +kernel
theorem dX3_cook_6 : decode cX3_cook 6 = .ok (.getfield 23, 3) := by decide +kernel
theorem dX3_cook_9 : decode cX3_cook 9 = .ok (.astore_n 2, 1) := by decide +kernel
theorem dX3_cook_10 : decode cX3_cook 10 = .ok (.aload_n 2, 1) := by decide +kernel
theorem dX3_cook_11 : decode cX3_cook 11 = .ok (.arraylength, 1) := by decide +kernel
theorem dX3_cook_12 : decode cX3_cook 12 = .ok (.istore_n 3, 1) := by decide +kernel
theorem dX3_cook_13 : decode cX3_cook 13 = .ok (.iconst 0, 1) := by decide +kernel
theorem dX3_cook_14 : decode cX3_cook 14 = .ok (.istore 4, 2) := by decide +kernel
theorem dX3_cook_16 : decode cX3_cook 16 = .ok (.iload 4, 2) := by decide +kernel
theorem dX3_cook_18 : decode cX3_cook 18 = .ok (.iload_n 3, 1) := by decide +kernel
theorem dX3_cook_19 : decode cX3_cook 19 = .ok (.if_icmp .ge 22, 3) := by decide +kernel
theorem dX3_cook_22 : decode cX3_cook 22 = .ok (.aload_n 2, 1) := by decide +kernel
theorem dX3_cook_23 : decode cX3_cook 23 = .ok (.iload 4, 2) := by decide +kernel
theorem dX3_cook_25 : decode cX3_cook 25 = .ok (.iaload, 1) := by decide +kernel
theorem dX3_cook_26 : decode cX3_cook 26 = .ok (.istore 5, 2) := by decide +kernel
theorem dX3_cook_28 : decode cX3_cook 28 = .ok (.aload_n 0, 1) := by decide +kernel
theorem dX3_cook_29 : decode cX3_cook 29 = .ok (.iload 5, 2) := by decide +kernel
theorem dX3_cook_31 : decode cX3_cook 31 = .ok (.invokevirtual 75, 3) := by decide +kernel
theorem dX3_cook_34 : decode cX3_cook 34 = .ok (.pop, 1) := by decide +kernel
theorem dX3_cook_35 : decode cX3_cook 35 = .ok (.iinc 4 1, 3) := by decide +kernel
theorem dX3_cook_38 : decode cX3_cook 38 = .ok (.goto (-22), 3) := by decide +kernel
theorem dX3_cook_41 : decode cX3_cook 41 = .ok (.aload_n 0, 1) := by decide +kernel
theorem dX3_cook_42 : decode cX3_cook 42 = .ok (.getfield 47, 3) := by decide +kernel
theorem dX3_cook_45 : decode cX3_cook 45 = .ok (.iload_n 1, 1) := by decide +kernel
theorem dX3_cook_46 : decode cX3_cook 46 = .ok (.isub, 1) := by decide +kernel
theorem dX3_cook_47 : decode cX3_cook 47 = .ok (.ireturn, 1) := by decide +kernel
theorem dX3_place_0 : decode cX3_place 0 = .ok (.iconst 0, 1) := by decide +kernel
theorem dX3_place_1 : decode cX3_place 1 = .ok (.istore_n 2, 1) := by decide +kernel
theorem dX3_place_2 : decode cX3_place 2 = .ok (.iconst 0, 1) := by decide +kernel
theorem dX3_place_3 : decode cX3_place 3 = .ok (.istore_n 3, 1) := by decide +kernel
theorem dX3_place_4 : decode cX3_place 4 = .ok (.iload_n 3, 1) := by decide +kernel
theorem dX3_place_5 : decode cX3_place 5 = .ok (.bipush 30, 2) := by decide +kernel
theorem dX3_place_7 : decode cX3_place 7 = .ok (.if_icmp .ge 47, 3) := by decide +kernel
theorem dX3_place_10 : decode cX3_place 10 = .ok (.iload_n 2, 1) := by decide +kernel
theorem dX3_place_11 : decode cX3_place 11 = .ok (.aload_n 0, 1) := by decide +kernel
theorem dX3_place_12 : decode cX3_place 12 = .ok (.getfield 13, 3) := by decide +kernel
theorem dX3_place_15 : decode cX3_place 15 = .ok (.iload_n 3, 1) := by decide +kernel
theorem dX3_place_16 : decode cX3_place 16 = .ok (.iaload, 1) := by decide +kernel
theorem dX3_place_17 : decode cX3_place 17 = .ok (.aload_n 0, 1) := by decide +kernel
theorem dX3_place_18 : decode cX3_place 18 = .ok (.getfield 13, 3) := by decide +kernel
theorem dX3_place_21 : decode cX3_place 21 = .ok (.iload_n 1, 1) := by decide +kernel
theorem dX3_place_22 : decode cX3_place 22 = .ok (.iaload, 1) := by decide +kernel
theorem dX3_place_23 : decode cX3_place 23 = .ok (.if_icmp .ne 22, 3) := by decide +kernel
theorem dX3_place_26 : decode cX3_place 26 = .ok (.aload_n 0, 1) := by decide +kernel
theorem dX3_place_27 : decode cX3_place 27 = .ok (.getfield 17, 3) := by decide +kernel
theorem dX3_place_30 : decode cX3_place 30 = .ok (.iload_n 3, 1) := by decide +kernel
theorem dX3_place_31 : decode cX3_place 31 = .ok (.iaload, 1) := by decide +kernel
theorem dX3_place_32 : decode cX3_place 32 = .ok (.aload_n 0, 1) := by decide +kernel
theorem dX3_place_33 : decode cX3_place 33 = .ok (.getfield 17, 3) := by decide +kernel
theorem dX3_place_36 : decode cX3_place 36 = .ok (.iload_n 1, 1) := by decide +kernel
theorem dX3_place_37 : decode cX3_place 37 = .ok (.iaload, 1) := by decide +kernel
theorem dX3_place_38 : decode cX3_place 38 = .ok (.if_icmp .le 7, 3) := by decide +kernel
theorem dX3_place_41 : decode cX3_place 41 = .ok (.iconst 1, 1) := by decide +kernel
theorem dX3_place_42 : decode cX3_place 42 = .ok (.goto 4, 3) := by decide +kernel
theorem dX3_place_45 : decode cX3_place 45 = .ok (.iconst 0, 1) := by decide +kernel
theorem dX3_place_46 : decode cX3_place 46 = .ok (.iadd, 1) := by decide +kernel
theorem dX3_place_47 : decode cX3_place 47 = .ok (.istore_n 2, 1) := by decide +kernel
theorem dX3_place_48 : decode cX3_place 48 = .ok (.iinc 3 1, 3) := by decide +kernel
theorem dX3_place_51 : decode cX3_place 51 = .ok (.goto (-47), 3) := by decide +kernel
theorem dX3_place_54 : decode cX3_place 54 = .ok (.iload_n 2, 1) := by decide +kernel
theorem dX3_place_55 : decode cX3_place 55 = .ok (.ireturn, 1) := by decide +kernel
set_option maxRecDepth 20000 in
theorem ggX3_isSame_X3_place : GoodIn wsX3_isSame wsX3_place := goodIn_r _ [17, 2, 18, 91, 92, 93, 94, 95, 96, 97, 98, 99, 100, 101, 102, 103] (by decide +kernel) (by decide +kernel)
set_option maxRecDepth 20000 in
theorem gX3_isSame_X3_place : GoodIn wsX3_isSame (wsV RX3 78 RX3 yX3_place wsX3_place) := goodIn_app (goodIn_of _ (by decide +kernel)) ggX3_isSame_X3_place
set_option maxRecDepth 20000 in
theorem ggX3_isSame_X2_told : GoodIn wsX3_isSame wsX2_told := goodIn_ca (goodIn_r _ [23, 24, 25, 26, 27, 28, 29, 30, 31, 22, 32, 33, 34, 35, 36, 37, 38, 39, 40, 41, 42, 43, 44, 45, 46, 47, 48, 49, 50, 51, 52, 53, 54, 55, 56, 57, 104, 105, 106, 107, 108, 109, 110, 111, 112, 113, 114, 115, 116, 117, 118, 119, 120, 121, 122, 123] (by decide +kernel) (by decide +kernel)) (goodIn_sub (fun _ h => List.mem_cons_of_mem _ (List.mem_append_right _ h)) (by decide +kernel))
set_option maxRecDepth 20000 in
theorem gX3_isSame_X2_told : GoodIn wsX3_isSame (wsV RX3 81 RX2 yX2_told wsX2_told) := goodIn_app (goodIn_of _ (by decide +kernel)) ggX3_isSame_X2_told
set_option maxRecDepth 20000 in
theorem ggX3_isSame_X2_row : GoodIn wsX3_isSame wsX2_row := goodIn_ca (goodIn_r _ [61, 24, 25, 62, 63, 64, 22, 65, 29, 66, 26, 53, 39, 40, 36, 41, 42, 43, 44, 45, 67, 68, 69, 49, 70, 51, 71, 72, 73, 74, 52, 104, 105, 106, 107, 108, 109, 110, 111, 112, 113, 114, 115, 116, 117, 118, 119, 120, 121, 122, 123] (by decide +kernel) (by decide +kernel)) (goodIn_sub (fun _ h => List.mem_cons_of_mem _ (List.mem_append_right _ h)) (by decide +kernel))
set_option maxRecDepth 20000 in
theorem gX3_isSame_X2_row : GoodIn wsX3_isSame (wsV RX3 87 RX2 yX2_row wsX2_row) := goodIn_app (goodIn_of _ (by decide +kernel)) ggX3_isSame_X2_row
set_option maxRecDepth 20000 in
theorem ggX3_isSame_X3_many : GoodIn wsX3_isSame wsX3_many := goodIn_r _ [78, 2, 91, 92, 93, 94, 95, 96, 97, 98, 99, 100, 101, 102, 103] (by decide +kernel) (by decide +kernel)
set_option maxRecDepth 20000 in
theorem gX3_isSame_X3_many : GoodIn wsX3_isSame (wsV RX3 56 RX3 yX3_many wsX3_many) := goodIn_app (goodIn_of _ (by decide +kernel)) ggX3_isSame_X3_many
set_option maxRecDepth 20000 in
theorem ggX3_isSame_X2_count : GoodIn wsX3_isSame wsX2_count := goodIn_ca (goodIn_r _ [82, 24, 25, 26, 83, 84, 85, 86, 62, 63, 64, 22, 65, 29, 66, 53, 39, 40, 36, 41, 42, 43, 44, 45, 67, 68, 69, 49, 70, 51, 104, 105, 106, 107, 108, 109, 110, 111, 112, 113, 114, 115, 116, 117, 118, 119, 120, 121, 122, 123] (by decide +kernel) (by decide +kernel)) (goodIn_sub (fun _ h => List.mem_cons_of_mem _ (List.mem_append_right _ h)) (by decide +kernel))
set_option maxRecDepth 20000 in
theorem gX3_isSame_X2_count : GoodIn wsX3_isSame (wsV RX3 90 RX2 yX2_count wsX2_count) := goodIn_app (goodIn_of _ (by decide +kernel)) ggX3_isSame_X2_count
set_option maxRecDepth 20000 in
theorem ggX3_isSame_X2_mean : GoodIn wsX3_isSame wsX2_mean := goodIn_r _ [90, 83, 84, 104, 105, 106, 107, 108, 109, 110, 111, 112, 113, 114] (by decide +kernel) (by decide +kernel)
set_option maxRecDepth 20000 in
theorem gX3_isSame_X2_mean : GoodIn wsX3_isSame (wsV RX3 93 RX2 yX2_mean wsX2_mean) := goodIn_app (goodIn_of _ (by decide +kernel)) ggX3_isSame_X2_mean
theorem dX3_isSame_0 : decode cX3_isSame 0 = .ok (.iconst 0, 1) := by decide +kernel
theorem dX3_isSame_1 : decode cX3_isSame 1 = .ok (.istore_n 2, 1) := by decide +kernel
theorem dX3_isSame_2 : decode cX3_isSame 2 = .ok (.iconst 0, 1) := by decide +kernel
theorem dX3_isSame_3 : decode cX3_isSame 3 = .ok (.istore_n 3, 1) := by decide +kernel
theorem dX3_isSame_4 : decode cX3_isSame 4 = .ok (.iload_n 3, 1) := by decide +kernel
theorem dX3_isSame_5 : decode cX3_isSame 5 = .ok (.bipush 30, 2) := by decide +kernel
theorem dX3_isSame_7 : decode cX3_isSame 7 = .ok (.if_icmp .ge 227, 3) := by decide +kernel
theorem dX3_isSame_10 : decode cX3_isSame 10 = .ok (.iconst 5, 1) := by decide +kernel
theorem dX3_isSame_11 : decode cX3_isSame 11 = .ok (.newarray .int, 2) := by decide +kernel
theorem dX3_isSame_13 : decode cX3_isSame 13 = .ok (.dup, 1) := by decide +kernel
theorem dX3_isSame_14 : decode cX3_isSame 14 = .ok (.iconst 0, 1) := by decide +kernel
theorem dX3_isSame_15 : decode cX3_isSame 15 = .ok (.aload_n 0, 1) := by decide +kernel
theorem dX3_isSame_16 : decode cX3_isSame 16 = .ok (.getfield 13, 3) := by decide +kernel
theorem dX3_isSame_19 : decode cX3_isSame 19 = .ok (.iload_n 3, 1) := by decide +kernel
theorem dX3_isSame_20 : decode cX3_isSame 20 = .ok (.iaload, 1) := by decide +kernel
theorem dX3_isSame_21 : decode cX3_isSame 21 = .ok (.iastore, 1) := by decide +kernel
theorem dX3_isSame_22 : decode cX3_isSame 22 = .ok (.dup, 1) := by decide +kernel
theorem dX3_isSame_23 : decode cX3_isSame 23 = .ok (.iconst 1, 1) := by decide +kernel
theorem dX3_isSame_24 : decode cX3_isSame 24 = .ok (.aload_n 0, 1) := by decide +kernel
theorem dX3_isSame_25 : decode cX3_isSame 25 = .ok (.getfield 13, 3) := by decide +kernel
theorem dX3_isSame_28 : decode cX3_isSame 28 = .ok (.iload_n 3, 1) := by decide +kernel
theorem dX3_isSame_29 : decode cX3_isSame 29 = .ok (.iaload, 1) := by decide +kernel
theorem dX3_isSame_30 : decode cX3_isSame 30 = .ok (.ifCond .ne 7, 3) := by decide +kernel
theorem dX3_isSame_33 : decode cX3_isSame 33 = .ok (.iconst (-1), 1) := by decide +kernel
theorem dX3_isSame_34 : decode cX3_isSame 34 = .ok (.goto 8, 3) := by decide +kernel
theorem dX3_isSame_37 : decode cX3_isSame 37 = .ok (.aload_n 0, 1) := by decide +kernel
theorem dX3_isSame_38 : decode cX3_isSame 38 = .ok (.iload_n 3, 1) := by decide +kernel
theorem dX3_isSame_39 : decode cX3_isSame 39 = .ok (.invokevirtual 78, 3) := by decide +kernel
theorem dX3_isSame_42 : decode cX3_isSame 42 = .ok (.iastore, 1) := by decide +kernel
theorem dX3_isSame_43 : decode cX3_isSame 43 = .ok (.dup, 1) := by decide +kernel
theorem dX3_isSame_44 : decode cX3_isSame 44 = .ok (.iconst 2, 1) := by decide +kernel
theorem dX3_isSame_45 : decode cX3_isSame 45 = .ok (.aload_n 0, 1) := by decide +kernel
theorem dX3_isSame_46 : decode cX3_isSame 46 = .ok (.getfield 26, 3) := by decide +kernel
theorem dX3_isSame_49 : decode cX3_isSame 49 = .ok (.iload_n 3, 1) := by decide +kernel
theorem dX3_isSame_50 : decode cX3_isSame 50 = .ok (.iaload, 1) := by decide +kernel
theorem dX3_isSame_51 : decode cX3_isSame 51 = .ok (.iastore, 1) := by decide +kernel
theorem dX3_isSame_52 : decode cX3_isSame 52 = .ok (.dup, 1) := by decide +kernel
theorem dX3_isSame_53 : decode cX3_isSame 53 = .ok (.iconst 3, 1) := by decide +kernel
theorem dX3_isSame_54 : decode cX3_isSame 54 = .ok (.aload_n 0, 1) := by decide +kernel
theorem dX3_isSame_55 : decode cX3_isSame 55 = .ok (.getfield 29, 3) := by decide +kernel
theorem dX3_isSame_58 : decode cX3_isSame 58 = .ok (.iload_n 3, 1) := by decide +kernel
theorem dX3_isSame_59 : decode cX3_isSame 59 = .ok (.iaload, 1) := by decide +kernel
theorem dX3_isSame_60 : decode cX3_isSame 60 = .ok (.iastore, 1) := by decide +kernel
theorem dX3_isSame_61 : decode cX3_isSame 61 = .ok (.dup, 1) := by decide +kernel
theorem dX3_isSame_62 : decode cX3_isSame 62 = .ok (.iconst 4, 1) := by decide +kernel
theorem dX3_isSame_63 : decode cX3_isSame 63 = .ok (.aload_n 0, 1) := by decide +kernel
theorem dX3_isSame_64 : decode cX3_isSame 64 = .ok (.getfield 20, 3) := by decide +kernel
theorem dX3_isSame_67 : decode cX3_isSame 67 = .ok (.iload_n 3, 1) := by decide +kernel
theorem dX3_isSame_68 : decode cX3_isSame 68 = .ok (.iaload, 1) := by decide +kernel
theorem dX3_isSame_69 : decode cX3_isSame 69 = .ok (.ifCond .le 7, 3) := by decide +kernel
theorem dX3_isSame_72 : decode cX3_isSame 72 = .ok (.iconst 1, 1) := by decide +kernel
theorem dX3_isSame_73 : decode cX3_isSame 73 = .ok (.goto 4, 3) := by decide +kernel
theorem dX3_isSame_76 : decode cX3_isSame 76 = .ok (.iconst 0, 1) := by decide +kernel
theorem dX3_isSame_77 : decode cX3_isSame 77 = .ok (.iastore, 1) := by decide +kernel
theorem dX3_isSame_78 : decode cX3_isSame 78 = .ok (.astore 4, 2) := by decide +kernel
theorem dX3_isSame_80 : decode cX3_isSame 80 = .ok (.iconst 0, 1) := by decide +kernel
theorem dX3_isSame_81 : decode cX3_isSame 81 = .ok (.istore 5, 2) := by decide +kernel
theorem dX3_isSame_83 : decode cX3_isSame 83 = .ok (.iload 5, 2) := by decide +kernel
theorem dX3_isSame_85 : decode cX3_isSame 85 = .ok (.iconst 5, 1) := by decide +kernel
theorem dX3_isSame_86 : decode cX3_isSame 86 = .ok (.if_icmp .ge 26, 3) := by decide +kernel
theorem dX3_isSame_89 : decode cX3_isSame 89 = .ok (.aload_n 1, 1) := by decide +kernel
theorem dX3_isSame_90 : decode cX3_isSame 90 = .ok (.iload_n 3, 1) := by decide +kernel
theorem dX3_isSame_91 : decode cX3_isSame 91 = .ok (.iload 5, 2) := by decide +kernel
theorem dX3_isSame_93 : decode cX3_isSame 93 = .ok (.invokevirtual 81, 3) := by decide +kernel
theorem dX3_isSame_96 : decode cX3_isSame 96 = .ok (.aload 4, 2) := by decide +kernel
theorem dX3_isSame_98 : decode cX3_isSame 98 = .ok (.iload 5, 2) := by decide +kernel
theorem dX3_isSame_100 : decode cX3_isSame 100 = .ok (.iaload, 1) := by decide +kernel
theorem dX3_isSame_101 : decode cX3_isSame 101 = .ok (.if_icmp .eq 5, 3) := by decide +kernel
theorem dX3_isSame_104 : decode cX3_isSame 104 = .ok (.iconst 0, 1) := by decide +kernel
theorem dX3_isSame_105 : decode cX3_isSame 105 = .ok (.ireturn, 1) := by decide +kernel
theorem dX3_isSame_106 : decode cX3_isSame 106 = .ok (.iinc 5 1, 3) := by decide +kernel
theorem dX3_isSame_109 : decode cX3_isSame 109 = .ok (.goto (-26), 3) := by decide +kernel
theorem dX3_isSame_112 : decode cX3_isSame 112 = .ok (.aload_n 0, 1) := by decide +kernel
theorem dX3_isSame_113 : decode cX3_isSame 113 = .ok (.getfield 13, 3) := by decide +kernel
theorem dX3_isSame_116 : decode cX3_isSame 116 = .ok (.iload_n 3, 1) := by decide +kernel
theorem dX3_isSame_117 : decode cX3_isSame 117 = .ok (.iaload, 1) := by decide +kernel
theorem dX3_isSame_118 : decode cX3_isSame 118 = .ok (.ifCond .le 24, 3) := by decide +kernel
theorem dX3_isSame_121 : decode cX3_isSame 121 = .ok (.aload_n 1, 1) := by decide +kernel
theorem dX3_isSame_122 : decode cX3_isSame 122 = .ok (.aload_n 0, 1) := by decide +kernel
theorem dX3_isSame_123 : decode cX3_isSame 123 = .ok (.getfield 13, 3) := by decide +kernel
theorem dX3_isSame_126 : decode cX3_isSame 126 = .ok (.iload_n 3, 1) := by decide +kernel
theorem dX3_isSame_127 : decode cX3_isSame 127 = .ok (.iaload, 1) := by decide +kernel
theorem dX3_isSame_128 : decode cX3_isSame 128 = .ok (.aload_n 0, 1) := by decide +kernel
theorem dX3_isSame_129 : decode cX3_isSame 129 = .ok (.iload_n 3, 1) := by decide +kernel
theorem dX3_isSame_130 : decode cX3_isSame 130 = .ok (.invokevirtual 78, 3) := by decide +kernel
theorem dX3_isSame_133 : decode cX3_isSame 133 = .ok (.invokevirtual 87, 3) := by decide +kernel
theorem dX3_isSame_136 : decode cX3_isSame 136 = .ok (.iload_n 3, 1) := by decide +kernel
theorem dX3_isSame_137 : decode cX3_isSame 137 = .ok (.if_icmp .eq 5, 3) := by decide +kernel
theorem dX3_isSame_140 : decode cX3_isSame 140 = .ok (.iconst 0, 1) := by decide +kernel
theorem dX3_isSame_141 : decode cX3_isSame 141 = .ok (.ireturn, 1) := by decide +kernel
theorem dX3_isSame_142 : decode cX3_isSame 142 = .ok (.aload_n 0, 1) := by decide +kernel
theorem dX3_isSame_143 : decode cX3_isSame 143 = .ok (.getfield 20, 3) := by decide +kernel
theorem dX3_isSame_146 : decode cX3_isSame 146 = .ok (.iload_n 3, 1) := by decide +kernel
theorem dX3_isSame_147 : decode cX3_isSame 147 = .ok (.iaload, 1) := by decide +kernel
theorem dX3_isSame_148 : decode cX3_isSame 148 = .ok (.ifCond .ne 6, 3) := by decide +kernel
theorem dX3_isSame_151 : decode cX3_isSame 151 = .ok (.goto 77, 3) := by decide +kernel
theorem dX3_isSame_154 : decode cX3_isSame 154 = .ok (.iconst 0, 1) := by decide +kernel
theorem dX3_isSame_155 : decode cX3_isSame 155 = .ok (.istore 5, 2) := by decide +kernel
theorem dX3_isSame_157 : decode cX3_isSame 157 = .ok (.aload_n 0, 1) := by decide +kernel
theorem dX3_isSame_158 : decode cX3_isSame 158 = .ok (.getfield 20, 3) := by decide +kernel
theorem dX3_isSame_161 : decode cX3_isSame 161 = .ok (.astore 6, 2) := by decide +kernel
theorem dX3_isSame_163 : decode cX3_isSame 163 = .ok (.aload 6, 2) := by decide +kernel
theorem dX3_isSame_165 : decode cX3_isSame 165 = .ok (.arraylength, 1) := by decide +kernel
theorem dX3_isSame_166 : decode cX3_isSame 166 = .ok (.istore 7, 2) := by decide +kernel
theorem dX3_isSame_168 : decode cX3_isSame 168 = .ok (.iconst 0, 1) := by decide +kernel
theorem dX3_isSame_169 : decode cX3_isSame 169 = .ok (.istore 8, 2) := by decide +kernel
theorem dX3_isSame_171 : decode cX3_isSame 171 = .ok (.iload 8, 2) := by decide +kernel
theorem dX3_isSame_173 : decode cX3_isSame 173 = .ok (.iload 7, 2) := by decide +kernel
theorem dX3_isSame_175 : decode cX3_isSame 175 = .ok (.if_icmp .ge 37, 3) := by decide +kernel
theorem dX3_isSame_178 : decode cX3_isSame 178 = .ok (.aload 6, 2) := by decide +kernel
theorem dX3_isSame_180 : decode cX3_isSame 180 = .ok (.iload 8, 2) := by decide +kernel
theorem dX3_isSame_182 : decode cX3_isSame 182 = .ok (.iaload, 1) := by decide +kernel
theorem dX3_isSame_183 : decode cX3_isSame 183 = .ok (.istore 9, 2) := by decide +kernel
theorem dX3_isSame_185 : decode cX3_isSame 185 = .ok (.iload 5, 2) := by decide +kernel
theorem dX3_isSame_187 : decode cX3_isSame 187 = .ok (.iload 9, 2) := by decide +kernel
theorem dX3_isSame_189 : decode cX3_isSame 189 = .ok (.aload_n 0, 1) := by decide +kernel
theorem dX3_isSame_190 : decode cX3_isSame 190 = .ok (.getfield 20, 3) := by decide +kernel
theorem dX3_isSame_193 : decode cX3_isSame 193 = .ok (.iload_n 3, 1) := by decide +kernel
theorem dX3_isSame_194 : decode cX3_isSame 194 = .ok (.iaload, 1) := by decide +kernel
theorem dX3_isSame_195 : decode cX3_isSame 195 = .ok (.if_icmp .le 7, 3) := by decide +kernel
theorem dX3_isSame_198 : decode cX3_isSame 198 = .ok (.iconst 1, 1) := by decide +kernel
theorem dX3_isSame_199 : decode cX3_isSame 199 = .ok (.goto 4, 3) := by decide +kernel
theorem dX3_isSame_202 : decode cX3_isSame 202 = .ok (.iconst 0, 1) := by decide +kernel
theorem dX3_isSame_203 : decode cX3_isSame 203 = .ok (.iadd, 1) := by decide +kernel
theorem dX3_isSame_204 : decode cX3_isSame 204 = .ok (.istore 5, 2) := by decide +kernel
theorem dX3_isSame_206 : decode cX3_isSame 206 = .ok (.iinc 8 1, 3) := by decide +kernel
theorem dX3_isSame_209 : decode cX3_isSame 209 = .ok (.goto (-38), 3) := by decide +kernel
theorem dX3_isSame_212 : decode cX3_isSame 212 = .ok (.aload_n 1, 1) := by decide +kernel
theorem dX3_isSame_213 : decode cX3_isSame 213 = .ok (.iconst 5, 1) := by decide +kernel
theorem dX3_isSame_214 : decode cX3_isSame 214 = .ok (.iload 5, 2) := by decide +kernel
theorem dX3_isSame_216 : decode cX3_isSame 216 = .ok (.invokevirtual 87, 3) := by decide +kernel
theorem dX3_isSame_219 : decode cX3_isSame 219 = .ok (.iload_n 3, 1) := by decide +kernel
theorem dX3_isSame_220 : decode cX3_isSame 220 = .ok (.if_icmp .eq 5, 3) := by decide +kernel
theorem dX3_isSame_223 : decode cX3_isSame 223 = .ok (.iconst 0, 1) := by decide +kernel
theorem dX3_isSame_224 : decode cX3_isSame 224 = .ok (.ireturn, 1) := by decide +kernel
theorem dX3_isSame_225 : decode cX3_isSame 225 = .ok (.iinc 2 1, 3) := by decide +kernel
theorem dX3_isSame_228 : decode cX3_isSame 228 = .ok (.iinc 3 1, 3) := by decide +kernel
theorem dX3_isSame_231 : decode cX3_isSame 231 = .ok (.goto (-227), 3) := by decide +kernel
theorem dX3_isSame_234 : decode cX3_isSame 234 = .ok (.iconst 0, 1) := by decide +kernel
theorem dX3_isSame_235 : decode cX3_isSame 235 = .ok (.istore_n 3, 1) := by decide +kernel
theorem dX3_isSame_236 : decode cX3_isSame 236 = .ok (.iload_n 3, 1) := by decide +kernel
theorem dX3_isSame_237 : decode cX3_isSame 237 = .ok (.aload_n 0, 1) := by decide +kernel
theorem dX3_isSame_238 : decode cX3_isSame 238 = .ok (.getfield 23, 3) := by decide +kernel
theorem dX3_isSame_241 : decode cX3_isSame 241 = .ok (.arraylength, 1) := by decide +kernel
theorem dX3_isSame_242 : decode cX3_isSame 242 = .ok (.if_icmp .ge 27, 3) := by decide +kernel
theorem dX3_isSame_245 : decode cX3_isSame 245 = .ok (.aload_n 1, 1) := by decide +kernel
theorem dX3_isSame_246 : decode cX3_isSame 246 = .ok (.bipush 6, 2) := by decide +kernel
theorem dX3_isSame_248 : decode cX3_isSame 248 = .ok (.iload_n 3, 1) := by decide +kernel
theorem dX3_isSame_249 : decode cX3_isSame 249 = .ok (.invokevirtual 87, 3) := by decide +kernel
theorem dX3_isSame_252 : decode cX3_isSame 252 = .ok (.aload_n 0, 1) := by decide +kernel
theorem dX3_isSame_253 : decode cX3_isSame 253 = .ok (.getfield 23, 3) := by decide +kernel
theorem dX3_isSame_256 : decode cX3_isSame 256 = .ok (.iload_n 3, 1) := by decide +kernel
theorem dX3_isSame_257 : decode cX3_isSame 257 = .ok (.iaload, 1) := by decide +kernel
theorem dX3_isSame_258 : decode cX3_isSame 258 = .ok (.if_icmp .eq 5, 3) := by decide +kernel
theorem dX3_isSame_261 : decode cX3_isSame 261 = .ok (.iconst 0, 1) := by decide +kernel
theorem dX3_isSame_262 : decode cX3_isSame 262 = .ok (.ireturn, 1) := by decide +kernel
theorem dX3_isSame_263 : decode cX3_isSame 263 = .ok (.iinc 3 1, 3) := by decide +kernel
theorem dX3_isSame_266 : decode cX3_isSame 266 = .ok (.goto (-30), 3) := by decide +kernel
theorem dX3_isSame_269 : decode cX3_isSame 269 = .ok (.bipush 12, 2) := by decide +kernel
theorem dX3_isSame_271 : decode cX3_isSame 271 = .ok (.newarray .int, 2) := by decide +kernel
theorem dX3_isSame_273 : decode cX3_isSame 273 = .ok (.dup, 1) := by decide +kernel
theorem dX3_isSame_274 : decode cX3_isSame 274 = .ok (.iconst 0, 1) := by decide +kernel
theorem dX3_isSame_275 : decode cX3_isSame 275 = .ok (.aload_n 0, 1) := by decide +kernel
theorem dX3_isSame_276 : decode cX3_isSame 276 = .ok (.getfield 7, 3) := by decide +kernel
theorem dX3_isSame_279 : decode cX3_isSame 279 = .ok (.iastore, 1) := by decide +kernel
theorem dX3_isSame_280 : decode cX3_isSame 280 = .ok (.dup, 1) := by decide +kernel
theorem dX3_isSame_281 : decode cX3_isSame 281 = .ok (.iconst 1, 1) := by decide +kernel
theorem dX3_isSame_282 : decode cX3_isSame 282 = .ok (.aload_n 0, 1) := by decide +kernel
theorem dX3_isSame_283 : decode cX3_isSame 283 = .ok (.iconst 1, 1) := by decide +kernel
theorem dX3_isSame_284 : decode cX3_isSame 284 = .ok (.invokevirtual 56, 3) := by decide +kernel
theorem dX3_isSame_287 : decode cX3_isSame 287 = .ok (.iastore, 1) := by decide +kernel
theorem dX3_isSame_288 : decode cX3_isSame 288 = .ok (.dup, 1) := by decide +kernel
theorem dX3_isSame_289 : decode cX3_isSame 289 = .ok (.iconst 2, 1) := by decide +kernel
theorem dX3_isSame_290 : decode cX3_isSame 290 = .ok (.aload_n 0, 1) := by decide +kernel
theorem dX3_isSame_291 : decode cX3_isSame 291 = .ok (.iconst 2, 1) := by decide +kernel
theorem dX3_isSame_292 : decode cX3_isSame 292 = .ok (.invokevirtual 56, 3) := by decide +kernel
theorem dX3_isSame_295 : decode cX3_isSame 295 = .ok (.iastore, 1) := by decide +kernel
theorem dX3_isSame_296 : decode cX3_isSame 296 = .ok (.dup, 1) := by decide +kernel
theorem dX3_isSame_297 : decode cX3_isSame 297 = .ok (.iconst 3, 1) := by decide +kernel
theorem dX3_isSame_298 : decode cX3_isSame 298 = .ok (.aload_n 0, 1) := by decide +kernel
theorem dX3_isSame_299 : decode cX3_isSame 299 = .ok (.iconst 3, 1) := by decide +kernel
theorem dX3_isSame_300 : decode cX3_isSame 300 = .ok (.invokevirtual 56, 3) := by decide +kernel
theorem dX3_isSame_303 : decode cX3_isSame 303 = .ok (.iastore, 1) := by decide +kernel
theorem dX3_isSame_304 : decode cX3_isSame 304 = .ok (.dup, 1) := by decide +kernel
theorem dX3_isSame_305 : decode cX3_isSame 305 = .ok (.iconst 4, 1) := by decide +kernel
theorem dX3_isSame_306 : decode cX3_isSame 306 = .ok (.aload_n 0, 1) := by decide +kernel
theorem dX3_isSame_307 : decode cX3_isSame 307 = .ok (.iconst 4, 1) := by decide +kernel
theorem dX3_isSame_308 : decode cX3_isSame 308 = .ok (.invokevirtual 56, 3) := by decide +kernel
theorem dX3_isSame_311 : decode cX3_isSame 311 = .ok (.iastore, 1) := by decide +kernel
theorem dX3_isSame_312 : decode cX3_isSame 312 = .ok (.dup, 1) := by decide +kernel
theorem dX3_isSame_313 : decode cX3_isSame 313 = .ok (.iconst 5, 1) := by decide +kernel
theorem dX3_isSame_314 : decode cX3_isSame 314 = .ok (.iload_n 2, 1) := by decide +kernel
theorem dX3_isSame_315 : decode cX3_isSame 315 = .ok (.iastore, 1) := by decide +kernel
theorem dX3_isSame_316 : decode cX3_isSame 316 = .ok (.dup, 1) := by decide +kernel
theorem dX3_isSame_317 : decode cX3_isSame 317 = .ok (.bipush 6, 2) := by decide +kernel
theorem dX3_isSame_319 : decode cX3_isSame 319 = .ok (.aload_n 0, 1) := by decide +kernel
theorem dX3_isSame_320 : decode cX3_isSame 320 = .ok (.getfield 23, 3) := by decide +kernel
theorem dX3_isSame_323 : decode cX3_isSame 323 = .ok (.arraylength, 1) := by decide +kernel
theorem dX3_isSame_324 : decode cX3_isSame 324 = .ok (.iastore, 1) := by decide +kernel
theorem dX3_isSame_325 : decode cX3_isSame 325 = .ok (.dup, 1) := by decide +kernel
theorem dX3_isSame_326 : decode cX3_isSame 326 = .ok (.bipush 7, 2) := by decide +kernel
theorem dX3_isSame_328 : decode cX3_isSame 328 = .ok (.aload_n 0, 1) := by decide +kernel
theorem dX3_isSame_329 : decode cX3_isSame 329 = .ok (.getfield 33, 3) := by decide +kernel
theorem dX3_isSame_332 : decode cX3_isSame 332 = .ok (.iastore, 1) := by decide +kernel
theorem dX3_isSame_333 : decode cX3_isSame 333 = .ok (.dup, 1) := by decide +kernel
theorem dX3_isSame_334 : decode cX3_isSame 334 = .ok (.bipush 8, 2) := by decide +kernel
theorem dX3_isSame_336 : decode cX3_isSame 336 = .ok (.aload_n 0, 1) := by decide +kernel
theorem dX3_isSame_337 : decode cX3_isSame 337 = .ok (.getfield 44, 3) := by decide +kernel
theorem dX3_isSame_340 : decode cX3_isSame 340 = .ok (.iastore, 1) := by decide +kernel
theorem dX3_isSame_341 : decode cX3_isSame 341 = .ok (.dup, 1) := by decide +kernel
theorem dX3_isSame_342 : decode cX3_isSame 342 = .ok (.bipush 9, 2) := by decide +kernel
theorem dX3_isSame_344 : decode cX3_isSame 344 = .ok (.aload_n 0, 1) := by decide +kernel
theorem dX3_isSame_345 : decode cX3_isSame 345 = .ok (.getfield 47, 3) := by decide +kernel
theorem dX3_isSame_348 : decode cX3_isSame 348 = .ok (.iastore, 1) := by decide +kernel
theorem dX3_isSame_349 : decode cX3_isSame 349 = .ok (.dup, 1) := by decide +kernel
theorem dX3_isSame_350 : decode cX3_isSame 350 = .ok (.bipush 10, 2) := by decide +kernel
theorem dX3_isSame_352 : decode cX3_isSame 352 = .ok (.aload_n 0, 1) := by decide +kernel
theorem dX3_isSame_353 : decode cX3_isSame 353 = .ok (.getfield 50, 3) := by decide +kernel
theorem dX3_isSame_356 : decode cX3_isSame 356 = .ok (.iastore, 1) := by decide +kernel
theorem dX3_isSame_357 : decode cX3_isSame 357 = .ok (.dup, 1) := by decide +kernel
theorem dX3_isSame_358 : decode cX3_isSame 358 = .ok (.bipush 11, 2) := by decide +kernel
theorem dX3_isSame_360 : decode cX3_isSame 360 = .ok (.aload_n 0, 1) := by decide +kernel
theorem dX3_isSame_361 : decode cX3_isSame 361 = .ok (.getfield 53, 3) := by decide +kernel
theorem dX3_isSame_364 : decode cX3_isSame 364 = .ok (.iastore, 1) := by decide +kernel
theorem dX3_isSame_365 : decode cX3_isSame 365 = .ok (.astore_n 3, 1) := by decide +kernel
theorem dX3_isSame_366 : decode cX3_isSame 366 = .ok (.iconst 0, 1) := by decide +kernel
theorem dX3_isSame_367 : decode cX3_isSame 367 = .ok (.istore 4, 2) := by decide +kernel
theorem dX3_isSame_369 : decode cX3_isSame 369 = .ok (.iload 4, 2) := by decide +kernel
theorem dX3_isSame_371 : decode cX3_isSame 371 = .ok (.bipush 12, 2) := by decide +kernel
theorem dX3_isSame_373 : decode cX3_isSame 373 = .ok (.if_icmp .ge 24, 3) := by decide +kernel
theorem dX3_isSame_376 : decode cX3_isSame 376 = .ok (.aload_n 1, 1) := by decide +kernel
theorem dX3_isSame_377 : decode cX3_isSame 377 = .ok (.iload 4, 2) := by decide +kernel
theorem dX3_isSame_379 : decode cX3_isSame 379 = .ok (.invokevirtual 90, 3) := by decide +kernel
theorem dX3_isSame_382 : decode cX3_isSame 382 = .ok (.aload_n 3, 1) := by decide +kernel
theorem dX3_isSame_383 : decode cX3_isSame 383 = .ok (.iload 4, 2) := by decide +kernel
theorem dX3_isSame_385 : decode cX3_isSame 385 = .ok (.iaload, 1) := by decide +kernel
theorem dX3_isSame_386 : decode cX3_isSame 386 = .ok (.if_icmp .eq 5, 3) := by decide +kernel
theorem dX3_isSame_389 : decode cX3_isSame 389 = .ok (.iconst 0, 1) := by decide +kernel
theorem dX3_isSame_390 : decode cX3_isSame 390 = .ok (.ireturn, 1) := by decide +kernel
theorem dX3_isSame_391 : decode cX3_isSame 391 = .ok (.iinc 4 1, 3) := by decide +kernel
theorem dX3_isSame_394 : decode cX3_isSame 394 = .ok (.goto (-25), 3) := by decide +kernel
theorem dX3_isSame_397 : decode cX3_isSame 397 = .ok (.aload_n 1, 1) := by decide +kernel
theorem dX3_isSame_398 : decode cX3_isSame 398 = .ok (.invokevirtual 93, 3) := by decide +kernel
theorem dX3_isSame_401 : decode cX3_isSame 401 = .ok (.aload_n 0, 1) := by decide +kernel
theorem dX3_isSame_402 : decode cX3_isSame 402 = .ok (.getfield 44, 3) := by decide +kernel
theorem dX3_isSame_405 : decode cX3_isSame 405 = .ok (.ifCond .ne 7, 3) := by decide +kernel
theorem dX3_isSame_408 : decode cX3_isSame 408 = .ok (.dconst 0, 1) := by decide +kernel
theorem dX3_isSame_409 : decode cX3_isSame 409 = .ok (.goto 14, 3) := by decide +kernel
theorem dX3_isSame_412 : decode cX3_isSame 412 = .ok (.aload_n 0, 1) := by decide +kernel
theorem dX3_isSame_413 : decode cX3_isSame 413 = .ok (.getfield 47, 3) := by decide +kernel
theorem dX3_isSame_416 : decode cX3_isSame 416 = .ok (.i2d, 1) := by decide +kernel
theorem dX3_isSame_417 : decode cX3_isSame 417 = .ok (.aload_n 0, 1) := by decide +kernel
theorem dX3_isSame_418 : decode cX3_isSame 418 = .ok (.getfield 44, 3) := by decide +kernel
theorem dX3_isSame_421 : decode cX3_isSame 421 = .ok (.i2d, 1) := by decide +kernel
theorem dX3_isSame_422 : decode cX3_isSame 422 = .ok (.ddiv, 1) := by decide +kernel
theorem dX3_isSame_423 : decode cX3_isSame 423 = .ok (.dcmp .l, 1) := by decide +kernel
theorem dX3_isSame_424 : decode cX3_isSame 424 = .ok (.ifCond .ne 7, 3) := by decide +kernel
theorem dX3_isSame_427 : decode cX3_isSame 427 = .ok (.iconst 1, 1) := by decide +kernel
theorem dX3_isSame_428 : decode cX3_isSame 428 = .ok (.goto 4, 3) := by decide +kernel
theorem dX3_isSame_431 : decode cX3_isSame 431 = .ok (.iconst 0, 1) := by decide +kernel
theorem dX3_isSame_432 : decode cX3_isSame 432 = .ok (.ireturn, 1) := by decide +kernel
