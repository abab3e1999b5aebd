set_option maxRecDepth 20000 in
theorem ggX2_init_X1_init : GoodIn wsX2_init wsX1_init := goodIn_r _ [24, 25, 2, 3, 26, 9, 10, 27, 28, 29, 30, 31, 32, 33, 34, 35, 36, 37, 13, 38, 39, 59, 60, 41, 42, 43, 44, 45, 46, 47] (by decide +kernel) (by decide +kernel)
set_option maxRecDepth 20000 in
theorem gX2_init_X1_init : GoodIn wsX2_init (wsX1_init) := ggX2_init_X1_init
set_option maxRecDepth 20000 in
theorem ggX2_init_X0_init : GoodIn wsX2_init wsX0_init := goodIn_r _ [36, 37, 2, 3, 13, 38, 39, 59, 60] (by decide +kernel) (by decide +kernel)
set_option maxRecDepth 20000 in
theorem gX2_init_X0_init : GoodIn wsX2_init (wsX0_init) := ggX2_init_X0_init
theorem dX2_init_0 : decode cX2_init 0 = .ok (.aload_n 0, 1) := by decide +kernel
theorem dX2_init_1 : decode cX2_init 1 = .ok (.invokespecial 1, 3) := by decide +kernel
theorem dX2_init_4 : decode cX2_init 4 = .ok (.aload_n 0, 1) := by decide +kernel
theorem dX2_init_5 : decode cX2_init 5 = .ok (.new 7, 3) := by decide +kernel
theorem dX2_init_8 : decode cX2_init 8 = .ok (.dup, 1) := by decide +kernel
theorem dX2_init_9 : decode cX2_init 9 = .ok (.invokespecial 9, 3) := by decide +kernel
theorem dX2_init_12 : decode cX2_init 12 = .ok (.putfield 10, 3) := by decide +kernel
theorem dX2_init_15 : decode cX2_init 15 = .ok (.aload_n 0, 1) := by decide +kernel
theorem dX2_init_16 : decode cX2_init 16 = .ok (.new 16, 3) := by decide +kernel
theorem dX2_init_19 : decode cX2_init 19 = .ok (.dup, 1) := by decide +kernel
theorem dX2_init_20 : decode cX2_init 20 = .ok (.bipush 30, 2) := by decide +kernel
theorem dX2_init_22 : decode cX2_init 22 = .ok (.invokespecial 18, 3) := by decide +kernel
theorem dX2_init_25 : decode cX2_init 25 = .ok (.putfield 21, 3) := by decide +kernel
theorem dX2_init_28 : decode cX2_init 28 = .ok (.aload_n 0, 1) := by decide +kernel
theorem dX2_init_29 : decode cX2_init 29 = .ok (.new 16, 3) := by decide +kernel
theorem dX2_init_32 : decode cX2_init 32 = .ok (.dup, 1) := by decide +kernel
theorem dX2_init_33 : decode cX2_init 33 = .ok (.bipush 30, 2) := by decide +kernel
theorem dX2_init_35 : decode cX2_init 35 = .ok (.invokespecial 18, 3) := by decide +kernel
theorem dX2_init_38 : decode cX2_init 38 = .ok (.putfield 25, 3) := by decide +kernel
theorem dX2_init_41 : decode cX2_init 41 = .ok (.aload_n 0, 1) := by decide +kernel
theorem dX2_init_42 : decode cX2_init 42 = .ok (.bipush 30, 2) := by decide +kernel
theorem dX2_init_44 : decode cX2_init 44 = .ok (.newarray .int, 2) := by decide +kernel
theorem dX2_init_46 : decode cX2_init 46 = .ok (.putfield 28, 3) := by decide +kernel
theorem dX2_init_49 : decode cX2_init 49 = .ok (.aload_n 0, 1) := by decide +kernel
theorem dX2_init_50 : decode cX2_init 50 = .ok (.bipush 30, 2) := by decide +kernel
theorem dX2_init_52 : decode cX2_init 52 = .ok (.newarray .int, 2) := by decide +kernel
theorem dX2_init_54 : decode cX2_init 54 = .ok (.putfield 32, 3) := by decide +kernel
theorem dX2_init_57 : decode cX2_init 57 = .ok (.aload_n 0, 1) := by decide +kernel
theorem dX2_init_58 : decode cX2_init 58 = .ok (.iconst 0, 1) := by decide +kernel
theorem dX2_init_59 : decode cX2_init 59 = .ok (.putfield 35, 3) := by decide +kernel
theorem dX2_init_62 : decode cX2_init 62 = .ok (.aload_n 0, 1) := by decide +kernel
theorem dX2_init_63 : decode cX2_init 63 = .ok (.iconst 0, 1) := by decide +kernel
theorem dX2_init_64 : decode cX2_init 64 = .ok (.putfield 39, 3) := by decide +kernel
theorem dX2_init_67 : decode cX2_init 67 = .ok (.aload_n 0, 1) := by decide +kernel
theorem dX2_init_68 : decode cX2_init 68 = .ok (.iconst 0, 1) := by decide +kernel
theorem dX2_init_69 : decode cX2_init 69 = .ok (.putfield 42, 3) := by decide +kernel
theorem dX2_init_72 : decode cX2_init 72 = .ok (.aload_n 0, 1) := by decide +kernel
theorem dX2_init_73 : decode cX2_init 73 = .ok (.iconst 0, 1) := by decide +kernel
theorem dX2_init_74 : decode cX2_init 74 = .ok (.putfield 45, 3) := by decide +kernel
theorem dX2_init_77 : decode cX2_init 77 = .ok (.aload_n 0, 1) := by decide +kernel
theorem dX2_init_78 : decode cX2_init 78 = .ok (.new 7, 3) := by decide +kernel
theorem dX2_init_81 : decode cX2_init 81 = .ok (.dup, 1) := by decide +kernel
theorem dX2_init_82 : decode cX2_init 82 = .ok (.invokespecial 9, 3) := by decide +kernel
theorem dX2_init_85 : decode cX2_init 85 = .ok (.putfield 48, 3) := by decide +kernel
theorem dX2_init_88 : decode cX2_init 88 = .ok (.aload_n 0, 1) := by decide +kernel
theorem dX2_init_89 : decode cX2_init 89 = .ok (.new 16, 3) := by decide +kernel
theorem dX2_init_92 : decode cX2_init 92 = .ok (.dup, 1) := by decide +kernel
theorem dX2_init_93 : decode cX2_init 93 = .ok (.bipush 30, 2) := by decide +kernel
theorem dX2_init_95 : decode cX2_init 95 = .ok (.invokespecial 18, 3) := by decide +kernel
theorem dX2_init_98 : decode cX2_init 98 = .ok (.putfield 51, 3) := by decide +kernel
theorem dX2_init_101 : decode cX2_init 101 = .ok (.return_, 1) := by decide +kernel
set_option maxRecDepth 20000 in
theorem ggX2_setRoom_X1_startAnew : GoodIn wsX2_setRoom wsX1_startAnew := goodIn_r _ [9, 10, 11, 12, 13, 14, 15, 16, 17, 18, 19, 20, 21, 22, 35, 36, 37, 38, 39, 40, 41, 42, 43] (by decide +kernel) (by decide +kernel)
set_option maxRecDepth 20000 in
theorem gX2_setRoom_X1_startAnew : GoodIn wsX2_setRoom (wsV RX2 64 RX1 yX1_startAnew wsX1_startAnew) := goodIn_app (goodIn_of _ (by decide +kernel)) ggX2_setRoom_X1_startAnew
set_option maxRecDepth 20000 in
theorem ggX2_setRoom_X0_clear : GoodIn wsX2_setRoom wsX0_clear := goodIn_r _ [21, 22, 42, 43] (by decide +kernel) (by decide +kernel)
set_option maxRecDepth 20000 in
theorem gX2_setRoom_X0_clear : GoodIn wsX2_setRoom (wsV RX2 67 RX0 yX0_clear wsX0_clear) := goodIn_app (goodIn_of _ (by decide +kernel)) ggX2_setRoom_X0_clear
theorem dX2_setRoom_0 : decode cX2_setRoom 0 = .ok (.iload_n 1, 1) := by decide +kernel
theorem dX2_setRoom_1 : decode cX2_setRoom 1 = .ok (.iconst 1, 1) := by decide +kernel
theorem dX2_setRoom_2 : decode cX2_setRoom 2 = .ok (.if_icmp .lt 9, 3) := by decide +kernel
theorem dX2_setRoom_5 : decode cX2_setRoom 5 = .ok (.iload_n 1, 1) := by decide +kernel
theorem dX2_setRoom_6 : decode cX2_setRoom 6 = .ok (.bipush 12, 2) := by decide +kernel
theorem dX2_setRoom_8 : decode cX2_setRoom 8 = .ok (.if_icmp .le 13, 3) := by decide +kernel
theorem dX2_setRoom_11 : decode cX2_setRoom 11 = .ok (.new 54, 3) := by decide +kernel
theorem dX2_setRoom_14 : decode cX2_setRoom 14 = .ok (.dup, 1) := by decide +kernel
theorem dX2_setRoom_15 : decode cX2_setRoom 15 = .ok (.ldc 56, 2) := by decide +kernel
theorem dX2_setRoom_17 : decode cX2_setRoom 17 = .ok (.invokespecial 58, 3) := by decide +kernel
theorem dX2_setRoom_20 : decode cX2_setRoom 20 = .ok (.athrow, 1) := by decide +kernel
theorem dX2_setRoom_21 : decode cX2_setRoom 21 = .ok (.aload_n 0, 1) := by decide +kernel
theorem dX2_setRoom_22 : decode cX2_setRoom 22 = .ok (.getfield 10, 3) := by decide +kernel
theorem dX2_setRoom_25 : decode cX2_setRoom 25 = .ok (.getfield 61, 3) := by decide +kernel
theorem dX2_setRoom_28 : decode cX2_setRoom 28 = .ok (.istore_n 2, 1) := by decide +kernel
theorem dX2_setRoom_29 : decode cX2_setRoom 29 = .ok (.aload_n 0, 1) := by decide +kernel
theorem dX2_setRoom_30 : decode cX2_setRoom 30 = .ok (.getfield 10, 3) := by decide +kernel
theorem dX2_setRoom_33 : decode cX2_setRoom 33 = .ok (.iload_n 1, 1) := by decide +kernel
theorem dX2_setRoom_34 : decode cX2_setRoom 34 = .ok (.invokevirtual 64, 3) := by decide +kernel
theorem dX2_setRoom_37 : decode cX2_setRoom 37 = .ok (.aload_n 0, 1) := by decide +kernel
theorem dX2_setRoom_38 : decode cX2_setRoom 38 = .ok (.getfield 21, 3) := by decide +kernel
theorem dX2_setRoom_41 : decode cX2_setRoom 41 = .ok (.invokevirtual 67, 3) := by decide +kernel
theorem dX2_setRoom_44 : decode cX2_setRoom 44 = .ok (.iload_n 2, 1) := by decide +kernel
theorem dX2_setRoom_45 : decode cX2_setRoom 45 = .ok (.ireturn, 1) := by decide +kernel
set_option maxRecDepth 20000 in
theorem ggX2_ask_X2_checkJar : GoodIn wsX2_ask wsX2_checkJar := goodIn_ca (goodIn_r _ [4, 5, 6] (by decide +kernel) (by decide +kernel)) (goodIn_sub (fun _ h => List.mem_cons_of_mem _ (List.mem_append_right _ h)) (by decide +kernel))
set_option maxRecDepth 20000 in
theorem gX2_ask_X2_checkJar : GoodIn wsX2_ask (va_wsS RX2 70 yX2_checkJar wsX2_checkJar) := goodIn_app (goodIn_of _ (by decide +kernel)) ggX2_ask_X2_checkJar
set_option maxRecDepth 20000 in
theorem ggX2_ask_X2_request : GoodIn wsX2_ask wsX2_request := goodIn_r _ [10, 11, 12, 13, 14, 15, 16, 17, 18, 19, 20, 21, 22, 23, 24, 25, 26, 27, 28, 29, 30, 31, 32, 33, 34, 35, 36, 37, 38, 39, 40, 41, 42, 43, 44, 45, 46, 47, 48, 49, 50, 51, 52, 53, 54, 55, 56, 57, 58, 59, 60, 61, 62, 63, 64, 65, 66, 67, 68, 69, 70, 71, 72, 73, 74, 75, 76, 77, 78, 79, 80, 81, 82, 83, 84, 85, 86, 87, 88, 89, 3, 90, 91, 92, 93, 94, 95, 96, 97, 98, 99, 100, 101, 102, 103, 104, 105, 106, 107, 108, 109, 110, 111, 112, 113, 114, 115, 116, 117, 118, 119, 120, 121] (by decide +kernel) (by decide +kernel)
set_option maxRecDepth 20000 in
theorem gX2_ask_X2_request : GoodIn wsX2_ask (wsV RX2 73 RX2 yX2_request wsX2_request) := goodIn_app (goodIn_of _ (by decide +kernel)) ggX2_ask_X2_request
theorem dX2_ask_0 : decode cX2_ask 0 = .ok (.iload_n 1, 1) := by decide +kernel
theorem dX2_ask_1 : decode cX2_ask 1 = .ok (.invokestatic 70, 3) := by decide +kernel
theorem dX2_ask_4 : decode cX2_ask 4 = .ok (.aload_n 0, 1) := by decide +kernel
theorem dX2_ask_5 : decode cX2_ask 5 = .ok (.iload_n 1, 1) := by decide +kernel
theorem dX2_ask_6 : decode cX2_ask 6 = .ok (.invokevirtual 73, 3) := by decide +kernel
theorem dX2_ask_9 : decode cX2_ask 9 = .ok (.ireturn, 1) := by decide +kernel
set_option maxRecDepth 20000 in
theorem ggX2_spoil_X2_checkJar : GoodIn wsX2_spoil wsX2_checkJar := goodIn_ca (goodIn_r _ [7, 8, 9] (by decide +kernel) (by decide +kernel)) (goodIn_sub (fun _ h => List.mem_cons_of_mem _ (List.mem_append_right _ h)) (by decide +kernel))
set_option maxRecDepth 20000 in
theorem gX2_spoil_X2_checkJar : GoodIn wsX2_spoil (va_wsS RX2 70 yX2_checkJar wsX2_checkJar) := goodIn_app (goodIn_of _ (by decide +kernel)) ggX2_spoil_X2_checkJar
set_option maxRecDepth 20000 in
theorem ggX2_spoil_X1_whereIs : GoodIn wsX2_spoil wsX1_whereIs := goodIn_r _ [14, 15, 16, 17, 13, 18, 19, 20, 21, 22, 23, 24, 25, 26, 27, 28, 29, 54, 55, 56, 57, 58, 59, 60, 61, 62] (by decide +kernel) (by decide +kernel)
set_option maxRecDepth 20000 in
theorem gX2_spoil_X1_whereIs : GoodIn wsX2_spoil (wsV RX2 77 RX1 yX1_whereIs wsX1_whereIs) := goodIn_app (goodIn_of _ (by decide +kernel)) ggX2_spoil_X1_whereIs
set_option maxRecDepth 20000 in
theorem ggX2_spoil_X1_rowAt : GoodIn wsX2_spoil wsX1_rowAt := goodIn_r _ [18, 19, 20, 21, 22, 54, 55, 56, 57, 58, 59, 60] (by decide +kernel) (by decide +kernel)
set_option maxRecDepth 20000 in
theorem gX2_spoil_X1_rowAt : GoodIn wsX2_spoil (wsV RX2 80 RX1 yX1_rowAt wsX1_rowAt) := goodIn_app (goodIn_of _ (by decide +kernel)) ggX2_spoil_X1_rowAt
set_option maxRecDepth 20000 in
theorem ggX2_spoil_X2_isThere : GoodIn wsX2_spoil wsX2_isThere := goodIn_r _ [33] (by decide +kernel) (by decide +kernel)
set_option maxRecDepth 20000 in
theorem gX2_spoil_X2_isThere : GoodIn wsX2_spoil (va_wsS RX2 84 yX2_isThere wsX2_isThere) := goodIn_app (goodIn_of _ (by decide +kernel)) ggX2_spoil_X2_isThere
set_option maxRecDepth 20000 in
theorem ggX2_spoil_X0_placeOf : GoodIn wsX2_spoil wsX0_placeOf := goodIn_r _ [27, 28, 29, 61, 62] (by decide +kernel) (by decide +kernel)
set_option maxRecDepth 20000 in
theorem gX2_spoil_X0_placeOf : GoodIn wsX2_spoil (wsV RX2 93 RX0 yX0_placeOf wsX0_placeOf) := goodIn_app (goodIn_of _ (by decide +kernel)) ggX2_spoil_X0_placeOf
set_option maxRecDepth 20000 in
theorem ggX2_spoil_X0_takeAt : GoodIn wsX2_spoil wsX0_takeAt := goodIn_r _ [38, 28, 29, 39, 40, 41, 42, 61, 62] (by decide +kernel) (by decide +kernel)
set_option maxRecDepth 20000 in
theorem gX2_spoil_X0_takeAt : GoodIn wsX2_spoil (wsV RX2 96 RX0 yX0_takeAt wsX0_takeAt) := goodIn_app (goodIn_of _ (by decide +kernel)) ggX2_spoil_X0_takeAt
theorem dX2_spoil_0 : decode cX2_spoil 0 = .ok (.iload_n 1, 1) := by decide +kernel
theorem dX2_spoil_1 : decode cX2_spoil 1 = .ok (.invokestatic 70, 3) := by decide +kernel
theorem dX2_spoil_4 : decode cX2_spoil 4 = .ok (.aload_n 0, 1) := by decide +kernel
theorem dX2_spoil_5 : decode cX2_spoil 5 = .ok (.getfield 10, 3) := by decide +kernel
theorem dX2_spoil_8 : decode cX2_spoil 8 = .ok (.iload_n 1, 1) := by decide +kernel
theorem dX2_spoil_9 : decode cX2_spoil 9 = .ok (.invokevirtual 77, 3) := by decide +kernel
theorem dX2_spoil_12 : decode cX2_spoil 12 = .ok (.istore_n 2, 1) := by decide +kernel
theorem dX2_spoil_13 : decode cX2_spoil 13 = .ok (.aload_n 0, 1) := by decide +kernel
theorem dX2_spoil_14 : decode cX2_spoil 14 = .ok (.getfield 10, 3) := by decide +kernel
theorem dX2_spoil_17 : decode cX2_spoil 17 = .ok (.iload_n 2, 1) := by decide +kernel
theorem dX2_spoil_18 : decode cX2_spoil 18 = .ok (.invokevirtual 80, 3) := by decide +kernel
theorem dX2_spoil_21 : decode cX2_spoil 21 = .ok (.astore_n 3, 1) := by decide +kernel
theorem dX2_spoil_22 : decode cX2_spoil 22 = .ok (.aload_n 3, 1) := by decide +kernel
theorem dX2_spoil_23 : decode cX2_spoil 23 = .ok (.ifnull 10, 3) := by decide +kernel
theorem dX2_spoil_26 : decode cX2_spoil 26 = .ok (.iload_n 2, 1) := by decide +kernel
theorem dX2_spoil_27 : decode cX2_spoil 27 = .ok (.invokestatic 84, 3) := by decide +kernel
theorem dX2_spoil_30 : decode cX2_spoil 30 = .ok (.ifCond .ne 13, 3) := by decide +kernel
theorem dX2_spoil_33 : decode cX2_spoil 33 = .ok (.new 88, 3) := by decide +kernel
theorem dX2_spoil_36 : decode cX2_spoil 36 = .ok (.dup, 1) := by decide +kernel
theorem dX2_spoil_37 : decode cX2_spoil 37 = .ok (.ldc 90, 2) := by decide +kernel
theorem dX2_spoil_39 : decode cX2_spoil 39 = .ok (.invokespecial 92, 3) := by decide +kernel
theorem dX2_spoil_42 : decode cX2_spoil 42 = .ok (.athrow, 1) := by decide +kernel
theorem dX2_spoil_43 : decode cX2_spoil 43 = .ok (.aload_n 3, 1) := by decide +kernel
theorem dX2_spoil_44 : decode cX2_spoil 44 = .ok (.aload_n 3, 1) := by decide +kernel
theorem dX2_spoil_45 : decode cX2_spoil 45 = .ok (.iload_n 1, 1) := by decide +kernel
theorem dX2_spoil_46 : decode cX2_spoil 46 = .ok (.invokevirtual 93, 3) := by decide +kernel
theorem dX2_spoil_49 : decode cX2_spoil 49 = .ok (.invokevirtual 96, 3) := by decide +kernel
theorem dX2_spoil_52 : decode cX2_spoil 52 = .ok (.pop, 1) := by decide +kernel
theorem dX2_spoil_53 : decode cX2_spoil 53 = .ok (.iload_n 2, 1) := by decide +kernel
theorem dX2_spoil_54 : decode cX2_spoil 54 = .ok (.ireturn, 1) := by decide +kernel
set_option maxRecDepth 20000 in
theorem ggX2_sweep_X0_length : GoodIn wsX2_sweep wsX0_length := goodIn_r _ [6, 7, 30, 31] (by decide +kernel) (by decide +kernel)
set_option maxRecDepth 20000 in
theorem gX2_sweep_X0_length : GoodIn wsX2_sweep (wsV RX2 102 RX0 yX0_length wsX0_length) := goodIn_app (goodIn_of _ (by decide +kernel)) ggX2_sweep_X0_length
set_option maxRecDepth 20000 in
theorem ggX2_sweep_X0_clear : GoodIn wsX2_sweep wsX0_clear := goodIn_r _ [11, 7, 30, 31] (by decide +kernel) (by decide +kernel)
set_option maxRecDepth 20000 in
theorem gX2_sweep_X0_clear : GoodIn wsX2_sweep (wsV RX2 67 RX0 yX0_clear wsX0_clear) := goodIn_app (goodIn_of _ (by decide +kernel)) ggX2_sweep_X0_clear
theorem dX2_sweep_0 : decode cX2_sweep 0 = .ok (.aload_n 0, 1) := by decide +kernel
theorem dX2_sweep_1 : decode cX2_sweep 1 = .ok (.getfield 10, 3) := by decide +kernel
theorem dX2_sweep_4 : decode cX2_sweep 4 = .ok (.getfield 99, 3) := by decide +kernel
theorem dX2_sweep_7 : decode cX2_sweep 7 = .ok (.invokevirtual 102, 3) := by decide +kernel
theorem dX2_sweep_10 : decode cX2_sweep 10 = .ok (.aload_n 0, 1) := by decide +kernel
theorem dX2_sweep_11 : decode cX2_sweep 11 = .ok (.getfield 10, 3) := by decide +kernel
theorem dX2_sweep_14 : decode cX2_sweep 14 = .ok (.getfield 106, 3) := by decide +kernel
theorem dX2_sweep_17 : decode cX2_sweep 17 = .ok (.invokevirtual 102, 3) := by decide +kernel
theorem dX2_sweep_20 : decode cX2_sweep 20 = .ok (.iadd, 1) := by decide +kernel
theorem dX2_sweep_21 : decode cX2_sweep 21 = .ok (.istore_n 1, 1) := by decide +kernel
theorem dX2_sweep_22 : decode cX2_sweep 22 = .ok (.aload_n 0, 1) := by decide +kernel
theorem dX2_sweep_23 : decode cX2_sweep 23 = .ok (.getfield 10, 3) := by decide +kernel
theorem dX2_sweep_26 : decode cX2_sweep 26 = .ok (.getfield 99, 3) := by decide +kernel
theorem dX2_sweep_29 : decode cX2_sweep 29 = .ok (.invokevirtual 67, 3) := by decide +kernel
theorem dX2_sweep_32 : decode cX2_sweep 32 = .ok (.aload_n 0, 1) := by decide +kernel
theorem dX2_sweep_33 : decode cX2_sweep 33 = .ok (.getfield 10, 3) := by decide +kernel
theorem dX2_sweep_36 : decode cX2_sweep 36 = .ok (.getfield 106, 3) := by decide +kernel
theorem dX2_sweep_39 : decode cX2_sweep 39 = .ok (.invokevirtual 67, 3) := by decide +kernel
theorem dX2_sweep_42 : decode cX2_sweep 42 = .ok (.iload_n 1, 1) := by decide +kernel
theorem dX2_sweep_43 : decode cX2_sweep 43 = .ok (.ireturn, 1) := by decide +kernel
set_option maxRecDepth 20000 in
theorem ggX2_add_X2_checkJar : GoodIn wsX2_add wsX2_checkJar := goodIn_ca (goodIn_r _ [7, 8, 9] (by decide +kernel) (by decide +kernel)) (goodIn_sub (fun _ h => List.mem_cons_of_mem _ (List.mem_append_right _ h)) (by decide +kernel))
set_option maxRecDepth 20000 in
theorem gX2_add_X2_checkJar : GoodIn wsX2_add (va_wsS RX2 70 yX2_checkJar wsX2_checkJar) := goodIn_app (goodIn_of _ (by decide +kernel)) ggX2_add_X2_checkJar
set_option maxRecDepth 20000 in
theorem ggX2_add_X0_length : GoodIn wsX2_add wsX0_length := goodIn_r _ [14, 15, 32, 33] (by decide +kernel) (by decide +kernel)
set_option maxRecDepth 20000 in
theorem gX2_add_X0_length : GoodIn wsX2_add (wsV RX2 102 RX0 yX0_length wsX0_length) := goodIn_app (goodIn_of _ (by decide +kernel)) ggX2_add_X0_length
set_option maxRecDepth 20000 in
theorem ggX2_add_X0_putLast : GoodIn wsX2_add wsX0_putLast := goodIn_r _ [19, 15, 20, 32, 33] (by decide +kernel) (by decide +kernel)
set_option maxRecDepth 20000 in
theorem gX2_add_X0_putLast : GoodIn wsX2_add (wsV RX2 111 RX0 yX0_putLast wsX0_putLast) := goodIn_app (goodIn_of _ (by decide +kernel)) ggX2_add_X0_putLast
theorem dX2_add_0 : decode cX2_add 0 = .ok (.iload_n 1, 1) := by decide +kernel
theorem dX2_add_1 : decode cX2_add 1 = .ok (.invokestatic 70, 3) := by decide +kernel
theorem dX2_add_4 : decode cX2_add 4 = .ok (.aload_n 0, 1) := by decide +kernel
theorem dX2_add_5 : decode cX2_add 5 = .ok (.getfield 25, 3) := by decide +kernel
theorem dX2_add_8 : decode cX2_add 8 = .ok (.invokevirtual 102, 3) := by decide +kernel
theorem dX2_add_11 : decode cX2_add 11 = .ok (.bipush 30, 2) := by decide +kernel
theorem dX2_add_13 : decode cX2_add 13 = .ok (.if_icmp .lt 13, 3) := by decide +kernel
theorem dX2_add_16 : decode cX2_add 16 = .ok (.new 88, 3) := by decide +kernel
theorem dX2_add_19 : decode cX2_add 19 = .ok (.dup, 1) := by decide +kernel
theorem dX2_add_20 : decode cX2_add 20 = .ok (.ldc 109, 2) := by decide +kernel
theorem dX2_add_22 : decode cX2_add 22 = .ok (.invokespecial 92, 3) := by decide +kernel
theorem dX2_add_25 : decode cX2_add 25 = .ok (.athrow, 1) := by decide +kernel
theorem dX2_add_26 : decode cX2_add 26 = .ok (.aload_n 0, 1) := by decide +kernel
theorem dX2_add_27 : decode cX2_add 27 = .ok (.getfield 25, 3) := by decide +kernel
theorem dX2_add_30 : decode cX2_add 30 = .ok (.iload_n 1, 1) := by decide +kernel
theorem dX2_add_31 : decode cX2_add 31 = .ok (.invokevirtual 111, 3) := by decide +kernel
theorem dX2_add_34 : decode cX2_add 34 = .ok (.aload_n 0, 1) := by decide +kernel
theorem dX2_add_35 : decode cX2_add 35 = .ok (.getfield 25, 3) := by decide +kernel
theorem dX2_add_38 : decode cX2_add 38 = .ok (.invokevirtual 102, 3) := by decide +kernel
theorem dX2_add_41 : decode cX2_add 41 = .ok (.ireturn, 1) := by decide +kernel
set_option maxRecDepth 20000 in
theorem ggX2_drop_X0_length : GoodIn wsX2_drop wsX0_length := goodIn_r _ [8, 9, 30, 31] (by decide +kernel) (by decide +kernel)
set_option maxRecDepth 20000 in
theorem gX2_drop_X0_length : GoodIn wsX2_drop (wsV RX2 102 RX0 yX0_length wsX0_length) := goodIn_app (goodIn_of _ (by decide +kernel)) ggX2_drop_X0_length
set_option maxRecDepth 20000 in
theorem ggX2_drop_X0_takeAt : GoodIn wsX2_drop wsX0_takeAt := goodIn_r _ [13, 9, 14, 15, 16, 17, 18, 30, 31] (by decide +kernel) (by decide +kernel)
set_option maxRecDepth 20000 in
theorem gX2_drop_X0_takeAt : GoodIn wsX2_drop (wsV RX2 96 RX0 yX0_takeAt wsX0_takeAt) := goodIn_app (goodIn_of _ (by decide +kernel)) ggX2_drop_X0_takeAt
theorem dX2_drop_0 : decode cX2_drop 0 = .ok (.iload_n 1, 1) := by decide +kernel
theorem dX2_drop_1 : decode cX2_drop 1 = .ok (.ifCond .lt 14, 3) := by decide +kernel
theorem dX2_drop_4 : decode cX2_drop 4 = .ok (.iload_n 1, 1) := by decide +kernel
theorem dX2_drop_5 : decode cX2_drop 5 = .ok (.aload_n 0, 1) := by decide +kernel
theorem dX2_drop_6 : decode cX2_drop 6 = .ok (.getfield 25, 3) := by decide +kernel
theorem dX2_drop_9 : decode cX2_drop 9 = .ok (.invokevirtual 102, 3) := by decide +kernel
theorem dX2_drop_12 : decode cX2_drop 12 = .ok (.if_icmp .lt 13, 3) := by decide +kernel
theorem dX2_drop_15 : decode cX2_drop 15 = .ok (.new 114, 3) := by decide +kernel
theorem dX2_drop_18 : decode cX2_drop 18 = .ok (.dup, 1) := by decide +kernel
theorem dX2_drop_19 : decode cX2_drop 19 = .ok (.ldc 116, 2) := by decide +kernel
theorem dX2_drop_21 : decode cX2_drop 21 = .ok (.invokespecial 118, 3) := by decide +kernel
theorem dX2_drop_24 : decode cX2_drop 24 = .ok (.athrow, 1) := by decide +kernel
theorem dX2_drop_25 : decode cX2_drop 25 = .ok (.aload_n 0, 1) := by decide +kernel
theorem dX2_drop_26 : decode cX2_drop 26 = .ok (.getfield 25, 3) := by decide +kernel
theorem dX2_drop_29 : decode cX2_drop 29 = .ok (.iload_n 1, 1) := by decide +kernel
theorem dX2_drop_30 : decode cX2_drop 30 = .ok (.invokevirtual 96, 3) := by decide +kernel
theorem dX2_drop_33 : decode cX2_drop 33 = .ok (.ireturn, 1) := by decide +kernel
set_option maxRecDepth 20000 in
theorem ggX2_cook_X0_length : GoodIn wsX2_cook wsX0_length := goodIn_r _ [6, 7, 113, 114] (by decide +kernel) (by decide +kernel)
set_option maxRecDepth 20000 in
theorem gX2_cook_X0_length : GoodIn wsX2_cook (wsV RX2 102 RX0 yX0_length wsX0_length) := goodIn_app (goodIn_of _ (by decide +kernel)) ggX2_cook_X0_length
set_option maxRecDepth 20000 in
theorem ggX2_cook_X0_jarAt : GoodIn wsX2_cook wsX0_jarAt := goodIn_r _ [11, 7, 12, 113, 114] (by decide +kernel) (by decide +kernel)
set_option maxRecDepth 20000 in
theorem gX2_cook_X0_jarAt : GoodIn wsX2_cook (wsV RX2 119 RX0 yX0_jarAt wsX0_jarAt) := goodIn_app (goodIn_of _ (by decide +kernel)) ggX2_cook_X0_jarAt
set_option maxRecDepth 20000 in
theorem ggX2_cook_X2_request : GoodIn wsX2_cook wsX2_request := goodIn_r _ [17, 18, 19, 20, 21, 22, 23, 24, 25, 26, 27, 28, 29, 30, 31, 32, 33, 34, 35, 36, 37, 38, 39, 40, 41, 42, 43, 44, 45, 46, 47, 48, 49, 50, 51, 52, 53, 54, 55, 56, 57, 58, 5, 59, 7, 12, 60, 61, 62, 63, 64, 3, 4, 6, 65, 66, 67, 68, 69, 70, 71, 72, 73, 74, 75, 76, 77, 78, 79, 80, 81, 82, 83, 84, 85, 86, 87, 88, 89, 90, 16, 91, 92, 93, 94, 95, 96, 97, 98, 99, 2, 100, 101, 102, 103, 104, 105, 106, 107, 108, 109, 110, 111, 112, 115, 116, 117, 118, 119, 120, 121, 113, 114] (by decide +kernel) (by decide +kernel)
set_option maxRecDepth 20000 in
theorem gX2_cook_X2_request : GoodIn wsX2_cook (wsV RX2 73 RX2 yX2_request wsX2_request) := goodIn_app (goodIn_of _ (by decide +kernel)) ggX2_cook_X2_request
set_option maxRecDepth 20000 in
theorem ggX2_cook_X2_isThere : GoodIn wsX2_cook wsX2_isThere := goodIn_r _ [94] (by decide +kernel) (by decide +kernel)
set_option maxRecDepth 20000 in
theorem gX2_cook_X2_isThere : GoodIn wsX2_cook (va_wsS RX2 84 yX2_isThere wsX2_isThere) := goodIn_app (goodIn_of _ (by decide +kernel)) ggX2_cook_X2_isThere
theorem dX2_cook_0 : decode cX2_cook 0 = .ok (.iconst 0, 1) := by decide +kernel
theorem dX2_cook_1 : decode cX2_cook 1 = .ok (.istore_n 1, 1) := by decide +kernel
theorem dX2_cook_2 : decode cX2_cook 2 = .ok (.iconst 0, 1) := by decide +kernel
theorem dX2_cook_3 : decode cX2_cook 3 = .ok (.istore_n 2, 1) := by decide +kernel
theorem dX2_cook_4 : decode cX2_cook 4 = .ok (.iload_n 2, 1) := by decide +kernel
theorem dX2_cook_5 : decode cX2_cook 5 = .ok (.aload_n 0, 1) := by decide +kernel
theorem dX2_cook_6 : decode cX2_cook 6 = .ok (.getfield 25, 3) := by decide +kernel
theorem dX2_cook_9 : decode cX2_cook 9 = .ok (.invokevirtual 102, 3) := by decide +kernel
theorem dX2_cook_12 : decode cX2_cook 12 = .ok (.if_icmp .ge 30, 3) := by decide +kernel
theorem dX2_cook_15 : decode cX2_cook 15 = .ok (.aload_n 0, 1) := by decide +kernel
theorem dX2_cook_16 : decode cX2_cook 16 = .ok (.aload_n 0, 1) := by decide +kernel
theorem dX2_cook_17 : decode cX2_cook 17 = .ok (.getfield 25, 3) := by decide +kernel
theorem dX2_cook_20 : decode cX2_cook 20 = .ok (.iload_n 2, 1) := by decide +kernel
theorem dX2_cook_21 : decode cX2_cook 21 = .ok (.invokevirtual 119, 3) := by decide +kernel
theorem dX2_cook_24 : decode cX2_cook 24 = .ok (.invokevirtual 73, 3) := by decide +kernel
theorem dX2_cook_27 : decode cX2_cook 27 = .ok (.invokestatic 84, 3) := by decide +kernel
theorem dX2_cook_30 : decode cX2_cook 30 = .ok (.ifCond .eq 6, 3) := by decide +kernel
theorem dX2_cook_33 : decode cX2_cook 33 = .ok (.iinc 1 1, 3) := by decide +kernel
theorem dX2_cook_36 : decode cX2_cook 36 = .ok (.iinc 2 1, 3) := by decide +kernel
theorem dX2_cook_39 : decode cX2_cook 39 = .ok (.goto (-35), 3) := by decide +kernel
theorem dX2_cook_42 : decode cX2_cook 42 = .ok (.iload_n 1, 1) := by decide +kernel
theorem dX2_cook_43 : decode cX2_cook 43 = .ok (.ireturn, 1) := by decide +kernel
set_option maxRecDepth 20000 in
theorem ggX2_told_X2_checkJar : GoodIn wsX2_told wsX2_checkJar := goodIn_ca (goodIn_r _ [10, 1, 2] (by decide +kernel) (by decide +kernel)) (goodIn_sub (fun _ h => List.mem_cons_of_mem _ (List.mem_append_right _ h)) (by decide +kernel))
set_option maxRecDepth 20000 in
theorem gX2_told_X2_checkJar : GoodIn wsX2_told (va_wsS RX2 70 yX2_checkJar wsX2_checkJar) := goodIn_app (goodIn_of _ (by decide +kernel)) ggX2_told_X2_checkJar
set_option maxRecDepth 20000 in
theorem ggX2_told_X1_whereIs : GoodIn wsX2_told wsX1_whereIs := goodIn_r _ [15, 16, 17, 18, 14, 19, 20, 21, 22, 23, 24, 25, 26, 27, 28, 29, 30, 47, 48, 49, 50, 51, 52, 53, 54, 55] (by decide +kernel) (by decide +kernel)
set_option maxRecDepth 20000 in
theorem gX2_told_X1_whereIs : GoodIn wsX2_told (wsV RX2 77 RX1 yX1_whereIs wsX1_whereIs) := goodIn_app (goodIn_of _ (by decide +kernel)) ggX2_told_X1_whereIs
set_option maxRecDepth 20000 in
theorem ggX2_told_X1_rowAt : GoodIn wsX2_told wsX1_rowAt := goodIn_r _ [19, 20, 21, 22, 23, 47, 48, 49, 50, 51, 52, 53] (by decide +kernel) (by decide +kernel)
set_option maxRecDepth 20000 in
theorem gX2_told_X1_rowAt : GoodIn wsX2_told (wsV RX2 80 RX1 yX1_rowAt wsX1_rowAt) := goodIn_app (goodIn_of _ (by decide +kernel)) ggX2_told_X1_rowAt
set_option maxRecDepth 20000 in
theorem ggX2_told_X0_placeOf : GoodIn wsX2_told wsX0_placeOf := goodIn_r _ [28, 29, 30, 54, 55] (by decide +kernel) (by decide +kernel)
set_option maxRecDepth 20000 in
theorem gX2_told_X0_placeOf : GoodIn wsX2_told (wsV RX2 93 RX0 yX0_placeOf wsX0_placeOf) := goodIn_app (goodIn_of _ (by decide +kernel)) ggX2_told_X0_placeOf
set_option maxRecDepth 20000 in
theorem ggX2_told_X2_tallyOf : GoodIn wsX2_told wsX2_tallyOf := goodIn_r _ [35] (by decide +kernel) (by decide +kernel)
set_option maxRecDepth 20000 in
theorem gX2_told_X2_tallyOf : GoodIn wsX2_told (va_wsS RX2 122 yX2_tallyOf wsX2_tallyOf) := goodIn_app (goodIn_of _ (by decide +kernel)) ggX2_told_X2_tallyOf
theorem dX2_told_0 : decode cX2_told 0 = .ok (.iload_n 1, 1) := by decide +kernel
theorem dX2_told_1 : decode cX2_told 1 = .ok (.invokestatic 70, 3) := by decide +kernel
theorem dX2_told_4 : decode cX2_told 4 = .ok (.iload_n 2, 1) := by decide +kernel
theorem dX2_told_5 : decode cX2_told 5 = .ok (.tableswitch 110 0 4 #[35, 44, 74, 83, 92], 35) := by decide +kernel
theorem dX2_told_40 : decode cX2_told 40 = .ok (.aload_n 0, 1) := by decide +kernel
theorem dX2_told_41 : decode cX2_told 41 = .ok (.getfield 10, 3) := by decide +kernel
theorem dX2_told_44 : decode cX2_told 44 = .ok (.iload_n 1, 1) := by decide +kernel
theorem dX2_told_45 : decode cX2_told 45 = .ok (.invokevirtual 77, 3) := by decide +kernel
theorem dX2_told_48 : decode cX2_told 48 = .ok (.ireturn, 1) := by decide +kernel
theorem dX2_told_49 : decode cX2_told 49 = .ok (.aload_n 0, 1) := by decide +kernel
theorem dX2_told_50 : decode cX2_told 50 = .ok (.getfield 10, 3) := by decide +kernel
theorem dX2_told_53 : decode cX2_told 53 = .ok (.aload_n 0, 1) := by decide +kernel
theorem dX2_told_54 : decode cX2_told 54 = .ok (.getfield 10, 3) := by decide +kernel
theorem dX2_told_57 : decode cX2_told 57 = .ok (.iload_n 1, 1) := by decide +kernel
theorem dX2_told_58 : decode cX2_told 58 = .ok (.invokevirtual 77, 3) := by decide +kernel
theorem dX2_told_61 : decode cX2_told 61 = .ok (.invokevirtual 80, 3) := by decide +kernel
theorem dX2_told_64 : decode cX2_told 64 = .ok (.astore_n 3, 1) := by decide +kernel
theorem dX2_told_65 : decode cX2_told 65 = .ok (.aload_n 3, 1) := by decide +kernel
theorem dX2_told_66 : decode cX2_told 66 = .ok (.ifnonnull 7, 3) := by decide +kernel
theorem dX2_told_69 : decode cX2_told 69 = .ok (.iconst (-1), 1) := by decide +kernel
theorem dX2_told_70 : decode cX2_told 70 = .ok (.goto 8, 3) := by decide +kernel
theorem dX2_told_73 : decode cX2_told 73 = .ok (.aload_n 3, 1) := by decide +kernel
theorem dX2_told_74 : decode cX2_told 74 = .ok (.iload_n 1, 1) := by decide +kernel
theorem dX2_told_75 : decode cX2_told 75 = .ok (.invokevirtual 93, 3) := by decide +kernel
theorem dX2_told_78 : decode cX2_told 78 = .ok (.ireturn, 1) := by decide +kernel
theorem dX2_told_79 : decode cX2_told 79 = .ok (.aload_n 0, 1) := by decide +kernel
theorem dX2_told_80 : decode cX2_told 80 = .ok (.getfield 28, 3) := by decide +kernel
theorem dX2_told_83 : decode cX2_told 83 = .ok (.iload_n 1, 1) := by decide +kernel
theorem dX2_told_84 : decode cX2_told 84 = .ok (.invokestatic 122, 3) := by decide +kernel
theorem dX2_told_87 : decode cX2_told 87 = .ok (.ireturn, 1) := by decide +kernel
theorem dX2_told_88 : decode cX2_told 88 = .ok (.aload_n 0, 1) := by decide +kernel
theorem dX2_told_89 : decode cX2_told 89 = .ok (.getfield 32, 3) := by decide +kernel
theorem dX2_told_92 : decode cX2_told 92 = .ok (.iload_n 1, 1) := by decide +kernel
theorem dX2_told_93 : decode cX2_told 93 = .ok (.invokestatic 122, 3) := by decide +kernel
theorem dX2_told_96 : decode cX2_told 96 = .ok (.ireturn, 1) := by decide +kernel
theorem dX2_told_97 : decode cX2_told 97 = .ok (.aload_n 0, 1) := by decide +kernel
theorem dX2_told_98 : decode cX2_told 98 = .ok (.getfield 21, 3) := by decide +kernel
theorem dX2_told_101 : decode cX2_told 101 = .ok (.iload_n 1, 1) := by decide +kernel
theorem dX2_told_102 : decode cX2_told 102 = .ok (.invokevirtual 93, 3) := by decide +kernel
theorem dX2_told_105 : decode cX2_told 105 = .ok (.iconst (-1), 1) := by decide +kernel
theorem dX2_told_106 : decode cX2_told 106 = .ok (.if_icmp .ne 7, 3) := by decide +kernel
theorem dX2_told_109 : decode cX2_told 109 = .ok (.iconst 0, 1) := by decide +kernel
theorem dX2_told_110 : decode cX2_told 110 = .ok (.goto 4, 3) := by decide +kernel
theorem dX2_told_113 : decode cX2_told 113 = .ok (.iconst 1, 1) := by decide +kernel
theorem dX2_told_114 : decode cX2_told 114 = .ok (.ireturn, 1) := by decide +kernel
theorem dX2_told_115 : decode cX2_told 115 = .ok (.new 114, 3) := by decide +kernel
theorem dX2_told_118 : decode cX2_told 118 = .ok (.dup, 1) := by decide +kernel
theorem dX2_told_119 : decode cX2_told 119 = .ok (.ldc 126, 2) := by decide +kernel
theorem dX2_told_121 : decode cX2_told 121 = .ok (.invokespecial 118, 3) := by decide +kernel
theorem dX2_told_124 : decode cX2_told 124 = .ok (.athrow, 1) := by decide +kernel
set_option maxRecDepth 20000 in
theorem ggX2_row_X2_rowNumbered : GoodIn wsX2_row wsX2_rowNumbered := goodIn_r _ [7, 8, 9, 10, 11, 12, 13, 14, 15, 16, 17, 18, 19, 31, 32, 33, 34, 35, 36, 37, 38, 39, 40, 41, 42, 43, 44, 45, 46, 47, 48] (by decide +kernel) (by decide +kernel)
set_option maxRecDepth 20000 in
theorem gX2_row_X2_rowNumbered : GoodIn wsX2_row (wsV RX2 128 RX2 yX2_rowNumbered wsX2_rowNumbered) := goodIn_app (goodIn_of _ (by decide +kernel)) ggX2_row_X2_rowNumbered
set_option maxRecDepth 20000 in
theorem ggX2_row_X0_length : GoodIn wsX2_row wsX0_length := goodIn_r _ [24, 25, 49, 50] (by decide +kernel) (by decide +kernel)
set_option maxRecDepth 20000 in
theorem gX2_row_X0_length : GoodIn wsX2_row (wsV RX2 102 RX0 yX0_length wsX0_length) := goodIn_app (goodIn_of _ (by decide +kernel)) ggX2_row_X0_length
set_option maxRecDepth 20000 in
theorem ggX2_row_X0_jarAt : GoodIn wsX2_row wsX0_jarAt := goodIn_r _ [29, 25, 30, 49, 50] (by decide +kernel) (by decide +kernel)
set_option maxRecDepth 20000 in
theorem gX2_row_X0_jarAt : GoodIn wsX2_row (wsV RX2 119 RX0 yX0_jarAt wsX0_jarAt) := goodIn_app (goodIn_of _ (by decide +kernel)) ggX2_row_X0_jarAt
theorem dX2_row_0 : decode cX2_row 0 = .ok (.aload_n 0, 1) := by decide +kernel
theorem dX2_row_1 : decode cX2_row 1 = .ok (.iload_n 1, 1) := by decide +kernel
theorem dX2_row_2 : decode cX2_row 2 = .ok (.invokevirtual 128, 3) := by decide +kernel
theorem dX2_row_5 : decode cX2_row 5 = .ok (.astore_n 3, 1) := by decide +kernel
theorem dX2_row_6 : decode cX2_row 6 = .ok (.aload_n 3, 1) := by decide +kernel
theorem dX2_row_7 : decode cX2_row 7 = .ok (.ifnonnull 13, 3) := by decide +kernel
theorem dX2_row_10 : decode cX2_row 10 = .ok (.new 114, 3) := by decide +kernel
theorem dX2_row_13 : decode cX2_row 13 = .ok (.dup, 1) := by decide +kernel
theorem dX2_row_14 : decode cX2_row 14 = .ok (.ldc 131, 2) := by decide +kernel
theorem dX2_row_16 : decode cX2_row 16 = .ok (.invokespecial 118, 3) := by decide +kernel
theorem dX2_row_19 : decode cX2_row 19 = .ok (.athrow, 1) := by decide +kernel
theorem dX2_row_20 : decode cX2_row 20 = .ok (.iload_n 2, 1) := by decide +kernel
theorem dX2_row_21 : decode cX2_row 21 = .ok (.ifCond .lt 11, 3) := by decide +kernel
theorem dX2_row_24 : decode cX2_row 24 = .ok (.iload_n 2, 1) := by decide +kernel
theorem dX2_row_25 : decode cX2_row 25 = .ok (.aload_n 3, 1) := by decide +kernel
theorem dX2_row_26 : decode cX2_row 26 = .ok (.invokevirtual 102, 3) := by decide +kernel
theorem dX2_row_29 : decode cX2_row 29 = .ok (.if_icmp .lt 13, 3) := by decide +kernel
theorem dX2_row_32 : decode cX2_row 32 = .ok (.new 114, 3) := by decide +kernel
theorem dX2_row_35 : decode cX2_row 35 = .ok (.dup, 1) := by decide +kernel
theorem dX2_row_36 : decode cX2_row 36 = .ok (.ldc 133, 2) := by decide +kernel
theorem dX2_row_38 : decode cX2_row 38 = .ok (.invokespecial 118, 3) := by decide +kernel
theorem dX2_row_41 : decode cX2_row 41 = .ok (.athrow, 1) := by decide +kernel
theorem dX2_row_42 : decode cX2_row 42 = .ok (.aload_n 3, 1) := by decide +kernel
theorem dX2_row_43 : decode cX2_row 43 = .ok (.iload_n 2, 1) := by decide +kernel
theorem dX2_row_44 : decode cX2_row 44 = .ok (.invokevirtual 119, 3) := by decide +kernel
theorem dX2_row_47 : decode cX2_row 47 = .ok (.ireturn, 1) := by decide +kernel
set_option maxRecDepth 20000 in
theorem ggX2_count_X2_rowNumbered : GoodIn wsX2_count wsX2_rowNumbered := goodIn_r _ [12, 13, 14, 3, 15, 16, 17, 18, 19, 20, 21, 22, 23, 30, 31, 32, 33, 34, 35, 36, 37, 38, 39, 40, 41, 42, 43, 44, 45, 46, 47] (by decide +kernel) (by decide +kernel)
set_option maxRecDepth 20000 in
theorem gX2_count_X2_rowNumbered : GoodIn wsX2_count (wsV RX2 128 RX2 yX2_rowNumbered wsX2_rowNumbered) := goodIn_app (goodIn_of _ (by decide +kernel)) ggX2_count_X2_rowNumbered
set_option maxRecDepth 20000 in
theorem ggX2_count_X0_length : GoodIn wsX2_count wsX0_length := goodIn_r _ [28, 29, 48, 49] (by decide +kernel) (by decide +kernel)
set_option maxRecDepth 20000 in
theorem gX2_count_X0_length : GoodIn wsX2_count (wsV RX2 102 RX0 yX0_length wsX0_length) := goodIn_app (goodIn_of _ (by decide +kernel)) ggX2_count_X0_length
theorem dX2_count_0 : decode cX2_count 0 = .ok (.aload_n 0, 1) := by decide +kernel
theorem dX2_count_1 : decode cX2_count 1 = .ok (.iload_n 1, 1) := by decide +kernel
theorem dX2_count_2 : decode cX2_count 2 = .ok (.invokevirtual 128, 3) := by decide +kernel
theorem dX2_count_5 : decode cX2_count 5 = .ok (.astore_n 2, 1) := by decide +kernel
theorem dX2_count_6 : decode cX2_count 6 = .ok (.aload_n 2, 1) := by decide +kernel
theorem dX2_count_7 : decode cX2_count 7 = .ok (.ifnull 8, 3) := by decide +kernel
theorem dX2_count_10 : decode cX2_count 10 = .ok (.aload_n 2, 1) := by decide +kernel
theorem dX2_count_11 : decode cX2_count 11 = .ok (.invokevirtual 102, 3) := by decide +kernel
theorem dX2_count_14 : decode cX2_count 14 = .ok (.ireturn, 1) := by decide +kernel
theorem dX2_count_15 : decode cX2_count 15 = .ok (.iload_n 1, 1) := by decide +kernel
theorem dX2_count_16 : decode cX2_count 16 = .ok (.tableswitch 100 0 11 #[64, 100, 100, 100, 100, 100, 100, 72, 80, 85, 90, 95], 64) := by decide +kernel
theorem dX2_count_80 : decode cX2_count 80 = .ok (.aload_n 0, 1) := by decide +kernel
theorem dX2_count_81 : decode cX2_count 81 = .ok (.getfield 10, 3) := by decide +kernel
theorem dX2_count_84 : decode cX2_count 84 = .ok (.getfield 61, 3) := by decide +kernel
theorem dX2_count_87 : decode cX2_count 87 = .ok (.ireturn, 1) := by decide +kernel
theorem dX2_count_88 : decode cX2_count 88 = .ok (.aload_n 0, 1) := by decide +kernel
theorem dX2_count_89 : decode cX2_count 89 = .ok (.getfield 10, 3) := by decide +kernel
theorem dX2_count_92 : decode cX2_count 92 = .ok (.getfield 135, 3) := by decide +kernel
theorem dX2_count_95 : decode cX2_count 95 = .ok (.ireturn, 1) := by decide +kernel
theorem dX2_count_96 : decode cX2_count 96 = .ok (.aload_n 0, 1) := by decide +kernel
theorem dX2_count_97 : decode cX2_count 97 = .ok (.getfield 35, 3) := by decide +kernel
theorem dX2_count_100 : decode cX2_count 100 = .ok (.ireturn, 1) := by decide +kernel
theorem dX2_count_101 : decode cX2_count 101 = .ok (.aload_n 0, 1) := by decide +kernel
theorem dX2_count_102 : decode cX2_count 102 = .ok (.getfield 39, 3) := by decide +kernel
theorem dX2_count_105 : decode cX2_count 105 = .ok (.ireturn, 1) := by decide +kernel
theorem dX2_count_106 : decode cX2_count 106 = .ok (.aload_n 0, 1) := by decide +kernel
theorem dX2_count_107 : decode cX2_count 107 = .ok (.getfield 42, 3) := by decide +kernel
theorem dX2_count_110 : decode cX2_count 110 = .ok (.ireturn, 1) := by decide +kernel
theorem dX2_count_111 : decode cX2_count 111 = .ok (.aload_n 0, 1) := by decide +kernel
theorem dX2_count_112 : decode cX2_count 112 = .ok (.getfield 45, 3) := by decide +kernel
theorem dX2_count_115 : decode cX2_count 115 = .ok (.ireturn, 1) := by decide +kernel
theorem dX2_count_116 : decode cX2_count 116 = .ok (.new 114, 3) := by decide +kernel
theorem dX2_count_119 : decode cX2_count 119 = .ok (.dup, 1) := by decide +kernel
theorem dX2_count_120 : decode cX2_count 120 = .ok (.ldc 138, 2) := by decide +kernel
theorem dX2_count_122 : decode cX2_count 122 = .ok (.invokespecial 118, 3) := by decide +kernel
theorem dX2_count_125 : decode cX2_count 125 = .ok (.athrow, 1) := by decide +kernel
set_option maxRecDepth 20000 in
theorem ggX2_leaves_X2_checkJar : GoodIn wsX2_leaves wsX2_checkJar := goodIn_ca (goodIn_r _ [6, 7, 8] (by decide +kernel) (by decide +kernel)) (goodIn_sub (fun _ h => List.mem_cons_of_mem _ (List.mem_append_right _ h)) (by decide +kernel))
set_option maxRecDepth 20000 in
theorem gX2_leaves_X2_checkJar : GoodIn wsX2_leaves (va_wsS RX2 70 yX2_checkJar wsX2_checkJar) := goodIn_app (goodIn_of _ (by decide +kernel)) ggX2_leaves_X2_checkJar
set_option maxRecDepth 20000 in
theorem ggX2_leaves_X1_copyFrom : GoodIn wsX2_leaves wsX1_copyFrom := goodIn_r _ [13, 14, 15, 16, 17, 18, 19, 20, 21, 22, 23, 24, 25, 26, 27, 28, 29, 30, 31, 94, 95, 96, 97, 98, 99, 100, 101, 102] (by decide +kernel) (by decide +kernel)
set_option maxRecDepth 20000 in
theorem gX2_leaves_X1_copyFrom : GoodIn wsX2_leaves (wsV RX2 140 RX1 yX1_copyFrom wsX1_copyFrom) := goodIn_app (goodIn_of _ (by decide +kernel)) ggX2_leaves_X1_copyFrom
set_option maxRecDepth 20000 in
theorem ggX2_leaves_X1_serve : GoodIn wsX2_leaves wsX1_serve := goodIn_r _ [35, 20, 14, 18, 19, 17, 16, 36, 37, 38, 39, 40, 41, 42, 15, 43, 44, 45, 12, 46, 47, 48, 49, 50, 51, 52, 53, 24, 54, 26, 27, 55, 56, 57, 58, 59, 60, 61, 62, 63, 64, 65, 66, 67, 68, 69, 70, 71, 72, 73, 74, 28, 29, 30, 31, 75, 76, 77, 78, 79, 80, 81, 82, 94, 95, 96, 97, 98, 99, 100, 101, 102] (by decide +kernel) (by decide +kernel)
set_option maxRecDepth 20000 in
theorem gX2_leaves_X1_serve : GoodIn wsX2_leaves (wsV RX2 144 RX1 yX1_serve wsX1_serve) := goodIn_app (goodIn_of _ (by decide +kernel)) ggX2_leaves_X1_serve
theorem dX2_leaves_0 : decode cX2_leaves 0 = .ok (.iload_n 1, 1) := by decide +kernel
theorem dX2_leaves_1 : decode cX2_leaves 1 = .ok (.invokestatic 70, 3) := by decide +kernel
theorem dX2_leaves_4 : decode cX2_leaves 4 = .ok (.aload_n 0, 1) := by decide +kernel
theorem dX2_leaves_5 : decode cX2_leaves 5 = .ok (.getfield 48, 3) := by decide +kernel
theorem dX2_leaves_8 : decode cX2_leaves 8 = .ok (.aload_n 0, 1) := by decide +kernel
theorem dX2_leaves_9 : decode cX2_leaves 9 = .ok (.getfield 10, 3) := by decide +kernel
theorem dX2_leaves_12 : decode cX2_leaves 12 = .ok (.invokevirtual 140, 3) := by decide +kernel
theorem dX2_leaves_15 : decode cX2_leaves 15 = .ok (.aload_n 0, 1) := by decide +kernel
theorem dX2_leaves_16 : decode cX2_leaves 16 = .ok (.getfield 48, 3) := by decide +kernel
theorem dX2_leaves_19 : decode cX2_leaves 19 = .ok (.iload_n 1, 1) := by decide +kernel
theorem dX2_leaves_20 : decode cX2_leaves 20 = .ok (.invokevirtual 144, 3) := by decide +kernel
theorem dX2_leaves_23 : decode cX2_leaves 23 = .ok (.pop, 1) := by decide +kernel
theorem dX2_leaves_24 : decode cX2_leaves 24 = .ok (.aload_n 0, 1) := by decide +kernel
theorem dX2_leaves_25 : decode cX2_leaves 25 = .ok (.getfield 48, 3) := by decide +kernel
theorem dX2_leaves_28 : decode cX2_leaves 28 = .ok (.getfield 147, 3) := by decide +kernel
theorem dX2_leaves_31 : decode cX2_leaves 31 = .ok (.ireturn, 1) := by decide +kernel
theorem dX2_mean_0 : decode cX2_mean 0 = .ok (.aload_n 0, 1) := by decide +kernel
theorem dX2_mean_1 : decode cX2_mean 1 = .ok (.getfield 35, 3) := by decide +kernel
theorem dX2_mean_4 : decode cX2_mean 4 = .ok (.ifCond .ne 5, 3) := by decide +kernel
theorem dX2_mean_7 : decode cX2_mean 7 = .ok (.dconst 0, 1) := by decide +kernel
theorem dX2_mean_8 : decode cX2_mean 8 = .ok (.dreturn, 1) := by decide +kernel
theorem dX2_mean_9 : decode cX2_mean 9 = .ok (.aload_n 0, 1) := by decide +kernel
theorem dX2_mean_10 : decode cX2_mean 10 = .ok (.getfield 39, 3) := by decide +kernel
theorem dX2_mean_13 : decode cX2_mean 13 = .ok (.i2d, 1) := by decide +kernel
theorem dX2_mean_14 : decode cX2_mean 14 = .ok (.aload_n 0, 1) := by decide +kernel
theorem dX2_mean_15 : decode cX2_mean 15 = .ok (.getfield 35, 3) := by decide +kernel
theorem dX2_mean_18 : decode cX2_mean 18 = .ok (.i2d, 1) := by decide +kernel
theorem dX2_mean_19 : decode cX2_mean 19 = .ok (.ddiv, 1) := by decide +kernel
theorem dX2_mean_20 : decode cX2_mean 20 = .ok (.dreturn, 1) := by decide +kernel
set_option maxRecDepth 20000 in
theorem ggX2_request_X1_serve : GoodIn wsX2_request wsX1_serve := goodIn_r _ [17, 18, 19, 20, 21, 22, 23, 24, 25, 5, 26, 27, 28, 29, 30, 31, 32, 33, 16, 34, 35, 36, 37, 38, 39, 40, 41, 42, 43, 44, 45, 46, 47, 48, 49, 50, 51, 52, 53, 54, 55, 56, 57, 58, 59, 60, 61, 62, 63, 64, 65, 66, 67, 68, 69, 70, 71, 72, 73, 74, 75, 76, 77, 104, 105, 106, 107, 108, 109, 110, 111, 112] (by decide +kernel) (by decide +kernel)
set_option maxRecDepth 20000 in
theorem gX2_request_X1_serve : GoodIn wsX2_request (wsV RX2 144 RX1 yX1_serve wsX1_serve) := goodIn_app (goodIn_of _ (by decide +kernel)) ggX2_request_X1_serve
set_option maxRecDepth 20000 in
theorem ggX2_request_X2_addOne : GoodIn wsX2_request wsX2_addOne := goodIn_r _ [81] (by decide +kernel) (by decide +kernel)
set_option maxRecDepth 20000 in
theorem gX2_request_X2_addOne : GoodIn wsX2_request (va_wsS RX2 175 yX2_addOne wsX2_addOne) := goodIn_app (goodIn_of _ (by decide +kernel)) ggX2_request_X2_addOne
set_option maxRecDepth 20000 in
theorem ggX2_request_X2_isThere : GoodIn wsX2_request wsX2_isThere := goodIn_r _ [84] (by decide +kernel) (by decide +kernel)
set_option maxRecDepth 20000 in
theorem gX2_request_X2_isThere : GoodIn wsX2_request (va_wsS RX2 84 yX2_isThere wsX2_isThere) := goodIn_app (goodIn_of _ (by decide +kernel)) ggX2_request_X2_isThere
set_option maxRecDepth 20000 in
theorem ggX2_request_X2_servePlain : GoodIn wsX2_request wsX2_servePlain := goodIn_r _ [87, 88, 40, 41, 42, 43, 44, 45, 89, 75, 76, 77, 66, 67, 68, 69, 90, 51, 52, 53, 91, 55, 56, 57, 92, 63, 64, 65, 111, 112] (by decide +kernel) (by decide +kernel)
set_option maxRecDepth 20000 in
theorem gX2_request_X2_servePlain : GoodIn wsX2_request (va_wsS RX2 159 yX2_servePlain wsX2_servePlain) := goodIn_app (goodIn_of _ (by decide +kernel)) ggX2_request_X2_servePlain
theorem dX2_request_0 : decode cX2_request 0 = .ok (.aload_n 0, 1) := by decide +kernel
theorem dX2_request_1 : decode cX2_request 1 = .ok (.getfield 10, 3) := by decide +kernel
theorem dX2_request_4 : decode cX2_request 4 = .ok (.getfield 135, 3) := by decide +kernel
theorem dX2_request_7 : decode cX2_request 7 = .ok (.istore_n 2, 1) := by decide +kernel
theorem dX2_request_8 : decode cX2_request 8 = .ok (.aload_n 0, 1) := by decide +kernel
theorem dX2_request_9 : decode cX2_request 9 = .ok (.getfield 10, 3) := by decide +kernel
theorem dX2_request_12 : decode cX2_request 12 = .ok (.iload_n 1, 1) := by decide +kernel
theorem dX2_request_13 : decode cX2_request 13 = .ok (.invokevirtual 144, 3) := by decide +kernel
theorem dX2_request_16 : decode cX2_request 16 = .ok (.istore_n 3, 1) := by decide +kernel
theorem dX2_request_17 : decode cX2_request 17 = .ok (.aload_n 0, 1) := by decide +kernel
theorem dX2_request_18 : decode cX2_request 18 = .ok (.dup, 1) := by decide +kernel
theorem dX2_request_19 : decode cX2_request 19 = .ok (.getfield 45, 3) := by decide +kernel
theorem dX2_request_22 : decode cX2_request 22 = .ok (.aload_n 0, 1) := by decide +kernel
theorem dX2_request_23 : decode cX2_request 23 = .ok (.getfield 10, 3) := by decide +kernel
theorem dX2_request_26 : decode cX2_request 26 = .ok (.getfield 135, 3) := by decide +kernel
theorem dX2_request_29 : decode cX2_request 29 = .ok (.iload_n 2, 1) := by decide +kernel
theorem dX2_request_30 : decode cX2_request 30 = .ok (.isub, 1) := by decide +kernel
theorem dX2_request_31 : decode cX2_request 31 = .ok (.invokestatic 170, 3) := by decide +kernel
theorem dX2_request_34 : decode cX2_request 34 = .ok (.iadd, 1) := by decide +kernel
theorem dX2_request_35 : decode cX2_request 35 = .ok (.putfield 45, 3) := by decide +kernel
theorem dX2_request_38 : decode cX2_request 38 = .ok (.aload_n 0, 1) := by decide +kernel
theorem dX2_request_39 : decode cX2_request 39 = .ok (.dup, 1) := by decide +kernel
theorem dX2_request_40 : decode cX2_request 40 = .ok (.getfield 35, 3) := by decide +kernel
theorem dX2_request_43 : decode cX2_request 43 = .ok (.iconst 1, 1) := by decide +kernel
theorem dX2_request_44 : decode cX2_request 44 = .ok (.iadd, 1) := by decide +kernel
theorem dX2_request_45 : decode cX2_request 45 = .ok (.putfield 35, 3) := by decide +kernel
theorem dX2_request_48 : decode cX2_request 48 = .ok (.aload_n 0, 1) := by decide +kernel
theorem dX2_request_49 : decode cX2_request 49 = .ok (.getfield 28, 3) := by decide +kernel
theorem dX2_request_52 : decode cX2_request 52 = .ok (.iload_n 1, 1) := by decide +kernel
theorem dX2_request_53 : decode cX2_request 53 = .ok (.invokestatic 175, 3) := by decide +kernel
theorem dX2_request_56 : decode cX2_request 56 = .ok (.iload_n 3, 1) := by decide +kernel
theorem dX2_request_57 : decode cX2_request 57 = .ok (.invokestatic 84, 3) := by decide +kernel
theorem dX2_request_60 : decode cX2_request 60 = .ok (.ifCond .eq 21, 3) := by decide +kernel
theorem dX2_request_63 : decode cX2_request 63 = .ok (.aload_n 0, 1) := by decide +kernel
theorem dX2_request_64 : decode cX2_request 64 = .ok (.dup, 1) := by decide +kernel
theorem dX2_request_65 : decode cX2_request 65 = .ok (.getfield 39, 3) := by decide +kernel
theorem dX2_request_68 : decode cX2_request 68 = .ok (.iconst 1, 1) := by decide +kernel
theorem dX2_request_69 : decode cX2_request 69 = .ok (.iadd, 1) := by decide +kernel
theorem dX2_request_70 : decode cX2_request 70 = .ok (.putfield 39, 3) := by decide +kernel
theorem dX2_request_73 : decode cX2_request 73 = .ok (.aload_n 0, 1) := by decide +kernel
theorem dX2_request_74 : decode cX2_request 74 = .ok (.getfield 32, 3) := by decide +kernel
theorem dX2_request_77 : decode cX2_request 77 = .ok (.iload_n 1, 1) := by decide +kernel
theorem dX2_request_78 : decode cX2_request 78 = .ok (.invokestatic 175, 3) := by decide +kernel
theorem dX2_request_81 : decode cX2_request 81 = .ok (.aload_n 0, 1) := by decide +kernel
theorem dX2_request_82 : decode cX2_request 82 = .ok (.getfield 21, 3) := by decide +kernel
theorem dX2_request_85 : decode cX2_request 85 = .ok (.aload_n 0, 1) := by decide +kernel
theorem dX2_request_86 : decode cX2_request 86 = .ok (.getfield 10, 3) := by decide +kernel
theorem dX2_request_89 : decode cX2_request 89 = .ok (.getfield 61, 3) := by decide +kernel
theorem dX2_request_92 : decode cX2_request 92 = .ok (.iload_n 1, 1) := by decide +kernel
theorem dX2_request_93 : decode cX2_request 93 = .ok (.invokestatic 159, 3) := by decide +kernel
theorem dX2_request_96 : decode cX2_request 96 = .ok (.ifCond .eq 13, 3) := by decide +kernel
theorem dX2_request_99 : decode cX2_request 99 = .ok (.aload_n 0, 1) := by decide +kernel
theorem dX2_request_100 : decode cX2_request 100 = .ok (.dup, 1) := by decide +kernel
theorem dX2_request_101 : decode cX2_request 101 = .ok (.getfield 42, 3) := by decide +kernel
theorem dX2_request_104 : decode cX2_request 104 = .ok (.iconst 1, 1) := by decide +kernel
theorem dX2_request_105 : decode cX2_request 105 = .ok (.iadd, 1) := by decide +kernel
theorem dX2_request_106 : decode cX2_request 106 = .ok (.putfield 42, 3) := by decide +kernel
theorem dX2_request_109 : decode cX2_request 109 = .ok (.iload_n 3, 1) := by decide +kernel
theorem dX2_request_110 : decode cX2_request 110 = .ok (.ireturn, 1) := by decide +kernel
set_option maxRecDepth 20000 in
theorem ggX2_servePlain_X0_placeOf : GoodIn wsX2_servePlain wsX0_placeOf := goodIn_r _ [5, 6, 7, 28, 29] (by decide +kernel) (by decide +kernel)
set_option maxRecDepth 20000 in
theorem gX2_servePlain_X0_placeOf : GoodIn wsX2_servePlain (wsV RX2 93 RX0 yX0_placeOf wsX0_placeOf) := goodIn_app (goodIn_of _ (by decide +kernel)) ggX2_servePlain_X0_placeOf
set_option maxRecDepth 20000 in
theorem ggX2_servePlain_X0_takeAt : GoodIn wsX2_servePlain wsX0_takeAt := goodIn_r _ [11, 6, 7, 12, 13, 14, 15, 28, 29] (by decide +kernel) (by decide +kernel)
set_option maxRecDepth 20000 in
theorem gX2_servePlain_X0_takeAt : GoodIn wsX2_servePlain (wsV RX2 96 RX0 yX0_takeAt wsX0_takeAt) := goodIn_app (goodIn_of _ (by decide +kernel)) ggX2_servePlain_X0_takeAt
set_option maxRecDepth 20000 in
theorem ggX2_servePlain_X0_length : GoodIn wsX2_servePlain wsX0_length := goodIn_r _ [19, 6, 28, 29] (by decide +kernel) (by decide +kernel)
set_option maxRecDepth 20000 in
theorem gX2_servePlain_X0_length : GoodIn wsX2_servePlain (wsV RX2 102 RX0 yX0_length wsX0_length) := goodIn_app (goodIn_of _ (by decide +kernel)) ggX2_servePlain_X0_length
set_option maxRecDepth 20000 in
theorem ggX2_servePlain_X0_takeLast : GoodIn wsX2_servePlain wsX0_takeLast := goodIn_r _ [23, 6, 7, 28, 29] (by decide +kernel) (by decide +kernel)
set_option maxRecDepth 20000 in
theorem gX2_servePlain_X0_takeLast : GoodIn wsX2_servePlain (wsV RX2 179 RX0 yX0_takeLast wsX0_takeLast) := goodIn_app (goodIn_of _ (by decide +kernel)) ggX2_servePlain_X0_takeLast
set_option maxRecDepth 20000 in
theorem ggX2_servePlain_X0_putFirst : GoodIn wsX2_servePlain wsX0_putFirst := goodIn_r _ [27, 6, 7, 12, 13, 14, 15, 28, 29] (by decide +kernel) (by decide +kernel)
set_option maxRecDepth 20000 in
theorem gX2_servePlain_X0_putFirst : GoodIn wsX2_servePlain (wsV RX2 182 RX0 yX0_putFirst wsX0_putFirst) := goodIn_app (goodIn_of _ (by decide +kernel)) ggX2_servePlain_X0_putFirst
theorem dX2_servePlain_0 : decode cX2_servePlain 0 = .ok (.aload_n 0, 1) := by decide +kernel
theorem dX2_servePlain_1 : decode cX2_servePlain 1 = .ok (.iload_n 2, 1) := by decide +kernel
theorem dX2_servePlain_2 : decode cX2_servePlain 2 = .ok (.invokevirtual 93, 3) := by decide +kernel
theorem dX2_servePlain_5 : decode cX2_servePlain 5 = .ok (.istore_n 3, 1) := by decide +kernel
theorem dX2_servePlain_6 : decode cX2_servePlain 6 = .ok (.iload_n 3, 1) := by decide +kernel
theorem dX2_servePlain_7 : decode cX2_servePlain 7 = .ok (.iconst (-1), 1) := by decide +kernel
theorem dX2_servePlain_8 : decode cX2_servePlain 8 = .ok (.if_icmp .eq 7, 3) := by decide +kernel
theorem dX2_servePlain_11 : decode cX2_servePlain 11 = .ok (.iconst 1, 1) := by decide +kernel
theorem dX2_servePlain_12 : decode cX2_servePlain 12 = .ok (.goto 4, 3) := by decide +kernel
theorem dX2_servePlain_15 : decode cX2_servePlain 15 = .ok (.iconst 0, 1) := by decide +kernel
theorem dX2_servePlain_16 : decode cX2_servePlain 16 = .ok (.istore 4, 2) := by decide +kernel
theorem dX2_servePlain_18 : decode cX2_servePlain 18 = .ok (.iload 4, 2) := by decide +kernel
theorem dX2_servePlain_20 : decode cX2_servePlain 20 = .ok (.ifCond .eq 12, 3) := by decide +kernel
theorem dX2_servePlain_23 : decode cX2_servePlain 23 = .ok (.aload_n 0, 1) := by decide +kernel
theorem dX2_servePlain_24 : decode cX2_servePlain 24 = .ok (.iload_n 3, 1) := by decide +kernel
theorem dX2_servePlain_25 : decode cX2_servePlain 25 = .ok (.invokevirtual 96, 3) := by decide +kernel
theorem dX2_servePlain_28 : decode cX2_servePlain 28 = .ok (.pop, 1) := by decide +kernel
theorem dX2_servePlain_29 : decode cX2_servePlain 29 = .ok (.goto 16, 3) := by decide +kernel
theorem dX2_servePlain_32 : decode cX2_servePlain 32 = .ok (.aload_n 0, 1) := by decide +kernel
theorem dX2_servePlain_33 : decode cX2_servePlain 33 = .ok (.invokevirtual 102, 3) := by decide +kernel
theorem dX2_servePlain_36 : decode cX2_servePlain 36 = .ok (.iload_n 1, 1) := by decide +kernel
theorem dX2_servePlain_37 : decode cX2_servePlain 37 = .ok (.if_icmp .lt 8, 3) := by decide +kernel
theorem dX2_servePlain_40 : decode cX2_servePlain 40 = .ok (.aload_n 0, 1) := by decide +kernel
theorem dX2_servePlain_41 : decode cX2_servePlain 41 = .ok (.invokevirtual 179, 3) := by decide +kernel
theorem dX2_servePlain_44 : decode cX2_servePlain 44 = .ok (.pop, 1) := by decide +kernel
theorem dX2_servePlain_45 : decode cX2_servePlain 45 = .ok (.aload_n 0, 1) := by decide +kernel
theorem dX2_servePlain_46 : decode cX2_servePlain 46 = .ok (.iload_n 2, 1) := by decide +kernel
theorem dX2_servePlain_47 : decode cX2_servePlain 47 = .ok (.invokevirtual 182, 3) := by decide +kernel
theorem dX2_servePlain_50 : decode cX2_servePlain 50 = .ok (.iload 4, 2) := by decide +kernel
theorem dX2_servePlain_52 : decode cX2_servePlain 52 = .ok (.ireturn, 1) := by decide +kernel
set_option maxRecDepth 20000 in
theorem ggX2_rowNumbered_X1_rowAt : GoodIn wsX2_rowNumbered wsX1_rowAt := goodIn_r _ [8, 9, 10, 11, 12, 24, 25, 26, 27, 28, 29, 30] (by decide +kernel) (by decide +kernel)
set_option maxRecDepth 20000 in
theorem gX2_rowNumbered_X1_rowAt : GoodIn wsX2_rowNumbered (wsV RX2 80 RX1 yX1_rowAt wsX1_rowAt) := goodIn_app (goodIn_of _ (by decide +kernel)) ggX2_rowNumbered_X1_rowAt
theorem dX2_rowNumbered_0 : decode cX2_rowNumbered 0 = .ok (.iload_n 1, 1) := by decide +kernel
theorem dX2_rowNumbered_1 : decode cX2_rowNumbered 1 = .ok (.iconst 5, 1) := by decide +kernel
theorem dX2_rowNumbered_2 : decode cX2_rowNumbered 2 = .ok (.if_icmp .ne 8, 3) := by decide +kernel
theorem dX2_rowNumbered_5 : decode cX2_rowNumbered 5 = .ok (.aload_n 0, 1) := by decide +kernel
theorem dX2_rowNumbered_6 : decode cX2_rowNumbered 6 = .ok (.getfield 21, 3) := by decide +kernel
theorem dX2_rowNumbered_9 : decode cX2_rowNumbered 9 = .ok (.areturn, 1) := by decide +kernel
theorem dX2_rowNumbered_10 : decode cX2_rowNumbered 10 = .ok (.iload_n 1, 1) := by decide +kernel
theorem dX2_rowNumbered_11 : decode cX2_rowNumbered 11 = .ok (.bipush 6, 2) := by decide +kernel
theorem dX2_rowNumbered_13 : decode cX2_rowNumbered 13 = .ok (.if_icmp .ne 8, 3) := by decide +kernel
theorem dX2_rowNumbered_16 : decode cX2_rowNumbered 16 = .ok (.aload_n 0, 1) := by decide +kernel
theorem dX2_rowNumbered_17 : decode cX2_rowNumbered 17 = .ok (.getfield 25, 3) := by decide +kernel
theorem dX2_rowNumbered_20 : decode cX2_rowNumbered 20 = .ok (.areturn, 1) := by decide +kernel
theorem dX2_rowNumbered_21 : decode cX2_rowNumbered 21 = .ok (.aload_n 0, 1) := by decide +kernel
theorem dX2_rowNumbered_22 : decode cX2_rowNumbered 22 = .ok (.getfield 10, 3) := by decide +kernel
theorem dX2_rowNumbered_25 : decode cX2_rowNumbered 25 = .ok (.iload_n 1, 1) := by decide +kernel
theorem dX2_rowNumbered_26 : decode cX2_rowNumbered 26 = .ok (.invokevirtual 80, 3) := by decide +kernel
theorem dX2_rowNumbered_29 : decode cX2_rowNumbered 29 = .ok (.areturn, 1) := by decide +kernel
theorem dX2_isThere_0 : decode cX2_isThere 0 = .ok (.iload_n 0, 1) := by decide +kernel
theorem dX2_isThere_1 : decode cX2_isThere 1 = .ok (.iconst 1, 1) := by decide +kernel
theorem dX2_isThere_2 : decode cX2_isThere 2 = .ok (.if_icmp .eq 8, 3) := by decide +kernel
theorem dX2_isThere_5 : decode cX2_isThere 5 = .ok (.iload_n 0, 1) := by decide +kernel
theorem dX2_isThere_6 : decode cX2_isThere 6 = .ok (.iconst 2, 1) := by decide +kernel
theorem dX2_isThere_7 : decode cX2_isThere 7 = .ok (.if_icmp .ne 7, 3) := by decide +kernel
theorem dX2_isThere_10 : decode cX2_isThere 10 = .ok (.iconst 1, 1) := by decide +kernel
theorem dX2_isThere_11 : decode cX2_isThere 11 = .ok (.goto 4, 3) := by decide +kernel
theorem dX2_isThere_14 : decode cX2_isThere 14 = .ok (.iconst 0, 1) := by decide +kernel
theorem dX2_isThere_15 : decode cX2_isThere 15 = .ok (.ireturn, 1) := by decide +kernel
theorem dX2_tallyOf_0 : decode cX2_tallyOf 0 = .ok (.iload_n 1, 1) := by decide +kernel
theorem dX2_tallyOf_1 : decode cX2_tallyOf 1 = .ok (.ifCond .lt 9, 3) := by decide +kernel
theorem dX2_tallyOf_4 : decode cX2_tallyOf 4 = .ok (.iload_n 1, 1) := by decide +kernel
theorem dX2_tallyOf_5 : decode cX2_tallyOf 5 = .ok (.aload_n 0, 1) := by decide +kernel
theorem dX2_tallyOf_6 : decode cX2_tallyOf 6 = .ok (.arraylength, 1) := by decide +kernel
theorem dX2_tallyOf_7 : decode cX2_tallyOf 7 = .ok (.if_icmp .lt 7, 3) := by decide +kernel
theorem dX2_tallyOf_10 : decode cX2_tallyOf 10 = .ok (.iconst 0, 1) := by decide +kernel
theorem dX2_tallyOf_11 : decode cX2_tallyOf 11 = .ok (.goto 6, 3) := by decide +kernel
theorem dX2_tallyOf_14 : decode cX2_tallyOf 14 = .ok (.aload_n 0, 1) := by decide +kernel
theorem dX2_tallyOf_15 : decode cX2_tallyOf 15 = .ok (.iload_n 1, 1) := by decide +kernel
theorem dX2_tallyOf_16 : decode cX2_tallyOf 16 = .ok (.iaload, 1) := by decide +kernel
theorem dX2_tallyOf_17 : decode cX2_tallyOf 17 = .ok (.ireturn, 1) := by decide +kernel
theorem dX2_addOne_0 : decode cX2_addOne 0 = .ok (.iload_n 1, 1) := by decide +kernel
theorem dX2_addOne_1 : decode cX2_addOne 1 = .ok (.ifCond .lt 16, 3) := by decide +kernel
theorem dX2_addOne_4 : decode cX2_addOne 4 = .ok (.iload_n 1, 1) := by decide +kernel
theorem dX2_addOne_5 : decode cX2_addOne 5 = .ok (.aload_n 0, 1) := by decide +kernel
theorem dX2_addOne_6 : decode cX2_addOne 6 = .ok (.arraylength, 1) := by decide +kernel
theorem dX2_addOne_7 : decode cX2_addOne 7 = .ok (.if_icmp .ge 10, 3) := by decide +kernel
theorem dX2_addOne_10 : decode cX2_addOne 10 = .ok (.aload_n 0, 1) := by decide +kernel
theorem dX2_addOne_11 : decode cX2_addOne 11 = .ok (.iload_n 1, 1) := by decide +kernel
theorem dX2_addOne_12 : decode cX2_addOne 12 = .ok (.dup2, 1) := by decide +kernel
theorem dX2_addOne_13 : decode cX2_addOne 13 = .ok (.iaload, 1) := by decide +kernel
theorem dX2_addOne_14 : decode cX2_addOne 14 = .ok (.iconst 1, 1) := by decide +kernel
theorem dX2_addOne_15 : decode cX2_addOne 15 = .ok (.iadd, 1) := by decide +kernel
theorem dX2_addOne_16 : decode cX2_addOne 16 = .ok (.iastore, 1) := by decide +kernel
theorem dX2_addOne_17 : decode cX2_addOne 17 = .ok (.return_, 1) := by decide +kernel
theorem dX2_checkJar_0 : decode cX2_checkJar 0 = .ok (.iload_n 0, 1) := by decide +kernel
theorem dX2_checkJar_1 : decode cX2_checkJar 1 = .ok (.ifCond .lt 9, 3) := by decide +kernel
theorem dX2_checkJar_4 : decode cX2_checkJar 4 = .ok (.iload_n 0, 1) := by decide +kernel
theorem dX2_checkJar_5 : decode cX2_checkJar 5 = .ok (.bipush 30, 2) := by decide +kernel
theorem dX2_checkJar_7 : decode cX2_checkJar 7 = .ok (.if_icmp .lt 13, 3) := by decide +kernel
theorem dX2_checkJar_10 : decode cX2_checkJar 10 = .ok (.new 114, 3) := by decide +kernel
theorem dX2_checkJar_13 : decode cX2_checkJar 13 = .ok (.dup, 1) := by decide +kernel
theorem dX2_checkJar_14 : decode cX2_checkJar 14 = .ok (.ldc 185, 2) := by decide +kernel
theorem dX2_checkJar_16 : decode cX2_checkJar 16 = .ok (.invokespecial 118, 3) := by decide +kernel
theorem dX2_checkJar_19 : decode cX2_checkJar 19 = .ok (.athrow, 1) := by decide +kernel
theorem dX2_checkJar_20 : decode cX2_checkJar 20 = .ok (.return_, 1) := by decide +kernel
