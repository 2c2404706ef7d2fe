set_option maxRecDepth 20000 in
theorem ggX0_init_X0_setPrime : GoodIn wsX0_init wsX0_setPrime := goodIn_r _ [19, 20, 21, 5, 6, 22, 23, 24, 18, 25, 26, 27, 28, 29, 30, 31, 32, 33, 34, 35, 10, 36, 37, 38, 39, 40, 41, 42, 43, 44, 45, 46, 47, 48, 49, 50, 51, 52, 53, 54, 55] (by decide +kernel) (by decide +kernel)
set_option maxRecDepth 20000 in
theorem gX0_init_X0_setPrime : GoodIn wsX0_init (wsV RX0 37 RX0 yX0_setPrime wsX0_setPrime) := goodIn_app (goodIn_of _ (by decide +kernel)) ggX0_init_X0_setPrime
theorem dX0_init_0 : decode cX0_init 0 = .ok (.aload_n 0, 1) := by decide +kernel
theorem dX0_init_1 : decode cX0_init 1 = .ok (.invokespecial 1, 3) := by decide +kernel
theorem dX0_init_4 : decode cX0_init 4 = .ok (.aload_n 0, 1) := by decide +kernel
theorem dX0_init_5 : decode cX0_init 5 = .ok (.sipush 199, 3) := by decide +kernel
theorem dX0_init_8 : decode cX0_init 8 = .ok (.newarray .int, 2) := by decide +kernel
theorem dX0_init_10 : decode cX0_init 10 = .ok (.putfield 9, 3) := by decide +kernel
theorem dX0_init_13 : decode cX0_init 13 = .ok (.aload_n 0, 1) := by decide +kernel
theorem dX0_init_14 : decode cX0_init 14 = .ok (.sipush 199, 3) := by decide +kernel
theorem dX0_init_17 : decode cX0_init 17 = .ok (.newarray .int, 2) := by decide +kernel
theorem dX0_init_19 : decode cX0_init 19 = .ok (.putfield 13, 3) := by decide +kernel
theorem dX0_init_22 : decode cX0_init 22 = .ok (.aload_n 0, 1) := by decide +kernel
theorem dX0_init_23 : decode cX0_init 23 = .ok (.sipush 199, 3) := by decide +kernel
theorem dX0_init_26 : decode cX0_init 26 = .ok (.newarray .int, 2) := by decide +kernel
theorem dX0_init_28 : decode cX0_init 28 = .ok (.putfield 16, 3) := by decide +kernel
theorem dX0_init_31 : decode cX0_init 31 = .ok (.aload_n 0, 1) := by decide +kernel
theorem dX0_init_32 : decode cX0_init 32 = .ok (.sipush 199, 3) := by decide +kernel
theorem dX0_init_35 : decode cX0_init 35 = .ok (.newarray .int, 2) := by decide +kernel
theorem dX0_init_37 : decode cX0_init 37 = .ok (.putfield 19, 3) := by decide +kernel
theorem dX0_init_40 : decode cX0_init 40 = .ok (.aload_n 0, 1) := by decide +kernel
theorem dX0_init_41 : decode cX0_init 41 = .ok (.bipush 6, 2) := by decide +kernel
theorem dX0_init_43 : decode cX0_init 43 = .ok (.bipush 10, 2) := by decide +kernel
theorem dX0_init_45 : decode cX0_init 45 = .ok (.multianewarray 22 2, 4) := by decide +kernel
theorem dX0_init_49 : decode cX0_init 49 = .ok (.putfield 24, 3) := by decide +kernel
theorem dX0_init_52 : decode cX0_init 52 = .ok (.aload_n 0, 1) := by decide +kernel
theorem dX0_init_53 : decode cX0_init 53 = .ok (.bipush 12, 2) := by decide +kernel
theorem dX0_init_55 : decode cX0_init 55 = .ok (.newarray .long, 2) := by decide +kernel
theorem dX0_init_57 : decode cX0_init 57 = .ok (.putfield 27, 3) := by decide +kernel
theorem dX0_init_60 : decode cX0_init 60 = .ok (.aload_n 0, 1) := by decide +kernel
theorem dX0_init_61 : decode cX0_init 61 = .ok (.bipush 12, 2) := by decide +kernel
theorem dX0_init_63 : decode cX0_init 63 = .ok (.newarray .long, 2) := by decide +kernel
theorem dX0_init_65 : decode cX0_init 65 = .ok (.putfield 31, 3) := by decide +kernel
theorem dX0_init_68 : decode cX0_init 68 = .ok (.aload_n 0, 1) := by decide +kernel
theorem dX0_init_69 : decode cX0_init 69 = .ok (.bipush 12, 2) := by decide +kernel
theorem dX0_init_71 : decode cX0_init 71 = .ok (.newarray .long, 2) := by decide +kernel
theorem dX0_init_73 : decode cX0_init 73 = .ok (.putfield 34, 3) := by decide +kernel
theorem dX0_init_76 : decode cX0_init 76 = .ok (.aload_n 0, 1) := by decide +kernel
theorem dX0_init_77 : decode cX0_init 77 = .ok (.bipush 13, 2) := by decide +kernel
theorem dX0_init_79 : decode cX0_init 79 = .ok (.invokevirtual 37, 3) := by decide +kernel
theorem dX0_init_82 : decode cX0_init 82 = .ok (.return_, 1) := by decide +kernel
set_option maxRecDepth 20000 in
theorem ggX0_prime_X0_isPrime : GoodIn wsX0_prime wsX0_isPrime := goodIn_r _ [5] (by decide +kernel) (by decide +kernel)
set_option maxRecDepth 20000 in
theorem gX0_prime_X0_isPrime : GoodIn wsX0_prime (va_wsS RX0 41 yX0_isPrime wsX0_isPrime) := goodIn_app (goodIn_of _ (by decide +kernel)) ggX0_prime_X0_isPrime
set_option maxRecDepth 20000 in
theorem ggX0_prime_X0_setPrime : GoodIn wsX0_prime wsX0_setPrime := goodIn_r _ [9, 10, 1, 11, 12, 13, 14, 15, 4, 16, 17, 18, 19, 20, 21, 22, 23, 24, 25, 26, 27, 28, 29, 30, 31, 32, 33, 34, 35, 36, 37, 38, 39, 40, 41, 42, 43, 44, 45, 46, 47] (by decide +kernel) (by decide +kernel)
set_option maxRecDepth 20000 in
theorem gX0_prime_X0_setPrime : GoodIn wsX0_prime (wsV RX0 37 RX0 yX0_setPrime wsX0_setPrime) := goodIn_app (goodIn_of _ (by decide +kernel)) ggX0_prime_X0_setPrime
theorem dX0_prime_0 : decode cX0_prime 0 = .ok (.iload_n 1, 1) := by decide +kernel
theorem dX0_prime_1 : decode cX0_prime 1 = .ok (.iconst 3, 1) := by decide +kernel
theorem dX0_prime_2 : decode cX0_prime 2 = .ok (.if_icmp .lt 17, 3) := by decide +kernel
theorem dX0_prime_5 : decode cX0_prime 5 = .ok (.iload_n 1, 1) := by decide +kernel
theorem dX0_prime_6 : decode cX0_prime 6 = .ok (.sipush 199, 3) := by decide +kernel
theorem dX0_prime_9 : decode cX0_prime 9 = .ok (.if_icmp .gt 10, 3) := by decide +kernel
theorem dX0_prime_12 : decode cX0_prime 12 = .ok (.iload_n 1, 1) := by decide +kernel
theorem dX0_prime_13 : decode cX0_prime 13 = .ok (.invokestatic 41, 3) := by decide +kernel
theorem dX0_prime_16 : decode cX0_prime 16 = .ok (.ifCond .ne 6, 3) := by decide +kernel
theorem dX0_prime_19 : decode cX0_prime 19 = .ok (.bipush (-3), 2) := by decide +kernel
theorem dX0_prime_21 : decode cX0_prime 21 = .ok (.ireturn, 1) := by decide +kernel
theorem dX0_prime_22 : decode cX0_prime 22 = .ok (.aload_n 0, 1) := by decide +kernel
theorem dX0_prime_23 : decode cX0_prime 23 = .ok (.iload_n 1, 1) := by decide +kernel
theorem dX0_prime_24 : decode cX0_prime 24 = .ok (.invokevirtual 37, 3) := by decide +kernel
theorem dX0_prime_27 : decode cX0_prime 27 = .ok (.aload_n 0, 1) := by decide +kernel
theorem dX0_prime_28 : decode cX0_prime 28 = .ok (.getfield 45, 3) := by decide +kernel
theorem dX0_prime_31 : decode cX0_prime 31 = .ok (.ireturn, 1) := by decide +kernel
set_option maxRecDepth 20000 in
theorem ggX0_degree_X0_setDegree : GoodIn wsX0_degree wsX0_setDegree := goodIn_r _ [7, 8, 2, 9, 10, 11, 12, 6, 13, 14, 15, 16, 17, 18, 19, 20, 21, 22, 23, 24, 25, 26, 27, 28, 29] (by decide +kernel) (by decide +kernel)
set_option maxRecDepth 20000 in
theorem gX0_degree_X0_setDegree : GoodIn wsX0_degree (wsV RX0 52 RX0 yX0_setDegree wsX0_setDegree) := goodIn_app (goodIn_of _ (by decide +kernel)) ggX0_degree_X0_setDegree
theorem dX0_degree_0 : decode cX0_degree 0 = .ok (.iload_n 1, 1) := by decide +kernel
theorem dX0_degree_1 : decode cX0_degree 1 = .ok (.iconst 1, 1) := by decide +kernel
theorem dX0_degree_2 : decode cX0_degree 2 = .ok (.if_icmp .lt 20, 3) := by decide +kernel
theorem dX0_degree_5 : decode cX0_degree 5 = .ok (.iload_n 1, 1) := by decide +kernel
theorem dX0_degree_6 : decode cX0_degree 6 = .ok (.bipush 12, 2) := by decide +kernel
theorem dX0_degree_8 : decode cX0_degree 8 = .ok (.if_icmp .gt 14, 3) := by decide +kernel
theorem dX0_degree_11 : decode cX0_degree 11 = .ok (.aload_n 0, 1) := by decide +kernel
theorem dX0_degree_12 : decode cX0_degree 12 = .ok (.getfield 49, 3) := by decide +kernel
theorem dX0_degree_15 : decode cX0_degree 15 = .ok (.iconst 1, 1) := by decide +kernel
theorem dX0_degree_16 : decode cX0_degree 16 = .ok (.isub, 1) := by decide +kernel
theorem dX0_degree_17 : decode cX0_degree 17 = .ok (.iload_n 1, 1) := by decide +kernel
theorem dX0_degree_18 : decode cX0_degree 18 = .ok (.irem, 1) := by decide +kernel
theorem dX0_degree_19 : decode cX0_degree 19 = .ok (.ifCond .eq 6, 3) := by decide +kernel
theorem dX0_degree_22 : decode cX0_degree 22 = .ok (.bipush (-3), 2) := by decide +kernel
theorem dX0_degree_24 : decode cX0_degree 24 = .ok (.ireturn, 1) := by decide +kernel
theorem dX0_degree_25 : decode cX0_degree 25 = .ok (.aload_n 0, 1) := by decide +kernel
theorem dX0_degree_26 : decode cX0_degree 26 = .ok (.iload_n 1, 1) := by decide +kernel
theorem dX0_degree_27 : decode cX0_degree 27 = .ok (.invokevirtual 52, 3) := by decide +kernel
theorem dX0_degree_30 : decode cX0_degree 30 = .ok (.aload_n 0, 1) := by decide +kernel
theorem dX0_degree_31 : decode cX0_degree 31 = .ok (.getfield 55, 3) := by decide +kernel
theorem dX0_degree_34 : decode cX0_degree 34 = .ok (.ireturn, 1) := by decide +kernel
set_option maxRecDepth 20000 in
theorem ggX0_rest_J9_floorMod_7cf53 : GoodIn wsX0_rest wsJ9_floorMod_7cf53 := goodIn_r _ [6] (by decide +kernel) (by decide +kernel)
set_option maxRecDepth 20000 in
theorem gX0_rest_J9_floorMod_7cf53 : GoodIn wsX0_rest (va_wsS RX0 58 yJ9_floorMod_7cf53 wsJ9_floorMod_7cf53) := goodIn_app (goodIn_of _ (by decide +kernel)) ggX0_rest_J9_floorMod_7cf53
set_option maxRecDepth 20000 in
theorem ggX0_rest_X0_classOf : GoodIn wsX0_rest wsX0_classOf := goodIn_r _ [11, 2, 1, 12, 13, 14, 15, 16, 17, 18, 19, 20, 21, 22, 23, 24] (by decide +kernel) (by decide +kernel)
set_option maxRecDepth 20000 in
theorem gX0_rest_X0_classOf : GoodIn wsX0_rest (wsV RX0 64 RX0 yX0_classOf wsX0_classOf) := goodIn_app (goodIn_of _ (by decide +kernel)) ggX0_rest_X0_classOf
theorem dX0_rest_0 : decode cX0_rest 0 = .ok (.iload_n 2, 1) := by decide +kernel
theorem dX0_rest_1 : decode cX0_rest 1 = .ok (.ifCond .lt 8, 3) := by decide +kernel
theorem dX0_rest_4 : decode cX0_rest 4 = .ok (.iload_n 2, 1) := by decide +kernel
theorem dX0_rest_5 : decode cX0_rest 5 = .ok (.iconst 1, 1) := by decide +kernel
theorem dX0_rest_6 : decode cX0_rest 6 = .ok (.if_icmp .le 6, 3) := by decide +kernel
theorem dX0_rest_9 : decode cX0_rest 9 = .ok (.bipush (-3), 2) := by decide +kernel
theorem dX0_rest_11 : decode cX0_rest 11 = .ok (.ireturn, 1) := by decide +kernel
theorem dX0_rest_12 : decode cX0_rest 12 = .ok (.iload_n 1, 1) := by decide +kernel
theorem dX0_rest_13 : decode cX0_rest 13 = .ok (.aload_n 0, 1) := by decide +kernel
theorem dX0_rest_14 : decode cX0_rest 14 = .ok (.getfield 49, 3) := by decide +kernel
theorem dX0_rest_17 : decode cX0_rest 17 = .ok (.invokestatic 58, 3) := by decide +kernel
theorem dX0_rest_20 : decode cX0_rest 20 = .ok (.istore_n 3, 1) := by decide +kernel
theorem dX0_rest_21 : decode cX0_rest 21 = .ok (.iload_n 3, 1) := by decide +kernel
theorem dX0_rest_22 : decode cX0_rest 22 = .ok (.ifCond .ne 5, 3) := by decide +kernel
theorem dX0_rest_25 : decode cX0_rest 25 = .ok (.iconst (-1), 1) := by decide +kernel
theorem dX0_rest_26 : decode cX0_rest 26 = .ok (.ireturn, 1) := by decide +kernel
theorem dX0_rest_27 : decode cX0_rest 27 = .ok (.iload_n 2, 1) := by decide +kernel
theorem dX0_rest_28 : decode cX0_rest 28 = .ok (.ifCond .ne 12, 3) := by decide +kernel
theorem dX0_rest_31 : decode cX0_rest 31 = .ok (.aload_n 0, 1) := by decide +kernel
theorem dX0_rest_32 : decode cX0_rest 32 = .ok (.getfield 9, 3) := by decide +kernel
theorem dX0_rest_35 : decode cX0_rest 35 = .ok (.iload_n 3, 1) := by decide +kernel
theorem dX0_rest_36 : decode cX0_rest 36 = .ok (.iaload, 1) := by decide +kernel
theorem dX0_rest_37 : decode cX0_rest 37 = .ok (.goto 8, 3) := by decide +kernel
theorem dX0_rest_40 : decode cX0_rest 40 = .ok (.aload_n 0, 1) := by decide +kernel
theorem dX0_rest_41 : decode cX0_rest 41 = .ok (.iload_n 3, 1) := by decide +kernel
theorem dX0_rest_42 : decode cX0_rest 42 = .ok (.invokevirtual 64, 3) := by decide +kernel
theorem dX0_rest_45 : decode cX0_rest 45 = .ok (.ireturn, 1) := by decide +kernel
set_option maxRecDepth 20000 in
theorem ggX0_meeting_X0_isClass : GoodIn wsX0_meeting wsX0_isClass := goodIn_r _ [6, 7, 13, 14, 15, 16, 17, 18, 19, 20, 21, 22, 23, 24] (by decide +kernel) (by decide +kernel)
set_option maxRecDepth 20000 in
theorem gX0_meeting_X0_isClass : GoodIn wsX0_meeting (wsV RX0 68 RX0 yX0_isClass wsX0_isClass) := goodIn_app (goodIn_of _ (by decide +kernel)) ggX0_meeting_X0_isClass
set_option maxRecDepth 20000 in
theorem ggX0_meeting_X0_classOf : GoodIn wsX0_meeting wsX0_classOf := goodIn_r _ [11, 12, 1, 7, 13, 14, 15, 16, 17, 18, 19, 20, 21, 22, 23, 24] (by decide +kernel) (by decide +kernel)
set_option maxRecDepth 20000 in
theorem gX0_meeting_X0_classOf : GoodIn wsX0_meeting (wsV RX0 64 RX0 yX0_classOf wsX0_classOf) := goodIn_app (goodIn_of _ (by decide +kernel)) ggX0_meeting_X0_classOf
theorem dX0_meeting_0 : decode cX0_meeting 0 = .ok (.aload_n 0, 1) := by decide +kernel
theorem dX0_meeting_1 : decode cX0_meeting 1 = .ok (.iload_n 1, 1) := by decide +kernel
theorem dX0_meeting_2 : decode cX0_meeting 2 = .ok (.invokevirtual 68, 3) := by decide +kernel
theorem dX0_meeting_5 : decode cX0_meeting 5 = .ok (.ifCond .eq 11, 3) := by decide +kernel
theorem dX0_meeting_8 : decode cX0_meeting 8 = .ok (.aload_n 0, 1) := by decide +kernel
theorem dX0_meeting_9 : decode cX0_meeting 9 = .ok (.iload_n 2, 1) := by decide +kernel
theorem dX0_meeting_10 : decode cX0_meeting 10 = .ok (.invokevirtual 68, 3) := by decide +kernel
theorem dX0_meeting_13 : decode cX0_meeting 13 = .ok (.ifCond .ne 6, 3) := by decide +kernel
theorem dX0_meeting_16 : decode cX0_meeting 16 = .ok (.bipush (-2), 2) := by decide +kernel
theorem dX0_meeting_18 : decode cX0_meeting 18 = .ok (.ireturn, 1) := by decide +kernel
theorem dX0_meeting_19 : decode cX0_meeting 19 = .ok (.iconst 0, 1) := by decide +kernel
theorem dX0_meeting_20 : decode cX0_meeting 20 = .ok (.istore_n 3, 1) := by decide +kernel
theorem dX0_meeting_21 : decode cX0_meeting 21 = .ok (.iconst 1, 1) := by decide +kernel
theorem dX0_meeting_22 : decode cX0_meeting 22 = .ok (.istore 4, 2) := by decide +kernel
theorem dX0_meeting_24 : decode cX0_meeting 24 = .ok (.iload 4, 2) := by decide +kernel
theorem dX0_meeting_26 : decode cX0_meeting 26 = .ok (.aload_n 0, 1) := by decide +kernel
theorem dX0_meeting_27 : decode cX0_meeting 27 = .ok (.getfield 49, 3) := by decide +kernel
theorem dX0_meeting_30 : decode cX0_meeting 30 = .ok (.iconst 1, 1) := by decide +kernel
theorem dX0_meeting_31 : decode cX0_meeting 31 = .ok (.isub, 1) := by decide +kernel
theorem dX0_meeting_32 : decode cX0_meeting 32 = .ok (.if_icmp .ge 34, 3) := by decide +kernel
theorem dX0_meeting_35 : decode cX0_meeting 35 = .ok (.aload_n 0, 1) := by decide +kernel
theorem dX0_meeting_36 : decode cX0_meeting 36 = .ok (.iload 4, 2) := by decide +kernel
theorem dX0_meeting_38 : decode cX0_meeting 38 = .ok (.invokevirtual 64, 3) := by decide +kernel
theorem dX0_meeting_41 : decode cX0_meeting 41 = .ok (.iload_n 1, 1) := by decide +kernel
theorem dX0_meeting_42 : decode cX0_meeting 42 = .ok (.if_icmp .ne 18, 3) := by decide +kernel
theorem dX0_meeting_45 : decode cX0_meeting 45 = .ok (.aload_n 0, 1) := by decide +kernel
theorem dX0_meeting_46 : decode cX0_meeting 46 = .ok (.iload 4, 2) := by decide +kernel
theorem dX0_meeting_48 : decode cX0_meeting 48 = .ok (.iconst 1, 1) := by decide +kernel
theorem dX0_meeting_49 : decode cX0_meeting 49 = .ok (.iadd, 1) := by decide +kernel
theorem dX0_meeting_50 : decode cX0_meeting 50 = .ok (.invokevirtual 64, 3) := by decide +kernel
theorem dX0_meeting_53 : decode cX0_meeting 53 = .ok (.iload_n 2, 1) := by decide +kernel
theorem dX0_meeting_54 : decode cX0_meeting 54 = .ok (.if_icmp .ne 6, 3) := by decide +kernel
theorem dX0_meeting_57 : decode cX0_meeting 57 = .ok (.iinc 3 1, 3) := by decide +kernel
theorem dX0_meeting_60 : decode cX0_meeting 60 = .ok (.iinc 4 1, 3) := by decide +kernel
theorem dX0_meeting_63 : decode cX0_meeting 63 = .ok (.goto (-39), 3) := by decide +kernel
theorem dX0_meeting_66 : decode cX0_meeting 66 = .ok (.iload_n 3, 1) := by decide +kernel
theorem dX0_meeting_67 : decode cX0_meeting 67 = .ok (.ireturn, 1) := by decide +kernel
set_option maxRecDepth 20000 in
theorem ggX0_sum_X0_isHold : GoodIn wsX0_sum wsX0_isHold := goodIn_r _ [7] (by decide +kernel) (by decide +kernel)
set_option maxRecDepth 20000 in
theorem gX0_sum_X0_isHold : GoodIn wsX0_sum (va_wsS RX0 71 yX0_isHold wsX0_isHold) := goodIn_app (goodIn_of _ (by decide +kernel)) ggX0_sum_X0_isHold
set_option maxRecDepth 20000 in
theorem ggX0_sum_J9_floorMod_7cf53 : GoodIn wsX0_sum wsJ9_floorMod_7cf53 := goodIn_r _ [11] (by decide +kernel) (by decide +kernel)
set_option maxRecDepth 20000 in
theorem gX0_sum_J9_floorMod_7cf53 : GoodIn wsX0_sum (va_wsS RX0 58 yJ9_floorMod_7cf53 wsJ9_floorMod_7cf53) := goodIn_app (goodIn_of _ (by decide +kernel)) ggX0_sum_J9_floorMod_7cf53
set_option maxRecDepth 20000 in
theorem ggX0_sum_J7_fill_d0a16 : GoodIn wsX0_sum wsJ7_fill_d0a16 := goodIn_r _ [15] (by decide +kernel) (by decide +kernel)
set_option maxRecDepth 20000 in
theorem gX0_sum_J7_fill_d0a16 : GoodIn wsX0_sum (va_wsS RX0 77 yJ7_fill_d0a16 wsJ7_fill_d0a16) := goodIn_app (goodIn_of _ (by decide +kernel)) ggX0_sum_J7_fill_d0a16
set_option maxRecDepth 20000 in
theorem ggX0_sum_X0_classOf : GoodIn wsX0_sum wsX0_classOf := goodIn_r _ [19, 20, 3, 1, 34, 35, 36, 37, 38, 39, 40, 41, 42, 43, 44, 45] (by decide +kernel) (by decide +kernel)
set_option maxRecDepth 20000 in
theorem gX0_sum_X0_classOf : GoodIn wsX0_sum (wsV RX0 64 RX0 yX0_classOf wsX0_classOf) := goodIn_app (goodIn_of _ (by decide +kernel)) ggX0_sum_X0_classOf
set_option maxRecDepth 20000 in
theorem ggX0_sum_X0_store : GoodIn wsX0_sum wsX0_store := goodIn_r _ [24, 25, 2, 26, 27, 28, 29, 30, 31, 6, 32, 1, 33, 34, 35, 36, 37, 38, 39, 40, 41, 42, 43, 44, 45] (by decide +kernel) (by decide +kernel)
set_option maxRecDepth 20000 in
theorem gX0_sum_X0_store : GoodIn wsX0_sum (wsV RX0 83 RX0 yX0_store wsX0_store) := goodIn_app (goodIn_of _ (by decide +kernel)) ggX0_sum_X0_store
theorem dX0_sum_0 : decode cX0_sum 0 = .ok (.iload_n 1, 1) := by decide +kernel
theorem dX0_sum_1 : decode cX0_sum 1 = .ok (.invokestatic 71, 3) := by decide +kernel
theorem dX0_sum_4 : decode cX0_sum 4 = .ok (.ifCond .ne 6, 3) := by decide +kernel
theorem dX0_sum_7 : decode cX0_sum 7 = .ok (.bipush (-2), 2) := by decide +kernel
theorem dX0_sum_9 : decode cX0_sum 9 = .ok (.ireturn, 1) := by decide +kernel
theorem dX0_sum_10 : decode cX0_sum 10 = .ok (.iload_n 2, 1) := by decide +kernel
theorem dX0_sum_11 : decode cX0_sum 11 = .ok (.aload_n 0, 1) := by decide +kernel
theorem dX0_sum_12 : decode cX0_sum 12 = .ok (.getfield 74, 3) := by decide +kernel
theorem dX0_sum_15 : decode cX0_sum 15 = .ok (.invokestatic 58, 3) := by decide +kernel
theorem dX0_sum_18 : decode cX0_sum 18 = .ok (.istore 4, 2) := by decide +kernel
theorem dX0_sum_20 : decode cX0_sum 20 = .ok (.iload_n 3, 1) := by decide +kernel
theorem dX0_sum_21 : decode cX0_sum 21 = .ok (.aload_n 0, 1) := by decide +kernel
theorem dX0_sum_22 : decode cX0_sum 22 = .ok (.getfield 74, 3) := by decide +kernel
theorem dX0_sum_25 : decode cX0_sum 25 = .ok (.invokestatic 58, 3) := by decide +kernel
theorem dX0_sum_28 : decode cX0_sum 28 = .ok (.istore 5, 2) := by decide +kernel
theorem dX0_sum_30 : decode cX0_sum 30 = .ok (.aload_n 0, 1) := by decide +kernel
theorem dX0_sum_31 : decode cX0_sum 31 = .ok (.getfield 27, 3) := by decide +kernel
theorem dX0_sum_34 : decode cX0_sum 34 = .ok (.lconst 0, 1) := by decide +kernel
theorem dX0_sum_35 : decode cX0_sum 35 = .ok (.invokestatic 77, 3) := by decide +kernel
theorem dX0_sum_38 : decode cX0_sum 38 = .ok (.iconst 2, 1) := by decide +kernel
theorem dX0_sum_39 : decode cX0_sum 39 = .ok (.istore 6, 2) := by decide +kernel
theorem dX0_sum_41 : decode cX0_sum 41 = .ok (.iload 6, 2) := by decide +kernel
theorem dX0_sum_43 : decode cX0_sum 43 = .ok (.aload_n 0, 1) := by decide +kernel
theorem dX0_sum_44 : decode cX0_sum 44 = .ok (.getfield 49, 3) := by decide +kernel
theorem dX0_sum_47 : decode cX0_sum 47 = .ok (.if_icmp .ge 49, 3) := by decide +kernel
theorem dX0_sum_50 : decode cX0_sum 50 = .ok (.aload_n 0, 1) := by decide +kernel
theorem dX0_sum_51 : decode cX0_sum 51 = .ok (.getfield 27, 3) := by decide +kernel
theorem dX0_sum_54 : decode cX0_sum 54 = .ok (.iload 4, 2) := by decide +kernel
theorem dX0_sum_56 : decode cX0_sum 56 = .ok (.aload_n 0, 1) := by decide +kernel
theorem dX0_sum_57 : decode cX0_sum 57 = .ok (.iload 6, 2) := by decide +kernel
theorem dX0_sum_59 : decode cX0_sum 59 = .ok (.invokevirtual 64, 3) := by decide +kernel
theorem dX0_sum_62 : decode cX0_sum 62 = .ok (.imul, 1) := by decide +kernel
theorem dX0_sum_63 : decode cX0_sum 63 = .ok (.iload 5, 2) := by decide +kernel
theorem dX0_sum_65 : decode cX0_sum 65 = .ok (.aload_n 0, 1) := by decide +kernel
theorem dX0_sum_66 : decode cX0_sum 66 = .ok (.aload_n 0, 1) := by decide +kernel
theorem dX0_sum_67 : decode cX0_sum 67 = .ok (.getfield 49, 3) := by decide +kernel
theorem dX0_sum_70 : decode cX0_sum 70 = .ok (.iconst 1, 1) := by decide +kernel
theorem dX0_sum_71 : decode cX0_sum 71 = .ok (.iadd, 1) := by decide +kernel
theorem dX0_sum_72 : decode cX0_sum 72 = .ok (.iload 6, 2) := by decide +kernel
theorem dX0_sum_74 : decode cX0_sum 74 = .ok (.isub, 1) := by decide +kernel
theorem dX0_sum_75 : decode cX0_sum 75 = .ok (.invokevirtual 64, 3) := by decide +kernel
theorem dX0_sum_78 : decode cX0_sum 78 = .ok (.imul, 1) := by decide +kernel
theorem dX0_sum_79 : decode cX0_sum 79 = .ok (.iadd, 1) := by decide +kernel
theorem dX0_sum_80 : decode cX0_sum 80 = .ok (.aload_n 0, 1) := by decide +kernel
theorem dX0_sum_81 : decode cX0_sum 81 = .ok (.getfield 74, 3) := by decide +kernel
theorem dX0_sum_84 : decode cX0_sum 84 = .ok (.irem, 1) := by decide +kernel
theorem dX0_sum_85 : decode cX0_sum 85 = .ok (.dup2, 1) := by decide +kernel
theorem dX0_sum_86 : decode cX0_sum 86 = .ok (.laload, 1) := by decide +kernel
theorem dX0_sum_87 : decode cX0_sum 87 = .ok (.lconst 1, 1) := by decide +kernel
theorem dX0_sum_88 : decode cX0_sum 88 = .ok (.ladd, 1) := by decide +kernel
theorem dX0_sum_89 : decode cX0_sum 89 = .ok (.lastore, 1) := by decide +kernel
theorem dX0_sum_90 : decode cX0_sum 90 = .ok (.iinc 6 1, 3) := by decide +kernel
theorem dX0_sum_93 : decode cX0_sum 93 = .ok (.goto (-52), 3) := by decide +kernel
theorem dX0_sum_96 : decode cX0_sum 96 = .ok (.aload_n 0, 1) := by decide +kernel
theorem dX0_sum_97 : decode cX0_sum 97 = .ok (.iload_n 1, 1) := by decide +kernel
theorem dX0_sum_98 : decode cX0_sum 98 = .ok (.invokevirtual 83, 3) := by decide +kernel
theorem dX0_sum_101 : decode cX0_sum 101 = .ok (.pop, 1) := by decide +kernel
theorem dX0_sum_102 : decode cX0_sum 102 = .ok (.aload_n 0, 1) := by decide +kernel
theorem dX0_sum_103 : decode cX0_sum 103 = .ok (.getfield 49, 3) := by decide +kernel
theorem dX0_sum_106 : decode cX0_sum 106 = .ok (.iconst 2, 1) := by decide +kernel
theorem dX0_sum_107 : decode cX0_sum 107 = .ok (.isub, 1) := by decide +kernel
theorem dX0_sum_108 : decode cX0_sum 108 = .ok (.ireturn, 1) := by decide +kernel
set_option maxRecDepth 20000 in
theorem ggX0_unit_X0_isHold : GoodIn wsX0_unit wsX0_isHold := goodIn_r _ [6] (by decide +kernel) (by decide +kernel)
set_option maxRecDepth 20000 in
theorem gX0_unit_X0_isHold : GoodIn wsX0_unit (va_wsS RX0 71 yX0_isHold wsX0_isHold) := goodIn_app (goodIn_of _ (by decide +kernel)) ggX0_unit_X0_isHold
set_option maxRecDepth 20000 in
theorem ggX0_unit_J7_fill_d0a16 : GoodIn wsX0_unit wsJ7_fill_d0a16 := goodIn_r _ [10] (by decide +kernel) (by decide +kernel)
set_option maxRecDepth 20000 in
theorem gX0_unit_J7_fill_d0a16 : GoodIn wsX0_unit (va_wsS RX0 77 yJ7_fill_d0a16 wsJ7_fill_d0a16) := goodIn_app (goodIn_of _ (by decide +kernel)) ggX0_unit_J7_fill_d0a16
set_option maxRecDepth 20000 in
theorem ggX0_unit_J9_floorMod_7cf53 : GoodIn wsX0_unit wsJ9_floorMod_7cf53 := goodIn_r _ [14] (by decide +kernel) (by decide +kernel)
set_option maxRecDepth 20000 in
theorem gX0_unit_J9_floorMod_7cf53 : GoodIn wsX0_unit (va_wsS RX0 58 yJ9_floorMod_7cf53 wsJ9_floorMod_7cf53) := goodIn_app (goodIn_of _ (by decide +kernel)) ggX0_unit_J9_floorMod_7cf53
set_option maxRecDepth 20000 in
theorem ggX0_unit_X0_store : GoodIn wsX0_unit wsX0_store := goodIn_r _ [18, 19, 1, 20, 21, 22, 23, 24, 25, 5, 26, 2, 27, 28, 29, 30, 31, 32, 33, 34, 35, 36, 37, 38, 39] (by decide +kernel) (by decide +kernel)
set_option maxRecDepth 20000 in
theorem gX0_unit_X0_store : GoodIn wsX0_unit (wsV RX0 83 RX0 yX0_store wsX0_store) := goodIn_app (goodIn_of _ (by decide +kernel)) ggX0_unit_X0_store
theorem dX0_unit_0 : decode cX0_unit 0 = .ok (.iload_n 1, 1) := by decide +kernel
theorem dX0_unit_1 : decode cX0_unit 1 = .ok (.invokestatic 71, 3) := by decide +kernel
theorem dX0_unit_4 : decode cX0_unit 4 = .ok (.ifCond .ne 6, 3) := by decide +kernel
theorem dX0_unit_7 : decode cX0_unit 7 = .ok (.bipush (-2), 2) := by decide +kernel
theorem dX0_unit_9 : decode cX0_unit 9 = .ok (.ireturn, 1) := by decide +kernel
theorem dX0_unit_10 : decode cX0_unit 10 = .ok (.iload_n 2, 1) := by decide +kernel
theorem dX0_unit_11 : decode cX0_unit 11 = .ok (.sipush (-1000), 3) := by decide +kernel
theorem dX0_unit_14 : decode cX0_unit 14 = .ok (.if_icmp .lt 10, 3) := by decide +kernel
theorem dX0_unit_17 : decode cX0_unit 17 = .ok (.iload_n 2, 1) := by decide +kernel
theorem dX0_unit_18 : decode cX0_unit 18 = .ok (.sipush 1000, 3) := by decide +kernel
theorem dX0_unit_21 : decode cX0_unit 21 = .ok (.if_icmp .le 6, 3) := by decide +kernel
theorem dX0_unit_24 : decode cX0_unit 24 = .ok (.bipush (-3), 2) := by decide +kernel
theorem dX0_unit_26 : decode cX0_unit 26 = .ok (.ireturn, 1) := by decide +kernel
theorem dX0_unit_27 : decode cX0_unit 27 = .ok (.aload_n 0, 1) := by decide +kernel
theorem dX0_unit_28 : decode cX0_unit 28 = .ok (.getfield 27, 3) := by decide +kernel
theorem dX0_unit_31 : decode cX0_unit 31 = .ok (.lconst 0, 1) := by decide +kernel
theorem dX0_unit_32 : decode cX0_unit 32 = .ok (.invokestatic 77, 3) := by decide +kernel
theorem dX0_unit_35 : decode cX0_unit 35 = .ok (.aload_n 0, 1) := by decide +kernel
theorem dX0_unit_36 : decode cX0_unit 36 = .ok (.getfield 27, 3) := by decide +kernel
theorem dX0_unit_39 : decode cX0_unit 39 = .ok (.iload_n 3, 1) := by decide +kernel
theorem dX0_unit_40 : decode cX0_unit 40 = .ok (.aload_n 0, 1) := by decide +kernel
theorem dX0_unit_41 : decode cX0_unit 41 = .ok (.getfield 74, 3) := by decide +kernel
theorem dX0_unit_44 : decode cX0_unit 44 = .ok (.invokestatic 58, 3) := by decide +kernel
theorem dX0_unit_47 : decode cX0_unit 47 = .ok (.iload_n 2, 1) := by decide +kernel
theorem dX0_unit_48 : decode cX0_unit 48 = .ok (.i2l, 1) := by decide +kernel
theorem dX0_unit_49 : decode cX0_unit 49 = .ok (.lastore, 1) := by decide +kernel
theorem dX0_unit_50 : decode cX0_unit 50 = .ok (.aload_n 0, 1) := by decide +kernel
theorem dX0_unit_51 : decode cX0_unit 51 = .ok (.iload_n 1, 1) := by decide +kernel
theorem dX0_unit_52 : decode cX0_unit 52 = .ok (.invokevirtual 83, 3) := by decide +kernel
theorem dX0_unit_55 : decode cX0_unit 55 = .ok (.ireturn, 1) := by decide +kernel
set_option maxRecDepth 20000 in
theorem ggX0_join_X0_isHold : GoodIn wsX0_join wsX0_isHold := goodIn_r _ [5] (by decide +kernel) (by decide +kernel)
set_option maxRecDepth 20000 in
theorem gX0_join_X0_isHold : GoodIn wsX0_join (va_wsS RX0 71 yX0_isHold wsX0_isHold) := goodIn_app (goodIn_of _ (by decide +kernel)) ggX0_join_X0_isHold
set_option maxRecDepth 20000 in
theorem ggX0_join_X0_multiply : GoodIn wsX0_join wsX0_multiply := goodIn_r _ [9, 10, 11, 12, 13, 14, 15, 16, 32, 33, 34, 35, 36, 37, 38, 39, 40, 41, 42, 43] (by decide +kernel) (by decide +kernel)
set_option maxRecDepth 20000 in
theorem gX0_join_X0_multiply : GoodIn wsX0_join (wsV RX0 86 RX0 yX0_multiply wsX0_multiply) := goodIn_app (goodIn_of _ (by decide +kernel)) ggX0_join_X0_multiply
set_option maxRecDepth 20000 in
theorem ggX0_join_X0_add : GoodIn wsX0_join wsX0_add := goodIn_r _ [20, 10, 11, 13, 14, 15, 16, 32, 33, 34, 35, 36, 37, 38, 39, 40, 41, 42, 43] (by decide +kernel) (by decide +kernel)
set_option maxRecDepth 20000 in
theorem gX0_join_X0_add : GoodIn wsX0_join (wsV RX0 90 RX0 yX0_add wsX0_add) := goodIn_app (goodIn_of _ (by decide +kernel)) ggX0_join_X0_add
set_option maxRecDepth 20000 in
theorem ggX0_join_X0_store : GoodIn wsX0_join wsX0_store := goodIn_r _ [24, 11, 10, 25, 26, 1, 27, 28, 29, 4, 30, 12, 31, 32, 33, 34, 35, 36, 37, 38, 39, 40, 41, 42, 43] (by decide +kernel) (by decide +kernel)
set_option maxRecDepth 20000 in
theorem gX0_join_X0_store : GoodIn wsX0_join (wsV RX0 83 RX0 yX0_store wsX0_store) := goodIn_app (goodIn_of _ (by decide +kernel)) ggX0_join_X0_store
theorem dX0_join_0 : decode cX0_join 0 = .ok (.iload_n 1, 1) := by decide +kernel
theorem dX0_join_1 : decode cX0_join 1 = .ok (.invokestatic 71, 3) := by decide +kernel
theorem dX0_join_4 : decode cX0_join 4 = .ok (.ifCond .eq 18, 3) := by decide +kernel
theorem dX0_join_7 : decode cX0_join 7 = .ok (.iload_n 3, 1) := by decide +kernel
theorem dX0_join_8 : decode cX0_join 8 = .ok (.invokestatic 71, 3) := by decide +kernel
theorem dX0_join_11 : decode cX0_join 11 = .ok (.ifCond .eq 11, 3) := by decide +kernel
theorem dX0_join_14 : decode cX0_join 14 = .ok (.iload 4, 2) := by decide +kernel
theorem dX0_join_16 : decode cX0_join 16 = .ok (.invokestatic 71, 3) := by decide +kernel
theorem dX0_join_19 : decode cX0_join 19 = .ok (.ifCond .ne 6, 3) := by decide +kernel
theorem dX0_join_22 : decode cX0_join 22 = .ok (.bipush (-2), 2) := by decide +kernel
theorem dX0_join_24 : decode cX0_join 24 = .ok (.ireturn, 1) := by decide +kernel
theorem dX0_join_25 : decode cX0_join 25 = .ok (.iload_n 2, 1) := by decide +kernel
theorem dX0_join_26 : decode cX0_join 26 = .ok (.ifCond .lt 8, 3) := by decide +kernel
theorem dX0_join_29 : decode cX0_join 29 = .ok (.iload_n 2, 1) := by decide +kernel
theorem dX0_join_30 : decode cX0_join 30 = .ok (.iconst 2, 1) := by decide +kernel
theorem dX0_join_31 : decode cX0_join 31 = .ok (.if_icmp .le 6, 3) := by decide +kernel
theorem dX0_join_34 : decode cX0_join 34 = .ok (.bipush (-3), 2) := by decide +kernel
theorem dX0_join_36 : decode cX0_join 36 = .ok (.ireturn, 1) := by decide +kernel
theorem dX0_join_37 : decode cX0_join 37 = .ok (.iload_n 2, 1) := by decide +kernel
theorem dX0_join_38 : decode cX0_join 38 = .ok (.iconst 2, 1) := by decide +kernel
theorem dX0_join_39 : decode cX0_join 39 = .ok (.if_icmp .ne 24, 3) := by decide +kernel
theorem dX0_join_42 : decode cX0_join 42 = .ok (.aload_n 0, 1) := by decide +kernel
theorem dX0_join_43 : decode cX0_join 43 = .ok (.aload_n 0, 1) := by decide +kernel
theorem dX0_join_44 : decode cX0_join 44 = .ok (.getfield 24, 3) := by decide +kernel
theorem dX0_join_47 : decode cX0_join 47 = .ok (.iload_n 3, 1) := by decide +kernel
theorem dX0_join_48 : decode cX0_join 48 = .ok (.aaload, 1) := by decide +kernel
theorem dX0_join_49 : decode cX0_join 49 = .ok (.aload_n 0, 1) := by decide +kernel
theorem dX0_join_50 : decode cX0_join 50 = .ok (.getfield 24, 3) := by decide +kernel
theorem dX0_join_53 : decode cX0_join 53 = .ok (.iload 4, 2) := by decide +kernel
theorem dX0_join_55 : decode cX0_join 55 = .ok (.aaload, 1) := by decide +kernel
theorem dX0_join_56 : decode cX0_join 56 = .ok (.iconst 1, 1) := by decide +kernel
theorem dX0_join_57 : decode cX0_join 57 = .ok (.invokevirtual 86, 3) := by decide +kernel
theorem dX0_join_60 : decode cX0_join 60 = .ok (.goto 29, 3) := by decide +kernel
theorem dX0_join_63 : decode cX0_join 63 = .ok (.aload_n 0, 1) := by decide +kernel
theorem dX0_join_64 : decode cX0_join 64 = .ok (.aload_n 0, 1) := by decide +kernel
theorem dX0_join_65 : decode cX0_join 65 = .ok (.getfield 24, 3) := by decide +kernel
theorem dX0_join_68 : decode cX0_join 68 = .ok (.iload_n 3, 1) := by decide +kernel
theorem dX0_join_69 : decode cX0_join 69 = .ok (.aaload, 1) := by decide +kernel
theorem dX0_join_70 : decode cX0_join 70 = .ok (.aload_n 0, 1) := by decide +kernel
theorem dX0_join_71 : decode cX0_join 71 = .ok (.getfield 24, 3) := by decide +kernel
theorem dX0_join_74 : decode cX0_join 74 = .ok (.iload 4, 2) := by decide +kernel
theorem dX0_join_76 : decode cX0_join 76 = .ok (.aaload, 1) := by decide +kernel
theorem dX0_join_77 : decode cX0_join 77 = .ok (.iload_n 2, 1) := by decide +kernel
theorem dX0_join_78 : decode cX0_join 78 = .ok (.ifCond .ne 7, 3) := by decide +kernel
theorem dX0_join_81 : decode cX0_join 81 = .ok (.iconst 1, 1) := by decide +kernel
theorem dX0_join_82 : decode cX0_join 82 = .ok (.goto 4, 3) := by decide +kernel
theorem dX0_join_85 : decode cX0_join 85 = .ok (.iconst (-1), 1) := by decide +kernel
theorem dX0_join_86 : decode cX0_join 86 = .ok (.invokevirtual 90, 3) := by decide +kernel
theorem dX0_join_89 : decode cX0_join 89 = .ok (.aload_n 0, 1) := by decide +kernel
theorem dX0_join_90 : decode cX0_join 90 = .ok (.iload_n 1, 1) := by decide +kernel
theorem dX0_join_91 : decode cX0_join 91 = .ok (.invokevirtual 83, 3) := by decide +kernel
theorem dX0_join_94 : decode cX0_join 94 = .ok (.ireturn, 1) := by decide +kernel
set_option maxRecDepth 20000 in
theorem ggX0_turn_X0_isHold : GoodIn wsX0_turn wsX0_isHold := goodIn_r _ [8] (by decide +kernel) (by decide +kernel)
set_option maxRecDepth 20000 in
theorem gX0_turn_X0_isHold : GoodIn wsX0_turn (va_wsS RX0 71 yX0_isHold wsX0_isHold) := goodIn_app (goodIn_of _ (by decide +kernel)) ggX0_turn_X0_isHold
set_option maxRecDepth 20000 in
theorem ggX0_turn_X0_sharesDivisor : GoodIn wsX0_turn wsX0_sharesDivisor := goodIn_r _ [12, 1, 32, 33, 34, 35, 36, 37, 38, 39, 40, 41, 42, 43] (by decide +kernel) (by decide +kernel)
set_option maxRecDepth 20000 in
theorem gX0_turn_X0_sharesDivisor : GoodIn wsX0_turn (wsV RX0 93 RX0 yX0_sharesDivisor wsX0_sharesDivisor) := goodIn_app (goodIn_of _ (by decide +kernel)) ggX0_turn_X0_sharesDivisor
set_option maxRecDepth 20000 in
theorem ggX0_turn_J9_floorMod_7cf53 : GoodIn wsX0_turn wsJ9_floorMod_7cf53 := goodIn_r _ [16] (by decide +kernel) (by decide +kernel)
set_option maxRecDepth 20000 in
theorem gX0_turn_J9_floorMod_7cf53 : GoodIn wsX0_turn (va_wsS RX0 58 yJ9_floorMod_7cf53 wsJ9_floorMod_7cf53) := goodIn_app (goodIn_of _ (by decide +kernel)) ggX0_turn_J9_floorMod_7cf53
set_option maxRecDepth 20000 in
theorem ggX0_turn_J7_fill_d0a16 : GoodIn wsX0_turn wsJ7_fill_d0a16 := goodIn_r _ [20] (by decide +kernel) (by decide +kernel)
set_option maxRecDepth 20000 in
theorem gX0_turn_J7_fill_d0a16 : GoodIn wsX0_turn (va_wsS RX0 77 yJ7_fill_d0a16 wsJ7_fill_d0a16) := goodIn_app (goodIn_of _ (by decide +kernel)) ggX0_turn_J7_fill_d0a16
set_option maxRecDepth 20000 in
theorem ggX0_turn_X0_store : GoodIn wsX0_turn wsX0_store := goodIn_r _ [24, 3, 2, 25, 26, 4, 27, 28, 29, 7, 30, 1, 31, 32, 33, 34, 35, 36, 37, 38, 39, 40, 41, 42, 43] (by decide +kernel) (by decide +kernel)
set_option maxRecDepth 20000 in
theorem gX0_turn_X0_store : GoodIn wsX0_turn (wsV RX0 83 RX0 yX0_store wsX0_store) := goodIn_app (goodIn_of _ (by decide +kernel)) ggX0_turn_X0_store
theorem dX0_turn_0 : decode cX0_turn 0 = .ok (.iload_n 1, 1) := by decide +kernel
theorem dX0_turn_1 : decode cX0_turn 1 = .ok (.invokestatic 71, 3) := by decide +kernel
theorem dX0_turn_4 : decode cX0_turn 4 = .ok (.ifCond .eq 10, 3) := by decide +kernel
theorem dX0_turn_7 : decode cX0_turn 7 = .ok (.iload_n 2, 1) := by decide +kernel
theorem dX0_turn_8 : decode cX0_turn 8 = .ok (.invokestatic 71, 3) := by decide +kernel
theorem dX0_turn_11 : decode cX0_turn 11 = .ok (.ifCond .ne 6, 3) := by decide +kernel
theorem dX0_turn_14 : decode cX0_turn 14 = .ok (.bipush (-2), 2) := by decide +kernel
theorem dX0_turn_16 : decode cX0_turn 16 = .ok (.ireturn, 1) := by decide +kernel
theorem dX0_turn_17 : decode cX0_turn 17 = .ok (.aload_n 0, 1) := by decide +kernel
theorem dX0_turn_18 : decode cX0_turn 18 = .ok (.iload_n 3, 1) := by decide +kernel
theorem dX0_turn_19 : decode cX0_turn 19 = .ok (.invokevirtual 93, 3) := by decide +kernel
theorem dX0_turn_22 : decode cX0_turn 22 = .ok (.ifCond .eq 6, 3) := by decide +kernel
theorem dX0_turn_25 : decode cX0_turn 25 = .ok (.bipush (-3), 2) := by decide +kernel
theorem dX0_turn_27 : decode cX0_turn 27 = .ok (.ireturn, 1) := by decide +kernel
theorem dX0_turn_28 : decode cX0_turn 28 = .ok (.iload_n 3, 1) := by decide +kernel
theorem dX0_turn_29 : decode cX0_turn 29 = .ok (.aload_n 0, 1) := by decide +kernel
theorem dX0_turn_30 : decode cX0_turn 30 = .ok (.getfield 74, 3) := by decide +kernel
theorem dX0_turn_33 : decode cX0_turn 33 = .ok (.invokestatic 58, 3) := by decide +kernel
theorem dX0_turn_36 : decode cX0_turn 36 = .ok (.istore 4, 2) := by decide +kernel
theorem dX0_turn_38 : decode cX0_turn 38 = .ok (.aload_n 0, 1) := by decide +kernel
theorem dX0_turn_39 : decode cX0_turn 39 = .ok (.getfield 27, 3) := by decide +kernel
theorem dX0_turn_42 : decode cX0_turn 42 = .ok (.lconst 0, 1) := by decide +kernel
theorem dX0_turn_43 : decode cX0_turn 43 = .ok (.invokestatic 77, 3) := by decide +kernel
theorem dX0_turn_46 : decode cX0_turn 46 = .ok (.iconst 0, 1) := by decide +kernel
theorem dX0_turn_47 : decode cX0_turn 47 = .ok (.istore 5, 2) := by decide +kernel
theorem dX0_turn_49 : decode cX0_turn 49 = .ok (.iload 5, 2) := by decide +kernel
theorem dX0_turn_51 : decode cX0_turn 51 = .ok (.aload_n 0, 1) := by decide +kernel
theorem dX0_turn_52 : decode cX0_turn 52 = .ok (.getfield 55, 3) := by decide +kernel
theorem dX0_turn_55 : decode cX0_turn 55 = .ok (.if_icmp .ge 37, 3) := by decide +kernel
theorem dX0_turn_58 : decode cX0_turn 58 = .ok (.aload_n 0, 1) := by decide +kernel
theorem dX0_turn_59 : decode cX0_turn 59 = .ok (.getfield 27, 3) := by decide +kernel
theorem dX0_turn_62 : decode cX0_turn 62 = .ok (.iload 5, 2) := by decide +kernel
theorem dX0_turn_64 : decode cX0_turn 64 = .ok (.iload 4, 2) := by decide +kernel
theorem dX0_turn_66 : decode cX0_turn 66 = .ok (.imul, 1) := by decide +kernel
theorem dX0_turn_67 : decode cX0_turn 67 = .ok (.aload_n 0, 1) := by decide +kernel
theorem dX0_turn_68 : decode cX0_turn 68 = .ok (.getfield 74, 3) := by decide +kernel
theorem dX0_turn_71 : decode cX0_turn 71 = .ok (.irem, 1) := by decide +kernel
theorem dX0_turn_72 : decode cX0_turn 72 = .ok (.dup2, 1) := by decide +kernel
theorem dX0_turn_73 : decode cX0_turn 73 = .ok (.laload, 1) := by decide +kernel
theorem dX0_turn_74 : decode cX0_turn 74 = .ok (.aload_n 0, 1) := by decide +kernel
theorem dX0_turn_75 : decode cX0_turn 75 = .ok (.getfield 24, 3) := by decide +kernel
theorem dX0_turn_78 : decode cX0_turn 78 = .ok (.iload_n 2, 1) := by decide +kernel
theorem dX0_turn_79 : decode cX0_turn 79 = .ok (.aaload, 1) := by decide +kernel
theorem dX0_turn_80 : decode cX0_turn 80 = .ok (.iload 5, 2) := by decide +kernel
theorem dX0_turn_82 : decode cX0_turn 82 = .ok (.iaload, 1) := by decide +kernel
theorem dX0_turn_83 : decode cX0_turn 83 = .ok (.i2l, 1) := by decide +kernel
theorem dX0_turn_84 : decode cX0_turn 84 = .ok (.ladd, 1) := by decide +kernel
theorem dX0_turn_85 : decode cX0_turn 85 = .ok (.lastore, 1) := by decide +kernel
theorem dX0_turn_86 : decode cX0_turn 86 = .ok (.iinc 5 1, 3) := by decide +kernel
theorem dX0_turn_89 : decode cX0_turn 89 = .ok (.goto (-40), 3) := by decide +kernel
theorem dX0_turn_92 : decode cX0_turn 92 = .ok (.aload_n 0, 1) := by decide +kernel
theorem dX0_turn_93 : decode cX0_turn 93 = .ok (.iload_n 1, 1) := by decide +kernel
theorem dX0_turn_94 : decode cX0_turn 94 = .ok (.invokevirtual 83, 3) := by decide +kernel
theorem dX0_turn_97 : decode cX0_turn 97 = .ok (.ireturn, 1) := by decide +kernel
set_option maxRecDepth 20000 in
theorem ggX0_at_X0_isHold : GoodIn wsX0_at wsX0_isHold := goodIn_r _ [7] (by decide +kernel) (by decide +kernel)
set_option maxRecDepth 20000 in
theorem gX0_at_X0_isHold : GoodIn wsX0_at (va_wsS RX0 71 yX0_isHold wsX0_isHold) := goodIn_app (goodIn_of _ (by decide +kernel)) ggX0_at_X0_isHold
theorem dX0_at_0 : decode cX0_at 0 = .ok (.iload_n 1, 1) := by decide +kernel
theorem dX0_at_1 : decode cX0_at 1 = .ok (.invokestatic 71, 3) := by decide +kernel
theorem dX0_at_4 : decode cX0_at 4 = .ok (.ifCond .eq 15, 3) := by decide +kernel
theorem dX0_at_7 : decode cX0_at 7 = .ok (.iload_n 2, 1) := by decide +kernel
theorem dX0_at_8 : decode cX0_at 8 = .ok (.ifCond .lt 11, 3) := by decide +kernel
theorem dX0_at_11 : decode cX0_at 11 = .ok (.iload_n 2, 1) := by decide +kernel
theorem dX0_at_12 : decode cX0_at 12 = .ok (.aload_n 0, 1) := by decide +kernel
theorem dX0_at_13 : decode cX0_at 13 = .ok (.getfield 55, 3) := by decide +kernel
theorem dX0_at_16 : decode cX0_at 16 = .ok (.if_icmp .lt 6, 3) := by decide +kernel
theorem dX0_at_19 : decode cX0_at 19 = .ok (.ldc 96, 2) := by decide +kernel
theorem dX0_at_21 : decode cX0_at 21 = .ok (.ireturn, 1) := by decide +kernel
theorem dX0_at_22 : decode cX0_at 22 = .ok (.aload_n 0, 1) := by decide +kernel
theorem dX0_at_23 : decode cX0_at 23 = .ok (.getfield 24, 3) := by decide +kernel
theorem dX0_at_26 : decode cX0_at 26 = .ok (.iload_n 1, 1) := by decide +kernel
theorem dX0_at_27 : decode cX0_at 27 = .ok (.aaload, 1) := by decide +kernel
theorem dX0_at_28 : decode cX0_at 28 = .ok (.iload_n 2, 1) := by decide +kernel
theorem dX0_at_29 : decode cX0_at 29 = .ok (.iaload, 1) := by decide +kernel
theorem dX0_at_30 : decode cX0_at 30 = .ok (.ireturn, 1) := by decide +kernel
set_option maxRecDepth 20000 in
theorem ggX0_same_X0_isHold : GoodIn wsX0_same wsX0_isHold := goodIn_r _ [6] (by decide +kernel) (by decide +kernel)
set_option maxRecDepth 20000 in
theorem gX0_same_X0_isHold : GoodIn wsX0_same (va_wsS RX0 71 yX0_isHold wsX0_isHold) := goodIn_app (goodIn_of _ (by decide +kernel)) ggX0_same_X0_isHold
theorem dX0_same_0 : decode cX0_same 0 = .ok (.iload_n 1, 1) := by decide +kernel
theorem dX0_same_1 : decode cX0_same 1 = .ok (.invokestatic 71, 3) := by decide +kernel
theorem dX0_same_4 : decode cX0_same 4 = .ok (.ifCond .eq 10, 3) := by decide +kernel
theorem dX0_same_7 : decode cX0_same 7 = .ok (.iload_n 2, 1) := by decide +kernel
theorem dX0_same_8 : decode cX0_same 8 = .ok (.invokestatic 71, 3) := by decide +kernel
theorem dX0_same_11 : decode cX0_same 11 = .ok (.ifCond .ne 6, 3) := by decide +kernel
theorem dX0_same_14 : decode cX0_same 14 = .ok (.bipush (-2), 2) := by decide +kernel
theorem dX0_same_16 : decode cX0_same 16 = .ok (.ireturn, 1) := by decide +kernel
theorem dX0_same_17 : decode cX0_same 17 = .ok (.iconst 0, 1) := by decide +kernel
theorem dX0_same_18 : decode cX0_same 18 = .ok (.istore_n 3, 1) := by decide +kernel
theorem dX0_same_19 : decode cX0_same 19 = .ok (.iload_n 3, 1) := by decide +kernel
theorem dX0_same_20 : decode cX0_same 20 = .ok (.aload_n 0, 1) := by decide +kernel
theorem dX0_same_21 : decode cX0_same 21 = .ok (.getfield 55, 3) := by decide +kernel
theorem dX0_same_24 : decode cX0_same 24 = .ok (.if_icmp .ge 30, 3) := by decide +kernel
theorem dX0_same_27 : decode cX0_same 27 = .ok (.aload_n 0, 1) := by decide +kernel
theorem dX0_same_28 : decode cX0_same 28 = .ok (.getfield 24, 3) := by decide +kernel
theorem dX0_same_31 : decode cX0_same 31 = .ok (.iload_n 1, 1) := by decide +kernel
theorem dX0_same_32 : decode cX0_same 32 = .ok (.aaload, 1) := by decide +kernel
theorem dX0_same_33 : decode cX0_same 33 = .ok (.iload_n 3, 1) := by decide +kernel
theorem dX0_same_34 : decode cX0_same 34 = .ok (.iaload, 1) := by decide +kernel
theorem dX0_same_35 : decode cX0_same 35 = .ok (.aload_n 0, 1) := by decide +kernel
theorem dX0_same_36 : decode cX0_same 36 = .ok (.getfield 24, 3) := by decide +kernel
theorem dX0_same_39 : decode cX0_same 39 = .ok (.iload_n 2, 1) := by decide +kernel
theorem dX0_same_40 : decode cX0_same 40 = .ok (.aaload, 1) := by decide +kernel
theorem dX0_same_41 : decode cX0_same 41 = .ok (.iload_n 3, 1) := by decide +kernel
theorem dX0_same_42 : decode cX0_same 42 = .ok (.iaload, 1) := by decide +kernel
theorem dX0_same_43 : decode cX0_same 43 = .ok (.if_icmp .eq 5, 3) := by decide +kernel
theorem dX0_same_46 : decode cX0_same 46 = .ok (.iconst 0, 1) := by decide +kernel
theorem dX0_same_47 : decode cX0_same 47 = .ok (.ireturn, 1) := by decide +kernel
theorem dX0_same_48 : decode cX0_same 48 = .ok (.iinc 3 1, 3) := by decide +kernel
theorem dX0_same_51 : decode cX0_same 51 = .ok (.goto (-32), 3) := by decide +kernel
theorem dX0_same_54 : decode cX0_same 54 = .ok (.iconst 1, 1) := by decide +kernel
theorem dX0_same_55 : decode cX0_same 55 = .ok (.ireturn, 1) := by decide +kernel
set_option maxRecDepth 20000 in
theorem ggX0_size_X0_isHold : GoodIn wsX0_size wsX0_isHold := goodIn_r _ [9] (by decide +kernel) (by decide +kernel)
set_option maxRecDepth 20000 in
theorem gX0_size_X0_isHold : GoodIn wsX0_size (va_wsS RX0 71 yX0_isHold wsX0_isHold) := goodIn_app (goodIn_of _ (by decide +kernel)) ggX0_size_X0_isHold
set_option maxRecDepth 20000 in
theorem ggX0_size_X0_multiply : GoodIn wsX0_size wsX0_multiply := goodIn_r _ [13, 5, 4, 3, 14, 15, 16, 17, 23, 24, 25, 26, 27, 28, 29, 30, 31, 32, 33, 34] (by decide +kernel) (by decide +kernel)
set_option maxRecDepth 20000 in
theorem gX0_size_X0_multiply : GoodIn wsX0_size (wsV RX0 86 RX0 yX0_multiply wsX0_multiply) := goodIn_app (goodIn_of _ (by decide +kernel)) ggX0_size_X0_multiply
set_option maxRecDepth 20000 in
theorem ggX0_size_X0_reduce : GoodIn wsX0_size wsX0_reduce := goodIn_r _ [21, 3, 4, 5, 22, 23, 24, 25, 26, 27, 28, 29, 30, 31, 32, 33, 34] (by decide +kernel) (by decide +kernel)
set_option maxRecDepth 20000 in
theorem gX0_size_X0_reduce : GoodIn wsX0_size (wsV RX0 99 RX0 yX0_reduce wsX0_reduce) := goodIn_app (goodIn_of _ (by decide +kernel)) ggX0_size_X0_reduce
theorem dX0_size_0 : decode cX0_size 0 = .ok (.iload_n 1, 1) := by decide +kernel
theorem dX0_size_1 : decode cX0_size 1 = .ok (.invokestatic 71, 3) := by decide +kernel
theorem dX0_size_4 : decode cX0_size 4 = .ok (.ifCond .ne 7, 3) := by decide +kernel
theorem dX0_size_7 : decode cX0_size 7 = .ok (.ldc2_w 97, 3) := by decide +kernel
theorem dX0_size_10 : decode cX0_size 10 = .ok (.lreturn, 1) := by decide +kernel
theorem dX0_size_11 : decode cX0_size 11 = .ok (.aload_n 0, 1) := by decide +kernel
theorem dX0_size_12 : decode cX0_size 12 = .ok (.aload_n 0, 1) := by decide +kernel
theorem dX0_size_13 : decode cX0_size 13 = .ok (.getfield 24, 3) := by decide +kernel
theorem dX0_size_16 : decode cX0_size 16 = .ok (.iload_n 1, 1) := by decide +kernel
theorem dX0_size_17 : decode cX0_size 17 = .ok (.aaload, 1) := by decide +kernel
theorem dX0_size_18 : decode cX0_size 18 = .ok (.aload_n 0, 1) := by decide +kernel
theorem dX0_size_19 : decode cX0_size 19 = .ok (.getfield 24, 3) := by decide +kernel
theorem dX0_size_22 : decode cX0_size 22 = .ok (.iload_n 1, 1) := by decide +kernel
theorem dX0_size_23 : decode cX0_size 23 = .ok (.aaload, 1) := by decide +kernel
theorem dX0_size_24 : decode cX0_size 24 = .ok (.aload_n 0, 1) := by decide +kernel
theorem dX0_size_25 : decode cX0_size 25 = .ok (.getfield 74, 3) := by decide +kernel
theorem dX0_size_28 : decode cX0_size 28 = .ok (.iconst 1, 1) := by decide +kernel
theorem dX0_size_29 : decode cX0_size 29 = .ok (.isub, 1) := by decide +kernel
theorem dX0_size_30 : decode cX0_size 30 = .ok (.invokevirtual 86, 3) := by decide +kernel
theorem dX0_size_33 : decode cX0_size 33 = .ok (.aload_n 0, 1) := by decide +kernel
theorem dX0_size_34 : decode cX0_size 34 = .ok (.invokevirtual 99, 3) := by decide +kernel
theorem dX0_size_37 : decode cX0_size 37 = .ok (.iconst 1, 1) := by decide +kernel
theorem dX0_size_38 : decode cX0_size 38 = .ok (.istore_n 2, 1) := by decide +kernel
theorem dX0_size_39 : decode cX0_size 39 = .ok (.iload_n 2, 1) := by decide +kernel
theorem dX0_size_40 : decode cX0_size 40 = .ok (.aload_n 0, 1) := by decide +kernel
theorem dX0_size_41 : decode cX0_size 41 = .ok (.getfield 55, 3) := by decide +kernel
theorem dX0_size_44 : decode cX0_size 44 = .ok (.if_icmp .ge 24, 3) := by decide +kernel
theorem dX0_size_47 : decode cX0_size 47 = .ok (.aload_n 0, 1) := by decide +kernel
theorem dX0_size_48 : decode cX0_size 48 = .ok (.getfield 27, 3) := by decide +kernel
theorem dX0_size_51 : decode cX0_size 51 = .ok (.iload_n 2, 1) := by decide +kernel
theorem dX0_size_52 : decode cX0_size 52 = .ok (.laload, 1) := by decide +kernel
theorem dX0_size_53 : decode cX0_size 53 = .ok (.lconst 0, 1) := by decide +kernel
theorem dX0_size_54 : decode cX0_size 54 = .ok (.lcmp, 1) := by decide +kernel
theorem dX0_size_55 : decode cX0_size 55 = .ok (.ifCond .eq 7, 3) := by decide +kernel
theorem dX0_size_58 : decode cX0_size 58 = .ok (.ldc2_w 97, 3) := by decide +kernel
theorem dX0_size_61 : decode cX0_size 61 = .ok (.lreturn, 1) := by decide +kernel
theorem dX0_size_62 : decode cX0_size 62 = .ok (.iinc 2 1, 3) := by decide +kernel
theorem dX0_size_65 : decode cX0_size 65 = .ok (.goto (-26), 3) := by decide +kernel
theorem dX0_size_68 : decode cX0_size 68 = .ok (.aload_n 0, 1) := by decide +kernel
theorem dX0_size_69 : decode cX0_size 69 = .ok (.getfield 27, 3) := by decide +kernel
theorem dX0_size_72 : decode cX0_size 72 = .ok (.iconst 0, 1) := by decide +kernel
theorem dX0_size_73 : decode cX0_size 73 = .ok (.laload, 1) := by decide +kernel
theorem dX0_size_74 : decode cX0_size 74 = .ok (.lreturn, 1) := by decide +kernel
set_option maxRecDepth 20000 in
theorem ggX0_solutions_J9_floorMod_7cf53 : GoodIn wsX0_solutions wsJ9_floorMod_7cf53 := goodIn_r _ [6] (by decide +kernel) (by decide +kernel)
set_option maxRecDepth 20000 in
theorem gX0_solutions_J9_floorMod_7cf53 : GoodIn wsX0_solutions (va_wsS RX0 58 yJ9_floorMod_7cf53 wsJ9_floorMod_7cf53) := goodIn_app (goodIn_of _ (by decide +kernel)) ggX0_solutions_J9_floorMod_7cf53
set_option maxRecDepth 20000 in
theorem ggX0_solutions_J7_fill_53178 : GoodIn wsX0_solutions wsJ7_fill_53178 := goodIn_r _ [10] (by decide +kernel) (by decide +kernel)
set_option maxRecDepth 20000 in
theorem gX0_solutions_J7_fill_53178 : GoodIn wsX0_solutions (va_wsS RX0 102 yJ7_fill_53178 wsJ7_fill_53178) := goodIn_app (goodIn_of _ (by decide +kernel)) ggX0_solutions_J7_fill_53178
set_option maxRecDepth 20000 in
theorem ggX0_solutions_X0_likePower : GoodIn wsX0_solutions wsX0_likePower := goodIn_r _ [15, 16, 17, 18, 1, 19, 20, 21, 22, 23, 24, 25, 26, 27, 28, 29, 30] (by decide +kernel) (by decide +kernel)
set_option maxRecDepth 20000 in
theorem gX0_solutions_X0_likePower : GoodIn wsX0_solutions (wsV RX0 105 RX0 yX0_likePower wsX0_likePower) := goodIn_app (goodIn_of _ (by decide +kernel)) ggX0_solutions_X0_likePower
theorem dX0_solutions_0 : decode cX0_solutions 0 = .ok (.iload_n 1, 1) := by decide +kernel
theorem dX0_solutions_1 : decode cX0_solutions 1 = .ok (.aload_n 0, 1) := by decide +kernel
theorem dX0_solutions_2 : decode cX0_solutions 2 = .ok (.getfield 49, 3) := by decide +kernel
theorem dX0_solutions_5 : decode cX0_solutions 5 = .ok (.invokestatic 58, 3) := by decide +kernel
theorem dX0_solutions_8 : decode cX0_solutions 8 = .ok (.istore 4, 2) := by decide +kernel
theorem dX0_solutions_10 : decode cX0_solutions 10 = .ok (.iload_n 2, 1) := by decide +kernel
theorem dX0_solutions_11 : decode cX0_solutions 11 = .ok (.aload_n 0, 1) := by decide +kernel
theorem dX0_solutions_12 : decode cX0_solutions 12 = .ok (.getfield 49, 3) := by decide +kernel
theorem dX0_solutions_15 : decode cX0_solutions 15 = .ok (.invokestatic 58, 3) := by decide +kernel
theorem dX0_solutions_18 : decode cX0_solutions 18 = .ok (.istore 5, 2) := by decide +kernel
theorem dX0_solutions_20 : decode cX0_solutions 20 = .ok (.iload_n 3, 1) := by decide +kernel
theorem dX0_solutions_21 : decode cX0_solutions 21 = .ok (.aload_n 0, 1) := by decide +kernel
theorem dX0_solutions_22 : decode cX0_solutions 22 = .ok (.getfield 49, 3) := by decide +kernel
theorem dX0_solutions_25 : decode cX0_solutions 25 = .ok (.invokestatic 58, 3) := by decide +kernel
theorem dX0_solutions_28 : decode cX0_solutions 28 = .ok (.istore 6, 2) := by decide +kernel
theorem dX0_solutions_30 : decode cX0_solutions 30 = .ok (.aload_n 0, 1) := by decide +kernel
theorem dX0_solutions_31 : decode cX0_solutions 31 = .ok (.getfield 19, 3) := by decide +kernel
theorem dX0_solutions_34 : decode cX0_solutions 34 = .ok (.iconst 0, 1) := by decide +kernel
theorem dX0_solutions_35 : decode cX0_solutions 35 = .ok (.invokestatic 102, 3) := by decide +kernel
theorem dX0_solutions_38 : decode cX0_solutions 38 = .ok (.iconst 0, 1) := by decide +kernel
theorem dX0_solutions_39 : decode cX0_solutions 39 = .ok (.istore 7, 2) := by decide +kernel
theorem dX0_solutions_41 : decode cX0_solutions 41 = .ok (.iload 7, 2) := by decide +kernel
theorem dX0_solutions_43 : decode cX0_solutions 43 = .ok (.aload_n 0, 1) := by decide +kernel
theorem dX0_solutions_44 : decode cX0_solutions 44 = .ok (.getfield 49, 3) := by decide +kernel
theorem dX0_solutions_47 : decode cX0_solutions 47 = .ok (.if_icmp .ge 32, 3) := by decide +kernel
theorem dX0_solutions_50 : decode cX0_solutions 50 = .ok (.aload_n 0, 1) := by decide +kernel
theorem dX0_solutions_51 : decode cX0_solutions 51 = .ok (.getfield 19, 3) := by decide +kernel
theorem dX0_solutions_54 : decode cX0_solutions 54 = .ok (.iload 4, 2) := by decide +kernel
theorem dX0_solutions_56 : decode cX0_solutions 56 = .ok (.aload_n 0, 1) := by decide +kernel
theorem dX0_solutions_57 : decode cX0_solutions 57 = .ok (.iload 7, 2) := by decide +kernel
theorem dX0_solutions_59 : decode cX0_solutions 59 = .ok (.invokevirtual 105, 3) := by decide +kernel
theorem dX0_solutions_62 : decode cX0_solutions 62 = .ok (.imul, 1) := by decide +kernel
theorem dX0_solutions_63 : decode cX0_solutions 63 = .ok (.aload_n 0, 1) := by decide +kernel
theorem dX0_solutions_64 : decode cX0_solutions 64 = .ok (.getfield 49, 3) := by decide +kernel
theorem dX0_solutions_67 : decode cX0_solutions 67 = .ok (.irem, 1) := by decide +kernel
theorem dX0_solutions_68 : decode cX0_solutions 68 = .ok (.dup2, 1) := by decide +kernel
theorem dX0_solutions_69 : decode cX0_solutions 69 = .ok (.iaload, 1) := by decide +kernel
theorem dX0_solutions_70 : decode cX0_solutions 70 = .ok (.iconst 1, 1) := by decide +kernel
theorem dX0_solutions_71 : decode cX0_solutions 71 = .ok (.iadd, 1) := by decide +kernel
theorem dX0_solutions_72 : decode cX0_solutions 72 = .ok (.iastore, 1) := by decide +kernel
theorem dX0_solutions_73 : decode cX0_solutions 73 = .ok (.iinc 7 1, 3) := by decide +kernel
theorem dX0_solutions_76 : decode cX0_solutions 76 = .ok (.goto (-35), 3) := by decide +kernel
theorem dX0_solutions_79 : decode cX0_solutions 79 = .ok (.iconst 0, 1) := by decide +kernel
theorem dX0_solutions_80 : decode cX0_solutions 80 = .ok (.istore 7, 2) := by decide +kernel
theorem dX0_solutions_82 : decode cX0_solutions 82 = .ok (.iconst 0, 1) := by decide +kernel
theorem dX0_solutions_83 : decode cX0_solutions 83 = .ok (.istore 8, 2) := by decide +kernel
theorem dX0_solutions_85 : decode cX0_solutions 85 = .ok (.iload 8, 2) := by decide +kernel
theorem dX0_solutions_87 : decode cX0_solutions 87 = .ok (.aload_n 0, 1) := by decide +kernel
theorem dX0_solutions_88 : decode cX0_solutions 88 = .ok (.getfield 49, 3) := by decide +kernel
theorem dX0_solutions_91 : decode cX0_solutions 91 = .ok (.if_icmp .ge 38, 3) := by decide +kernel
theorem dX0_solutions_94 : decode cX0_solutions 94 = .ok (.iload 7, 2) := by decide +kernel
theorem dX0_solutions_96 : decode cX0_solutions 96 = .ok (.aload_n 0, 1) := by decide +kernel
theorem dX0_solutions_97 : decode cX0_solutions 97 = .ok (.getfield 19, 3) := by decide +kernel
theorem dX0_solutions_100 : decode cX0_solutions 100 = .ok (.iload 6, 2) := by decide +kernel
theorem dX0_solutions_102 : decode cX0_solutions 102 = .ok (.iload 5, 2) := by decide +kernel
theorem dX0_solutions_104 : decode cX0_solutions 104 = .ok (.aload_n 0, 1) := by decide +kernel
theorem dX0_solutions_105 : decode cX0_solutions 105 = .ok (.iload 8, 2) := by decide +kernel
theorem dX0_solutions_107 : decode cX0_solutions 107 = .ok (.invokevirtual 105, 3) := by decide +kernel
theorem dX0_solutions_110 : decode cX0_solutions 110 = .ok (.imul, 1) := by decide +kernel
theorem dX0_solutions_111 : decode cX0_solutions 111 = .ok (.isub, 1) := by decide +kernel
theorem dX0_solutions_112 : decode cX0_solutions 112 = .ok (.aload_n 0, 1) := by decide +kernel
theorem dX0_solutions_113 : decode cX0_solutions 113 = .ok (.getfield 49, 3) := by decide +kernel
theorem dX0_solutions_116 : decode cX0_solutions 116 = .ok (.invokestatic 58, 3) := by decide +kernel
theorem dX0_solutions_119 : decode cX0_solutions 119 = .ok (.iaload, 1) := by decide +kernel
theorem dX0_solutions_120 : decode cX0_solutions 120 = .ok (.iadd, 1) := by decide +kernel
theorem dX0_solutions_121 : decode cX0_solutions 121 = .ok (.istore 7, 2) := by decide +kernel
theorem dX0_solutions_123 : decode cX0_solutions 123 = .ok (.iinc 8 1, 3) := by decide +kernel
theorem dX0_solutions_126 : decode cX0_solutions 126 = .ok (.goto (-41), 3) := by decide +kernel
theorem dX0_solutions_129 : decode cX0_solutions 129 = .ok (.iload 7, 2) := by decide +kernel
theorem dX0_solutions_131 : decode cX0_solutions 131 = .ok (.ireturn, 1) := by decide +kernel
set_option maxRecDepth 20000 in
theorem ggX0_rows_J7_fill_d0a16 : GoodIn wsX0_rows wsJ7_fill_d0a16 := goodIn_r _ [13] (by decide +kernel) (by decide +kernel)
set_option maxRecDepth 20000 in
theorem gX0_rows_J7_fill_d0a16 : GoodIn wsX0_rows (va_wsS RX0 77 yJ7_fill_d0a16 wsJ7_fill_d0a16) := goodIn_app (goodIn_of _ (by decide +kernel)) ggX0_rows_J7_fill_d0a16
set_option maxRecDepth 20000 in
theorem ggX0_rows_X0_lengthened : GoodIn wsX0_rows wsX0_lengthened := goodIn_r _ [18, 19, 3, 5, 2, 20, 21, 22, 17, 23, 24, 25, 26, 27, 28, 29, 30, 31, 32, 33, 34, 35, 36] (by decide +kernel) (by decide +kernel)
set_option maxRecDepth 20000 in
theorem gX0_rows_X0_lengthened : GoodIn wsX0_rows (wsV RX0 110 RX0 yX0_lengthened wsX0_lengthened) := goodIn_app (goodIn_of _ (by decide +kernel)) ggX0_rows_X0_lengthened
theorem dX0_rows_0 : decode cX0_rows 0 = .ok (.iload_n 1, 1) := by decide +kernel
theorem dX0_rows_1 : decode cX0_rows 1 = .ok (.ifCond .lt 9, 3) := by decide +kernel
theorem dX0_rows_4 : decode cX0_rows 4 = .ok (.iload_n 1, 1) := by decide +kernel
theorem dX0_rows_5 : decode cX0_rows 5 = .ok (.bipush 6, 2) := by decide +kernel
theorem dX0_rows_7 : decode cX0_rows 7 = .ok (.if_icmp .le 7, 3) := by decide +kernel
theorem dX0_rows_10 : decode cX0_rows 10 = .ok (.ldc2_w 108, 3) := by decide +kernel
theorem dX0_rows_13 : decode cX0_rows 13 = .ok (.lreturn, 1) := by decide +kernel
theorem dX0_rows_14 : decode cX0_rows 14 = .ok (.aload_n 0, 1) := by decide +kernel
theorem dX0_rows_15 : decode cX0_rows 15 = .ok (.getfield 31, 3) := by decide +kernel
theorem dX0_rows_18 : decode cX0_rows 18 = .ok (.lconst 0, 1) := by decide +kernel
theorem dX0_rows_19 : decode cX0_rows 19 = .ok (.invokestatic 77, 3) := by decide +kernel
theorem dX0_rows_22 : decode cX0_rows 22 = .ok (.lconst 1, 1) := by decide +kernel
theorem dX0_rows_23 : decode cX0_rows 23 = .ok (.lstore_n 2, 1) := by decide +kernel
theorem dX0_rows_24 : decode cX0_rows 24 = .ok (.iconst 1, 1) := by decide +kernel
theorem dX0_rows_25 : decode cX0_rows 25 = .ok (.istore 4, 2) := by decide +kernel
theorem dX0_rows_27 : decode cX0_rows 27 = .ok (.iload 4, 2) := by decide +kernel
theorem dX0_rows_29 : decode cX0_rows 29 = .ok (.iload_n 1, 1) := by decide +kernel
theorem dX0_rows_30 : decode cX0_rows 30 = .ok (.if_icmp .gt 70, 3) := by decide +kernel
theorem dX0_rows_33 : decode cX0_rows 33 = .ok (.iconst 0, 1) := by decide +kernel
theorem dX0_rows_34 : decode cX0_rows 34 = .ok (.istore 5, 2) := by decide +kernel
theorem dX0_rows_36 : decode cX0_rows 36 = .ok (.iload 5, 2) := by decide +kernel
theorem dX0_rows_38 : decode cX0_rows 38 = .ok (.aload_n 0, 1) := by decide +kernel
theorem dX0_rows_39 : decode cX0_rows 39 = .ok (.getfield 74, 3) := by decide +kernel
theorem dX0_rows_42 : decode cX0_rows 42 = .ok (.if_icmp .ge 28, 3) := by decide +kernel
theorem dX0_rows_45 : decode cX0_rows 45 = .ok (.aload_n 0, 1) := by decide +kernel
theorem dX0_rows_46 : decode cX0_rows 46 = .ok (.getfield 34, 3) := by decide +kernel
theorem dX0_rows_49 : decode cX0_rows 49 = .ok (.iload 5, 2) := by decide +kernel
theorem dX0_rows_51 : decode cX0_rows 51 = .ok (.aload_n 0, 1) := by decide +kernel
theorem dX0_rows_52 : decode cX0_rows 52 = .ok (.lload_n 2, 1) := by decide +kernel
theorem dX0_rows_53 : decode cX0_rows 53 = .ok (.aload_n 0, 1) := by decide +kernel
theorem dX0_rows_54 : decode cX0_rows 54 = .ok (.getfield 13, 3) := by decide +kernel
theorem dX0_rows_57 : decode cX0_rows 57 = .ok (.iload 5, 2) := by decide +kernel
theorem dX0_rows_59 : decode cX0_rows 59 = .ok (.iaload, 1) := by decide +kernel
theorem dX0_rows_60 : decode cX0_rows 60 = .ok (.invokevirtual 110, 3) := by decide +kernel
theorem dX0_rows_63 : decode cX0_rows 63 = .ok (.lastore, 1) := by decide +kernel
theorem dX0_rows_64 : decode cX0_rows 64 = .ok (.iinc 5 1, 3) := by decide +kernel
theorem dX0_rows_67 : decode cX0_rows 67 = .ok (.goto (-31), 3) := by decide +kernel
theorem dX0_rows_70 : decode cX0_rows 70 = .ok (.aload_n 0, 1) := by decide +kernel
theorem dX0_rows_71 : decode cX0_rows 71 = .ok (.lload_n 2, 1) := by decide +kernel
theorem dX0_rows_72 : decode cX0_rows 72 = .ok (.iconst 0, 1) := by decide +kernel
theorem dX0_rows_73 : decode cX0_rows 73 = .ok (.invokevirtual 110, 3) := by decide +kernel
theorem dX0_rows_76 : decode cX0_rows 76 = .ok (.lstore_n 2, 1) := by decide +kernel
theorem dX0_rows_77 : decode cX0_rows 77 = .ok (.aload_n 0, 1) := by decide +kernel
theorem dX0_rows_78 : decode cX0_rows 78 = .ok (.getfield 34, 3) := by decide +kernel
theorem dX0_rows_81 : decode cX0_rows 81 = .ok (.iconst 0, 1) := by decide +kernel
theorem dX0_rows_82 : decode cX0_rows 82 = .ok (.aload_n 0, 1) := by decide +kernel
theorem dX0_rows_83 : decode cX0_rows 83 = .ok (.getfield 31, 3) := by decide +kernel
theorem dX0_rows_86 : decode cX0_rows 86 = .ok (.iconst 0, 1) := by decide +kernel
theorem dX0_rows_87 : decode cX0_rows 87 = .ok (.aload_n 0, 1) := by decide +kernel
theorem dX0_rows_88 : decode cX0_rows 88 = .ok (.getfield 74, 3) := by decide +kernel
theorem dX0_rows_91 : decode cX0_rows 91 = .ok (.invokestatic 114, 3) := by decide +kernel
theorem dX0_rows_94 : decode cX0_rows 94 = .ok (.iinc 4 1, 3) := by decide +kernel
theorem dX0_rows_97 : decode cX0_rows 97 = .ok (.goto (-70), 3) := by decide +kernel
theorem dX0_rows_100 : decode cX0_rows 100 = .ok (.lload_n 2, 1) := by decide +kernel
theorem dX0_rows_101 : decode cX0_rows 101 = .ok (.lreturn, 1) := by decide +kernel
set_option maxRecDepth 20000 in
theorem ggX0_over_X0_isSet : GoodIn wsX0_over wsX0_isSet := goodIn_r _ [7, 8, 30, 31, 32, 33, 34, 35, 36, 37, 38, 39, 40, 41] (by decide +kernel) (by decide +kernel)
set_option maxRecDepth 20000 in
theorem gX0_over_X0_isSet : GoodIn wsX0_over (wsV RX0 120 RX0 yX0_isSet wsX0_isSet) := goodIn_app (goodIn_of _ (by decide +kernel)) ggX0_over_X0_isSet
set_option maxRecDepth 20000 in
theorem ggX0_over_X0_isSign : GoodIn wsX0_over wsX0_isSign := goodIn_r _ [11] (by decide +kernel) (by decide +kernel)
set_option maxRecDepth 20000 in
theorem gX0_over_X0_isSign : GoodIn wsX0_over (va_wsS RX0 123 yX0_isSign wsX0_isSign) := goodIn_app (goodIn_of _ (by decide +kernel)) ggX0_over_X0_isSign
set_option maxRecDepth 20000 in
theorem ggX0_over_X0_fillSigns : GoodIn wsX0_over wsX0_fillSigns := goodIn_r _ [15, 16, 2, 17, 18, 19, 6, 20, 21, 8, 30, 31, 32, 33, 34, 35, 36, 37, 38, 39, 40, 41] (by decide +kernel) (by decide +kernel)
set_option maxRecDepth 20000 in
theorem gX0_over_X0_fillSigns : GoodIn wsX0_over (wsV RX0 126 RX0 yX0_fillSigns wsX0_fillSigns) := goodIn_app (goodIn_of _ (by decide +kernel)) ggX0_over_X0_fillSigns
set_option maxRecDepth 20000 in
theorem ggX0_over_J9_floorMod_7cf53 : GoodIn wsX0_over wsJ9_floorMod_7cf53 := goodIn_r _ [25] (by decide +kernel) (by decide +kernel)
set_option maxRecDepth 20000 in
theorem gX0_over_J9_floorMod_7cf53 : GoodIn wsX0_over (va_wsS RX0 58 yJ9_floorMod_7cf53 wsJ9_floorMod_7cf53) := goodIn_app (goodIn_of _ (by decide +kernel)) ggX0_over_J9_floorMod_7cf53
set_option maxRecDepth 20000 in
theorem ggX0_over_X0_agreement : GoodIn wsX0_over wsX0_agreement := goodIn_r _ [29, 2, 16, 30, 31, 32, 33, 34, 35, 36, 37, 38, 39, 40, 41] (by decide +kernel) (by decide +kernel)
set_option maxRecDepth 20000 in
theorem gX0_over_X0_agreement : GoodIn wsX0_over (wsV RX0 130 RX0 yX0_agreement wsX0_agreement) := goodIn_app (goodIn_of _ (by decide +kernel)) ggX0_over_X0_agreement
theorem dX0_over_0 : decode cX0_over 0 = .ok (.aload_n 0, 1) := by decide +kernel
theorem dX0_over_1 : decode cX0_over 1 = .ok (.iload_n 1, 1) := by decide +kernel
theorem dX0_over_2 : decode cX0_over 2 = .ok (.invokevirtual 120, 3) := by decide +kernel
theorem dX0_over_5 : decode cX0_over 5 = .ok (.ifCond .ne 6, 3) := by decide +kernel
theorem dX0_over_8 : decode cX0_over 8 = .ok (.ldc 96, 2) := by decide +kernel
theorem dX0_over_10 : decode cX0_over 10 = .ok (.ireturn, 1) := by decide +kernel
theorem dX0_over_11 : decode cX0_over 11 = .ok (.iload_n 2, 1) := by decide +kernel
theorem dX0_over_12 : decode cX0_over 12 = .ok (.invokestatic 123, 3) := by decide +kernel
theorem dX0_over_15 : decode cX0_over 15 = .ok (.ifCond .ne 6, 3) := by decide +kernel
theorem dX0_over_18 : decode cX0_over 18 = .ok (.ldc 96, 2) := by decide +kernel
theorem dX0_over_20 : decode cX0_over 20 = .ok (.ireturn, 1) := by decide +kernel
theorem dX0_over_21 : decode cX0_over 21 = .ok (.aload_n 0, 1) := by decide +kernel
theorem dX0_over_22 : decode cX0_over 22 = .ok (.iload_n 1, 1) := by decide +kernel
theorem dX0_over_23 : decode cX0_over 23 = .ok (.iload_n 2, 1) := by decide +kernel
theorem dX0_over_24 : decode cX0_over 24 = .ok (.invokevirtual 126, 3) := by decide +kernel
theorem dX0_over_27 : decode cX0_over 27 = .ok (.aload_n 0, 1) := by decide +kernel
theorem dX0_over_28 : decode cX0_over 28 = .ok (.iload_n 3, 1) := by decide +kernel
theorem dX0_over_29 : decode cX0_over 29 = .ok (.aload_n 0, 1) := by decide +kernel
theorem dX0_over_30 : decode cX0_over 30 = .ok (.getfield 49, 3) := by decide +kernel
theorem dX0_over_33 : decode cX0_over 33 = .ok (.invokestatic 58, 3) := by decide +kernel
theorem dX0_over_36 : decode cX0_over 36 = .ok (.invokevirtual 130, 3) := by decide +kernel
theorem dX0_over_39 : decode cX0_over 39 = .ok (.ireturn, 1) := by decide +kernel
set_option maxRecDepth 20000 in
theorem ggX0_peak_X0_isSet : GoodIn wsX0_peak wsX0_isSet := goodIn_r _ [14, 1, 33, 34, 35, 36, 37, 38, 39, 40, 41, 42, 43, 44] (by decide +kernel) (by decide +kernel)
set_option maxRecDepth 20000 in
theorem gX0_peak_X0_isSet : GoodIn wsX0_peak (wsV RX0 120 RX0 yX0_isSet wsX0_isSet) := goodIn_app (goodIn_of _ (by decide +kernel)) ggX0_peak_X0_isSet
set_option maxRecDepth 20000 in
theorem ggX0_peak_X0_isSign : GoodIn wsX0_peak wsX0_isSign := goodIn_r _ [17] (by decide +kernel) (by decide +kernel)
set_option maxRecDepth 20000 in
theorem gX0_peak_X0_isSign : GoodIn wsX0_peak (va_wsS RX0 123 yX0_isSign wsX0_isSign) := goodIn_app (goodIn_of _ (by decide +kernel)) ggX0_peak_X0_isSign
set_option maxRecDepth 20000 in
theorem ggX0_peak_X0_fillSigns : GoodIn wsX0_peak wsX0_fillSigns := goodIn_r _ [21, 22, 23, 24, 25, 26, 13, 27, 28, 1, 33, 34, 35, 36, 37, 38, 39, 40, 41, 42, 43, 44] (by decide +kernel) (by decide +kernel)
set_option maxRecDepth 20000 in
theorem gX0_peak_X0_fillSigns : GoodIn wsX0_peak (wsV RX0 126 RX0 yX0_fillSigns wsX0_fillSigns) := goodIn_app (goodIn_of _ (by decide +kernel)) ggX0_peak_X0_fillSigns
set_option maxRecDepth 20000 in
theorem ggX0_peak_X0_agreement : GoodIn wsX0_peak wsX0_agreement := goodIn_r _ [32, 23, 22, 33, 34, 35, 36, 37, 38, 39, 40, 41, 42, 43, 44] (by decide +kernel) (by decide +kernel)
set_option maxRecDepth 20000 in
theorem gX0_peak_X0_agreement : GoodIn wsX0_peak (wsV RX0 130 RX0 yX0_agreement wsX0_agreement) := goodIn_app (goodIn_of _ (by decide +kernel)) ggX0_peak_X0_agreement
theorem dX0_peak_0 : decode cX0_peak 0 = .ok (.aload_n 0, 1) := by decide +kernel
theorem dX0_peak_1 : decode cX0_peak 1 = .ok (.iload_n 1, 1) := by decide +kernel
theorem dX0_peak_2 : decode cX0_peak 2 = .ok (.invokevirtual 120, 3) := by decide +kernel
theorem dX0_peak_5 : decode cX0_peak 5 = .ok (.ifCond .ne 6, 3) := by decide +kernel
theorem dX0_peak_8 : decode cX0_peak 8 = .ok (.bipush (-2), 2) := by decide +kernel
theorem dX0_peak_10 : decode cX0_peak 10 = .ok (.ireturn, 1) := by decide +kernel
theorem dX0_peak_11 : decode cX0_peak 11 = .ok (.iload_n 2, 1) := by decide +kernel
theorem dX0_peak_12 : decode cX0_peak 12 = .ok (.invokestatic 123, 3) := by decide +kernel
theorem dX0_peak_15 : decode cX0_peak 15 = .ok (.ifCond .ne 6, 3) := by decide +kernel
theorem dX0_peak_18 : decode cX0_peak 18 = .ok (.bipush (-3), 2) := by decide +kernel
theorem dX0_peak_20 : decode cX0_peak 20 = .ok (.ireturn, 1) := by decide +kernel
theorem dX0_peak_21 : decode cX0_peak 21 = .ok (.aload_n 0, 1) := by decide +kernel
theorem dX0_peak_22 : decode cX0_peak 22 = .ok (.iload_n 1, 1) := by decide +kernel
theorem dX0_peak_23 : decode cX0_peak 23 = .ok (.iload_n 2, 1) := by decide +kernel
theorem dX0_peak_24 : decode cX0_peak 24 = .ok (.invokevirtual 126, 3) := by decide +kernel
theorem dX0_peak_27 : decode cX0_peak 27 = .ok (.iconst 0, 1) := by decide +kernel
theorem dX0_peak_28 : decode cX0_peak 28 = .ok (.istore_n 3, 1) := by decide +kernel
theorem dX0_peak_29 : decode cX0_peak 29 = .ok (.iconst 0, 1) := by decide +kernel
theorem dX0_peak_30 : decode cX0_peak 30 = .ok (.istore 4, 2) := by decide +kernel
theorem dX0_peak_32 : decode cX0_peak 32 = .ok (.iload 4, 2) := by decide +kernel
theorem dX0_peak_34 : decode cX0_peak 34 = .ok (.aload_n 0, 1) := by decide +kernel
theorem dX0_peak_35 : decode cX0_peak 35 = .ok (.getfield 74, 3) := by decide +kernel
theorem dX0_peak_38 : decode cX0_peak 38 = .ok (.if_icmp .ge 28, 3) := by decide +kernel
theorem dX0_peak_41 : decode cX0_peak 41 = .ok (.iload_n 3, 1) := by decide +kernel
theorem dX0_peak_42 : decode cX0_peak 42 = .ok (.aload_n 0, 1) := by decide +kernel
theorem dX0_peak_43 : decode cX0_peak 43 = .ok (.aload_n 0, 1) := by decide +kernel
theorem dX0_peak_44 : decode cX0_peak 44 = .ok (.getfield 13, 3) := by decide +kernel
theorem dX0_peak_47 : decode cX0_peak 47 = .ok (.iload 4, 2) := by decide +kernel
theorem dX0_peak_49 : decode cX0_peak 49 = .ok (.iaload, 1) := by decide +kernel
theorem dX0_peak_50 : decode cX0_peak 50 = .ok (.invokevirtual 130, 3) := by decide +kernel
theorem dX0_peak_53 : decode cX0_peak 53 = .ok (.invokestatic 133, 3) := by decide +kernel
theorem dX0_peak_56 : decode cX0_peak 56 = .ok (.invokestatic 136, 3) := by decide +kernel
theorem dX0_peak_59 : decode cX0_peak 59 = .ok (.istore_n 3, 1) := by decide +kernel
theorem dX0_peak_60 : decode cX0_peak 60 = .ok (.iinc 4 1, 3) := by decide +kernel
theorem dX0_peak_63 : decode cX0_peak 63 = .ok (.goto (-31), 3) := by decide +kernel
theorem dX0_peak_66 : decode cX0_peak 66 = .ok (.iload_n 3, 1) := by decide +kernel
theorem dX0_peak_67 : decode cX0_peak 67 = .ok (.ireturn, 1) := by decide +kernel
set_option maxRecDepth 20000 in
theorem ggX0_even_X0_isSet : GoodIn wsX0_even wsX0_isSet := goodIn_r _ [7, 2, 23, 24, 25, 26, 27, 28, 29, 30, 31, 32, 33, 34] (by decide +kernel) (by decide +kernel)
set_option maxRecDepth 20000 in
theorem gX0_even_X0_isSet : GoodIn wsX0_even (wsV RX0 120 RX0 yX0_isSet wsX0_isSet) := goodIn_app (goodIn_of _ (by decide +kernel)) ggX0_even_X0_isSet
set_option maxRecDepth 20000 in
theorem ggX0_even_X0_fillSigns : GoodIn wsX0_even wsX0_fillSigns := goodIn_r _ [11, 12, 13, 14, 15, 16, 6, 17, 18, 2, 23, 24, 25, 26, 27, 28, 29, 30, 31, 32, 33, 34] (by decide +kernel) (by decide +kernel)
set_option maxRecDepth 20000 in
theorem gX0_even_X0_fillSigns : GoodIn wsX0_even (wsV RX0 126 RX0 yX0_fillSigns wsX0_fillSigns) := goodIn_app (goodIn_of _ (by decide +kernel)) ggX0_even_X0_fillSigns
set_option maxRecDepth 20000 in
theorem ggX0_even_X0_differences : GoodIn wsX0_even wsX0_differences := goodIn_r _ [22, 13, 12, 23, 24, 25, 26, 27, 28, 29, 30, 31, 32, 33, 34] (by decide +kernel) (by decide +kernel)
set_option maxRecDepth 20000 in
theorem gX0_even_X0_differences : GoodIn wsX0_even (wsV RX0 139 RX0 yX0_differences wsX0_differences) := goodIn_app (goodIn_of _ (by decide +kernel)) ggX0_even_X0_differences
theorem dX0_even_0 : decode cX0_even 0 = .ok (.aload_n 0, 1) := by decide +kernel
theorem dX0_even_1 : decode cX0_even 1 = .ok (.iload_n 1, 1) := by decide +kernel
theorem dX0_even_2 : decode cX0_even 2 = .ok (.invokevirtual 120, 3) := by decide +kernel
theorem dX0_even_5 : decode cX0_even 5 = .ok (.ifCond .ne 6, 3) := by decide +kernel
theorem dX0_even_8 : decode cX0_even 8 = .ok (.bipush (-2), 2) := by decide +kernel
theorem dX0_even_10 : decode cX0_even 10 = .ok (.ireturn, 1) := by decide +kernel
theorem dX0_even_11 : decode cX0_even 11 = .ok (.aload_n 0, 1) := by decide +kernel
theorem dX0_even_12 : decode cX0_even 12 = .ok (.iload_n 1, 1) := by decide +kernel
theorem dX0_even_13 : decode cX0_even 13 = .ok (.iconst (-1), 1) := by decide +kernel
theorem dX0_even_14 : decode cX0_even 14 = .ok (.invokevirtual 126, 3) := by decide +kernel
theorem dX0_even_17 : decode cX0_even 17 = .ok (.aload_n 0, 1) := by decide +kernel
theorem dX0_even_18 : decode cX0_even 18 = .ok (.aload_n 0, 1) := by decide +kernel
theorem dX0_even_19 : decode cX0_even 19 = .ok (.getfield 13, 3) := by decide +kernel
theorem dX0_even_22 : decode cX0_even 22 = .ok (.iconst 0, 1) := by decide +kernel
theorem dX0_even_23 : decode cX0_even 23 = .ok (.iaload, 1) := by decide +kernel
theorem dX0_even_24 : decode cX0_even 24 = .ok (.invokevirtual 139, 3) := by decide +kernel
theorem dX0_even_27 : decode cX0_even 27 = .ok (.istore_n 2, 1) := by decide +kernel
theorem dX0_even_28 : decode cX0_even 28 = .ok (.iconst 1, 1) := by decide +kernel
theorem dX0_even_29 : decode cX0_even 29 = .ok (.istore_n 3, 1) := by decide +kernel
theorem dX0_even_30 : decode cX0_even 30 = .ok (.iload_n 3, 1) := by decide +kernel
theorem dX0_even_31 : decode cX0_even 31 = .ok (.aload_n 0, 1) := by decide +kernel
theorem dX0_even_32 : decode cX0_even 32 = .ok (.getfield 74, 3) := by decide +kernel
theorem dX0_even_35 : decode cX0_even 35 = .ok (.if_icmp .ge 25, 3) := by decide +kernel
theorem dX0_even_38 : decode cX0_even 38 = .ok (.aload_n 0, 1) := by decide +kernel
theorem dX0_even_39 : decode cX0_even 39 = .ok (.aload_n 0, 1) := by decide +kernel
theorem dX0_even_40 : decode cX0_even 40 = .ok (.getfield 13, 3) := by decide +kernel
theorem dX0_even_43 : decode cX0_even 43 = .ok (.iload_n 3, 1) := by decide +kernel
theorem dX0_even_44 : decode cX0_even 44 = .ok (.iaload, 1) := by decide +kernel
theorem dX0_even_45 : decode cX0_even 45 = .ok (.invokevirtual 139, 3) := by decide +kernel
theorem dX0_even_48 : decode cX0_even 48 = .ok (.iload_n 2, 1) := by decide +kernel
theorem dX0_even_49 : decode cX0_even 49 = .ok (.if_icmp .eq 5, 3) := by decide +kernel
theorem dX0_even_52 : decode cX0_even 52 = .ok (.iconst (-1), 1) := by decide +kernel
theorem dX0_even_53 : decode cX0_even 53 = .ok (.ireturn, 1) := by decide +kernel
theorem dX0_even_54 : decode cX0_even 54 = .ok (.iinc 3 1, 3) := by decide +kernel
theorem dX0_even_57 : decode cX0_even 57 = .ok (.goto (-27), 3) := by decide +kernel
theorem dX0_even_60 : decode cX0_even 60 = .ok (.iload_n 2, 1) := by decide +kernel
theorem dX0_even_61 : decode cX0_even 61 = .ok (.ireturn, 1) := by decide +kernel
set_option maxRecDepth 20000 in
theorem ggX0_classes_X0_classNumberBySums : GoodIn wsX0_classes wsX0_classNumberBySums := goodIn_r _ [6, 1, 7, 16, 17, 18, 19, 20, 21, 22, 23, 24, 25, 26, 27] (by decide +kernel) (by decide +kernel)
set_option maxRecDepth 20000 in
theorem gX0_classes_X0_classNumberBySums : GoodIn wsX0_classes (wsV RX0 142 RX0 yX0_classNumberBySums wsX0_classNumberBySums) := goodIn_app (goodIn_of _ (by decide +kernel)) ggX0_classes_X0_classNumberBySums
set_option maxRecDepth 20000 in
theorem ggX0_classes_X0_classNumberByForms : GoodIn wsX0_classes wsX0_classNumberByForms := goodIn_r _ [11, 12, 13, 14, 5, 15, 1, 16, 17, 18, 19, 20, 21, 22, 23, 24, 25, 26, 27] (by decide +kernel) (by decide +kernel)
set_option maxRecDepth 20000 in
theorem gX0_classes_X0_classNumberByForms : GoodIn wsX0_classes (wsV RX0 146 RX0 yX0_classNumberByForms wsX0_classNumberByForms) := goodIn_app (goodIn_of _ (by decide +kernel)) ggX0_classes_X0_classNumberByForms
theorem dX0_classes_0 : decode cX0_classes 0 = .ok (.iload_n 1, 1) := by decide +kernel
theorem dX0_classes_1 : decode cX0_classes 1 = .ok (.ifCond .lt 8, 3) := by decide +kernel
theorem dX0_classes_4 : decode cX0_classes 4 = .ok (.iload_n 1, 1) := by decide +kernel
theorem dX0_classes_5 : decode cX0_classes 5 = .ok (.iconst 1, 1) := by decide +kernel
theorem dX0_classes_6 : decode cX0_classes 6 = .ok (.if_icmp .le 6, 3) := by decide +kernel
theorem dX0_classes_9 : decode cX0_classes 9 = .ok (.bipush (-3), 2) := by decide +kernel
theorem dX0_classes_11 : decode cX0_classes 11 = .ok (.ireturn, 1) := by decide +kernel
theorem dX0_classes_12 : decode cX0_classes 12 = .ok (.aload_n 0, 1) := by decide +kernel
theorem dX0_classes_13 : decode cX0_classes 13 = .ok (.getfield 49, 3) := by decide +kernel
theorem dX0_classes_16 : decode cX0_classes 16 = .ok (.iconst 4, 1) := by decide +kernel
theorem dX0_classes_17 : decode cX0_classes 17 = .ok (.irem, 1) := by decide +kernel
theorem dX0_classes_18 : decode cX0_classes 18 = .ok (.iconst 3, 1) := by decide +kernel
theorem dX0_classes_19 : decode cX0_classes 19 = .ok (.if_icmp .ne 11, 3) := by decide +kernel
theorem dX0_classes_22 : decode cX0_classes 22 = .ok (.aload_n 0, 1) := by decide +kernel
theorem dX0_classes_23 : decode cX0_classes 23 = .ok (.getfield 49, 3) := by decide +kernel
theorem dX0_classes_26 : decode cX0_classes 26 = .ok (.iconst 3, 1) := by decide +kernel
theorem dX0_classes_27 : decode cX0_classes 27 = .ok (.if_icmp .ne 6, 3) := by decide +kernel
theorem dX0_classes_30 : decode cX0_classes 30 = .ok (.bipush (-4), 2) := by decide +kernel
theorem dX0_classes_32 : decode cX0_classes 32 = .ok (.ireturn, 1) := by decide +kernel
theorem dX0_classes_33 : decode cX0_classes 33 = .ok (.iload_n 1, 1) := by decide +kernel
theorem dX0_classes_34 : decode cX0_classes 34 = .ok (.ifCond .ne 10, 3) := by decide +kernel
theorem dX0_classes_37 : decode cX0_classes 37 = .ok (.aload_n 0, 1) := by decide +kernel
theorem dX0_classes_38 : decode cX0_classes 38 = .ok (.invokevirtual 142, 3) := by decide +kernel
theorem dX0_classes_41 : decode cX0_classes 41 = .ok (.goto 7, 3) := by decide +kernel
theorem dX0_classes_44 : decode cX0_classes 44 = .ok (.aload_n 0, 1) := by decide +kernel
theorem dX0_classes_45 : decode cX0_classes 45 = .ok (.invokevirtual 146, 3) := by decide +kernel
theorem dX0_classes_48 : decode cX0_classes 48 = .ok (.ireturn, 1) := by decide +kernel
theorem dX0_count_0 : decode cX0_count 0 = .ok (.iload_n 1, 1) := by decide +kernel
theorem dX0_count_1 : decode cX0_count 1 = .ok (.tableswitch 51 0 3 #[31, 36, 41, 46], 31) := by decide +kernel
theorem dX0_count_32 : decode cX0_count 32 = .ok (.aload_n 0, 1) := by decide +kernel
theorem dX0_count_33 : decode cX0_count 33 = .ok (.getfield 49, 3) := by decide +kernel
theorem dX0_count_36 : decode cX0_count 36 = .ok (.ireturn, 1) := by decide +kernel
theorem dX0_count_37 : decode cX0_count 37 = .ok (.aload_n 0, 1) := by decide +kernel
theorem dX0_count_38 : decode cX0_count 38 = .ok (.getfield 45, 3) := by decide +kernel
theorem dX0_count_41 : decode cX0_count 41 = .ok (.ireturn, 1) := by decide +kernel
theorem dX0_count_42 : decode cX0_count 42 = .ok (.aload_n 0, 1) := by decide +kernel
theorem dX0_count_43 : decode cX0_count 43 = .ok (.getfield 74, 3) := by decide +kernel
theorem dX0_count_46 : decode cX0_count 46 = .ok (.ireturn, 1) := by decide +kernel
theorem dX0_count_47 : decode cX0_count 47 = .ok (.aload_n 0, 1) := by decide +kernel
theorem dX0_count_48 : decode cX0_count 48 = .ok (.getfield 55, 3) := by decide +kernel
theorem dX0_count_51 : decode cX0_count 51 = .ok (.ireturn, 1) := by decide +kernel
theorem dX0_count_52 : decode cX0_count 52 = .ok (.bipush (-3), 2) := by decide +kernel
theorem dX0_count_54 : decode cX0_count 54 = .ok (.ireturn, 1) := by decide +kernel
set_option maxRecDepth 20000 in
theorem ggX0_setPrime_X0_leastRoot : GoodIn wsX0_setPrime wsX0_leastRoot := goodIn_r _ [9, 1, 10, 11, 12, 8, 13, 29, 30, 31, 32, 33, 34, 35, 36, 37, 38, 39, 40] (by decide +kernel) (by decide +kernel)
set_option maxRecDepth 20000 in
theorem gX0_setPrime_X0_leastRoot : GoodIn wsX0_setPrime (wsV RX0 149 RX0 yX0_leastRoot wsX0_leastRoot) := goodIn_app (goodIn_of _ (by decide +kernel)) ggX0_setPrime_X0_leastRoot
set_option maxRecDepth 20000 in
theorem ggX0_setPrime_X0_setDegree : GoodIn wsX0_setPrime wsX0_setDegree := goodIn_r _ [17, 18, 19, 20, 21, 22, 23, 8, 24, 25, 26, 27, 28, 29, 30, 31, 32, 33, 34, 35, 36, 37, 38, 39, 40] (by decide +kernel) (by decide +kernel)
set_option maxRecDepth 20000 in
theorem gX0_setPrime_X0_setDegree : GoodIn wsX0_setPrime (wsV RX0 52 RX0 yX0_setDegree wsX0_setDegree) := goodIn_app (goodIn_of _ (by decide +kernel)) ggX0_setPrime_X0_setDegree
theorem dX0_setPrime_0 : decode cX0_setPrime 0 = .ok (.aload_n 0, 1) := by decide +kernel
theorem dX0_setPrime_1 : decode cX0_setPrime 1 = .ok (.iload_n 1, 1) := by decide +kernel
theorem dX0_setPrime_2 : decode cX0_setPrime 2 = .ok (.putfield 49, 3) := by decide +kernel
theorem dX0_setPrime_5 : decode cX0_setPrime 5 = .ok (.aload_n 0, 1) := by decide +kernel
theorem dX0_setPrime_6 : decode cX0_setPrime 6 = .ok (.aload_n 0, 1) := by decide +kernel
theorem dX0_setPrime_7 : decode cX0_setPrime 7 = .ok (.invokevirtual 149, 3) := by decide +kernel
theorem dX0_setPrime_10 : decode cX0_setPrime 10 = .ok (.putfield 45, 3) := by decide +kernel
theorem dX0_setPrime_13 : decode cX0_setPrime 13 = .ok (.aload_n 0, 1) := by decide +kernel
theorem dX0_setPrime_14 : decode cX0_setPrime 14 = .ok (.getfield 9, 3) := by decide +kernel
theorem dX0_setPrime_17 : decode cX0_setPrime 17 = .ok (.iconst 0, 1) := by decide +kernel
theorem dX0_setPrime_18 : decode cX0_setPrime 18 = .ok (.iconst (-1), 1) := by decide +kernel
theorem dX0_setPrime_19 : decode cX0_setPrime 19 = .ok (.iastore, 1) := by decide +kernel
theorem dX0_setPrime_20 : decode cX0_setPrime 20 = .ok (.iconst 1, 1) := by decide +kernel
theorem dX0_setPrime_21 : decode cX0_setPrime 21 = .ok (.istore_n 2, 1) := by decide +kernel
theorem dX0_setPrime_22 : decode cX0_setPrime 22 = .ok (.iconst 0, 1) := by decide +kernel
theorem dX0_setPrime_23 : decode cX0_setPrime 23 = .ok (.istore_n 3, 1) := by decide +kernel
theorem dX0_setPrime_24 : decode cX0_setPrime 24 = .ok (.iload_n 3, 1) := by decide +kernel
theorem dX0_setPrime_25 : decode cX0_setPrime 25 = .ok (.aload_n 0, 1) := by decide +kernel
theorem dX0_setPrime_26 : decode cX0_setPrime 26 = .ok (.getfield 49, 3) := by decide +kernel
theorem dX0_setPrime_29 : decode cX0_setPrime 29 = .ok (.iconst 1, 1) := by decide +kernel
theorem dX0_setPrime_30 : decode cX0_setPrime 30 = .ok (.isub, 1) := by decide +kernel
theorem dX0_setPrime_31 : decode cX0_setPrime 31 = .ok (.if_icmp .ge 35, 3) := by decide +kernel
theorem dX0_setPrime_34 : decode cX0_setPrime 34 = .ok (.aload_n 0, 1) := by decide +kernel
theorem dX0_setPrime_35 : decode cX0_setPrime 35 = .ok (.getfield 13, 3) := by decide +kernel
theorem dX0_setPrime_38 : decode cX0_setPrime 38 = .ok (.iload_n 3, 1) := by decide +kernel
theorem dX0_setPrime_39 : decode cX0_setPrime 39 = .ok (.iload_n 2, 1) := by decide +kernel
theorem dX0_setPrime_40 : decode cX0_setPrime 40 = .ok (.iastore, 1) := by decide +kernel
theorem dX0_setPrime_41 : decode cX0_setPrime 41 = .ok (.aload_n 0, 1) := by decide +kernel
theorem dX0_setPrime_42 : decode cX0_setPrime 42 = .ok (.getfield 9, 3) := by decide +kernel
theorem dX0_setPrime_45 : decode cX0_setPrime 45 = .ok (.iload_n 2, 1) := by decide +kernel
theorem dX0_setPrime_46 : decode cX0_setPrime 46 = .ok (.iload_n 3, 1) := by decide +kernel
theorem dX0_setPrime_47 : decode cX0_setPrime 47 = .ok (.iastore, 1) := by decide +kernel
theorem dX0_setPrime_48 : decode cX0_setPrime 48 = .ok (.iload_n 2, 1) := by decide +kernel
theorem dX0_setPrime_49 : decode cX0_setPrime 49 = .ok (.aload_n 0, 1) := by decide +kernel
theorem dX0_setPrime_50 : decode cX0_setPrime 50 = .ok (.getfield 45, 3) := by decide +kernel
theorem dX0_setPrime_53 : decode cX0_setPrime 53 = .ok (.imul, 1) := by decide +kernel
theorem dX0_setPrime_54 : decode cX0_setPrime 54 = .ok (.aload_n 0, 1) := by decide +kernel
theorem dX0_setPrime_55 : decode cX0_setPrime 55 = .ok (.getfield 49, 3) := by decide +kernel
theorem dX0_setPrime_58 : decode cX0_setPrime 58 = .ok (.irem, 1) := by decide +kernel
theorem dX0_setPrime_59 : decode cX0_setPrime 59 = .ok (.istore_n 2, 1) := by decide +kernel
theorem dX0_setPrime_60 : decode cX0_setPrime 60 = .ok (.iinc 3 1, 3) := by decide +kernel
theorem dX0_setPrime_63 : decode cX0_setPrime 63 = .ok (.goto (-39), 3) := by decide +kernel
theorem dX0_setPrime_66 : decode cX0_setPrime 66 = .ok (.aload_n 0, 1) := by decide +kernel
theorem dX0_setPrime_67 : decode cX0_setPrime 67 = .ok (.iconst 2, 1) := by decide +kernel
theorem dX0_setPrime_68 : decode cX0_setPrime 68 = .ok (.invokevirtual 52, 3) := by decide +kernel
theorem dX0_setPrime_71 : decode cX0_setPrime 71 = .ok (.return_, 1) := by decide +kernel
set_option maxRecDepth 20000 in
theorem ggX0_setDegree_X0_sharesDivisor : GoodIn wsX0_setDegree wsX0_sharesDivisor := goodIn_r _ [8, 1, 13, 14, 15, 16, 17, 18, 19, 20, 21, 22, 23, 24] (by decide +kernel) (by decide +kernel)
set_option maxRecDepth 20000 in
theorem gX0_setDegree_X0_sharesDivisor : GoodIn wsX0_setDegree (wsV RX0 93 RX0 yX0_sharesDivisor wsX0_sharesDivisor) := goodIn_app (goodIn_of _ (by decide +kernel)) ggX0_setDegree_X0_sharesDivisor
set_option maxRecDepth 20000 in
theorem ggX0_setDegree_J7_fill_53178 : GoodIn wsX0_setDegree wsJ7_fill_53178 := goodIn_r _ [12] (by decide +kernel) (by decide +kernel)
set_option maxRecDepth 20000 in
theorem gX0_setDegree_J7_fill_53178 : GoodIn wsX0_setDegree (va_wsS RX0 102 yJ7_fill_53178 wsJ7_fill_53178) := goodIn_app (goodIn_of _ (by decide +kernel)) ggX0_setDegree_J7_fill_53178
theorem dX0_setDegree_0 : decode cX0_setDegree 0 = .ok (.aload_n 0, 1) := by decide +kernel
theorem dX0_setDegree_1 : decode cX0_setDegree 1 = .ok (.iload_n 1, 1) := by decide +kernel
theorem dX0_setDegree_2 : decode cX0_setDegree 2 = .ok (.putfield 74, 3) := by decide +kernel
theorem dX0_setDegree_5 : decode cX0_setDegree 5 = .ok (.aload_n 0, 1) := by decide +kernel
theorem dX0_setDegree_6 : decode cX0_setDegree 6 = .ok (.iconst 0, 1) := by decide +kernel
theorem dX0_setDegree_7 : decode cX0_setDegree 7 = .ok (.putfield 55, 3) := by decide +kernel
theorem dX0_setDegree_10 : decode cX0_setDegree 10 = .ok (.iconst 1, 1) := by decide +kernel
theorem dX0_setDegree_11 : decode cX0_setDegree 11 = .ok (.istore_n 2, 1) := by decide +kernel
theorem dX0_setDegree_12 : decode cX0_setDegree 12 = .ok (.iload_n 2, 1) := by decide +kernel
theorem dX0_setDegree_13 : decode cX0_setDegree 13 = .ok (.aload_n 0, 1) := by decide +kernel
theorem dX0_setDegree_14 : decode cX0_setDegree 14 = .ok (.getfield 74, 3) := by decide +kernel
theorem dX0_setDegree_17 : decode cX0_setDegree 17 = .ok (.if_icmp .gt 27, 3) := by decide +kernel
theorem dX0_setDegree_20 : decode cX0_setDegree 20 = .ok (.aload_n 0, 1) := by decide +kernel
theorem dX0_setDegree_21 : decode cX0_setDegree 21 = .ok (.iload_n 2, 1) := by decide +kernel
theorem dX0_setDegree_22 : decode cX0_setDegree 22 = .ok (.invokevirtual 93, 3) := by decide +kernel
theorem dX0_setDegree_25 : decode cX0_setDegree 25 = .ok (.ifCond .ne 13, 3) := by decide +kernel
theorem dX0_setDegree_28 : decode cX0_setDegree 28 = .ok (.aload_n 0, 1) := by decide +kernel
theorem dX0_setDegree_29 : decode cX0_setDegree 29 = .ok (.dup, 1) := by decide +kernel
theorem dX0_setDegree_30 : decode cX0_setDegree 30 = .ok (.getfield 55, 3) := by decide +kernel
theorem dX0_setDegree_33 : decode cX0_setDegree 33 = .ok (.iconst 1, 1) := by decide +kernel
theorem dX0_setDegree_34 : decode cX0_setDegree 34 = .ok (.iadd, 1) := by decide +kernel
theorem dX0_setDegree_35 : decode cX0_setDegree 35 = .ok (.putfield 55, 3) := by decide +kernel
theorem dX0_setDegree_38 : decode cX0_setDegree 38 = .ok (.iinc 2 1, 3) := by decide +kernel
theorem dX0_setDegree_41 : decode cX0_setDegree 41 = .ok (.goto (-29), 3) := by decide +kernel
theorem dX0_setDegree_44 : decode cX0_setDegree 44 = .ok (.iconst 0, 1) := by decide +kernel
theorem dX0_setDegree_45 : decode cX0_setDegree 45 = .ok (.istore_n 2, 1) := by decide +kernel
theorem dX0_setDegree_46 : decode cX0_setDegree 46 = .ok (.iload_n 2, 1) := by decide +kernel
theorem dX0_setDegree_47 : decode cX0_setDegree 47 = .ok (.bipush 6, 2) := by decide +kernel
theorem dX0_setDegree_49 : decode cX0_setDegree 49 = .ok (.if_icmp .ge 19, 3) := by decide +kernel
theorem dX0_setDegree_52 : decode cX0_setDegree 52 = .ok (.aload_n 0, 1) := by decide +kernel
theorem dX0_setDegree_53 : decode cX0_setDegree 53 = .ok (.getfield 24, 3) := by decide +kernel
theorem dX0_setDegree_56 : decode cX0_setDegree 56 = .ok (.iload_n 2, 1) := by decide +kernel
theorem dX0_setDegree_57 : decode cX0_setDegree 57 = .ok (.aaload, 1) := by decide +kernel
theorem dX0_setDegree_58 : decode cX0_setDegree 58 = .ok (.iconst 0, 1) := by decide +kernel
theorem dX0_setDegree_59 : decode cX0_setDegree 59 = .ok (.invokestatic 102, 3) := by decide +kernel
theorem dX0_setDegree_62 : decode cX0_setDegree 62 = .ok (.iinc 2 1, 3) := by decide +kernel
theorem dX0_setDegree_65 : decode cX0_setDegree 65 = .ok (.goto (-19), 3) := by decide +kernel
theorem dX0_setDegree_68 : decode cX0_setDegree 68 = .ok (.return_, 1) := by decide +kernel
theorem dX0_isPrime_0 : decode cX0_isPrime 0 = .ok (.iconst 2, 1) := by decide +kernel
theorem dX0_isPrime_1 : decode cX0_isPrime 1 = .ok (.istore_n 1, 1) := by decide +kernel
theorem dX0_isPrime_2 : decode cX0_isPrime 2 = .ok (.iload_n 1, 1) := by decide +kernel
theorem dX0_isPrime_3 : decode cX0_isPrime 3 = .ok (.iload_n 0, 1) := by decide +kernel
theorem dX0_isPrime_4 : decode cX0_isPrime 4 = .ok (.if_icmp .ge 17, 3) := by decide +kernel
theorem dX0_isPrime_7 : decode cX0_isPrime 7 = .ok (.iload_n 0, 1) := by decide +kernel
theorem dX0_isPrime_8 : decode cX0_isPrime 8 = .ok (.iload_n 1, 1) := by decide +kernel
theorem dX0_isPrime_9 : decode cX0_isPrime 9 = .ok (.irem, 1) := by decide +kernel
theorem dX0_isPrime_10 : decode cX0_isPrime 10 = .ok (.ifCond .ne 5, 3) := by decide +kernel
theorem dX0_isPrime_13 : decode cX0_isPrime 13 = .ok (.iconst 0, 1) := by decide +kernel
theorem dX0_isPrime_14 : decode cX0_isPrime 14 = .ok (.ireturn, 1) := by decide +kernel
theorem dX0_isPrime_15 : decode cX0_isPrime 15 = .ok (.iinc 1 1, 3) := by decide +kernel
theorem dX0_isPrime_18 : decode cX0_isPrime 18 = .ok (.goto (-16), 3) := by decide +kernel
theorem dX0_isPrime_21 : decode cX0_isPrime 21 = .ok (.iload_n 0, 1) := by decide +kernel
theorem dX0_isPrime_22 : decode cX0_isPrime 22 = .ok (.iconst 2, 1) := by decide +kernel
theorem dX0_isPrime_23 : decode cX0_isPrime 23 = .ok (.if_icmp .le 7, 3) := by decide +kernel
theorem dX0_isPrime_26 : decode cX0_isPrime 26 = .ok (.iconst 1, 1) := by decide +kernel
theorem dX0_isPrime_27 : decode cX0_isPrime 27 = .ok (.goto 4, 3) := by decide +kernel
theorem dX0_isPrime_30 : decode cX0_isPrime 30 = .ok (.iconst 0, 1) := by decide +kernel
theorem dX0_isPrime_31 : decode cX0_isPrime 31 = .ok (.ireturn, 1) := by decide +kernel
set_option maxRecDepth 20000 in
theorem ggX0_leastRoot_X0_hasAllPowers : GoodIn wsX0_leastRoot wsX0_hasAllPowers := goodIn_r _ [6, 1, 7, 8, 9, 10, 11, 12, 13, 14, 15, 16, 17, 18] (by decide +kernel) (by decide +kernel)
set_option maxRecDepth 20000 in
theorem gX0_leastRoot_X0_hasAllPowers : GoodIn wsX0_leastRoot (wsV RX0 152 RX0 yX0_hasAllPowers wsX0_hasAllPowers) := goodIn_app (goodIn_of _ (by decide +kernel)) ggX0_leastRoot_X0_hasAllPowers
theorem dX0_leastRoot_0 : decode cX0_leastRoot 0 = .ok (.iconst 2, 1) := by decide +kernel
theorem dX0_leastRoot_1 : decode cX0_leastRoot 1 = .ok (.istore_n 1, 1) := by decide +kernel
theorem dX0_leastRoot_2 : decode cX0_leastRoot 2 = .ok (.iload_n 1, 1) := by decide +kernel
theorem dX0_leastRoot_3 : decode cX0_leastRoot 3 = .ok (.aload_n 0, 1) := by decide +kernel
theorem dX0_leastRoot_4 : decode cX0_leastRoot 4 = .ok (.getfield 49, 3) := by decide +kernel
theorem dX0_leastRoot_7 : decode cX0_leastRoot 7 = .ok (.if_icmp .ge 19, 3) := by decide +kernel
theorem dX0_leastRoot_10 : decode cX0_leastRoot 10 = .ok (.aload_n 0, 1) := by decide +kernel
theorem dX0_leastRoot_11 : decode cX0_leastRoot 11 = .ok (.iload_n 1, 1) := by decide +kernel
theorem dX0_leastRoot_12 : decode cX0_leastRoot 12 = .ok (.invokevirtual 152, 3) := by decide +kernel
theorem dX0_leastRoot_15 : decode cX0_leastRoot 15 = .ok (.ifCond .eq 5, 3) := by decide +kernel
theorem dX0_leastRoot_18 : decode cX0_leastRoot 18 = .ok (.iload_n 1, 1) := by decide +kernel
theorem dX0_leastRoot_19 : decode cX0_leastRoot 19 = .ok (.ireturn, 1) := by decide +kernel
theorem dX0_leastRoot_20 : decode cX0_leastRoot 20 = .ok (.iinc 1 1, 3) := by decide +kernel
theorem dX0_leastRoot_23 : decode cX0_leastRoot 23 = .ok (.goto (-21), 3) := by decide +kernel
theorem dX0_leastRoot_26 : decode cX0_leastRoot 26 = .ok (.iconst 1, 1) := by decide +kernel
theorem dX0_leastRoot_27 : decode cX0_leastRoot 27 = .ok (.ireturn, 1) := by decide +kernel
theorem dX0_hasAllPowers_0 : decode cX0_hasAllPowers 0 = .ok (.iload_n 1, 1) := by decide +kernel
theorem dX0_hasAllPowers_1 : decode cX0_hasAllPowers 1 = .ok (.istore_n 2, 1) := by decide +kernel
theorem dX0_hasAllPowers_2 : decode cX0_hasAllPowers 2 = .ok (.iconst 1, 1) := by decide +kernel
theorem dX0_hasAllPowers_3 : decode cX0_hasAllPowers 3 = .ok (.istore_n 3, 1) := by decide +kernel
theorem dX0_hasAllPowers_4 : decode cX0_hasAllPowers 4 = .ok (.iload_n 3, 1) := by decide +kernel
theorem dX0_hasAllPowers_5 : decode cX0_hasAllPowers 5 = .ok (.aload_n 0, 1) := by decide +kernel
theorem dX0_hasAllPowers_6 : decode cX0_hasAllPowers 6 = .ok (.getfield 49, 3) := by decide +kernel
theorem dX0_hasAllPowers_9 : decode cX0_hasAllPowers 9 = .ok (.iconst 1, 1) := by decide +kernel
theorem dX0_hasAllPowers_10 : decode cX0_hasAllPowers 10 = .ok (.isub, 1) := by decide +kernel
theorem dX0_hasAllPowers_11 : decode cX0_hasAllPowers 11 = .ok (.if_icmp .ge 25, 3) := by decide +kernel
theorem dX0_hasAllPowers_14 : decode cX0_hasAllPowers 14 = .ok (.iload_n 2, 1) := by decide +kernel
theorem dX0_hasAllPowers_15 : decode cX0_hasAllPowers 15 = .ok (.iconst 1, 1) := by decide +kernel
theorem dX0_hasAllPowers_16 : decode cX0_hasAllPowers 16 = .ok (.if_icmp .ne 5, 3) := by decide +kernel
theorem dX0_hasAllPowers_19 : decode cX0_hasAllPowers 19 = .ok (.iconst 0, 1) := by decide +kernel
theorem dX0_hasAllPowers_20 : decode cX0_hasAllPowers 20 = .ok (.ireturn, 1) := by decide +kernel
theorem dX0_hasAllPowers_21 : decode cX0_hasAllPowers 21 = .ok (.iload_n 2, 1) := by decide +kernel
theorem dX0_hasAllPowers_22 : decode cX0_hasAllPowers 22 = .ok (.iload_n 1, 1) := by decide +kernel
theorem dX0_hasAllPowers_23 : decode cX0_hasAllPowers 23 = .ok (.imul, 1) := by decide +kernel
theorem dX0_hasAllPowers_24 : decode cX0_hasAllPowers 24 = .ok (.aload_n 0, 1) := by decide +kernel
theorem dX0_hasAllPowers_25 : decode cX0_hasAllPowers 25 = .ok (.getfield 49, 3) := by decide +kernel
theorem dX0_hasAllPowers_28 : decode cX0_hasAllPowers 28 = .ok (.irem, 1) := by decide +kernel
theorem dX0_hasAllPowers_29 : decode cX0_hasAllPowers 29 = .ok (.istore_n 2, 1) := by decide +kernel
theorem dX0_hasAllPowers_30 : decode cX0_hasAllPowers 30 = .ok (.iinc 3 1, 3) := by decide +kernel
theorem dX0_hasAllPowers_33 : decode cX0_hasAllPowers 33 = .ok (.goto (-29), 3) := by decide +kernel
theorem dX0_hasAllPowers_36 : decode cX0_hasAllPowers 36 = .ok (.iconst 1, 1) := by decide +kernel
theorem dX0_hasAllPowers_37 : decode cX0_hasAllPowers 37 = .ok (.ireturn, 1) := by decide +kernel
theorem dX0_sharesDivisor_0 : decode cX0_sharesDivisor 0 = .ok (.iconst 2, 1) := by decide +kernel
theorem dX0_sharesDivisor_1 : decode cX0_sharesDivisor 1 = .ok (.istore_n 2, 1) := by decide +kernel
theorem dX0_sharesDivisor_2 : decode cX0_sharesDivisor 2 = .ok (.iload_n 2, 1) := by decide +kernel
theorem dX0_sharesDivisor_3 : decode cX0_sharesDivisor 3 = .ok (.aload_n 0, 1) := by decide +kernel
theorem dX0_sharesDivisor_4 : decode cX0_sharesDivisor 4 = .ok (.getfield 74, 3) := by decide +kernel
theorem dX0_sharesDivisor_7 : decode cX0_sharesDivisor 7 = .ok (.if_icmp .gt 26, 3) := by decide +kernel
theorem dX0_sharesDivisor_10 : decode cX0_sharesDivisor 10 = .ok (.aload_n 0, 1) := by decide +kernel
theorem dX0_sharesDivisor_11 : decode cX0_sharesDivisor 11 = .ok (.getfield 74, 3) := by decide +kernel
theorem dX0_sharesDivisor_14 : decode cX0_sharesDivisor 14 = .ok (.iload_n 2, 1) := by decide +kernel
theorem dX0_sharesDivisor_15 : decode cX0_sharesDivisor 15 = .ok (.irem, 1) := by decide +kernel
theorem dX0_sharesDivisor_16 : decode cX0_sharesDivisor 16 = .ok (.ifCond .ne 11, 3) := by decide +kernel
theorem dX0_sharesDivisor_19 : decode cX0_sharesDivisor 19 = .ok (.iload_n 1, 1) := by decide +kernel
theorem dX0_sharesDivisor_20 : decode cX0_sharesDivisor 20 = .ok (.iload_n 2, 1) := by decide +kernel
theorem dX0_sharesDivisor_21 : decode cX0_sharesDivisor 21 = .ok (.irem, 1) := by decide +kernel
theorem dX0_sharesDivisor_22 : decode cX0_sharesDivisor 22 = .ok (.ifCond .ne 5, 3) := by decide +kernel
theorem dX0_sharesDivisor_25 : decode cX0_sharesDivisor 25 = .ok (.iconst 1, 1) := by decide +kernel
theorem dX0_sharesDivisor_26 : decode cX0_sharesDivisor 26 = .ok (.ireturn, 1) := by decide +kernel
theorem dX0_sharesDivisor_27 : decode cX0_sharesDivisor 27 = .ok (.iinc 2 1, 3) := by decide +kernel
theorem dX0_sharesDivisor_30 : decode cX0_sharesDivisor 30 = .ok (.goto (-28), 3) := by decide +kernel
theorem dX0_sharesDivisor_33 : decode cX0_sharesDivisor 33 = .ok (.iconst 0, 1) := by decide +kernel
theorem dX0_sharesDivisor_34 : decode cX0_sharesDivisor 34 = .ok (.ireturn, 1) := by decide +kernel
theorem dX0_isHold_0 : decode cX0_isHold 0 = .ok (.iload_n 0, 1) := by decide +kernel
theorem dX0_isHold_1 : decode cX0_isHold 1 = .ok (.ifCond .lt 13, 3) := by decide +kernel
theorem dX0_isHold_4 : decode cX0_isHold 4 = .ok (.iload_n 0, 1) := by decide +kernel
theorem dX0_isHold_5 : decode cX0_isHold 5 = .ok (.bipush 6, 2) := by decide +kernel
theorem dX0_isHold_7 : decode cX0_isHold 7 = .ok (.if_icmp .ge 7, 3) := by decide +kernel
theorem dX0_isHold_10 : decode cX0_isHold 10 = .ok (.iconst 1, 1) := by decide +kernel
theorem dX0_isHold_11 : decode cX0_isHold 11 = .ok (.goto 4, 3) := by decide +kernel
theorem dX0_isHold_14 : decode cX0_isHold 14 = .ok (.iconst 0, 1) := by decide +kernel
theorem dX0_isHold_15 : decode cX0_isHold 15 = .ok (.ireturn, 1) := by decide +kernel
theorem dX0_isClass_0 : decode cX0_isClass 0 = .ok (.iload_n 1, 1) := by decide +kernel
theorem dX0_isClass_1 : decode cX0_isClass 1 = .ok (.ifCond .lt 15, 3) := by decide +kernel
theorem dX0_isClass_4 : decode cX0_isClass 4 = .ok (.iload_n 1, 1) := by decide +kernel
theorem dX0_isClass_5 : decode cX0_isClass 5 = .ok (.aload_n 0, 1) := by decide +kernel
theorem dX0_isClass_6 : decode cX0_isClass 6 = .ok (.getfield 74, 3) := by decide +kernel
theorem dX0_isClass_9 : decode cX0_isClass 9 = .ok (.if_icmp .ge 7, 3) := by decide +kernel
theorem dX0_isClass_12 : decode cX0_isClass 12 = .ok (.iconst 1, 1) := by decide +kernel
theorem dX0_isClass_13 : decode cX0_isClass 13 = .ok (.goto 4, 3) := by decide +kernel
theorem dX0_isClass_16 : decode cX0_isClass 16 = .ok (.iconst 0, 1) := by decide +kernel
theorem dX0_isClass_17 : decode cX0_isClass 17 = .ok (.ireturn, 1) := by decide +kernel
theorem dX0_isSet_0 : decode cX0_isSet 0 = .ok (.iload_n 1, 1) := by decide +kernel
theorem dX0_isSet_1 : decode cX0_isSet 1 = .ok (.aload_n 0, 1) := by decide +kernel
theorem dX0_isSet_2 : decode cX0_isSet 2 = .ok (.getfield 74, 3) := by decide +kernel
theorem dX0_isSet_5 : decode cX0_isSet 5 = .ok (.iushr, 1) := by decide +kernel
theorem dX0_isSet_6 : decode cX0_isSet 6 = .ok (.ifCond .ne 7, 3) := by decide +kernel
theorem dX0_isSet_9 : decode cX0_isSet 9 = .ok (.iconst 1, 1) := by decide +kernel
theorem dX0_isSet_10 : decode cX0_isSet 10 = .ok (.goto 4, 3) := by decide +kernel
theorem dX0_isSet_13 : decode cX0_isSet 13 = .ok (.iconst 0, 1) := by decide +kernel
theorem dX0_isSet_14 : decode cX0_isSet 14 = .ok (.ireturn, 1) := by decide +kernel
theorem dX0_isSign_0 : decode cX0_isSign 0 = .ok (.iload_n 0, 1) := by decide +kernel
theorem dX0_isSign_1 : decode cX0_isSign 1 = .ok (.iconst 1, 1) := by decide +kernel
theorem dX0_isSign_2 : decode cX0_isSign 2 = .ok (.if_icmp .eq 8, 3) := by decide +kernel
theorem dX0_isSign_5 : decode cX0_isSign 5 = .ok (.iload_n 0, 1) := by decide +kernel
theorem dX0_isSign_6 : decode cX0_isSign 6 = .ok (.iconst (-1), 1) := by decide +kernel
theorem dX0_isSign_7 : decode cX0_isSign 7 = .ok (.if_icmp .ne 7, 3) := by decide +kernel
theorem dX0_isSign_10 : decode cX0_isSign 10 = .ok (.iconst 1, 1) := by decide +kernel
theorem dX0_isSign_11 : decode cX0_isSign 11 = .ok (.goto 4, 3) := by decide +kernel
theorem dX0_isSign_14 : decode cX0_isSign 14 = .ok (.iconst 0, 1) := by decide +kernel
theorem dX0_isSign_15 : decode cX0_isSign 15 = .ok (.ireturn, 1) := by decide +kernel
theorem dX0_classOf_0 : decode cX0_classOf 0 = .ok (.aload_n 0, 1) := by decide +kernel
theorem dX0_classOf_1 : decode cX0_classOf 1 = .ok (.getfield 9, 3) := by decide +kernel
theorem dX0_classOf_4 : decode cX0_classOf 4 = .ok (.iload_n 1, 1) := by decide +kernel
theorem dX0_classOf_5 : decode cX0_classOf 5 = .ok (.aload_n 0, 1) := by decide +kernel
theorem dX0_classOf_6 : decode cX0_classOf 6 = .ok (.getfield 49, 3) := by decide +kernel
theorem dX0_classOf_9 : decode cX0_classOf 9 = .ok (.irem, 1) := by decide +kernel
theorem dX0_classOf_10 : decode cX0_classOf 10 = .ok (.iaload, 1) := by decide +kernel
theorem dX0_classOf_11 : decode cX0_classOf 11 = .ok (.aload_n 0, 1) := by decide +kernel
theorem dX0_classOf_12 : decode cX0_classOf 12 = .ok (.getfield 74, 3) := by decide +kernel
theorem dX0_classOf_15 : decode cX0_classOf 15 = .ok (.irem, 1) := by decide +kernel
theorem dX0_classOf_16 : decode cX0_classOf 16 = .ok (.ireturn, 1) := by decide +kernel
set_option maxRecDepth 20000 in
theorem ggX0_add_J7_fill_d0a16 : GoodIn wsX0_add wsJ7_fill_d0a16 := goodIn_r _ [6] (by decide +kernel) (by decide +kernel)
set_option maxRecDepth 20000 in
theorem gX0_add_J7_fill_d0a16 : GoodIn wsX0_add (va_wsS RX0 77 yJ7_fill_d0a16 wsJ7_fill_d0a16) := goodIn_app (goodIn_of _ (by decide +kernel)) ggX0_add_J7_fill_d0a16
theorem dX0_add_0 : decode cX0_add 0 = .ok (.aload_n 0, 1) := by decide +kernel
theorem dX0_add_1 : decode cX0_add 1 = .ok (.getfield 27, 3) := by decide +kernel
theorem dX0_add_4 : decode cX0_add 4 = .ok (.lconst 0, 1) := by decide +kernel
theorem dX0_add_5 : decode cX0_add 5 = .ok (.invokestatic 77, 3) := by decide +kernel
theorem dX0_add_8 : decode cX0_add 8 = .ok (.iconst 0, 1) := by decide +kernel
theorem dX0_add_9 : decode cX0_add 9 = .ok (.istore 4, 2) := by decide +kernel
theorem dX0_add_11 : decode cX0_add 11 = .ok (.iload 4, 2) := by decide +kernel
theorem dX0_add_13 : decode cX0_add 13 = .ok (.aload_n 0, 1) := by decide +kernel
theorem dX0_add_14 : decode cX0_add 14 = .ok (.getfield 55, 3) := by decide +kernel
theorem dX0_add_17 : decode cX0_add 17 = .ok (.if_icmp .ge 30, 3) := by decide +kernel
theorem dX0_add_20 : decode cX0_add 20 = .ok (.aload_n 0, 1) := by decide +kernel
theorem dX0_add_21 : decode cX0_add 21 = .ok (.getfield 27, 3) := by decide +kernel
theorem dX0_add_24 : decode cX0_add 24 = .ok (.iload 4, 2) := by decide +kernel
theorem dX0_add_26 : decode cX0_add 26 = .ok (.aload_n 1, 1) := by decide +kernel
theorem dX0_add_27 : decode cX0_add 27 = .ok (.iload 4, 2) := by decide +kernel
theorem dX0_add_29 : decode cX0_add 29 = .ok (.iaload, 1) := by decide +kernel
theorem dX0_add_30 : decode cX0_add 30 = .ok (.i2l, 1) := by decide +kernel
theorem dX0_add_31 : decode cX0_add 31 = .ok (.iload_n 3, 1) := by decide +kernel
theorem dX0_add_32 : decode cX0_add 32 = .ok (.i2l, 1) := by decide +kernel
theorem dX0_add_33 : decode cX0_add 33 = .ok (.aload_n 2, 1) := by decide +kernel
theorem dX0_add_34 : decode cX0_add 34 = .ok (.iload 4, 2) := by decide +kernel
theorem dX0_add_36 : decode cX0_add 36 = .ok (.iaload, 1) := by decide +kernel
theorem dX0_add_37 : decode cX0_add 37 = .ok (.i2l, 1) := by decide +kernel
theorem dX0_add_38 : decode cX0_add 38 = .ok (.lmul, 1) := by decide +kernel
theorem dX0_add_39 : decode cX0_add 39 = .ok (.ladd, 1) := by decide +kernel
theorem dX0_add_40 : decode cX0_add 40 = .ok (.lastore, 1) := by decide +kernel
theorem dX0_add_41 : decode cX0_add 41 = .ok (.iinc 4 1, 3) := by decide +kernel
theorem dX0_add_44 : decode cX0_add 44 = .ok (.goto (-33), 3) := by decide +kernel
theorem dX0_add_47 : decode cX0_add 47 = .ok (.return_, 1) := by decide +kernel
set_option maxRecDepth 20000 in
theorem ggX0_multiply_J7_fill_d0a16 : GoodIn wsX0_multiply wsJ7_fill_d0a16 := goodIn_r _ [7] (by decide +kernel) (by decide +kernel)
set_option maxRecDepth 20000 in
theorem gX0_multiply_J7_fill_d0a16 : GoodIn wsX0_multiply (va_wsS RX0 77 yJ7_fill_d0a16 wsJ7_fill_d0a16) := goodIn_app (goodIn_of _ (by decide +kernel)) ggX0_multiply_J7_fill_d0a16
theorem dX0_multiply_0 : decode cX0_multiply 0 = .ok (.aload_n 0, 1) := by decide +kernel
theorem dX0_multiply_1 : decode cX0_multiply 1 = .ok (.getfield 27, 3) := by decide +kernel
theorem dX0_multiply_4 : decode cX0_multiply 4 = .ok (.lconst 0, 1) := by decide +kernel
theorem dX0_multiply_5 : decode cX0_multiply 5 = .ok (.invokestatic 77, 3) := by decide +kernel
theorem dX0_multiply_8 : decode cX0_multiply 8 = .ok (.iconst 0, 1) := by decide +kernel
theorem dX0_multiply_9 : decode cX0_multiply 9 = .ok (.istore 4, 2) := by decide +kernel
theorem dX0_multiply_11 : decode cX0_multiply 11 = .ok (.iload 4, 2) := by decide +kernel
theorem dX0_multiply_13 : decode cX0_multiply 13 = .ok (.aload_n 0, 1) := by decide +kernel
theorem dX0_multiply_14 : decode cX0_multiply 14 = .ok (.getfield 55, 3) := by decide +kernel
theorem dX0_multiply_17 : decode cX0_multiply 17 = .ok (.if_icmp .ge 58, 3) := by decide +kernel
theorem dX0_multiply_20 : decode cX0_multiply 20 = .ok (.iconst 0, 1) := by decide +kernel
theorem dX0_multiply_21 : decode cX0_multiply 21 = .ok (.istore 5, 2) := by decide +kernel
theorem dX0_multiply_23 : decode cX0_multiply 23 = .ok (.iload 5, 2) := by decide +kernel
theorem dX0_multiply_25 : decode cX0_multiply 25 = .ok (.aload_n 0, 1) := by decide +kernel
theorem dX0_multiply_26 : decode cX0_multiply 26 = .ok (.getfield 55, 3) := by decide +kernel
theorem dX0_multiply_29 : decode cX0_multiply 29 = .ok (.if_icmp .ge 40, 3) := by decide +kernel
theorem dX0_multiply_32 : decode cX0_multiply 32 = .ok (.aload_n 0, 1) := by decide +kernel
theorem dX0_multiply_33 : decode cX0_multiply 33 = .ok (.getfield 27, 3) := by decide +kernel
theorem dX0_multiply_36 : decode cX0_multiply 36 = .ok (.iload 4, 2) := by decide +kernel
theorem dX0_multiply_38 : decode cX0_multiply 38 = .ok (.iload 5, 2) := by decide +kernel
theorem dX0_multiply_40 : decode cX0_multiply 40 = .ok (.iload_n 3, 1) := by decide +kernel
theorem dX0_multiply_41 : decode cX0_multiply 41 = .ok (.imul, 1) := by decide +kernel
theorem dX0_multiply_42 : decode cX0_multiply 42 = .ok (.iadd, 1) := by decide +kernel
theorem dX0_multiply_43 : decode cX0_multiply 43 = .ok (.aload_n 0, 1) := by decide +kernel
theorem dX0_multiply_44 : decode cX0_multiply 44 = .ok (.getfield 74, 3) := by decide +kernel
theorem dX0_multiply_47 : decode cX0_multiply 47 = .ok (.irem, 1) := by decide +kernel
theorem dX0_multiply_48 : decode cX0_multiply 48 = .ok (.dup2, 1) := by decide +kernel
theorem dX0_multiply_49 : decode cX0_multiply 49 = .ok (.laload, 1) := by decide +kernel
theorem dX0_multiply_50 : decode cX0_multiply 50 = .ok (.aload_n 1, 1) := by decide +kernel
theorem dX0_multiply_51 : decode cX0_multiply 51 = .ok (.iload 4, 2) := by decide +kernel
theorem dX0_multiply_53 : decode cX0_multiply 53 = .ok (.iaload, 1) := by decide +kernel
theorem dX0_multiply_54 : decode cX0_multiply 54 = .ok (.i2l, 1) := by decide +kernel
theorem dX0_multiply_55 : decode cX0_multiply 55 = .ok (.aload_n 2, 1) := by decide +kernel
theorem dX0_multiply_56 : decode cX0_multiply 56 = .ok (.iload 5, 2) := by decide +kernel
theorem dX0_multiply_58 : decode cX0_multiply 58 = .ok (.iaload, 1) := by decide +kernel
theorem dX0_multiply_59 : decode cX0_multiply 59 = .ok (.i2l, 1) := by decide +kernel
theorem dX0_multiply_60 : decode cX0_multiply 60 = .ok (.lmul, 1) := by decide +kernel
theorem dX0_multiply_61 : decode cX0_multiply 61 = .ok (.ladd, 1) := by decide +kernel
theorem dX0_multiply_62 : decode cX0_multiply 62 = .ok (.lastore, 1) := by decide +kernel
theorem dX0_multiply_63 : decode cX0_multiply 63 = .ok (.iinc 5 1, 3) := by decide +kernel
theorem dX0_multiply_66 : decode cX0_multiply 66 = .ok (.goto (-43), 3) := by decide +kernel
theorem dX0_multiply_69 : decode cX0_multiply 69 = .ok (.iinc 4 1, 3) := by decide +kernel
theorem dX0_multiply_72 : decode cX0_multiply 72 = .ok (.goto (-61), 3) := by decide +kernel
theorem dX0_multiply_75 : decode cX0_multiply 75 = .ok (.return_, 1) := by decide +kernel
theorem dX0_reduce_0 : decode cX0_reduce 0 = .ok (.aload_n 0, 1) := by decide +kernel
theorem dX0_reduce_1 : decode cX0_reduce 1 = .ok (.getfield 74, 3) := by decide +kernel
theorem dX0_reduce_4 : decode cX0_reduce 4 = .ok (.iconst 1, 1) := by decide +kernel
theorem dX0_reduce_5 : decode cX0_reduce 5 = .ok (.isub, 1) := by decide +kernel
theorem dX0_reduce_6 : decode cX0_reduce 6 = .ok (.istore_n 1, 1) := by decide +kernel
theorem dX0_reduce_7 : decode cX0_reduce 7 = .ok (.iload_n 1, 1) := by decide +kernel
theorem dX0_reduce_8 : decode cX0_reduce 8 = .ok (.aload_n 0, 1) := by decide +kernel
theorem dX0_reduce_9 : decode cX0_reduce 9 = .ok (.getfield 55, 3) := by decide +kernel
theorem dX0_reduce_12 : decode cX0_reduce 12 = .ok (.if_icmp .lt 71, 3) := by decide +kernel
theorem dX0_reduce_15 : decode cX0_reduce 15 = .ok (.iconst 0, 1) := by decide +kernel
theorem dX0_reduce_16 : decode cX0_reduce 16 = .ok (.istore_n 2, 1) := by decide +kernel
theorem dX0_reduce_17 : decode cX0_reduce 17 = .ok (.iload_n 2, 1) := by decide +kernel
theorem dX0_reduce_18 : decode cX0_reduce 18 = .ok (.aload_n 0, 1) := by decide +kernel
theorem dX0_reduce_19 : decode cX0_reduce 19 = .ok (.getfield 55, 3) := by decide +kernel
theorem dX0_reduce_22 : decode cX0_reduce 22 = .ok (.if_icmp .ge 48, 3) := by decide +kernel
theorem dX0_reduce_25 : decode cX0_reduce 25 = .ok (.aload_n 0, 1) := by decide +kernel
theorem dX0_reduce_26 : decode cX0_reduce 26 = .ok (.getfield 27, 3) := by decide +kernel
theorem dX0_reduce_29 : decode cX0_reduce 29 = .ok (.iload_n 1, 1) := by decide +kernel
theorem dX0_reduce_30 : decode cX0_reduce 30 = .ok (.aload_n 0, 1) := by decide +kernel
theorem dX0_reduce_31 : decode cX0_reduce 31 = .ok (.getfield 55, 3) := by decide +kernel
theorem dX0_reduce_34 : decode cX0_reduce 34 = .ok (.isub, 1) := by decide +kernel
theorem dX0_reduce_35 : decode cX0_reduce 35 = .ok (.iload_n 2, 1) := by decide +kernel
theorem dX0_reduce_36 : decode cX0_reduce 36 = .ok (.iadd, 1) := by decide +kernel
theorem dX0_reduce_37 : decode cX0_reduce 37 = .ok (.dup2, 1) := by decide +kernel
theorem dX0_reduce_38 : decode cX0_reduce 38 = .ok (.laload, 1) := by decide +kernel
theorem dX0_reduce_39 : decode cX0_reduce 39 = .ok (.aload_n 0, 1) := by decide +kernel
theorem dX0_reduce_40 : decode cX0_reduce 40 = .ok (.getfield 27, 3) := by decide +kernel
theorem dX0_reduce_43 : decode cX0_reduce 43 = .ok (.iload_n 1, 1) := by decide +kernel
theorem dX0_reduce_44 : decode cX0_reduce 44 = .ok (.laload, 1) := by decide +kernel
theorem dX0_reduce_45 : decode cX0_reduce 45 = .ok (.getstatic 155, 3) := by decide +kernel
theorem dX0_reduce_48 : decode cX0_reduce 48 = .ok (.aload_n 0, 1) := by decide +kernel
theorem dX0_reduce_49 : decode cX0_reduce 49 = .ok (.getfield 74, 3) := by decide +kernel
theorem dX0_reduce_52 : decode cX0_reduce 52 = .ok (.iconst 1, 1) := by decide +kernel
theorem dX0_reduce_53 : decode cX0_reduce 53 = .ok (.isub, 1) := by decide +kernel
theorem dX0_reduce_54 : decode cX0_reduce 54 = .ok (.bipush 10, 2) := by decide +kernel
theorem dX0_reduce_56 : decode cX0_reduce 56 = .ok (.imul, 1) := by decide +kernel
theorem dX0_reduce_57 : decode cX0_reduce 57 = .ok (.iload_n 2, 1) := by decide +kernel
theorem dX0_reduce_58 : decode cX0_reduce 58 = .ok (.iadd, 1) := by decide +kernel
theorem dX0_reduce_59 : decode cX0_reduce 59 = .ok (.iaload, 1) := by decide +kernel
theorem dX0_reduce_60 : decode cX0_reduce 60 = .ok (.i2l, 1) := by decide +kernel
theorem dX0_reduce_61 : decode cX0_reduce 61 = .ok (.lmul, 1) := by decide +kernel
theorem dX0_reduce_62 : decode cX0_reduce 62 = .ok (.lsub, 1) := by decide +kernel
theorem dX0_reduce_63 : decode cX0_reduce 63 = .ok (.lastore, 1) := by decide +kernel
theorem dX0_reduce_64 : decode cX0_reduce 64 = .ok (.iinc 2 1, 3) := by decide +kernel
theorem dX0_reduce_67 : decode cX0_reduce 67 = .ok (.goto (-50), 3) := by decide +kernel
theorem dX0_reduce_70 : decode cX0_reduce 70 = .ok (.aload_n 0, 1) := by decide +kernel
theorem dX0_reduce_71 : decode cX0_reduce 71 = .ok (.getfield 27, 3) := by decide +kernel
theorem dX0_reduce_74 : decode cX0_reduce 74 = .ok (.iload_n 1, 1) := by decide +kernel
theorem dX0_reduce_75 : decode cX0_reduce 75 = .ok (.lconst 0, 1) := by decide +kernel
theorem dX0_reduce_76 : decode cX0_reduce 76 = .ok (.lastore, 1) := by decide +kernel
theorem dX0_reduce_77 : decode cX0_reduce 77 = .ok (.iinc 1 (-1), 3) := by decide +kernel
theorem dX0_reduce_80 : decode cX0_reduce 80 = .ok (.goto (-73), 3) := by decide +kernel
theorem dX0_reduce_83 : decode cX0_reduce 83 = .ok (.return_, 1) := by decide +kernel
set_option maxRecDepth 20000 in
theorem ggX0_store_X0_reduce : GoodIn wsX0_store wsX0_reduce := goodIn_r _ [10, 11, 1, 2, 12, 13, 14, 15, 16, 17, 18, 19, 20, 21, 22, 23, 24] (by decide +kernel) (by decide +kernel)
set_option maxRecDepth 20000 in
theorem gX0_store_X0_reduce : GoodIn wsX0_store (wsV RX0 99 RX0 yX0_reduce wsX0_reduce) := goodIn_app (goodIn_of _ (by decide +kernel)) ggX0_store_X0_reduce
theorem dX0_store_0 : decode cX0_store 0 = .ok (.aload_n 0, 1) := by decide +kernel
theorem dX0_store_1 : decode cX0_store 1 = .ok (.invokevirtual 99, 3) := by decide +kernel
theorem dX0_store_4 : decode cX0_store 4 = .ok (.iconst 0, 1) := by decide +kernel
theorem dX0_store_5 : decode cX0_store 5 = .ok (.istore_n 2, 1) := by decide +kernel
theorem dX0_store_6 : decode cX0_store 6 = .ok (.iload_n 2, 1) := by decide +kernel
theorem dX0_store_7 : decode cX0_store 7 = .ok (.aload_n 0, 1) := by decide +kernel
theorem dX0_store_8 : decode cX0_store 8 = .ok (.getfield 55, 3) := by decide +kernel
theorem dX0_store_11 : decode cX0_store 11 = .ok (.if_icmp .ge 38, 3) := by decide +kernel
theorem dX0_store_14 : decode cX0_store 14 = .ok (.aload_n 0, 1) := by decide +kernel
theorem dX0_store_15 : decode cX0_store 15 = .ok (.getfield 27, 3) := by decide +kernel
theorem dX0_store_18 : decode cX0_store 18 = .ok (.iload_n 2, 1) := by decide +kernel
theorem dX0_store_19 : decode cX0_store 19 = .ok (.laload, 1) := by decide +kernel
theorem dX0_store_20 : decode cX0_store 20 = .ok (.ldc2_w 158, 3) := by decide +kernel
theorem dX0_store_23 : decode cX0_store 23 = .ok (.lcmp, 1) := by decide +kernel
theorem dX0_store_24 : decode cX0_store 24 = .ok (.ifCond .lt 16, 3) := by decide +kernel
theorem dX0_store_27 : decode cX0_store 27 = .ok (.aload_n 0, 1) := by decide +kernel
theorem dX0_store_28 : decode cX0_store 28 = .ok (.getfield 27, 3) := by decide +kernel
theorem dX0_store_31 : decode cX0_store 31 = .ok (.iload_n 2, 1) := by decide +kernel
theorem dX0_store_32 : decode cX0_store 32 = .ok (.laload, 1) := by decide +kernel
theorem dX0_store_33 : decode cX0_store 33 = .ok (.ldc2_w 160, 3) := by decide +kernel
theorem dX0_store_36 : decode cX0_store 36 = .ok (.lcmp, 1) := by decide +kernel
theorem dX0_store_37 : decode cX0_store 37 = .ok (.ifCond .le 6, 3) := by decide +kernel
theorem dX0_store_40 : decode cX0_store 40 = .ok (.bipush (-5), 2) := by decide +kernel
theorem dX0_store_42 : decode cX0_store 42 = .ok (.ireturn, 1) := by decide +kernel
theorem dX0_store_43 : decode cX0_store 43 = .ok (.iinc 2 1, 3) := by decide +kernel
theorem dX0_store_46 : decode cX0_store 46 = .ok (.goto (-40), 3) := by decide +kernel
theorem dX0_store_49 : decode cX0_store 49 = .ok (.iconst 0, 1) := by decide +kernel
theorem dX0_store_50 : decode cX0_store 50 = .ok (.istore_n 2, 1) := by decide +kernel
theorem dX0_store_51 : decode cX0_store 51 = .ok (.iload_n 2, 1) := by decide +kernel
theorem dX0_store_52 : decode cX0_store 52 = .ok (.aload_n 0, 1) := by decide +kernel
theorem dX0_store_53 : decode cX0_store 53 = .ok (.getfield 55, 3) := by decide +kernel
theorem dX0_store_56 : decode cX0_store 56 = .ok (.if_icmp .ge 24, 3) := by decide +kernel
theorem dX0_store_59 : decode cX0_store 59 = .ok (.aload_n 0, 1) := by decide +kernel
theorem dX0_store_60 : decode cX0_store 60 = .ok (.getfield 24, 3) := by decide +kernel
theorem dX0_store_63 : decode cX0_store 63 = .ok (.iload_n 1, 1) := by decide +kernel
theorem dX0_store_64 : decode cX0_store 64 = .ok (.aaload, 1) := by decide +kernel
theorem dX0_store_65 : decode cX0_store 65 = .ok (.iload_n 2, 1) := by decide +kernel
theorem dX0_store_66 : decode cX0_store 66 = .ok (.aload_n 0, 1) := by decide +kernel
theorem dX0_store_67 : decode cX0_store 67 = .ok (.getfield 27, 3) := by decide +kernel
theorem dX0_store_70 : decode cX0_store 70 = .ok (.iload_n 2, 1) := by decide +kernel
theorem dX0_store_71 : decode cX0_store 71 = .ok (.laload, 1) := by decide +kernel
theorem dX0_store_72 : decode cX0_store 72 = .ok (.l2i, 1) := by decide +kernel
theorem dX0_store_73 : decode cX0_store 73 = .ok (.iastore, 1) := by decide +kernel
theorem dX0_store_74 : decode cX0_store 74 = .ok (.iinc 2 1, 3) := by decide +kernel
theorem dX0_store_77 : decode cX0_store 77 = .ok (.goto (-26), 3) := by decide +kernel
theorem dX0_store_80 : decode cX0_store 80 = .ok (.iconst 1, 1) := by decide +kernel
theorem dX0_store_81 : decode cX0_store 81 = .ok (.ireturn, 1) := by decide +kernel
theorem dX0_likePower_0 : decode cX0_likePower 0 = .ok (.iload_n 1, 1) := by decide +kernel
theorem dX0_likePower_1 : decode cX0_likePower 1 = .ok (.ifCond .ne 7, 3) := by decide +kernel
theorem dX0_likePower_4 : decode cX0_likePower 4 = .ok (.iconst 0, 1) := by decide +kernel
theorem dX0_likePower_5 : decode cX0_likePower 5 = .ok (.goto 26, 3) := by decide +kernel
theorem dX0_likePower_8 : decode cX0_likePower 8 = .ok (.aload_n 0, 1) := by decide +kernel
theorem dX0_likePower_9 : decode cX0_likePower 9 = .ok (.getfield 13, 3) := by decide +kernel
theorem dX0_likePower_12 : decode cX0_likePower 12 = .ok (.aload_n 0, 1) := by decide +kernel
theorem dX0_likePower_13 : decode cX0_likePower 13 = .ok (.getfield 9, 3) := by decide +kernel
theorem dX0_likePower_16 : decode cX0_likePower 16 = .ok (.iload_n 1, 1) := by decide +kernel
theorem dX0_likePower_17 : decode cX0_likePower 17 = .ok (.iaload, 1) := by decide +kernel
theorem dX0_likePower_18 : decode cX0_likePower 18 = .ok (.aload_n 0, 1) := by decide +kernel
theorem dX0_likePower_19 : decode cX0_likePower 19 = .ok (.getfield 74, 3) := by decide +kernel
theorem dX0_likePower_22 : decode cX0_likePower 22 = .ok (.imul, 1) := by decide +kernel
theorem dX0_likePower_23 : decode cX0_likePower 23 = .ok (.aload_n 0, 1) := by decide +kernel
theorem dX0_likePower_24 : decode cX0_likePower 24 = .ok (.getfield 49, 3) := by decide +kernel
theorem dX0_likePower_27 : decode cX0_likePower 27 = .ok (.iconst 1, 1) := by decide +kernel
theorem dX0_likePower_28 : decode cX0_likePower 28 = .ok (.isub, 1) := by decide +kernel
theorem dX0_likePower_29 : decode cX0_likePower 29 = .ok (.irem, 1) := by decide +kernel
theorem dX0_likePower_30 : decode cX0_likePower 30 = .ok (.iaload, 1) := by decide +kernel
theorem dX0_likePower_31 : decode cX0_likePower 31 = .ok (.ireturn, 1) := by decide +kernel
set_option maxRecDepth 20000 in
theorem ggX0_lengthened_X0_classOf : GoodIn wsX0_lengthened wsX0_classOf := goodIn_r _ [9, 10, 1, 2, 11, 12, 13, 14, 15, 16, 17, 18, 19, 20, 21, 22] (by decide +kernel) (by decide +kernel)
set_option maxRecDepth 20000 in
theorem gX0_lengthened_X0_classOf : GoodIn wsX0_lengthened (wsV RX0 64 RX0 yX0_classOf wsX0_classOf) := goodIn_app (goodIn_of _ (by decide +kernel)) ggX0_lengthened_X0_classOf
theorem dX0_lengthened_0 : decode cX0_lengthened 0 = .ok (.lconst 0, 1) := by decide +kernel
theorem dX0_lengthened_1 : decode cX0_lengthened 1 = .ok (.lstore 4, 2) := by decide +kernel
theorem dX0_lengthened_3 : decode cX0_lengthened 3 = .ok (.aload_n 0, 1) := by decide +kernel
theorem dX0_lengthened_4 : decode cX0_lengthened 4 = .ok (.getfield 49, 3) := by decide +kernel
theorem dX0_lengthened_7 : decode cX0_lengthened 7 = .ok (.iconst 1, 1) := by decide +kernel
theorem dX0_lengthened_8 : decode cX0_lengthened 8 = .ok (.isub, 1) := by decide +kernel
theorem dX0_lengthened_9 : decode cX0_lengthened 9 = .ok (.aload_n 0, 1) := by decide +kernel
theorem dX0_lengthened_10 : decode cX0_lengthened 10 = .ok (.getfield 74, 3) := by decide +kernel
theorem dX0_lengthened_13 : decode cX0_lengthened 13 = .ok (.idiv, 1) := by decide +kernel
theorem dX0_lengthened_14 : decode cX0_lengthened 14 = .ok (.istore 6, 2) := by decide +kernel
theorem dX0_lengthened_16 : decode cX0_lengthened 16 = .ok (.iconst 0, 1) := by decide +kernel
theorem dX0_lengthened_17 : decode cX0_lengthened 17 = .ok (.istore 7, 2) := by decide +kernel
theorem dX0_lengthened_19 : decode cX0_lengthened 19 = .ok (.iload 7, 2) := by decide +kernel
theorem dX0_lengthened_21 : decode cX0_lengthened 21 = .ok (.iload 6, 2) := by decide +kernel
theorem dX0_lengthened_23 : decode cX0_lengthened 23 = .ok (.if_icmp .ge 55, 3) := by decide +kernel
theorem dX0_lengthened_26 : decode cX0_lengthened 26 = .ok (.iload_n 3, 1) := by decide +kernel
theorem dX0_lengthened_27 : decode cX0_lengthened 27 = .ok (.aload_n 0, 1) := by decide +kernel
theorem dX0_lengthened_28 : decode cX0_lengthened 28 = .ok (.getfield 13, 3) := by decide +kernel
theorem dX0_lengthened_31 : decode cX0_lengthened 31 = .ok (.iload 7, 2) := by decide +kernel
theorem dX0_lengthened_33 : decode cX0_lengthened 33 = .ok (.aload_n 0, 1) := by decide +kernel
theorem dX0_lengthened_34 : decode cX0_lengthened 34 = .ok (.getfield 74, 3) := by decide +kernel
theorem dX0_lengthened_37 : decode cX0_lengthened 37 = .ok (.imul, 1) := by decide +kernel
theorem dX0_lengthened_38 : decode cX0_lengthened 38 = .ok (.iaload, 1) := by decide +kernel
theorem dX0_lengthened_39 : decode cX0_lengthened 39 = .ok (.isub, 1) := by decide +kernel
theorem dX0_lengthened_40 : decode cX0_lengthened 40 = .ok (.istore 8, 2) := by decide +kernel
theorem dX0_lengthened_42 : decode cX0_lengthened 42 = .ok (.lload 4, 2) := by decide +kernel
theorem dX0_lengthened_44 : decode cX0_lengthened 44 = .ok (.iload 8, 2) := by decide +kernel
theorem dX0_lengthened_46 : decode cX0_lengthened 46 = .ok (.ifCond .ne 7, 3) := by decide +kernel
theorem dX0_lengthened_49 : decode cX0_lengthened 49 = .ok (.lload_n 1, 1) := by decide +kernel
theorem dX0_lengthened_50 : decode cX0_lengthened 50 = .ok (.goto 19, 3) := by decide +kernel
theorem dX0_lengthened_53 : decode cX0_lengthened 53 = .ok (.aload_n 0, 1) := by decide +kernel
theorem dX0_lengthened_54 : decode cX0_lengthened 54 = .ok (.getfield 31, 3) := by decide +kernel
theorem dX0_lengthened_57 : decode cX0_lengthened 57 = .ok (.aload_n 0, 1) := by decide +kernel
theorem dX0_lengthened_58 : decode cX0_lengthened 58 = .ok (.iload 8, 2) := by decide +kernel
theorem dX0_lengthened_60 : decode cX0_lengthened 60 = .ok (.aload_n 0, 1) := by decide +kernel
theorem dX0_lengthened_61 : decode cX0_lengthened 61 = .ok (.getfield 49, 3) := by decide +kernel
theorem dX0_lengthened_64 : decode cX0_lengthened 64 = .ok (.iadd, 1) := by decide +kernel
theorem dX0_lengthened_65 : decode cX0_lengthened 65 = .ok (.invokevirtual 64, 3) := by decide +kernel
theorem dX0_lengthened_68 : decode cX0_lengthened 68 = .ok (.laload, 1) := by decide +kernel
theorem dX0_lengthened_69 : decode cX0_lengthened 69 = .ok (.ladd, 1) := by decide +kernel
theorem dX0_lengthened_70 : decode cX0_lengthened 70 = .ok (.lstore 4, 2) := by decide +kernel
theorem dX0_lengthened_72 : decode cX0_lengthened 72 = .ok (.iinc 7 1, 3) := by decide +kernel
theorem dX0_lengthened_75 : decode cX0_lengthened 75 = .ok (.goto (-56), 3) := by decide +kernel
theorem dX0_lengthened_78 : decode cX0_lengthened 78 = .ok (.lload 4, 2) := by decide +kernel
theorem dX0_lengthened_80 : decode cX0_lengthened 80 = .ok (.lreturn, 1) := by decide +kernel
set_option maxRecDepth 20000 in
theorem ggX0_fillSigns_X0_classOf : GoodIn wsX0_fillSigns wsX0_classOf := goodIn_r _ [7, 8, 2, 9, 10, 11, 12, 13, 14, 15, 16, 17, 18, 19, 20, 21] (by decide +kernel) (by decide +kernel)
set_option maxRecDepth 20000 in
theorem gX0_fillSigns_X0_classOf : GoodIn wsX0_fillSigns (wsV RX0 64 RX0 yX0_classOf wsX0_classOf) := goodIn_app (goodIn_of _ (by decide +kernel)) ggX0_fillSigns_X0_classOf
theorem dX0_fillSigns_0 : decode cX0_fillSigns 0 = .ok (.aload_n 0, 1) := by decide +kernel
theorem dX0_fillSigns_1 : decode cX0_fillSigns 1 = .ok (.getfield 16, 3) := by decide +kernel
theorem dX0_fillSigns_4 : decode cX0_fillSigns 4 = .ok (.iconst 0, 1) := by decide +kernel
theorem dX0_fillSigns_5 : decode cX0_fillSigns 5 = .ok (.iload_n 2, 1) := by decide +kernel
theorem dX0_fillSigns_6 : decode cX0_fillSigns 6 = .ok (.iastore, 1) := by decide +kernel
theorem dX0_fillSigns_7 : decode cX0_fillSigns 7 = .ok (.iconst 1, 1) := by decide +kernel
theorem dX0_fillSigns_8 : decode cX0_fillSigns 8 = .ok (.istore_n 3, 1) := by decide +kernel
theorem dX0_fillSigns_9 : decode cX0_fillSigns 9 = .ok (.iload_n 3, 1) := by decide +kernel
theorem dX0_fillSigns_10 : decode cX0_fillSigns 10 = .ok (.aload_n 0, 1) := by decide +kernel
theorem dX0_fillSigns_11 : decode cX0_fillSigns 11 = .ok (.getfield 49, 3) := by decide +kernel
theorem dX0_fillSigns_14 : decode cX0_fillSigns 14 = .ok (.if_icmp .ge 33, 3) := by decide +kernel
theorem dX0_fillSigns_17 : decode cX0_fillSigns 17 = .ok (.aload_n 0, 1) := by decide +kernel
theorem dX0_fillSigns_18 : decode cX0_fillSigns 18 = .ok (.getfield 16, 3) := by decide +kernel
theorem dX0_fillSigns_21 : decode cX0_fillSigns 21 = .ok (.iload_n 3, 1) := by decide +kernel
theorem dX0_fillSigns_22 : decode cX0_fillSigns 22 = .ok (.iload_n 1, 1) := by decide +kernel
theorem dX0_fillSigns_23 : decode cX0_fillSigns 23 = .ok (.aload_n 0, 1) := by decide +kernel
theorem dX0_fillSigns_24 : decode cX0_fillSigns 24 = .ok (.iload_n 3, 1) := by decide +kernel
theorem dX0_fillSigns_25 : decode cX0_fillSigns 25 = .ok (.invokevirtual 64, 3) := by decide +kernel
theorem dX0_fillSigns_28 : decode cX0_fillSigns 28 = .ok (.ishr, 1) := by decide +kernel
theorem dX0_fillSigns_29 : decode cX0_fillSigns 29 = .ok (.iconst 1, 1) := by decide +kernel
theorem dX0_fillSigns_30 : decode cX0_fillSigns 30 = .ok (.iand, 1) := by decide +kernel
theorem dX0_fillSigns_31 : decode cX0_fillSigns 31 = .ok (.iconst 1, 1) := by decide +kernel
theorem dX0_fillSigns_32 : decode cX0_fillSigns 32 = .ok (.if_icmp .ne 7, 3) := by decide +kernel
theorem dX0_fillSigns_35 : decode cX0_fillSigns 35 = .ok (.iconst 1, 1) := by decide +kernel
theorem dX0_fillSigns_36 : decode cX0_fillSigns 36 = .ok (.goto 4, 3) := by decide +kernel
theorem dX0_fillSigns_39 : decode cX0_fillSigns 39 = .ok (.iconst (-1), 1) := by decide +kernel
theorem dX0_fillSigns_40 : decode cX0_fillSigns 40 = .ok (.iastore, 1) := by decide +kernel
theorem dX0_fillSigns_41 : decode cX0_fillSigns 41 = .ok (.iinc 3 1, 3) := by decide +kernel
theorem dX0_fillSigns_44 : decode cX0_fillSigns 44 = .ok (.goto (-35), 3) := by decide +kernel
theorem dX0_fillSigns_47 : decode cX0_fillSigns 47 = .ok (.return_, 1) := by decide +kernel
theorem dX0_agreement_0 : decode cX0_agreement 0 = .ok (.iconst 0, 1) := by decide +kernel
theorem dX0_agreement_1 : decode cX0_agreement 1 = .ok (.istore_n 2, 1) := by decide +kernel
theorem dX0_agreement_2 : decode cX0_agreement 2 = .ok (.iconst 0, 1) := by decide +kernel
theorem dX0_agreement_3 : decode cX0_agreement 3 = .ok (.istore_n 3, 1) := by decide +kernel
theorem dX0_agreement_4 : decode cX0_agreement 4 = .ok (.iload_n 3, 1) := by decide +kernel
theorem dX0_agreement_5 : decode cX0_agreement 5 = .ok (.aload_n 0, 1) := by decide +kernel
theorem dX0_agreement_6 : decode cX0_agreement 6 = .ok (.getfield 49, 3) := by decide +kernel
theorem dX0_agreement_9 : decode cX0_agreement 9 = .ok (.if_icmp .ge 32, 3) := by decide +kernel
theorem dX0_agreement_12 : decode cX0_agreement 12 = .ok (.iload_n 2, 1) := by decide +kernel
theorem dX0_agreement_13 : decode cX0_agreement 13 = .ok (.aload_n 0, 1) := by decide +kernel
theorem dX0_agreement_14 : decode cX0_agreement 14 = .ok (.getfield 16, 3) := by decide +kernel
theorem dX0_agreement_17 : decode cX0_agreement 17 = .ok (.iload_n 3, 1) := by decide +kernel
theorem dX0_agreement_18 : decode cX0_agreement 18 = .ok (.iaload, 1) := by decide +kernel
theorem dX0_agreement_19 : decode cX0_agreement 19 = .ok (.aload_n 0, 1) := by decide +kernel
theorem dX0_agreement_20 : decode cX0_agreement 20 = .ok (.getfield 16, 3) := by decide +kernel
theorem dX0_agreement_23 : decode cX0_agreement 23 = .ok (.iload_n 3, 1) := by decide +kernel
theorem dX0_agreement_24 : decode cX0_agreement 24 = .ok (.iload_n 1, 1) := by decide +kernel
theorem dX0_agreement_25 : decode cX0_agreement 25 = .ok (.iadd, 1) := by decide +kernel
theorem dX0_agreement_26 : decode cX0_agreement 26 = .ok (.aload_n 0, 1) := by decide +kernel
theorem dX0_agreement_27 : decode cX0_agreement 27 = .ok (.getfield 49, 3) := by decide +kernel
theorem dX0_agreement_30 : decode cX0_agreement 30 = .ok (.irem, 1) := by decide +kernel
theorem dX0_agreement_31 : decode cX0_agreement 31 = .ok (.iaload, 1) := by decide +kernel
theorem dX0_agreement_32 : decode cX0_agreement 32 = .ok (.imul, 1) := by decide +kernel
theorem dX0_agreement_33 : decode cX0_agreement 33 = .ok (.iadd, 1) := by decide +kernel
theorem dX0_agreement_34 : decode cX0_agreement 34 = .ok (.istore_n 2, 1) := by decide +kernel
theorem dX0_agreement_35 : decode cX0_agreement 35 = .ok (.iinc 3 1, 3) := by decide +kernel
theorem dX0_agreement_38 : decode cX0_agreement 38 = .ok (.goto (-34), 3) := by decide +kernel
theorem dX0_agreement_41 : decode cX0_agreement 41 = .ok (.iload_n 2, 1) := by decide +kernel
theorem dX0_agreement_42 : decode cX0_agreement 42 = .ok (.ireturn, 1) := by decide +kernel
theorem dX0_differences_0 : decode cX0_differences 0 = .ok (.iconst 0, 1) := by decide +kernel
theorem dX0_differences_1 : decode cX0_differences 1 = .ok (.istore_n 2, 1) := by decide +kernel
theorem dX0_differences_2 : decode cX0_differences 2 = .ok (.iconst 0, 1) := by decide +kernel
theorem dX0_differences_3 : decode cX0_differences 3 = .ok (.istore_n 3, 1) := by decide +kernel
theorem dX0_differences_4 : decode cX0_differences 4 = .ok (.iload_n 3, 1) := by decide +kernel
theorem dX0_differences_5 : decode cX0_differences 5 = .ok (.aload_n 0, 1) := by decide +kernel
theorem dX0_differences_6 : decode cX0_differences 6 = .ok (.getfield 49, 3) := by decide +kernel
theorem dX0_differences_9 : decode cX0_differences 9 = .ok (.if_icmp .ge 39, 3) := by decide +kernel
theorem dX0_differences_12 : decode cX0_differences 12 = .ok (.aload_n 0, 1) := by decide +kernel
theorem dX0_differences_13 : decode cX0_differences 13 = .ok (.getfield 16, 3) := by decide +kernel
theorem dX0_differences_16 : decode cX0_differences 16 = .ok (.iload_n 3, 1) := by decide +kernel
theorem dX0_differences_17 : decode cX0_differences 17 = .ok (.iaload, 1) := by decide +kernel
theorem dX0_differences_18 : decode cX0_differences 18 = .ok (.iconst 1, 1) := by decide +kernel
theorem dX0_differences_19 : decode cX0_differences 19 = .ok (.if_icmp .ne 23, 3) := by decide +kernel
theorem dX0_differences_22 : decode cX0_differences 22 = .ok (.aload_n 0, 1) := by decide +kernel
theorem dX0_differences_23 : decode cX0_differences 23 = .ok (.getfield 16, 3) := by decide +kernel
theorem dX0_differences_26 : decode cX0_differences 26 = .ok (.iload_n 3, 1) := by decide +kernel
theorem dX0_differences_27 : decode cX0_differences 27 = .ok (.iload_n 1, 1) := by decide +kernel
theorem dX0_differences_28 : decode cX0_differences 28 = .ok (.iadd, 1) := by decide +kernel
theorem dX0_differences_29 : decode cX0_differences 29 = .ok (.aload_n 0, 1) := by decide +kernel
theorem dX0_differences_30 : decode cX0_differences 30 = .ok (.getfield 49, 3) := by decide +kernel
theorem dX0_differences_33 : decode cX0_differences 33 = .ok (.irem, 1) := by decide +kernel
theorem dX0_differences_34 : decode cX0_differences 34 = .ok (.iaload, 1) := by decide +kernel
theorem dX0_differences_35 : decode cX0_differences 35 = .ok (.iconst 1, 1) := by decide +kernel
theorem dX0_differences_36 : decode cX0_differences 36 = .ok (.if_icmp .ne 6, 3) := by decide +kernel
theorem dX0_differences_39 : decode cX0_differences 39 = .ok (.iinc 2 1, 3) := by decide +kernel
theorem dX0_differences_42 : decode cX0_differences 42 = .ok (.iinc 3 1, 3) := by decide +kernel
theorem dX0_differences_45 : decode cX0_differences 45 = .ok (.goto (-41), 3) := by decide +kernel
theorem dX0_differences_48 : decode cX0_differences 48 = .ok (.iload_n 2, 1) := by decide +kernel
theorem dX0_differences_49 : decode cX0_differences 49 = .ok (.ireturn, 1) := by decide +kernel
theorem dX0_classNumberBySums_0 : decode cX0_classNumberBySums 0 = .ok (.iconst 0, 1) := by decide +kernel
theorem dX0_classNumberBySums_1 : decode cX0_classNumberBySums 1 = .ok (.istore_n 1, 1) := by decide +kernel
theorem dX0_classNumberBySums_2 : decode cX0_classNumberBySums 2 = .ok (.iconst 1, 1) := by decide +kernel
theorem dX0_classNumberBySums_3 : decode cX0_classNumberBySums 3 = .ok (.istore_n 2, 1) := by decide +kernel
theorem dX0_classNumberBySums_4 : decode cX0_classNumberBySums 4 = .ok (.iload_n 2, 1) := by decide +kernel
theorem dX0_classNumberBySums_5 : decode cX0_classNumberBySums 5 = .ok (.aload_n 0, 1) := by decide +kernel
theorem dX0_classNumberBySums_6 : decode cX0_classNumberBySums 6 = .ok (.getfield 49, 3) := by decide +kernel
theorem dX0_classNumberBySums_9 : decode cX0_classNumberBySums 9 = .ok (.if_icmp .ge 29, 3) := by decide +kernel
theorem dX0_classNumberBySums_12 : decode cX0_classNumberBySums 12 = .ok (.iload_n 1, 1) := by decide +kernel
theorem dX0_classNumberBySums_13 : decode cX0_classNumberBySums 13 = .ok (.aload_n 0, 1) := by decide +kernel
theorem dX0_classNumberBySums_14 : decode cX0_classNumberBySums 14 = .ok (.getfield 9, 3) := by decide +kernel
theorem dX0_classNumberBySums_17 : decode cX0_classNumberBySums 17 = .ok (.iload_n 2, 1) := by decide +kernel
theorem dX0_classNumberBySums_18 : decode cX0_classNumberBySums 18 = .ok (.iaload, 1) := by decide +kernel
theorem dX0_classNumberBySums_19 : decode cX0_classNumberBySums 19 = .ok (.iconst 2, 1) := by decide +kernel
theorem dX0_classNumberBySums_20 : decode cX0_classNumberBySums 20 = .ok (.irem, 1) := by decide +kernel
theorem dX0_classNumberBySums_21 : decode cX0_classNumberBySums 21 = .ok (.ifCond .ne 7, 3) := by decide +kernel
theorem dX0_classNumberBySums_24 : decode cX0_classNumberBySums 24 = .ok (.iload_n 2, 1) := by decide +kernel
theorem dX0_classNumberBySums_25 : decode cX0_classNumberBySums 25 = .ok (.goto 5, 3) := by decide +kernel
theorem dX0_classNumberBySums_28 : decode cX0_classNumberBySums 28 = .ok (.iload_n 2, 1) := by decide +kernel
theorem dX0_classNumberBySums_29 : decode cX0_classNumberBySums 29 = .ok (.ineg, 1) := by decide +kernel
theorem dX0_classNumberBySums_30 : decode cX0_classNumberBySums 30 = .ok (.iadd, 1) := by decide +kernel
theorem dX0_classNumberBySums_31 : decode cX0_classNumberBySums 31 = .ok (.istore_n 1, 1) := by decide +kernel
theorem dX0_classNumberBySums_32 : decode cX0_classNumberBySums 32 = .ok (.iinc 2 1, 3) := by decide +kernel
theorem dX0_classNumberBySums_35 : decode cX0_classNumberBySums 35 = .ok (.goto (-31), 3) := by decide +kernel
theorem dX0_classNumberBySums_38 : decode cX0_classNumberBySums 38 = .ok (.iload_n 1, 1) := by decide +kernel
theorem dX0_classNumberBySums_39 : decode cX0_classNumberBySums 39 = .ok (.aload_n 0, 1) := by decide +kernel
theorem dX0_classNumberBySums_40 : decode cX0_classNumberBySums 40 = .ok (.getfield 49, 3) := by decide +kernel
theorem dX0_classNumberBySums_43 : decode cX0_classNumberBySums 43 = .ok (.ineg, 1) := by decide +kernel
theorem dX0_classNumberBySums_44 : decode cX0_classNumberBySums 44 = .ok (.idiv, 1) := by decide +kernel
theorem dX0_classNumberBySums_45 : decode cX0_classNumberBySums 45 = .ok (.ireturn, 1) := by decide +kernel
set_option maxRecDepth 20000 in
theorem ggX0_classNumberByForms_X0_isForm : GoodIn wsX0_classNumberByForms wsX0_isForm := goodIn_r _ [5, 6, 7, 8, 9, 10, 11, 12, 13, 14, 15, 16, 17, 18] (by decide +kernel) (by decide +kernel)
set_option maxRecDepth 20000 in
theorem gX0_classNumberByForms_X0_isForm : GoodIn wsX0_classNumberByForms (wsV RX0 162 RX0 yX0_isForm wsX0_isForm) := goodIn_app (goodIn_of _ (by decide +kernel)) ggX0_classNumberByForms_X0_isForm
theorem dX0_classNumberByForms_0 : decode cX0_classNumberByForms 0 = .ok (.iconst 0, 1) := by decide +kernel
theorem dX0_classNumberByForms_1 : decode cX0_classNumberByForms 1 = .ok (.istore_n 1, 1) := by decide +kernel
theorem dX0_classNumberByForms_2 : decode cX0_classNumberByForms 2 = .ok (.iconst 1, 1) := by decide +kernel
theorem dX0_classNumberByForms_3 : decode cX0_classNumberByForms 3 = .ok (.istore_n 2, 1) := by decide +kernel
theorem dX0_classNumberByForms_4 : decode cX0_classNumberByForms 4 = .ok (.iload_n 2, 1) := by decide +kernel
theorem dX0_classNumberByForms_5 : decode cX0_classNumberByForms 5 = .ok (.bipush 8, 2) := by decide +kernel
theorem dX0_classNumberByForms_7 : decode cX0_classNumberByForms 7 = .ok (.if_icmp .gt 35, 3) := by decide +kernel
theorem dX0_classNumberByForms_10 : decode cX0_classNumberByForms 10 = .ok (.iload_n 2, 1) := by decide +kernel
theorem dX0_classNumberByForms_11 : decode cX0_classNumberByForms 11 = .ok (.ineg, 1) := by decide +kernel
theorem dX0_classNumberByForms_12 : decode cX0_classNumberByForms 12 = .ok (.istore_n 3, 1) := by decide +kernel
theorem dX0_classNumberByForms_13 : decode cX0_classNumberByForms 13 = .ok (.iload_n 3, 1) := by decide +kernel
theorem dX0_classNumberByForms_14 : decode cX0_classNumberByForms 14 = .ok (.iload_n 2, 1) := by decide +kernel
theorem dX0_classNumberByForms_15 : decode cX0_classNumberByForms 15 = .ok (.if_icmp .gt 21, 3) := by decide +kernel
theorem dX0_classNumberByForms_18 : decode cX0_classNumberByForms 18 = .ok (.aload_n 0, 1) := by decide +kernel
theorem dX0_classNumberByForms_19 : decode cX0_classNumberByForms 19 = .ok (.iload_n 2, 1) := by decide +kernel
theorem dX0_classNumberByForms_20 : decode cX0_classNumberByForms 20 = .ok (.iload_n 3, 1) := by decide +kernel
theorem dX0_classNumberByForms_21 : decode cX0_classNumberByForms 21 = .ok (.invokevirtual 162, 3) := by decide +kernel
theorem dX0_classNumberByForms_24 : decode cX0_classNumberByForms 24 = .ok (.ifCond .eq 6, 3) := by decide +kernel
theorem dX0_classNumberByForms_27 : decode cX0_classNumberByForms 27 = .ok (.iinc 1 1, 3) := by decide +kernel
theorem dX0_classNumberByForms_30 : decode cX0_classNumberByForms 30 = .ok (.iinc 3 1, 3) := by decide +kernel
theorem dX0_classNumberByForms_33 : decode cX0_classNumberByForms 33 = .ok (.goto (-20), 3) := by decide +kernel
theorem dX0_classNumberByForms_36 : decode cX0_classNumberByForms 36 = .ok (.iinc 2 1, 3) := by decide +kernel
theorem dX0_classNumberByForms_39 : decode cX0_classNumberByForms 39 = .ok (.goto (-35), 3) := by decide +kernel
theorem dX0_classNumberByForms_42 : decode cX0_classNumberByForms 42 = .ok (.iload_n 1, 1) := by decide +kernel
theorem dX0_classNumberByForms_43 : decode cX0_classNumberByForms 43 = .ok (.ireturn, 1) := by decide +kernel
theorem dX0_isForm_0 : decode cX0_isForm 0 = .ok (.iload_n 2, 1) := by decide +kernel
theorem dX0_isForm_1 : decode cX0_isForm 1 = .ok (.iload_n 2, 1) := by decide +kernel
theorem dX0_isForm_2 : decode cX0_isForm 2 = .ok (.imul, 1) := by decide +kernel
theorem dX0_isForm_3 : decode cX0_isForm 3 = .ok (.aload_n 0, 1) := by decide +kernel
theorem dX0_isForm_4 : decode cX0_isForm 4 = .ok (.getfield 49, 3) := by decide +kernel
theorem dX0_isForm_7 : decode cX0_isForm 7 = .ok (.iadd, 1) := by decide +kernel
theorem dX0_isForm_8 : decode cX0_isForm 8 = .ok (.istore_n 3, 1) := by decide +kernel
theorem dX0_isForm_9 : decode cX0_isForm 9 = .ok (.iload_n 3, 1) := by decide +kernel
theorem dX0_isForm_10 : decode cX0_isForm 10 = .ok (.iconst 4, 1) := by decide +kernel
theorem dX0_isForm_11 : decode cX0_isForm 11 = .ok (.iload_n 1, 1) := by decide +kernel
theorem dX0_isForm_12 : decode cX0_isForm 12 = .ok (.imul, 1) := by decide +kernel
theorem dX0_isForm_13 : decode cX0_isForm 13 = .ok (.irem, 1) := by decide +kernel
theorem dX0_isForm_14 : decode cX0_isForm 14 = .ok (.ifCond .eq 5, 3) := by decide +kernel
theorem dX0_isForm_17 : decode cX0_isForm 17 = .ok (.iconst 0, 1) := by decide +kernel
theorem dX0_isForm_18 : decode cX0_isForm 18 = .ok (.ireturn, 1) := by decide +kernel
theorem dX0_isForm_19 : decode cX0_isForm 19 = .ok (.iload_n 3, 1) := by decide +kernel
theorem dX0_isForm_20 : decode cX0_isForm 20 = .ok (.iconst 4, 1) := by decide +kernel
theorem dX0_isForm_21 : decode cX0_isForm 21 = .ok (.iload_n 1, 1) := by decide +kernel
theorem dX0_isForm_22 : decode cX0_isForm 22 = .ok (.imul, 1) := by decide +kernel
theorem dX0_isForm_23 : decode cX0_isForm 23 = .ok (.idiv, 1) := by decide +kernel
theorem dX0_isForm_24 : decode cX0_isForm 24 = .ok (.istore 4, 2) := by decide +kernel
theorem dX0_isForm_26 : decode cX0_isForm 26 = .ok (.iload_n 2, 1) := by decide +kernel
theorem dX0_isForm_27 : decode cX0_isForm 27 = .ok (.iload_n 1, 1) := by decide +kernel
theorem dX0_isForm_28 : decode cX0_isForm 28 = .ok (.if_icmp .eq 15, 3) := by decide +kernel
theorem dX0_isForm_31 : decode cX0_isForm 31 = .ok (.iload_n 2, 1) := by decide +kernel
theorem dX0_isForm_32 : decode cX0_isForm 32 = .ok (.iload_n 1, 1) := by decide +kernel
theorem dX0_isForm_33 : decode cX0_isForm 33 = .ok (.ineg, 1) := by decide +kernel
theorem dX0_isForm_34 : decode cX0_isForm 34 = .ok (.if_icmp .eq 9, 3) := by decide +kernel
theorem dX0_isForm_37 : decode cX0_isForm 37 = .ok (.iload_n 1, 1) := by decide +kernel
theorem dX0_isForm_38 : decode cX0_isForm 38 = .ok (.iload 4, 2) := by decide +kernel
theorem dX0_isForm_40 : decode cX0_isForm 40 = .ok (.if_icmp .ne 7, 3) := by decide +kernel
theorem dX0_isForm_43 : decode cX0_isForm 43 = .ok (.iconst 1, 1) := by decide +kernel
theorem dX0_isForm_44 : decode cX0_isForm 44 = .ok (.goto 4, 3) := by decide +kernel
theorem dX0_isForm_47 : decode cX0_isForm 47 = .ok (.iconst 0, 1) := by decide +kernel
theorem dX0_isForm_48 : decode cX0_isForm 48 = .ok (.istore 5, 2) := by decide +kernel
theorem dX0_isForm_50 : decode cX0_isForm 50 = .ok (.iload_n 1, 1) := by decide +kernel
theorem dX0_isForm_51 : decode cX0_isForm 51 = .ok (.iload 4, 2) := by decide +kernel
theorem dX0_isForm_53 : decode cX0_isForm 53 = .ok (.if_icmp .gt 16, 3) := by decide +kernel
theorem dX0_isForm_56 : decode cX0_isForm 56 = .ok (.iload_n 2, 1) := by decide +kernel
theorem dX0_isForm_57 : decode cX0_isForm 57 = .ok (.ifCond .ge 8, 3) := by decide +kernel
theorem dX0_isForm_60 : decode cX0_isForm 60 = .ok (.iload 5, 2) := by decide +kernel
theorem dX0_isForm_62 : decode cX0_isForm 62 = .ok (.ifCond .ne 7, 3) := by decide +kernel
theorem dX0_isForm_65 : decode cX0_isForm 65 = .ok (.iconst 1, 1) := by decide +kernel
theorem dX0_isForm_66 : decode cX0_isForm 66 = .ok (.goto 4, 3) := by decide +kernel
theorem dX0_isForm_69 : decode cX0_isForm 69 = .ok (.iconst 0, 1) := by decide +kernel
theorem dX0_isForm_70 : decode cX0_isForm 70 = .ok (.ireturn, 1) := by decide +kernel
