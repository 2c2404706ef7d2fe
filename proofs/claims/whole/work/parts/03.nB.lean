set_option maxRecDepth 20000 in
theorem ggX1_init_X1_begin : GoodIn wsX1_init wsX1_begin := goodIn_r _ [17, 18, 19, 5, 20, 21, 22, 16, 23, 24, 25, 7, 8, 26, 27, 28, 29, 30, 31, 32, 33, 34, 35, 36, 37, 38, 39] (by decide +kernel) (by decide +kernel)
set_option maxRecDepth 20000 in
theorem gX1_init_X1_begin : GoodIn wsX1_init (wsV RX1 32 RX1 yX1_begin wsX1_begin) := goodIn_app (goodIn_of _ (by decide +kernel)) ggX1_init_X1_begin
theorem dX1_init_0 : decode cX1_init 0 = .ok (.aload_n 0, 1) := by decide +kernel
theorem dX1_init_1 : decode cX1_init 1 = .ok (.invokespecial 1, 3) := by decide +kernel
theorem dX1_init_4 : decode cX1_init 4 = .ok (.aload_n 0, 1) := by decide +kernel
theorem dX1_init_5 : decode cX1_init 5 = .ok (.sipush 200, 3) := by decide +kernel
theorem dX1_init_8 : decode cX1_init 8 = .ok (.newarray .int, 2) := by decide +kernel
theorem dX1_init_10 : decode cX1_init 10 = .ok (.putfield 7, 3) := by decide +kernel
theorem dX1_init_13 : decode cX1_init 13 = .ok (.aload_n 0, 1) := by decide +kernel
theorem dX1_init_14 : decode cX1_init 14 = .ok (.bipush 72, 2) := by decide +kernel
theorem dX1_init_16 : decode cX1_init 16 = .ok (.newarray .long, 2) := by decide +kernel
theorem dX1_init_18 : decode cX1_init 18 = .ok (.putfield 13, 3) := by decide +kernel
theorem dX1_init_21 : decode cX1_init 21 = .ok (.aload_n 0, 1) := by decide +kernel
theorem dX1_init_22 : decode cX1_init 22 = .ok (.bipush 13, 2) := by decide +kernel
theorem dX1_init_24 : decode cX1_init 24 = .ok (.newarray .int, 2) := by decide +kernel
theorem dX1_init_26 : decode cX1_init 26 = .ok (.putfield 17, 3) := by decide +kernel
theorem dX1_init_29 : decode cX1_init 29 = .ok (.aload_n 0, 1) := by decide +kernel
theorem dX1_init_30 : decode cX1_init 30 = .ok (.bipush 24, 2) := by decide +kernel
theorem dX1_init_32 : decode cX1_init 32 = .ok (.newarray .long, 2) := by decide +kernel
theorem dX1_init_34 : decode cX1_init 34 = .ok (.putfield 20, 3) := by decide +kernel
theorem dX1_init_37 : decode cX1_init 37 = .ok (.aload_n 0, 1) := by decide +kernel
theorem dX1_init_38 : decode cX1_init 38 = .ok (.bipush 24, 2) := by decide +kernel
theorem dX1_init_40 : decode cX1_init 40 = .ok (.newarray .long, 2) := by decide +kernel
theorem dX1_init_42 : decode cX1_init 42 = .ok (.putfield 23, 3) := by decide +kernel
theorem dX1_init_45 : decode cX1_init 45 = .ok (.aload_n 0, 1) := by decide +kernel
theorem dX1_init_46 : decode cX1_init 46 = .ok (.sipush 200, 3) := by decide +kernel
theorem dX1_init_49 : decode cX1_init 49 = .ok (.newarray .long, 2) := by decide +kernel
theorem dX1_init_51 : decode cX1_init 51 = .ok (.putfield 26, 3) := by decide +kernel
theorem dX1_init_54 : decode cX1_init 54 = .ok (.aload_n 0, 1) := by decide +kernel
theorem dX1_init_55 : decode cX1_init 55 = .ok (.sipush 200, 3) := by decide +kernel
theorem dX1_init_58 : decode cX1_init 58 = .ok (.newarray .long, 2) := by decide +kernel
theorem dX1_init_60 : decode cX1_init 60 = .ok (.putfield 29, 3) := by decide +kernel
theorem dX1_init_63 : decode cX1_init 63 = .ok (.aload_n 0, 1) := by decide +kernel
theorem dX1_init_64 : decode cX1_init 64 = .ok (.bipush 13, 2) := by decide +kernel
theorem dX1_init_66 : decode cX1_init 66 = .ok (.invokevirtual 32, 3) := by decide +kernel
theorem dX1_init_69 : decode cX1_init 69 = .ok (.return_, 1) := by decide +kernel
theorem dX1_in_0 : decode cX1_in 0 = .ok (.lload_n 0, 1) := by decide +kernel
theorem dX1_in_1 : decode cX1_in 1 = .ok (.lload_n 2, 1) := by decide +kernel
theorem dX1_in_2 : decode cX1_in 2 = .ok (.lcmp, 1) := by decide +kernel
theorem dX1_in_3 : decode cX1_in 3 = .ok (.ifCond .lt 14, 3) := by decide +kernel
theorem dX1_in_6 : decode cX1_in 6 = .ok (.lload_n 0, 1) := by decide +kernel
theorem dX1_in_7 : decode cX1_in 7 = .ok (.lload 4, 2) := by decide +kernel
theorem dX1_in_9 : decode cX1_in 9 = .ok (.lcmp, 1) := by decide +kernel
theorem dX1_in_10 : decode cX1_in 10 = .ok (.ifCond .gt 7, 3) := by decide +kernel
theorem dX1_in_13 : decode cX1_in 13 = .ok (.iconst 1, 1) := by decide +kernel
theorem dX1_in_14 : decode cX1_in 14 = .ok (.goto 4, 3) := by decide +kernel
theorem dX1_in_17 : decode cX1_in 17 = .ok (.iconst 0, 1) := by decide +kernel
theorem dX1_in_18 : decode cX1_in 18 = .ok (.ireturn, 1) := by decide +kernel
set_option maxRecDepth 20000 in
theorem ggX1_isHold_X1_in : GoodIn wsX1_isHold wsX1_in := goodIn_r _ [5] (by decide +kernel) (by decide +kernel)
set_option maxRecDepth 20000 in
theorem gX1_isHold_X1_in : GoodIn wsX1_isHold (va_wsS RX1 38 yX1_in wsX1_in) := goodIn_app (goodIn_of _ (by decide +kernel)) ggX1_isHold_X1_in
theorem dX1_isHold_0 : decode cX1_isHold 0 = .ok (.iload_n 0, 1) := by decide +kernel
theorem dX1_isHold_1 : decode cX1_isHold 1 = .ok (.i2l, 1) := by decide +kernel
theorem dX1_isHold_2 : decode cX1_isHold 2 = .ok (.lconst 0, 1) := by decide +kernel
theorem dX1_isHold_3 : decode cX1_isHold 3 = .ok (.ldc2_w 36, 3) := by decide +kernel
theorem dX1_isHold_6 : decode cX1_isHold 6 = .ok (.invokestatic 38, 3) := by decide +kernel
theorem dX1_isHold_9 : decode cX1_isHold 9 = .ok (.ireturn, 1) := by decide +kernel
theorem dX1_rem_0 : decode cX1_rem 0 = .ok (.lload_n 0, 1) := by decide +kernel
theorem dX1_rem_1 : decode cX1_rem 1 = .ok (.iload_n 2, 1) := by decide +kernel
theorem dX1_rem_2 : decode cX1_rem 2 = .ok (.i2l, 1) := by decide +kernel
theorem dX1_rem_3 : decode cX1_rem 3 = .ok (.lrem, 1) := by decide +kernel
theorem dX1_rem_4 : decode cX1_rem 4 = .ok (.l2i, 1) := by decide +kernel
theorem dX1_rem_5 : decode cX1_rem 5 = .ok (.istore_n 3, 1) := by decide +kernel
theorem dX1_rem_6 : decode cX1_rem 6 = .ok (.iload_n 3, 1) := by decide +kernel
theorem dX1_rem_7 : decode cX1_rem 7 = .ok (.ifCond .ge 9, 3) := by decide +kernel
theorem dX1_rem_10 : decode cX1_rem 10 = .ok (.iload_n 3, 1) := by decide +kernel
theorem dX1_rem_11 : decode cX1_rem 11 = .ok (.iload_n 2, 1) := by decide +kernel
theorem dX1_rem_12 : decode cX1_rem 12 = .ok (.iadd, 1) := by decide +kernel
theorem dX1_rem_13 : decode cX1_rem 13 = .ok (.goto 4, 3) := by decide +kernel
theorem dX1_rem_16 : decode cX1_rem 16 = .ok (.iload_n 3, 1) := by decide +kernel
theorem dX1_rem_17 : decode cX1_rem 17 = .ok (.ireturn, 1) := by decide +kernel
theorem dX1_isPrime_0 : decode cX1_isPrime 0 = .ok (.iload_n 0, 1) := by decide +kernel
theorem dX1_isPrime_1 : decode cX1_isPrime 1 = .ok (.iconst 2, 1) := by decide +kernel
theorem dX1_isPrime_2 : decode cX1_isPrime 2 = .ok (.if_icmp .le 14, 3) := by decide +kernel
theorem dX1_isPrime_5 : decode cX1_isPrime 5 = .ok (.iload_n 0, 1) := by decide +kernel
theorem dX1_isPrime_6 : decode cX1_isPrime 6 = .ok (.sipush 200, 3) := by decide +kernel
theorem dX1_isPrime_9 : decode cX1_isPrime 9 = .ok (.if_icmp .ge 7, 3) := by decide +kernel
theorem dX1_isPrime_12 : decode cX1_isPrime 12 = .ok (.iconst 1, 1) := by decide +kernel
theorem dX1_isPrime_13 : decode cX1_isPrime 13 = .ok (.goto 4, 3) := by decide +kernel
theorem dX1_isPrime_16 : decode cX1_isPrime 16 = .ok (.iconst 0, 1) := by decide +kernel
theorem dX1_isPrime_17 : decode cX1_isPrime 17 = .ok (.istore_n 1, 1) := by decide +kernel
theorem dX1_isPrime_18 : decode cX1_isPrime 18 = .ok (.iconst 2, 1) := by decide +kernel
theorem dX1_isPrime_19 : decode cX1_isPrime 19 = .ok (.istore_n 2, 1) := by decide +kernel
theorem dX1_isPrime_20 : decode cX1_isPrime 20 = .ok (.iload_n 2, 1) := by decide +kernel
theorem dX1_isPrime_21 : decode cX1_isPrime 21 = .ok (.iload_n 0, 1) := by decide +kernel
theorem dX1_isPrime_22 : decode cX1_isPrime 22 = .ok (.if_icmp .ge 25, 3) := by decide +kernel
theorem dX1_isPrime_25 : decode cX1_isPrime 25 = .ok (.iload_n 1, 1) := by decide +kernel
theorem dX1_isPrime_26 : decode cX1_isPrime 26 = .ok (.ifCond .eq 21, 3) := by decide +kernel
theorem dX1_isPrime_29 : decode cX1_isPrime 29 = .ok (.iload_n 0, 1) := by decide +kernel
theorem dX1_isPrime_30 : decode cX1_isPrime 30 = .ok (.iload_n 2, 1) := by decide +kernel
theorem dX1_isPrime_31 : decode cX1_isPrime 31 = .ok (.irem, 1) := by decide +kernel
theorem dX1_isPrime_32 : decode cX1_isPrime 32 = .ok (.ifCond .eq 7, 3) := by decide +kernel
theorem dX1_isPrime_35 : decode cX1_isPrime 35 = .ok (.iconst 1, 1) := by decide +kernel
theorem dX1_isPrime_36 : decode cX1_isPrime 36 = .ok (.goto 4, 3) := by decide +kernel
theorem dX1_isPrime_39 : decode cX1_isPrime 39 = .ok (.iconst 0, 1) := by decide +kernel
theorem dX1_isPrime_40 : decode cX1_isPrime 40 = .ok (.istore_n 1, 1) := by decide +kernel
theorem dX1_isPrime_41 : decode cX1_isPrime 41 = .ok (.iinc 2 1, 3) := by decide +kernel
theorem dX1_isPrime_44 : decode cX1_isPrime 44 = .ok (.goto (-24), 3) := by decide +kernel
theorem dX1_isPrime_47 : decode cX1_isPrime 47 = .ok (.iload_n 1, 1) := by decide +kernel
theorem dX1_isPrime_48 : decode cX1_isPrime 48 = .ok (.ireturn, 1) := by decide +kernel
set_option maxRecDepth 20000 in
theorem ggX1_begin_X1_setDegree : GoodIn wsX1_begin wsX1_setDegree := goodIn_r _ [8, 9, 10, 11, 12, 13, 14, 7, 15, 16, 17, 18, 19, 20, 21, 22, 23, 24, 25, 26] (by decide +kernel) (by decide +kernel)
set_option maxRecDepth 20000 in
theorem gX1_begin_X1_setDegree : GoodIn wsX1_begin (wsV RX1 49 RX1 yX1_setDegree wsX1_setDegree) := goodIn_app (goodIn_of _ (by decide +kernel)) ggX1_begin_X1_setDegree
theorem dX1_begin_0 : decode cX1_begin 0 = .ok (.aload_n 0, 1) := by decide +kernel
theorem dX1_begin_1 : decode cX1_begin 1 = .ok (.iload_n 1, 1) := by decide +kernel
theorem dX1_begin_2 : decode cX1_begin 2 = .ok (.putfield 42, 3) := by decide +kernel
theorem dX1_begin_5 : decode cX1_begin 5 = .ok (.aload_n 0, 1) := by decide +kernel
theorem dX1_begin_6 : decode cX1_begin 6 = .ok (.iconst 1, 1) := by decide +kernel
theorem dX1_begin_7 : decode cX1_begin 7 = .ok (.putfield 46, 3) := by decide +kernel
theorem dX1_begin_10 : decode cX1_begin 10 = .ok (.iconst 0, 1) := by decide +kernel
theorem dX1_begin_11 : decode cX1_begin 11 = .ok (.istore_n 2, 1) := by decide +kernel
theorem dX1_begin_12 : decode cX1_begin 12 = .ok (.iload_n 2, 1) := by decide +kernel
theorem dX1_begin_13 : decode cX1_begin 13 = .ok (.aload_n 0, 1) := by decide +kernel
theorem dX1_begin_14 : decode cX1_begin 14 = .ok (.getfield 42, 3) := by decide +kernel
theorem dX1_begin_17 : decode cX1_begin 17 = .ok (.iconst 1, 1) := by decide +kernel
theorem dX1_begin_18 : decode cX1_begin 18 = .ok (.isub, 1) := by decide +kernel
theorem dX1_begin_19 : decode cX1_begin 19 = .ok (.if_icmp .ge 77, 3) := by decide +kernel
theorem dX1_begin_22 : decode cX1_begin 22 = .ok (.aload_n 0, 1) := by decide +kernel
theorem dX1_begin_23 : decode cX1_begin 23 = .ok (.dup, 1) := by decide +kernel
theorem dX1_begin_24 : decode cX1_begin 24 = .ok (.getfield 46, 3) := by decide +kernel
theorem dX1_begin_27 : decode cX1_begin 27 = .ok (.iconst 1, 1) := by decide +kernel
theorem dX1_begin_28 : decode cX1_begin 28 = .ok (.iadd, 1) := by decide +kernel
theorem dX1_begin_29 : decode cX1_begin 29 = .ok (.putfield 46, 3) := by decide +kernel
theorem dX1_begin_32 : decode cX1_begin 32 = .ok (.iconst 0, 1) := by decide +kernel
theorem dX1_begin_33 : decode cX1_begin 33 = .ok (.istore_n 3, 1) := by decide +kernel
theorem dX1_begin_34 : decode cX1_begin 34 = .ok (.iload_n 3, 1) := by decide +kernel
theorem dX1_begin_35 : decode cX1_begin 35 = .ok (.sipush 200, 3) := by decide +kernel
theorem dX1_begin_38 : decode cX1_begin 38 = .ok (.if_icmp .ge 16, 3) := by decide +kernel
theorem dX1_begin_41 : decode cX1_begin 41 = .ok (.aload_n 0, 1) := by decide +kernel
theorem dX1_begin_42 : decode cX1_begin 42 = .ok (.getfield 7, 3) := by decide +kernel
theorem dX1_begin_45 : decode cX1_begin 45 = .ok (.iload_n 3, 1) := by decide +kernel
theorem dX1_begin_46 : decode cX1_begin 46 = .ok (.iconst (-1), 1) := by decide +kernel
theorem dX1_begin_47 : decode cX1_begin 47 = .ok (.iastore, 1) := by decide +kernel
theorem dX1_begin_48 : decode cX1_begin 48 = .ok (.iinc 3 1, 3) := by decide +kernel
theorem dX1_begin_51 : decode cX1_begin 51 = .ok (.goto (-17), 3) := by decide +kernel
theorem dX1_begin_54 : decode cX1_begin 54 = .ok (.iconst 0, 1) := by decide +kernel
theorem dX1_begin_55 : decode cX1_begin 55 = .ok (.istore_n 2, 1) := by decide +kernel
theorem dX1_begin_56 : decode cX1_begin 56 = .ok (.iconst 1, 1) := by decide +kernel
theorem dX1_begin_57 : decode cX1_begin 57 = .ok (.istore_n 3, 1) := by decide +kernel
theorem dX1_begin_58 : decode cX1_begin 58 = .ok (.aload_n 0, 1) := by decide +kernel
theorem dX1_begin_59 : decode cX1_begin 59 = .ok (.getfield 7, 3) := by decide +kernel
theorem dX1_begin_62 : decode cX1_begin 62 = .ok (.iload_n 3, 1) := by decide +kernel
theorem dX1_begin_63 : decode cX1_begin 63 = .ok (.iaload, 1) := by decide +kernel
theorem dX1_begin_64 : decode cX1_begin 64 = .ok (.iconst (-1), 1) := by decide +kernel
theorem dX1_begin_65 : decode cX1_begin 65 = .ok (.if_icmp .ne 28, 3) := by decide +kernel
theorem dX1_begin_68 : decode cX1_begin 68 = .ok (.aload_n 0, 1) := by decide +kernel
theorem dX1_begin_69 : decode cX1_begin 69 = .ok (.getfield 7, 3) := by decide +kernel
theorem dX1_begin_72 : decode cX1_begin 72 = .ok (.iload_n 3, 1) := by decide +kernel
theorem dX1_begin_73 : decode cX1_begin 73 = .ok (.iload_n 2, 1) := by decide +kernel
theorem dX1_begin_74 : decode cX1_begin 74 = .ok (.iastore, 1) := by decide +kernel
theorem dX1_begin_75 : decode cX1_begin 75 = .ok (.iinc 2 1, 3) := by decide +kernel
theorem dX1_begin_78 : decode cX1_begin 78 = .ok (.iload_n 3, 1) := by decide +kernel
theorem dX1_begin_79 : decode cX1_begin 79 = .ok (.aload_n 0, 1) := by decide +kernel
theorem dX1_begin_80 : decode cX1_begin 80 = .ok (.getfield 46, 3) := by decide +kernel
theorem dX1_begin_83 : decode cX1_begin 83 = .ok (.imul, 1) := by decide +kernel
theorem dX1_begin_84 : decode cX1_begin 84 = .ok (.aload_n 0, 1) := by decide +kernel
theorem dX1_begin_85 : decode cX1_begin 85 = .ok (.getfield 42, 3) := by decide +kernel
theorem dX1_begin_88 : decode cX1_begin 88 = .ok (.irem, 1) := by decide +kernel
theorem dX1_begin_89 : decode cX1_begin 89 = .ok (.istore_n 3, 1) := by decide +kernel
theorem dX1_begin_90 : decode cX1_begin 90 = .ok (.goto (-32), 3) := by decide +kernel
theorem dX1_begin_93 : decode cX1_begin 93 = .ok (.goto (-81), 3) := by decide +kernel
theorem dX1_begin_96 : decode cX1_begin 96 = .ok (.aload_n 0, 1) := by decide +kernel
theorem dX1_begin_97 : decode cX1_begin 97 = .ok (.iconst 2, 1) := by decide +kernel
theorem dX1_begin_98 : decode cX1_begin 98 = .ok (.invokevirtual 49, 3) := by decide +kernel
theorem dX1_begin_101 : decode cX1_begin 101 = .ok (.return_, 1) := by decide +kernel
theorem dX1_common_0 : decode cX1_common 0 = .ok (.iload_n 0, 1) := by decide +kernel
theorem dX1_common_1 : decode cX1_common 1 = .ok (.istore_n 2, 1) := by decide +kernel
theorem dX1_common_2 : decode cX1_common 2 = .ok (.iload_n 1, 1) := by decide +kernel
theorem dX1_common_3 : decode cX1_common 3 = .ok (.istore_n 3, 1) := by decide +kernel
theorem dX1_common_4 : decode cX1_common 4 = .ok (.iload_n 3, 1) := by decide +kernel
theorem dX1_common_5 : decode cX1_common 5 = .ok (.ifCond .eq 16, 3) := by decide +kernel
theorem dX1_common_8 : decode cX1_common 8 = .ok (.iload_n 2, 1) := by decide +kernel
theorem dX1_common_9 : decode cX1_common 9 = .ok (.iload_n 3, 1) := by decide +kernel
theorem dX1_common_10 : decode cX1_common 10 = .ok (.irem, 1) := by decide +kernel
theorem dX1_common_11 : decode cX1_common 11 = .ok (.istore 4, 2) := by decide +kernel
theorem dX1_common_13 : decode cX1_common 13 = .ok (.iload_n 3, 1) := by decide +kernel
theorem dX1_common_14 : decode cX1_common 14 = .ok (.istore_n 2, 1) := by decide +kernel
theorem dX1_common_15 : decode cX1_common 15 = .ok (.iload 4, 2) := by decide +kernel
theorem dX1_common_17 : decode cX1_common 17 = .ok (.istore_n 3, 1) := by decide +kernel
theorem dX1_common_18 : decode cX1_common 18 = .ok (.goto (-14), 3) := by decide +kernel
theorem dX1_common_21 : decode cX1_common 21 = .ok (.iload_n 2, 1) := by decide +kernel
theorem dX1_common_22 : decode cX1_common 22 = .ok (.ireturn, 1) := by decide +kernel
set_option maxRecDepth 20000 in
theorem ggX1_setDegree_X1_common : GoodIn wsX1_setDegree wsX1_common := goodIn_r _ [8] (by decide +kernel) (by decide +kernel)
set_option maxRecDepth 20000 in
theorem gX1_setDegree_X1_common : GoodIn wsX1_setDegree (va_wsS RX1 58 yX1_common wsX1_common) := goodIn_app (goodIn_of _ (by decide +kernel)) ggX1_setDegree_X1_common
theorem dX1_setDegree_0 : decode cX1_setDegree 0 = .ok (.aload_n 0, 1) := by decide +kernel
theorem dX1_setDegree_1 : decode cX1_setDegree 1 = .ok (.iload_n 1, 1) := by decide +kernel
theorem dX1_setDegree_2 : decode cX1_setDegree 2 = .ok (.putfield 52, 3) := by decide +kernel
theorem dX1_setDegree_5 : decode cX1_setDegree 5 = .ok (.aload_n 0, 1) := by decide +kernel
theorem dX1_setDegree_6 : decode cX1_setDegree 6 = .ok (.iconst 0, 1) := by decide +kernel
theorem dX1_setDegree_7 : decode cX1_setDegree 7 = .ok (.putfield 55, 3) := by decide +kernel
theorem dX1_setDegree_10 : decode cX1_setDegree 10 = .ok (.iconst 1, 1) := by decide +kernel
theorem dX1_setDegree_11 : decode cX1_setDegree 11 = .ok (.istore_n 2, 1) := by decide +kernel
theorem dX1_setDegree_12 : decode cX1_setDegree 12 = .ok (.iload_n 2, 1) := by decide +kernel
theorem dX1_setDegree_13 : decode cX1_setDegree 13 = .ok (.aload_n 0, 1) := by decide +kernel
theorem dX1_setDegree_14 : decode cX1_setDegree 14 = .ok (.getfield 52, 3) := by decide +kernel
theorem dX1_setDegree_17 : decode cX1_setDegree 17 = .ok (.if_icmp .gt 35, 3) := by decide +kernel
theorem dX1_setDegree_20 : decode cX1_setDegree 20 = .ok (.aload_n 0, 1) := by decide +kernel
theorem dX1_setDegree_21 : decode cX1_setDegree 21 = .ok (.dup, 1) := by decide +kernel
theorem dX1_setDegree_22 : decode cX1_setDegree 22 = .ok (.getfield 55, 3) := by decide +kernel
theorem dX1_setDegree_25 : decode cX1_setDegree 25 = .ok (.iload_n 2, 1) := by decide +kernel
theorem dX1_setDegree_26 : decode cX1_setDegree 26 = .ok (.aload_n 0, 1) := by decide +kernel
theorem dX1_setDegree_27 : decode cX1_setDegree 27 = .ok (.getfield 52, 3) := by decide +kernel
theorem dX1_setDegree_30 : decode cX1_setDegree 30 = .ok (.invokestatic 58, 3) := by decide +kernel
theorem dX1_setDegree_33 : decode cX1_setDegree 33 = .ok (.iconst 1, 1) := by decide +kernel
theorem dX1_setDegree_34 : decode cX1_setDegree 34 = .ok (.if_icmp .ne 7, 3) := by decide +kernel
theorem dX1_setDegree_37 : decode cX1_setDegree 37 = .ok (.iconst 1, 1) := by decide +kernel
theorem dX1_setDegree_38 : decode cX1_setDegree 38 = .ok (.goto 4, 3) := by decide +kernel
theorem dX1_setDegree_41 : decode cX1_setDegree 41 = .ok (.iconst 0, 1) := by decide +kernel
theorem dX1_setDegree_42 : decode cX1_setDegree 42 = .ok (.iadd, 1) := by decide +kernel
theorem dX1_setDegree_43 : decode cX1_setDegree 43 = .ok (.putfield 55, 3) := by decide +kernel
theorem dX1_setDegree_46 : decode cX1_setDegree 46 = .ok (.iinc 2 1, 3) := by decide +kernel
theorem dX1_setDegree_49 : decode cX1_setDegree 49 = .ok (.goto (-37), 3) := by decide +kernel
theorem dX1_setDegree_52 : decode cX1_setDegree 52 = .ok (.iconst 0, 1) := by decide +kernel
theorem dX1_setDegree_53 : decode cX1_setDegree 53 = .ok (.istore_n 2, 1) := by decide +kernel
theorem dX1_setDegree_54 : decode cX1_setDegree 54 = .ok (.iload_n 2, 1) := by decide +kernel
theorem dX1_setDegree_55 : decode cX1_setDegree 55 = .ok (.bipush 72, 2) := by decide +kernel
theorem dX1_setDegree_57 : decode cX1_setDegree 57 = .ok (.if_icmp .ge 16, 3) := by decide +kernel
theorem dX1_setDegree_60 : decode cX1_setDegree 60 = .ok (.aload_n 0, 1) := by decide +kernel
theorem dX1_setDegree_61 : decode cX1_setDegree 61 = .ok (.getfield 13, 3) := by decide +kernel
theorem dX1_setDegree_64 : decode cX1_setDegree 64 = .ok (.iload_n 2, 1) := by decide +kernel
theorem dX1_setDegree_65 : decode cX1_setDegree 65 = .ok (.lconst 0, 1) := by decide +kernel
theorem dX1_setDegree_66 : decode cX1_setDegree 66 = .ok (.lastore, 1) := by decide +kernel
theorem dX1_setDegree_67 : decode cX1_setDegree 67 = .ok (.iinc 2 1, 3) := by decide +kernel
theorem dX1_setDegree_70 : decode cX1_setDegree 70 = .ok (.goto (-16), 3) := by decide +kernel
theorem dX1_setDegree_73 : decode cX1_setDegree 73 = .ok (.iconst 0, 1) := by decide +kernel
theorem dX1_setDegree_74 : decode cX1_setDegree 74 = .ok (.istore_n 2, 1) := by decide +kernel
theorem dX1_setDegree_75 : decode cX1_setDegree 75 = .ok (.iload_n 2, 1) := by decide +kernel
theorem dX1_setDegree_76 : decode cX1_setDegree 76 = .ok (.bipush 13, 2) := by decide +kernel
theorem dX1_setDegree_78 : decode cX1_setDegree 78 = .ok (.if_icmp .ge 16, 3) := by decide +kernel
theorem dX1_setDegree_81 : decode cX1_setDegree 81 = .ok (.aload_n 0, 1) := by decide +kernel
theorem dX1_setDegree_82 : decode cX1_setDegree 82 = .ok (.getfield 17, 3) := by decide +kernel
theorem dX1_setDegree_85 : decode cX1_setDegree 85 = .ok (.iload_n 2, 1) := by decide +kernel
theorem dX1_setDegree_86 : decode cX1_setDegree 86 = .ok (.iconst 0, 1) := by decide +kernel
theorem dX1_setDegree_87 : decode cX1_setDegree 87 = .ok (.iastore, 1) := by decide +kernel
theorem dX1_setDegree_88 : decode cX1_setDegree 88 = .ok (.iinc 2 1, 3) := by decide +kernel
theorem dX1_setDegree_91 : decode cX1_setDegree 91 = .ok (.goto (-16), 3) := by decide +kernel
theorem dX1_setDegree_94 : decode cX1_setDegree 94 = .ok (.aload_n 0, 1) := by decide +kernel
theorem dX1_setDegree_95 : decode cX1_setDegree 95 = .ok (.getfield 52, 3) := by decide +kernel
theorem dX1_setDegree_98 : decode cX1_setDegree 98 = .ok (.iconst 1, 1) := by decide +kernel
theorem dX1_setDegree_99 : decode cX1_setDegree 99 = .ok (.if_icmp .ne 13, 3) := by decide +kernel
theorem dX1_setDegree_102 : decode cX1_setDegree 102 = .ok (.aload_n 0, 1) := by decide +kernel
theorem dX1_setDegree_103 : decode cX1_setDegree 103 = .ok (.getfield 17, 3) := by decide +kernel
theorem dX1_setDegree_106 : decode cX1_setDegree 106 = .ok (.iconst 0, 1) := by decide +kernel
theorem dX1_setDegree_107 : decode cX1_setDegree 107 = .ok (.iconst (-1), 1) := by decide +kernel
theorem dX1_setDegree_108 : decode cX1_setDegree 108 = .ok (.iastore, 1) := by decide +kernel
theorem dX1_setDegree_109 : decode cX1_setDegree 109 = .ok (.goto 183, 3) := by decide +kernel
theorem dX1_setDegree_112 : decode cX1_setDegree 112 = .ok (.aload_n 0, 1) := by decide +kernel
theorem dX1_setDegree_113 : decode cX1_setDegree 113 = .ok (.getfield 52, 3) := by decide +kernel
theorem dX1_setDegree_116 : decode cX1_setDegree 116 = .ok (.iconst 2, 1) := by decide +kernel
theorem dX1_setDegree_117 : decode cX1_setDegree 117 = .ok (.if_icmp .eq 20, 3) := by decide +kernel
theorem dX1_setDegree_120 : decode cX1_setDegree 120 = .ok (.aload_n 0, 1) := by decide +kernel
theorem dX1_setDegree_121 : decode cX1_setDegree 121 = .ok (.getfield 52, 3) := by decide +kernel
theorem dX1_setDegree_124 : decode cX1_setDegree 124 = .ok (.iconst 4, 1) := by decide +kernel
theorem dX1_setDegree_125 : decode cX1_setDegree 125 = .ok (.if_icmp .eq 12, 3) := by decide +kernel
theorem dX1_setDegree_128 : decode cX1_setDegree 128 = .ok (.aload_n 0, 1) := by decide +kernel
theorem dX1_setDegree_129 : decode cX1_setDegree 129 = .ok (.getfield 52, 3) := by decide +kernel
theorem dX1_setDegree_132 : decode cX1_setDegree 132 = .ok (.bipush 8, 2) := by decide +kernel
theorem dX1_setDegree_134 : decode cX1_setDegree 134 = .ok (.if_icmp .ne 13, 3) := by decide +kernel
theorem dX1_setDegree_137 : decode cX1_setDegree 137 = .ok (.aload_n 0, 1) := by decide +kernel
theorem dX1_setDegree_138 : decode cX1_setDegree 138 = .ok (.getfield 17, 3) := by decide +kernel
theorem dX1_setDegree_141 : decode cX1_setDegree 141 = .ok (.iconst 0, 1) := by decide +kernel
theorem dX1_setDegree_142 : decode cX1_setDegree 142 = .ok (.iconst 1, 1) := by decide +kernel
theorem dX1_setDegree_143 : decode cX1_setDegree 143 = .ok (.iastore, 1) := by decide +kernel
theorem dX1_setDegree_144 : decode cX1_setDegree 144 = .ok (.goto 148, 3) := by decide +kernel
theorem dX1_setDegree_147 : decode cX1_setDegree 147 = .ok (.aload_n 0, 1) := by decide +kernel
theorem dX1_setDegree_148 : decode cX1_setDegree 148 = .ok (.getfield 52, 3) := by decide +kernel
theorem dX1_setDegree_151 : decode cX1_setDegree 151 = .ok (.iconst 3, 1) := by decide +kernel
theorem dX1_setDegree_152 : decode cX1_setDegree 152 = .ok (.if_icmp .eq 29, 3) := by decide +kernel
theorem dX1_setDegree_155 : decode cX1_setDegree 155 = .ok (.aload_n 0, 1) := by decide +kernel
theorem dX1_setDegree_156 : decode cX1_setDegree 156 = .ok (.getfield 52, 3) := by decide +kernel
theorem dX1_setDegree_159 : decode cX1_setDegree 159 = .ok (.iconst 5, 1) := by decide +kernel
theorem dX1_setDegree_160 : decode cX1_setDegree 160 = .ok (.if_icmp .eq 21, 3) := by decide +kernel
theorem dX1_setDegree_163 : decode cX1_setDegree 163 = .ok (.aload_n 0, 1) := by decide +kernel
theorem dX1_setDegree_164 : decode cX1_setDegree 164 = .ok (.getfield 52, 3) := by decide +kernel
theorem dX1_setDegree_167 : decode cX1_setDegree 167 = .ok (.bipush 7, 2) := by decide +kernel
theorem dX1_setDegree_169 : decode cX1_setDegree 169 = .ok (.if_icmp .eq 12, 3) := by decide +kernel
theorem dX1_setDegree_172 : decode cX1_setDegree 172 = .ok (.aload_n 0, 1) := by decide +kernel
theorem dX1_setDegree_173 : decode cX1_setDegree 173 = .ok (.getfield 52, 3) := by decide +kernel
theorem dX1_setDegree_176 : decode cX1_setDegree 176 = .ok (.bipush 11, 2) := by decide +kernel
theorem dX1_setDegree_178 : decode cX1_setDegree 178 = .ok (.if_icmp .ne 29, 3) := by decide +kernel
theorem dX1_setDegree_181 : decode cX1_setDegree 181 = .ok (.iconst 0, 1) := by decide +kernel
theorem dX1_setDegree_182 : decode cX1_setDegree 182 = .ok (.istore_n 2, 1) := by decide +kernel
theorem dX1_setDegree_183 : decode cX1_setDegree 183 = .ok (.iload_n 2, 1) := by decide +kernel
theorem dX1_setDegree_184 : decode cX1_setDegree 184 = .ok (.aload_n 0, 1) := by decide +kernel
theorem dX1_setDegree_185 : decode cX1_setDegree 185 = .ok (.getfield 52, 3) := by decide +kernel
theorem dX1_setDegree_188 : decode cX1_setDegree 188 = .ok (.if_icmp .ge 16, 3) := by decide +kernel
theorem dX1_setDegree_191 : decode cX1_setDegree 191 = .ok (.aload_n 0, 1) := by decide +kernel
theorem dX1_setDegree_192 : decode cX1_setDegree 192 = .ok (.getfield 17, 3) := by decide +kernel
theorem dX1_setDegree_195 : decode cX1_setDegree 195 = .ok (.iload_n 2, 1) := by decide +kernel
theorem dX1_setDegree_196 : decode cX1_setDegree 196 = .ok (.iconst 1, 1) := by decide +kernel
theorem dX1_setDegree_197 : decode cX1_setDegree 197 = .ok (.iastore, 1) := by decide +kernel
theorem dX1_setDegree_198 : decode cX1_setDegree 198 = .ok (.iinc 2 1, 3) := by decide +kernel
theorem dX1_setDegree_201 : decode cX1_setDegree 201 = .ok (.goto (-18), 3) := by decide +kernel
theorem dX1_setDegree_204 : decode cX1_setDegree 204 = .ok (.goto 88, 3) := by decide +kernel
theorem dX1_setDegree_207 : decode cX1_setDegree 207 = .ok (.aload_n 0, 1) := by decide +kernel
theorem dX1_setDegree_208 : decode cX1_setDegree 208 = .ok (.getfield 52, 3) := by decide +kernel
theorem dX1_setDegree_211 : decode cX1_setDegree 211 = .ok (.bipush 9, 2) := by decide +kernel
theorem dX1_setDegree_213 : decode cX1_setDegree 213 = .ok (.if_icmp .ne 20, 3) := by decide +kernel
theorem dX1_setDegree_216 : decode cX1_setDegree 216 = .ok (.aload_n 0, 1) := by decide +kernel
theorem dX1_setDegree_217 : decode cX1_setDegree 217 = .ok (.getfield 17, 3) := by decide +kernel
theorem dX1_setDegree_220 : decode cX1_setDegree 220 = .ok (.iconst 0, 1) := by decide +kernel
theorem dX1_setDegree_221 : decode cX1_setDegree 221 = .ok (.iconst 1, 1) := by decide +kernel
theorem dX1_setDegree_222 : decode cX1_setDegree 222 = .ok (.iastore, 1) := by decide +kernel
theorem dX1_setDegree_223 : decode cX1_setDegree 223 = .ok (.aload_n 0, 1) := by decide +kernel
theorem dX1_setDegree_224 : decode cX1_setDegree 224 = .ok (.getfield 17, 3) := by decide +kernel
theorem dX1_setDegree_227 : decode cX1_setDegree 227 = .ok (.iconst 3, 1) := by decide +kernel
theorem dX1_setDegree_228 : decode cX1_setDegree 228 = .ok (.iconst 1, 1) := by decide +kernel
theorem dX1_setDegree_229 : decode cX1_setDegree 229 = .ok (.iastore, 1) := by decide +kernel
theorem dX1_setDegree_230 : decode cX1_setDegree 230 = .ok (.goto 62, 3) := by decide +kernel
theorem dX1_setDegree_233 : decode cX1_setDegree 233 = .ok (.aload_n 0, 1) := by decide +kernel
theorem dX1_setDegree_234 : decode cX1_setDegree 234 = .ok (.getfield 52, 3) := by decide +kernel
theorem dX1_setDegree_237 : decode cX1_setDegree 237 = .ok (.bipush 12, 2) := by decide +kernel
theorem dX1_setDegree_239 : decode cX1_setDegree 239 = .ok (.if_icmp .ne 20, 3) := by decide +kernel
theorem dX1_setDegree_242 : decode cX1_setDegree 242 = .ok (.aload_n 0, 1) := by decide +kernel
theorem dX1_setDegree_243 : decode cX1_setDegree 243 = .ok (.getfield 17, 3) := by decide +kernel
theorem dX1_setDegree_246 : decode cX1_setDegree 246 = .ok (.iconst 0, 1) := by decide +kernel
theorem dX1_setDegree_247 : decode cX1_setDegree 247 = .ok (.iconst 1, 1) := by decide +kernel
theorem dX1_setDegree_248 : decode cX1_setDegree 248 = .ok (.iastore, 1) := by decide +kernel
theorem dX1_setDegree_249 : decode cX1_setDegree 249 = .ok (.aload_n 0, 1) := by decide +kernel
theorem dX1_setDegree_250 : decode cX1_setDegree 250 = .ok (.getfield 17, 3) := by decide +kernel
theorem dX1_setDegree_253 : decode cX1_setDegree 253 = .ok (.iconst 2, 1) := by decide +kernel
theorem dX1_setDegree_254 : decode cX1_setDegree 254 = .ok (.iconst (-1), 1) := by decide +kernel
theorem dX1_setDegree_255 : decode cX1_setDegree 255 = .ok (.iastore, 1) := by decide +kernel
theorem dX1_setDegree_256 : decode cX1_setDegree 256 = .ok (.goto 36, 3) := by decide +kernel
theorem dX1_setDegree_259 : decode cX1_setDegree 259 = .ok (.iconst 0, 1) := by decide +kernel
theorem dX1_setDegree_260 : decode cX1_setDegree 260 = .ok (.istore_n 2, 1) := by decide +kernel
theorem dX1_setDegree_261 : decode cX1_setDegree 261 = .ok (.iload_n 2, 1) := by decide +kernel
theorem dX1_setDegree_262 : decode cX1_setDegree 262 = .ok (.aload_n 0, 1) := by decide +kernel
theorem dX1_setDegree_263 : decode cX1_setDegree 263 = .ok (.getfield 55, 3) := by decide +kernel
theorem dX1_setDegree_266 : decode cX1_setDegree 266 = .ok (.if_icmp .gt 26, 3) := by decide +kernel
theorem dX1_setDegree_269 : decode cX1_setDegree 269 = .ok (.aload_n 0, 1) := by decide +kernel
theorem dX1_setDegree_270 : decode cX1_setDegree 270 = .ok (.getfield 17, 3) := by decide +kernel
theorem dX1_setDegree_273 : decode cX1_setDegree 273 = .ok (.iload_n 2, 1) := by decide +kernel
theorem dX1_setDegree_274 : decode cX1_setDegree 274 = .ok (.iload_n 2, 1) := by decide +kernel
theorem dX1_setDegree_275 : decode cX1_setDegree 275 = .ok (.iconst 2, 1) := by decide +kernel
theorem dX1_setDegree_276 : decode cX1_setDegree 276 = .ok (.irem, 1) := by decide +kernel
theorem dX1_setDegree_277 : decode cX1_setDegree 277 = .ok (.ifCond .ne 7, 3) := by decide +kernel
theorem dX1_setDegree_280 : decode cX1_setDegree 280 = .ok (.iconst 1, 1) := by decide +kernel
theorem dX1_setDegree_281 : decode cX1_setDegree 281 = .ok (.goto 4, 3) := by decide +kernel
theorem dX1_setDegree_284 : decode cX1_setDegree 284 = .ok (.iconst (-1), 1) := by decide +kernel
theorem dX1_setDegree_285 : decode cX1_setDegree 285 = .ok (.iastore, 1) := by decide +kernel
theorem dX1_setDegree_286 : decode cX1_setDegree 286 = .ok (.iinc 2 1, 3) := by decide +kernel
theorem dX1_setDegree_289 : decode cX1_setDegree 289 = .ok (.goto (-28), 3) := by decide +kernel
theorem dX1_setDegree_292 : decode cX1_setDegree 292 = .ok (.aload_n 0, 1) := by decide +kernel
theorem dX1_setDegree_293 : decode cX1_setDegree 293 = .ok (.getfield 17, 3) := by decide +kernel
theorem dX1_setDegree_296 : decode cX1_setDegree 296 = .ok (.aload_n 0, 1) := by decide +kernel
theorem dX1_setDegree_297 : decode cX1_setDegree 297 = .ok (.getfield 55, 3) := by decide +kernel
theorem dX1_setDegree_300 : decode cX1_setDegree 300 = .ok (.iconst 1, 1) := by decide +kernel
theorem dX1_setDegree_301 : decode cX1_setDegree 301 = .ok (.iastore, 1) := by decide +kernel
theorem dX1_setDegree_302 : decode cX1_setDegree 302 = .ok (.return_, 1) := by decide +kernel
set_option maxRecDepth 20000 in
theorem ggX1_prime_X1_isPrime : GoodIn wsX1_prime wsX1_isPrime := goodIn_r _ [5] (by decide +kernel) (by decide +kernel)
set_option maxRecDepth 20000 in
theorem gX1_prime_X1_isPrime : GoodIn wsX1_prime (va_wsS RX1 62 yX1_isPrime wsX1_isPrime) := goodIn_app (goodIn_of _ (by decide +kernel)) ggX1_prime_X1_isPrime
set_option maxRecDepth 20000 in
theorem ggX1_prime_X1_begin : GoodIn wsX1_prime wsX1_begin := goodIn_r _ [9, 10, 1, 11, 12, 13, 14, 4, 15, 16, 17, 18, 19, 20, 21, 22, 23, 24, 25, 26, 27, 28, 29, 30, 31, 32, 33] (by decide +kernel) (by decide +kernel)
set_option maxRecDepth 20000 in
theorem gX1_prime_X1_begin : GoodIn wsX1_prime (wsV RX1 32 RX1 yX1_begin wsX1_begin) := goodIn_app (goodIn_of _ (by decide +kernel)) ggX1_prime_X1_begin
theorem dX1_prime_0 : decode cX1_prime 0 = .ok (.iload_n 1, 1) := by decide +kernel
theorem dX1_prime_1 : decode cX1_prime 1 = .ok (.invokestatic 62, 3) := by decide +kernel
theorem dX1_prime_4 : decode cX1_prime 4 = .ok (.ifCond .ne 6, 3) := by decide +kernel
theorem dX1_prime_7 : decode cX1_prime 7 = .ok (.bipush (-3), 2) := by decide +kernel
theorem dX1_prime_9 : decode cX1_prime 9 = .ok (.ireturn, 1) := by decide +kernel
theorem dX1_prime_10 : decode cX1_prime 10 = .ok (.aload_n 0, 1) := by decide +kernel
theorem dX1_prime_11 : decode cX1_prime 11 = .ok (.iload_n 1, 1) := by decide +kernel
theorem dX1_prime_12 : decode cX1_prime 12 = .ok (.invokevirtual 32, 3) := by decide +kernel
theorem dX1_prime_15 : decode cX1_prime 15 = .ok (.aload_n 0, 1) := by decide +kernel
theorem dX1_prime_16 : decode cX1_prime 16 = .ok (.getfield 46, 3) := by decide +kernel
theorem dX1_prime_19 : decode cX1_prime 19 = .ok (.ireturn, 1) := by decide +kernel
set_option maxRecDepth 20000 in
theorem ggX1_degree_X1_in : GoodIn wsX1_degree wsX1_in := goodIn_r _ [7] (by decide +kernel) (by decide +kernel)
set_option maxRecDepth 20000 in
theorem gX1_degree_X1_in : GoodIn wsX1_degree (va_wsS RX1 38 yX1_in wsX1_in) := goodIn_app (goodIn_of _ (by decide +kernel)) ggX1_degree_X1_in
set_option maxRecDepth 20000 in
theorem ggX1_degree_X1_setDegree : GoodIn wsX1_degree wsX1_setDegree := goodIn_r _ [11, 12, 3, 13, 14, 15, 16, 6, 17, 18, 19, 20, 21, 22, 23, 24, 25, 26, 27, 28] (by decide +kernel) (by decide +kernel)
set_option maxRecDepth 20000 in
theorem gX1_degree_X1_setDegree : GoodIn wsX1_degree (wsV RX1 49 RX1 yX1_setDegree wsX1_setDegree) := goodIn_app (goodIn_of _ (by decide +kernel)) ggX1_degree_X1_setDegree
theorem dX1_degree_0 : decode cX1_degree 0 = .ok (.iload_n 1, 1) := by decide +kernel
theorem dX1_degree_1 : decode cX1_degree 1 = .ok (.i2l, 1) := by decide +kernel
theorem dX1_degree_2 : decode cX1_degree 2 = .ok (.lconst 1, 1) := by decide +kernel
theorem dX1_degree_3 : decode cX1_degree 3 = .ok (.ldc2_w 66, 3) := by decide +kernel
theorem dX1_degree_6 : decode cX1_degree 6 = .ok (.invokestatic 38, 3) := by decide +kernel
theorem dX1_degree_9 : decode cX1_degree 9 = .ok (.ifCond .eq 14, 3) := by decide +kernel
theorem dX1_degree_12 : decode cX1_degree 12 = .ok (.aload_n 0, 1) := by decide +kernel
theorem dX1_degree_13 : decode cX1_degree 13 = .ok (.getfield 42, 3) := by decide +kernel
theorem dX1_degree_16 : decode cX1_degree 16 = .ok (.iconst 1, 1) := by decide +kernel
theorem dX1_degree_17 : decode cX1_degree 17 = .ok (.isub, 1) := by decide +kernel
theorem dX1_degree_18 : decode cX1_degree 18 = .ok (.iload_n 1, 1) := by decide +kernel
theorem dX1_degree_19 : decode cX1_degree 19 = .ok (.irem, 1) := by decide +kernel
theorem dX1_degree_20 : decode cX1_degree 20 = .ok (.ifCond .eq 6, 3) := by decide +kernel
theorem dX1_degree_23 : decode cX1_degree 23 = .ok (.bipush (-3), 2) := by decide +kernel
theorem dX1_degree_25 : decode cX1_degree 25 = .ok (.ireturn, 1) := by decide +kernel
theorem dX1_degree_26 : decode cX1_degree 26 = .ok (.aload_n 0, 1) := by decide +kernel
theorem dX1_degree_27 : decode cX1_degree 27 = .ok (.iload_n 1, 1) := by decide +kernel
theorem dX1_degree_28 : decode cX1_degree 28 = .ok (.invokevirtual 49, 3) := by decide +kernel
theorem dX1_degree_31 : decode cX1_degree 31 = .ok (.aload_n 0, 1) := by decide +kernel
theorem dX1_degree_32 : decode cX1_degree 32 = .ok (.getfield 55, 3) := by decide +kernel
theorem dX1_degree_35 : decode cX1_degree 35 = .ok (.ireturn, 1) := by decide +kernel
set_option maxRecDepth 20000 in
theorem ggX1_rest_X1_in : GoodIn wsX1_rest wsX1_in := goodIn_r _ [7] (by decide +kernel) (by decide +kernel)
set_option maxRecDepth 20000 in
theorem gX1_rest_X1_in : GoodIn wsX1_rest (va_wsS RX1 38 yX1_in wsX1_in) := goodIn_app (goodIn_of _ (by decide +kernel)) ggX1_rest_X1_in
set_option maxRecDepth 20000 in
theorem ggX1_rest_X1_rem : GoodIn wsX1_rest wsX1_rem := goodIn_r _ [10] (by decide +kernel) (by decide +kernel)
set_option maxRecDepth 20000 in
theorem gX1_rest_X1_rem : GoodIn wsX1_rest (va_wsS RX1 68 yX1_rem wsX1_rem) := goodIn_app (goodIn_of _ (by decide +kernel)) ggX1_rest_X1_rem
theorem dX1_rest_0 : decode cX1_rest 0 = .ok (.iload_n 2, 1) := by decide +kernel
theorem dX1_rest_1 : decode cX1_rest 1 = .ok (.i2l, 1) := by decide +kernel
theorem dX1_rest_2 : decode cX1_rest 2 = .ok (.lconst 0, 1) := by decide +kernel
theorem dX1_rest_3 : decode cX1_rest 3 = .ok (.lconst 1, 1) := by decide +kernel
theorem dX1_rest_4 : decode cX1_rest 4 = .ok (.invokestatic 38, 3) := by decide +kernel
theorem dX1_rest_7 : decode cX1_rest 7 = .ok (.ifCond .ne 6, 3) := by decide +kernel
theorem dX1_rest_10 : decode cX1_rest 10 = .ok (.bipush (-3), 2) := by decide +kernel
theorem dX1_rest_12 : decode cX1_rest 12 = .ok (.ireturn, 1) := by decide +kernel
theorem dX1_rest_13 : decode cX1_rest 13 = .ok (.iload_n 1, 1) := by decide +kernel
theorem dX1_rest_14 : decode cX1_rest 14 = .ok (.i2l, 1) := by decide +kernel
theorem dX1_rest_15 : decode cX1_rest 15 = .ok (.aload_n 0, 1) := by decide +kernel
theorem dX1_rest_16 : decode cX1_rest 16 = .ok (.getfield 42, 3) := by decide +kernel
theorem dX1_rest_19 : decode cX1_rest 19 = .ok (.invokestatic 68, 3) := by decide +kernel
theorem dX1_rest_22 : decode cX1_rest 22 = .ok (.istore_n 3, 1) := by decide +kernel
theorem dX1_rest_23 : decode cX1_rest 23 = .ok (.iload_n 3, 1) := by decide +kernel
theorem dX1_rest_24 : decode cX1_rest 24 = .ok (.ifCond .ne 7, 3) := by decide +kernel
theorem dX1_rest_27 : decode cX1_rest 27 = .ok (.iconst (-1), 1) := by decide +kernel
theorem dX1_rest_28 : decode cX1_rest 28 = .ok (.goto 27, 3) := by decide +kernel
theorem dX1_rest_31 : decode cX1_rest 31 = .ok (.iload_n 2, 1) := by decide +kernel
theorem dX1_rest_32 : decode cX1_rest 32 = .ok (.ifCond .ne 12, 3) := by decide +kernel
theorem dX1_rest_35 : decode cX1_rest 35 = .ok (.aload_n 0, 1) := by decide +kernel
theorem dX1_rest_36 : decode cX1_rest 36 = .ok (.getfield 7, 3) := by decide +kernel
theorem dX1_rest_39 : decode cX1_rest 39 = .ok (.iload_n 3, 1) := by decide +kernel
theorem dX1_rest_40 : decode cX1_rest 40 = .ok (.iaload, 1) := by decide +kernel
theorem dX1_rest_41 : decode cX1_rest 41 = .ok (.goto 14, 3) := by decide +kernel
theorem dX1_rest_44 : decode cX1_rest 44 = .ok (.aload_n 0, 1) := by decide +kernel
theorem dX1_rest_45 : decode cX1_rest 45 = .ok (.getfield 7, 3) := by decide +kernel
theorem dX1_rest_48 : decode cX1_rest 48 = .ok (.iload_n 3, 1) := by decide +kernel
theorem dX1_rest_49 : decode cX1_rest 49 = .ok (.iaload, 1) := by decide +kernel
theorem dX1_rest_50 : decode cX1_rest 50 = .ok (.aload_n 0, 1) := by decide +kernel
theorem dX1_rest_51 : decode cX1_rest 51 = .ok (.getfield 52, 3) := by decide +kernel
theorem dX1_rest_54 : decode cX1_rest 54 = .ok (.irem, 1) := by decide +kernel
theorem dX1_rest_55 : decode cX1_rest 55 = .ok (.ireturn, 1) := by decide +kernel
theorem dX1_classOf_0 : decode cX1_classOf 0 = .ok (.aload_n 0, 1) := by decide +kernel
theorem dX1_classOf_1 : decode cX1_classOf 1 = .ok (.getfield 7, 3) := by decide +kernel
theorem dX1_classOf_4 : decode cX1_classOf 4 = .ok (.iload_n 1, 1) := by decide +kernel
theorem dX1_classOf_5 : decode cX1_classOf 5 = .ok (.iaload, 1) := by decide +kernel
theorem dX1_classOf_6 : decode cX1_classOf 6 = .ok (.aload_n 0, 1) := by decide +kernel
theorem dX1_classOf_7 : decode cX1_classOf 7 = .ok (.getfield 52, 3) := by decide +kernel
theorem dX1_classOf_10 : decode cX1_classOf 10 = .ok (.irem, 1) := by decide +kernel
theorem dX1_classOf_11 : decode cX1_classOf 11 = .ok (.ireturn, 1) := by decide +kernel
set_option maxRecDepth 20000 in
theorem ggX1_meeting_X1_in : GoodIn wsX1_meeting wsX1_in := goodIn_r _ [6] (by decide +kernel) (by decide +kernel)
set_option maxRecDepth 20000 in
theorem gX1_meeting_X1_in : GoodIn wsX1_meeting (va_wsS RX1 38 yX1_in wsX1_in) := goodIn_app (goodIn_of _ (by decide +kernel)) ggX1_meeting_X1_in
set_option maxRecDepth 20000 in
theorem ggX1_meeting_X1_classOf : GoodIn wsX1_meeting wsX1_classOf := goodIn_r _ [10, 11, 1, 12, 13, 14, 15, 16, 17, 18, 19, 20, 21, 22] (by decide +kernel) (by decide +kernel)
set_option maxRecDepth 20000 in
theorem gX1_meeting_X1_classOf : GoodIn wsX1_meeting (wsV RX1 72 RX1 yX1_classOf wsX1_classOf) := goodIn_app (goodIn_of _ (by decide +kernel)) ggX1_meeting_X1_classOf
theorem dX1_meeting_0 : decode cX1_meeting 0 = .ok (.iload_n 1, 1) := by decide +kernel
theorem dX1_meeting_1 : decode cX1_meeting 1 = .ok (.i2l, 1) := by decide +kernel
theorem dX1_meeting_2 : decode cX1_meeting 2 = .ok (.lconst 0, 1) := by decide +kernel
theorem dX1_meeting_3 : decode cX1_meeting 3 = .ok (.aload_n 0, 1) := by decide +kernel
theorem dX1_meeting_4 : decode cX1_meeting 4 = .ok (.getfield 52, 3) := by decide +kernel
theorem dX1_meeting_7 : decode cX1_meeting 7 = .ok (.iconst 1, 1) := by decide +kernel
theorem dX1_meeting_8 : decode cX1_meeting 8 = .ok (.isub, 1) := by decide +kernel
theorem dX1_meeting_9 : decode cX1_meeting 9 = .ok (.i2l, 1) := by decide +kernel
theorem dX1_meeting_10 : decode cX1_meeting 10 = .ok (.invokestatic 38, 3) := by decide +kernel
theorem dX1_meeting_13 : decode cX1_meeting 13 = .ok (.ifCond .eq 19, 3) := by decide +kernel
theorem dX1_meeting_16 : decode cX1_meeting 16 = .ok (.iload_n 2, 1) := by decide +kernel
theorem dX1_meeting_17 : decode cX1_meeting 17 = .ok (.i2l, 1) := by decide +kernel
theorem dX1_meeting_18 : decode cX1_meeting 18 = .ok (.lconst 0, 1) := by decide +kernel
theorem dX1_meeting_19 : decode cX1_meeting 19 = .ok (.aload_n 0, 1) := by decide +kernel
theorem dX1_meeting_20 : decode cX1_meeting 20 = .ok (.getfield 52, 3) := by decide +kernel
theorem dX1_meeting_23 : decode cX1_meeting 23 = .ok (.iconst 1, 1) := by decide +kernel
theorem dX1_meeting_24 : decode cX1_meeting 24 = .ok (.isub, 1) := by decide +kernel
theorem dX1_meeting_25 : decode cX1_meeting 25 = .ok (.i2l, 1) := by decide +kernel
theorem dX1_meeting_26 : decode cX1_meeting 26 = .ok (.invokestatic 38, 3) := by decide +kernel
theorem dX1_meeting_29 : decode cX1_meeting 29 = .ok (.ifCond .ne 6, 3) := by decide +kernel
theorem dX1_meeting_32 : decode cX1_meeting 32 = .ok (.bipush (-2), 2) := by decide +kernel
theorem dX1_meeting_34 : decode cX1_meeting 34 = .ok (.ireturn, 1) := by decide +kernel
theorem dX1_meeting_35 : decode cX1_meeting 35 = .ok (.iconst 0, 1) := by decide +kernel
theorem dX1_meeting_36 : decode cX1_meeting 36 = .ok (.istore_n 3, 1) := by decide +kernel
theorem dX1_meeting_37 : decode cX1_meeting 37 = .ok (.iconst 1, 1) := by decide +kernel
theorem dX1_meeting_38 : decode cX1_meeting 38 = .ok (.istore 4, 2) := by decide +kernel
theorem dX1_meeting_40 : decode cX1_meeting 40 = .ok (.iload 4, 2) := by decide +kernel
theorem dX1_meeting_42 : decode cX1_meeting 42 = .ok (.aload_n 0, 1) := by decide +kernel
theorem dX1_meeting_43 : decode cX1_meeting 43 = .ok (.getfield 42, 3) := by decide +kernel
theorem dX1_meeting_46 : decode cX1_meeting 46 = .ok (.iconst 1, 1) := by decide +kernel
theorem dX1_meeting_47 : decode cX1_meeting 47 = .ok (.isub, 1) := by decide +kernel
theorem dX1_meeting_48 : decode cX1_meeting 48 = .ok (.if_icmp .ge 39, 3) := by decide +kernel
theorem dX1_meeting_51 : decode cX1_meeting 51 = .ok (.iload_n 3, 1) := by decide +kernel
theorem dX1_meeting_52 : decode cX1_meeting 52 = .ok (.aload_n 0, 1) := by decide +kernel
theorem dX1_meeting_53 : decode cX1_meeting 53 = .ok (.iload 4, 2) := by decide +kernel
theorem dX1_meeting_55 : decode cX1_meeting 55 = .ok (.invokevirtual 72, 3) := by decide +kernel
theorem dX1_meeting_58 : decode cX1_meeting 58 = .ok (.iload_n 1, 1) := by decide +kernel
theorem dX1_meeting_59 : decode cX1_meeting 59 = .ok (.if_icmp .ne 19, 3) := by decide +kernel
theorem dX1_meeting_62 : decode cX1_meeting 62 = .ok (.aload_n 0, 1) := by decide +kernel
theorem dX1_meeting_63 : decode cX1_meeting 63 = .ok (.iload 4, 2) := by decide +kernel
theorem dX1_meeting_65 : decode cX1_meeting 65 = .ok (.iconst 1, 1) := by decide +kernel
theorem dX1_meeting_66 : decode cX1_meeting 66 = .ok (.iadd, 1) := by decide +kernel
theorem dX1_meeting_67 : decode cX1_meeting 67 = .ok (.invokevirtual 72, 3) := by decide +kernel
theorem dX1_meeting_70 : decode cX1_meeting 70 = .ok (.iload_n 2, 1) := by decide +kernel
theorem dX1_meeting_71 : decode cX1_meeting 71 = .ok (.if_icmp .ne 7, 3) := by decide +kernel
theorem dX1_meeting_74 : decode cX1_meeting 74 = .ok (.iconst 1, 1) := by decide +kernel
theorem dX1_meeting_75 : decode cX1_meeting 75 = .ok (.goto 4, 3) := by decide +kernel
theorem dX1_meeting_78 : decode cX1_meeting 78 = .ok (.iconst 0, 1) := by decide +kernel
theorem dX1_meeting_79 : decode cX1_meeting 79 = .ok (.iadd, 1) := by decide +kernel
theorem dX1_meeting_80 : decode cX1_meeting 80 = .ok (.istore_n 3, 1) := by decide +kernel
theorem dX1_meeting_81 : decode cX1_meeting 81 = .ok (.iinc 4 1, 3) := by decide +kernel
theorem dX1_meeting_84 : decode cX1_meeting 84 = .ok (.goto (-44), 3) := by decide +kernel
theorem dX1_meeting_87 : decode cX1_meeting 87 = .ok (.iload_n 3, 1) := by decide +kernel
theorem dX1_meeting_88 : decode cX1_meeting 88 = .ok (.ireturn, 1) := by decide +kernel
theorem dX1_empty_0 : decode cX1_empty 0 = .ok (.iconst 0, 1) := by decide +kernel
theorem dX1_empty_1 : decode cX1_empty 1 = .ok (.istore_n 1, 1) := by decide +kernel
theorem dX1_empty_2 : decode cX1_empty 2 = .ok (.iload_n 1, 1) := by decide +kernel
theorem dX1_empty_3 : decode cX1_empty 3 = .ok (.bipush 24, 2) := by decide +kernel
theorem dX1_empty_5 : decode cX1_empty 5 = .ok (.if_icmp .ge 16, 3) := by decide +kernel
theorem dX1_empty_8 : decode cX1_empty 8 = .ok (.aload_n 0, 1) := by decide +kernel
theorem dX1_empty_9 : decode cX1_empty 9 = .ok (.getfield 20, 3) := by decide +kernel
theorem dX1_empty_12 : decode cX1_empty 12 = .ok (.iload_n 1, 1) := by decide +kernel
theorem dX1_empty_13 : decode cX1_empty 13 = .ok (.lconst 0, 1) := by decide +kernel
theorem dX1_empty_14 : decode cX1_empty 14 = .ok (.lastore, 1) := by decide +kernel
theorem dX1_empty_15 : decode cX1_empty 15 = .ok (.iinc 1 1, 3) := by decide +kernel
theorem dX1_empty_18 : decode cX1_empty 18 = .ok (.goto (-16), 3) := by decide +kernel
theorem dX1_empty_21 : decode cX1_empty 21 = .ok (.return_, 1) := by decide +kernel
theorem dX1_reduce_0 : decode cX1_reduce 0 = .ok (.bipush 23, 2) := by decide +kernel
theorem dX1_reduce_2 : decode cX1_reduce 2 = .ok (.istore_n 1, 1) := by decide +kernel
theorem dX1_reduce_3 : decode cX1_reduce 3 = .ok (.iload_n 1, 1) := by decide +kernel
theorem dX1_reduce_4 : decode cX1_reduce 4 = .ok (.aload_n 0, 1) := by decide +kernel
theorem dX1_reduce_5 : decode cX1_reduce 5 = .ok (.getfield 55, 3) := by decide +kernel
theorem dX1_reduce_8 : decode cX1_reduce 8 = .ok (.if_icmp .lt 67, 3) := by decide +kernel
theorem dX1_reduce_11 : decode cX1_reduce 11 = .ok (.aload_n 0, 1) := by decide +kernel
theorem dX1_reduce_12 : decode cX1_reduce 12 = .ok (.getfield 20, 3) := by decide +kernel
theorem dX1_reduce_15 : decode cX1_reduce 15 = .ok (.iload_n 1, 1) := by decide +kernel
theorem dX1_reduce_16 : decode cX1_reduce 16 = .ok (.laload, 1) := by decide +kernel
theorem dX1_reduce_17 : decode cX1_reduce 17 = .ok (.lstore_n 2, 1) := by decide +kernel
theorem dX1_reduce_18 : decode cX1_reduce 18 = .ok (.iconst 0, 1) := by decide +kernel
theorem dX1_reduce_19 : decode cX1_reduce 19 = .ok (.istore 4, 2) := by decide +kernel
theorem dX1_reduce_21 : decode cX1_reduce 21 = .ok (.iload 4, 2) := by decide +kernel
theorem dX1_reduce_23 : decode cX1_reduce 23 = .ok (.aload_n 0, 1) := by decide +kernel
theorem dX1_reduce_24 : decode cX1_reduce 24 = .ok (.getfield 55, 3) := by decide +kernel
theorem dX1_reduce_27 : decode cX1_reduce 27 = .ok (.if_icmp .gt 42, 3) := by decide +kernel
theorem dX1_reduce_30 : decode cX1_reduce 30 = .ok (.lload_n 2, 1) := by decide +kernel
theorem dX1_reduce_31 : decode cX1_reduce 31 = .ok (.lconst 0, 1) := by decide +kernel
theorem dX1_reduce_32 : decode cX1_reduce 32 = .ok (.lcmp, 1) := by decide +kernel
theorem dX1_reduce_33 : decode cX1_reduce 33 = .ok (.ifCond .eq 36, 3) := by decide +kernel
theorem dX1_reduce_36 : decode cX1_reduce 36 = .ok (.aload_n 0, 1) := by decide +kernel
theorem dX1_reduce_37 : decode cX1_reduce 37 = .ok (.getfield 20, 3) := by decide +kernel
theorem dX1_reduce_40 : decode cX1_reduce 40 = .ok (.iload_n 1, 1) := by decide +kernel
theorem dX1_reduce_41 : decode cX1_reduce 41 = .ok (.aload_n 0, 1) := by decide +kernel
theorem dX1_reduce_42 : decode cX1_reduce 42 = .ok (.getfield 55, 3) := by decide +kernel
theorem dX1_reduce_45 : decode cX1_reduce 45 = .ok (.isub, 1) := by decide +kernel
theorem dX1_reduce_46 : decode cX1_reduce 46 = .ok (.iload 4, 2) := by decide +kernel
theorem dX1_reduce_48 : decode cX1_reduce 48 = .ok (.iadd, 1) := by decide +kernel
theorem dX1_reduce_49 : decode cX1_reduce 49 = .ok (.dup2, 1) := by decide +kernel
theorem dX1_reduce_50 : decode cX1_reduce 50 = .ok (.laload, 1) := by decide +kernel
theorem dX1_reduce_51 : decode cX1_reduce 51 = .ok (.lload_n 2, 1) := by decide +kernel
theorem dX1_reduce_52 : decode cX1_reduce 52 = .ok (.aload_n 0, 1) := by decide +kernel
theorem dX1_reduce_53 : decode cX1_reduce 53 = .ok (.getfield 17, 3) := by decide +kernel
theorem dX1_reduce_56 : decode cX1_reduce 56 = .ok (.iload 4, 2) := by decide +kernel
theorem dX1_reduce_58 : decode cX1_reduce 58 = .ok (.iaload, 1) := by decide +kernel
theorem dX1_reduce_59 : decode cX1_reduce 59 = .ok (.i2l, 1) := by decide +kernel
theorem dX1_reduce_60 : decode cX1_reduce 60 = .ok (.lmul, 1) := by decide +kernel
theorem dX1_reduce_61 : decode cX1_reduce 61 = .ok (.lsub, 1) := by decide +kernel
theorem dX1_reduce_62 : decode cX1_reduce 62 = .ok (.lastore, 1) := by decide +kernel
theorem dX1_reduce_63 : decode cX1_reduce 63 = .ok (.iinc 4 1, 3) := by decide +kernel
theorem dX1_reduce_66 : decode cX1_reduce 66 = .ok (.goto (-45), 3) := by decide +kernel
theorem dX1_reduce_69 : decode cX1_reduce 69 = .ok (.iinc 1 (-1), 3) := by decide +kernel
theorem dX1_reduce_72 : decode cX1_reduce 72 = .ok (.goto (-69), 3) := by decide +kernel
theorem dX1_reduce_75 : decode cX1_reduce 75 = .ok (.return_, 1) := by decide +kernel
set_option maxRecDepth 20000 in
theorem ggX1_lay_X1_in : GoodIn wsX1_lay wsX1_in := goodIn_r _ [9] (by decide +kernel) (by decide +kernel)
set_option maxRecDepth 20000 in
theorem gX1_lay_X1_in : GoodIn wsX1_lay (va_wsS RX1 38 yX1_in wsX1_in) := goodIn_app (goodIn_of _ (by decide +kernel)) ggX1_lay_X1_in
theorem dX1_lay_0 : decode cX1_lay 0 = .ok (.iconst 0, 1) := by decide +kernel
theorem dX1_lay_1 : decode cX1_lay 1 = .ok (.istore_n 2, 1) := by decide +kernel
theorem dX1_lay_2 : decode cX1_lay 2 = .ok (.iload_n 2, 1) := by decide +kernel
theorem dX1_lay_3 : decode cX1_lay 3 = .ok (.aload_n 0, 1) := by decide +kernel
theorem dX1_lay_4 : decode cX1_lay 4 = .ok (.getfield 55, 3) := by decide +kernel
theorem dX1_lay_7 : decode cX1_lay 7 = .ok (.if_icmp .ge 30, 3) := by decide +kernel
theorem dX1_lay_10 : decode cX1_lay 10 = .ok (.aload_n 0, 1) := by decide +kernel
theorem dX1_lay_11 : decode cX1_lay 11 = .ok (.getfield 20, 3) := by decide +kernel
theorem dX1_lay_14 : decode cX1_lay 14 = .ok (.iload_n 2, 1) := by decide +kernel
theorem dX1_lay_15 : decode cX1_lay 15 = .ok (.laload, 1) := by decide +kernel
theorem dX1_lay_16 : decode cX1_lay 16 = .ok (.ldc2_w 76, 3) := by decide +kernel
theorem dX1_lay_19 : decode cX1_lay 19 = .ok (.ldc2_w 78, 3) := by decide +kernel
theorem dX1_lay_22 : decode cX1_lay 22 = .ok (.invokestatic 38, 3) := by decide +kernel
theorem dX1_lay_25 : decode cX1_lay 25 = .ok (.ifCond .ne 6, 3) := by decide +kernel
theorem dX1_lay_28 : decode cX1_lay 28 = .ok (.bipush (-5), 2) := by decide +kernel
theorem dX1_lay_30 : decode cX1_lay 30 = .ok (.ireturn, 1) := by decide +kernel
theorem dX1_lay_31 : decode cX1_lay 31 = .ok (.iinc 2 1, 3) := by decide +kernel
theorem dX1_lay_34 : decode cX1_lay 34 = .ok (.goto (-32), 3) := by decide +kernel
theorem dX1_lay_37 : decode cX1_lay 37 = .ok (.iconst 0, 1) := by decide +kernel
theorem dX1_lay_38 : decode cX1_lay 38 = .ok (.istore_n 2, 1) := by decide +kernel
theorem dX1_lay_39 : decode cX1_lay 39 = .ok (.iload_n 2, 1) := by decide +kernel
theorem dX1_lay_40 : decode cX1_lay 40 = .ok (.bipush 12, 2) := by decide +kernel
theorem dX1_lay_42 : decode cX1_lay 42 = .ok (.if_icmp .ge 38, 3) := by decide +kernel
theorem dX1_lay_45 : decode cX1_lay 45 = .ok (.aload_n 0, 1) := by decide +kernel
theorem dX1_lay_46 : decode cX1_lay 46 = .ok (.getfield 13, 3) := by decide +kernel
theorem dX1_lay_49 : decode cX1_lay 49 = .ok (.bipush 12, 2) := by decide +kernel
theorem dX1_lay_51 : decode cX1_lay 51 = .ok (.iload_n 1, 1) := by decide +kernel
theorem dX1_lay_52 : decode cX1_lay 52 = .ok (.imul, 1) := by decide +kernel
theorem dX1_lay_53 : decode cX1_lay 53 = .ok (.iload_n 2, 1) := by decide +kernel
theorem dX1_lay_54 : decode cX1_lay 54 = .ok (.iadd, 1) := by decide +kernel
theorem dX1_lay_55 : decode cX1_lay 55 = .ok (.iload_n 2, 1) := by decide +kernel
theorem dX1_lay_56 : decode cX1_lay 56 = .ok (.aload_n 0, 1) := by decide +kernel
theorem dX1_lay_57 : decode cX1_lay 57 = .ok (.getfield 55, 3) := by decide +kernel
theorem dX1_lay_60 : decode cX1_lay 60 = .ok (.if_icmp .ge 12, 3) := by decide +kernel
theorem dX1_lay_63 : decode cX1_lay 63 = .ok (.aload_n 0, 1) := by decide +kernel
theorem dX1_lay_64 : decode cX1_lay 64 = .ok (.getfield 20, 3) := by decide +kernel
theorem dX1_lay_67 : decode cX1_lay 67 = .ok (.iload_n 2, 1) := by decide +kernel
theorem dX1_lay_68 : decode cX1_lay 68 = .ok (.laload, 1) := by decide +kernel
theorem dX1_lay_69 : decode cX1_lay 69 = .ok (.goto 4, 3) := by decide +kernel
theorem dX1_lay_72 : decode cX1_lay 72 = .ok (.lconst 0, 1) := by decide +kernel
theorem dX1_lay_73 : decode cX1_lay 73 = .ok (.lastore, 1) := by decide +kernel
theorem dX1_lay_74 : decode cX1_lay 74 = .ok (.iinc 2 1, 3) := by decide +kernel
theorem dX1_lay_77 : decode cX1_lay 77 = .ok (.goto (-38), 3) := by decide +kernel
theorem dX1_lay_80 : decode cX1_lay 80 = .ok (.iconst 1, 1) := by decide +kernel
theorem dX1_lay_81 : decode cX1_lay 81 = .ok (.ireturn, 1) := by decide +kernel
set_option maxRecDepth 20000 in
theorem ggX1_sum_X1_isHold : GoodIn wsX1_sum wsX1_isHold := goodIn_r _ [7, 8, 9, 10, 6, 11] (by decide +kernel) (by decide +kernel)
set_option maxRecDepth 20000 in
theorem gX1_sum_X1_isHold : GoodIn wsX1_sum (va_wsS RX1 80 yX1_isHold wsX1_isHold) := goodIn_app (goodIn_of _ (by decide +kernel)) ggX1_sum_X1_isHold
set_option maxRecDepth 20000 in
theorem ggX1_sum_X1_empty : GoodIn wsX1_sum wsX1_empty := goodIn_r _ [15, 2, 37, 38, 39, 40, 41, 42, 43, 44, 45, 46, 47] (by decide +kernel) (by decide +kernel)
set_option maxRecDepth 20000 in
theorem gX1_sum_X1_empty : GoodIn wsX1_sum (wsV RX1 83 RX1 yX1_empty wsX1_empty) := goodIn_app (goodIn_of _ (by decide +kernel)) ggX1_sum_X1_empty
set_option maxRecDepth 20000 in
theorem ggX1_sum_X1_classOf : GoodIn wsX1_sum wsX1_classOf := goodIn_r _ [19, 20, 3, 37, 38, 39, 40, 41, 42, 43, 44, 45, 46, 47] (by decide +kernel) (by decide +kernel)
set_option maxRecDepth 20000 in
theorem gX1_sum_X1_classOf : GoodIn wsX1_sum (wsV RX1 72 RX1 yX1_classOf wsX1_classOf) := goodIn_app (goodIn_of _ (by decide +kernel)) ggX1_sum_X1_classOf
set_option maxRecDepth 20000 in
theorem ggX1_sum_X1_rem : GoodIn wsX1_sum wsX1_rem := goodIn_r _ [23] (by decide +kernel) (by decide +kernel)
set_option maxRecDepth 20000 in
theorem gX1_sum_X1_rem : GoodIn wsX1_sum (va_wsS RX1 68 yX1_rem wsX1_rem) := goodIn_app (goodIn_of _ (by decide +kernel)) ggX1_sum_X1_rem
set_option maxRecDepth 20000 in
theorem ggX1_sum_X1_reduce : GoodIn wsX1_sum wsX1_reduce := goodIn_r _ [27, 28, 2, 29, 37, 38, 39, 40, 41, 42, 43, 44, 45, 46, 47] (by decide +kernel) (by decide +kernel)
set_option maxRecDepth 20000 in
theorem gX1_sum_X1_reduce : GoodIn wsX1_sum (wsV RX1 86 RX1 yX1_reduce wsX1_reduce) := goodIn_app (goodIn_of _ (by decide +kernel)) ggX1_sum_X1_reduce
set_option maxRecDepth 20000 in
theorem ggX1_sum_X1_lay : GoodIn wsX1_sum wsX1_lay := goodIn_r _ [33, 28, 2, 34, 35, 36, 9, 10, 6, 11, 37, 38, 39, 40, 41, 42, 43, 44, 45, 46, 47] (by decide +kernel) (by decide +kernel)
set_option maxRecDepth 20000 in
theorem gX1_sum_X1_lay : GoodIn wsX1_sum (wsV RX1 89 RX1 yX1_lay wsX1_lay) := goodIn_app (goodIn_of _ (by decide +kernel)) ggX1_sum_X1_lay
theorem dX1_sum_0 : decode cX1_sum 0 = .ok (.iload_n 1, 1) := by decide +kernel
theorem dX1_sum_1 : decode cX1_sum 1 = .ok (.invokestatic 80, 3) := by decide +kernel
theorem dX1_sum_4 : decode cX1_sum 4 = .ok (.ifCond .ne 6, 3) := by decide +kernel
theorem dX1_sum_7 : decode cX1_sum 7 = .ok (.bipush (-2), 2) := by decide +kernel
theorem dX1_sum_9 : decode cX1_sum 9 = .ok (.ireturn, 1) := by decide +kernel
theorem dX1_sum_10 : decode cX1_sum 10 = .ok (.aload_n 0, 1) := by decide +kernel
theorem dX1_sum_11 : decode cX1_sum 11 = .ok (.invokevirtual 83, 3) := by decide +kernel
theorem dX1_sum_14 : decode cX1_sum 14 = .ok (.iconst 2, 1) := by decide +kernel
theorem dX1_sum_15 : decode cX1_sum 15 = .ok (.istore 4, 2) := by decide +kernel
theorem dX1_sum_17 : decode cX1_sum 17 = .ok (.iload 4, 2) := by decide +kernel
theorem dX1_sum_19 : decode cX1_sum 19 = .ok (.aload_n 0, 1) := by decide +kernel
theorem dX1_sum_20 : decode cX1_sum 20 = .ok (.getfield 42, 3) := by decide +kernel
theorem dX1_sum_23 : decode cX1_sum 23 = .ok (.if_icmp .ge 57, 3) := by decide +kernel
theorem dX1_sum_26 : decode cX1_sum 26 = .ok (.iload_n 2, 1) := by decide +kernel
theorem dX1_sum_27 : decode cX1_sum 27 = .ok (.i2l, 1) := by decide +kernel
theorem dX1_sum_28 : decode cX1_sum 28 = .ok (.aload_n 0, 1) := by decide +kernel
theorem dX1_sum_29 : decode cX1_sum 29 = .ok (.iload 4, 2) := by decide +kernel
theorem dX1_sum_31 : decode cX1_sum 31 = .ok (.invokevirtual 72, 3) := by decide +kernel
theorem dX1_sum_34 : decode cX1_sum 34 = .ok (.i2l, 1) := by decide +kernel
theorem dX1_sum_35 : decode cX1_sum 35 = .ok (.lmul, 1) := by decide +kernel
theorem dX1_sum_36 : decode cX1_sum 36 = .ok (.iload_n 3, 1) := by decide +kernel
theorem dX1_sum_37 : decode cX1_sum 37 = .ok (.i2l, 1) := by decide +kernel
theorem dX1_sum_38 : decode cX1_sum 38 = .ok (.aload_n 0, 1) := by decide +kernel
theorem dX1_sum_39 : decode cX1_sum 39 = .ok (.aload_n 0, 1) := by decide +kernel
theorem dX1_sum_40 : decode cX1_sum 40 = .ok (.getfield 42, 3) := by decide +kernel
theorem dX1_sum_43 : decode cX1_sum 43 = .ok (.iconst 1, 1) := by decide +kernel
theorem dX1_sum_44 : decode cX1_sum 44 = .ok (.iadd, 1) := by decide +kernel
theorem dX1_sum_45 : decode cX1_sum 45 = .ok (.iload 4, 2) := by decide +kernel
theorem dX1_sum_47 : decode cX1_sum 47 = .ok (.isub, 1) := by decide +kernel
theorem dX1_sum_48 : decode cX1_sum 48 = .ok (.invokevirtual 72, 3) := by decide +kernel
theorem dX1_sum_51 : decode cX1_sum 51 = .ok (.i2l, 1) := by decide +kernel
theorem dX1_sum_52 : decode cX1_sum 52 = .ok (.lmul, 1) := by decide +kernel
theorem dX1_sum_53 : decode cX1_sum 53 = .ok (.ladd, 1) := by decide +kernel
theorem dX1_sum_54 : decode cX1_sum 54 = .ok (.lstore 5, 2) := by decide +kernel
theorem dX1_sum_56 : decode cX1_sum 56 = .ok (.aload_n 0, 1) := by decide +kernel
theorem dX1_sum_57 : decode cX1_sum 57 = .ok (.getfield 20, 3) := by decide +kernel
theorem dX1_sum_60 : decode cX1_sum 60 = .ok (.lload 5, 2) := by decide +kernel
theorem dX1_sum_62 : decode cX1_sum 62 = .ok (.aload_n 0, 1) := by decide +kernel
theorem dX1_sum_63 : decode cX1_sum 63 = .ok (.getfield 52, 3) := by decide +kernel
theorem dX1_sum_66 : decode cX1_sum 66 = .ok (.invokestatic 68, 3) := by decide +kernel
theorem dX1_sum_69 : decode cX1_sum 69 = .ok (.dup2, 1) := by decide +kernel
theorem dX1_sum_70 : decode cX1_sum 70 = .ok (.laload, 1) := by decide +kernel
theorem dX1_sum_71 : decode cX1_sum 71 = .ok (.lconst 1, 1) := by decide +kernel
theorem dX1_sum_72 : decode cX1_sum 72 = .ok (.ladd, 1) := by decide +kernel
theorem dX1_sum_73 : decode cX1_sum 73 = .ok (.lastore, 1) := by decide +kernel
theorem dX1_sum_74 : decode cX1_sum 74 = .ok (.iinc 4 1, 3) := by decide +kernel
theorem dX1_sum_77 : decode cX1_sum 77 = .ok (.goto (-60), 3) := by decide +kernel
theorem dX1_sum_80 : decode cX1_sum 80 = .ok (.aload_n 0, 1) := by decide +kernel
theorem dX1_sum_81 : decode cX1_sum 81 = .ok (.invokevirtual 86, 3) := by decide +kernel
theorem dX1_sum_84 : decode cX1_sum 84 = .ok (.aload_n 0, 1) := by decide +kernel
theorem dX1_sum_85 : decode cX1_sum 85 = .ok (.iload_n 1, 1) := by decide +kernel
theorem dX1_sum_86 : decode cX1_sum 86 = .ok (.invokevirtual 89, 3) := by decide +kernel
theorem dX1_sum_89 : decode cX1_sum 89 = .ok (.pop, 1) := by decide +kernel
theorem dX1_sum_90 : decode cX1_sum 90 = .ok (.aload_n 0, 1) := by decide +kernel
theorem dX1_sum_91 : decode cX1_sum 91 = .ok (.getfield 42, 3) := by decide +kernel
theorem dX1_sum_94 : decode cX1_sum 94 = .ok (.iconst 2, 1) := by decide +kernel
theorem dX1_sum_95 : decode cX1_sum 95 = .ok (.isub, 1) := by decide +kernel
theorem dX1_sum_96 : decode cX1_sum 96 = .ok (.ireturn, 1) := by decide +kernel
set_option maxRecDepth 20000 in
theorem ggX1_unit_X1_isHold : GoodIn wsX1_unit wsX1_isHold := goodIn_r _ [8, 9, 10, 11, 7, 12] (by decide +kernel) (by decide +kernel)
set_option maxRecDepth 20000 in
theorem gX1_unit_X1_isHold : GoodIn wsX1_unit (va_wsS RX1 80 yX1_isHold wsX1_isHold) := goodIn_app (goodIn_of _ (by decide +kernel)) ggX1_unit_X1_isHold
set_option maxRecDepth 20000 in
theorem ggX1_unit_X1_in : GoodIn wsX1_unit wsX1_in := goodIn_r _ [12] (by decide +kernel) (by decide +kernel)
set_option maxRecDepth 20000 in
theorem gX1_unit_X1_in : GoodIn wsX1_unit (va_wsS RX1 38 yX1_in wsX1_in) := goodIn_app (goodIn_of _ (by decide +kernel)) ggX1_unit_X1_in
set_option maxRecDepth 20000 in
theorem ggX1_unit_X1_empty : GoodIn wsX1_unit wsX1_empty := goodIn_r _ [16, 3, 33, 34, 35, 36, 37, 38, 39, 40, 41, 42, 43] (by decide +kernel) (by decide +kernel)
set_option maxRecDepth 20000 in
theorem gX1_unit_X1_empty : GoodIn wsX1_unit (wsV RX1 83 RX1 yX1_empty wsX1_empty) := goodIn_app (goodIn_of _ (by decide +kernel)) ggX1_unit_X1_empty
set_option maxRecDepth 20000 in
theorem ggX1_unit_X1_rem : GoodIn wsX1_unit wsX1_rem := goodIn_r _ [19] (by decide +kernel) (by decide +kernel)
set_option maxRecDepth 20000 in
theorem gX1_unit_X1_rem : GoodIn wsX1_unit (va_wsS RX1 68 yX1_rem wsX1_rem) := goodIn_app (goodIn_of _ (by decide +kernel)) ggX1_unit_X1_rem
set_option maxRecDepth 20000 in
theorem ggX1_unit_X1_reduce : GoodIn wsX1_unit wsX1_reduce := goodIn_r _ [23, 24, 3, 25, 33, 34, 35, 36, 37, 38, 39, 40, 41, 42, 43] (by decide +kernel) (by decide +kernel)
set_option maxRecDepth 20000 in
theorem gX1_unit_X1_reduce : GoodIn wsX1_unit (wsV RX1 86 RX1 yX1_reduce wsX1_reduce) := goodIn_app (goodIn_of _ (by decide +kernel)) ggX1_unit_X1_reduce
set_option maxRecDepth 20000 in
theorem ggX1_unit_X1_lay : GoodIn wsX1_unit wsX1_lay := goodIn_r _ [29, 24, 3, 30, 31, 32, 10, 11, 7, 12, 33, 34, 35, 36, 37, 38, 39, 40, 41, 42, 43] (by decide +kernel) (by decide +kernel)
set_option maxRecDepth 20000 in
theorem gX1_unit_X1_lay : GoodIn wsX1_unit (wsV RX1 89 RX1 yX1_lay wsX1_lay) := goodIn_app (goodIn_of _ (by decide +kernel)) ggX1_unit_X1_lay
theorem dX1_unit_0 : decode cX1_unit 0 = .ok (.iload_n 1, 1) := by decide +kernel
theorem dX1_unit_1 : decode cX1_unit 1 = .ok (.invokestatic 80, 3) := by decide +kernel
theorem dX1_unit_4 : decode cX1_unit 4 = .ok (.ifCond .ne 6, 3) := by decide +kernel
theorem dX1_unit_7 : decode cX1_unit 7 = .ok (.bipush (-2), 2) := by decide +kernel
theorem dX1_unit_9 : decode cX1_unit 9 = .ok (.ireturn, 1) := by decide +kernel
theorem dX1_unit_10 : decode cX1_unit 10 = .ok (.iload_n 2, 1) := by decide +kernel
theorem dX1_unit_11 : decode cX1_unit 11 = .ok (.i2l, 1) := by decide +kernel
theorem dX1_unit_12 : decode cX1_unit 12 = .ok (.ldc2_w 92, 3) := by decide +kernel
theorem dX1_unit_15 : decode cX1_unit 15 = .ok (.ldc2_w 94, 3) := by decide +kernel
theorem dX1_unit_18 : decode cX1_unit 18 = .ok (.invokestatic 38, 3) := by decide +kernel
theorem dX1_unit_21 : decode cX1_unit 21 = .ok (.ifCond .ne 6, 3) := by decide +kernel
theorem dX1_unit_24 : decode cX1_unit 24 = .ok (.bipush (-3), 2) := by decide +kernel
theorem dX1_unit_26 : decode cX1_unit 26 = .ok (.ireturn, 1) := by decide +kernel
theorem dX1_unit_27 : decode cX1_unit 27 = .ok (.aload_n 0, 1) := by decide +kernel
theorem dX1_unit_28 : decode cX1_unit 28 = .ok (.invokevirtual 83, 3) := by decide +kernel
theorem dX1_unit_31 : decode cX1_unit 31 = .ok (.aload_n 0, 1) := by decide +kernel
theorem dX1_unit_32 : decode cX1_unit 32 = .ok (.getfield 20, 3) := by decide +kernel
theorem dX1_unit_35 : decode cX1_unit 35 = .ok (.iload_n 3, 1) := by decide +kernel
theorem dX1_unit_36 : decode cX1_unit 36 = .ok (.i2l, 1) := by decide +kernel
theorem dX1_unit_37 : decode cX1_unit 37 = .ok (.aload_n 0, 1) := by decide +kernel
theorem dX1_unit_38 : decode cX1_unit 38 = .ok (.getfield 52, 3) := by decide +kernel
theorem dX1_unit_41 : decode cX1_unit 41 = .ok (.invokestatic 68, 3) := by decide +kernel
theorem dX1_unit_44 : decode cX1_unit 44 = .ok (.iload_n 2, 1) := by decide +kernel
theorem dX1_unit_45 : decode cX1_unit 45 = .ok (.i2l, 1) := by decide +kernel
theorem dX1_unit_46 : decode cX1_unit 46 = .ok (.lastore, 1) := by decide +kernel
theorem dX1_unit_47 : decode cX1_unit 47 = .ok (.aload_n 0, 1) := by decide +kernel
theorem dX1_unit_48 : decode cX1_unit 48 = .ok (.invokevirtual 86, 3) := by decide +kernel
theorem dX1_unit_51 : decode cX1_unit 51 = .ok (.aload_n 0, 1) := by decide +kernel
theorem dX1_unit_52 : decode cX1_unit 52 = .ok (.iload_n 1, 1) := by decide +kernel
theorem dX1_unit_53 : decode cX1_unit 53 = .ok (.invokevirtual 89, 3) := by decide +kernel
theorem dX1_unit_56 : decode cX1_unit 56 = .ok (.ireturn, 1) := by decide +kernel
set_option maxRecDepth 20000 in
theorem ggX1_times_X1_empty : GoodIn wsX1_times wsX1_empty := goodIn_r _ [8, 2, 14, 15, 16, 17, 18, 19, 20, 21, 22, 23, 24] (by decide +kernel) (by decide +kernel)
set_option maxRecDepth 20000 in
theorem gX1_times_X1_empty : GoodIn wsX1_times (wsV RX1 83 RX1 yX1_empty wsX1_empty) := goodIn_app (goodIn_of _ (by decide +kernel)) ggX1_times_X1_empty
set_option maxRecDepth 20000 in
theorem ggX1_times_X1_reduce : GoodIn wsX1_times wsX1_reduce := goodIn_r _ [12, 1, 2, 13, 14, 15, 16, 17, 18, 19, 20, 21, 22, 23, 24] (by decide +kernel) (by decide +kernel)
set_option maxRecDepth 20000 in
theorem gX1_times_X1_reduce : GoodIn wsX1_times (wsV RX1 86 RX1 yX1_reduce wsX1_reduce) := goodIn_app (goodIn_of _ (by decide +kernel)) ggX1_times_X1_reduce
theorem dX1_times_0 : decode cX1_times 0 = .ok (.aload_n 0, 1) := by decide +kernel
theorem dX1_times_1 : decode cX1_times 1 = .ok (.invokevirtual 83, 3) := by decide +kernel
theorem dX1_times_4 : decode cX1_times 4 = .ok (.iconst 0, 1) := by decide +kernel
theorem dX1_times_5 : decode cX1_times 5 = .ok (.istore 4, 2) := by decide +kernel
theorem dX1_times_7 : decode cX1_times 7 = .ok (.iload 4, 2) := by decide +kernel
theorem dX1_times_9 : decode cX1_times 9 = .ok (.aload_n 0, 1) := by decide +kernel
theorem dX1_times_10 : decode cX1_times 10 = .ok (.getfield 55, 3) := by decide +kernel
theorem dX1_times_13 : decode cX1_times 13 = .ok (.if_icmp .ge 59, 3) := by decide +kernel
theorem dX1_times_16 : decode cX1_times 16 = .ok (.iconst 0, 1) := by decide +kernel
theorem dX1_times_17 : decode cX1_times 17 = .ok (.istore 5, 2) := by decide +kernel
theorem dX1_times_19 : decode cX1_times 19 = .ok (.iload 5, 2) := by decide +kernel
theorem dX1_times_21 : decode cX1_times 21 = .ok (.aload_n 0, 1) := by decide +kernel
theorem dX1_times_22 : decode cX1_times 22 = .ok (.getfield 55, 3) := by decide +kernel
theorem dX1_times_25 : decode cX1_times 25 = .ok (.if_icmp .ge 41, 3) := by decide +kernel
theorem dX1_times_28 : decode cX1_times 28 = .ok (.aload_n 0, 1) := by decide +kernel
theorem dX1_times_29 : decode cX1_times 29 = .ok (.getfield 20, 3) := by decide +kernel
theorem dX1_times_32 : decode cX1_times 32 = .ok (.iload 4, 2) := by decide +kernel
theorem dX1_times_34 : decode cX1_times 34 = .ok (.iload 5, 2) := by decide +kernel
theorem dX1_times_36 : decode cX1_times 36 = .ok (.iadd, 1) := by decide +kernel
theorem dX1_times_37 : decode cX1_times 37 = .ok (.dup2, 1) := by decide +kernel
theorem dX1_times_38 : decode cX1_times 38 = .ok (.laload, 1) := by decide +kernel
theorem dX1_times_39 : decode cX1_times 39 = .ok (.aload_n 0, 1) := by decide +kernel
theorem dX1_times_40 : decode cX1_times 40 = .ok (.getfield 13, 3) := by decide +kernel
theorem dX1_times_43 : decode cX1_times 43 = .ok (.bipush 12, 2) := by decide +kernel
theorem dX1_times_45 : decode cX1_times 45 = .ok (.iload_n 1, 1) := by decide +kernel
theorem dX1_times_46 : decode cX1_times 46 = .ok (.imul, 1) := by decide +kernel
theorem dX1_times_47 : decode cX1_times 47 = .ok (.iload 4, 2) := by decide +kernel
theorem dX1_times_49 : decode cX1_times 49 = .ok (.iadd, 1) := by decide +kernel
theorem dX1_times_50 : decode cX1_times 50 = .ok (.laload, 1) := by decide +kernel
theorem dX1_times_51 : decode cX1_times 51 = .ok (.aload_n 2, 1) := by decide +kernel
theorem dX1_times_52 : decode cX1_times 52 = .ok (.iload_n 3, 1) := by decide +kernel
theorem dX1_times_53 : decode cX1_times 53 = .ok (.iload 5, 2) := by decide +kernel
theorem dX1_times_55 : decode cX1_times 55 = .ok (.iadd, 1) := by decide +kernel
theorem dX1_times_56 : decode cX1_times 56 = .ok (.laload, 1) := by decide +kernel
theorem dX1_times_57 : decode cX1_times 57 = .ok (.lmul, 1) := by decide +kernel
theorem dX1_times_58 : decode cX1_times 58 = .ok (.ladd, 1) := by decide +kernel
theorem dX1_times_59 : decode cX1_times 59 = .ok (.lastore, 1) := by decide +kernel
theorem dX1_times_60 : decode cX1_times 60 = .ok (.iinc 5 1, 3) := by decide +kernel
theorem dX1_times_63 : decode cX1_times 63 = .ok (.goto (-44), 3) := by decide +kernel
theorem dX1_times_66 : decode cX1_times 66 = .ok (.iinc 4 1, 3) := by decide +kernel
theorem dX1_times_69 : decode cX1_times 69 = .ok (.goto (-62), 3) := by decide +kernel
theorem dX1_times_72 : decode cX1_times 72 = .ok (.aload_n 0, 1) := by decide +kernel
theorem dX1_times_73 : decode cX1_times 73 = .ok (.invokevirtual 86, 3) := by decide +kernel
theorem dX1_times_76 : decode cX1_times 76 = .ok (.return_, 1) := by decide +kernel
set_option maxRecDepth 20000 in
theorem ggX1_join_X1_isHold : GoodIn wsX1_join wsX1_isHold := goodIn_r _ [8, 9, 10, 11, 7, 12] (by decide +kernel) (by decide +kernel)
set_option maxRecDepth 20000 in
theorem gX1_join_X1_isHold : GoodIn wsX1_join (va_wsS RX1 80 yX1_isHold wsX1_isHold) := goodIn_app (goodIn_of _ (by decide +kernel)) ggX1_join_X1_isHold
set_option maxRecDepth 20000 in
theorem ggX1_join_X1_in : GoodIn wsX1_join wsX1_in := goodIn_r _ [12] (by decide +kernel) (by decide +kernel)
set_option maxRecDepth 20000 in
theorem gX1_join_X1_in : GoodIn wsX1_join (va_wsS RX1 38 yX1_in wsX1_in) := goodIn_app (goodIn_of _ (by decide +kernel)) ggX1_join_X1_in
set_option maxRecDepth 20000 in
theorem ggX1_join_X1_times : GoodIn wsX1_join wsX1_times := goodIn_r _ [16, 3, 4, 2, 17, 18, 19, 7, 20, 21, 22, 23, 24, 25, 32, 33, 34, 35, 36, 37, 38, 39, 40, 41, 42] (by decide +kernel) (by decide +kernel)
set_option maxRecDepth 20000 in
theorem gX1_join_X1_times : GoodIn wsX1_join (wsV RX1 98 RX1 yX1_times wsX1_times) := goodIn_app (goodIn_of _ (by decide +kernel)) ggX1_join_X1_times
set_option maxRecDepth 20000 in
theorem ggX1_join_X1_empty : GoodIn wsX1_join wsX1_empty := goodIn_r _ [20, 4, 32, 33, 34, 35, 36, 37, 38, 39, 40, 41, 42] (by decide +kernel) (by decide +kernel)
set_option maxRecDepth 20000 in
theorem gX1_join_X1_empty : GoodIn wsX1_join (wsV RX1 83 RX1 yX1_empty wsX1_empty) := goodIn_app (goodIn_of _ (by decide +kernel)) ggX1_join_X1_empty
set_option maxRecDepth 20000 in
theorem ggX1_join_X1_lay : GoodIn wsX1_join wsX1_lay := goodIn_r _ [29, 3, 4, 30, 31, 2, 10, 11, 7, 12, 32, 33, 34, 35, 36, 37, 38, 39, 40, 41, 42] (by decide +kernel) (by decide +kernel)
set_option maxRecDepth 20000 in
theorem gX1_join_X1_lay : GoodIn wsX1_join (wsV RX1 89 RX1 yX1_lay wsX1_lay) := goodIn_app (goodIn_of _ (by decide +kernel)) ggX1_join_X1_lay
theorem dX1_join_0 : decode cX1_join 0 = .ok (.iload_n 1, 1) := by decide +kernel
theorem dX1_join_1 : decode cX1_join 1 = .ok (.invokestatic 80, 3) := by decide +kernel
theorem dX1_join_4 : decode cX1_join 4 = .ok (.ifCond .eq 18, 3) := by decide +kernel
theorem dX1_join_7 : decode cX1_join 7 = .ok (.iload_n 3, 1) := by decide +kernel
theorem dX1_join_8 : decode cX1_join 8 = .ok (.invokestatic 80, 3) := by decide +kernel
theorem dX1_join_11 : decode cX1_join 11 = .ok (.ifCond .eq 11, 3) := by decide +kernel
theorem dX1_join_14 : decode cX1_join 14 = .ok (.iload 4, 2) := by decide +kernel
theorem dX1_join_16 : decode cX1_join 16 = .ok (.invokestatic 80, 3) := by decide +kernel
theorem dX1_join_19 : decode cX1_join 19 = .ok (.ifCond .ne 6, 3) := by decide +kernel
theorem dX1_join_22 : decode cX1_join 22 = .ok (.bipush (-2), 2) := by decide +kernel
theorem dX1_join_24 : decode cX1_join 24 = .ok (.ireturn, 1) := by decide +kernel
theorem dX1_join_25 : decode cX1_join 25 = .ok (.iload_n 2, 1) := by decide +kernel
theorem dX1_join_26 : decode cX1_join 26 = .ok (.i2l, 1) := by decide +kernel
theorem dX1_join_27 : decode cX1_join 27 = .ok (.lconst 0, 1) := by decide +kernel
theorem dX1_join_28 : decode cX1_join 28 = .ok (.ldc2_w 96, 3) := by decide +kernel
theorem dX1_join_31 : decode cX1_join 31 = .ok (.invokestatic 38, 3) := by decide +kernel
theorem dX1_join_34 : decode cX1_join 34 = .ok (.ifCond .ne 6, 3) := by decide +kernel
theorem dX1_join_37 : decode cX1_join 37 = .ok (.bipush (-3), 2) := by decide +kernel
theorem dX1_join_39 : decode cX1_join 39 = .ok (.ireturn, 1) := by decide +kernel
theorem dX1_join_40 : decode cX1_join 40 = .ok (.iload_n 2, 1) := by decide +kernel
theorem dX1_join_41 : decode cX1_join 41 = .ok (.iconst 2, 1) := by decide +kernel
theorem dX1_join_42 : decode cX1_join 42 = .ok (.if_icmp .ne 20, 3) := by decide +kernel
theorem dX1_join_45 : decode cX1_join 45 = .ok (.aload_n 0, 1) := by decide +kernel
theorem dX1_join_46 : decode cX1_join 46 = .ok (.iload_n 3, 1) := by decide +kernel
theorem dX1_join_47 : decode cX1_join 47 = .ok (.aload_n 0, 1) := by decide +kernel
theorem dX1_join_48 : decode cX1_join 48 = .ok (.getfield 13, 3) := by decide +kernel
theorem dX1_join_51 : decode cX1_join 51 = .ok (.bipush 12, 2) := by decide +kernel
theorem dX1_join_53 : decode cX1_join 53 = .ok (.iload 4, 2) := by decide +kernel
theorem dX1_join_55 : decode cX1_join 55 = .ok (.imul, 1) := by decide +kernel
theorem dX1_join_56 : decode cX1_join 56 = .ok (.invokevirtual 98, 3) := by decide +kernel
theorem dX1_join_59 : decode cX1_join 59 = .ok (.goto 91, 3) := by decide +kernel
theorem dX1_join_62 : decode cX1_join 62 = .ok (.aload_n 0, 1) := by decide +kernel
theorem dX1_join_63 : decode cX1_join 63 = .ok (.invokevirtual 83, 3) := by decide +kernel
theorem dX1_join_66 : decode cX1_join 66 = .ok (.iconst 0, 1) := by decide +kernel
theorem dX1_join_67 : decode cX1_join 67 = .ok (.istore 5, 2) := by decide +kernel
theorem dX1_join_69 : decode cX1_join 69 = .ok (.iload 5, 2) := by decide +kernel
theorem dX1_join_71 : decode cX1_join 71 = .ok (.aload_n 0, 1) := by decide +kernel
theorem dX1_join_72 : decode cX1_join 72 = .ok (.getfield 55, 3) := by decide +kernel
theorem dX1_join_75 : decode cX1_join 75 = .ok (.if_icmp .ge 75, 3) := by decide +kernel
theorem dX1_join_78 : decode cX1_join 78 = .ok (.aload_n 0, 1) := by decide +kernel
theorem dX1_join_79 : decode cX1_join 79 = .ok (.getfield 20, 3) := by decide +kernel
theorem dX1_join_82 : decode cX1_join 82 = .ok (.iload 5, 2) := by decide +kernel
theorem dX1_join_84 : decode cX1_join 84 = .ok (.iload_n 2, 1) := by decide +kernel
theorem dX1_join_85 : decode cX1_join 85 = .ok (.ifCond .ne 32, 3) := by decide +kernel
theorem dX1_join_88 : decode cX1_join 88 = .ok (.aload_n 0, 1) := by decide +kernel
theorem dX1_join_89 : decode cX1_join 89 = .ok (.getfield 13, 3) := by decide +kernel
theorem dX1_join_92 : decode cX1_join 92 = .ok (.bipush 12, 2) := by decide +kernel
theorem dX1_join_94 : decode cX1_join 94 = .ok (.iload_n 3, 1) := by decide +kernel
theorem dX1_join_95 : decode cX1_join 95 = .ok (.imul, 1) := by decide +kernel
theorem dX1_join_96 : decode cX1_join 96 = .ok (.iload 5, 2) := by decide +kernel
theorem dX1_join_98 : decode cX1_join 98 = .ok (.iadd, 1) := by decide +kernel
theorem dX1_join_99 : decode cX1_join 99 = .ok (.laload, 1) := by decide +kernel
theorem dX1_join_100 : decode cX1_join 100 = .ok (.aload_n 0, 1) := by decide +kernel
theorem dX1_join_101 : decode cX1_join 101 = .ok (.getfield 13, 3) := by decide +kernel
theorem dX1_join_104 : decode cX1_join 104 = .ok (.bipush 12, 2) := by decide +kernel
theorem dX1_join_106 : decode cX1_join 106 = .ok (.iload 4, 2) := by decide +kernel
theorem dX1_join_108 : decode cX1_join 108 = .ok (.imul, 1) := by decide +kernel
theorem dX1_join_109 : decode cX1_join 109 = .ok (.iload 5, 2) := by decide +kernel
theorem dX1_join_111 : decode cX1_join 111 = .ok (.iadd, 1) := by decide +kernel
theorem dX1_join_112 : decode cX1_join 112 = .ok (.laload, 1) := by decide +kernel
theorem dX1_join_113 : decode cX1_join 113 = .ok (.ladd, 1) := by decide +kernel
theorem dX1_join_114 : decode cX1_join 114 = .ok (.goto 29, 3) := by decide +kernel
theorem dX1_join_117 : decode cX1_join 117 = .ok (.aload_n 0, 1) := by decide +kernel
theorem dX1_join_118 : decode cX1_join 118 = .ok (.getfield 13, 3) := by decide +kernel
theorem dX1_join_121 : decode cX1_join 121 = .ok (.bipush 12, 2) := by decide +kernel
theorem dX1_join_123 : decode cX1_join 123 = .ok (.iload_n 3, 1) := by decide +kernel
theorem dX1_join_124 : decode cX1_join 124 = .ok (.imul, 1) := by decide +kernel
theorem dX1_join_125 : decode cX1_join 125 = .ok (.iload 5, 2) := by decide +kernel
theorem dX1_join_127 : decode cX1_join 127 = .ok (.iadd, 1) := by decide +kernel
theorem dX1_join_128 : decode cX1_join 128 = .ok (.laload, 1) := by decide +kernel
theorem dX1_join_129 : decode cX1_join 129 = .ok (.aload_n 0, 1) := by decide +kernel
theorem dX1_join_130 : decode cX1_join 130 = .ok (.getfield 13, 3) := by decide +kernel
theorem dX1_join_133 : decode cX1_join 133 = .ok (.bipush 12, 2) := by decide +kernel
theorem dX1_join_135 : decode cX1_join 135 = .ok (.iload 4, 2) := by decide +kernel
theorem dX1_join_137 : decode cX1_join 137 = .ok (.imul, 1) := by decide +kernel
theorem dX1_join_138 : decode cX1_join 138 = .ok (.iload 5, 2) := by decide +kernel
theorem dX1_join_140 : decode cX1_join 140 = .ok (.iadd, 1) := by decide +kernel
theorem dX1_join_141 : decode cX1_join 141 = .ok (.laload, 1) := by decide +kernel
theorem dX1_join_142 : decode cX1_join 142 = .ok (.lsub, 1) := by decide +kernel
theorem dX1_join_143 : decode cX1_join 143 = .ok (.lastore, 1) := by decide +kernel
theorem dX1_join_144 : decode cX1_join 144 = .ok (.iinc 5 1, 3) := by decide +kernel
theorem dX1_join_147 : decode cX1_join 147 = .ok (.goto (-78), 3) := by decide +kernel
theorem dX1_join_150 : decode cX1_join 150 = .ok (.aload_n 0, 1) := by decide +kernel
theorem dX1_join_151 : decode cX1_join 151 = .ok (.iload_n 1, 1) := by decide +kernel
theorem dX1_join_152 : decode cX1_join 152 = .ok (.invokevirtual 89, 3) := by decide +kernel
theorem dX1_join_155 : decode cX1_join 155 = .ok (.ireturn, 1) := by decide +kernel
set_option maxRecDepth 20000 in
theorem ggX1_turnOver_X1_empty : GoodIn wsX1_turnOver wsX1_empty := goodIn_r _ [9, 2, 18, 19, 20, 21, 22, 23, 24, 25, 26, 27, 28] (by decide +kernel) (by decide +kernel)
set_option maxRecDepth 20000 in
theorem gX1_turnOver_X1_empty : GoodIn wsX1_turnOver (wsV RX1 83 RX1 yX1_empty wsX1_empty) := goodIn_app (goodIn_of _ (by decide +kernel)) ggX1_turnOver_X1_empty
set_option maxRecDepth 20000 in
theorem ggX1_turnOver_X1_rem : GoodIn wsX1_turnOver wsX1_rem := goodIn_r _ [12] (by decide +kernel) (by decide +kernel)
set_option maxRecDepth 20000 in
theorem gX1_turnOver_X1_rem : GoodIn wsX1_turnOver (va_wsS RX1 68 yX1_rem wsX1_rem) := goodIn_app (goodIn_of _ (by decide +kernel)) ggX1_turnOver_X1_rem
set_option maxRecDepth 20000 in
theorem ggX1_turnOver_X1_reduce : GoodIn wsX1_turnOver wsX1_reduce := goodIn_r _ [16, 1, 2, 17, 18, 19, 20, 21, 22, 23, 24, 25, 26, 27, 28] (by decide +kernel) (by decide +kernel)
set_option maxRecDepth 20000 in
theorem gX1_turnOver_X1_reduce : GoodIn wsX1_turnOver (wsV RX1 86 RX1 yX1_reduce wsX1_reduce) := goodIn_app (goodIn_of _ (by decide +kernel)) ggX1_turnOver_X1_reduce
theorem dX1_turnOver_0 : decode cX1_turnOver 0 = .ok (.aload_n 0, 1) := by decide +kernel
theorem dX1_turnOver_1 : decode cX1_turnOver 1 = .ok (.invokevirtual 83, 3) := by decide +kernel
theorem dX1_turnOver_4 : decode cX1_turnOver 4 = .ok (.iconst 0, 1) := by decide +kernel
theorem dX1_turnOver_5 : decode cX1_turnOver 5 = .ok (.istore_n 3, 1) := by decide +kernel
theorem dX1_turnOver_6 : decode cX1_turnOver 6 = .ok (.iload_n 3, 1) := by decide +kernel
theorem dX1_turnOver_7 : decode cX1_turnOver 7 = .ok (.aload_n 0, 1) := by decide +kernel
theorem dX1_turnOver_8 : decode cX1_turnOver 8 = .ok (.getfield 55, 3) := by decide +kernel
theorem dX1_turnOver_11 : decode cX1_turnOver 11 = .ok (.if_icmp .ge 40, 3) := by decide +kernel
theorem dX1_turnOver_14 : decode cX1_turnOver 14 = .ok (.aload_n 0, 1) := by decide +kernel
theorem dX1_turnOver_15 : decode cX1_turnOver 15 = .ok (.getfield 20, 3) := by decide +kernel
theorem dX1_turnOver_18 : decode cX1_turnOver 18 = .ok (.iload_n 3, 1) := by decide +kernel
theorem dX1_turnOver_19 : decode cX1_turnOver 19 = .ok (.i2l, 1) := by decide +kernel
theorem dX1_turnOver_20 : decode cX1_turnOver 20 = .ok (.iload_n 2, 1) := by decide +kernel
theorem dX1_turnOver_21 : decode cX1_turnOver 21 = .ok (.i2l, 1) := by decide +kernel
theorem dX1_turnOver_22 : decode cX1_turnOver 22 = .ok (.lmul, 1) := by decide +kernel
theorem dX1_turnOver_23 : decode cX1_turnOver 23 = .ok (.aload_n 0, 1) := by decide +kernel
theorem dX1_turnOver_24 : decode cX1_turnOver 24 = .ok (.getfield 52, 3) := by decide +kernel
theorem dX1_turnOver_27 : decode cX1_turnOver 27 = .ok (.invokestatic 68, 3) := by decide +kernel
theorem dX1_turnOver_30 : decode cX1_turnOver 30 = .ok (.dup2, 1) := by decide +kernel
theorem dX1_turnOver_31 : decode cX1_turnOver 31 = .ok (.laload, 1) := by decide +kernel
theorem dX1_turnOver_32 : decode cX1_turnOver 32 = .ok (.aload_n 0, 1) := by decide +kernel
theorem dX1_turnOver_33 : decode cX1_turnOver 33 = .ok (.getfield 13, 3) := by decide +kernel
theorem dX1_turnOver_36 : decode cX1_turnOver 36 = .ok (.bipush 12, 2) := by decide +kernel
theorem dX1_turnOver_38 : decode cX1_turnOver 38 = .ok (.iload_n 1, 1) := by decide +kernel
theorem dX1_turnOver_39 : decode cX1_turnOver 39 = .ok (.imul, 1) := by decide +kernel
theorem dX1_turnOver_40 : decode cX1_turnOver 40 = .ok (.iload_n 3, 1) := by decide +kernel
theorem dX1_turnOver_41 : decode cX1_turnOver 41 = .ok (.iadd, 1) := by decide +kernel
theorem dX1_turnOver_42 : decode cX1_turnOver 42 = .ok (.laload, 1) := by decide +kernel
theorem dX1_turnOver_43 : decode cX1_turnOver 43 = .ok (.ladd, 1) := by decide +kernel
theorem dX1_turnOver_44 : decode cX1_turnOver 44 = .ok (.lastore, 1) := by decide +kernel
theorem dX1_turnOver_45 : decode cX1_turnOver 45 = .ok (.iinc 3 1, 3) := by decide +kernel
theorem dX1_turnOver_48 : decode cX1_turnOver 48 = .ok (.goto (-42), 3) := by decide +kernel
theorem dX1_turnOver_51 : decode cX1_turnOver 51 = .ok (.aload_n 0, 1) := by decide +kernel
theorem dX1_turnOver_52 : decode cX1_turnOver 52 = .ok (.invokevirtual 86, 3) := by decide +kernel
theorem dX1_turnOver_55 : decode cX1_turnOver 55 = .ok (.return_, 1) := by decide +kernel
set_option maxRecDepth 20000 in
theorem ggX1_turn_X1_isHold : GoodIn wsX1_turn wsX1_isHold := goodIn_r _ [5, 6, 7, 8, 4, 9] (by decide +kernel) (by decide +kernel)
set_option maxRecDepth 20000 in
theorem gX1_turn_X1_isHold : GoodIn wsX1_turn (va_wsS RX1 80 yX1_isHold wsX1_isHold) := goodIn_app (goodIn_of _ (by decide +kernel)) ggX1_turn_X1_isHold
set_option maxRecDepth 20000 in
theorem ggX1_turn_X1_rem : GoodIn wsX1_turn wsX1_rem := goodIn_r _ [12] (by decide +kernel) (by decide +kernel)
set_option maxRecDepth 20000 in
theorem gX1_turn_X1_rem : GoodIn wsX1_turn (va_wsS RX1 68 yX1_rem wsX1_rem) := goodIn_app (goodIn_of _ (by decide +kernel)) ggX1_turn_X1_rem
set_option maxRecDepth 20000 in
theorem ggX1_turn_X1_common : GoodIn wsX1_turn wsX1_common := goodIn_r _ [15] (by decide +kernel) (by decide +kernel)
set_option maxRecDepth 20000 in
theorem gX1_turn_X1_common : GoodIn wsX1_turn (va_wsS RX1 58 yX1_common wsX1_common) := goodIn_app (goodIn_of _ (by decide +kernel)) ggX1_turn_X1_common
set_option maxRecDepth 20000 in
theorem ggX1_turn_X1_turnOver : GoodIn wsX1_turn wsX1_turnOver := goodIn_r _ [19, 20, 21, 1, 22, 23, 24, 25, 4, 26, 10, 11, 12, 27, 28, 29, 30, 31, 38, 39, 40, 41, 42, 43, 44, 45, 46, 47, 48] (by decide +kernel) (by decide +kernel)
set_option maxRecDepth 20000 in
theorem gX1_turn_X1_turnOver : GoodIn wsX1_turn (wsV RX1 102 RX1 yX1_turnOver wsX1_turnOver) := goodIn_app (goodIn_of _ (by decide +kernel)) ggX1_turn_X1_turnOver
set_option maxRecDepth 20000 in
theorem ggX1_turn_X1_lay : GoodIn wsX1_turn wsX1_lay := goodIn_r _ [35, 20, 21, 36, 37, 22, 7, 8, 4, 9, 38, 39, 40, 41, 42, 43, 44, 45, 46, 47, 48] (by decide +kernel) (by decide +kernel)
set_option maxRecDepth 20000 in
theorem gX1_turn_X1_lay : GoodIn wsX1_turn (wsV RX1 89 RX1 yX1_lay wsX1_lay) := goodIn_app (goodIn_of _ (by decide +kernel)) ggX1_turn_X1_lay
theorem dX1_turn_0 : decode cX1_turn 0 = .ok (.iload_n 1, 1) := by decide +kernel
theorem dX1_turn_1 : decode cX1_turn 1 = .ok (.invokestatic 80, 3) := by decide +kernel
theorem dX1_turn_4 : decode cX1_turn 4 = .ok (.ifCond .eq 10, 3) := by decide +kernel
theorem dX1_turn_7 : decode cX1_turn 7 = .ok (.iload_n 2, 1) := by decide +kernel
theorem dX1_turn_8 : decode cX1_turn 8 = .ok (.invokestatic 80, 3) := by decide +kernel
theorem dX1_turn_11 : decode cX1_turn 11 = .ok (.ifCond .ne 6, 3) := by decide +kernel
theorem dX1_turn_14 : decode cX1_turn 14 = .ok (.bipush (-2), 2) := by decide +kernel
theorem dX1_turn_16 : decode cX1_turn 16 = .ok (.ireturn, 1) := by decide +kernel
theorem dX1_turn_17 : decode cX1_turn 17 = .ok (.iload_n 3, 1) := by decide +kernel
theorem dX1_turn_18 : decode cX1_turn 18 = .ok (.i2l, 1) := by decide +kernel
theorem dX1_turn_19 : decode cX1_turn 19 = .ok (.aload_n 0, 1) := by decide +kernel
theorem dX1_turn_20 : decode cX1_turn 20 = .ok (.getfield 52, 3) := by decide +kernel
theorem dX1_turn_23 : decode cX1_turn 23 = .ok (.invokestatic 68, 3) := by decide +kernel
theorem dX1_turn_26 : decode cX1_turn 26 = .ok (.aload_n 0, 1) := by decide +kernel
theorem dX1_turn_27 : decode cX1_turn 27 = .ok (.getfield 52, 3) := by decide +kernel
theorem dX1_turn_30 : decode cX1_turn 30 = .ok (.invokestatic 58, 3) := by decide +kernel
theorem dX1_turn_33 : decode cX1_turn 33 = .ok (.iconst 1, 1) := by decide +kernel
theorem dX1_turn_34 : decode cX1_turn 34 = .ok (.if_icmp .eq 6, 3) := by decide +kernel
theorem dX1_turn_37 : decode cX1_turn 37 = .ok (.bipush (-3), 2) := by decide +kernel
theorem dX1_turn_39 : decode cX1_turn 39 = .ok (.ireturn, 1) := by decide +kernel
theorem dX1_turn_40 : decode cX1_turn 40 = .ok (.aload_n 0, 1) := by decide +kernel
theorem dX1_turn_41 : decode cX1_turn 41 = .ok (.iload_n 2, 1) := by decide +kernel
theorem dX1_turn_42 : decode cX1_turn 42 = .ok (.iload_n 3, 1) := by decide +kernel
theorem dX1_turn_43 : decode cX1_turn 43 = .ok (.invokevirtual 102, 3) := by decide +kernel
theorem dX1_turn_46 : decode cX1_turn 46 = .ok (.aload_n 0, 1) := by decide +kernel
theorem dX1_turn_47 : decode cX1_turn 47 = .ok (.iload_n 1, 1) := by decide +kernel
theorem dX1_turn_48 : decode cX1_turn 48 = .ok (.invokevirtual 89, 3) := by decide +kernel
theorem dX1_turn_51 : decode cX1_turn 51 = .ok (.ireturn, 1) := by decide +kernel
set_option maxRecDepth 20000 in
theorem ggX1_at_X1_isHold : GoodIn wsX1_at wsX1_isHold := goodIn_r _ [7, 8, 9, 10, 6, 11] (by decide +kernel) (by decide +kernel)
set_option maxRecDepth 20000 in
theorem gX1_at_X1_isHold : GoodIn wsX1_at (va_wsS RX1 80 yX1_isHold wsX1_isHold) := goodIn_app (goodIn_of _ (by decide +kernel)) ggX1_at_X1_isHold
set_option maxRecDepth 20000 in
theorem ggX1_at_X1_in : GoodIn wsX1_at wsX1_in := goodIn_r _ [11] (by decide +kernel) (by decide +kernel)
set_option maxRecDepth 20000 in
theorem gX1_at_X1_in : GoodIn wsX1_at (va_wsS RX1 38 yX1_in wsX1_in) := goodIn_app (goodIn_of _ (by decide +kernel)) ggX1_at_X1_in
theorem dX1_at_0 : decode cX1_at 0 = .ok (.iload_n 1, 1) := by decide +kernel
theorem dX1_at_1 : decode cX1_at 1 = .ok (.invokestatic 80, 3) := by decide +kernel
theorem dX1_at_4 : decode cX1_at 4 = .ok (.ifCond .eq 34, 3) := by decide +kernel
theorem dX1_at_7 : decode cX1_at 7 = .ok (.iload_n 2, 1) := by decide +kernel
theorem dX1_at_8 : decode cX1_at 8 = .ok (.i2l, 1) := by decide +kernel
theorem dX1_at_9 : decode cX1_at 9 = .ok (.lconst 0, 1) := by decide +kernel
theorem dX1_at_10 : decode cX1_at 10 = .ok (.aload_n 0, 1) := by decide +kernel
theorem dX1_at_11 : decode cX1_at 11 = .ok (.getfield 55, 3) := by decide +kernel
theorem dX1_at_14 : decode cX1_at 14 = .ok (.iconst 1, 1) := by decide +kernel
theorem dX1_at_15 : decode cX1_at 15 = .ok (.isub, 1) := by decide +kernel
theorem dX1_at_16 : decode cX1_at 16 = .ok (.i2l, 1) := by decide +kernel
theorem dX1_at_17 : decode cX1_at 17 = .ok (.invokestatic 38, 3) := by decide +kernel
theorem dX1_at_20 : decode cX1_at 20 = .ok (.ifCond .eq 18, 3) := by decide +kernel
theorem dX1_at_23 : decode cX1_at 23 = .ok (.aload_n 0, 1) := by decide +kernel
theorem dX1_at_24 : decode cX1_at 24 = .ok (.getfield 13, 3) := by decide +kernel
theorem dX1_at_27 : decode cX1_at 27 = .ok (.bipush 12, 2) := by decide +kernel
theorem dX1_at_29 : decode cX1_at 29 = .ok (.iload_n 1, 1) := by decide +kernel
theorem dX1_at_30 : decode cX1_at 30 = .ok (.imul, 1) := by decide +kernel
theorem dX1_at_31 : decode cX1_at 31 = .ok (.iload_n 2, 1) := by decide +kernel
theorem dX1_at_32 : decode cX1_at 32 = .ok (.iadd, 1) := by decide +kernel
theorem dX1_at_33 : decode cX1_at 33 = .ok (.laload, 1) := by decide +kernel
theorem dX1_at_34 : decode cX1_at 34 = .ok (.l2i, 1) := by decide +kernel
theorem dX1_at_35 : decode cX1_at 35 = .ok (.goto 5, 3) := by decide +kernel
theorem dX1_at_38 : decode cX1_at 38 = .ok (.ldc 106, 2) := by decide +kernel
theorem dX1_at_40 : decode cX1_at 40 = .ok (.ireturn, 1) := by decide +kernel
set_option maxRecDepth 20000 in
theorem ggX1_same_X1_isHold : GoodIn wsX1_same wsX1_isHold := goodIn_r _ [5, 6, 7, 8, 4, 9] (by decide +kernel) (by decide +kernel)
set_option maxRecDepth 20000 in
theorem gX1_same_X1_isHold : GoodIn wsX1_same (va_wsS RX1 80 yX1_isHold wsX1_isHold) := goodIn_app (goodIn_of _ (by decide +kernel)) ggX1_same_X1_isHold
theorem dX1_same_0 : decode cX1_same 0 = .ok (.iload_n 1, 1) := by decide +kernel
theorem dX1_same_1 : decode cX1_same 1 = .ok (.invokestatic 80, 3) := by decide +kernel
theorem dX1_same_4 : decode cX1_same 4 = .ok (.ifCond .eq 10, 3) := by decide +kernel
theorem dX1_same_7 : decode cX1_same 7 = .ok (.iload_n 2, 1) := by decide +kernel
theorem dX1_same_8 : decode cX1_same 8 = .ok (.invokestatic 80, 3) := by decide +kernel
theorem dX1_same_11 : decode cX1_same 11 = .ok (.ifCond .ne 6, 3) := by decide +kernel
theorem dX1_same_14 : decode cX1_same 14 = .ok (.bipush (-2), 2) := by decide +kernel
theorem dX1_same_16 : decode cX1_same 16 = .ok (.ireturn, 1) := by decide +kernel
theorem dX1_same_17 : decode cX1_same 17 = .ok (.iconst 1, 1) := by decide +kernel
theorem dX1_same_18 : decode cX1_same 18 = .ok (.istore_n 3, 1) := by decide +kernel
theorem dX1_same_19 : decode cX1_same 19 = .ok (.iconst 0, 1) := by decide +kernel
theorem dX1_same_20 : decode cX1_same 20 = .ok (.istore 4, 2) := by decide +kernel
theorem dX1_same_22 : decode cX1_same 22 = .ok (.iload 4, 2) := by decide +kernel
theorem dX1_same_24 : decode cX1_same 24 = .ok (.bipush 12, 2) := by decide +kernel
theorem dX1_same_26 : decode cX1_same 26 = .ok (.if_icmp .ge 47, 3) := by decide +kernel
theorem dX1_same_29 : decode cX1_same 29 = .ok (.iload_n 3, 1) := by decide +kernel
theorem dX1_same_30 : decode cX1_same 30 = .ok (.ifCond .eq 35, 3) := by decide +kernel
theorem dX1_same_33 : decode cX1_same 33 = .ok (.aload_n 0, 1) := by decide +kernel
theorem dX1_same_34 : decode cX1_same 34 = .ok (.getfield 13, 3) := by decide +kernel
theorem dX1_same_37 : decode cX1_same 37 = .ok (.bipush 12, 2) := by decide +kernel
theorem dX1_same_39 : decode cX1_same 39 = .ok (.iload_n 1, 1) := by decide +kernel
theorem dX1_same_40 : decode cX1_same 40 = .ok (.imul, 1) := by decide +kernel
theorem dX1_same_41 : decode cX1_same 41 = .ok (.iload 4, 2) := by decide +kernel
theorem dX1_same_43 : decode cX1_same 43 = .ok (.iadd, 1) := by decide +kernel
theorem dX1_same_44 : decode cX1_same 44 = .ok (.laload, 1) := by decide +kernel
theorem dX1_same_45 : decode cX1_same 45 = .ok (.aload_n 0, 1) := by decide +kernel
theorem dX1_same_46 : decode cX1_same 46 = .ok (.getfield 13, 3) := by decide +kernel
theorem dX1_same_49 : decode cX1_same 49 = .ok (.bipush 12, 2) := by decide +kernel
theorem dX1_same_51 : decode cX1_same 51 = .ok (.iload_n 2, 1) := by decide +kernel
theorem dX1_same_52 : decode cX1_same 52 = .ok (.imul, 1) := by decide +kernel
theorem dX1_same_53 : decode cX1_same 53 = .ok (.iload 4, 2) := by decide +kernel
theorem dX1_same_55 : decode cX1_same 55 = .ok (.iadd, 1) := by decide +kernel
theorem dX1_same_56 : decode cX1_same 56 = .ok (.laload, 1) := by decide +kernel
theorem dX1_same_57 : decode cX1_same 57 = .ok (.lcmp, 1) := by decide +kernel
theorem dX1_same_58 : decode cX1_same 58 = .ok (.ifCond .ne 7, 3) := by decide +kernel
theorem dX1_same_61 : decode cX1_same 61 = .ok (.iconst 1, 1) := by decide +kernel
theorem dX1_same_62 : decode cX1_same 62 = .ok (.goto 4, 3) := by decide +kernel
theorem dX1_same_65 : decode cX1_same 65 = .ok (.iconst 0, 1) := by decide +kernel
theorem dX1_same_66 : decode cX1_same 66 = .ok (.istore_n 3, 1) := by decide +kernel
theorem dX1_same_67 : decode cX1_same 67 = .ok (.iinc 4 1, 3) := by decide +kernel
theorem dX1_same_70 : decode cX1_same 70 = .ok (.goto (-48), 3) := by decide +kernel
theorem dX1_same_73 : decode cX1_same 73 = .ok (.iload_n 3, 1) := by decide +kernel
theorem dX1_same_74 : decode cX1_same 74 = .ok (.ifCond .eq 7, 3) := by decide +kernel
theorem dX1_same_77 : decode cX1_same 77 = .ok (.iconst 1, 1) := by decide +kernel
theorem dX1_same_78 : decode cX1_same 78 = .ok (.goto 4, 3) := by decide +kernel
theorem dX1_same_81 : decode cX1_same 81 = .ok (.iconst 0, 1) := by decide +kernel
theorem dX1_same_82 : decode cX1_same 82 = .ok (.ireturn, 1) := by decide +kernel
set_option maxRecDepth 20000 in
theorem ggX1_size_X1_isHold : GoodIn wsX1_size wsX1_isHold := goodIn_r _ [9, 10, 11, 12, 8, 13] (by decide +kernel) (by decide +kernel)
set_option maxRecDepth 20000 in
theorem gX1_size_X1_isHold : GoodIn wsX1_size (va_wsS RX1 80 yX1_isHold wsX1_isHold) := goodIn_app (goodIn_of _ (by decide +kernel)) ggX1_size_X1_isHold
set_option maxRecDepth 20000 in
theorem ggX1_size_X1_turnOver : GoodIn wsX1_size wsX1_turnOver := goodIn_r _ [17, 5, 4, 2, 18, 19, 20, 21, 8, 22, 23, 24, 25, 26, 27, 28, 29, 30, 35, 36, 37, 38, 39, 40, 41, 42, 43, 44, 45] (by decide +kernel) (by decide +kernel)
set_option maxRecDepth 20000 in
theorem gX1_size_X1_turnOver : GoodIn wsX1_size (wsV RX1 102 RX1 yX1_turnOver wsX1_turnOver) := goodIn_app (goodIn_of _ (by decide +kernel)) ggX1_size_X1_turnOver
set_option maxRecDepth 20000 in
theorem ggX1_size_X1_times : GoodIn wsX1_size wsX1_times := goodIn_r _ [34, 5, 4, 18, 19, 20, 21, 8, 22, 26, 27, 28, 29, 30, 35, 36, 37, 38, 39, 40, 41, 42, 43, 44, 45] (by decide +kernel) (by decide +kernel)
set_option maxRecDepth 20000 in
theorem gX1_size_X1_times : GoodIn wsX1_size (wsV RX1 98 RX1 yX1_times wsX1_times) := goodIn_app (goodIn_of _ (by decide +kernel)) ggX1_size_X1_times
theorem dX1_size_0 : decode cX1_size 0 = .ok (.iload_n 1, 1) := by decide +kernel
theorem dX1_size_1 : decode cX1_size 1 = .ok (.invokestatic 80, 3) := by decide +kernel
theorem dX1_size_4 : decode cX1_size 4 = .ok (.ifCond .ne 7, 3) := by decide +kernel
theorem dX1_size_7 : decode cX1_size 7 = .ok (.ldc2_w 107, 3) := by decide +kernel
theorem dX1_size_10 : decode cX1_size 10 = .ok (.lreturn, 1) := by decide +kernel
theorem dX1_size_11 : decode cX1_size 11 = .ok (.aload_n 0, 1) := by decide +kernel
theorem dX1_size_12 : decode cX1_size 12 = .ok (.iload_n 1, 1) := by decide +kernel
theorem dX1_size_13 : decode cX1_size 13 = .ok (.aload_n 0, 1) := by decide +kernel
theorem dX1_size_14 : decode cX1_size 14 = .ok (.getfield 52, 3) := by decide +kernel
theorem dX1_size_17 : decode cX1_size 17 = .ok (.iconst 1, 1) := by decide +kernel
theorem dX1_size_18 : decode cX1_size 18 = .ok (.if_icmp .ne 7, 3) := by decide +kernel
theorem dX1_size_21 : decode cX1_size 21 = .ok (.iconst 1, 1) := by decide +kernel
theorem dX1_size_22 : decode cX1_size 22 = .ok (.goto 9, 3) := by decide +kernel
theorem dX1_size_25 : decode cX1_size 25 = .ok (.aload_n 0, 1) := by decide +kernel
theorem dX1_size_26 : decode cX1_size 26 = .ok (.getfield 52, 3) := by decide +kernel
theorem dX1_size_29 : decode cX1_size 29 = .ok (.iconst 1, 1) := by decide +kernel
theorem dX1_size_30 : decode cX1_size 30 = .ok (.isub, 1) := by decide +kernel
theorem dX1_size_31 : decode cX1_size 31 = .ok (.invokevirtual 102, 3) := by decide +kernel
theorem dX1_size_34 : decode cX1_size 34 = .ok (.iconst 0, 1) := by decide +kernel
theorem dX1_size_35 : decode cX1_size 35 = .ok (.istore_n 2, 1) := by decide +kernel
theorem dX1_size_36 : decode cX1_size 36 = .ok (.iload_n 2, 1) := by decide +kernel
theorem dX1_size_37 : decode cX1_size 37 = .ok (.bipush 24, 2) := by decide +kernel
theorem dX1_size_39 : decode cX1_size 39 = .ok (.if_icmp .ge 21, 3) := by decide +kernel
theorem dX1_size_42 : decode cX1_size 42 = .ok (.aload_n 0, 1) := by decide +kernel
theorem dX1_size_43 : decode cX1_size 43 = .ok (.getfield 23, 3) := by decide +kernel
theorem dX1_size_46 : decode cX1_size 46 = .ok (.iload_n 2, 1) := by decide +kernel
theorem dX1_size_47 : decode cX1_size 47 = .ok (.aload_n 0, 1) := by decide +kernel
theorem dX1_size_48 : decode cX1_size 48 = .ok (.getfield 20, 3) := by decide +kernel
theorem dX1_size_51 : decode cX1_size 51 = .ok (.iload_n 2, 1) := by decide +kernel
theorem dX1_size_52 : decode cX1_size 52 = .ok (.laload, 1) := by decide +kernel
theorem dX1_size_53 : decode cX1_size 53 = .ok (.lastore, 1) := by decide +kernel
theorem dX1_size_54 : decode cX1_size 54 = .ok (.iinc 2 1, 3) := by decide +kernel
theorem dX1_size_57 : decode cX1_size 57 = .ok (.goto (-21), 3) := by decide +kernel
theorem dX1_size_60 : decode cX1_size 60 = .ok (.aload_n 0, 1) := by decide +kernel
theorem dX1_size_61 : decode cX1_size 61 = .ok (.iload_n 1, 1) := by decide +kernel
theorem dX1_size_62 : decode cX1_size 62 = .ok (.aload_n 0, 1) := by decide +kernel
theorem dX1_size_63 : decode cX1_size 63 = .ok (.getfield 23, 3) := by decide +kernel
theorem dX1_size_66 : decode cX1_size 66 = .ok (.iconst 0, 1) := by decide +kernel
theorem dX1_size_67 : decode cX1_size 67 = .ok (.invokevirtual 98, 3) := by decide +kernel
theorem dX1_size_70 : decode cX1_size 70 = .ok (.iconst 1, 1) := by decide +kernel
theorem dX1_size_71 : decode cX1_size 71 = .ok (.istore_n 2, 1) := by decide +kernel
theorem dX1_size_72 : decode cX1_size 72 = .ok (.iconst 1, 1) := by decide +kernel
theorem dX1_size_73 : decode cX1_size 73 = .ok (.istore_n 3, 1) := by decide +kernel
theorem dX1_size_74 : decode cX1_size 74 = .ok (.iload_n 3, 1) := by decide +kernel
theorem dX1_size_75 : decode cX1_size 75 = .ok (.aload_n 0, 1) := by decide +kernel
theorem dX1_size_76 : decode cX1_size 76 = .ok (.getfield 55, 3) := by decide +kernel
theorem dX1_size_79 : decode cX1_size 79 = .ok (.if_icmp .ge 30, 3) := by decide +kernel
theorem dX1_size_82 : decode cX1_size 82 = .ok (.iload_n 2, 1) := by decide +kernel
theorem dX1_size_83 : decode cX1_size 83 = .ok (.ifCond .eq 18, 3) := by decide +kernel
theorem dX1_size_86 : decode cX1_size 86 = .ok (.aload_n 0, 1) := by decide +kernel
theorem dX1_size_87 : decode cX1_size 87 = .ok (.getfield 20, 3) := by decide +kernel
theorem dX1_size_90 : decode cX1_size 90 = .ok (.iload_n 3, 1) := by decide +kernel
theorem dX1_size_91 : decode cX1_size 91 = .ok (.laload, 1) := by decide +kernel
theorem dX1_size_92 : decode cX1_size 92 = .ok (.lconst 0, 1) := by decide +kernel
theorem dX1_size_93 : decode cX1_size 93 = .ok (.lcmp, 1) := by decide +kernel
theorem dX1_size_94 : decode cX1_size 94 = .ok (.ifCond .ne 7, 3) := by decide +kernel
theorem dX1_size_97 : decode cX1_size 97 = .ok (.iconst 1, 1) := by decide +kernel
theorem dX1_size_98 : decode cX1_size 98 = .ok (.goto 4, 3) := by decide +kernel
theorem dX1_size_101 : decode cX1_size 101 = .ok (.iconst 0, 1) := by decide +kernel
theorem dX1_size_102 : decode cX1_size 102 = .ok (.istore_n 2, 1) := by decide +kernel
theorem dX1_size_103 : decode cX1_size 103 = .ok (.iinc 3 1, 3) := by decide +kernel
theorem dX1_size_106 : decode cX1_size 106 = .ok (.goto (-32), 3) := by decide +kernel
theorem dX1_size_109 : decode cX1_size 109 = .ok (.iload_n 2, 1) := by decide +kernel
theorem dX1_size_110 : decode cX1_size 110 = .ok (.ifCond .eq 12, 3) := by decide +kernel
theorem dX1_size_113 : decode cX1_size 113 = .ok (.aload_n 0, 1) := by decide +kernel
theorem dX1_size_114 : decode cX1_size 114 = .ok (.getfield 20, 3) := by decide +kernel
theorem dX1_size_117 : decode cX1_size 117 = .ok (.iconst 0, 1) := by decide +kernel
theorem dX1_size_118 : decode cX1_size 118 = .ok (.laload, 1) := by decide +kernel
theorem dX1_size_119 : decode cX1_size 119 = .ok (.goto 6, 3) := by decide +kernel
theorem dX1_size_122 : decode cX1_size 122 = .ok (.ldc2_w 107, 3) := by decide +kernel
theorem dX1_size_125 : decode cX1_size 125 = .ok (.lreturn, 1) := by decide +kernel
theorem dX1_power_0 : decode cX1_power 0 = .ok (.iconst 1, 1) := by decide +kernel
theorem dX1_power_1 : decode cX1_power 1 = .ok (.istore_n 2, 1) := by decide +kernel
theorem dX1_power_2 : decode cX1_power 2 = .ok (.iconst 0, 1) := by decide +kernel
theorem dX1_power_3 : decode cX1_power 3 = .ok (.istore_n 3, 1) := by decide +kernel
theorem dX1_power_4 : decode cX1_power 4 = .ok (.iload_n 3, 1) := by decide +kernel
theorem dX1_power_5 : decode cX1_power 5 = .ok (.aload_n 0, 1) := by decide +kernel
theorem dX1_power_6 : decode cX1_power 6 = .ok (.getfield 52, 3) := by decide +kernel
theorem dX1_power_9 : decode cX1_power 9 = .ok (.if_icmp .ge 18, 3) := by decide +kernel
theorem dX1_power_12 : decode cX1_power 12 = .ok (.iload_n 2, 1) := by decide +kernel
theorem dX1_power_13 : decode cX1_power 13 = .ok (.iload_n 1, 1) := by decide +kernel
theorem dX1_power_14 : decode cX1_power 14 = .ok (.imul, 1) := by decide +kernel
theorem dX1_power_15 : decode cX1_power 15 = .ok (.aload_n 0, 1) := by decide +kernel
theorem dX1_power_16 : decode cX1_power 16 = .ok (.getfield 42, 3) := by decide +kernel
theorem dX1_power_19 : decode cX1_power 19 = .ok (.irem, 1) := by decide +kernel
theorem dX1_power_20 : decode cX1_power 20 = .ok (.istore_n 2, 1) := by decide +kernel
theorem dX1_power_21 : decode cX1_power 21 = .ok (.iinc 3 1, 3) := by decide +kernel
theorem dX1_power_24 : decode cX1_power 24 = .ok (.goto (-20), 3) := by decide +kernel
theorem dX1_power_27 : decode cX1_power 27 = .ok (.iload_n 2, 1) := by decide +kernel
theorem dX1_power_28 : decode cX1_power 28 = .ok (.ireturn, 1) := by decide +kernel
set_option maxRecDepth 20000 in
theorem ggX1_solutions_X1_rem : GoodIn wsX1_solutions wsX1_rem := goodIn_r _ [5] (by decide +kernel) (by decide +kernel)
set_option maxRecDepth 20000 in
theorem gX1_solutions_X1_rem : GoodIn wsX1_solutions (va_wsS RX1 68 yX1_rem wsX1_rem) := goodIn_app (goodIn_of _ (by decide +kernel)) ggX1_solutions_X1_rem
set_option maxRecDepth 20000 in
theorem ggX1_solutions_X1_power : GoodIn wsX1_solutions wsX1_power := goodIn_r _ [9, 10, 1, 11, 12, 13, 14, 15, 16, 17, 18, 19, 20, 21] (by decide +kernel) (by decide +kernel)
set_option maxRecDepth 20000 in
theorem gX1_solutions_X1_power : GoodIn wsX1_solutions (wsV RX1 109 RX1 yX1_power wsX1_power) := goodIn_app (goodIn_of _ (by decide +kernel)) ggX1_solutions_X1_power
theorem dX1_solutions_0 : decode cX1_solutions 0 = .ok (.iconst 0, 1) := by decide +kernel
theorem dX1_solutions_1 : decode cX1_solutions 1 = .ok (.istore 4, 2) := by decide +kernel
theorem dX1_solutions_3 : decode cX1_solutions 3 = .ok (.iconst 0, 1) := by decide +kernel
theorem dX1_solutions_4 : decode cX1_solutions 4 = .ok (.istore 5, 2) := by decide +kernel
theorem dX1_solutions_6 : decode cX1_solutions 6 = .ok (.iload 5, 2) := by decide +kernel
theorem dX1_solutions_8 : decode cX1_solutions 8 = .ok (.aload_n 0, 1) := by decide +kernel
theorem dX1_solutions_9 : decode cX1_solutions 9 = .ok (.getfield 42, 3) := by decide +kernel
theorem dX1_solutions_12 : decode cX1_solutions 12 = .ok (.if_icmp .ge 91, 3) := by decide +kernel
theorem dX1_solutions_15 : decode cX1_solutions 15 = .ok (.iconst 0, 1) := by decide +kernel
theorem dX1_solutions_16 : decode cX1_solutions 16 = .ok (.istore 6, 2) := by decide +kernel
theorem dX1_solutions_18 : decode cX1_solutions 18 = .ok (.iload 6, 2) := by decide +kernel
theorem dX1_solutions_20 : decode cX1_solutions 20 = .ok (.aload_n 0, 1) := by decide +kernel
theorem dX1_solutions_21 : decode cX1_solutions 21 = .ok (.getfield 42, 3) := by decide +kernel
theorem dX1_solutions_24 : decode cX1_solutions 24 = .ok (.if_icmp .ge 73, 3) := by decide +kernel
theorem dX1_solutions_27 : decode cX1_solutions 27 = .ok (.iload_n 1, 1) := by decide +kernel
theorem dX1_solutions_28 : decode cX1_solutions 28 = .ok (.i2l, 1) := by decide +kernel
theorem dX1_solutions_29 : decode cX1_solutions 29 = .ok (.aload_n 0, 1) := by decide +kernel
theorem dX1_solutions_30 : decode cX1_solutions 30 = .ok (.getfield 42, 3) := by decide +kernel
theorem dX1_solutions_33 : decode cX1_solutions 33 = .ok (.invokestatic 68, 3) := by decide +kernel
theorem dX1_solutions_36 : decode cX1_solutions 36 = .ok (.aload_n 0, 1) := by decide +kernel
theorem dX1_solutions_37 : decode cX1_solutions 37 = .ok (.iload 5, 2) := by decide +kernel
theorem dX1_solutions_39 : decode cX1_solutions 39 = .ok (.invokevirtual 109, 3) := by decide +kernel
theorem dX1_solutions_42 : decode cX1_solutions 42 = .ok (.imul, 1) := by decide +kernel
theorem dX1_solutions_43 : decode cX1_solutions 43 = .ok (.iload_n 2, 1) := by decide +kernel
theorem dX1_solutions_44 : decode cX1_solutions 44 = .ok (.i2l, 1) := by decide +kernel
theorem dX1_solutions_45 : decode cX1_solutions 45 = .ok (.aload_n 0, 1) := by decide +kernel
theorem dX1_solutions_46 : decode cX1_solutions 46 = .ok (.getfield 42, 3) := by decide +kernel
theorem dX1_solutions_49 : decode cX1_solutions 49 = .ok (.invokestatic 68, 3) := by decide +kernel
theorem dX1_solutions_52 : decode cX1_solutions 52 = .ok (.aload_n 0, 1) := by decide +kernel
theorem dX1_solutions_53 : decode cX1_solutions 53 = .ok (.iload 6, 2) := by decide +kernel
theorem dX1_solutions_55 : decode cX1_solutions 55 = .ok (.invokevirtual 109, 3) := by decide +kernel
theorem dX1_solutions_58 : decode cX1_solutions 58 = .ok (.imul, 1) := by decide +kernel
theorem dX1_solutions_59 : decode cX1_solutions 59 = .ok (.iadd, 1) := by decide +kernel
theorem dX1_solutions_60 : decode cX1_solutions 60 = .ok (.istore 7, 2) := by decide +kernel
theorem dX1_solutions_62 : decode cX1_solutions 62 = .ok (.iload 4, 2) := by decide +kernel
theorem dX1_solutions_64 : decode cX1_solutions 64 = .ok (.iload 7, 2) := by decide +kernel
theorem dX1_solutions_66 : decode cX1_solutions 66 = .ok (.aload_n 0, 1) := by decide +kernel
theorem dX1_solutions_67 : decode cX1_solutions 67 = .ok (.getfield 42, 3) := by decide +kernel
theorem dX1_solutions_70 : decode cX1_solutions 70 = .ok (.irem, 1) := by decide +kernel
theorem dX1_solutions_71 : decode cX1_solutions 71 = .ok (.iload_n 3, 1) := by decide +kernel
theorem dX1_solutions_72 : decode cX1_solutions 72 = .ok (.i2l, 1) := by decide +kernel
theorem dX1_solutions_73 : decode cX1_solutions 73 = .ok (.aload_n 0, 1) := by decide +kernel
theorem dX1_solutions_74 : decode cX1_solutions 74 = .ok (.getfield 42, 3) := by decide +kernel
theorem dX1_solutions_77 : decode cX1_solutions 77 = .ok (.invokestatic 68, 3) := by decide +kernel
theorem dX1_solutions_80 : decode cX1_solutions 80 = .ok (.if_icmp .ne 7, 3) := by decide +kernel
theorem dX1_solutions_83 : decode cX1_solutions 83 = .ok (.iconst 1, 1) := by decide +kernel
theorem dX1_solutions_84 : decode cX1_solutions 84 = .ok (.goto 4, 3) := by decide +kernel
theorem dX1_solutions_87 : decode cX1_solutions 87 = .ok (.iconst 0, 1) := by decide +kernel
theorem dX1_solutions_88 : decode cX1_solutions 88 = .ok (.iadd, 1) := by decide +kernel
theorem dX1_solutions_89 : decode cX1_solutions 89 = .ok (.istore 4, 2) := by decide +kernel
theorem dX1_solutions_91 : decode cX1_solutions 91 = .ok (.iinc 6 1, 3) := by decide +kernel
theorem dX1_solutions_94 : decode cX1_solutions 94 = .ok (.goto (-76), 3) := by decide +kernel
theorem dX1_solutions_97 : decode cX1_solutions 97 = .ok (.iinc 5 1, 3) := by decide +kernel
theorem dX1_solutions_100 : decode cX1_solutions 100 = .ok (.goto (-94), 3) := by decide +kernel
theorem dX1_solutions_103 : decode cX1_solutions 103 = .ok (.iload 4, 2) := by decide +kernel
theorem dX1_solutions_105 : decode cX1_solutions 105 = .ok (.ireturn, 1) := by decide +kernel
set_option maxRecDepth 20000 in
theorem ggX1_rows_X1_in : GoodIn wsX1_rows wsX1_in := goodIn_r _ [9] (by decide +kernel) (by decide +kernel)
set_option maxRecDepth 20000 in
theorem gX1_rows_X1_in : GoodIn wsX1_rows (va_wsS RX1 38 yX1_in wsX1_in) := goodIn_app (goodIn_of _ (by decide +kernel)) ggX1_rows_X1_in
set_option maxRecDepth 20000 in
theorem ggX1_rows_X1_classOf : GoodIn wsX1_rows wsX1_classOf := goodIn_r _ [13, 14, 15, 19, 20, 21, 22, 23, 24, 25, 26, 27, 28, 29] (by decide +kernel) (by decide +kernel)
set_option maxRecDepth 20000 in
theorem gX1_rows_X1_classOf : GoodIn wsX1_rows (wsV RX1 72 RX1 yX1_classOf wsX1_classOf) := goodIn_app (goodIn_of _ (by decide +kernel)) ggX1_rows_X1_classOf
set_option maxRecDepth 20000 in
theorem ggX1_rows_X1_rem : GoodIn wsX1_rows wsX1_rem := goodIn_r _ [18] (by decide +kernel) (by decide +kernel)
set_option maxRecDepth 20000 in
theorem gX1_rows_X1_rem : GoodIn wsX1_rows (va_wsS RX1 68 yX1_rem wsX1_rem) := goodIn_app (goodIn_of _ (by decide +kernel)) ggX1_rows_X1_rem
theorem dX1_rows_0 : decode cX1_rows 0 = .ok (.iload_n 1, 1) := by decide +kernel
theorem dX1_rows_1 : decode cX1_rows 1 = .ok (.i2l, 1) := by decide +kernel
theorem dX1_rows_2 : decode cX1_rows 2 = .ok (.lconst 0, 1) := by decide +kernel
theorem dX1_rows_3 : decode cX1_rows 3 = .ok (.ldc2_w 112, 3) := by decide +kernel
theorem dX1_rows_6 : decode cX1_rows 6 = .ok (.invokestatic 38, 3) := by decide +kernel
theorem dX1_rows_9 : decode cX1_rows 9 = .ok (.ifCond .ne 7, 3) := by decide +kernel
theorem dX1_rows_12 : decode cX1_rows 12 = .ok (.ldc2_w 114, 3) := by decide +kernel
theorem dX1_rows_15 : decode cX1_rows 15 = .ok (.lreturn, 1) := by decide +kernel
theorem dX1_rows_16 : decode cX1_rows 16 = .ok (.iconst 0, 1) := by decide +kernel
theorem dX1_rows_17 : decode cX1_rows 17 = .ok (.istore_n 2, 1) := by decide +kernel
theorem dX1_rows_18 : decode cX1_rows 18 = .ok (.iload_n 2, 1) := by decide +kernel
theorem dX1_rows_19 : decode cX1_rows 19 = .ok (.aload_n 0, 1) := by decide +kernel
theorem dX1_rows_20 : decode cX1_rows 20 = .ok (.getfield 42, 3) := by decide +kernel
theorem dX1_rows_23 : decode cX1_rows 23 = .ok (.if_icmp .ge 24, 3) := by decide +kernel
theorem dX1_rows_26 : decode cX1_rows 26 = .ok (.aload_n 0, 1) := by decide +kernel
theorem dX1_rows_27 : decode cX1_rows 27 = .ok (.getfield 26, 3) := by decide +kernel
theorem dX1_rows_30 : decode cX1_rows 30 = .ok (.iload_n 2, 1) := by decide +kernel
theorem dX1_rows_31 : decode cX1_rows 31 = .ok (.iload_n 2, 1) := by decide +kernel
theorem dX1_rows_32 : decode cX1_rows 32 = .ok (.ifCond .ne 7, 3) := by decide +kernel
theorem dX1_rows_35 : decode cX1_rows 35 = .ok (.lconst 1, 1) := by decide +kernel
theorem dX1_rows_36 : decode cX1_rows 36 = .ok (.goto 4, 3) := by decide +kernel
theorem dX1_rows_39 : decode cX1_rows 39 = .ok (.lconst 0, 1) := by decide +kernel
theorem dX1_rows_40 : decode cX1_rows 40 = .ok (.lastore, 1) := by decide +kernel
theorem dX1_rows_41 : decode cX1_rows 41 = .ok (.iinc 2 1, 3) := by decide +kernel
theorem dX1_rows_44 : decode cX1_rows 44 = .ok (.goto (-26), 3) := by decide +kernel
theorem dX1_rows_47 : decode cX1_rows 47 = .ok (.iconst 0, 1) := by decide +kernel
theorem dX1_rows_48 : decode cX1_rows 48 = .ok (.istore_n 2, 1) := by decide +kernel
theorem dX1_rows_49 : decode cX1_rows 49 = .ok (.iload_n 2, 1) := by decide +kernel
theorem dX1_rows_50 : decode cX1_rows 50 = .ok (.iload_n 1, 1) := by decide +kernel
theorem dX1_rows_51 : decode cX1_rows 51 = .ok (.if_icmp .ge 117, 3) := by decide +kernel
theorem dX1_rows_54 : decode cX1_rows 54 = .ok (.iconst 0, 1) := by decide +kernel
theorem dX1_rows_55 : decode cX1_rows 55 = .ok (.istore_n 3, 1) := by decide +kernel
theorem dX1_rows_56 : decode cX1_rows 56 = .ok (.iload_n 3, 1) := by decide +kernel
theorem dX1_rows_57 : decode cX1_rows 57 = .ok (.aload_n 0, 1) := by decide +kernel
theorem dX1_rows_58 : decode cX1_rows 58 = .ok (.getfield 42, 3) := by decide +kernel
theorem dX1_rows_61 : decode cX1_rows 61 = .ok (.if_icmp .ge 73, 3) := by decide +kernel
theorem dX1_rows_64 : decode cX1_rows 64 = .ok (.lconst 0, 1) := by decide +kernel
theorem dX1_rows_65 : decode cX1_rows 65 = .ok (.lstore 4, 2) := by decide +kernel
theorem dX1_rows_67 : decode cX1_rows 67 = .ok (.iconst 1, 1) := by decide +kernel
theorem dX1_rows_68 : decode cX1_rows 68 = .ok (.istore 6, 2) := by decide +kernel
theorem dX1_rows_70 : decode cX1_rows 70 = .ok (.iload 6, 2) := by decide +kernel
theorem dX1_rows_72 : decode cX1_rows 72 = .ok (.aload_n 0, 1) := by decide +kernel
theorem dX1_rows_73 : decode cX1_rows 73 = .ok (.getfield 42, 3) := by decide +kernel
theorem dX1_rows_76 : decode cX1_rows 76 = .ok (.if_icmp .ge 44, 3) := by decide +kernel
theorem dX1_rows_79 : decode cX1_rows 79 = .ok (.lload 4, 2) := by decide +kernel
theorem dX1_rows_81 : decode cX1_rows 81 = .ok (.aload_n 0, 1) := by decide +kernel
theorem dX1_rows_82 : decode cX1_rows 82 = .ok (.iload 6, 2) := by decide +kernel
theorem dX1_rows_84 : decode cX1_rows 84 = .ok (.invokevirtual 72, 3) := by decide +kernel
theorem dX1_rows_87 : decode cX1_rows 87 = .ok (.ifCond .ne 23, 3) := by decide +kernel
theorem dX1_rows_90 : decode cX1_rows 90 = .ok (.aload_n 0, 1) := by decide +kernel
theorem dX1_rows_91 : decode cX1_rows 91 = .ok (.getfield 26, 3) := by decide +kernel
theorem dX1_rows_94 : decode cX1_rows 94 = .ok (.iload_n 3, 1) := by decide +kernel
theorem dX1_rows_95 : decode cX1_rows 95 = .ok (.iload 6, 2) := by decide +kernel
theorem dX1_rows_97 : decode cX1_rows 97 = .ok (.isub, 1) := by decide +kernel
theorem dX1_rows_98 : decode cX1_rows 98 = .ok (.i2l, 1) := by decide +kernel
theorem dX1_rows_99 : decode cX1_rows 99 = .ok (.aload_n 0, 1) := by decide +kernel
theorem dX1_rows_100 : decode cX1_rows 100 = .ok (.getfield 42, 3) := by decide +kernel
theorem dX1_rows_103 : decode cX1_rows 103 = .ok (.invokestatic 68, 3) := by decide +kernel
theorem dX1_rows_106 : decode cX1_rows 106 = .ok (.laload, 1) := by decide +kernel
theorem dX1_rows_107 : decode cX1_rows 107 = .ok (.goto 4, 3) := by decide +kernel
theorem dX1_rows_110 : decode cX1_rows 110 = .ok (.lconst 0, 1) := by decide +kernel
theorem dX1_rows_111 : decode cX1_rows 111 = .ok (.ladd, 1) := by decide +kernel
theorem dX1_rows_112 : decode cX1_rows 112 = .ok (.lstore 4, 2) := by decide +kernel
theorem dX1_rows_114 : decode cX1_rows 114 = .ok (.iinc 6 1, 3) := by decide +kernel
theorem dX1_rows_117 : decode cX1_rows 117 = .ok (.goto (-47), 3) := by decide +kernel
theorem dX1_rows_120 : decode cX1_rows 120 = .ok (.aload_n 0, 1) := by decide +kernel
theorem dX1_rows_121 : decode cX1_rows 121 = .ok (.getfield 29, 3) := by decide +kernel
theorem dX1_rows_124 : decode cX1_rows 124 = .ok (.iload_n 3, 1) := by decide +kernel
theorem dX1_rows_125 : decode cX1_rows 125 = .ok (.lload 4, 2) := by decide +kernel
theorem dX1_rows_127 : decode cX1_rows 127 = .ok (.lastore, 1) := by decide +kernel
theorem dX1_rows_128 : decode cX1_rows 128 = .ok (.iinc 3 1, 3) := by decide +kernel
theorem dX1_rows_131 : decode cX1_rows 131 = .ok (.goto (-75), 3) := by decide +kernel
theorem dX1_rows_134 : decode cX1_rows 134 = .ok (.iconst 0, 1) := by decide +kernel
theorem dX1_rows_135 : decode cX1_rows 135 = .ok (.istore_n 3, 1) := by decide +kernel
theorem dX1_rows_136 : decode cX1_rows 136 = .ok (.iload_n 3, 1) := by decide +kernel
theorem dX1_rows_137 : decode cX1_rows 137 = .ok (.aload_n 0, 1) := by decide +kernel
theorem dX1_rows_138 : decode cX1_rows 138 = .ok (.getfield 42, 3) := by decide +kernel
theorem dX1_rows_141 : decode cX1_rows 141 = .ok (.if_icmp .ge 21, 3) := by decide +kernel
theorem dX1_rows_144 : decode cX1_rows 144 = .ok (.aload_n 0, 1) := by decide +kernel
theorem dX1_rows_145 : decode cX1_rows 145 = .ok (.getfield 26, 3) := by decide +kernel
theorem dX1_rows_148 : decode cX1_rows 148 = .ok (.iload_n 3, 1) := by decide +kernel
theorem dX1_rows_149 : decode cX1_rows 149 = .ok (.aload_n 0, 1) := by decide +kernel
theorem dX1_rows_150 : decode cX1_rows 150 = .ok (.getfield 29, 3) := by decide +kernel
theorem dX1_rows_153 : decode cX1_rows 153 = .ok (.iload_n 3, 1) := by decide +kernel
theorem dX1_rows_154 : decode cX1_rows 154 = .ok (.laload, 1) := by decide +kernel
theorem dX1_rows_155 : decode cX1_rows 155 = .ok (.lastore, 1) := by decide +kernel
theorem dX1_rows_156 : decode cX1_rows 156 = .ok (.iinc 3 1, 3) := by decide +kernel
theorem dX1_rows_159 : decode cX1_rows 159 = .ok (.goto (-23), 3) := by decide +kernel
theorem dX1_rows_162 : decode cX1_rows 162 = .ok (.iinc 2 1, 3) := by decide +kernel
theorem dX1_rows_165 : decode cX1_rows 165 = .ok (.goto (-116), 3) := by decide +kernel
theorem dX1_rows_168 : decode cX1_rows 168 = .ok (.aload_n 0, 1) := by decide +kernel
theorem dX1_rows_169 : decode cX1_rows 169 = .ok (.getfield 26, 3) := by decide +kernel
theorem dX1_rows_172 : decode cX1_rows 172 = .ok (.iconst 0, 1) := by decide +kernel
theorem dX1_rows_173 : decode cX1_rows 173 = .ok (.laload, 1) := by decide +kernel
theorem dX1_rows_174 : decode cX1_rows 174 = .ok (.lreturn, 1) := by decide +kernel
set_option maxRecDepth 20000 in
theorem ggX1_signOf_X1_classOf : GoodIn wsX1_signOf wsX1_classOf := goodIn_r _ [5, 6, 7, 8, 9, 10, 11, 12, 13, 14, 15, 16, 17, 18] (by decide +kernel) (by decide +kernel)
set_option maxRecDepth 20000 in
theorem gX1_signOf_X1_classOf : GoodIn wsX1_signOf (wsV RX1 72 RX1 yX1_classOf wsX1_classOf) := goodIn_app (goodIn_of _ (by decide +kernel)) ggX1_signOf_X1_classOf
theorem dX1_signOf_0 : decode cX1_signOf 0 = .ok (.iload_n 3, 1) := by decide +kernel
theorem dX1_signOf_1 : decode cX1_signOf 1 = .ok (.ifCond .ne 7, 3) := by decide +kernel
theorem dX1_signOf_4 : decode cX1_signOf 4 = .ok (.iload_n 2, 1) := by decide +kernel
theorem dX1_signOf_5 : decode cX1_signOf 5 = .ok (.goto 21, 3) := by decide +kernel
theorem dX1_signOf_8 : decode cX1_signOf 8 = .ok (.iload_n 1, 1) := by decide +kernel
theorem dX1_signOf_9 : decode cX1_signOf 9 = .ok (.aload_n 0, 1) := by decide +kernel
theorem dX1_signOf_10 : decode cX1_signOf 10 = .ok (.iload_n 3, 1) := by decide +kernel
theorem dX1_signOf_11 : decode cX1_signOf 11 = .ok (.invokevirtual 72, 3) := by decide +kernel
theorem dX1_signOf_14 : decode cX1_signOf 14 = .ok (.ishr, 1) := by decide +kernel
theorem dX1_signOf_15 : decode cX1_signOf 15 = .ok (.iconst 1, 1) := by decide +kernel
theorem dX1_signOf_16 : decode cX1_signOf 16 = .ok (.iand, 1) := by decide +kernel
theorem dX1_signOf_17 : decode cX1_signOf 17 = .ok (.iconst 1, 1) := by decide +kernel
theorem dX1_signOf_18 : decode cX1_signOf 18 = .ok (.if_icmp .ne 7, 3) := by decide +kernel
theorem dX1_signOf_21 : decode cX1_signOf 21 = .ok (.iconst 1, 1) := by decide +kernel
theorem dX1_signOf_22 : decode cX1_signOf 22 = .ok (.goto 4, 3) := by decide +kernel
theorem dX1_signOf_25 : decode cX1_signOf 25 = .ok (.iconst (-1), 1) := by decide +kernel
theorem dX1_signOf_26 : decode cX1_signOf 26 = .ok (.ireturn, 1) := by decide +kernel
set_option maxRecDepth 20000 in
theorem ggX1_overOf_X1_signOf : GoodIn wsX1_overOf wsX1_signOf := goodIn_r _ [6, 7, 8, 9, 5, 10, 11, 12, 13, 14, 15, 16, 17, 18, 19, 20, 21, 22, 23] (by decide +kernel) (by decide +kernel)
set_option maxRecDepth 20000 in
theorem gX1_overOf_X1_signOf : GoodIn wsX1_overOf (wsV RX1 116 RX1 yX1_signOf wsX1_signOf) := goodIn_app (goodIn_of _ (by decide +kernel)) ggX1_overOf_X1_signOf
theorem dX1_overOf_0 : decode cX1_overOf 0 = .ok (.iconst 0, 1) := by decide +kernel
theorem dX1_overOf_1 : decode cX1_overOf 1 = .ok (.istore 4, 2) := by decide +kernel
theorem dX1_overOf_3 : decode cX1_overOf 3 = .ok (.iconst 0, 1) := by decide +kernel
theorem dX1_overOf_4 : decode cX1_overOf 4 = .ok (.istore 5, 2) := by decide +kernel
theorem dX1_overOf_6 : decode cX1_overOf 6 = .ok (.iload 5, 2) := by decide +kernel
theorem dX1_overOf_8 : decode cX1_overOf 8 = .ok (.aload_n 0, 1) := by decide +kernel
theorem dX1_overOf_9 : decode cX1_overOf 9 = .ok (.getfield 42, 3) := by decide +kernel
theorem dX1_overOf_12 : decode cX1_overOf 12 = .ok (.if_icmp .ge 38, 3) := by decide +kernel
theorem dX1_overOf_15 : decode cX1_overOf 15 = .ok (.iload 4, 2) := by decide +kernel
theorem dX1_overOf_17 : decode cX1_overOf 17 = .ok (.aload_n 0, 1) := by decide +kernel
theorem dX1_overOf_18 : decode cX1_overOf 18 = .ok (.iload_n 1, 1) := by decide +kernel
theorem dX1_overOf_19 : decode cX1_overOf 19 = .ok (.iload_n 2, 1) := by decide +kernel
theorem dX1_overOf_20 : decode cX1_overOf 20 = .ok (.iload 5, 2) := by decide +kernel
theorem dX1_overOf_22 : decode cX1_overOf 22 = .ok (.invokevirtual 116, 3) := by decide +kernel
theorem dX1_overOf_25 : decode cX1_overOf 25 = .ok (.aload_n 0, 1) := by decide +kernel
theorem dX1_overOf_26 : decode cX1_overOf 26 = .ok (.iload_n 1, 1) := by decide +kernel
theorem dX1_overOf_27 : decode cX1_overOf 27 = .ok (.iload_n 2, 1) := by decide +kernel
theorem dX1_overOf_28 : decode cX1_overOf 28 = .ok (.iload 5, 2) := by decide +kernel
theorem dX1_overOf_30 : decode cX1_overOf 30 = .ok (.iload_n 3, 1) := by decide +kernel
theorem dX1_overOf_31 : decode cX1_overOf 31 = .ok (.iadd, 1) := by decide +kernel
theorem dX1_overOf_32 : decode cX1_overOf 32 = .ok (.aload_n 0, 1) := by decide +kernel
theorem dX1_overOf_33 : decode cX1_overOf 33 = .ok (.getfield 42, 3) := by decide +kernel
theorem dX1_overOf_36 : decode cX1_overOf 36 = .ok (.irem, 1) := by decide +kernel
theorem dX1_overOf_37 : decode cX1_overOf 37 = .ok (.invokevirtual 116, 3) := by decide +kernel
theorem dX1_overOf_40 : decode cX1_overOf 40 = .ok (.imul, 1) := by decide +kernel
theorem dX1_overOf_41 : decode cX1_overOf 41 = .ok (.iadd, 1) := by decide +kernel
theorem dX1_overOf_42 : decode cX1_overOf 42 = .ok (.istore 4, 2) := by decide +kernel
theorem dX1_overOf_44 : decode cX1_overOf 44 = .ok (.iinc 5 1, 3) := by decide +kernel
theorem dX1_overOf_47 : decode cX1_overOf 47 = .ok (.goto (-41), 3) := by decide +kernel
theorem dX1_overOf_50 : decode cX1_overOf 50 = .ok (.iload 4, 2) := by decide +kernel
theorem dX1_overOf_52 : decode cX1_overOf 52 = .ok (.ireturn, 1) := by decide +kernel
set_option maxRecDepth 20000 in
theorem ggX1_isSet_X1_in : GoodIn wsX1_isSet wsX1_in := goodIn_r _ [5] (by decide +kernel) (by decide +kernel)
set_option maxRecDepth 20000 in
theorem gX1_isSet_X1_in : GoodIn wsX1_isSet (va_wsS RX1 38 yX1_in wsX1_in) := goodIn_app (goodIn_of _ (by decide +kernel)) ggX1_isSet_X1_in
theorem dX1_isSet_0 : decode cX1_isSet 0 = .ok (.iload_n 1, 1) := by decide +kernel
theorem dX1_isSet_1 : decode cX1_isSet 1 = .ok (.i2l, 1) := by decide +kernel
theorem dX1_isSet_2 : decode cX1_isSet 2 = .ok (.lconst 0, 1) := by decide +kernel
theorem dX1_isSet_3 : decode cX1_isSet 3 = .ok (.iconst 1, 1) := by decide +kernel
theorem dX1_isSet_4 : decode cX1_isSet 4 = .ok (.aload_n 0, 1) := by decide +kernel
theorem dX1_isSet_5 : decode cX1_isSet 5 = .ok (.getfield 52, 3) := by decide +kernel
theorem dX1_isSet_8 : decode cX1_isSet 8 = .ok (.ishl, 1) := by decide +kernel
theorem dX1_isSet_9 : decode cX1_isSet 9 = .ok (.iconst 1, 1) := by decide +kernel
theorem dX1_isSet_10 : decode cX1_isSet 10 = .ok (.isub, 1) := by decide +kernel
theorem dX1_isSet_11 : decode cX1_isSet 11 = .ok (.i2l, 1) := by decide +kernel
theorem dX1_isSet_12 : decode cX1_isSet 12 = .ok (.invokestatic 38, 3) := by decide +kernel
theorem dX1_isSet_15 : decode cX1_isSet 15 = .ok (.ireturn, 1) := by decide +kernel
theorem dX1_isSign_0 : decode cX1_isSign 0 = .ok (.iload_n 0, 1) := by decide +kernel
theorem dX1_isSign_1 : decode cX1_isSign 1 = .ok (.iconst 1, 1) := by decide +kernel
theorem dX1_isSign_2 : decode cX1_isSign 2 = .ok (.if_icmp .eq 8, 3) := by decide +kernel
theorem dX1_isSign_5 : decode cX1_isSign 5 = .ok (.iload_n 0, 1) := by decide +kernel
theorem dX1_isSign_6 : decode cX1_isSign 6 = .ok (.iconst (-1), 1) := by decide +kernel
theorem dX1_isSign_7 : decode cX1_isSign 7 = .ok (.if_icmp .ne 7, 3) := by decide +kernel
theorem dX1_isSign_10 : decode cX1_isSign 10 = .ok (.iconst 1, 1) := by decide +kernel
theorem dX1_isSign_11 : decode cX1_isSign 11 = .ok (.goto 4, 3) := by decide +kernel
theorem dX1_isSign_14 : decode cX1_isSign 14 = .ok (.iconst 0, 1) := by decide +kernel
theorem dX1_isSign_15 : decode cX1_isSign 15 = .ok (.ireturn, 1) := by decide +kernel
set_option maxRecDepth 20000 in
theorem ggX1_over_X1_isSet : GoodIn wsX1_over wsX1_isSet := goodIn_r _ [7, 8, 9, 10, 6, 11, 31, 32, 33, 34, 35, 36, 37, 38, 39, 40, 41] (by decide +kernel) (by decide +kernel)
set_option maxRecDepth 20000 in
theorem gX1_over_X1_isSet : GoodIn wsX1_over (wsV RX1 120 RX1 yX1_isSet wsX1_isSet) := goodIn_app (goodIn_of _ (by decide +kernel)) ggX1_over_X1_isSet
set_option maxRecDepth 20000 in
theorem ggX1_over_X1_isSign : GoodIn wsX1_over wsX1_isSign := goodIn_r _ [14] (by decide +kernel) (by decide +kernel)
set_option maxRecDepth 20000 in
theorem gX1_over_X1_isSign : GoodIn wsX1_over (va_wsS RX1 123 yX1_isSign wsX1_isSign) := goodIn_app (goodIn_of _ (by decide +kernel)) ggX1_over_X1_isSign
set_option maxRecDepth 20000 in
theorem ggX1_over_X1_rem : GoodIn wsX1_over wsX1_rem := goodIn_r _ [17] (by decide +kernel) (by decide +kernel)
set_option maxRecDepth 20000 in
theorem gX1_over_X1_rem : GoodIn wsX1_over (va_wsS RX1 68 yX1_rem wsX1_rem) := goodIn_app (goodIn_of _ (by decide +kernel)) ggX1_over_X1_rem
set_option maxRecDepth 20000 in
theorem ggX1_over_X1_overOf : GoodIn wsX1_over wsX1_overOf := goodIn_r _ [21, 2, 22, 23, 24, 6, 25, 26, 27, 28, 29, 30, 8, 31, 32, 33, 34, 35, 36, 37, 38, 39, 40, 41] (by decide +kernel) (by decide +kernel)
set_option maxRecDepth 20000 in
theorem gX1_over_X1_overOf : GoodIn wsX1_over (wsV RX1 126 RX1 yX1_overOf wsX1_overOf) := goodIn_app (goodIn_of _ (by decide +kernel)) ggX1_over_X1_overOf
theorem dX1_over_0 : decode cX1_over 0 = .ok (.aload_n 0, 1) := by decide +kernel
theorem dX1_over_1 : decode cX1_over 1 = .ok (.iload_n 1, 1) := by decide +kernel
theorem dX1_over_2 : decode cX1_over 2 = .ok (.invokevirtual 120, 3) := by decide +kernel
theorem dX1_over_5 : decode cX1_over 5 = .ok (.ifCond .ne 6, 3) := by decide +kernel
theorem dX1_over_8 : decode cX1_over 8 = .ok (.ldc 106, 2) := by decide +kernel
theorem dX1_over_10 : decode cX1_over 10 = .ok (.ireturn, 1) := by decide +kernel
theorem dX1_over_11 : decode cX1_over 11 = .ok (.iload_n 2, 1) := by decide +kernel
theorem dX1_over_12 : decode cX1_over 12 = .ok (.invokestatic 123, 3) := by decide +kernel
theorem dX1_over_15 : decode cX1_over 15 = .ok (.ifCond .eq 21, 3) := by decide +kernel
theorem dX1_over_18 : decode cX1_over 18 = .ok (.aload_n 0, 1) := by decide +kernel
theorem dX1_over_19 : decode cX1_over 19 = .ok (.iload_n 1, 1) := by decide +kernel
theorem dX1_over_20 : decode cX1_over 20 = .ok (.iload_n 2, 1) := by decide +kernel
theorem dX1_over_21 : decode cX1_over 21 = .ok (.iload_n 3, 1) := by decide +kernel
theorem dX1_over_22 : decode cX1_over 22 = .ok (.i2l, 1) := by decide +kernel
theorem dX1_over_23 : decode cX1_over 23 = .ok (.aload_n 0, 1) := by decide +kernel
theorem dX1_over_24 : decode cX1_over 24 = .ok (.getfield 42, 3) := by decide +kernel
theorem dX1_over_27 : decode cX1_over 27 = .ok (.invokestatic 68, 3) := by decide +kernel
theorem dX1_over_30 : decode cX1_over 30 = .ok (.invokevirtual 126, 3) := by decide +kernel
theorem dX1_over_33 : decode cX1_over 33 = .ok (.goto 5, 3) := by decide +kernel
theorem dX1_over_36 : decode cX1_over 36 = .ok (.ldc 106, 2) := by decide +kernel
theorem dX1_over_38 : decode cX1_over 38 = .ok (.ireturn, 1) := by decide +kernel
set_option maxRecDepth 20000 in
theorem ggX1_peak_X1_isSet : GoodIn wsX1_peak wsX1_isSet := goodIn_r _ [6, 7, 8, 9, 5, 10, 27, 28, 29, 30, 31, 32, 33, 34, 35, 36, 37] (by decide +kernel) (by decide +kernel)
set_option maxRecDepth 20000 in
theorem gX1_peak_X1_isSet : GoodIn wsX1_peak (wsV RX1 120 RX1 yX1_isSet wsX1_isSet) := goodIn_app (goodIn_of _ (by decide +kernel)) ggX1_peak_X1_isSet
set_option maxRecDepth 20000 in
theorem ggX1_peak_X1_isSign : GoodIn wsX1_peak wsX1_isSign := goodIn_r _ [13] (by decide +kernel) (by decide +kernel)
set_option maxRecDepth 20000 in
theorem gX1_peak_X1_isSign : GoodIn wsX1_peak (va_wsS RX1 123 yX1_isSign wsX1_isSign) := goodIn_app (goodIn_of _ (by decide +kernel)) ggX1_peak_X1_isSign
set_option maxRecDepth 20000 in
theorem ggX1_peak_X1_overOf : GoodIn wsX1_peak wsX1_overOf := goodIn_r _ [17, 1, 18, 19, 20, 5, 21, 22, 23, 24, 25, 26, 7, 27, 28, 29, 30, 31, 32, 33, 34, 35, 36, 37] (by decide +kernel) (by decide +kernel)
set_option maxRecDepth 20000 in
theorem gX1_peak_X1_overOf : GoodIn wsX1_peak (wsV RX1 126 RX1 yX1_overOf wsX1_overOf) := goodIn_app (goodIn_of _ (by decide +kernel)) ggX1_peak_X1_overOf
theorem dX1_peak_0 : decode cX1_peak 0 = .ok (.aload_n 0, 1) := by decide +kernel
theorem dX1_peak_1 : decode cX1_peak 1 = .ok (.iload_n 1, 1) := by decide +kernel
theorem dX1_peak_2 : decode cX1_peak 2 = .ok (.invokevirtual 120, 3) := by decide +kernel
theorem dX1_peak_5 : decode cX1_peak 5 = .ok (.ifCond .ne 6, 3) := by decide +kernel
theorem dX1_peak_8 : decode cX1_peak 8 = .ok (.bipush (-2), 2) := by decide +kernel
theorem dX1_peak_10 : decode cX1_peak 10 = .ok (.ireturn, 1) := by decide +kernel
theorem dX1_peak_11 : decode cX1_peak 11 = .ok (.iload_n 2, 1) := by decide +kernel
theorem dX1_peak_12 : decode cX1_peak 12 = .ok (.invokestatic 123, 3) := by decide +kernel
theorem dX1_peak_15 : decode cX1_peak 15 = .ok (.ifCond .ne 6, 3) := by decide +kernel
theorem dX1_peak_18 : decode cX1_peak 18 = .ok (.bipush (-3), 2) := by decide +kernel
theorem dX1_peak_20 : decode cX1_peak 20 = .ok (.ireturn, 1) := by decide +kernel
theorem dX1_peak_21 : decode cX1_peak 21 = .ok (.iconst 0, 1) := by decide +kernel
theorem dX1_peak_22 : decode cX1_peak 22 = .ok (.istore_n 3, 1) := by decide +kernel
theorem dX1_peak_23 : decode cX1_peak 23 = .ok (.iconst 1, 1) := by decide +kernel
theorem dX1_peak_24 : decode cX1_peak 24 = .ok (.istore 4, 2) := by decide +kernel
theorem dX1_peak_26 : decode cX1_peak 26 = .ok (.iload 4, 2) := by decide +kernel
theorem dX1_peak_28 : decode cX1_peak 28 = .ok (.aload_n 0, 1) := by decide +kernel
theorem dX1_peak_29 : decode cX1_peak 29 = .ok (.getfield 42, 3) := by decide +kernel
theorem dX1_peak_32 : decode cX1_peak 32 = .ok (.if_icmp .ge 47, 3) := by decide +kernel
theorem dX1_peak_35 : decode cX1_peak 35 = .ok (.aload_n 0, 1) := by decide +kernel
theorem dX1_peak_36 : decode cX1_peak 36 = .ok (.iload_n 1, 1) := by decide +kernel
theorem dX1_peak_37 : decode cX1_peak 37 = .ok (.iload_n 2, 1) := by decide +kernel
theorem dX1_peak_38 : decode cX1_peak 38 = .ok (.iload 4, 2) := by decide +kernel
theorem dX1_peak_40 : decode cX1_peak 40 = .ok (.invokevirtual 126, 3) := by decide +kernel
theorem dX1_peak_43 : decode cX1_peak 43 = .ok (.istore 5, 2) := by decide +kernel
theorem dX1_peak_45 : decode cX1_peak 45 = .ok (.iload 5, 2) := by decide +kernel
theorem dX1_peak_47 : decode cX1_peak 47 = .ok (.ifCond .ge 9, 3) := by decide +kernel
theorem dX1_peak_50 : decode cX1_peak 50 = .ok (.iload 5, 2) := by decide +kernel
theorem dX1_peak_52 : decode cX1_peak 52 = .ok (.ineg, 1) := by decide +kernel
theorem dX1_peak_53 : decode cX1_peak 53 = .ok (.goto 5, 3) := by decide +kernel
theorem dX1_peak_56 : decode cX1_peak 56 = .ok (.iload 5, 2) := by decide +kernel
theorem dX1_peak_58 : decode cX1_peak 58 = .ok (.istore 5, 2) := by decide +kernel
theorem dX1_peak_60 : decode cX1_peak 60 = .ok (.iload 5, 2) := by decide +kernel
theorem dX1_peak_62 : decode cX1_peak 62 = .ok (.iload_n 3, 1) := by decide +kernel
theorem dX1_peak_63 : decode cX1_peak 63 = .ok (.if_icmp .le 8, 3) := by decide +kernel
theorem dX1_peak_66 : decode cX1_peak 66 = .ok (.iload 5, 2) := by decide +kernel
theorem dX1_peak_68 : decode cX1_peak 68 = .ok (.goto 4, 3) := by decide +kernel
theorem dX1_peak_71 : decode cX1_peak 71 = .ok (.iload_n 3, 1) := by decide +kernel
theorem dX1_peak_72 : decode cX1_peak 72 = .ok (.istore_n 3, 1) := by decide +kernel
theorem dX1_peak_73 : decode cX1_peak 73 = .ok (.iinc 4 1, 3) := by decide +kernel
theorem dX1_peak_76 : decode cX1_peak 76 = .ok (.goto (-50), 3) := by decide +kernel
theorem dX1_peak_79 : decode cX1_peak 79 = .ok (.iload_n 3, 1) := by decide +kernel
theorem dX1_peak_80 : decode cX1_peak 80 = .ok (.ireturn, 1) := by decide +kernel
set_option maxRecDepth 20000 in
theorem ggX1_even_X1_isSet : GoodIn wsX1_even wsX1_isSet := goodIn_r _ [6, 7, 8, 9, 5, 10, 16, 17, 18, 19, 20, 21, 22, 23, 24, 25, 26] (by decide +kernel) (by decide +kernel)
set_option maxRecDepth 20000 in
theorem gX1_even_X1_isSet : GoodIn wsX1_even (wsV RX1 120 RX1 yX1_isSet wsX1_isSet) := goodIn_app (goodIn_of _ (by decide +kernel)) ggX1_even_X1_isSet
set_option maxRecDepth 20000 in
theorem ggX1_even_X1_classOf : GoodIn wsX1_even wsX1_classOf := goodIn_r _ [14, 15, 7, 16, 17, 18, 19, 20, 21, 22, 23, 24, 25, 26] (by decide +kernel) (by decide +kernel)
set_option maxRecDepth 20000 in
theorem gX1_even_X1_classOf : GoodIn wsX1_even (wsV RX1 72 RX1 yX1_classOf wsX1_classOf) := goodIn_app (goodIn_of _ (by decide +kernel)) ggX1_even_X1_classOf
theorem dX1_even_0 : decode cX1_even 0 = .ok (.aload_n 0, 1) := by decide +kernel
theorem dX1_even_1 : decode cX1_even 1 = .ok (.iload_n 1, 1) := by decide +kernel
theorem dX1_even_2 : decode cX1_even 2 = .ok (.invokevirtual 120, 3) := by decide +kernel
theorem dX1_even_5 : decode cX1_even 5 = .ok (.ifCond .ne 6, 3) := by decide +kernel
theorem dX1_even_8 : decode cX1_even 8 = .ok (.bipush (-2), 2) := by decide +kernel
theorem dX1_even_10 : decode cX1_even 10 = .ok (.ireturn, 1) := by decide +kernel
theorem dX1_even_11 : decode cX1_even 11 = .ok (.iconst (-1), 1) := by decide +kernel
theorem dX1_even_12 : decode cX1_even 12 = .ok (.istore_n 2, 1) := by decide +kernel
theorem dX1_even_13 : decode cX1_even 13 = .ok (.iconst 1, 1) := by decide +kernel
theorem dX1_even_14 : decode cX1_even 14 = .ok (.istore_n 3, 1) := by decide +kernel
theorem dX1_even_15 : decode cX1_even 15 = .ok (.iload_n 3, 1) := by decide +kernel
theorem dX1_even_16 : decode cX1_even 16 = .ok (.aload_n 0, 1) := by decide +kernel
theorem dX1_even_17 : decode cX1_even 17 = .ok (.getfield 42, 3) := by decide +kernel
theorem dX1_even_20 : decode cX1_even 20 = .ok (.if_icmp .ge 100, 3) := by decide +kernel
theorem dX1_even_23 : decode cX1_even 23 = .ok (.iconst 0, 1) := by decide +kernel
theorem dX1_even_24 : decode cX1_even 24 = .ok (.istore 4, 2) := by decide +kernel
theorem dX1_even_26 : decode cX1_even 26 = .ok (.iconst 1, 1) := by decide +kernel
theorem dX1_even_27 : decode cX1_even 27 = .ok (.istore 5, 2) := by decide +kernel
theorem dX1_even_29 : decode cX1_even 29 = .ok (.iload 5, 2) := by decide +kernel
theorem dX1_even_31 : decode cX1_even 31 = .ok (.aload_n 0, 1) := by decide +kernel
theorem dX1_even_32 : decode cX1_even 32 = .ok (.getfield 42, 3) := by decide +kernel
theorem dX1_even_35 : decode cX1_even 35 = .ok (.if_icmp .ge 63, 3) := by decide +kernel
theorem dX1_even_38 : decode cX1_even 38 = .ok (.iload 5, 2) := by decide +kernel
theorem dX1_even_40 : decode cX1_even 40 = .ok (.iload_n 3, 1) := by decide +kernel
theorem dX1_even_41 : decode cX1_even 41 = .ok (.iadd, 1) := by decide +kernel
theorem dX1_even_42 : decode cX1_even 42 = .ok (.aload_n 0, 1) := by decide +kernel
theorem dX1_even_43 : decode cX1_even 43 = .ok (.getfield 42, 3) := by decide +kernel
theorem dX1_even_46 : decode cX1_even 46 = .ok (.irem, 1) := by decide +kernel
theorem dX1_even_47 : decode cX1_even 47 = .ok (.istore 6, 2) := by decide +kernel
theorem dX1_even_49 : decode cX1_even 49 = .ok (.iload 4, 2) := by decide +kernel
theorem dX1_even_51 : decode cX1_even 51 = .ok (.iload 6, 2) := by decide +kernel
theorem dX1_even_53 : decode cX1_even 53 = .ok (.ifCond .eq 35, 3) := by decide +kernel
theorem dX1_even_56 : decode cX1_even 56 = .ok (.iload_n 1, 1) := by decide +kernel
theorem dX1_even_57 : decode cX1_even 57 = .ok (.aload_n 0, 1) := by decide +kernel
theorem dX1_even_58 : decode cX1_even 58 = .ok (.iload 5, 2) := by decide +kernel
theorem dX1_even_60 : decode cX1_even 60 = .ok (.invokevirtual 72, 3) := by decide +kernel
theorem dX1_even_63 : decode cX1_even 63 = .ok (.ishr, 1) := by decide +kernel
theorem dX1_even_64 : decode cX1_even 64 = .ok (.iconst 1, 1) := by decide +kernel
theorem dX1_even_65 : decode cX1_even 65 = .ok (.iand, 1) := by decide +kernel
theorem dX1_even_66 : decode cX1_even 66 = .ok (.iconst 1, 1) := by decide +kernel
theorem dX1_even_67 : decode cX1_even 67 = .ok (.if_icmp .ne 21, 3) := by decide +kernel
theorem dX1_even_70 : decode cX1_even 70 = .ok (.iload_n 1, 1) := by decide +kernel
theorem dX1_even_71 : decode cX1_even 71 = .ok (.aload_n 0, 1) := by decide +kernel
theorem dX1_even_72 : decode cX1_even 72 = .ok (.iload 6, 2) := by decide +kernel
theorem dX1_even_74 : decode cX1_even 74 = .ok (.invokevirtual 72, 3) := by decide +kernel
theorem dX1_even_77 : decode cX1_even 77 = .ok (.ishr, 1) := by decide +kernel
theorem dX1_even_78 : decode cX1_even 78 = .ok (.iconst 1, 1) := by decide +kernel
theorem dX1_even_79 : decode cX1_even 79 = .ok (.iand, 1) := by decide +kernel
theorem dX1_even_80 : decode cX1_even 80 = .ok (.iconst 1, 1) := by decide +kernel
theorem dX1_even_81 : decode cX1_even 81 = .ok (.if_icmp .ne 7, 3) := by decide +kernel
theorem dX1_even_84 : decode cX1_even 84 = .ok (.iconst 1, 1) := by decide +kernel
theorem dX1_even_85 : decode cX1_even 85 = .ok (.goto 4, 3) := by decide +kernel
theorem dX1_even_88 : decode cX1_even 88 = .ok (.iconst 0, 1) := by decide +kernel
theorem dX1_even_89 : decode cX1_even 89 = .ok (.iadd, 1) := by decide +kernel
theorem dX1_even_90 : decode cX1_even 90 = .ok (.istore 4, 2) := by decide +kernel
theorem dX1_even_92 : decode cX1_even 92 = .ok (.iinc 5 1, 3) := by decide +kernel
theorem dX1_even_95 : decode cX1_even 95 = .ok (.goto (-66), 3) := by decide +kernel
theorem dX1_even_98 : decode cX1_even 98 = .ok (.iload_n 3, 1) := by decide +kernel
theorem dX1_even_99 : decode cX1_even 99 = .ok (.iconst 1, 1) := by decide +kernel
theorem dX1_even_100 : decode cX1_even 100 = .ok (.if_icmp .le 11, 3) := by decide +kernel
theorem dX1_even_103 : decode cX1_even 103 = .ok (.iload 4, 2) := by decide +kernel
theorem dX1_even_105 : decode cX1_even 105 = .ok (.iload_n 2, 1) := by decide +kernel
theorem dX1_even_106 : decode cX1_even 106 = .ok (.if_icmp .eq 5, 3) := by decide +kernel
theorem dX1_even_109 : decode cX1_even 109 = .ok (.iconst (-1), 1) := by decide +kernel
theorem dX1_even_110 : decode cX1_even 110 = .ok (.ireturn, 1) := by decide +kernel
theorem dX1_even_111 : decode cX1_even 111 = .ok (.iload 4, 2) := by decide +kernel
theorem dX1_even_113 : decode cX1_even 113 = .ok (.istore_n 2, 1) := by decide +kernel
theorem dX1_even_114 : decode cX1_even 114 = .ok (.iinc 3 1, 3) := by decide +kernel
theorem dX1_even_117 : decode cX1_even 117 = .ok (.goto (-102), 3) := by decide +kernel
theorem dX1_even_120 : decode cX1_even 120 = .ok (.iload_n 2, 1) := by decide +kernel
theorem dX1_even_121 : decode cX1_even 121 = .ok (.ireturn, 1) := by decide +kernel
set_option maxRecDepth 20000 in
theorem ggX1_classes_X1_in : GoodIn wsX1_classes wsX1_in := goodIn_r _ [6] (by decide +kernel) (by decide +kernel)
set_option maxRecDepth 20000 in
theorem gX1_classes_X1_in : GoodIn wsX1_classes (va_wsS RX1 38 yX1_in wsX1_in) := goodIn_app (goodIn_of _ (by decide +kernel)) ggX1_classes_X1_in
theorem dX1_classes_0 : decode cX1_classes 0 = .ok (.iload_n 1, 1) := by decide +kernel
theorem dX1_classes_1 : decode cX1_classes 1 = .ok (.i2l, 1) := by decide +kernel
theorem dX1_classes_2 : decode cX1_classes 2 = .ok (.lconst 0, 1) := by decide +kernel
theorem dX1_classes_3 : decode cX1_classes 3 = .ok (.lconst 1, 1) := by decide +kernel
theorem dX1_classes_4 : decode cX1_classes 4 = .ok (.invokestatic 38, 3) := by decide +kernel
theorem dX1_classes_7 : decode cX1_classes 7 = .ok (.ifCond .ne 6, 3) := by decide +kernel
theorem dX1_classes_10 : decode cX1_classes 10 = .ok (.bipush (-3), 2) := by decide +kernel
theorem dX1_classes_12 : decode cX1_classes 12 = .ok (.ireturn, 1) := by decide +kernel
theorem dX1_classes_13 : decode cX1_classes 13 = .ok (.aload_n 0, 1) := by decide +kernel
theorem dX1_classes_14 : decode cX1_classes 14 = .ok (.getfield 42, 3) := by decide +kernel
theorem dX1_classes_17 : decode cX1_classes 17 = .ok (.iconst 4, 1) := by decide +kernel
theorem dX1_classes_18 : decode cX1_classes 18 = .ok (.irem, 1) := by decide +kernel
theorem dX1_classes_19 : decode cX1_classes 19 = .ok (.iconst 3, 1) := by decide +kernel
theorem dX1_classes_20 : decode cX1_classes 20 = .ok (.if_icmp .ne 11, 3) := by decide +kernel
theorem dX1_classes_23 : decode cX1_classes 23 = .ok (.aload_n 0, 1) := by decide +kernel
theorem dX1_classes_24 : decode cX1_classes 24 = .ok (.getfield 42, 3) := by decide +kernel
theorem dX1_classes_27 : decode cX1_classes 27 = .ok (.iconst 3, 1) := by decide +kernel
theorem dX1_classes_28 : decode cX1_classes 28 = .ok (.if_icmp .ne 6, 3) := by decide +kernel
theorem dX1_classes_31 : decode cX1_classes 31 = .ok (.bipush (-4), 2) := by decide +kernel
theorem dX1_classes_33 : decode cX1_classes 33 = .ok (.ireturn, 1) := by decide +kernel
theorem dX1_classes_34 : decode cX1_classes 34 = .ok (.iconst 0, 1) := by decide +kernel
theorem dX1_classes_35 : decode cX1_classes 35 = .ok (.istore_n 2, 1) := by decide +kernel
theorem dX1_classes_36 : decode cX1_classes 36 = .ok (.iload_n 1, 1) := by decide +kernel
theorem dX1_classes_37 : decode cX1_classes 37 = .ok (.ifCond .ne 47, 3) := by decide +kernel
theorem dX1_classes_40 : decode cX1_classes 40 = .ok (.iconst 1, 1) := by decide +kernel
theorem dX1_classes_41 : decode cX1_classes 41 = .ok (.istore_n 3, 1) := by decide +kernel
theorem dX1_classes_42 : decode cX1_classes 42 = .ok (.iload_n 3, 1) := by decide +kernel
theorem dX1_classes_43 : decode cX1_classes 43 = .ok (.aload_n 0, 1) := by decide +kernel
theorem dX1_classes_44 : decode cX1_classes 44 = .ok (.getfield 42, 3) := by decide +kernel
theorem dX1_classes_47 : decode cX1_classes 47 = .ok (.if_icmp .ge 29, 3) := by decide +kernel
theorem dX1_classes_50 : decode cX1_classes 50 = .ok (.iload_n 2, 1) := by decide +kernel
theorem dX1_classes_51 : decode cX1_classes 51 = .ok (.aload_n 0, 1) := by decide +kernel
theorem dX1_classes_52 : decode cX1_classes 52 = .ok (.getfield 7, 3) := by decide +kernel
theorem dX1_classes_55 : decode cX1_classes 55 = .ok (.iload_n 3, 1) := by decide +kernel
theorem dX1_classes_56 : decode cX1_classes 56 = .ok (.iaload, 1) := by decide +kernel
theorem dX1_classes_57 : decode cX1_classes 57 = .ok (.iconst 2, 1) := by decide +kernel
theorem dX1_classes_58 : decode cX1_classes 58 = .ok (.irem, 1) := by decide +kernel
theorem dX1_classes_59 : decode cX1_classes 59 = .ok (.ifCond .ne 7, 3) := by decide +kernel
theorem dX1_classes_62 : decode cX1_classes 62 = .ok (.iload_n 3, 1) := by decide +kernel
theorem dX1_classes_63 : decode cX1_classes 63 = .ok (.goto 5, 3) := by decide +kernel
theorem dX1_classes_66 : decode cX1_classes 66 = .ok (.iload_n 3, 1) := by decide +kernel
theorem dX1_classes_67 : decode cX1_classes 67 = .ok (.ineg, 1) := by decide +kernel
theorem dX1_classes_68 : decode cX1_classes 68 = .ok (.iadd, 1) := by decide +kernel
theorem dX1_classes_69 : decode cX1_classes 69 = .ok (.istore_n 2, 1) := by decide +kernel
theorem dX1_classes_70 : decode cX1_classes 70 = .ok (.iinc 3 1, 3) := by decide +kernel
theorem dX1_classes_73 : decode cX1_classes 73 = .ok (.goto (-31), 3) := by decide +kernel
theorem dX1_classes_76 : decode cX1_classes 76 = .ok (.iload_n 2, 1) := by decide +kernel
theorem dX1_classes_77 : decode cX1_classes 77 = .ok (.ineg, 1) := by decide +kernel
theorem dX1_classes_78 : decode cX1_classes 78 = .ok (.aload_n 0, 1) := by decide +kernel
theorem dX1_classes_79 : decode cX1_classes 79 = .ok (.getfield 42, 3) := by decide +kernel
theorem dX1_classes_82 : decode cX1_classes 82 = .ok (.idiv, 1) := by decide +kernel
theorem dX1_classes_83 : decode cX1_classes 83 = .ok (.ireturn, 1) := by decide +kernel
theorem dX1_classes_84 : decode cX1_classes 84 = .ok (.iconst 1, 1) := by decide +kernel
theorem dX1_classes_85 : decode cX1_classes 85 = .ok (.istore_n 3, 1) := by decide +kernel
theorem dX1_classes_86 : decode cX1_classes 86 = .ok (.iload_n 3, 1) := by decide +kernel
theorem dX1_classes_87 : decode cX1_classes 87 = .ok (.aload_n 0, 1) := by decide +kernel
theorem dX1_classes_88 : decode cX1_classes 88 = .ok (.getfield 42, 3) := by decide +kernel
theorem dX1_classes_91 : decode cX1_classes 91 = .ok (.if_icmp .ge 104, 3) := by decide +kernel
theorem dX1_classes_94 : decode cX1_classes 94 = .ok (.iload_n 3, 1) := by decide +kernel
theorem dX1_classes_95 : decode cX1_classes 95 = .ok (.ineg, 1) := by decide +kernel
theorem dX1_classes_96 : decode cX1_classes 96 = .ok (.istore 4, 2) := by decide +kernel
theorem dX1_classes_98 : decode cX1_classes 98 = .ok (.iload 4, 2) := by decide +kernel
theorem dX1_classes_100 : decode cX1_classes 100 = .ok (.iload_n 3, 1) := by decide +kernel
theorem dX1_classes_101 : decode cX1_classes 101 = .ok (.if_icmp .gt 88, 3) := by decide +kernel
theorem dX1_classes_104 : decode cX1_classes 104 = .ok (.iload 4, 2) := by decide +kernel
theorem dX1_classes_106 : decode cX1_classes 106 = .ok (.iload 4, 2) := by decide +kernel
theorem dX1_classes_108 : decode cX1_classes 108 = .ok (.imul, 1) := by decide +kernel
theorem dX1_classes_109 : decode cX1_classes 109 = .ok (.aload_n 0, 1) := by decide +kernel
theorem dX1_classes_110 : decode cX1_classes 110 = .ok (.getfield 42, 3) := by decide +kernel
theorem dX1_classes_113 : decode cX1_classes 113 = .ok (.iadd, 1) := by decide +kernel
theorem dX1_classes_114 : decode cX1_classes 114 = .ok (.iconst 4, 1) := by decide +kernel
theorem dX1_classes_115 : decode cX1_classes 115 = .ok (.iload_n 3, 1) := by decide +kernel
theorem dX1_classes_116 : decode cX1_classes 116 = .ok (.imul, 1) := by decide +kernel
theorem dX1_classes_117 : decode cX1_classes 117 = .ok (.idiv, 1) := by decide +kernel
theorem dX1_classes_118 : decode cX1_classes 118 = .ok (.istore 5, 2) := by decide +kernel
theorem dX1_classes_120 : decode cX1_classes 120 = .ok (.iconst 4, 1) := by decide +kernel
theorem dX1_classes_121 : decode cX1_classes 121 = .ok (.iload_n 3, 1) := by decide +kernel
theorem dX1_classes_122 : decode cX1_classes 122 = .ok (.imul, 1) := by decide +kernel
theorem dX1_classes_123 : decode cX1_classes 123 = .ok (.iload 5, 2) := by decide +kernel
theorem dX1_classes_125 : decode cX1_classes 125 = .ok (.imul, 1) := by decide +kernel
theorem dX1_classes_126 : decode cX1_classes 126 = .ok (.iload 4, 2) := by decide +kernel
theorem dX1_classes_128 : decode cX1_classes 128 = .ok (.iload 4, 2) := by decide +kernel
theorem dX1_classes_130 : decode cX1_classes 130 = .ok (.imul, 1) := by decide +kernel
theorem dX1_classes_131 : decode cX1_classes 131 = .ok (.aload_n 0, 1) := by decide +kernel
theorem dX1_classes_132 : decode cX1_classes 132 = .ok (.getfield 42, 3) := by decide +kernel
theorem dX1_classes_135 : decode cX1_classes 135 = .ok (.iadd, 1) := by decide +kernel
theorem dX1_classes_136 : decode cX1_classes 136 = .ok (.if_icmp .ne 13, 3) := by decide +kernel
theorem dX1_classes_139 : decode cX1_classes 139 = .ok (.iload_n 3, 1) := by decide +kernel
theorem dX1_classes_140 : decode cX1_classes 140 = .ok (.iload 5, 2) := by decide +kernel
theorem dX1_classes_142 : decode cX1_classes 142 = .ok (.if_icmp .gt 7, 3) := by decide +kernel
theorem dX1_classes_145 : decode cX1_classes 145 = .ok (.iconst 1, 1) := by decide +kernel
theorem dX1_classes_146 : decode cX1_classes 146 = .ok (.goto 4, 3) := by decide +kernel
theorem dX1_classes_149 : decode cX1_classes 149 = .ok (.iconst 0, 1) := by decide +kernel
theorem dX1_classes_150 : decode cX1_classes 150 = .ok (.istore 6, 2) := by decide +kernel
theorem dX1_classes_152 : decode cX1_classes 152 = .ok (.iload_n 2, 1) := by decide +kernel
theorem dX1_classes_153 : decode cX1_classes 153 = .ok (.iload 6, 2) := by decide +kernel
theorem dX1_classes_155 : decode cX1_classes 155 = .ok (.ifCond .eq 25, 3) := by decide +kernel
theorem dX1_classes_158 : decode cX1_classes 158 = .ok (.iload 4, 2) := by decide +kernel
theorem dX1_classes_160 : decode cX1_classes 160 = .ok (.ifCond .ge 16, 3) := by decide +kernel
theorem dX1_classes_163 : decode cX1_classes 163 = .ok (.iload 4, 2) := by decide +kernel
theorem dX1_classes_165 : decode cX1_classes 165 = .ok (.ineg, 1) := by decide +kernel
theorem dX1_classes_166 : decode cX1_classes 166 = .ok (.iload_n 3, 1) := by decide +kernel
theorem dX1_classes_167 : decode cX1_classes 167 = .ok (.if_icmp .eq 13, 3) := by decide +kernel
theorem dX1_classes_170 : decode cX1_classes 170 = .ok (.iload_n 3, 1) := by decide +kernel
theorem dX1_classes_171 : decode cX1_classes 171 = .ok (.iload 5, 2) := by decide +kernel
theorem dX1_classes_173 : decode cX1_classes 173 = .ok (.if_icmp .eq 7, 3) := by decide +kernel
theorem dX1_classes_176 : decode cX1_classes 176 = .ok (.iconst 1, 1) := by decide +kernel
theorem dX1_classes_177 : decode cX1_classes 177 = .ok (.goto 4, 3) := by decide +kernel
theorem dX1_classes_180 : decode cX1_classes 180 = .ok (.iconst 0, 1) := by decide +kernel
theorem dX1_classes_181 : decode cX1_classes 181 = .ok (.iadd, 1) := by decide +kernel
theorem dX1_classes_182 : decode cX1_classes 182 = .ok (.istore_n 2, 1) := by decide +kernel
theorem dX1_classes_183 : decode cX1_classes 183 = .ok (.iinc 4 1, 3) := by decide +kernel
theorem dX1_classes_186 : decode cX1_classes 186 = .ok (.goto (-88), 3) := by decide +kernel
theorem dX1_classes_189 : decode cX1_classes 189 = .ok (.iinc 3 1, 3) := by decide +kernel
theorem dX1_classes_192 : decode cX1_classes 192 = .ok (.goto (-106), 3) := by decide +kernel
theorem dX1_classes_195 : decode cX1_classes 195 = .ok (.iload_n 2, 1) := by decide +kernel
theorem dX1_classes_196 : decode cX1_classes 196 = .ok (.ireturn, 1) := by decide +kernel
theorem dX1_count_0 : decode cX1_count 0 = .ok (.iload_n 1, 1) := by decide +kernel
theorem dX1_count_1 : decode cX1_count 1 = .ok (.ifCond .ne 10, 3) := by decide +kernel
theorem dX1_count_4 : decode cX1_count 4 = .ok (.aload_n 0, 1) := by decide +kernel
theorem dX1_count_5 : decode cX1_count 5 = .ok (.getfield 42, 3) := by decide +kernel
theorem dX1_count_8 : decode cX1_count 8 = .ok (.goto 41, 3) := by decide +kernel
theorem dX1_count_11 : decode cX1_count 11 = .ok (.iload_n 1, 1) := by decide +kernel
theorem dX1_count_12 : decode cX1_count 12 = .ok (.iconst 1, 1) := by decide +kernel
theorem dX1_count_13 : decode cX1_count 13 = .ok (.if_icmp .ne 10, 3) := by decide +kernel
theorem dX1_count_16 : decode cX1_count 16 = .ok (.aload_n 0, 1) := by decide +kernel
theorem dX1_count_17 : decode cX1_count 17 = .ok (.getfield 46, 3) := by decide +kernel
theorem dX1_count_20 : decode cX1_count 20 = .ok (.goto 29, 3) := by decide +kernel
theorem dX1_count_23 : decode cX1_count 23 = .ok (.iload_n 1, 1) := by decide +kernel
theorem dX1_count_24 : decode cX1_count 24 = .ok (.iconst 2, 1) := by decide +kernel
theorem dX1_count_25 : decode cX1_count 25 = .ok (.if_icmp .ne 10, 3) := by decide +kernel
theorem dX1_count_28 : decode cX1_count 28 = .ok (.aload_n 0, 1) := by decide +kernel
theorem dX1_count_29 : decode cX1_count 29 = .ok (.getfield 52, 3) := by decide +kernel
theorem dX1_count_32 : decode cX1_count 32 = .ok (.goto 17, 3) := by decide +kernel
theorem dX1_count_35 : decode cX1_count 35 = .ok (.iload_n 1, 1) := by decide +kernel
theorem dX1_count_36 : decode cX1_count 36 = .ok (.iconst 3, 1) := by decide +kernel
theorem dX1_count_37 : decode cX1_count 37 = .ok (.if_icmp .ne 10, 3) := by decide +kernel
theorem dX1_count_40 : decode cX1_count 40 = .ok (.aload_n 0, 1) := by decide +kernel
theorem dX1_count_41 : decode cX1_count 41 = .ok (.getfield 55, 3) := by decide +kernel
theorem dX1_count_44 : decode cX1_count 44 = .ok (.goto 5, 3) := by decide +kernel
theorem dX1_count_47 : decode cX1_count 47 = .ok (.bipush (-3), 2) := by decide +kernel
theorem dX1_count_49 : decode cX1_count 49 = .ok (.ireturn, 1) := by decide +kernel
theorem dJ9_floorMod_7cf53_0 : decode cJ9_floorMod_7cf53 0 = .ok (.iload_n 0, 1) := by decide +kernel
theorem dJ9_floorMod_7cf53_1 : decode cJ9_floorMod_7cf53 1 = .ok (.iload_n 1, 1) := by decide +kernel
theorem dJ9_floorMod_7cf53_2 : decode cJ9_floorMod_7cf53 2 = .ok (.irem, 1) := by decide +kernel
theorem dJ9_floorMod_7cf53_3 : decode cJ9_floorMod_7cf53 3 = .ok (.istore_n 2, 1) := by decide +kernel
theorem dJ9_floorMod_7cf53_4 : decode cJ9_floorMod_7cf53 4 = .ok (.iload_n 0, 1) := by decide +kernel
theorem dJ9_floorMod_7cf53_5 : decode cJ9_floorMod_7cf53 5 = .ok (.iload_n 1, 1) := by decide +kernel
theorem dJ9_floorMod_7cf53_6 : decode cJ9_floorMod_7cf53 6 = .ok (.ixor, 1) := by decide +kernel
theorem dJ9_floorMod_7cf53_7 : decode cJ9_floorMod_7cf53 7 = .ok (.ifCond .ge 11, 3) := by decide +kernel
theorem dJ9_floorMod_7cf53_10 : decode cJ9_floorMod_7cf53 10 = .ok (.iload_n 2, 1) := by decide +kernel
theorem dJ9_floorMod_7cf53_11 : decode cJ9_floorMod_7cf53 11 = .ok (.ifCond .eq 7, 3) := by decide +kernel
theorem dJ9_floorMod_7cf53_14 : decode cJ9_floorMod_7cf53 14 = .ok (.iload_n 2, 1) := by decide +kernel
theorem dJ9_floorMod_7cf53_15 : decode cJ9_floorMod_7cf53 15 = .ok (.iload_n 1, 1) := by decide +kernel
theorem dJ9_floorMod_7cf53_16 : decode cJ9_floorMod_7cf53 16 = .ok (.iadd, 1) := by decide +kernel
theorem dJ9_floorMod_7cf53_17 : decode cJ9_floorMod_7cf53 17 = .ok (.ireturn, 1) := by decide +kernel
theorem dJ9_floorMod_7cf53_18 : decode cJ9_floorMod_7cf53 18 = .ok (.iload_n 2, 1) := by decide +kernel
theorem dJ9_floorMod_7cf53_19 : decode cJ9_floorMod_7cf53 19 = .ok (.ireturn, 1) := by decide +kernel
theorem dJ9_abs_0f7a4_0 : decode cJ9_abs_0f7a4 0 = .ok (.iload_n 0, 1) := by decide +kernel
theorem dJ9_abs_0f7a4_1 : decode cJ9_abs_0f7a4 1 = .ok (.ifCond .ge 8, 3) := by decide +kernel
theorem dJ9_abs_0f7a4_4 : decode cJ9_abs_0f7a4 4 = .ok (.iload_n 0, 1) := by decide +kernel
theorem dJ9_abs_0f7a4_5 : decode cJ9_abs_0f7a4 5 = .ok (.ineg, 1) := by decide +kernel
theorem dJ9_abs_0f7a4_6 : decode cJ9_abs_0f7a4 6 = .ok (.goto 4, 3) := by decide +kernel
theorem dJ9_abs_0f7a4_9 : decode cJ9_abs_0f7a4 9 = .ok (.iload_n 0, 1) := by decide +kernel
theorem dJ9_abs_0f7a4_10 : decode cJ9_abs_0f7a4 10 = .ok (.ireturn, 1) := by decide +kernel
theorem dJ9_max_7cf53_0 : decode cJ9_max_7cf53 0 = .ok (.iload_n 0, 1) := by decide +kernel
theorem dJ9_max_7cf53_1 : decode cJ9_max_7cf53 1 = .ok (.iload_n 1, 1) := by decide +kernel
theorem dJ9_max_7cf53_2 : decode cJ9_max_7cf53 2 = .ok (.if_icmp .lt 7, 3) := by decide +kernel
theorem dJ9_max_7cf53_5 : decode cJ9_max_7cf53 5 = .ok (.iload_n 0, 1) := by decide +kernel
theorem dJ9_max_7cf53_6 : decode cJ9_max_7cf53 6 = .ok (.goto 4, 3) := by decide +kernel
theorem dJ9_max_7cf53_9 : decode cJ9_max_7cf53 9 = .ok (.iload_n 1, 1) := by decide +kernel
theorem dJ9_max_7cf53_10 : decode cJ9_max_7cf53 10 = .ok (.ireturn, 1) := by decide +kernel
theorem dJ7_fill_d0a16_0 : decode cJ7_fill_d0a16 0 = .ok (.iconst 0, 1) := by decide +kernel
theorem dJ7_fill_d0a16_1 : decode cJ7_fill_d0a16 1 = .ok (.istore_n 3, 1) := by decide +kernel
theorem dJ7_fill_d0a16_2 : decode cJ7_fill_d0a16 2 = .ok (.aload_n 0, 1) := by decide +kernel
theorem dJ7_fill_d0a16_3 : decode cJ7_fill_d0a16 3 = .ok (.arraylength, 1) := by decide +kernel
theorem dJ7_fill_d0a16_4 : decode cJ7_fill_d0a16 4 = .ok (.istore 4, 2) := by decide +kernel
theorem dJ7_fill_d0a16_6 : decode cJ7_fill_d0a16 6 = .ok (.iload_n 3, 1) := by decide +kernel
theorem dJ7_fill_d0a16_7 : decode cJ7_fill_d0a16 7 = .ok (.iload 4, 2) := by decide +kernel
theorem dJ7_fill_d0a16_9 : decode cJ7_fill_d0a16 9 = .ok (.if_icmp .ge 13, 3) := by decide +kernel
theorem dJ7_fill_d0a16_12 : decode cJ7_fill_d0a16 12 = .ok (.aload_n 0, 1) := by decide +kernel
theorem dJ7_fill_d0a16_13 : decode cJ7_fill_d0a16 13 = .ok (.iload_n 3, 1) := by decide +kernel
theorem dJ7_fill_d0a16_14 : decode cJ7_fill_d0a16 14 = .ok (.lload_n 1, 1) := by decide +kernel
theorem dJ7_fill_d0a16_15 : decode cJ7_fill_d0a16 15 = .ok (.lastore, 1) := by decide +kernel
theorem dJ7_fill_d0a16_16 : decode cJ7_fill_d0a16 16 = .ok (.iinc 3 1, 3) := by decide +kernel
theorem dJ7_fill_d0a16_19 : decode cJ7_fill_d0a16 19 = .ok (.goto (-13), 3) := by decide +kernel
theorem dJ7_fill_d0a16_22 : decode cJ7_fill_d0a16 22 = .ok (.return_, 1) := by decide +kernel
theorem dJ7_fill_53178_0 : decode cJ7_fill_53178 0 = .ok (.iconst 0, 1) := by decide +kernel
theorem dJ7_fill_53178_1 : decode cJ7_fill_53178 1 = .ok (.istore_n 2, 1) := by decide +kernel
theorem dJ7_fill_53178_2 : decode cJ7_fill_53178 2 = .ok (.aload_n 0, 1) := by decide +kernel
theorem dJ7_fill_53178_3 : decode cJ7_fill_53178 3 = .ok (.arraylength, 1) := by decide +kernel
theorem dJ7_fill_53178_4 : decode cJ7_fill_53178 4 = .ok (.istore_n 3, 1) := by decide +kernel
theorem dJ7_fill_53178_5 : decode cJ7_fill_53178 5 = .ok (.iload_n 2, 1) := by decide +kernel
theorem dJ7_fill_53178_6 : decode cJ7_fill_53178 6 = .ok (.iload_n 3, 1) := by decide +kernel
theorem dJ7_fill_53178_7 : decode cJ7_fill_53178 7 = .ok (.if_icmp .ge 13, 3) := by decide +kernel
theorem dJ7_fill_53178_10 : decode cJ7_fill_53178 10 = .ok (.aload_n 0, 1) := by decide +kernel
theorem dJ7_fill_53178_11 : decode cJ7_fill_53178 11 = .ok (.iload_n 2, 1) := by decide +kernel
theorem dJ7_fill_53178_12 : decode cJ7_fill_53178 12 = .ok (.iload_n 1, 1) := by decide +kernel
theorem dJ7_fill_53178_13 : decode cJ7_fill_53178 13 = .ok (.iastore, 1) := by decide +kernel
theorem dJ7_fill_53178_14 : decode cJ7_fill_53178 14 = .ok (.iinc 2 1, 3) := by decide +kernel
theorem dJ7_fill_53178_17 : decode cJ7_fill_53178 17 = .ok (.goto (-12), 3) := by decide +kernel
theorem dJ7_fill_53178_20 : decode cJ7_fill_53178 20 = .ok (.return_, 1) := by decide +kernel
