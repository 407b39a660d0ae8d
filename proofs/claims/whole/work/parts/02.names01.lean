theorem dX0_init_0 : decode cX0_init 0 = .ok (.aload_n 0, 1) := by decide +kernel
theorem dX0_init_1 : decode cX0_init 1 = .ok (.invokespecial 3, 3) := by decide +kernel
theorem dX0_init_4 : decode cX0_init 4 = .ok (.aload_n 0, 1) := by decide +kernel
theorem dX0_init_5 : decode cX0_init 5 = .ok (.bipush 60, 2) := by decide +kernel
theorem dX0_init_7 : decode cX0_init 7 = .ok (.newarray .int, 2) := by decide +kernel
theorem dX0_init_9 : decode cX0_init 9 = .ok (.putfield 9, 3) := by decide +kernel
theorem dX0_init_12 : decode cX0_init 12 = .ok (.aload_n 0, 1) := by decide +kernel
theorem dX0_init_13 : decode cX0_init 13 = .ok (.bipush 60, 2) := by decide +kernel
theorem dX0_init_15 : decode cX0_init 15 = .ok (.newarray .int, 2) := by decide +kernel
theorem dX0_init_17 : decode cX0_init 17 = .ok (.putfield 15, 3) := by decide +kernel
theorem dX0_init_20 : decode cX0_init 20 = .ok (.aload_n 0, 1) := by decide +kernel
theorem dX0_init_21 : decode cX0_init 21 = .ok (.bipush 60, 2) := by decide +kernel
theorem dX0_init_23 : decode cX0_init 23 = .ok (.newarray .int, 2) := by decide +kernel
theorem dX0_init_25 : decode cX0_init 25 = .ok (.putfield 18, 3) := by decide +kernel
theorem dX0_init_28 : decode cX0_init 28 = .ok (.aload_n 0, 1) := by decide +kernel
theorem dX0_init_29 : decode cX0_init 29 = .ok (.bipush 60, 2) := by decide +kernel
theorem dX0_init_31 : decode cX0_init 31 = .ok (.newarray .int, 2) := by decide +kernel
theorem dX0_init_33 : decode cX0_init 33 = .ok (.putfield 21, 3) := by decide +kernel
theorem dX0_init_36 : decode cX0_init 36 = .ok (.aload_n 0, 1) := by decide +kernel
theorem dX0_init_37 : decode cX0_init 37 = .ok (.bipush 60, 2) := by decide +kernel
theorem dX0_init_39 : decode cX0_init 39 = .ok (.newarray .int, 2) := by decide +kernel
theorem dX0_init_41 : decode cX0_init 41 = .ok (.putfield 24, 3) := by decide +kernel
theorem dX0_init_44 : decode cX0_init 44 = .ok (.aload_n 0, 1) := by decide +kernel
theorem dX0_init_45 : decode cX0_init 45 = .ok (.bipush 60, 2) := by decide +kernel
theorem dX0_init_47 : decode cX0_init 47 = .ok (.newarray .int, 2) := by decide +kernel
theorem dX0_init_49 : decode cX0_init 49 = .ok (.putfield 27, 3) := by decide +kernel
theorem dX0_init_52 : decode cX0_init 52 = .ok (.aload_n 0, 1) := by decide +kernel
theorem dX0_init_53 : decode cX0_init 53 = .ok (.bipush 60, 2) := by decide +kernel
theorem dX0_init_55 : decode cX0_init 55 = .ok (.newarray .int, 2) := by decide +kernel
theorem dX0_init_57 : decode cX0_init 57 = .ok (.putfield 30, 3) := by decide +kernel
theorem dX0_init_60 : decode cX0_init 60 = .ok (.aload_n 0, 1) := by decide +kernel
theorem dX0_init_61 : decode cX0_init 61 = .ok (.bipush 60, 2) := by decide +kernel
theorem dX0_init_63 : decode cX0_init 63 = .ok (.newarray .int, 2) := by decide +kernel
theorem dX0_init_65 : decode cX0_init 65 = .ok (.putfield 33, 3) := by decide +kernel
theorem dX0_init_68 : decode cX0_init 68 = .ok (.return_, 1) := by decide +kernel
set_option maxRecDepth 20000 in
theorem ggX0_add_X0_enterOrder : GoodIn wsX0_add wsX0_enterOrder := goodIn_r _ [12, 13, 14, 15, 16, 11, 17, 7, 6, 18, 19, 20, 21, 22, 23, 24, 25, 26] (by decide +kernel) (by decide +kernel)
set_option maxRecDepth 20000 in
theorem gX0_add_X0_enterOrder : GoodIn wsX0_add (wsV RX0 40 RX0 yX0_enterOrder wsX0_enterOrder) := goodIn_app (goodIn_of _ (by decide +kernel)) ggX0_add_X0_enterOrder
theorem dX0_add_0 : decode cX0_add 0 = .ok (.aload_n 0, 1) := by decide +kernel
theorem dX0_add_1 : decode cX0_add 1 = .ok (.getfield 36, 3) := by decide +kernel
theorem dX0_add_4 : decode cX0_add 4 = .ok (.istore 7, 2) := by decide +kernel
theorem dX0_add_6 : decode cX0_add 6 = .ok (.aload_n 0, 1) := by decide +kernel
theorem dX0_add_7 : decode cX0_add 7 = .ok (.getfield 9, 3) := by decide +kernel
theorem dX0_add_10 : decode cX0_add 10 = .ok (.iload 7, 2) := by decide +kernel
theorem dX0_add_12 : decode cX0_add 12 = .ok (.iload_n 1, 1) := by decide +kernel
theorem dX0_add_13 : decode cX0_add 13 = .ok (.iastore, 1) := by decide +kernel
theorem dX0_add_14 : decode cX0_add 14 = .ok (.aload_n 0, 1) := by decide +kernel
theorem dX0_add_15 : decode cX0_add 15 = .ok (.getfield 15, 3) := by decide +kernel
theorem dX0_add_18 : decode cX0_add 18 = .ok (.iload 7, 2) := by decide +kernel
theorem dX0_add_20 : decode cX0_add 20 = .ok (.iload_n 2, 1) := by decide +kernel
theorem dX0_add_21 : decode cX0_add 21 = .ok (.iastore, 1) := by decide +kernel
theorem dX0_add_22 : decode cX0_add 22 = .ok (.aload_n 0, 1) := by decide +kernel
theorem dX0_add_23 : decode cX0_add 23 = .ok (.getfield 18, 3) := by decide +kernel
theorem dX0_add_26 : decode cX0_add 26 = .ok (.iload 7, 2) := by decide +kernel
theorem dX0_add_28 : decode cX0_add 28 = .ok (.iload_n 3, 1) := by decide +kernel
theorem dX0_add_29 : decode cX0_add 29 = .ok (.iastore, 1) := by decide +kernel
theorem dX0_add_30 : decode cX0_add 30 = .ok (.aload_n 0, 1) := by decide +kernel
theorem dX0_add_31 : decode cX0_add 31 = .ok (.getfield 21, 3) := by decide +kernel
theorem dX0_add_34 : decode cX0_add 34 = .ok (.iload 7, 2) := by decide +kernel
theorem dX0_add_36 : decode cX0_add 36 = .ok (.iload 4, 2) := by decide +kernel
theorem dX0_add_38 : decode cX0_add 38 = .ok (.iastore, 1) := by decide +kernel
theorem dX0_add_39 : decode cX0_add 39 = .ok (.aload_n 0, 1) := by decide +kernel
theorem dX0_add_40 : decode cX0_add 40 = .ok (.getfield 24, 3) := by decide +kernel
theorem dX0_add_43 : decode cX0_add 43 = .ok (.iload 7, 2) := by decide +kernel
theorem dX0_add_45 : decode cX0_add 45 = .ok (.iload 5, 2) := by decide +kernel
theorem dX0_add_47 : decode cX0_add 47 = .ok (.iastore, 1) := by decide +kernel
theorem dX0_add_48 : decode cX0_add 48 = .ok (.aload_n 0, 1) := by decide +kernel
theorem dX0_add_49 : decode cX0_add 49 = .ok (.getfield 27, 3) := by decide +kernel
theorem dX0_add_52 : decode cX0_add 52 = .ok (.iload 7, 2) := by decide +kernel
theorem dX0_add_54 : decode cX0_add 54 = .ok (.iload 6, 2) := by decide +kernel
theorem dX0_add_56 : decode cX0_add 56 = .ok (.iastore, 1) := by decide +kernel
theorem dX0_add_57 : decode cX0_add 57 = .ok (.aload_n 0, 1) := by decide +kernel
theorem dX0_add_58 : decode cX0_add 58 = .ok (.iload 7, 2) := by decide +kernel
theorem dX0_add_60 : decode cX0_add 60 = .ok (.invokevirtual 40, 3) := by decide +kernel
theorem dX0_add_63 : decode cX0_add 63 = .ok (.aload_n 0, 1) := by decide +kernel
theorem dX0_add_64 : decode cX0_add 64 = .ok (.dup, 1) := by decide +kernel
theorem dX0_add_65 : decode cX0_add 65 = .ok (.getfield 36, 3) := by decide +kernel
theorem dX0_add_68 : decode cX0_add 68 = .ok (.iconst 1, 1) := by decide +kernel
theorem dX0_add_69 : decode cX0_add 69 = .ok (.iadd, 1) := by decide +kernel
theorem dX0_add_70 : decode cX0_add 70 = .ok (.putfield 36, 3) := by decide +kernel
theorem dX0_add_73 : decode cX0_add 73 = .ok (.iload 7, 2) := by decide +kernel
theorem dX0_add_75 : decode cX0_add 75 = .ok (.ireturn, 1) := by decide +kernel
set_option maxRecDepth 20000 in
theorem ggX0_enterOrder_X0_comesAhead : GoodIn wsX0_enterOrder wsX0_comesAhead := goodIn_r _ [6, 7, 8, 9, 10, 11, 12, 13, 14, 15, 16, 17] (by decide +kernel) (by decide +kernel)
set_option maxRecDepth 20000 in
theorem gX0_enterOrder_X0_comesAhead : GoodIn wsX0_enterOrder (wsV RX0 44 RX0 yX0_comesAhead wsX0_comesAhead) := goodIn_app (goodIn_of _ (by decide +kernel)) ggX0_enterOrder_X0_comesAhead
theorem dX0_enterOrder_0 : decode cX0_enterOrder 0 = .ok (.iload_n 1, 1) := by decide +kernel
theorem dX0_enterOrder_1 : decode cX0_enterOrder 1 = .ok (.istore_n 2, 1) := by decide +kernel
theorem dX0_enterOrder_2 : decode cX0_enterOrder 2 = .ok (.iload_n 2, 1) := by decide +kernel
theorem dX0_enterOrder_3 : decode cX0_enterOrder 3 = .ok (.ifCond .le 39, 3) := by decide +kernel
theorem dX0_enterOrder_6 : decode cX0_enterOrder 6 = .ok (.aload_n 0, 1) := by decide +kernel
theorem dX0_enterOrder_7 : decode cX0_enterOrder 7 = .ok (.iload_n 1, 1) := by decide +kernel
theorem dX0_enterOrder_8 : decode cX0_enterOrder 8 = .ok (.aload_n 0, 1) := by decide +kernel
theorem dX0_enterOrder_9 : decode cX0_enterOrder 9 = .ok (.getfield 33, 3) := by decide +kernel
theorem dX0_enterOrder_12 : decode cX0_enterOrder 12 = .ok (.iload_n 2, 1) := by decide +kernel
theorem dX0_enterOrder_13 : decode cX0_enterOrder 13 = .ok (.iconst 1, 1) := by decide +kernel
theorem dX0_enterOrder_14 : decode cX0_enterOrder 14 = .ok (.isub, 1) := by decide +kernel
theorem dX0_enterOrder_15 : decode cX0_enterOrder 15 = .ok (.iaload, 1) := by decide +kernel
theorem dX0_enterOrder_16 : decode cX0_enterOrder 16 = .ok (.invokevirtual 44, 3) := by decide +kernel
theorem dX0_enterOrder_19 : decode cX0_enterOrder 19 = .ok (.ifCond .eq 23, 3) := by decide +kernel
theorem dX0_enterOrder_22 : decode cX0_enterOrder 22 = .ok (.aload_n 0, 1) := by decide +kernel
theorem dX0_enterOrder_23 : decode cX0_enterOrder 23 = .ok (.getfield 33, 3) := by decide +kernel
theorem dX0_enterOrder_26 : decode cX0_enterOrder 26 = .ok (.iload_n 2, 1) := by decide +kernel
theorem dX0_enterOrder_27 : decode cX0_enterOrder 27 = .ok (.aload_n 0, 1) := by decide +kernel
theorem dX0_enterOrder_28 : decode cX0_enterOrder 28 = .ok (.getfield 33, 3) := by decide +kernel
theorem dX0_enterOrder_31 : decode cX0_enterOrder 31 = .ok (.iload_n 2, 1) := by decide +kernel
theorem dX0_enterOrder_32 : decode cX0_enterOrder 32 = .ok (.iconst 1, 1) := by decide +kernel
theorem dX0_enterOrder_33 : decode cX0_enterOrder 33 = .ok (.isub, 1) := by decide +kernel
theorem dX0_enterOrder_34 : decode cX0_enterOrder 34 = .ok (.iaload, 1) := by decide +kernel
theorem dX0_enterOrder_35 : decode cX0_enterOrder 35 = .ok (.iastore, 1) := by decide +kernel
theorem dX0_enterOrder_36 : decode cX0_enterOrder 36 = .ok (.iinc 2 (-1), 3) := by decide +kernel
theorem dX0_enterOrder_39 : decode cX0_enterOrder 39 = .ok (.goto (-37), 3) := by decide +kernel
theorem dX0_enterOrder_42 : decode cX0_enterOrder 42 = .ok (.aload_n 0, 1) := by decide +kernel
theorem dX0_enterOrder_43 : decode cX0_enterOrder 43 = .ok (.getfield 33, 3) := by decide +kernel
theorem dX0_enterOrder_46 : decode cX0_enterOrder 46 = .ok (.iload_n 2, 1) := by decide +kernel
theorem dX0_enterOrder_47 : decode cX0_enterOrder 47 = .ok (.iload_n 1, 1) := by decide +kernel
theorem dX0_enterOrder_48 : decode cX0_enterOrder 48 = .ok (.iastore, 1) := by decide +kernel
theorem dX0_enterOrder_49 : decode cX0_enterOrder 49 = .ok (.return_, 1) := by decide +kernel
theorem dX0_comesAhead_0 : decode cX0_comesAhead 0 = .ok (.aload_n 0, 1) := by decide +kernel
theorem dX0_comesAhead_1 : decode cX0_comesAhead 1 = .ok (.getfield 27, 3) := by decide +kernel
theorem dX0_comesAhead_4 : decode cX0_comesAhead 4 = .ok (.iload_n 2, 1) := by decide +kernel
theorem dX0_comesAhead_5 : decode cX0_comesAhead 5 = .ok (.iaload, 1) := by decide +kernel
theorem dX0_comesAhead_6 : decode cX0_comesAhead 6 = .ok (.aload_n 0, 1) := by decide +kernel
theorem dX0_comesAhead_7 : decode cX0_comesAhead 7 = .ok (.getfield 27, 3) := by decide +kernel
theorem dX0_comesAhead_10 : decode cX0_comesAhead 10 = .ok (.iload_n 1, 1) := by decide +kernel
theorem dX0_comesAhead_11 : decode cX0_comesAhead 11 = .ok (.iaload, 1) := by decide +kernel
theorem dX0_comesAhead_12 : decode cX0_comesAhead 12 = .ok (.if_icmp .ne 22, 3) := by decide +kernel
theorem dX0_comesAhead_15 : decode cX0_comesAhead 15 = .ok (.aload_n 0, 1) := by decide +kernel
theorem dX0_comesAhead_16 : decode cX0_comesAhead 16 = .ok (.getfield 24, 3) := by decide +kernel
theorem dX0_comesAhead_19 : decode cX0_comesAhead 19 = .ok (.iload_n 2, 1) := by decide +kernel
theorem dX0_comesAhead_20 : decode cX0_comesAhead 20 = .ok (.iaload, 1) := by decide +kernel
theorem dX0_comesAhead_21 : decode cX0_comesAhead 21 = .ok (.aload_n 0, 1) := by decide +kernel
theorem dX0_comesAhead_22 : decode cX0_comesAhead 22 = .ok (.getfield 24, 3) := by decide +kernel
theorem dX0_comesAhead_25 : decode cX0_comesAhead 25 = .ok (.iload_n 1, 1) := by decide +kernel
theorem dX0_comesAhead_26 : decode cX0_comesAhead 26 = .ok (.iaload, 1) := by decide +kernel
theorem dX0_comesAhead_27 : decode cX0_comesAhead 27 = .ok (.if_icmp .le 7, 3) := by decide +kernel
theorem dX0_comesAhead_30 : decode cX0_comesAhead 30 = .ok (.iconst 1, 1) := by decide +kernel
theorem dX0_comesAhead_31 : decode cX0_comesAhead 31 = .ok (.goto 4, 3) := by decide +kernel
theorem dX0_comesAhead_34 : decode cX0_comesAhead 34 = .ok (.iconst 0, 1) := by decide +kernel
theorem dX0_comesAhead_35 : decode cX0_comesAhead 35 = .ok (.ireturn, 1) := by decide +kernel
set_option maxRecDepth 20000 in
theorem ggX0_addRefusal_X0_refuses : GoodIn wsX0_addRefusal wsX0_refuses := goodIn_r _ [6, 1, 7, 8, 9, 10, 11, 12, 13, 14, 15] (by decide +kernel) (by decide +kernel)
set_option maxRecDepth 20000 in
theorem gX0_addRefusal_X0_refuses : GoodIn wsX0_addRefusal (wsV RX0 48 RX0 yX0_refuses wsX0_refuses) := goodIn_app (goodIn_of _ (by decide +kernel)) ggX0_addRefusal_X0_refuses
theorem dX0_addRefusal_0 : decode cX0_addRefusal 0 = .ok (.aload_n 0, 1) := by decide +kernel
theorem dX0_addRefusal_1 : decode cX0_addRefusal 1 = .ok (.iload_n 1, 1) := by decide +kernel
theorem dX0_addRefusal_2 : decode cX0_addRefusal 2 = .ok (.iload_n 2, 1) := by decide +kernel
theorem dX0_addRefusal_3 : decode cX0_addRefusal 3 = .ok (.invokevirtual 48, 3) := by decide +kernel
theorem dX0_addRefusal_6 : decode cX0_addRefusal 6 = .ok (.ifCond .eq 5, 3) := by decide +kernel
theorem dX0_addRefusal_9 : decode cX0_addRefusal 9 = .ok (.iconst 0, 1) := by decide +kernel
theorem dX0_addRefusal_10 : decode cX0_addRefusal 10 = .ok (.ireturn, 1) := by decide +kernel
theorem dX0_addRefusal_11 : decode cX0_addRefusal 11 = .ok (.aload_n 0, 1) := by decide +kernel
theorem dX0_addRefusal_12 : decode cX0_addRefusal 12 = .ok (.getfield 30, 3) := by decide +kernel
theorem dX0_addRefusal_15 : decode cX0_addRefusal 15 = .ok (.iload_n 1, 1) := by decide +kernel
theorem dX0_addRefusal_16 : decode cX0_addRefusal 16 = .ok (.dup2, 1) := by decide +kernel
theorem dX0_addRefusal_17 : decode cX0_addRefusal 17 = .ok (.iaload, 1) := by decide +kernel
theorem dX0_addRefusal_18 : decode cX0_addRefusal 18 = .ok (.iconst 1, 1) := by decide +kernel
theorem dX0_addRefusal_19 : decode cX0_addRefusal 19 = .ok (.iload_n 2, 1) := by decide +kernel
theorem dX0_addRefusal_20 : decode cX0_addRefusal 20 = .ok (.ishl, 1) := by decide +kernel
theorem dX0_addRefusal_21 : decode cX0_addRefusal 21 = .ok (.ior, 1) := by decide +kernel
theorem dX0_addRefusal_22 : decode cX0_addRefusal 22 = .ok (.iastore, 1) := by decide +kernel
theorem dX0_addRefusal_23 : decode cX0_addRefusal 23 = .ok (.iconst 1, 1) := by decide +kernel
theorem dX0_addRefusal_24 : decode cX0_addRefusal 24 = .ok (.ireturn, 1) := by decide +kernel
theorem dX0_refuses_0 : decode cX0_refuses 0 = .ok (.aload_n 0, 1) := by decide +kernel
theorem dX0_refuses_1 : decode cX0_refuses 1 = .ok (.getfield 30, 3) := by decide +kernel
theorem dX0_refuses_4 : decode cX0_refuses 4 = .ok (.iload_n 1, 1) := by decide +kernel
theorem dX0_refuses_5 : decode cX0_refuses 5 = .ok (.iaload, 1) := by decide +kernel
theorem dX0_refuses_6 : decode cX0_refuses 6 = .ok (.iload_n 2, 1) := by decide +kernel
theorem dX0_refuses_7 : decode cX0_refuses 7 = .ok (.ishr, 1) := by decide +kernel
theorem dX0_refuses_8 : decode cX0_refuses 8 = .ok (.iconst 1, 1) := by decide +kernel
theorem dX0_refuses_9 : decode cX0_refuses 9 = .ok (.iand, 1) := by decide +kernel
theorem dX0_refuses_10 : decode cX0_refuses 10 = .ok (.iconst 1, 1) := by decide +kernel
theorem dX0_refuses_11 : decode cX0_refuses 11 = .ok (.if_icmp .ne 7, 3) := by decide +kernel
theorem dX0_refuses_14 : decode cX0_refuses 14 = .ok (.iconst 1, 1) := by decide +kernel
theorem dX0_refuses_15 : decode cX0_refuses 15 = .ok (.goto 4, 3) := by decide +kernel
theorem dX0_refuses_18 : decode cX0_refuses 18 = .ok (.iconst 0, 1) := by decide +kernel
theorem dX0_refuses_19 : decode cX0_refuses 19 = .ok (.ireturn, 1) := by decide +kernel
set_option maxRecDepth 20000 in
theorem ggX1_init_J7_fill_53178 : GoodIn wsX1_init wsJ7_fill_53178 := goodIn_r _ [15] (by decide +kernel) (by decide +kernel)
set_option maxRecDepth 20000 in
theorem gX1_init_J7_fill_53178 : GoodIn wsX1_init (va_wsS RX1 33 yJ7_fill_53178 wsJ7_fill_53178) := goodIn_app (goodIn_of _ (by decide +kernel)) ggX1_init_J7_fill_53178
theorem dX1_init_0 : decode cX1_init 0 = .ok (.aload_n 0, 1) := by decide +kernel
theorem dX1_init_1 : decode cX1_init 1 = .ok (.invokespecial 3, 3) := by decide +kernel
theorem dX1_init_4 : decode cX1_init 4 = .ok (.aload_n 0, 1) := by decide +kernel
theorem dX1_init_5 : decode cX1_init 5 = .ok (.bipush 16, 2) := by decide +kernel
theorem dX1_init_7 : decode cX1_init 7 = .ok (.newarray .int, 2) := by decide +kernel
theorem dX1_init_9 : decode cX1_init 9 = .ok (.putfield 9, 3) := by decide +kernel
theorem dX1_init_12 : decode cX1_init 12 = .ok (.aload_n 0, 1) := by decide +kernel
theorem dX1_init_13 : decode cX1_init 13 = .ok (.bipush 16, 2) := by decide +kernel
theorem dX1_init_15 : decode cX1_init 15 = .ok (.newarray .int, 2) := by decide +kernel
theorem dX1_init_17 : decode cX1_init 17 = .ok (.putfield 15, 3) := by decide +kernel
theorem dX1_init_20 : decode cX1_init 20 = .ok (.aload_n 0, 1) := by decide +kernel
theorem dX1_init_21 : decode cX1_init 21 = .ok (.sipush 128, 3) := by decide +kernel
theorem dX1_init_24 : decode cX1_init 24 = .ok (.newarray .int, 2) := by decide +kernel
theorem dX1_init_26 : decode cX1_init 26 = .ok (.putfield 18, 3) := by decide +kernel
theorem dX1_init_29 : decode cX1_init 29 = .ok (.aload_n 0, 1) := by decide +kernel
theorem dX1_init_30 : decode cX1_init 30 = .ok (.bipush 100, 2) := by decide +kernel
theorem dX1_init_32 : decode cX1_init 32 = .ok (.newarray .int, 2) := by decide +kernel
theorem dX1_init_34 : decode cX1_init 34 = .ok (.putfield 21, 3) := by decide +kernel
theorem dX1_init_37 : decode cX1_init 37 = .ok (.aload_n 0, 1) := by decide +kernel
theorem dX1_init_38 : decode cX1_init 38 = .ok (.bipush 100, 2) := by decide +kernel
theorem dX1_init_40 : decode cX1_init 40 = .ok (.newarray .int, 2) := by decide +kernel
theorem dX1_init_42 : decode cX1_init 42 = .ok (.putfield 24, 3) := by decide +kernel
theorem dX1_init_45 : decode cX1_init 45 = .ok (.aload_n 0, 1) := by decide +kernel
theorem dX1_init_46 : decode cX1_init 46 = .ok (.bipush 100, 2) := by decide +kernel
theorem dX1_init_48 : decode cX1_init 48 = .ok (.newarray .int, 2) := by decide +kernel
theorem dX1_init_50 : decode cX1_init 50 = .ok (.putfield 27, 3) := by decide +kernel
theorem dX1_init_53 : decode cX1_init 53 = .ok (.aload_n 0, 1) := by decide +kernel
theorem dX1_init_54 : decode cX1_init 54 = .ok (.sipush 1600, 3) := by decide +kernel
theorem dX1_init_57 : decode cX1_init 57 = .ok (.newarray .int, 2) := by decide +kernel
theorem dX1_init_59 : decode cX1_init 59 = .ok (.putfield 30, 3) := by decide +kernel
theorem dX1_init_62 : decode cX1_init 62 = .ok (.aload_n 0, 1) := by decide +kernel
theorem dX1_init_63 : decode cX1_init 63 = .ok (.getfield 18, 3) := by decide +kernel
theorem dX1_init_66 : decode cX1_init 66 = .ok (.iconst (-1), 1) := by decide +kernel
theorem dX1_init_67 : decode cX1_init 67 = .ok (.invokestatic 33, 3) := by decide +kernel
theorem dX1_init_70 : decode cX1_init 70 = .ok (.return_, 1) := by decide +kernel
theorem dX1_add_0 : decode cX1_add 0 = .ok (.aload_n 0, 1) := by decide +kernel
theorem dX1_add_1 : decode cX1_add 1 = .ok (.getfield 39, 3) := by decide +kernel
theorem dX1_add_4 : decode cX1_add 4 = .ok (.istore_n 3, 1) := by decide +kernel
theorem dX1_add_5 : decode cX1_add 5 = .ok (.aload_n 0, 1) := by decide +kernel
theorem dX1_add_6 : decode cX1_add 6 = .ok (.getfield 9, 3) := by decide +kernel
theorem dX1_add_9 : decode cX1_add 9 = .ok (.iload_n 3, 1) := by decide +kernel
theorem dX1_add_10 : decode cX1_add 10 = .ok (.iload_n 1, 1) := by decide +kernel
theorem dX1_add_11 : decode cX1_add 11 = .ok (.iastore, 1) := by decide +kernel
theorem dX1_add_12 : decode cX1_add 12 = .ok (.aload_n 0, 1) := by decide +kernel
theorem dX1_add_13 : decode cX1_add 13 = .ok (.getfield 15, 3) := by decide +kernel
theorem dX1_add_16 : decode cX1_add 16 = .ok (.iload_n 3, 1) := by decide +kernel
theorem dX1_add_17 : decode cX1_add 17 = .ok (.iload_n 2, 1) := by decide +kernel
theorem dX1_add_18 : decode cX1_add 18 = .ok (.iastore, 1) := by decide +kernel
theorem dX1_add_19 : decode cX1_add 19 = .ok (.aload_n 0, 1) := by decide +kernel
theorem dX1_add_20 : decode cX1_add 20 = .ok (.dup, 1) := by decide +kernel
theorem dX1_add_21 : decode cX1_add 21 = .ok (.getfield 39, 3) := by decide +kernel
theorem dX1_add_24 : decode cX1_add 24 = .ok (.iconst 1, 1) := by decide +kernel
theorem dX1_add_25 : decode cX1_add 25 = .ok (.iadd, 1) := by decide +kernel
theorem dX1_add_26 : decode cX1_add 26 = .ok (.putfield 39, 3) := by decide +kernel
theorem dX1_add_29 : decode cX1_add 29 = .ok (.iload_n 3, 1) := by decide +kernel
theorem dX1_add_30 : decode cX1_add 30 = .ok (.ireturn, 1) := by decide +kernel
theorem dX1_addPaper_0 : decode cX1_addPaper 0 = .ok (.iload_n 1, 1) := by decide +kernel
theorem dX1_addPaper_1 : decode cX1_addPaper 1 = .ok (.bipush 8, 2) := by decide +kernel
theorem dX1_addPaper_3 : decode cX1_addPaper 3 = .ok (.imul, 1) := by decide +kernel
theorem dX1_addPaper_4 : decode cX1_addPaper 4 = .ok (.iload_n 2, 1) := by decide +kernel
theorem dX1_addPaper_5 : decode cX1_addPaper 5 = .ok (.iadd, 1) := by decide +kernel
theorem dX1_addPaper_6 : decode cX1_addPaper 6 = .ok (.istore 5, 2) := by decide +kernel
theorem dX1_addPaper_8 : decode cX1_addPaper 8 = .ok (.aload_n 0, 1) := by decide +kernel
theorem dX1_addPaper_9 : decode cX1_addPaper 9 = .ok (.getfield 21, 3) := by decide +kernel
theorem dX1_addPaper_12 : decode cX1_addPaper 12 = .ok (.aload_n 0, 1) := by decide +kernel
theorem dX1_addPaper_13 : decode cX1_addPaper 13 = .ok (.getfield 43, 3) := by decide +kernel
theorem dX1_addPaper_16 : decode cX1_addPaper 16 = .ok (.aload_n 0, 1) := by decide +kernel
theorem dX1_addPaper_17 : decode cX1_addPaper 17 = .ok (.getfield 18, 3) := by decide +kernel
theorem dX1_addPaper_20 : decode cX1_addPaper 20 = .ok (.iload 5, 2) := by decide +kernel
theorem dX1_addPaper_22 : decode cX1_addPaper 22 = .ok (.iaload, 1) := by decide +kernel
theorem dX1_addPaper_23 : decode cX1_addPaper 23 = .ok (.iastore, 1) := by decide +kernel
theorem dX1_addPaper_24 : decode cX1_addPaper 24 = .ok (.aload_n 0, 1) := by decide +kernel
theorem dX1_addPaper_25 : decode cX1_addPaper 25 = .ok (.getfield 24, 3) := by decide +kernel
theorem dX1_addPaper_28 : decode cX1_addPaper 28 = .ok (.aload_n 0, 1) := by decide +kernel
theorem dX1_addPaper_29 : decode cX1_addPaper 29 = .ok (.getfield 43, 3) := by decide +kernel
theorem dX1_addPaper_32 : decode cX1_addPaper 32 = .ok (.iload_n 3, 1) := by decide +kernel
theorem dX1_addPaper_33 : decode cX1_addPaper 33 = .ok (.iastore, 1) := by decide +kernel
theorem dX1_addPaper_34 : decode cX1_addPaper 34 = .ok (.aload_n 0, 1) := by decide +kernel
theorem dX1_addPaper_35 : decode cX1_addPaper 35 = .ok (.getfield 27, 3) := by decide +kernel
theorem dX1_addPaper_38 : decode cX1_addPaper 38 = .ok (.aload_n 0, 1) := by decide +kernel
theorem dX1_addPaper_39 : decode cX1_addPaper 39 = .ok (.getfield 43, 3) := by decide +kernel
theorem dX1_addPaper_42 : decode cX1_addPaper 42 = .ok (.iload 4, 2) := by decide +kernel
theorem dX1_addPaper_44 : decode cX1_addPaper 44 = .ok (.iastore, 1) := by decide +kernel
theorem dX1_addPaper_45 : decode cX1_addPaper 45 = .ok (.aload_n 0, 1) := by decide +kernel
theorem dX1_addPaper_46 : decode cX1_addPaper 46 = .ok (.getfield 18, 3) := by decide +kernel
theorem dX1_addPaper_49 : decode cX1_addPaper 49 = .ok (.iload 5, 2) := by decide +kernel
theorem dX1_addPaper_51 : decode cX1_addPaper 51 = .ok (.aload_n 0, 1) := by decide +kernel
theorem dX1_addPaper_52 : decode cX1_addPaper 52 = .ok (.getfield 43, 3) := by decide +kernel
theorem dX1_addPaper_55 : decode cX1_addPaper 55 = .ok (.iastore, 1) := by decide +kernel
theorem dX1_addPaper_56 : decode cX1_addPaper 56 = .ok (.aload_n 0, 1) := by decide +kernel
theorem dX1_addPaper_57 : decode cX1_addPaper 57 = .ok (.dup, 1) := by decide +kernel
theorem dX1_addPaper_58 : decode cX1_addPaper 58 = .ok (.getfield 43, 3) := by decide +kernel
theorem dX1_addPaper_61 : decode cX1_addPaper 61 = .ok (.iconst 1, 1) := by decide +kernel
theorem dX1_addPaper_62 : decode cX1_addPaper 62 = .ok (.iadd, 1) := by decide +kernel
theorem dX1_addPaper_63 : decode cX1_addPaper 63 = .ok (.putfield 43, 3) := by decide +kernel
theorem dX1_addPaper_66 : decode cX1_addPaper 66 = .ok (.return_, 1) := by decide +kernel
theorem dX1_hasPaper_0 : decode cX1_hasPaper 0 = .ok (.aload_n 0, 1) := by decide +kernel
theorem dX1_hasPaper_1 : decode cX1_hasPaper 1 = .ok (.getfield 18, 3) := by decide +kernel
theorem dX1_hasPaper_4 : decode cX1_hasPaper 4 = .ok (.iload_n 1, 1) := by decide +kernel
theorem dX1_hasPaper_5 : decode cX1_hasPaper 5 = .ok (.bipush 8, 2) := by decide +kernel
theorem dX1_hasPaper_7 : decode cX1_hasPaper 7 = .ok (.imul, 1) := by decide +kernel
theorem dX1_hasPaper_8 : decode cX1_hasPaper 8 = .ok (.iload_n 2, 1) := by decide +kernel
theorem dX1_hasPaper_9 : decode cX1_hasPaper 9 = .ok (.iadd, 1) := by decide +kernel
theorem dX1_hasPaper_10 : decode cX1_hasPaper 10 = .ok (.iaload, 1) := by decide +kernel
theorem dX1_hasPaper_11 : decode cX1_hasPaper 11 = .ok (.istore 4, 2) := by decide +kernel
theorem dX1_hasPaper_13 : decode cX1_hasPaper 13 = .ok (.iconst 0, 1) := by decide +kernel
theorem dX1_hasPaper_14 : decode cX1_hasPaper 14 = .ok (.istore 5, 2) := by decide +kernel
theorem dX1_hasPaper_16 : decode cX1_hasPaper 16 = .ok (.iload 5, 2) := by decide +kernel
theorem dX1_hasPaper_18 : decode cX1_hasPaper 18 = .ok (.aload_n 0, 1) := by decide +kernel
theorem dX1_hasPaper_19 : decode cX1_hasPaper 19 = .ok (.getfield 43, 3) := by decide +kernel
theorem dX1_hasPaper_22 : decode cX1_hasPaper 22 = .ok (.if_icmp .ge 52, 3) := by decide +kernel
theorem dX1_hasPaper_25 : decode cX1_hasPaper 25 = .ok (.iload 4, 2) := by decide +kernel
theorem dX1_hasPaper_27 : decode cX1_hasPaper 27 = .ok (.iconst (-1), 1) := by decide +kernel
theorem dX1_hasPaper_28 : decode cX1_hasPaper 28 = .ok (.if_icmp .eq 46, 3) := by decide +kernel
theorem dX1_hasPaper_31 : decode cX1_hasPaper 31 = .ok (.aload_n 0, 1) := by decide +kernel
theorem dX1_hasPaper_32 : decode cX1_hasPaper 32 = .ok (.getfield 27, 3) := by decide +kernel
theorem dX1_hasPaper_35 : decode cX1_hasPaper 35 = .ok (.iload 4, 2) := by decide +kernel
theorem dX1_hasPaper_37 : decode cX1_hasPaper 37 = .ok (.iaload, 1) := by decide +kernel
theorem dX1_hasPaper_38 : decode cX1_hasPaper 38 = .ok (.iload_n 3, 1) := by decide +kernel
theorem dX1_hasPaper_39 : decode cX1_hasPaper 39 = .ok (.if_icmp .gt 20, 3) := by decide +kernel
theorem dX1_hasPaper_42 : decode cX1_hasPaper 42 = .ok (.aload_n 0, 1) := by decide +kernel
theorem dX1_hasPaper_43 : decode cX1_hasPaper 43 = .ok (.getfield 24, 3) := by decide +kernel
theorem dX1_hasPaper_46 : decode cX1_hasPaper 46 = .ok (.iload 4, 2) := by decide +kernel
theorem dX1_hasPaper_48 : decode cX1_hasPaper 48 = .ok (.iaload, 1) := by decide +kernel
theorem dX1_hasPaper_49 : decode cX1_hasPaper 49 = .ok (.iload_n 3, 1) := by decide +kernel
theorem dX1_hasPaper_50 : decode cX1_hasPaper 50 = .ok (.if_icmp .lt 7, 3) := by decide +kernel
theorem dX1_hasPaper_53 : decode cX1_hasPaper 53 = .ok (.iconst 1, 1) := by decide +kernel
theorem dX1_hasPaper_54 : decode cX1_hasPaper 54 = .ok (.goto 4, 3) := by decide +kernel
theorem dX1_hasPaper_57 : decode cX1_hasPaper 57 = .ok (.iconst 0, 1) := by decide +kernel
theorem dX1_hasPaper_58 : decode cX1_hasPaper 58 = .ok (.ireturn, 1) := by decide +kernel
theorem dX1_hasPaper_59 : decode cX1_hasPaper 59 = .ok (.aload_n 0, 1) := by decide +kernel
theorem dX1_hasPaper_60 : decode cX1_hasPaper 60 = .ok (.getfield 21, 3) := by decide +kernel
theorem dX1_hasPaper_63 : decode cX1_hasPaper 63 = .ok (.iload 4, 2) := by decide +kernel
theorem dX1_hasPaper_65 : decode cX1_hasPaper 65 = .ok (.iaload, 1) := by decide +kernel
theorem dX1_hasPaper_66 : decode cX1_hasPaper 66 = .ok (.istore 4, 2) := by decide +kernel
theorem dX1_hasPaper_68 : decode cX1_hasPaper 68 = .ok (.iinc 5 1, 3) := by decide +kernel
theorem dX1_hasPaper_71 : decode cX1_hasPaper 71 = .ok (.goto (-55), 3) := by decide +kernel
theorem dX1_hasPaper_74 : decode cX1_hasPaper 74 = .ok (.iconst 0, 1) := by decide +kernel
theorem dX1_hasPaper_75 : decode cX1_hasPaper 75 = .ok (.ireturn, 1) := by decide +kernel
theorem dX1_addHere_0 : decode cX1_addHere 0 = .ok (.aload_n 0, 1) := by decide +kernel
theorem dX1_addHere_1 : decode cX1_addHere 1 = .ok (.getfield 30, 3) := by decide +kernel
theorem dX1_addHere_4 : decode cX1_addHere 4 = .ok (.iload_n 1, 1) := by decide +kernel
theorem dX1_addHere_5 : decode cX1_addHere 5 = .ok (.bipush 100, 2) := by decide +kernel
theorem dX1_addHere_7 : decode cX1_addHere 7 = .ok (.imul, 1) := by decide +kernel
theorem dX1_addHere_8 : decode cX1_addHere 8 = .ok (.iload_n 2, 1) := by decide +kernel
theorem dX1_addHere_9 : decode cX1_addHere 9 = .ok (.iadd, 1) := by decide +kernel
theorem dX1_addHere_10 : decode cX1_addHere 10 = .ok (.iload_n 3, 1) := by decide +kernel
theorem dX1_addHere_11 : decode cX1_addHere 11 = .ok (.sipush 601, 3) := by decide +kernel
theorem dX1_addHere_14 : decode cX1_addHere 14 = .ok (.imul, 1) := by decide +kernel
theorem dX1_addHere_15 : decode cX1_addHere 15 = .ok (.iload 4, 2) := by decide +kernel
theorem dX1_addHere_17 : decode cX1_addHere 17 = .ok (.iadd, 1) := by decide +kernel
theorem dX1_addHere_18 : decode cX1_addHere 18 = .ok (.iastore, 1) := by decide +kernel
theorem dX1_addHere_19 : decode cX1_addHere 19 = .ok (.aload_n 0, 1) := by decide +kernel
theorem dX1_addHere_20 : decode cX1_addHere 20 = .ok (.dup, 1) := by decide +kernel
theorem dX1_addHere_21 : decode cX1_addHere 21 = .ok (.getfield 46, 3) := by decide +kernel
theorem dX1_addHere_24 : decode cX1_addHere 24 = .ok (.iconst 1, 1) := by decide +kernel
theorem dX1_addHere_25 : decode cX1_addHere 25 = .ok (.iadd, 1) := by decide +kernel
theorem dX1_addHere_26 : decode cX1_addHere 26 = .ok (.putfield 46, 3) := by decide +kernel
theorem dX1_addHere_29 : decode cX1_addHere 29 = .ok (.return_, 1) := by decide +kernel
theorem dX1_isHere_0 : decode cX1_isHere 0 = .ok (.aload_n 0, 1) := by decide +kernel
theorem dX1_isHere_1 : decode cX1_isHere 1 = .ok (.getfield 30, 3) := by decide +kernel
theorem dX1_isHere_4 : decode cX1_isHere 4 = .ok (.iload_n 1, 1) := by decide +kernel
theorem dX1_isHere_5 : decode cX1_isHere 5 = .ok (.bipush 100, 2) := by decide +kernel
theorem dX1_isHere_7 : decode cX1_isHere 7 = .ok (.imul, 1) := by decide +kernel
theorem dX1_isHere_8 : decode cX1_isHere 8 = .ok (.iload_n 2, 1) := by decide +kernel
theorem dX1_isHere_9 : decode cX1_isHere 9 = .ok (.iadd, 1) := by decide +kernel
theorem dX1_isHere_10 : decode cX1_isHere 10 = .ok (.iaload, 1) := by decide +kernel
theorem dX1_isHere_11 : decode cX1_isHere 11 = .ok (.istore 4, 2) := by decide +kernel
theorem dX1_isHere_13 : decode cX1_isHere 13 = .ok (.iload_n 3, 1) := by decide +kernel
theorem dX1_isHere_14 : decode cX1_isHere 14 = .ok (.iload 4, 2) := by decide +kernel
theorem dX1_isHere_16 : decode cX1_isHere 16 = .ok (.sipush 601, 3) := by decide +kernel
theorem dX1_isHere_19 : decode cX1_isHere 19 = .ok (.idiv, 1) := by decide +kernel
theorem dX1_isHere_20 : decode cX1_isHere 20 = .ok (.if_icmp .lt 17, 3) := by decide +kernel
theorem dX1_isHere_23 : decode cX1_isHere 23 = .ok (.iload_n 3, 1) := by decide +kernel
theorem dX1_isHere_24 : decode cX1_isHere 24 = .ok (.iload 4, 2) := by decide +kernel
theorem dX1_isHere_26 : decode cX1_isHere 26 = .ok (.sipush 601, 3) := by decide +kernel
theorem dX1_isHere_29 : decode cX1_isHere 29 = .ok (.irem, 1) := by decide +kernel
theorem dX1_isHere_30 : decode cX1_isHere 30 = .ok (.if_icmp .ge 7, 3) := by decide +kernel
theorem dX1_isHere_33 : decode cX1_isHere 33 = .ok (.iconst 1, 1) := by decide +kernel
theorem dX1_isHere_34 : decode cX1_isHere 34 = .ok (.goto 4, 3) := by decide +kernel
theorem dX1_isHere_37 : decode cX1_isHere 37 = .ok (.iconst 0, 1) := by decide +kernel
theorem dX1_isHere_38 : decode cX1_isHere 38 = .ok (.ireturn, 1) := by decide +kernel
set_option maxRecDepth 20000 in
theorem ggX2_init_J7_fill_53178 : GoodIn wsX2_init wsJ7_fill_53178 := goodIn_r _ [19] (by decide +kernel) (by decide +kernel)
set_option maxRecDepth 20000 in
theorem gX2_init_J7_fill_53178 : GoodIn wsX2_init (va_wsS RX2 48 yJ7_fill_53178 wsJ7_fill_53178) := goodIn_app (goodIn_of _ (by decide +kernel)) ggX2_init_J7_fill_53178
theorem dX2_init_0 : decode cX2_init 0 = .ok (.aload_n 0, 1) := by decide +kernel
theorem dX2_init_1 : decode cX2_init 1 = .ok (.invokespecial 3, 3) := by decide +kernel
theorem dX2_init_4 : decode cX2_init 4 = .ok (.aload_n 0, 1) := by decide +kernel
theorem dX2_init_5 : decode cX2_init 5 = .ok (.bipush 48, 2) := by decide +kernel
theorem dX2_init_7 : decode cX2_init 7 = .ok (.newarray .int, 2) := by decide +kernel
theorem dX2_init_9 : decode cX2_init 9 = .ok (.putfield 9, 3) := by decide +kernel
theorem dX2_init_12 : decode cX2_init 12 = .ok (.aload_n 0, 1) := by decide +kernel
theorem dX2_init_13 : decode cX2_init 13 = .ok (.iconst 3, 1) := by decide +kernel
theorem dX2_init_14 : decode cX2_init 14 = .ok (.newarray .int, 2) := by decide +kernel
theorem dX2_init_16 : decode cX2_init 16 = .ok (.putfield 15, 3) := by decide +kernel
theorem dX2_init_19 : decode cX2_init 19 = .ok (.aload_n 0, 1) := by decide +kernel
theorem dX2_init_20 : decode cX2_init 20 = .ok (.bipush 16, 2) := by decide +kernel
theorem dX2_init_22 : decode cX2_init 22 = .ok (.newarray .int, 2) := by decide +kernel
theorem dX2_init_24 : decode cX2_init 24 = .ok (.putfield 18, 3) := by decide +kernel
theorem dX2_init_27 : decode cX2_init 27 = .ok (.aload_n 0, 1) := by decide +kernel
theorem dX2_init_28 : decode cX2_init 28 = .ok (.bipush 16, 2) := by decide +kernel
theorem dX2_init_30 : decode cX2_init 30 = .ok (.newarray .int, 2) := by decide +kernel
theorem dX2_init_32 : decode cX2_init 32 = .ok (.putfield 21, 3) := by decide +kernel
theorem dX2_init_35 : decode cX2_init 35 = .ok (.aload_n 0, 1) := by decide +kernel
theorem dX2_init_36 : decode cX2_init 36 = .ok (.bipush 16, 2) := by decide +kernel
theorem dX2_init_38 : decode cX2_init 38 = .ok (.newarray .int, 2) := by decide +kernel
theorem dX2_init_40 : decode cX2_init 40 = .ok (.putfield 24, 3) := by decide +kernel
theorem dX2_init_43 : decode cX2_init 43 = .ok (.aload_n 0, 1) := by decide +kernel
theorem dX2_init_44 : decode cX2_init 44 = .ok (.sipush 960, 3) := by decide +kernel
theorem dX2_init_47 : decode cX2_init 47 = .ok (.newarray .int, 2) := by decide +kernel
theorem dX2_init_49 : decode cX2_init 49 = .ok (.putfield 27, 3) := by decide +kernel
theorem dX2_init_52 : decode cX2_init 52 = .ok (.aload_n 0, 1) := by decide +kernel
theorem dX2_init_53 : decode cX2_init 53 = .ok (.iconst 5, 1) := by decide +kernel
theorem dX2_init_54 : decode cX2_init 54 = .ok (.newarray .int, 2) := by decide +kernel
theorem dX2_init_56 : decode cX2_init 56 = .ok (.putfield 30, 3) := by decide +kernel
theorem dX2_init_59 : decode cX2_init 59 = .ok (.aload_n 0, 1) := by decide +kernel
theorem dX2_init_60 : decode cX2_init 60 = .ok (.bipush 16, 2) := by decide +kernel
theorem dX2_init_62 : decode cX2_init 62 = .ok (.newarray .int, 2) := by decide +kernel
theorem dX2_init_64 : decode cX2_init 64 = .ok (.putfield 33, 3) := by decide +kernel
theorem dX2_init_67 : decode cX2_init 67 = .ok (.aload_n 0, 1) := by decide +kernel
theorem dX2_init_68 : decode cX2_init 68 = .ok (.aload_n 1, 1) := by decide +kernel
theorem dX2_init_69 : decode cX2_init 69 = .ok (.putfield 36, 3) := by decide +kernel
theorem dX2_init_72 : decode cX2_init 72 = .ok (.aload_n 0, 1) := by decide +kernel
theorem dX2_init_73 : decode cX2_init 73 = .ok (.aload_n 2, 1) := by decide +kernel
theorem dX2_init_74 : decode cX2_init 74 = .ok (.putfield 40, 3) := by decide +kernel
theorem dX2_init_77 : decode cX2_init 77 = .ok (.aload_n 0, 1) := by decide +kernel
theorem dX2_init_78 : decode cX2_init 78 = .ok (.aload_n 3, 1) := by decide +kernel
theorem dX2_init_79 : decode cX2_init 79 = .ok (.putfield 44, 3) := by decide +kernel
theorem dX2_init_82 : decode cX2_init 82 = .ok (.aload_n 0, 1) := by decide +kernel
theorem dX2_init_83 : decode cX2_init 83 = .ok (.getfield 18, 3) := by decide +kernel
theorem dX2_init_86 : decode cX2_init 86 = .ok (.iconst (-1), 1) := by decide +kernel
theorem dX2_init_87 : decode cX2_init 87 = .ok (.invokestatic 48, 3) := by decide +kernel
theorem dX2_init_90 : decode cX2_init 90 = .ok (.return_, 1) := by decide +kernel
set_option maxRecDepth 20000 in
theorem ggX2_clear_J7_fill_53178 : GoodIn wsX2_clear wsJ7_fill_53178 := goodIn_r _ [10] (by decide +kernel) (by decide +kernel)
set_option maxRecDepth 20000 in
theorem gX2_clear_J7_fill_53178 : GoodIn wsX2_clear (va_wsS RX2 48 yJ7_fill_53178 wsJ7_fill_53178) := goodIn_app (goodIn_of _ (by decide +kernel)) ggX2_clear_J7_fill_53178
theorem dX2_clear_0 : decode cX2_clear 0 = .ok (.aload_n 0, 1) := by decide +kernel
theorem dX2_clear_1 : decode cX2_clear 1 = .ok (.getfield 15, 3) := by decide +kernel
theorem dX2_clear_4 : decode cX2_clear 4 = .ok (.iconst 0, 1) := by decide +kernel
theorem dX2_clear_5 : decode cX2_clear 5 = .ok (.invokestatic 48, 3) := by decide +kernel
theorem dX2_clear_8 : decode cX2_clear 8 = .ok (.aload_n 0, 1) := by decide +kernel
theorem dX2_clear_9 : decode cX2_clear 9 = .ok (.getfield 18, 3) := by decide +kernel
theorem dX2_clear_12 : decode cX2_clear 12 = .ok (.iconst (-1), 1) := by decide +kernel
theorem dX2_clear_13 : decode cX2_clear 13 = .ok (.invokestatic 48, 3) := by decide +kernel
theorem dX2_clear_16 : decode cX2_clear 16 = .ok (.aload_n 0, 1) := by decide +kernel
theorem dX2_clear_17 : decode cX2_clear 17 = .ok (.getfield 24, 3) := by decide +kernel
theorem dX2_clear_20 : decode cX2_clear 20 = .ok (.iconst 0, 1) := by decide +kernel
theorem dX2_clear_21 : decode cX2_clear 21 = .ok (.invokestatic 48, 3) := by decide +kernel
theorem dX2_clear_24 : decode cX2_clear 24 = .ok (.aload_n 0, 1) := by decide +kernel
theorem dX2_clear_25 : decode cX2_clear 25 = .ok (.getfield 27, 3) := by decide +kernel
theorem dX2_clear_28 : decode cX2_clear 28 = .ok (.iconst 0, 1) := by decide +kernel
theorem dX2_clear_29 : decode cX2_clear 29 = .ok (.invokestatic 48, 3) := by decide +kernel
theorem dX2_clear_32 : decode cX2_clear 32 = .ok (.aload_n 0, 1) := by decide +kernel
theorem dX2_clear_33 : decode cX2_clear 33 = .ok (.iconst 0, 1) := by decide +kernel
theorem dX2_clear_34 : decode cX2_clear 34 = .ok (.putfield 54, 3) := by decide +kernel
theorem dX2_clear_37 : decode cX2_clear 37 = .ok (.aload_n 0, 1) := by decide +kernel
theorem dX2_clear_38 : decode cX2_clear 38 = .ok (.iconst 0, 1) := by decide +kernel
theorem dX2_clear_39 : decode cX2_clear 39 = .ok (.putfield 58, 3) := by decide +kernel
theorem dX2_clear_42 : decode cX2_clear 42 = .ok (.return_, 1) := by decide +kernel
set_option maxRecDepth 20000 in
theorem ggX2_work_X4_said : GoodIn wsX2_work wsX4_said := goodIn_r _ [9, 10, 11, 12, 13, 14, 15, 7, 16, 17, 18, 112, 113, 114, 115, 116, 117] (by decide +kernel) (by decide +kernel)
set_option maxRecDepth 20000 in
theorem gX2_work_X4_said_n61 : GoodIn wsX2_work (wsX4_said) := ggX2_work_X4_said
set_option maxRecDepth 20000 in
theorem ggX2_work_X2_bringBack : GoodIn wsX2_work wsX2_bringBack := goodIn_r _ [23, 24, 25, 26, 5, 1, 27, 28, 29, 22, 30, 31, 32, 88, 89, 90, 91, 92, 93, 94, 95, 96, 97, 98, 99, 100, 101, 102, 118, 119, 120, 121, 122, 123, 124, 125, 126, 127, 103, 104, 105, 106, 107, 108, 109, 110, 111] (by decide +kernel) (by decide +kernel)
set_option maxRecDepth 20000 in
theorem gX2_work_X2_bringBack : GoodIn wsX2_work (wsV RX2 67 RX2 yX2_bringBack wsX2_bringBack) := goodIn_app (goodIn_of _ (by decide +kernel)) ggX2_work_X2_bringBack
set_option maxRecDepth 20000 in
theorem ggX2_work_X2_signOn : GoodIn wsX2_work wsX2_signOn := goodIn_r _ [36, 24, 32, 31, 88, 89, 90, 91, 92, 93, 94, 95, 96, 97, 98, 99, 100, 101, 102, 118, 119, 120, 121, 122, 123, 124, 125, 126, 127] (by decide +kernel) (by decide +kernel)
set_option maxRecDepth 20000 in
theorem gX2_work_X2_signOn : GoodIn wsX2_work (wsV RX2 71 RX2 yX2_signOn wsX2_signOn) := goodIn_app (goodIn_of _ (by decide +kernel)) ggX2_work_X2_signOn
set_option maxRecDepth 20000 in
theorem ggX2_work_X2_workCall : GoodIn wsX2_work wsX2_workCall := goodIn_r _ [40, 24, 41, 5, 42, 43, 44, 45, 46, 47, 22, 48, 1, 31, 32, 49, 50, 51, 52, 53, 54, 55, 56, 57, 58, 59, 60, 25, 61, 62, 63, 64, 65, 66, 67, 68, 69, 70, 71, 72, 73, 74, 75, 76, 77, 78, 79, 80, 81, 82, 83, 27, 28, 29, 30, 84, 85, 86, 87, 26, 3, 88, 89, 90, 91, 92, 93, 94, 95, 96, 97, 98, 99, 100, 101, 102, 118, 119, 120, 121, 122, 123, 124, 125, 126, 127, 103, 104, 105, 106, 107, 108, 109, 110, 111] (by decide +kernel) (by decide +kernel)
set_option maxRecDepth 20000 in
theorem gX2_work_X2_workCall : GoodIn wsX2_work (wsV RX2 85 RX2 yX2_workCall wsX2_workCall) := goodIn_app (goodIn_of _ (by decide +kernel)) ggX2_work_X2_workCall
theorem dX2_work_0 : decode cX2_work 0 = .ok (.iconst 0, 1) := by decide +kernel
theorem dX2_work_1 : decode cX2_work 1 = .ok (.istore_n 3, 1) := by decide +kernel
theorem dX2_work_2 : decode cX2_work 2 = .ok (.iload_n 3, 1) := by decide +kernel
theorem dX2_work_3 : decode cX2_work 3 = .ok (.aload_n 0, 1) := by decide +kernel
theorem dX2_work_4 : decode cX2_work 4 = .ok (.getfield 30, 3) := by decide +kernel
theorem dX2_work_7 : decode cX2_work 7 = .ok (.arraylength, 1) := by decide +kernel
theorem dX2_work_8 : decode cX2_work 8 = .ok (.if_icmp .ge 25, 3) := by decide +kernel
theorem dX2_work_11 : decode cX2_work 11 = .ok (.aload_n 0, 1) := by decide +kernel
theorem dX2_work_12 : decode cX2_work 12 = .ok (.getfield 30, 3) := by decide +kernel
theorem dX2_work_15 : decode cX2_work 15 = .ok (.iload_n 3, 1) := by decide +kernel
theorem dX2_work_16 : decode cX2_work 16 = .ok (.aload_n 0, 1) := by decide +kernel
theorem dX2_work_17 : decode cX2_work 17 = .ok (.getfield 36, 3) := by decide +kernel
theorem dX2_work_20 : decode cX2_work 20 = .ok (.iload_n 3, 1) := by decide +kernel
theorem dX2_work_21 : decode cX2_work 21 = .ok (.iload_n 1, 1) := by decide +kernel
theorem dX2_work_22 : decode cX2_work 22 = .ok (.iload_n 2, 1) := by decide +kernel
theorem dX2_work_23 : decode cX2_work 23 = .ok (.invokevirtual 61, 3) := by decide +kernel
theorem dX2_work_26 : decode cX2_work 26 = .ok (.iastore, 1) := by decide +kernel
theorem dX2_work_27 : decode cX2_work 27 = .ok (.iinc 3 1, 3) := by decide +kernel
theorem dX2_work_30 : decode cX2_work 30 = .ok (.goto (-28), 3) := by decide +kernel
theorem dX2_work_33 : decode cX2_work 33 = .ok (.aload_n 0, 1) := by decide +kernel
theorem dX2_work_34 : decode cX2_work 34 = .ok (.iload_n 1, 1) := by decide +kernel
theorem dX2_work_35 : decode cX2_work 35 = .ok (.invokevirtual 67, 3) := by decide +kernel
theorem dX2_work_38 : decode cX2_work 38 = .ok (.aload_n 0, 1) := by decide +kernel
theorem dX2_work_39 : decode cX2_work 39 = .ok (.iload_n 1, 1) := by decide +kernel
theorem dX2_work_40 : decode cX2_work 40 = .ok (.invokevirtual 71, 3) := by decide +kernel
theorem dX2_work_43 : decode cX2_work 43 = .ok (.aload_n 0, 1) := by decide +kernel
theorem dX2_work_44 : decode cX2_work 44 = .ok (.getfield 58, 3) := by decide +kernel
theorem dX2_work_47 : decode cX2_work 47 = .ok (.istore_n 3, 1) := by decide +kernel
theorem dX2_work_48 : decode cX2_work 48 = .ok (.aload_n 0, 1) := by decide +kernel
theorem dX2_work_49 : decode cX2_work 49 = .ok (.getfield 54, 3) := by decide +kernel
theorem dX2_work_52 : decode cX2_work 52 = .ok (.istore 4, 2) := by decide +kernel
theorem dX2_work_54 : decode cX2_work 54 = .ok (.iload 4, 2) := by decide +kernel
theorem dX2_work_56 : decode cX2_work 56 = .ok (.aload_n 0, 1) := by decide +kernel
theorem dX2_work_57 : decode cX2_work 57 = .ok (.getfield 44, 3) := by decide +kernel
theorem dX2_work_60 : decode cX2_work 60 = .ok (.getfield 74, 3) := by decide +kernel
theorem dX2_work_63 : decode cX2_work 63 = .ok (.if_icmp .ge 56, 3) := by decide +kernel
theorem dX2_work_66 : decode cX2_work 66 = .ok (.aload_n 0, 1) := by decide +kernel
theorem dX2_work_67 : decode cX2_work 67 = .ok (.getfield 44, 3) := by decide +kernel
theorem dX2_work_70 : decode cX2_work 70 = .ok (.getfield 79, 3) := by decide +kernel
theorem dX2_work_73 : decode cX2_work 73 = .ok (.aload_n 0, 1) := by decide +kernel
theorem dX2_work_74 : decode cX2_work 74 = .ok (.getfield 44, 3) := by decide +kernel
theorem dX2_work_77 : decode cX2_work 77 = .ok (.getfield 82, 3) := by decide +kernel
theorem dX2_work_80 : decode cX2_work 80 = .ok (.iload 4, 2) := by decide +kernel
theorem dX2_work_82 : decode cX2_work 82 = .ok (.iaload, 1) := by decide +kernel
theorem dX2_work_83 : decode cX2_work 83 = .ok (.iaload, 1) := by decide +kernel
theorem dX2_work_84 : decode cX2_work 84 = .ok (.iload_n 1, 1) := by decide +kernel
theorem dX2_work_85 : decode cX2_work 85 = .ok (.if_icmp .ne 34, 3) := by decide +kernel
theorem dX2_work_88 : decode cX2_work 88 = .ok (.aload_n 0, 1) := by decide +kernel
theorem dX2_work_89 : decode cX2_work 89 = .ok (.aload_n 0, 1) := by decide +kernel
theorem dX2_work_90 : decode cX2_work 90 = .ok (.getfield 44, 3) := by decide +kernel
theorem dX2_work_93 : decode cX2_work 93 = .ok (.getfield 82, 3) := by decide +kernel
theorem dX2_work_96 : decode cX2_work 96 = .ok (.iload 4, 2) := by decide +kernel
theorem dX2_work_98 : decode cX2_work 98 = .ok (.iaload, 1) := by decide +kernel
theorem dX2_work_99 : decode cX2_work 99 = .ok (.iload_n 1, 1) := by decide +kernel
theorem dX2_work_100 : decode cX2_work 100 = .ok (.invokevirtual 85, 3) := by decide +kernel
theorem dX2_work_103 : decode cX2_work 103 = .ok (.aload_n 0, 1) := by decide +kernel
theorem dX2_work_104 : decode cX2_work 104 = .ok (.dup, 1) := by decide +kernel
theorem dX2_work_105 : decode cX2_work 105 = .ok (.getfield 54, 3) := by decide +kernel
theorem dX2_work_108 : decode cX2_work 108 = .ok (.iconst 1, 1) := by decide +kernel
theorem dX2_work_109 : decode cX2_work 109 = .ok (.iadd, 1) := by decide +kernel
theorem dX2_work_110 : decode cX2_work 110 = .ok (.putfield 54, 3) := by decide +kernel
theorem dX2_work_113 : decode cX2_work 113 = .ok (.iinc 4 1, 3) := by decide +kernel
theorem dX2_work_116 : decode cX2_work 116 = .ok (.goto (-62), 3) := by decide +kernel
theorem dX2_work_119 : decode cX2_work 119 = .ok (.aload_n 0, 1) := by decide +kernel
theorem dX2_work_120 : decode cX2_work 120 = .ok (.getfield 58, 3) := by decide +kernel
theorem dX2_work_123 : decode cX2_work 123 = .ok (.iload_n 3, 1) := by decide +kernel
theorem dX2_work_124 : decode cX2_work 124 = .ok (.isub, 1) := by decide +kernel
theorem dX2_work_125 : decode cX2_work 125 = .ok (.ireturn, 1) := by decide +kernel
set_option maxRecDepth 20000 in
theorem ggX2_bringBack_X2_moveToEnd : GoodIn wsX2_bringBack wsX2_moveToEnd := goodIn_r _ [10, 1, 11, 12, 13, 14, 15, 16, 17, 18, 19, 20, 21, 22, 23, 24, 25, 26, 27, 28, 29, 30, 31, 32, 33, 34, 35, 36, 37] (by decide +kernel) (by decide +kernel)
set_option maxRecDepth 20000 in
theorem gX2_bringBack_X2_moveToEnd : GoodIn wsX2_bringBack (wsV RX2 95 RX2 yX2_moveToEnd wsX2_moveToEnd) := goodIn_app (goodIn_of _ (by decide +kernel)) ggX2_bringBack_X2_moveToEnd
theorem dX2_bringBack_0 : decode cX2_bringBack 0 = .ok (.iconst 0, 1) := by decide +kernel
theorem dX2_bringBack_1 : decode cX2_bringBack 1 = .ok (.istore_n 2, 1) := by decide +kernel
theorem dX2_bringBack_2 : decode cX2_bringBack 2 = .ok (.iload_n 2, 1) := by decide +kernel
theorem dX2_bringBack_3 : decode cX2_bringBack 3 = .ok (.aload_n 0, 1) := by decide +kernel
theorem dX2_bringBack_4 : decode cX2_bringBack 4 = .ok (.getfield 40, 3) := by decide +kernel
theorem dX2_bringBack_7 : decode cX2_bringBack 7 = .ok (.getfield 89, 3) := by decide +kernel
theorem dX2_bringBack_10 : decode cX2_bringBack 10 = .ok (.if_icmp .ge 74, 3) := by decide +kernel
theorem dX2_bringBack_13 : decode cX2_bringBack 13 = .ok (.aload_n 0, 1) := by decide +kernel
theorem dX2_bringBack_14 : decode cX2_bringBack 14 = .ok (.getfield 18, 3) := by decide +kernel
theorem dX2_bringBack_17 : decode cX2_bringBack 17 = .ok (.iload_n 2, 1) := by decide +kernel
theorem dX2_bringBack_18 : decode cX2_bringBack 18 = .ok (.iaload, 1) := by decide +kernel
theorem dX2_bringBack_19 : decode cX2_bringBack 19 = .ok (.iconst (-1), 1) := by decide +kernel
theorem dX2_bringBack_20 : decode cX2_bringBack 20 = .ok (.if_icmp .eq 58, 3) := by decide +kernel
theorem dX2_bringBack_23 : decode cX2_bringBack 23 = .ok (.aload_n 0, 1) := by decide +kernel
theorem dX2_bringBack_24 : decode cX2_bringBack 24 = .ok (.getfield 21, 3) := by decide +kernel
theorem dX2_bringBack_27 : decode cX2_bringBack 27 = .ok (.iload_n 2, 1) := by decide +kernel
theorem dX2_bringBack_28 : decode cX2_bringBack 28 = .ok (.iaload, 1) := by decide +kernel
theorem dX2_bringBack_29 : decode cX2_bringBack 29 = .ok (.iload_n 1, 1) := by decide +kernel
theorem dX2_bringBack_30 : decode cX2_bringBack 30 = .ok (.if_icmp .ge 48, 3) := by decide +kernel
theorem dX2_bringBack_33 : decode cX2_bringBack 33 = .ok (.aload_n 0, 1) := by decide +kernel
theorem dX2_bringBack_34 : decode cX2_bringBack 34 = .ok (.getfield 44, 3) := by decide +kernel
theorem dX2_bringBack_37 : decode cX2_bringBack 37 = .ok (.getfield 92, 3) := by decide +kernel
theorem dX2_bringBack_40 : decode cX2_bringBack 40 = .ok (.aload_n 0, 1) := by decide +kernel
theorem dX2_bringBack_41 : decode cX2_bringBack 41 = .ok (.getfield 18, 3) := by decide +kernel
theorem dX2_bringBack_44 : decode cX2_bringBack 44 = .ok (.iload_n 2, 1) := by decide +kernel
theorem dX2_bringBack_45 : decode cX2_bringBack 45 = .ok (.iaload, 1) := by decide +kernel
theorem dX2_bringBack_46 : decode cX2_bringBack 46 = .ok (.iaload, 1) := by decide +kernel
theorem dX2_bringBack_47 : decode cX2_bringBack 47 = .ok (.aload_n 0, 1) := by decide +kernel
theorem dX2_bringBack_48 : decode cX2_bringBack 48 = .ok (.getfield 30, 3) := by decide +kernel
theorem dX2_bringBack_51 : decode cX2_bringBack 51 = .ok (.iconst 0, 1) := by decide +kernel
theorem dX2_bringBack_52 : decode cX2_bringBack 52 = .ok (.iaload, 1) := by decide +kernel
theorem dX2_bringBack_53 : decode cX2_bringBack 53 = .ok (.if_icmp .le 7, 3) := by decide +kernel
theorem dX2_bringBack_56 : decode cX2_bringBack 56 = .ok (.iconst 1, 1) := by decide +kernel
theorem dX2_bringBack_57 : decode cX2_bringBack 57 = .ok (.goto 4, 3) := by decide +kernel
theorem dX2_bringBack_60 : decode cX2_bringBack 60 = .ok (.iconst 0, 1) := by decide +kernel
theorem dX2_bringBack_61 : decode cX2_bringBack 61 = .ok (.istore_n 3, 1) := by decide +kernel
theorem dX2_bringBack_62 : decode cX2_bringBack 62 = .ok (.aload_n 0, 1) := by decide +kernel
theorem dX2_bringBack_63 : decode cX2_bringBack 63 = .ok (.getfield 18, 3) := by decide +kernel
theorem dX2_bringBack_66 : decode cX2_bringBack 66 = .ok (.iload_n 2, 1) := by decide +kernel
theorem dX2_bringBack_67 : decode cX2_bringBack 67 = .ok (.iconst (-1), 1) := by decide +kernel
theorem dX2_bringBack_68 : decode cX2_bringBack 68 = .ok (.iastore, 1) := by decide +kernel
theorem dX2_bringBack_69 : decode cX2_bringBack 69 = .ok (.iload_n 3, 1) := by decide +kernel
theorem dX2_bringBack_70 : decode cX2_bringBack 70 = .ok (.ifCond .eq 8, 3) := by decide +kernel
theorem dX2_bringBack_73 : decode cX2_bringBack 73 = .ok (.aload_n 0, 1) := by decide +kernel
theorem dX2_bringBack_74 : decode cX2_bringBack 74 = .ok (.iload_n 2, 1) := by decide +kernel
theorem dX2_bringBack_75 : decode cX2_bringBack 75 = .ok (.invokevirtual 95, 3) := by decide +kernel
theorem dX2_bringBack_78 : decode cX2_bringBack 78 = .ok (.iinc 2 1, 3) := by decide +kernel
theorem dX2_bringBack_81 : decode cX2_bringBack 81 = .ok (.goto (-79), 3) := by decide +kernel
theorem dX2_bringBack_84 : decode cX2_bringBack 84 = .ok (.return_, 1) := by decide +kernel
theorem dX2_signOn_0 : decode cX2_signOn 0 = .ok (.iconst 0, 1) := by decide +kernel
theorem dX2_signOn_1 : decode cX2_signOn 1 = .ok (.istore_n 2, 1) := by decide +kernel
theorem dX2_signOn_2 : decode cX2_signOn 2 = .ok (.iload_n 2, 1) := by decide +kernel
theorem dX2_signOn_3 : decode cX2_signOn 3 = .ok (.aload_n 0, 1) := by decide +kernel
theorem dX2_signOn_4 : decode cX2_signOn 4 = .ok (.getfield 40, 3) := by decide +kernel
theorem dX2_signOn_7 : decode cX2_signOn 7 = .ok (.getfield 89, 3) := by decide +kernel
theorem dX2_signOn_10 : decode cX2_signOn 10 = .ok (.if_icmp .ge 59, 3) := by decide +kernel
theorem dX2_signOn_13 : decode cX2_signOn 13 = .ok (.aload_n 0, 1) := by decide +kernel
theorem dX2_signOn_14 : decode cX2_signOn 14 = .ok (.getfield 40, 3) := by decide +kernel
theorem dX2_signOn_17 : decode cX2_signOn 17 = .ok (.getfield 98, 3) := by decide +kernel
theorem dX2_signOn_20 : decode cX2_signOn 20 = .ok (.iload_n 2, 1) := by decide +kernel
theorem dX2_signOn_21 : decode cX2_signOn 21 = .ok (.iaload, 1) := by decide +kernel
theorem dX2_signOn_22 : decode cX2_signOn 22 = .ok (.iload_n 1, 1) := by decide +kernel
theorem dX2_signOn_23 : decode cX2_signOn 23 = .ok (.if_icmp .ne 40, 3) := by decide +kernel
theorem dX2_signOn_26 : decode cX2_signOn 26 = .ok (.aload_n 0, 1) := by decide +kernel
theorem dX2_signOn_27 : decode cX2_signOn 27 = .ok (.getfield 40, 3) := by decide +kernel
theorem dX2_signOn_30 : decode cX2_signOn 30 = .ok (.getfield 101, 3) := by decide +kernel
theorem dX2_signOn_33 : decode cX2_signOn 33 = .ok (.iload_n 2, 1) := by decide +kernel
theorem dX2_signOn_34 : decode cX2_signOn 34 = .ok (.iaload, 1) := by decide +kernel
theorem dX2_signOn_35 : decode cX2_signOn 35 = .ok (.istore_n 3, 1) := by decide +kernel
theorem dX2_signOn_36 : decode cX2_signOn 36 = .ok (.aload_n 0, 1) := by decide +kernel
theorem dX2_signOn_37 : decode cX2_signOn 37 = .ok (.getfield 9, 3) := by decide +kernel
theorem dX2_signOn_40 : decode cX2_signOn 40 = .ok (.iload_n 3, 1) := by decide +kernel
theorem dX2_signOn_41 : decode cX2_signOn 41 = .ok (.bipush 16, 2) := by decide +kernel
theorem dX2_signOn_43 : decode cX2_signOn 43 = .ok (.imul, 1) := by decide +kernel
theorem dX2_signOn_44 : decode cX2_signOn 44 = .ok (.aload_n 0, 1) := by decide +kernel
theorem dX2_signOn_45 : decode cX2_signOn 45 = .ok (.getfield 15, 3) := by decide +kernel
theorem dX2_signOn_48 : decode cX2_signOn 48 = .ok (.iload_n 3, 1) := by decide +kernel
theorem dX2_signOn_49 : decode cX2_signOn 49 = .ok (.iaload, 1) := by decide +kernel
theorem dX2_signOn_50 : decode cX2_signOn 50 = .ok (.iadd, 1) := by decide +kernel
theorem dX2_signOn_51 : decode cX2_signOn 51 = .ok (.iload_n 2, 1) := by decide +kernel
theorem dX2_signOn_52 : decode cX2_signOn 52 = .ok (.iastore, 1) := by decide +kernel
theorem dX2_signOn_53 : decode cX2_signOn 53 = .ok (.aload_n 0, 1) := by decide +kernel
theorem dX2_signOn_54 : decode cX2_signOn 54 = .ok (.getfield 15, 3) := by decide +kernel
theorem dX2_signOn_57 : decode cX2_signOn 57 = .ok (.iload_n 3, 1) := by decide +kernel
theorem dX2_signOn_58 : decode cX2_signOn 58 = .ok (.dup2, 1) := by decide +kernel
theorem dX2_signOn_59 : decode cX2_signOn 59 = .ok (.iaload, 1) := by decide +kernel
theorem dX2_signOn_60 : decode cX2_signOn 60 = .ok (.iconst 1, 1) := by decide +kernel
theorem dX2_signOn_61 : decode cX2_signOn 61 = .ok (.iadd, 1) := by decide +kernel
theorem dX2_signOn_62 : decode cX2_signOn 62 = .ok (.iastore, 1) := by decide +kernel
theorem dX2_signOn_63 : decode cX2_signOn 63 = .ok (.iinc 2 1, 3) := by decide +kernel
theorem dX2_signOn_66 : decode cX2_signOn 66 = .ok (.goto (-64), 3) := by decide +kernel
theorem dX2_signOn_69 : decode cX2_signOn 69 = .ok (.return_, 1) := by decide +kernel
theorem dX2_moveToEnd_0 : decode cX2_moveToEnd 0 = .ok (.aload_n 0, 1) := by decide +kernel
theorem dX2_moveToEnd_1 : decode cX2_moveToEnd 1 = .ok (.getfield 40, 3) := by decide +kernel
theorem dX2_moveToEnd_4 : decode cX2_moveToEnd 4 = .ok (.getfield 101, 3) := by decide +kernel
theorem dX2_moveToEnd_7 : decode cX2_moveToEnd 7 = .ok (.iload_n 1, 1) := by decide +kernel
theorem dX2_moveToEnd_8 : decode cX2_moveToEnd 8 = .ok (.iaload, 1) := by decide +kernel
theorem dX2_moveToEnd_9 : decode cX2_moveToEnd 9 = .ok (.istore_n 2, 1) := by decide +kernel
theorem dX2_moveToEnd_10 : decode cX2_moveToEnd 10 = .ok (.iload_n 2, 1) := by decide +kernel
theorem dX2_moveToEnd_11 : decode cX2_moveToEnd 11 = .ok (.bipush 16, 2) := by decide +kernel
theorem dX2_moveToEnd_13 : decode cX2_moveToEnd 13 = .ok (.imul, 1) := by decide +kernel
theorem dX2_moveToEnd_14 : decode cX2_moveToEnd 14 = .ok (.aload_n 0, 1) := by decide +kernel
theorem dX2_moveToEnd_15 : decode cX2_moveToEnd 15 = .ok (.getfield 15, 3) := by decide +kernel
theorem dX2_moveToEnd_18 : decode cX2_moveToEnd 18 = .ok (.iload_n 2, 1) := by decide +kernel
theorem dX2_moveToEnd_19 : decode cX2_moveToEnd 19 = .ok (.iaload, 1) := by decide +kernel
theorem dX2_moveToEnd_20 : decode cX2_moveToEnd 20 = .ok (.iadd, 1) := by decide +kernel
theorem dX2_moveToEnd_21 : decode cX2_moveToEnd 21 = .ok (.istore_n 3, 1) := by decide +kernel
theorem dX2_moveToEnd_22 : decode cX2_moveToEnd 22 = .ok (.iconst 0, 1) := by decide +kernel
theorem dX2_moveToEnd_23 : decode cX2_moveToEnd 23 = .ok (.istore 4, 2) := by decide +kernel
theorem dX2_moveToEnd_25 : decode cX2_moveToEnd 25 = .ok (.iload_n 2, 1) := by decide +kernel
theorem dX2_moveToEnd_26 : decode cX2_moveToEnd 26 = .ok (.bipush 16, 2) := by decide +kernel
theorem dX2_moveToEnd_28 : decode cX2_moveToEnd 28 = .ok (.imul, 1) := by decide +kernel
theorem dX2_moveToEnd_29 : decode cX2_moveToEnd 29 = .ok (.istore 5, 2) := by decide +kernel
theorem dX2_moveToEnd_31 : decode cX2_moveToEnd 31 = .ok (.iload 5, 2) := by decide +kernel
theorem dX2_moveToEnd_33 : decode cX2_moveToEnd 33 = .ok (.iload_n 3, 1) := by decide +kernel
theorem dX2_moveToEnd_34 : decode cX2_moveToEnd 34 = .ok (.if_icmp .ge 53, 3) := by decide +kernel
theorem dX2_moveToEnd_37 : decode cX2_moveToEnd 37 = .ok (.iload 4, 2) := by decide +kernel
theorem dX2_moveToEnd_39 : decode cX2_moveToEnd 39 = .ok (.ifCond .eq 19, 3) := by decide +kernel
theorem dX2_moveToEnd_42 : decode cX2_moveToEnd 42 = .ok (.aload_n 0, 1) := by decide +kernel
theorem dX2_moveToEnd_43 : decode cX2_moveToEnd 43 = .ok (.getfield 9, 3) := by decide +kernel
theorem dX2_moveToEnd_46 : decode cX2_moveToEnd 46 = .ok (.iload 5, 2) := by decide +kernel
theorem dX2_moveToEnd_48 : decode cX2_moveToEnd 48 = .ok (.iconst 1, 1) := by decide +kernel
theorem dX2_moveToEnd_49 : decode cX2_moveToEnd 49 = .ok (.isub, 1) := by decide +kernel
theorem dX2_moveToEnd_50 : decode cX2_moveToEnd 50 = .ok (.aload_n 0, 1) := by decide +kernel
theorem dX2_moveToEnd_51 : decode cX2_moveToEnd 51 = .ok (.getfield 9, 3) := by decide +kernel
theorem dX2_moveToEnd_54 : decode cX2_moveToEnd 54 = .ok (.iload 5, 2) := by decide +kernel
theorem dX2_moveToEnd_56 : decode cX2_moveToEnd 56 = .ok (.iaload, 1) := by decide +kernel
theorem dX2_moveToEnd_57 : decode cX2_moveToEnd 57 = .ok (.iastore, 1) := by decide +kernel
theorem dX2_moveToEnd_58 : decode cX2_moveToEnd 58 = .ok (.iload 4, 2) := by decide +kernel
theorem dX2_moveToEnd_60 : decode cX2_moveToEnd 60 = .ok (.ifCond .ne 14, 3) := by decide +kernel
theorem dX2_moveToEnd_63 : decode cX2_moveToEnd 63 = .ok (.aload_n 0, 1) := by decide +kernel
theorem dX2_moveToEnd_64 : decode cX2_moveToEnd 64 = .ok (.getfield 9, 3) := by decide +kernel
theorem dX2_moveToEnd_67 : decode cX2_moveToEnd 67 = .ok (.iload 5, 2) := by decide +kernel
theorem dX2_moveToEnd_69 : decode cX2_moveToEnd 69 = .ok (.iaload, 1) := by decide +kernel
theorem dX2_moveToEnd_70 : decode cX2_moveToEnd 70 = .ok (.iload_n 1, 1) := by decide +kernel
theorem dX2_moveToEnd_71 : decode cX2_moveToEnd 71 = .ok (.if_icmp .ne 7, 3) := by decide +kernel
theorem dX2_moveToEnd_74 : decode cX2_moveToEnd 74 = .ok (.iconst 1, 1) := by decide +kernel
theorem dX2_moveToEnd_75 : decode cX2_moveToEnd 75 = .ok (.goto 4, 3) := by decide +kernel
theorem dX2_moveToEnd_78 : decode cX2_moveToEnd 78 = .ok (.iconst 0, 1) := by decide +kernel
theorem dX2_moveToEnd_79 : decode cX2_moveToEnd 79 = .ok (.istore 4, 2) := by decide +kernel
theorem dX2_moveToEnd_81 : decode cX2_moveToEnd 81 = .ok (.iinc 5 1, 3) := by decide +kernel
theorem dX2_moveToEnd_84 : decode cX2_moveToEnd 84 = .ok (.goto (-53), 3) := by decide +kernel
theorem dX2_moveToEnd_87 : decode cX2_moveToEnd 87 = .ok (.iload 4, 2) := by decide +kernel
theorem dX2_moveToEnd_89 : decode cX2_moveToEnd 89 = .ok (.ifCond .eq 12, 3) := by decide +kernel
theorem dX2_moveToEnd_92 : decode cX2_moveToEnd 92 = .ok (.aload_n 0, 1) := by decide +kernel
theorem dX2_moveToEnd_93 : decode cX2_moveToEnd 93 = .ok (.getfield 9, 3) := by decide +kernel
theorem dX2_moveToEnd_96 : decode cX2_moveToEnd 96 = .ok (.iload_n 3, 1) := by decide +kernel
theorem dX2_moveToEnd_97 : decode cX2_moveToEnd 97 = .ok (.iconst 1, 1) := by decide +kernel
theorem dX2_moveToEnd_98 : decode cX2_moveToEnd 98 = .ok (.isub, 1) := by decide +kernel
theorem dX2_moveToEnd_99 : decode cX2_moveToEnd 99 = .ok (.iload_n 1, 1) := by decide +kernel
theorem dX2_moveToEnd_100 : decode cX2_moveToEnd 100 = .ok (.iastore, 1) := by decide +kernel
theorem dX2_moveToEnd_101 : decode cX2_moveToEnd 101 = .ok (.return_, 1) := by decide +kernel
set_option maxRecDepth 20000 in
theorem ggX2_workCall_X2_lineUp : GoodIn wsX2_workCall wsX2_lineUp := goodIn_r _ [11, 5, 12, 3, 1, 13, 14, 15, 16, 17, 10, 18, 6, 61, 62, 63, 64, 65, 66, 67, 68, 69, 70, 71, 72, 73, 74, 75, 86, 87, 88, 89, 90, 91, 92, 93, 94, 76, 77, 78, 79, 80, 81, 82, 83, 84, 85] (by decide +kernel) (by decide +kernel)
set_option maxRecDepth 20000 in
theorem gX2_workCall_X2_lineUp : GoodIn wsX2_workCall (wsV RX2 104 RX2 yX2_lineUp wsX2_lineUp) := goodIn_app (goodIn_of _ (by decide +kernel)) ggX2_workCall_X2_lineUp
set_option maxRecDepth 20000 in
theorem ggX2_workCall_X2_ask : GoodIn wsX2_workCall wsX2_ask := goodIn_r _ [22, 2, 4, 23, 24, 25, 10, 26, 27, 1, 3, 28, 29, 30, 31, 32, 33, 34, 35, 36, 37, 38, 39, 40, 41, 42, 43, 44, 45, 46, 47, 48, 49, 50, 12, 51, 52, 53, 54, 13, 14, 55, 56, 57, 58, 59, 60, 61, 62, 63, 64, 65, 66, 67, 68, 69, 70, 71, 72, 73, 74, 75, 86, 87, 88, 89, 90, 91, 92, 93, 94, 76, 77, 78, 79, 80, 81, 82, 83, 84, 85] (by decide +kernel) (by decide +kernel)
set_option maxRecDepth 20000 in
theorem gX2_workCall_X2_ask : GoodIn wsX2_workCall (wsV RX2 119 RX2 yX2_ask wsX2_ask) := goodIn_app (goodIn_of _ (by decide +kernel)) ggX2_workCall_X2_ask
theorem dX2_workCall_0 : decode cX2_workCall 0 = .ok (.iconst 0, 1) := by decide +kernel
theorem dX2_workCall_1 : decode cX2_workCall 1 = .ok (.istore_n 3, 1) := by decide +kernel
theorem dX2_workCall_2 : decode cX2_workCall 2 = .ok (.iload_n 3, 1) := by decide +kernel
theorem dX2_workCall_3 : decode cX2_workCall 3 = .ok (.aload_n 0, 1) := by decide +kernel
theorem dX2_workCall_4 : decode cX2_workCall 4 = .ok (.getfield 40, 3) := by decide +kernel
theorem dX2_workCall_7 : decode cX2_workCall 7 = .ok (.getfield 89, 3) := by decide +kernel
theorem dX2_workCall_10 : decode cX2_workCall 10 = .ok (.if_icmp .ge 35, 3) := by decide +kernel
theorem dX2_workCall_13 : decode cX2_workCall 13 = .ok (.aload_n 0, 1) := by decide +kernel
theorem dX2_workCall_14 : decode cX2_workCall 14 = .ok (.getfield 40, 3) := by decide +kernel
theorem dX2_workCall_17 : decode cX2_workCall 17 = .ok (.getfield 98, 3) := by decide +kernel
theorem dX2_workCall_20 : decode cX2_workCall 20 = .ok (.iload_n 3, 1) := by decide +kernel
theorem dX2_workCall_21 : decode cX2_workCall 21 = .ok (.iaload, 1) := by decide +kernel
theorem dX2_workCall_22 : decode cX2_workCall 22 = .ok (.iload_n 2, 1) := by decide +kernel
theorem dX2_workCall_23 : decode cX2_workCall 23 = .ok (.if_icmp .gt 16, 3) := by decide +kernel
theorem dX2_workCall_26 : decode cX2_workCall 26 = .ok (.aload_n 0, 1) := by decide +kernel
theorem dX2_workCall_27 : decode cX2_workCall 27 = .ok (.getfield 27, 3) := by decide +kernel
theorem dX2_workCall_30 : decode cX2_workCall 30 = .ok (.iload_n 1, 1) := by decide +kernel
theorem dX2_workCall_31 : decode cX2_workCall 31 = .ok (.bipush 16, 2) := by decide +kernel
theorem dX2_workCall_33 : decode cX2_workCall 33 = .ok (.imul, 1) := by decide +kernel
theorem dX2_workCall_34 : decode cX2_workCall 34 = .ok (.iload_n 3, 1) := by decide +kernel
theorem dX2_workCall_35 : decode cX2_workCall 35 = .ok (.iadd, 1) := by decide +kernel
theorem dX2_workCall_36 : decode cX2_workCall 36 = .ok (.bipush 6, 2) := by decide +kernel
theorem dX2_workCall_38 : decode cX2_workCall 38 = .ok (.iastore, 1) := by decide +kernel
theorem dX2_workCall_39 : decode cX2_workCall 39 = .ok (.iinc 3 1, 3) := by decide +kernel
theorem dX2_workCall_42 : decode cX2_workCall 42 = .ok (.goto (-40), 3) := by decide +kernel
theorem dX2_workCall_45 : decode cX2_workCall 45 = .ok (.aload_n 0, 1) := by decide +kernel
theorem dX2_workCall_46 : decode cX2_workCall 46 = .ok (.iload_n 1, 1) := by decide +kernel
theorem dX2_workCall_47 : decode cX2_workCall 47 = .ok (.invokevirtual 104, 3) := by decide +kernel
theorem dX2_workCall_50 : decode cX2_workCall 50 = .ok (.aload_n 0, 1) := by decide +kernel
theorem dX2_workCall_51 : decode cX2_workCall 51 = .ok (.aload_n 0, 1) := by decide +kernel
theorem dX2_workCall_52 : decode cX2_workCall 52 = .ok (.getfield 44, 3) := by decide +kernel
theorem dX2_workCall_55 : decode cX2_workCall 55 = .ok (.getfield 107, 3) := by decide +kernel
theorem dX2_workCall_58 : decode cX2_workCall 58 = .ok (.iload_n 1, 1) := by decide +kernel
theorem dX2_workCall_59 : decode cX2_workCall 59 = .ok (.iaload, 1) := by decide +kernel
theorem dX2_workCall_60 : decode cX2_workCall 60 = .ok (.putfield 110, 3) := by decide +kernel
theorem dX2_workCall_63 : decode cX2_workCall 63 = .ok (.aload_n 0, 1) := by decide +kernel
theorem dX2_workCall_64 : decode cX2_workCall 64 = .ok (.getfield 44, 3) := by decide +kernel
theorem dX2_workCall_67 : decode cX2_workCall 67 = .ok (.getfield 113, 3) := by decide +kernel
theorem dX2_workCall_70 : decode cX2_workCall 70 = .ok (.iload_n 1, 1) := by decide +kernel
theorem dX2_workCall_71 : decode cX2_workCall 71 = .ok (.iaload, 1) := by decide +kernel
theorem dX2_workCall_72 : decode cX2_workCall 72 = .ok (.istore_n 3, 1) := by decide +kernel
theorem dX2_workCall_73 : decode cX2_workCall 73 = .ok (.iconst 0, 1) := by decide +kernel
theorem dX2_workCall_74 : decode cX2_workCall 74 = .ok (.istore 4, 2) := by decide +kernel
theorem dX2_workCall_76 : decode cX2_workCall 76 = .ok (.iload 4, 2) := by decide +kernel
theorem dX2_workCall_78 : decode cX2_workCall 78 = .ok (.aload_n 0, 1) := by decide +kernel
theorem dX2_workCall_79 : decode cX2_workCall 79 = .ok (.getfield 116, 3) := by decide +kernel
theorem dX2_workCall_82 : decode cX2_workCall 82 = .ok (.if_icmp .ge 33, 3) := by decide +kernel
theorem dX2_workCall_85 : decode cX2_workCall 85 = .ok (.iload_n 3, 1) := by decide +kernel
theorem dX2_workCall_86 : decode cX2_workCall 86 = .ok (.ifCond .le 29, 3) := by decide +kernel
theorem dX2_workCall_89 : decode cX2_workCall 89 = .ok (.aload_n 0, 1) := by decide +kernel
theorem dX2_workCall_90 : decode cX2_workCall 90 = .ok (.iload_n 1, 1) := by decide +kernel
theorem dX2_workCall_91 : decode cX2_workCall 91 = .ok (.aload_n 0, 1) := by decide +kernel
theorem dX2_workCall_92 : decode cX2_workCall 92 = .ok (.getfield 33, 3) := by decide +kernel
theorem dX2_workCall_95 : decode cX2_workCall 95 = .ok (.iload 4, 2) := by decide +kernel
theorem dX2_workCall_97 : decode cX2_workCall 97 = .ok (.iaload, 1) := by decide +kernel
theorem dX2_workCall_98 : decode cX2_workCall 98 = .ok (.iload_n 2, 1) := by decide +kernel
theorem dX2_workCall_99 : decode cX2_workCall 99 = .ok (.invokevirtual 119, 3) := by decide +kernel
theorem dX2_workCall_102 : decode cX2_workCall 102 = .ok (.iconst 5, 1) := by decide +kernel
theorem dX2_workCall_103 : decode cX2_workCall 103 = .ok (.if_icmp .ne 6, 3) := by decide +kernel
theorem dX2_workCall_106 : decode cX2_workCall 106 = .ok (.iinc 3 (-1), 3) := by decide +kernel
theorem dX2_workCall_109 : decode cX2_workCall 109 = .ok (.iinc 4 1, 3) := by decide +kernel
theorem dX2_workCall_112 : decode cX2_workCall 112 = .ok (.goto (-36), 3) := by decide +kernel
theorem dX2_workCall_115 : decode cX2_workCall 115 = .ok (.return_, 1) := by decide +kernel
set_option maxRecDepth 20000 in
theorem ggX2_lineUp_X2_joinLine : GoodIn wsX2_lineUp wsX2_joinLine := goodIn_r _ [11, 1, 12, 13, 14, 15, 16, 17, 18, 19, 20, 21, 22, 23, 24, 25, 26, 27] (by decide +kernel) (by decide +kernel)
set_option maxRecDepth 20000 in
theorem gX2_lineUp_X2_joinLine : GoodIn wsX2_lineUp (wsV RX2 125 RX2 yX2_joinLine wsX2_joinLine) := goodIn_app (goodIn_of _ (by decide +kernel)) ggX2_lineUp_X2_joinLine
theorem dX2_lineUp_0 : decode cX2_lineUp 0 = .ok (.aload_n 0, 1) := by decide +kernel
theorem dX2_lineUp_1 : decode cX2_lineUp 1 = .ok (.iconst 0, 1) := by decide +kernel
theorem dX2_lineUp_2 : decode cX2_lineUp 2 = .ok (.putfield 116, 3) := by decide +kernel
theorem dX2_lineUp_5 : decode cX2_lineUp 5 = .ok (.aload_n 0, 1) := by decide +kernel
theorem dX2_lineUp_6 : decode cX2_lineUp 6 = .ok (.getfield 30, 3) := by decide +kernel
theorem dX2_lineUp_9 : decode cX2_lineUp 9 = .ok (.iconst 4, 1) := by decide +kernel
theorem dX2_lineUp_10 : decode cX2_lineUp 10 = .ok (.iaload, 1) := by decide +kernel
theorem dX2_lineUp_11 : decode cX2_lineUp 11 = .ok (.iconst 1, 1) := by decide +kernel
theorem dX2_lineUp_12 : decode cX2_lineUp 12 = .ok (.if_icmp .ne 15, 3) := by decide +kernel
theorem dX2_lineUp_15 : decode cX2_lineUp 15 = .ok (.aload_n 0, 1) := by decide +kernel
theorem dX2_lineUp_16 : decode cX2_lineUp 16 = .ok (.getfield 44, 3) := by decide +kernel
theorem dX2_lineUp_19 : decode cX2_lineUp 19 = .ok (.getfield 122, 3) := by decide +kernel
theorem dX2_lineUp_22 : decode cX2_lineUp 22 = .ok (.iload_n 1, 1) := by decide +kernel
theorem dX2_lineUp_23 : decode cX2_lineUp 23 = .ok (.iaload, 1) := by decide +kernel
theorem dX2_lineUp_24 : decode cX2_lineUp 24 = .ok (.goto 4, 3) := by decide +kernel
theorem dX2_lineUp_27 : decode cX2_lineUp 27 = .ok (.iconst (-1), 1) := by decide +kernel
theorem dX2_lineUp_28 : decode cX2_lineUp 28 = .ok (.istore_n 2, 1) := by decide +kernel
theorem dX2_lineUp_29 : decode cX2_lineUp 29 = .ok (.aload_n 0, 1) := by decide +kernel
theorem dX2_lineUp_30 : decode cX2_lineUp 30 = .ok (.getfield 30, 3) := by decide +kernel
theorem dX2_lineUp_33 : decode cX2_lineUp 33 = .ok (.iconst 3, 1) := by decide +kernel
theorem dX2_lineUp_34 : decode cX2_lineUp 34 = .ok (.iaload, 1) := by decide +kernel
theorem dX2_lineUp_35 : decode cX2_lineUp 35 = .ok (.iconst 1, 1) := by decide +kernel
theorem dX2_lineUp_36 : decode cX2_lineUp 36 = .ok (.if_icmp .ne 7, 3) := by decide +kernel
theorem dX2_lineUp_39 : decode cX2_lineUp 39 = .ok (.iconst 3, 1) := by decide +kernel
theorem dX2_lineUp_40 : decode cX2_lineUp 40 = .ok (.goto 4, 3) := by decide +kernel
theorem dX2_lineUp_43 : decode cX2_lineUp 43 = .ok (.iconst 2, 1) := by decide +kernel
theorem dX2_lineUp_44 : decode cX2_lineUp 44 = .ok (.istore_n 3, 1) := by decide +kernel
theorem dX2_lineUp_45 : decode cX2_lineUp 45 = .ok (.iload_n 2, 1) := by decide +kernel
theorem dX2_lineUp_46 : decode cX2_lineUp 46 = .ok (.iconst (-1), 1) := by decide +kernel
theorem dX2_lineUp_47 : decode cX2_lineUp 47 = .ok (.if_icmp .eq 21, 3) := by decide +kernel
theorem dX2_lineUp_50 : decode cX2_lineUp 50 = .ok (.aload_n 0, 1) := by decide +kernel
theorem dX2_lineUp_51 : decode cX2_lineUp 51 = .ok (.getfield 40, 3) := by decide +kernel
theorem dX2_lineUp_54 : decode cX2_lineUp 54 = .ok (.getfield 101, 3) := by decide +kernel
theorem dX2_lineUp_57 : decode cX2_lineUp 57 = .ok (.iload_n 2, 1) := by decide +kernel
theorem dX2_lineUp_58 : decode cX2_lineUp 58 = .ok (.iaload, 1) := by decide +kernel
theorem dX2_lineUp_59 : decode cX2_lineUp 59 = .ok (.iload_n 3, 1) := by decide +kernel
theorem dX2_lineUp_60 : decode cX2_lineUp 60 = .ok (.if_icmp .ge 8, 3) := by decide +kernel
theorem dX2_lineUp_63 : decode cX2_lineUp 63 = .ok (.aload_n 0, 1) := by decide +kernel
theorem dX2_lineUp_64 : decode cX2_lineUp 64 = .ok (.iload_n 2, 1) := by decide +kernel
theorem dX2_lineUp_65 : decode cX2_lineUp 65 = .ok (.invokevirtual 125, 3) := by decide +kernel
theorem dX2_lineUp_68 : decode cX2_lineUp 68 = .ok (.iconst 0, 1) := by decide +kernel
theorem dX2_lineUp_69 : decode cX2_lineUp 69 = .ok (.istore 4, 2) := by decide +kernel
theorem dX2_lineUp_71 : decode cX2_lineUp 71 = .ok (.iload 4, 2) := by decide +kernel
theorem dX2_lineUp_73 : decode cX2_lineUp 73 = .ok (.iload_n 3, 1) := by decide +kernel
theorem dX2_lineUp_74 : decode cX2_lineUp 74 = .ok (.if_icmp .ge 57, 3) := by decide +kernel
theorem dX2_lineUp_77 : decode cX2_lineUp 77 = .ok (.iconst 0, 1) := by decide +kernel
theorem dX2_lineUp_78 : decode cX2_lineUp 78 = .ok (.istore 5, 2) := by decide +kernel
theorem dX2_lineUp_80 : decode cX2_lineUp 80 = .ok (.iload 5, 2) := by decide +kernel
theorem dX2_lineUp_82 : decode cX2_lineUp 82 = .ok (.aload_n 0, 1) := by decide +kernel
theorem dX2_lineUp_83 : decode cX2_lineUp 83 = .ok (.getfield 15, 3) := by decide +kernel
theorem dX2_lineUp_86 : decode cX2_lineUp 86 = .ok (.iload 4, 2) := by decide +kernel
theorem dX2_lineUp_88 : decode cX2_lineUp 88 = .ok (.iaload, 1) := by decide +kernel
theorem dX2_lineUp_89 : decode cX2_lineUp 89 = .ok (.if_icmp .ge 36, 3) := by decide +kernel
theorem dX2_lineUp_92 : decode cX2_lineUp 92 = .ok (.aload_n 0, 1) := by decide +kernel
theorem dX2_lineUp_93 : decode cX2_lineUp 93 = .ok (.getfield 9, 3) := by decide +kernel
theorem dX2_lineUp_96 : decode cX2_lineUp 96 = .ok (.iload 4, 2) := by decide +kernel
theorem dX2_lineUp_98 : decode cX2_lineUp 98 = .ok (.bipush 16, 2) := by decide +kernel
theorem dX2_lineUp_100 : decode cX2_lineUp 100 = .ok (.imul, 1) := by decide +kernel
theorem dX2_lineUp_101 : decode cX2_lineUp 101 = .ok (.iload 5, 2) := by decide +kernel
theorem dX2_lineUp_103 : decode cX2_lineUp 103 = .ok (.iadd, 1) := by decide +kernel
theorem dX2_lineUp_104 : decode cX2_lineUp 104 = .ok (.iaload, 1) := by decide +kernel
theorem dX2_lineUp_105 : decode cX2_lineUp 105 = .ok (.istore 6, 2) := by decide +kernel
theorem dX2_lineUp_107 : decode cX2_lineUp 107 = .ok (.iload 6, 2) := by decide +kernel
theorem dX2_lineUp_109 : decode cX2_lineUp 109 = .ok (.iload_n 2, 1) := by decide +kernel
theorem dX2_lineUp_110 : decode cX2_lineUp 110 = .ok (.if_icmp .eq 9, 3) := by decide +kernel
theorem dX2_lineUp_113 : decode cX2_lineUp 113 = .ok (.aload_n 0, 1) := by decide +kernel
theorem dX2_lineUp_114 : decode cX2_lineUp 114 = .ok (.iload 6, 2) := by decide +kernel
theorem dX2_lineUp_116 : decode cX2_lineUp 116 = .ok (.invokevirtual 125, 3) := by decide +kernel
theorem dX2_lineUp_119 : decode cX2_lineUp 119 = .ok (.iinc 5 1, 3) := by decide +kernel
theorem dX2_lineUp_122 : decode cX2_lineUp 122 = .ok (.goto (-42), 3) := by decide +kernel
theorem dX2_lineUp_125 : decode cX2_lineUp 125 = .ok (.iinc 4 1, 3) := by decide +kernel
theorem dX2_lineUp_128 : decode cX2_lineUp 128 = .ok (.goto (-57), 3) := by decide +kernel
theorem dX2_lineUp_131 : decode cX2_lineUp 131 = .ok (.return_, 1) := by decide +kernel
theorem dX2_joinLine_0 : decode cX2_joinLine 0 = .ok (.aload_n 0, 1) := by decide +kernel
theorem dX2_joinLine_1 : decode cX2_joinLine 1 = .ok (.getfield 116, 3) := by decide +kernel
theorem dX2_joinLine_4 : decode cX2_joinLine 4 = .ok (.aload_n 0, 1) := by decide +kernel
theorem dX2_joinLine_5 : decode cX2_joinLine 5 = .ok (.getfield 33, 3) := by decide +kernel
theorem dX2_joinLine_8 : decode cX2_joinLine 8 = .ok (.arraylength, 1) := by decide +kernel
theorem dX2_joinLine_9 : decode cX2_joinLine 9 = .ok (.if_icmp .ge 23, 3) := by decide +kernel
theorem dX2_joinLine_12 : decode cX2_joinLine 12 = .ok (.aload_n 0, 1) := by decide +kernel
theorem dX2_joinLine_13 : decode cX2_joinLine 13 = .ok (.getfield 33, 3) := by decide +kernel
theorem dX2_joinLine_16 : decode cX2_joinLine 16 = .ok (.aload_n 0, 1) := by decide +kernel
theorem dX2_joinLine_17 : decode cX2_joinLine 17 = .ok (.getfield 116, 3) := by decide +kernel
theorem dX2_joinLine_20 : decode cX2_joinLine 20 = .ok (.iload_n 1, 1) := by decide +kernel
theorem dX2_joinLine_21 : decode cX2_joinLine 21 = .ok (.iastore, 1) := by decide +kernel
theorem dX2_joinLine_22 : decode cX2_joinLine 22 = .ok (.aload_n 0, 1) := by decide +kernel
theorem dX2_joinLine_23 : decode cX2_joinLine 23 = .ok (.dup, 1) := by decide +kernel
theorem dX2_joinLine_24 : decode cX2_joinLine 24 = .ok (.getfield 116, 3) := by decide +kernel
theorem dX2_joinLine_27 : decode cX2_joinLine 27 = .ok (.iconst 1, 1) := by decide +kernel
theorem dX2_joinLine_28 : decode cX2_joinLine 28 = .ok (.iadd, 1) := by decide +kernel
theorem dX2_joinLine_29 : decode cX2_joinLine 29 = .ok (.putfield 116, 3) := by decide +kernel
theorem dX2_joinLine_32 : decode cX2_joinLine 32 = .ok (.return_, 1) := by decide +kernel
set_option maxRecDepth 20000 in
theorem ggX2_ask_X2_outcomeFor : GoodIn wsX2_ask wsX2_outcomeFor := goodIn_r _ [7, 8, 9, 10, 2, 11, 12, 13, 14, 15, 16, 17, 18, 19, 20, 21, 22, 23, 24, 25, 26, 27, 28, 47, 48, 49, 50, 51, 52, 53, 54, 55, 56, 57, 58, 59, 60, 61, 62, 63, 64, 65, 66, 67, 68, 69, 70, 71, 72, 73, 74, 75, 76, 77, 78, 79, 80] (by decide +kernel) (by decide +kernel)
set_option maxRecDepth 20000 in
theorem gX2_ask_X2_outcomeFor : GoodIn wsX2_ask (wsV RX2 128 RX2 yX2_outcomeFor wsX2_outcomeFor) := goodIn_app (goodIn_of _ (by decide +kernel)) ggX2_ask_X2_outcomeFor
set_option maxRecDepth 20000 in
theorem ggX2_ask_X2_takeRefusal : GoodIn wsX2_ask wsX2_takeRefusal := goodIn_r _ [32, 33, 34, 2, 35, 36, 37, 6, 38, 9, 39, 40, 47, 48, 49, 50, 51, 52, 53, 54, 55, 56, 57, 58, 59, 60, 61, 71, 72, 73, 74, 75, 76, 77, 78, 79, 80] (by decide +kernel) (by decide +kernel)
set_option maxRecDepth 20000 in
theorem gX2_ask_X2_takeRefusal : GoodIn wsX2_ask (wsV RX2 131 RX2 yX2_takeRefusal wsX2_takeRefusal) := goodIn_app (goodIn_of _ (by decide +kernel)) ggX2_ask_X2_takeRefusal
set_option maxRecDepth 20000 in
theorem ggX2_ask_X2_send : GoodIn wsX2_ask wsX2_send := goodIn_r _ [44, 8, 45, 10, 33, 46, 47, 48, 49, 50, 51, 52, 53, 54, 55, 56, 57, 58, 59, 60, 61, 62, 63, 64, 65, 66, 67, 68, 69, 70] (by decide +kernel) (by decide +kernel)
set_option maxRecDepth 20000 in
theorem gX2_ask_X2_send : GoodIn wsX2_ask (wsV RX2 134 RX2 yX2_send wsX2_send) := goodIn_app (goodIn_of _ (by decide +kernel)) ggX2_ask_X2_send
theorem dX2_ask_0 : decode cX2_ask 0 = .ok (.aload_n 0, 1) := by decide +kernel
theorem dX2_ask_1 : decode cX2_ask 1 = .ok (.iload_n 1, 1) := by decide +kernel
theorem dX2_ask_2 : decode cX2_ask 2 = .ok (.iload_n 2, 1) := by decide +kernel
theorem dX2_ask_3 : decode cX2_ask 3 = .ok (.iload_n 3, 1) := by decide +kernel
theorem dX2_ask_4 : decode cX2_ask 4 = .ok (.invokevirtual 128, 3) := by decide +kernel
theorem dX2_ask_7 : decode cX2_ask 7 = .ok (.istore 4, 2) := by decide +kernel
theorem dX2_ask_9 : decode cX2_ask 9 = .ok (.aload_n 0, 1) := by decide +kernel
theorem dX2_ask_10 : decode cX2_ask 10 = .ok (.getfield 27, 3) := by decide +kernel
theorem dX2_ask_13 : decode cX2_ask 13 = .ok (.iload_n 1, 1) := by decide +kernel
theorem dX2_ask_14 : decode cX2_ask 14 = .ok (.bipush 16, 2) := by decide +kernel
theorem dX2_ask_16 : decode cX2_ask 16 = .ok (.imul, 1) := by decide +kernel
theorem dX2_ask_17 : decode cX2_ask 17 = .ok (.iload_n 2, 1) := by decide +kernel
theorem dX2_ask_18 : decode cX2_ask 18 = .ok (.iadd, 1) := by decide +kernel
theorem dX2_ask_19 : decode cX2_ask 19 = .ok (.aload_n 0, 1) := by decide +kernel
theorem dX2_ask_20 : decode cX2_ask 20 = .ok (.getfield 110, 3) := by decide +kernel
theorem dX2_ask_23 : decode cX2_ask 23 = .ok (.bipush 8, 2) := by decide +kernel
theorem dX2_ask_25 : decode cX2_ask 25 = .ok (.imul, 1) := by decide +kernel
theorem dX2_ask_26 : decode cX2_ask 26 = .ok (.iload 4, 2) := by decide +kernel
theorem dX2_ask_28 : decode cX2_ask 28 = .ok (.iadd, 1) := by decide +kernel
theorem dX2_ask_29 : decode cX2_ask 29 = .ok (.iastore, 1) := by decide +kernel
theorem dX2_ask_30 : decode cX2_ask 30 = .ok (.iload 4, 2) := by decide +kernel
theorem dX2_ask_32 : decode cX2_ask 32 = .ok (.iconst 4, 1) := by decide +kernel
theorem dX2_ask_33 : decode cX2_ask 33 = .ok (.if_icmp .ne 11, 3) := by decide +kernel
theorem dX2_ask_36 : decode cX2_ask 36 = .ok (.aload_n 0, 1) := by decide +kernel
theorem dX2_ask_37 : decode cX2_ask 37 = .ok (.iload_n 2, 1) := by decide +kernel
theorem dX2_ask_38 : decode cX2_ask 38 = .ok (.invokevirtual 131, 3) := by decide +kernel
theorem dX2_ask_41 : decode cX2_ask 41 = .ok (.goto 16, 3) := by decide +kernel
theorem dX2_ask_44 : decode cX2_ask 44 = .ok (.iload 4, 2) := by decide +kernel
theorem dX2_ask_46 : decode cX2_ask 46 = .ok (.iconst 5, 1) := by decide +kernel
theorem dX2_ask_47 : decode cX2_ask 47 = .ok (.if_icmp .ne 10, 3) := by decide +kernel
theorem dX2_ask_50 : decode cX2_ask 50 = .ok (.aload_n 0, 1) := by decide +kernel
theorem dX2_ask_51 : decode cX2_ask 51 = .ok (.iload_n 1, 1) := by decide +kernel
theorem dX2_ask_52 : decode cX2_ask 52 = .ok (.iload_n 2, 1) := by decide +kernel
theorem dX2_ask_53 : decode cX2_ask 53 = .ok (.iload_n 3, 1) := by decide +kernel
theorem dX2_ask_54 : decode cX2_ask 54 = .ok (.invokevirtual 134, 3) := by decide +kernel
theorem dX2_ask_57 : decode cX2_ask 57 = .ok (.iload 4, 2) := by decide +kernel
theorem dX2_ask_59 : decode cX2_ask 59 = .ok (.ireturn, 1) := by decide +kernel
set_option maxRecDepth 20000 in
theorem ggX2_outcomeFor_X1_hasPaper : GoodIn wsX2_outcomeFor wsX1_hasPaper := goodIn_r _ [8, 9, 10, 11, 12, 13, 47, 48, 49, 50, 51, 52, 53, 54, 55, 56] (by decide +kernel) (by decide +kernel)
set_option maxRecDepth 20000 in
theorem gX2_outcomeFor_X1_hasPaper_n141 : GoodIn wsX2_outcomeFor (wsX1_hasPaper) := ggX2_outcomeFor_X1_hasPaper
set_option maxRecDepth 20000 in
theorem ggX2_outcomeFor_X1_isHere : GoodIn wsX2_outcomeFor wsX1_isHere := goodIn_r _ [16, 17, 47, 48, 49, 50, 51, 52, 53, 54, 55, 56] (by decide +kernel) (by decide +kernel)
set_option maxRecDepth 20000 in
theorem gX2_outcomeFor_X1_isHere_n145 : GoodIn wsX2_outcomeFor (wsX1_isHere) := ggX2_outcomeFor_X1_isHere
set_option maxRecDepth 20000 in
theorem ggX2_outcomeFor_X0_refuses : GoodIn wsX2_outcomeFor wsX0_refuses := goodIn_r _ [21, 22, 38, 39, 40, 41, 42, 43, 44, 45, 46] (by decide +kernel) (by decide +kernel)
set_option maxRecDepth 20000 in
theorem gX2_outcomeFor_X0_refuses_n148 : GoodIn wsX2_outcomeFor (wsX0_refuses) := ggX2_outcomeFor_X0_refuses
theorem dX2_outcomeFor_0 : decode cX2_outcomeFor 0 = .ok (.aload_n 0, 1) := by decide +kernel
theorem dX2_outcomeFor_1 : decode cX2_outcomeFor 1 = .ok (.getfield 18, 3) := by decide +kernel
theorem dX2_outcomeFor_4 : decode cX2_outcomeFor 4 = .ok (.iload_n 2, 1) := by decide +kernel
theorem dX2_outcomeFor_5 : decode cX2_outcomeFor 5 = .ok (.iaload, 1) := by decide +kernel
theorem dX2_outcomeFor_6 : decode cX2_outcomeFor 6 = .ok (.iconst (-1), 1) := by decide +kernel
theorem dX2_outcomeFor_7 : decode cX2_outcomeFor 7 = .ok (.if_icmp .eq 5, 3) := by decide +kernel
theorem dX2_outcomeFor_10 : decode cX2_outcomeFor 10 = .ok (.iconst 1, 1) := by decide +kernel
theorem dX2_outcomeFor_11 : decode cX2_outcomeFor 11 = .ok (.ireturn, 1) := by decide +kernel
theorem dX2_outcomeFor_12 : decode cX2_outcomeFor 12 = .ok (.aload_n 0, 1) := by decide +kernel
theorem dX2_outcomeFor_13 : decode cX2_outcomeFor 13 = .ok (.getfield 40, 3) := by decide +kernel
theorem dX2_outcomeFor_16 : decode cX2_outcomeFor 16 = .ok (.iload_n 2, 1) := by decide +kernel
theorem dX2_outcomeFor_17 : decode cX2_outcomeFor 17 = .ok (.aload_n 0, 1) := by decide +kernel
theorem dX2_outcomeFor_18 : decode cX2_outcomeFor 18 = .ok (.getfield 44, 3) := by decide +kernel
theorem dX2_outcomeFor_21 : decode cX2_outcomeFor 21 = .ok (.getfield 138, 3) := by decide +kernel
theorem dX2_outcomeFor_24 : decode cX2_outcomeFor 24 = .ok (.iload_n 1, 1) := by decide +kernel
theorem dX2_outcomeFor_25 : decode cX2_outcomeFor 25 = .ok (.iaload, 1) := by decide +kernel
theorem dX2_outcomeFor_26 : decode cX2_outcomeFor 26 = .ok (.iload_n 3, 1) := by decide +kernel
theorem dX2_outcomeFor_27 : decode cX2_outcomeFor 27 = .ok (.invokevirtual 141, 3) := by decide +kernel
theorem dX2_outcomeFor_30 : decode cX2_outcomeFor 30 = .ok (.ifCond .ne 5, 3) := by decide +kernel
theorem dX2_outcomeFor_33 : decode cX2_outcomeFor 33 = .ok (.iconst 2, 1) := by decide +kernel
theorem dX2_outcomeFor_34 : decode cX2_outcomeFor 34 = .ok (.ireturn, 1) := by decide +kernel
theorem dX2_outcomeFor_35 : decode cX2_outcomeFor 35 = .ok (.aload_n 0, 1) := by decide +kernel
theorem dX2_outcomeFor_36 : decode cX2_outcomeFor 36 = .ok (.getfield 40, 3) := by decide +kernel
theorem dX2_outcomeFor_39 : decode cX2_outcomeFor 39 = .ok (.iload_n 2, 1) := by decide +kernel
theorem dX2_outcomeFor_40 : decode cX2_outcomeFor 40 = .ok (.iload_n 3, 1) := by decide +kernel
theorem dX2_outcomeFor_41 : decode cX2_outcomeFor 41 = .ok (.aload_n 0, 1) := by decide +kernel
theorem dX2_outcomeFor_42 : decode cX2_outcomeFor 42 = .ok (.getfield 110, 3) := by decide +kernel
theorem dX2_outcomeFor_45 : decode cX2_outcomeFor 45 = .ok (.invokevirtual 145, 3) := by decide +kernel
theorem dX2_outcomeFor_48 : decode cX2_outcomeFor 48 = .ok (.ifCond .ne 5, 3) := by decide +kernel
theorem dX2_outcomeFor_51 : decode cX2_outcomeFor 51 = .ok (.iconst 3, 1) := by decide +kernel
theorem dX2_outcomeFor_52 : decode cX2_outcomeFor 52 = .ok (.ireturn, 1) := by decide +kernel
theorem dX2_outcomeFor_53 : decode cX2_outcomeFor 53 = .ok (.aload_n 0, 1) := by decide +kernel
theorem dX2_outcomeFor_54 : decode cX2_outcomeFor 54 = .ok (.getfield 44, 3) := by decide +kernel
theorem dX2_outcomeFor_57 : decode cX2_outcomeFor 57 = .ok (.iload_n 1, 1) := by decide +kernel
theorem dX2_outcomeFor_58 : decode cX2_outcomeFor 58 = .ok (.iload_n 2, 1) := by decide +kernel
theorem dX2_outcomeFor_59 : decode cX2_outcomeFor 59 = .ok (.invokevirtual 148, 3) := by decide +kernel
theorem dX2_outcomeFor_62 : decode cX2_outcomeFor 62 = .ok (.ifCond .eq 7, 3) := by decide +kernel
theorem dX2_outcomeFor_65 : decode cX2_outcomeFor 65 = .ok (.iconst 4, 1) := by decide +kernel
theorem dX2_outcomeFor_66 : decode cX2_outcomeFor 66 = .ok (.goto 4, 3) := by decide +kernel
theorem dX2_outcomeFor_69 : decode cX2_outcomeFor 69 = .ok (.iconst 5, 1) := by decide +kernel
theorem dX2_outcomeFor_70 : decode cX2_outcomeFor 70 = .ok (.ireturn, 1) := by decide +kernel
set_option maxRecDepth 20000 in
theorem ggX2_takeRefusal_X2_moveToEnd : GoodIn wsX2_takeRefusal wsX2_moveToEnd := goodIn_r _ [8, 9, 10, 11, 12, 13, 14, 15, 16, 17, 18, 19, 20, 21, 22, 23, 24, 25, 26, 27, 28, 29, 30, 31, 32, 33, 34, 35, 36] (by decide +kernel) (by decide +kernel)
set_option maxRecDepth 20000 in
theorem gX2_takeRefusal_X2_moveToEnd : GoodIn wsX2_takeRefusal (wsV RX2 95 RX2 yX2_moveToEnd wsX2_moveToEnd) := goodIn_app (goodIn_of _ (by decide +kernel)) ggX2_takeRefusal_X2_moveToEnd
theorem dX2_takeRefusal_0 : decode cX2_takeRefusal 0 = .ok (.aload_n 0, 1) := by decide +kernel
theorem dX2_takeRefusal_1 : decode cX2_takeRefusal 1 = .ok (.getfield 24, 3) := by decide +kernel
theorem dX2_takeRefusal_4 : decode cX2_takeRefusal 4 = .ok (.iload_n 1, 1) := by decide +kernel
theorem dX2_takeRefusal_5 : decode cX2_takeRefusal 5 = .ok (.dup2, 1) := by decide +kernel
theorem dX2_takeRefusal_6 : decode cX2_takeRefusal 6 = .ok (.iaload, 1) := by decide +kernel
theorem dX2_takeRefusal_7 : decode cX2_takeRefusal 7 = .ok (.iconst 1, 1) := by decide +kernel
theorem dX2_takeRefusal_8 : decode cX2_takeRefusal 8 = .ok (.iadd, 1) := by decide +kernel
theorem dX2_takeRefusal_9 : decode cX2_takeRefusal 9 = .ok (.iastore, 1) := by decide +kernel
theorem dX2_takeRefusal_10 : decode cX2_takeRefusal 10 = .ok (.aload_n 0, 1) := by decide +kernel
theorem dX2_takeRefusal_11 : decode cX2_takeRefusal 11 = .ok (.getfield 30, 3) := by decide +kernel
theorem dX2_takeRefusal_14 : decode cX2_takeRefusal 14 = .ok (.iconst 1, 1) := by decide +kernel
theorem dX2_takeRefusal_15 : decode cX2_takeRefusal 15 = .ok (.iaload, 1) := by decide +kernel
theorem dX2_takeRefusal_16 : decode cX2_takeRefusal 16 = .ok (.ifCond .le 30, 3) := by decide +kernel
theorem dX2_takeRefusal_19 : decode cX2_takeRefusal 19 = .ok (.aload_n 0, 1) := by decide +kernel
theorem dX2_takeRefusal_20 : decode cX2_takeRefusal 20 = .ok (.getfield 24, 3) := by decide +kernel
theorem dX2_takeRefusal_23 : decode cX2_takeRefusal 23 = .ok (.iload_n 1, 1) := by decide +kernel
theorem dX2_takeRefusal_24 : decode cX2_takeRefusal 24 = .ok (.iaload, 1) := by decide +kernel
theorem dX2_takeRefusal_25 : decode cX2_takeRefusal 25 = .ok (.aload_n 0, 1) := by decide +kernel
theorem dX2_takeRefusal_26 : decode cX2_takeRefusal 26 = .ok (.getfield 30, 3) := by decide +kernel
theorem dX2_takeRefusal_29 : decode cX2_takeRefusal 29 = .ok (.iconst 1, 1) := by decide +kernel
theorem dX2_takeRefusal_30 : decode cX2_takeRefusal 30 = .ok (.iaload, 1) := by decide +kernel
theorem dX2_takeRefusal_31 : decode cX2_takeRefusal 31 = .ok (.if_icmp .lt 15, 3) := by decide +kernel
theorem dX2_takeRefusal_34 : decode cX2_takeRefusal 34 = .ok (.aload_n 0, 1) := by decide +kernel
theorem dX2_takeRefusal_35 : decode cX2_takeRefusal 35 = .ok (.iload_n 1, 1) := by decide +kernel
theorem dX2_takeRefusal_36 : decode cX2_takeRefusal 36 = .ok (.invokevirtual 95, 3) := by decide +kernel
theorem dX2_takeRefusal_39 : decode cX2_takeRefusal 39 = .ok (.aload_n 0, 1) := by decide +kernel
theorem dX2_takeRefusal_40 : decode cX2_takeRefusal 40 = .ok (.getfield 24, 3) := by decide +kernel
theorem dX2_takeRefusal_43 : decode cX2_takeRefusal 43 = .ok (.iload_n 1, 1) := by decide +kernel
theorem dX2_takeRefusal_44 : decode cX2_takeRefusal 44 = .ok (.iconst 0, 1) := by decide +kernel
theorem dX2_takeRefusal_45 : decode cX2_takeRefusal 45 = .ok (.iastore, 1) := by decide +kernel
theorem dX2_takeRefusal_46 : decode cX2_takeRefusal 46 = .ok (.aload_n 0, 1) := by decide +kernel
theorem dX2_takeRefusal_47 : decode cX2_takeRefusal 47 = .ok (.dup, 1) := by decide +kernel
theorem dX2_takeRefusal_48 : decode cX2_takeRefusal 48 = .ok (.getfield 110, 3) := by decide +kernel
theorem dX2_takeRefusal_51 : decode cX2_takeRefusal 51 = .ok (.aload_n 0, 1) := by decide +kernel
theorem dX2_takeRefusal_52 : decode cX2_takeRefusal 52 = .ok (.getfield 30, 3) := by decide +kernel
theorem dX2_takeRefusal_55 : decode cX2_takeRefusal 55 = .ok (.iconst 2, 1) := by decide +kernel
theorem dX2_takeRefusal_56 : decode cX2_takeRefusal 56 = .ok (.iaload, 1) := by decide +kernel
theorem dX2_takeRefusal_57 : decode cX2_takeRefusal 57 = .ok (.iadd, 1) := by decide +kernel
theorem dX2_takeRefusal_58 : decode cX2_takeRefusal 58 = .ok (.putfield 110, 3) := by decide +kernel
theorem dX2_takeRefusal_61 : decode cX2_takeRefusal 61 = .ok (.return_, 1) := by decide +kernel
theorem dX2_send_0 : decode cX2_send 0 = .ok (.aload_n 0, 1) := by decide +kernel
theorem dX2_send_1 : decode cX2_send 1 = .ok (.getfield 18, 3) := by decide +kernel
theorem dX2_send_4 : decode cX2_send 4 = .ok (.iload_n 2, 1) := by decide +kernel
theorem dX2_send_5 : decode cX2_send 5 = .ok (.iload_n 1, 1) := by decide +kernel
