set_option maxRecDepth 20000 in
theorem gX7_init_X2_init_n57 : GoodIn wsX7_init (wsX2_init) := ggX7_init_X2_init
theorem dX7_init_0 : decode cX7_init 0 = .ok (.aload_n 0, 1) := by decide +kernel
theorem dX7_init_1 : decode cX7_init 1 = .ok (.invokespecial 3, 3) := by decide +kernel
theorem dX7_init_4 : decode cX7_init 4 = .ok (.aload_n 0, 1) := by decide +kernel
theorem dX7_init_5 : decode cX7_init 5 = .ok (.new 9, 3) := by decide +kernel
theorem dX7_init_8 : decode cX7_init 8 = .ok (.dup, 1) := by decide +kernel
theorem dX7_init_9 : decode cX7_init 9 = .ok (.invokespecial 11, 3) := by decide +kernel
theorem dX7_init_12 : decode cX7_init 12 = .ok (.putfield 12, 3) := by decide +kernel
theorem dX7_init_15 : decode cX7_init 15 = .ok (.aload_n 0, 1) := by decide +kernel
theorem dX7_init_16 : decode cX7_init 16 = .ok (.new 16, 3) := by decide +kernel
theorem dX7_init_19 : decode cX7_init 19 = .ok (.dup, 1) := by decide +kernel
theorem dX7_init_20 : decode cX7_init 20 = .ok (.aload_n 0, 1) := by decide +kernel
theorem dX7_init_21 : decode cX7_init 21 = .ok (.getfield 12, 3) := by decide +kernel
theorem dX7_init_24 : decode cX7_init 24 = .ok (.invokespecial 18, 3) := by decide +kernel
theorem dX7_init_27 : decode cX7_init 27 = .ok (.putfield 21, 3) := by decide +kernel
theorem dX7_init_30 : decode cX7_init 30 = .ok (.aload_n 0, 1) := by decide +kernel
theorem dX7_init_31 : decode cX7_init 31 = .ok (.new 25, 3) := by decide +kernel
theorem dX7_init_34 : decode cX7_init 34 = .ok (.dup, 1) := by decide +kernel
theorem dX7_init_35 : decode cX7_init 35 = .ok (.invokespecial 27, 3) := by decide +kernel
theorem dX7_init_38 : decode cX7_init 38 = .ok (.putfield 28, 3) := by decide +kernel
theorem dX7_init_41 : decode cX7_init 41 = .ok (.aload_n 0, 1) := by decide +kernel
theorem dX7_init_42 : decode cX7_init 42 = .ok (.new 32, 3) := by decide +kernel
theorem dX7_init_45 : decode cX7_init 45 = .ok (.dup, 1) := by decide +kernel
theorem dX7_init_46 : decode cX7_init 46 = .ok (.invokespecial 34, 3) := by decide +kernel
theorem dX7_init_49 : decode cX7_init 49 = .ok (.putfield 35, 3) := by decide +kernel
theorem dX7_init_52 : decode cX7_init 52 = .ok (.aload_n 0, 1) := by decide +kernel
theorem dX7_init_53 : decode cX7_init 53 = .ok (.new 39, 3) := by decide +kernel
theorem dX7_init_56 : decode cX7_init 56 = .ok (.dup, 1) := by decide +kernel
theorem dX7_init_57 : decode cX7_init 57 = .ok (.invokespecial 41, 3) := by decide +kernel
theorem dX7_init_60 : decode cX7_init 60 = .ok (.putfield 42, 3) := by decide +kernel
theorem dX7_init_63 : decode cX7_init 63 = .ok (.aload_n 0, 1) := by decide +kernel
theorem dX7_init_64 : decode cX7_init 64 = .ok (.new 46, 3) := by decide +kernel
theorem dX7_init_67 : decode cX7_init 67 = .ok (.dup, 1) := by decide +kernel
theorem dX7_init_68 : decode cX7_init 68 = .ok (.aload_n 0, 1) := by decide +kernel
theorem dX7_init_69 : decode cX7_init 69 = .ok (.getfield 28, 3) := by decide +kernel
theorem dX7_init_72 : decode cX7_init 72 = .ok (.invokespecial 48, 3) := by decide +kernel
theorem dX7_init_75 : decode cX7_init 75 = .ok (.putfield 51, 3) := by decide +kernel
theorem dX7_init_78 : decode cX7_init 78 = .ok (.aload_n 0, 1) := by decide +kernel
theorem dX7_init_79 : decode cX7_init 79 = .ok (.new 55, 3) := by decide +kernel
theorem dX7_init_82 : decode cX7_init 82 = .ok (.dup, 1) := by decide +kernel
theorem dX7_init_83 : decode cX7_init 83 = .ok (.aload_n 0, 1) := by decide +kernel
theorem dX7_init_84 : decode cX7_init 84 = .ok (.getfield 28, 3) := by decide +kernel
theorem dX7_init_87 : decode cX7_init 87 = .ok (.aload_n 0, 1) := by decide +kernel
theorem dX7_init_88 : decode cX7_init 88 = .ok (.getfield 35, 3) := by decide +kernel
theorem dX7_init_91 : decode cX7_init 91 = .ok (.aload_n 0, 1) := by decide +kernel
theorem dX7_init_92 : decode cX7_init 92 = .ok (.getfield 42, 3) := by decide +kernel
theorem dX7_init_95 : decode cX7_init 95 = .ok (.invokespecial 57, 3) := by decide +kernel
theorem dX7_init_98 : decode cX7_init 98 = .ok (.putfield 60, 3) := by decide +kernel
theorem dX7_init_101 : decode cX7_init 101 = .ok (.aload_n 0, 1) := by decide +kernel
theorem dX7_init_102 : decode cX7_init 102 = .ok (.new 55, 3) := by decide +kernel
theorem dX7_init_105 : decode cX7_init 105 = .ok (.dup, 1) := by decide +kernel
theorem dX7_init_106 : decode cX7_init 106 = .ok (.aload_n 0, 1) := by decide +kernel
theorem dX7_init_107 : decode cX7_init 107 = .ok (.getfield 28, 3) := by decide +kernel
theorem dX7_init_110 : decode cX7_init 110 = .ok (.aload_n 0, 1) := by decide +kernel
theorem dX7_init_111 : decode cX7_init 111 = .ok (.getfield 35, 3) := by decide +kernel
theorem dX7_init_114 : decode cX7_init 114 = .ok (.aload_n 0, 1) := by decide +kernel
theorem dX7_init_115 : decode cX7_init 115 = .ok (.getfield 42, 3) := by decide +kernel
theorem dX7_init_118 : decode cX7_init 118 = .ok (.invokespecial 57, 3) := by decide +kernel
theorem dX7_init_121 : decode cX7_init 121 = .ok (.putfield 64, 3) := by decide +kernel
theorem dX7_init_124 : decode cX7_init 124 = .ok (.return_, 1) := by decide +kernel
set_option maxRecDepth 20000 in
theorem ggX7_feed_X6_hasRoom : GoodIn wsX7_feed wsX6_hasRoom := goodIn_r _ [5, 6, 20, 21] (by decide +kernel) (by decide +kernel)
set_option maxRecDepth 20000 in
theorem gX7_feed_X6_hasRoom_n67 : GoodIn wsX7_feed (wsX6_hasRoom) := ggX7_feed_X6_hasRoom
set_option maxRecDepth 20000 in
theorem ggX7_feed_X6_add : GoodIn wsX7_feed wsX6_add := goodIn_r _ [9, 6, 10, 20, 21] (by decide +kernel) (by decide +kernel)
set_option maxRecDepth 20000 in
theorem gX7_feed_X6_add_n71 : GoodIn wsX7_feed (wsX6_add) := ggX7_feed_X6_add
theorem dX7_feed_0 : decode cX7_feed 0 = .ok (.aload_n 0, 1) := by decide +kernel
theorem dX7_feed_1 : decode cX7_feed 1 = .ok (.getfield 12, 3) := by decide +kernel
theorem dX7_feed_4 : decode cX7_feed 4 = .ok (.invokevirtual 67, 3) := by decide +kernel
theorem dX7_feed_7 : decode cX7_feed 7 = .ok (.ifCond .ne 5, 3) := by decide +kernel
theorem dX7_feed_10 : decode cX7_feed 10 = .ok (.iconst (-1), 1) := by decide +kernel
theorem dX7_feed_11 : decode cX7_feed 11 = .ok (.ireturn, 1) := by decide +kernel
theorem dX7_feed_12 : decode cX7_feed 12 = .ok (.aload_n 0, 1) := by decide +kernel
theorem dX7_feed_13 : decode cX7_feed 13 = .ok (.getfield 12, 3) := by decide +kernel
theorem dX7_feed_16 : decode cX7_feed 16 = .ok (.iload_n 1, 1) := by decide +kernel
theorem dX7_feed_17 : decode cX7_feed 17 = .ok (.invokevirtual 71, 3) := by decide +kernel
theorem dX7_feed_20 : decode cX7_feed 20 = .ok (.aload_n 0, 1) := by decide +kernel
theorem dX7_feed_21 : decode cX7_feed 21 = .ok (.getfield 12, 3) := by decide +kernel
theorem dX7_feed_24 : decode cX7_feed 24 = .ok (.iload_n 2, 1) := by decide +kernel
theorem dX7_feed_25 : decode cX7_feed 25 = .ok (.invokevirtual 71, 3) := by decide +kernel
theorem dX7_feed_28 : decode cX7_feed 28 = .ok (.aload_n 0, 1) := by decide +kernel
theorem dX7_feed_29 : decode cX7_feed 29 = .ok (.getfield 12, 3) := by decide +kernel
theorem dX7_feed_32 : decode cX7_feed 32 = .ok (.iload_n 3, 1) := by decide +kernel
theorem dX7_feed_33 : decode cX7_feed 33 = .ok (.invokevirtual 71, 3) := by decide +kernel
theorem dX7_feed_36 : decode cX7_feed 36 = .ok (.aload_n 0, 1) := by decide +kernel
theorem dX7_feed_37 : decode cX7_feed 37 = .ok (.getfield 12, 3) := by decide +kernel
theorem dX7_feed_40 : decode cX7_feed 40 = .ok (.iload 4, 2) := by decide +kernel
theorem dX7_feed_42 : decode cX7_feed 42 = .ok (.invokevirtual 71, 3) := by decide +kernel
theorem dX7_feed_45 : decode cX7_feed 45 = .ok (.aload_n 0, 1) := by decide +kernel
theorem dX7_feed_46 : decode cX7_feed 46 = .ok (.getfield 12, 3) := by decide +kernel
theorem dX7_feed_49 : decode cX7_feed 49 = .ok (.iload 5, 2) := by decide +kernel
theorem dX7_feed_51 : decode cX7_feed 51 = .ok (.invokevirtual 71, 3) := by decide +kernel
theorem dX7_feed_54 : decode cX7_feed 54 = .ok (.aload_n 0, 1) := by decide +kernel
theorem dX7_feed_55 : decode cX7_feed 55 = .ok (.getfield 12, 3) := by decide +kernel
theorem dX7_feed_58 : decode cX7_feed 58 = .ok (.getfield 75, 3) := by decide +kernel
theorem dX7_feed_61 : decode cX7_feed 61 = .ok (.ireturn, 1) := by decide +kernel
set_option maxRecDepth 20000 in
theorem ggX7_vote_X7_isBelow : GoodIn wsX7_vote wsX7_isBelow := goodIn_r _ [8] (by decide +kernel) (by decide +kernel)
set_option maxRecDepth 20000 in
theorem gX7_vote_X7_isBelow : GoodIn wsX7_vote (va_wsS RX7 79 yX7_isBelow wsX7_isBelow) := goodIn_app (goodIn_of _ (by decide +kernel)) ggX7_vote_X7_isBelow
set_option maxRecDepth 20000 in
theorem ggX7_vote_X3_read : GoodIn wsX7_vote wsX3_read := goodIn_r _ [12, 13, 14, 15, 16, 17, 18, 19, 20, 21, 22, 23, 24, 25, 26, 10, 27, 28, 29, 30, 31, 32, 33, 34, 35, 36, 37, 38, 39, 40, 41, 42, 43, 44, 45, 46, 47, 48, 49, 50, 51, 52, 53, 54, 55, 56, 57, 58, 59, 60, 61, 62, 63, 64, 65, 66, 67, 68, 69, 70, 71, 72, 73, 74, 75, 76, 77, 78, 79, 80, 81, 82, 83, 84, 85, 86, 87, 88, 89, 90, 91, 92, 93, 94, 95, 96, 97, 98, 99, 100, 101, 102, 103, 104, 105, 106, 107, 108, 109, 110, 111, 112, 113, 114, 115, 116, 117, 118, 119, 120, 121, 122, 123, 124, 125, 126, 127, 128, 163, 164, 165, 166, 167, 168, 169, 170, 171, 172, 155, 156] (by decide +kernel) (by decide +kernel)
set_option maxRecDepth 20000 in
theorem gX7_vote_X3_read_n86 : GoodIn wsX7_vote (wsX3_read) := ggX7_vote_X3_read
set_option maxRecDepth 20000 in
theorem ggX7_vote_X6_clear : GoodIn wsX7_vote wsX6_clear := goodIn_r _ [131, 34, 155, 156] (by decide +kernel) (by decide +kernel)
set_option maxRecDepth 20000 in
theorem gX7_vote_X6_clear_n89 : GoodIn wsX7_vote (wsX6_clear) := ggX7_vote_X6_clear
set_option maxRecDepth 20000 in
theorem ggX7_vote_X4_add : GoodIn wsX7_vote wsX4_add := goodIn_r _ [135, 136, 137, 138, 139, 140, 141, 142, 143, 144, 145, 157, 158, 159, 160, 161, 162] (by decide +kernel) (by decide +kernel)
set_option maxRecDepth 20000 in
theorem gX7_vote_X4_add_n105 : GoodIn wsX7_vote (wsX4_add) := ggX7_vote_X4_add
theorem dX7_vote_0 : decode cX7_vote 0 = .ok (.iload_n 1, 1) := by decide +kernel
theorem dX7_vote_1 : decode cX7_vote 1 = .ok (.ifCond .lt 35, 3) := by decide +kernel
theorem dX7_vote_4 : decode cX7_vote 4 = .ok (.iload_n 1, 1) := by decide +kernel
theorem dX7_vote_5 : decode cX7_vote 5 = .ok (.aload_n 0, 1) := by decide +kernel
theorem dX7_vote_6 : decode cX7_vote 6 = .ok (.getfield 12, 3) := by decide +kernel
theorem dX7_vote_9 : decode cX7_vote 9 = .ok (.getfield 75, 3) := by decide +kernel
theorem dX7_vote_12 : decode cX7_vote 12 = .ok (.if_icmp .gt 24, 3) := by decide +kernel
theorem dX7_vote_15 : decode cX7_vote 15 = .ok (.iload_n 2, 1) := by decide +kernel
theorem dX7_vote_16 : decode cX7_vote 16 = .ok (.bipush 100, 2) := by decide +kernel
theorem dX7_vote_18 : decode cX7_vote 18 = .ok (.invokestatic 79, 3) := by decide +kernel
theorem dX7_vote_21 : decode cX7_vote 21 = .ok (.ifCond .eq 15, 3) := by decide +kernel
theorem dX7_vote_24 : decode cX7_vote 24 = .ok (.aload_n 0, 1) := by decide +kernel
theorem dX7_vote_25 : decode cX7_vote 25 = .ok (.getfield 28, 3) := by decide +kernel
theorem dX7_vote_28 : decode cX7_vote 28 = .ok (.getfield 83, 3) := by decide +kernel
theorem dX7_vote_31 : decode cX7_vote 31 = .ok (.bipush 10, 2) := by decide +kernel
theorem dX7_vote_33 : decode cX7_vote 33 = .ok (.if_icmp .lt 6, 3) := by decide +kernel
theorem dX7_vote_36 : decode cX7_vote 36 = .ok (.bipush (-2), 2) := by decide +kernel
theorem dX7_vote_38 : decode cX7_vote 38 = .ok (.ireturn, 1) := by decide +kernel
theorem dX7_vote_39 : decode cX7_vote 39 = .ok (.aload_n 0, 1) := by decide +kernel
theorem dX7_vote_40 : decode cX7_vote 40 = .ok (.getfield 21, 3) := by decide +kernel
theorem dX7_vote_43 : decode cX7_vote 43 = .ok (.iload_n 1, 1) := by decide +kernel
theorem dX7_vote_44 : decode cX7_vote 44 = .ok (.invokevirtual 86, 3) := by decide +kernel
theorem dX7_vote_47 : decode cX7_vote 47 = .ok (.aload_n 0, 1) := by decide +kernel
theorem dX7_vote_48 : decode cX7_vote 48 = .ok (.getfield 12, 3) := by decide +kernel
theorem dX7_vote_51 : decode cX7_vote 51 = .ok (.invokevirtual 89, 3) := by decide +kernel
theorem dX7_vote_54 : decode cX7_vote 54 = .ok (.aload_n 0, 1) := by decide +kernel
theorem dX7_vote_55 : decode cX7_vote 55 = .ok (.getfield 21, 3) := by decide +kernel
theorem dX7_vote_58 : decode cX7_vote 58 = .ok (.getfield 92, 3) := by decide +kernel
theorem dX7_vote_61 : decode cX7_vote 61 = .ok (.ifCond .eq 5, 3) := by decide +kernel
theorem dX7_vote_64 : decode cX7_vote 64 = .ok (.iconst (-1), 1) := by decide +kernel
theorem dX7_vote_65 : decode cX7_vote 65 = .ok (.ireturn, 1) := by decide +kernel
theorem dX7_vote_66 : decode cX7_vote 66 = .ok (.aload_n 0, 1) := by decide +kernel
theorem dX7_vote_67 : decode cX7_vote 67 = .ok (.getfield 28, 3) := by decide +kernel
theorem dX7_vote_70 : decode cX7_vote 70 = .ok (.aload_n 0, 1) := by decide +kernel
theorem dX7_vote_71 : decode cX7_vote 71 = .ok (.getfield 21, 3) := by decide +kernel
theorem dX7_vote_74 : decode cX7_vote 74 = .ok (.getfield 95, 3) := by decide +kernel
theorem dX7_vote_77 : decode cX7_vote 77 = .ok (.aload_n 0, 1) := by decide +kernel
theorem dX7_vote_78 : decode cX7_vote 78 = .ok (.getfield 21, 3) := by decide +kernel
theorem dX7_vote_81 : decode cX7_vote 81 = .ok (.getfield 99, 3) := by decide +kernel
theorem dX7_vote_84 : decode cX7_vote 84 = .ok (.iload_n 2, 1) := by decide +kernel
theorem dX7_vote_85 : decode cX7_vote 85 = .ok (.aload_n 0, 1) := by decide +kernel
theorem dX7_vote_86 : decode cX7_vote 86 = .ok (.getfield 102, 3) := by decide +kernel
theorem dX7_vote_89 : decode cX7_vote 89 = .ok (.invokevirtual 105, 3) := by decide +kernel
theorem dX7_vote_92 : decode cX7_vote 92 = .ok (.ireturn, 1) := by decide +kernel
theorem dX7_fault_0 : decode cX7_fault 0 = .ok (.iload_n 1, 1) := by decide +kernel
theorem dX7_fault_1 : decode cX7_fault 1 = .ok (.lookupswitch 43 #[(0, 27), (1, 35)], 27) := by decide +kernel
theorem dX7_fault_28 : decode cX7_fault 28 = .ok (.aload_n 0, 1) := by decide +kernel
theorem dX7_fault_29 : decode cX7_fault 29 = .ok (.getfield 21, 3) := by decide +kernel
theorem dX7_fault_32 : decode cX7_fault 32 = .ok (.getfield 92, 3) := by decide +kernel
theorem dX7_fault_35 : decode cX7_fault 35 = .ok (.ireturn, 1) := by decide +kernel
theorem dX7_fault_36 : decode cX7_fault 36 = .ok (.aload_n 0, 1) := by decide +kernel
theorem dX7_fault_37 : decode cX7_fault 37 = .ok (.getfield 21, 3) := by decide +kernel
theorem dX7_fault_40 : decode cX7_fault 40 = .ok (.getfield 108, 3) := by decide +kernel
theorem dX7_fault_43 : decode cX7_fault 43 = .ok (.ireturn, 1) := by decide +kernel
theorem dX7_fault_44 : decode cX7_fault 44 = .ok (.iconst (-1), 1) := by decide +kernel
theorem dX7_fault_45 : decode cX7_fault 45 = .ok (.ireturn, 1) := by decide +kernel
set_option maxRecDepth 20000 in
theorem ggX7_undo_X7_isBelow : GoodIn wsX7_undo wsX7_isBelow := goodIn_r _ [6] (by decide +kernel) (by decide +kernel)
set_option maxRecDepth 20000 in
theorem gX7_undo_X7_isBelow : GoodIn wsX7_undo (va_wsS RX7 79 yX7_isBelow wsX7_isBelow) := goodIn_app (goodIn_of _ (by decide +kernel)) ggX7_undo_X7_isBelow
set_option maxRecDepth 20000 in
theorem ggX7_undo_X4_strike : GoodIn wsX7_undo wsX4_strike := goodIn_r _ [10, 11, 21, 22, 23, 24, 25, 26] (by decide +kernel) (by decide +kernel)
set_option maxRecDepth 20000 in
theorem gX7_undo_X4_strike_n111 : GoodIn wsX7_undo (wsX4_strike) := ggX7_undo_X4_strike
theorem dX7_undo_0 : decode cX7_undo 0 = .ok (.iload_n 1, 1) := by decide +kernel
theorem dX7_undo_1 : decode cX7_undo 1 = .ok (.aload_n 0, 1) := by decide +kernel
theorem dX7_undo_2 : decode cX7_undo 2 = .ok (.getfield 28, 3) := by decide +kernel
theorem dX7_undo_5 : decode cX7_undo 5 = .ok (.getfield 83, 3) := by decide +kernel
theorem dX7_undo_8 : decode cX7_undo 8 = .ok (.invokestatic 79, 3) := by decide +kernel
theorem dX7_undo_11 : decode cX7_undo 11 = .ok (.ifCond .eq 22, 3) := by decide +kernel
theorem dX7_undo_14 : decode cX7_undo 14 = .ok (.aload_n 0, 1) := by decide +kernel
theorem dX7_undo_15 : decode cX7_undo 15 = .ok (.getfield 28, 3) := by decide +kernel
theorem dX7_undo_18 : decode cX7_undo 18 = .ok (.iload_n 1, 1) := by decide +kernel
theorem dX7_undo_19 : decode cX7_undo 19 = .ok (.aload_n 0, 1) := by decide +kernel
theorem dX7_undo_20 : decode cX7_undo 20 = .ok (.getfield 102, 3) := by decide +kernel
theorem dX7_undo_23 : decode cX7_undo 23 = .ok (.invokevirtual 111, 3) := by decide +kernel
theorem dX7_undo_26 : decode cX7_undo 26 = .ok (.ifCond .eq 7, 3) := by decide +kernel
theorem dX7_undo_29 : decode cX7_undo 29 = .ok (.iconst 1, 1) := by decide +kernel
theorem dX7_undo_30 : decode cX7_undo 30 = .ok (.goto 4, 3) := by decide +kernel
theorem dX7_undo_33 : decode cX7_undo 33 = .ok (.iconst 0, 1) := by decide +kernel
theorem dX7_undo_34 : decode cX7_undo 34 = .ok (.ireturn, 1) := by decide +kernel
set_option maxRecDepth 20000 in
theorem ggX7_law_X7_isBelow : GoodIn wsX7_law wsX7_isBelow := goodIn_r _ [5] (by decide +kernel) (by decide +kernel)
set_option maxRecDepth 20000 in
theorem gX7_law_X7_isBelow : GoodIn wsX7_law (va_wsS RX7 79 yX7_isBelow wsX7_isBelow) := goodIn_app (goodIn_of _ (by decide +kernel)) ggX7_law_X7_isBelow
set_option maxRecDepth 20000 in
theorem ggX7_law_X7_hasCome : GoodIn wsX7_law wsX7_hasCome := goodIn_r _ [9, 10, 24, 25, 26, 27, 28, 29, 30, 31, 32] (by decide +kernel) (by decide +kernel)
set_option maxRecDepth 20000 in
theorem gX7_law_X7_hasCome : GoodIn wsX7_law (wsV RX7 114 RX7 yX7_hasCome wsX7_hasCome) := goodIn_app (goodIn_of _ (by decide +kernel)) ggX7_law_X7_hasCome
set_option maxRecDepth 20000 in
theorem ggX7_law_X4_said : GoodIn wsX7_law wsX4_said := goodIn_r _ [14, 15, 16, 17, 18, 19, 20, 12, 21, 22, 23, 33, 34, 35, 36, 37, 38] (by decide +kernel) (by decide +kernel)
set_option maxRecDepth 20000 in
theorem gX7_law_X4_said_n118 : GoodIn wsX7_law (wsX4_said) := ggX7_law_X4_said
theorem dX7_law_0 : decode cX7_law 0 = .ok (.iload_n 1, 1) := by decide +kernel
theorem dX7_law_1 : decode cX7_law 1 = .ok (.bipush 8, 2) := by decide +kernel
theorem dX7_law_3 : decode cX7_law 3 = .ok (.invokestatic 79, 3) := by decide +kernel
theorem dX7_law_6 : decode cX7_law 6 = .ok (.ifCond .eq 20, 3) := by decide +kernel
theorem dX7_law_9 : decode cX7_law 9 = .ok (.iload_n 2, 1) := by decide +kernel
theorem dX7_law_10 : decode cX7_law 10 = .ok (.bipush 100, 2) := by decide +kernel
theorem dX7_law_12 : decode cX7_law 12 = .ok (.invokestatic 79, 3) := by decide +kernel
theorem dX7_law_15 : decode cX7_law 15 = .ok (.ifCond .eq 11, 3) := by decide +kernel
theorem dX7_law_18 : decode cX7_law 18 = .ok (.aload_n 0, 1) := by decide +kernel
theorem dX7_law_19 : decode cX7_law 19 = .ok (.iload_n 3, 1) := by decide +kernel
theorem dX7_law_20 : decode cX7_law 20 = .ok (.invokevirtual 114, 3) := by decide +kernel
theorem dX7_law_23 : decode cX7_law 23 = .ok (.ifCond .ne 5, 3) := by decide +kernel
theorem dX7_law_26 : decode cX7_law 26 = .ok (.iconst (-1), 1) := by decide +kernel
theorem dX7_law_27 : decode cX7_law 27 = .ok (.ireturn, 1) := by decide +kernel
theorem dX7_law_28 : decode cX7_law 28 = .ok (.aload_n 0, 1) := by decide +kernel
theorem dX7_law_29 : decode cX7_law 29 = .ok (.getfield 28, 3) := by decide +kernel
theorem dX7_law_32 : decode cX7_law 32 = .ok (.iload_n 1, 1) := by decide +kernel
theorem dX7_law_33 : decode cX7_law 33 = .ok (.iload_n 2, 1) := by decide +kernel
theorem dX7_law_34 : decode cX7_law 34 = .ok (.iload_n 3, 1) := by decide +kernel
theorem dX7_law_35 : decode cX7_law 35 = .ok (.invokevirtual 118, 3) := by decide +kernel
theorem dX7_law_38 : decode cX7_law 38 = .ok (.ireturn, 1) := by decide +kernel
set_option maxRecDepth 20000 in
theorem ggX7_worker_X7_isBelow : GoodIn wsX7_worker wsX7_isBelow := goodIn_r _ [6] (by decide +kernel) (by decide +kernel)
set_option maxRecDepth 20000 in
theorem gX7_worker_X7_isBelow : GoodIn wsX7_worker (va_wsS RX7 79 yX7_isBelow wsX7_isBelow) := goodIn_app (goodIn_of _ (by decide +kernel)) ggX7_worker_X7_isBelow
set_option maxRecDepth 20000 in
theorem ggX7_worker_X1_add : GoodIn wsX7_worker wsX1_add := goodIn_r _ [10, 11, 12, 13, 23, 24, 25, 26, 27, 28, 29, 30, 31, 32] (by decide +kernel) (by decide +kernel)
set_option maxRecDepth 20000 in
theorem gX7_worker_X1_add_n125 : GoodIn wsX7_worker (wsX1_add) := ggX7_worker_X1_add
theorem dX7_worker_0 : decode cX7_worker 0 = .ok (.iload_n 1, 1) := by decide +kernel
theorem dX7_worker_1 : decode cX7_worker 1 = .ok (.iconst 3, 1) := by decide +kernel
theorem dX7_worker_2 : decode cX7_worker 2 = .ok (.invokestatic 79, 3) := by decide +kernel
theorem dX7_worker_5 : decode cX7_worker 5 = .ok (.ifCond .eq 15, 3) := by decide +kernel
theorem dX7_worker_8 : decode cX7_worker 8 = .ok (.aload_n 0, 1) := by decide +kernel
theorem dX7_worker_9 : decode cX7_worker 9 = .ok (.getfield 35, 3) := by decide +kernel
theorem dX7_worker_12 : decode cX7_worker 12 = .ok (.getfield 122, 3) := by decide +kernel
theorem dX7_worker_15 : decode cX7_worker 15 = .ok (.bipush 16, 2) := by decide +kernel
theorem dX7_worker_17 : decode cX7_worker 17 = .ok (.if_icmp .lt 5, 3) := by decide +kernel
theorem dX7_worker_20 : decode cX7_worker 20 = .ok (.iconst (-1), 1) := by decide +kernel
theorem dX7_worker_21 : decode cX7_worker 21 = .ok (.ireturn, 1) := by decide +kernel
theorem dX7_worker_22 : decode cX7_worker 22 = .ok (.aload_n 0, 1) := by decide +kernel
theorem dX7_worker_23 : decode cX7_worker 23 = .ok (.getfield 35, 3) := by decide +kernel
theorem dX7_worker_26 : decode cX7_worker 26 = .ok (.iload_n 1, 1) := by decide +kernel
theorem dX7_worker_27 : decode cX7_worker 27 = .ok (.aload_n 0, 1) := by decide +kernel
theorem dX7_worker_28 : decode cX7_worker 28 = .ok (.getfield 102, 3) := by decide +kernel
theorem dX7_worker_31 : decode cX7_worker 31 = .ok (.invokevirtual 125, 3) := by decide +kernel
theorem dX7_worker_34 : decode cX7_worker 34 = .ok (.ireturn, 1) := by decide +kernel
set_option maxRecDepth 20000 in
theorem ggX7_paper_X7_isBelow : GoodIn wsX7_paper wsX7_isBelow := goodIn_r _ [6] (by decide +kernel) (by decide +kernel)
set_option maxRecDepth 20000 in
theorem gX7_paper_X7_isBelow : GoodIn wsX7_paper (va_wsS RX7 79 yX7_isBelow wsX7_isBelow) := goodIn_app (goodIn_of _ (by decide +kernel)) ggX7_paper_X7_isBelow
set_option maxRecDepth 20000 in
theorem ggX7_paper_X1_addPaper : GoodIn wsX7_paper wsX1_addPaper := goodIn_r _ [10, 11, 12, 13, 14, 15, 25, 26, 27, 28, 29, 30, 31, 32, 33, 34] (by decide +kernel) (by decide +kernel)
set_option maxRecDepth 20000 in
theorem gX7_paper_X1_addPaper_n131 : GoodIn wsX7_paper (wsX1_addPaper) := ggX7_paper_X1_addPaper
theorem dX7_paper_0 : decode cX7_paper 0 = .ok (.iload_n 1, 1) := by decide +kernel
theorem dX7_paper_1 : decode cX7_paper 1 = .ok (.aload_n 0, 1) := by decide +kernel
theorem dX7_paper_2 : decode cX7_paper 2 = .ok (.getfield 35, 3) := by decide +kernel
theorem dX7_paper_5 : decode cX7_paper 5 = .ok (.getfield 122, 3) := by decide +kernel
theorem dX7_paper_8 : decode cX7_paper 8 = .ok (.invokestatic 79, 3) := by decide +kernel
theorem dX7_paper_11 : decode cX7_paper 11 = .ok (.ifCond .eq 33, 3) := by decide +kernel
theorem dX7_paper_14 : decode cX7_paper 14 = .ok (.iload_n 2, 1) := by decide +kernel
theorem dX7_paper_15 : decode cX7_paper 15 = .ok (.bipush 8, 2) := by decide +kernel
theorem dX7_paper_17 : decode cX7_paper 17 = .ok (.invokestatic 79, 3) := by decide +kernel
theorem dX7_paper_20 : decode cX7_paper 20 = .ok (.ifCond .eq 24, 3) := by decide +kernel
theorem dX7_paper_23 : decode cX7_paper 23 = .ok (.iload_n 3, 1) := by decide +kernel
theorem dX7_paper_24 : decode cX7_paper 24 = .ok (.bipush 100, 2) := by decide +kernel
theorem dX7_paper_26 : decode cX7_paper 26 = .ok (.invokestatic 79, 3) := by decide +kernel
theorem dX7_paper_29 : decode cX7_paper 29 = .ok (.ifCond .eq 15, 3) := by decide +kernel
theorem dX7_paper_32 : decode cX7_paper 32 = .ok (.aload_n 0, 1) := by decide +kernel
theorem dX7_paper_33 : decode cX7_paper 33 = .ok (.getfield 35, 3) := by decide +kernel
theorem dX7_paper_36 : decode cX7_paper 36 = .ok (.getfield 128, 3) := by decide +kernel
theorem dX7_paper_39 : decode cX7_paper 39 = .ok (.bipush 100, 2) := by decide +kernel
theorem dX7_paper_41 : decode cX7_paper 41 = .ok (.if_icmp .lt 5, 3) := by decide +kernel
theorem dX7_paper_44 : decode cX7_paper 44 = .ok (.iconst 0, 1) := by decide +kernel
theorem dX7_paper_45 : decode cX7_paper 45 = .ok (.ireturn, 1) := by decide +kernel
theorem dX7_paper_46 : decode cX7_paper 46 = .ok (.aload_n 0, 1) := by decide +kernel
theorem dX7_paper_47 : decode cX7_paper 47 = .ok (.getfield 35, 3) := by decide +kernel
theorem dX7_paper_50 : decode cX7_paper 50 = .ok (.iload_n 1, 1) := by decide +kernel
theorem dX7_paper_51 : decode cX7_paper 51 = .ok (.iload_n 2, 1) := by decide +kernel
theorem dX7_paper_52 : decode cX7_paper 52 = .ok (.iload_n 3, 1) := by decide +kernel
theorem dX7_paper_53 : decode cX7_paper 53 = .ok (.aload_n 0, 1) := by decide +kernel
theorem dX7_paper_54 : decode cX7_paper 54 = .ok (.getfield 102, 3) := by decide +kernel
theorem dX7_paper_57 : decode cX7_paper 57 = .ok (.invokevirtual 131, 3) := by decide +kernel
theorem dX7_paper_60 : decode cX7_paper 60 = .ok (.iconst 1, 1) := by decide +kernel
theorem dX7_paper_61 : decode cX7_paper 61 = .ok (.ireturn, 1) := by decide +kernel
set_option maxRecDepth 20000 in
theorem ggX7_here_X7_isBelow : GoodIn wsX7_here wsX7_isBelow := goodIn_r _ [6] (by decide +kernel) (by decide +kernel)
set_option maxRecDepth 20000 in
theorem gX7_here_X7_isBelow : GoodIn wsX7_here (va_wsS RX7 79 yX7_isBelow wsX7_isBelow) := goodIn_app (goodIn_of _ (by decide +kernel)) ggX7_here_X7_isBelow
set_option maxRecDepth 20000 in
theorem ggX7_here_X1_addHere : GoodIn wsX7_here wsX1_addHere := goodIn_r _ [10, 11, 12, 22, 23, 24, 25, 26, 27, 28, 29, 30, 31] (by decide +kernel) (by decide +kernel)
set_option maxRecDepth 20000 in
theorem gX7_here_X1_addHere_n138 : GoodIn wsX7_here (wsX1_addHere) := ggX7_here_X1_addHere
theorem dX7_here_0 : decode cX7_here 0 = .ok (.iload_n 1, 1) := by decide +kernel
theorem dX7_here_1 : decode cX7_here 1 = .ok (.aload_n 0, 1) := by decide +kernel
theorem dX7_here_2 : decode cX7_here 2 = .ok (.getfield 35, 3) := by decide +kernel
theorem dX7_here_5 : decode cX7_here 5 = .ok (.getfield 122, 3) := by decide +kernel
theorem dX7_here_8 : decode cX7_here 8 = .ok (.invokestatic 79, 3) := by decide +kernel
theorem dX7_here_11 : decode cX7_here 11 = .ok (.ifCond .eq 51, 3) := by decide +kernel
theorem dX7_here_14 : decode cX7_here 14 = .ok (.iload_n 2, 1) := by decide +kernel
theorem dX7_here_15 : decode cX7_here 15 = .ok (.aload_n 0, 1) := by decide +kernel
theorem dX7_here_16 : decode cX7_here 16 = .ok (.getfield 102, 3) := by decide +kernel
theorem dX7_here_19 : decode cX7_here 19 = .ok (.if_icmp .lt 43, 3) := by decide +kernel
theorem dX7_here_22 : decode cX7_here 22 = .ok (.iload_n 2, 1) := by decide +kernel
theorem dX7_here_23 : decode cX7_here 23 = .ok (.bipush 100, 2) := by decide +kernel
theorem dX7_here_25 : decode cX7_here 25 = .ok (.invokestatic 79, 3) := by decide +kernel
theorem dX7_here_28 : decode cX7_here 28 = .ok (.ifCond .eq 34, 3) := by decide +kernel
theorem dX7_here_31 : decode cX7_here 31 = .ok (.iload_n 3, 1) := by decide +kernel
theorem dX7_here_32 : decode cX7_here 32 = .ok (.ifCond .lt 30, 3) := by decide +kernel
theorem dX7_here_35 : decode cX7_here 35 = .ok (.iload_n 3, 1) := by decide +kernel
theorem dX7_here_36 : decode cX7_here 36 = .ok (.iload 4, 2) := by decide +kernel
theorem dX7_here_38 : decode cX7_here 38 = .ok (.if_icmp .ge 24, 3) := by decide +kernel
theorem dX7_here_41 : decode cX7_here 41 = .ok (.iload 4, 2) := by decide +kernel
theorem dX7_here_43 : decode cX7_here 43 = .ok (.sipush 600, 3) := by decide +kernel
theorem dX7_here_46 : decode cX7_here 46 = .ok (.if_icmp .gt 16, 3) := by decide +kernel
theorem dX7_here_49 : decode cX7_here 49 = .ok (.aload_n 0, 1) := by decide +kernel
theorem dX7_here_50 : decode cX7_here 50 = .ok (.getfield 35, 3) := by decide +kernel
theorem dX7_here_53 : decode cX7_here 53 = .ok (.getfield 135, 3) := by decide +kernel
theorem dX7_here_56 : decode cX7_here 56 = .ok (.sipush 200, 3) := by decide +kernel
theorem dX7_here_59 : decode cX7_here 59 = .ok (.if_icmp .lt 5, 3) := by decide +kernel
theorem dX7_here_62 : decode cX7_here 62 = .ok (.iconst 0, 1) := by decide +kernel
theorem dX7_here_63 : decode cX7_here 63 = .ok (.ireturn, 1) := by decide +kernel
theorem dX7_here_64 : decode cX7_here 64 = .ok (.aload_n 0, 1) := by decide +kernel
theorem dX7_here_65 : decode cX7_here 65 = .ok (.getfield 35, 3) := by decide +kernel
theorem dX7_here_68 : decode cX7_here 68 = .ok (.iload_n 1, 1) := by decide +kernel
theorem dX7_here_69 : decode cX7_here 69 = .ok (.iload_n 2, 1) := by decide +kernel
theorem dX7_here_70 : decode cX7_here 70 = .ok (.iload_n 3, 1) := by decide +kernel
theorem dX7_here_71 : decode cX7_here 71 = .ok (.iload 4, 2) := by decide +kernel
theorem dX7_here_73 : decode cX7_here 73 = .ok (.invokevirtual 138, 3) := by decide +kernel
theorem dX7_here_76 : decode cX7_here 76 = .ok (.iconst 1, 1) := by decide +kernel
theorem dX7_here_77 : decode cX7_here 77 = .ok (.ireturn, 1) := by decide +kernel
set_option maxRecDepth 20000 in
theorem ggX7_call_X7_isBelow : GoodIn wsX7_call wsX7_isBelow := goodIn_r _ [7] (by decide +kernel) (by decide +kernel)
set_option maxRecDepth 20000 in
theorem gX7_call_X7_isBelow : GoodIn wsX7_call (va_wsS RX7 79 yX7_isBelow wsX7_isBelow) := goodIn_app (goodIn_of _ (by decide +kernel)) ggX7_call_X7_isBelow
set_option maxRecDepth 20000 in
theorem ggX7_call_X0_add : GoodIn wsX7_call wsX0_add := goodIn_r _ [11, 12, 13, 14, 15, 16, 17, 18, 19, 20, 21, 9, 22, 23, 24, 25, 26, 27, 47, 48, 49, 50, 51, 52, 53, 54, 55] (by decide +kernel) (by decide +kernel)
set_option maxRecDepth 20000 in
theorem gX7_call_X0_add_n142 : GoodIn wsX7_call (wsX0_add) := ggX7_call_X0_add
theorem dX7_call_0 : decode cX7_call 0 = .ok (.iload_n 1, 1) := by decide +kernel
theorem dX7_call_1 : decode cX7_call 1 = .ok (.bipush 8, 2) := by decide +kernel
theorem dX7_call_3 : decode cX7_call 3 = .ok (.invokestatic 79, 3) := by decide +kernel
theorem dX7_call_6 : decode cX7_call 6 = .ok (.ifCond .eq 69, 3) := by decide +kernel
theorem dX7_call_9 : decode cX7_call 9 = .ok (.iload_n 2, 1) := by decide +kernel
theorem dX7_call_10 : decode cX7_call 10 = .ok (.iconst 1, 1) := by decide +kernel
theorem dX7_call_11 : decode cX7_call 11 = .ok (.if_icmp .lt 64, 3) := by decide +kernel
theorem dX7_call_14 : decode cX7_call 14 = .ok (.iload_n 2, 1) := by decide +kernel
theorem dX7_call_15 : decode cX7_call 15 = .ok (.bipush 30, 2) := by decide +kernel
theorem dX7_call_17 : decode cX7_call 17 = .ok (.if_icmp .gt 58, 3) := by decide +kernel
theorem dX7_call_20 : decode cX7_call 20 = .ok (.iload_n 3, 1) := by decide +kernel
theorem dX7_call_21 : decode cX7_call 21 = .ok (.iconst 1, 1) := by decide +kernel
theorem dX7_call_22 : decode cX7_call 22 = .ok (.if_icmp .lt 53, 3) := by decide +kernel
theorem dX7_call_25 : decode cX7_call 25 = .ok (.iload_n 3, 1) := by decide +kernel
theorem dX7_call_26 : decode cX7_call 26 = .ok (.bipush 9, 2) := by decide +kernel
theorem dX7_call_28 : decode cX7_call 28 = .ok (.if_icmp .gt 47, 3) := by decide +kernel
theorem dX7_call_31 : decode cX7_call 31 = .ok (.iload 4, 2) := by decide +kernel
theorem dX7_call_33 : decode cX7_call 33 = .ok (.iconst (-1), 1) := by decide +kernel
theorem dX7_call_34 : decode cX7_call 34 = .ok (.if_icmp .eq 18, 3) := by decide +kernel
theorem dX7_call_37 : decode cX7_call 37 = .ok (.iload 4, 2) := by decide +kernel
theorem dX7_call_39 : decode cX7_call 39 = .ok (.aload_n 0, 1) := by decide +kernel
theorem dX7_call_40 : decode cX7_call 40 = .ok (.getfield 35, 3) := by decide +kernel
theorem dX7_call_43 : decode cX7_call 43 = .ok (.getfield 122, 3) := by decide +kernel
theorem dX7_call_46 : decode cX7_call 46 = .ok (.invokestatic 79, 3) := by decide +kernel
theorem dX7_call_49 : decode cX7_call 49 = .ok (.ifCond .eq 26, 3) := by decide +kernel
theorem dX7_call_52 : decode cX7_call 52 = .ok (.iload 5, 2) := by decide +kernel
theorem dX7_call_54 : decode cX7_call 54 = .ok (.sipush 600, 3) := by decide +kernel
theorem dX7_call_57 : decode cX7_call 57 = .ok (.invokestatic 79, 3) := by decide +kernel
theorem dX7_call_60 : decode cX7_call 60 = .ok (.ifCond .eq 15, 3) := by decide +kernel
theorem dX7_call_63 : decode cX7_call 63 = .ok (.aload_n 0, 1) := by decide +kernel
theorem dX7_call_64 : decode cX7_call 64 = .ok (.getfield 42, 3) := by decide +kernel
theorem dX7_call_67 : decode cX7_call 67 = .ok (.getfield 141, 3) := by decide +kernel
theorem dX7_call_70 : decode cX7_call 70 = .ok (.bipush 60, 2) := by decide +kernel
theorem dX7_call_72 : decode cX7_call 72 = .ok (.if_icmp .lt 5, 3) := by decide +kernel
theorem dX7_call_75 : decode cX7_call 75 = .ok (.iconst (-1), 1) := by decide +kernel
theorem dX7_call_76 : decode cX7_call 76 = .ok (.ireturn, 1) := by decide +kernel
theorem dX7_call_77 : decode cX7_call 77 = .ok (.aload_n 0, 1) := by decide +kernel
theorem dX7_call_78 : decode cX7_call 78 = .ok (.getfield 42, 3) := by decide +kernel
theorem dX7_call_81 : decode cX7_call 81 = .ok (.iload_n 1, 1) := by decide +kernel
theorem dX7_call_82 : decode cX7_call 82 = .ok (.iload_n 2, 1) := by decide +kernel
theorem dX7_call_83 : decode cX7_call 83 = .ok (.iload_n 3, 1) := by decide +kernel
theorem dX7_call_84 : decode cX7_call 84 = .ok (.iload 4, 2) := by decide +kernel
theorem dX7_call_86 : decode cX7_call 86 = .ok (.iload 5, 2) := by decide +kernel
theorem dX7_call_88 : decode cX7_call 88 = .ok (.aload_n 0, 1) := by decide +kernel
theorem dX7_call_89 : decode cX7_call 89 = .ok (.getfield 102, 3) := by decide +kernel
theorem dX7_call_92 : decode cX7_call 92 = .ok (.invokevirtual 142, 3) := by decide +kernel
theorem dX7_call_95 : decode cX7_call 95 = .ok (.ireturn, 1) := by decide +kernel
set_option maxRecDepth 20000 in
theorem ggX7_refuse_X7_isBelow : GoodIn wsX7_refuse wsX7_isBelow := goodIn_r _ [7] (by decide +kernel) (by decide +kernel)
set_option maxRecDepth 20000 in
theorem gX7_refuse_X7_isBelow : GoodIn wsX7_refuse (va_wsS RX7 79 yX7_isBelow wsX7_isBelow) := goodIn_app (goodIn_of _ (by decide +kernel)) ggX7_refuse_X7_isBelow
set_option maxRecDepth 20000 in
theorem ggX7_refuse_X0_addRefusal : GoodIn wsX7_refuse wsX0_addRefusal := goodIn_r _ [11, 12, 13, 14, 15, 9, 16, 26, 27, 28, 29, 30, 31, 32, 33, 34] (by decide +kernel) (by decide +kernel)
set_option maxRecDepth 20000 in
theorem gX7_refuse_X0_addRefusal_n148 : GoodIn wsX7_refuse (wsX0_addRefusal) := ggX7_refuse_X0_addRefusal
theorem dX7_refuse_0 : decode cX7_refuse 0 = .ok (.iload_n 1, 1) := by decide +kernel
theorem dX7_refuse_1 : decode cX7_refuse 1 = .ok (.aload_n 0, 1) := by decide +kernel
theorem dX7_refuse_2 : decode cX7_refuse 2 = .ok (.getfield 42, 3) := by decide +kernel
theorem dX7_refuse_5 : decode cX7_refuse 5 = .ok (.getfield 141, 3) := by decide +kernel
theorem dX7_refuse_8 : decode cX7_refuse 8 = .ok (.invokestatic 79, 3) := by decide +kernel
theorem dX7_refuse_11 : decode cX7_refuse 11 = .ok (.ifCond .eq 49, 3) := by decide +kernel
theorem dX7_refuse_14 : decode cX7_refuse 14 = .ok (.aload_n 0, 1) := by decide +kernel
theorem dX7_refuse_15 : decode cX7_refuse 15 = .ok (.getfield 42, 3) := by decide +kernel
theorem dX7_refuse_18 : decode cX7_refuse 18 = .ok (.getfield 145, 3) := by decide +kernel
theorem dX7_refuse_21 : decode cX7_refuse 21 = .ok (.iload_n 1, 1) := by decide +kernel
theorem dX7_refuse_22 : decode cX7_refuse 22 = .ok (.iaload, 1) := by decide +kernel
theorem dX7_refuse_23 : decode cX7_refuse 23 = .ok (.aload_n 0, 1) := by decide +kernel
theorem dX7_refuse_24 : decode cX7_refuse 24 = .ok (.getfield 102, 3) := by decide +kernel
theorem dX7_refuse_27 : decode cX7_refuse 27 = .ok (.if_icmp .ne 33, 3) := by decide +kernel
theorem dX7_refuse_30 : decode cX7_refuse 30 = .ok (.iload_n 2, 1) := by decide +kernel
theorem dX7_refuse_31 : decode cX7_refuse 31 = .ok (.aload_n 0, 1) := by decide +kernel
theorem dX7_refuse_32 : decode cX7_refuse 32 = .ok (.getfield 35, 3) := by decide +kernel
theorem dX7_refuse_35 : decode cX7_refuse 35 = .ok (.getfield 122, 3) := by decide +kernel
theorem dX7_refuse_38 : decode cX7_refuse 38 = .ok (.invokestatic 79, 3) := by decide +kernel
theorem dX7_refuse_41 : decode cX7_refuse 41 = .ok (.ifCond .eq 19, 3) := by decide +kernel
theorem dX7_refuse_44 : decode cX7_refuse 44 = .ok (.aload_n 0, 1) := by decide +kernel
theorem dX7_refuse_45 : decode cX7_refuse 45 = .ok (.getfield 42, 3) := by decide +kernel
theorem dX7_refuse_48 : decode cX7_refuse 48 = .ok (.iload_n 1, 1) := by decide +kernel
theorem dX7_refuse_49 : decode cX7_refuse 49 = .ok (.iload_n 2, 1) := by decide +kernel
theorem dX7_refuse_50 : decode cX7_refuse 50 = .ok (.invokevirtual 148, 3) := by decide +kernel
theorem dX7_refuse_53 : decode cX7_refuse 53 = .ok (.ifCond .eq 7, 3) := by decide +kernel
theorem dX7_refuse_56 : decode cX7_refuse 56 = .ok (.iconst 1, 1) := by decide +kernel
theorem dX7_refuse_57 : decode cX7_refuse 57 = .ok (.goto 4, 3) := by decide +kernel
theorem dX7_refuse_60 : decode cX7_refuse 60 = .ok (.iconst 0, 1) := by decide +kernel
theorem dX7_refuse_61 : decode cX7_refuse 61 = .ok (.ireturn, 1) := by decide +kernel
set_option maxRecDepth 20000 in
theorem ggX7_morning_X2_work : GoodIn wsX7_morning wsX2_work := goodIn_r _ [6, 7, 8, 9, 10, 11, 12, 13, 14, 15, 16, 17, 18, 19, 20, 21, 22, 23, 24, 25, 26, 27, 4, 28, 29, 30, 31, 32, 33, 34, 35, 36, 37, 38, 39, 40, 41, 42, 43, 44, 45, 46, 47, 48, 49, 50, 51, 52, 53, 54, 55, 56, 57, 58, 59, 60, 61, 62, 63, 64, 65, 66, 67, 68, 69, 70, 71, 72, 73, 74, 75, 76, 77, 78, 79, 80, 81, 82, 83, 84, 85, 86, 87, 88, 89, 90, 91, 92, 102, 103, 104, 105, 106, 107, 108, 109, 110, 111, 112, 113, 114, 115, 116, 117, 118, 119, 120, 121, 122, 123, 124, 125, 126, 127, 128, 129, 130, 131, 132, 133, 134, 135, 136, 137, 138, 139, 140, 141] (by decide +kernel) (by decide +kernel)
set_option maxRecDepth 20000 in
theorem gX7_morning_X2_work_n151 : GoodIn wsX7_morning (wsX2_work) := ggX7_morning_X2_work
theorem dX7_morning_0 : decode cX7_morning 0 = .ok (.aload_n 0, 1) := by decide +kernel
theorem dX7_morning_1 : decode cX7_morning 1 = .ok (.getfield 102, 3) := by decide +kernel
theorem dX7_morning_4 : decode cX7_morning 4 = .ok (.bipush 99, 2) := by decide +kernel
theorem dX7_morning_6 : decode cX7_morning 6 = .ok (.if_icmp .lt 5, 3) := by decide +kernel
theorem dX7_morning_9 : decode cX7_morning 9 = .ok (.iconst (-1), 1) := by decide +kernel
theorem dX7_morning_10 : decode cX7_morning 10 = .ok (.ireturn, 1) := by decide +kernel
theorem dX7_morning_11 : decode cX7_morning 11 = .ok (.aload_n 0, 1) := by decide +kernel
theorem dX7_morning_12 : decode cX7_morning 12 = .ok (.getfield 60, 3) := by decide +kernel
theorem dX7_morning_15 : decode cX7_morning 15 = .ok (.aload_n 0, 1) := by decide +kernel
theorem dX7_morning_16 : decode cX7_morning 16 = .ok (.getfield 102, 3) := by decide +kernel
theorem dX7_morning_19 : decode cX7_morning 19 = .ok (.aload_n 0, 1) := by decide +kernel
theorem dX7_morning_20 : decode cX7_morning 20 = .ok (.getfield 102, 3) := by decide +kernel
theorem dX7_morning_23 : decode cX7_morning 23 = .ok (.invokevirtual 151, 3) := by decide +kernel
theorem dX7_morning_26 : decode cX7_morning 26 = .ok (.istore_n 1, 1) := by decide +kernel
theorem dX7_morning_27 : decode cX7_morning 27 = .ok (.aload_n 0, 1) := by decide +kernel
theorem dX7_morning_28 : decode cX7_morning 28 = .ok (.dup, 1) := by decide +kernel
theorem dX7_morning_29 : decode cX7_morning 29 = .ok (.getfield 102, 3) := by decide +kernel
theorem dX7_morning_32 : decode cX7_morning 32 = .ok (.iconst 1, 1) := by decide +kernel
theorem dX7_morning_33 : decode cX7_morning 33 = .ok (.iadd, 1) := by decide +kernel
theorem dX7_morning_34 : decode cX7_morning 34 = .ok (.putfield 102, 3) := by decide +kernel
theorem dX7_morning_37 : decode cX7_morning 37 = .ok (.iload_n 1, 1) := by decide +kernel
theorem dX7_morning_38 : decode cX7_morning 38 = .ok (.ireturn, 1) := by decide +kernel
set_option maxRecDepth 20000 in
theorem ggX7_why_X7_isBelow : GoodIn wsX7_why wsX7_isBelow := goodIn_r _ [6] (by decide +kernel) (by decide +kernel)
set_option maxRecDepth 20000 in
theorem gX7_why_X7_isBelow : GoodIn wsX7_why (va_wsS RX7 79 yX7_isBelow wsX7_isBelow) := goodIn_app (goodIn_of _ (by decide +kernel)) ggX7_why_X7_isBelow
set_option maxRecDepth 20000 in
theorem ggX7_why_X2_outcomeNoted : GoodIn wsX7_why wsX2_outcomeNoted := goodIn_r _ [10, 11, 25, 26, 27, 28, 29, 30, 31, 32, 33, 34, 35, 36, 37, 38, 39] (by decide +kernel) (by decide +kernel)
set_option maxRecDepth 20000 in
theorem gX7_why_X2_outcomeNoted_n157 : GoodIn wsX7_why (wsX2_outcomeNoted) := ggX7_why_X2_outcomeNoted
set_option maxRecDepth 20000 in
theorem ggX7_why_X2_clockNoted : GoodIn wsX7_why wsX2_clockNoted := goodIn_r _ [14, 11, 15, 7, 9, 8, 10, 25, 26, 27, 28, 29, 30, 31, 32, 33, 34, 35, 36, 37, 38, 39] (by decide +kernel) (by decide +kernel)
set_option maxRecDepth 20000 in
theorem gX7_why_X2_clockNoted_n160 : GoodIn wsX7_why (wsX2_clockNoted) := ggX7_why_X2_clockNoted
theorem dX7_why_0 : decode cX7_why 0 = .ok (.iload_n 1, 1) := by decide +kernel
theorem dX7_why_1 : decode cX7_why 1 = .ok (.aload_n 0, 1) := by decide +kernel
theorem dX7_why_2 : decode cX7_why 2 = .ok (.getfield 60, 3) := by decide +kernel
theorem dX7_why_5 : decode cX7_why 5 = .ok (.getfield 154, 3) := by decide +kernel
theorem dX7_why_8 : decode cX7_why 8 = .ok (.invokestatic 79, 3) := by decide +kernel
theorem dX7_why_11 : decode cX7_why 11 = .ok (.ifCond .eq 17, 3) := by decide +kernel
theorem dX7_why_14 : decode cX7_why 14 = .ok (.iload_n 2, 1) := by decide +kernel
theorem dX7_why_15 : decode cX7_why 15 = .ok (.aload_n 0, 1) := by decide +kernel
theorem dX7_why_16 : decode cX7_why 16 = .ok (.getfield 35, 3) := by decide +kernel
theorem dX7_why_19 : decode cX7_why 19 = .ok (.getfield 122, 3) := by decide +kernel
theorem dX7_why_22 : decode cX7_why 22 = .ok (.invokestatic 79, 3) := by decide +kernel
theorem dX7_why_25 : decode cX7_why 25 = .ok (.ifCond .ne 5, 3) := by decide +kernel
theorem dX7_why_28 : decode cX7_why 28 = .ok (.iconst (-1), 1) := by decide +kernel
theorem dX7_why_29 : decode cX7_why 29 = .ok (.ireturn, 1) := by decide +kernel
theorem dX7_why_30 : decode cX7_why 30 = .ok (.iload_n 3, 1) := by decide +kernel
theorem dX7_why_31 : decode cX7_why 31 = .ok (.lookupswitch 45 #[(0, 25), (1, 35)], 25) := by decide +kernel
theorem dX7_why_56 : decode cX7_why 56 = .ok (.aload_n 0, 1) := by decide +kernel
theorem dX7_why_57 : decode cX7_why 57 = .ok (.getfield 60, 3) := by decide +kernel
theorem dX7_why_60 : decode cX7_why 60 = .ok (.iload_n 1, 1) := by decide +kernel
theorem dX7_why_61 : decode cX7_why 61 = .ok (.iload_n 2, 1) := by decide +kernel
theorem dX7_why_62 : decode cX7_why 62 = .ok (.invokevirtual 157, 3) := by decide +kernel
theorem dX7_why_65 : decode cX7_why 65 = .ok (.ireturn, 1) := by decide +kernel
theorem dX7_why_66 : decode cX7_why 66 = .ok (.aload_n 0, 1) := by decide +kernel
theorem dX7_why_67 : decode cX7_why 67 = .ok (.getfield 60, 3) := by decide +kernel
theorem dX7_why_70 : decode cX7_why 70 = .ok (.iload_n 1, 1) := by decide +kernel
theorem dX7_why_71 : decode cX7_why 71 = .ok (.iload_n 2, 1) := by decide +kernel
theorem dX7_why_72 : decode cX7_why 72 = .ok (.invokevirtual 160, 3) := by decide +kernel
theorem dX7_why_75 : decode cX7_why 75 = .ok (.ireturn, 1) := by decide +kernel
theorem dX7_why_76 : decode cX7_why 76 = .ok (.iconst (-1), 1) := by decide +kernel
theorem dX7_why_77 : decode cX7_why 77 = .ok (.ireturn, 1) := by decide +kernel
set_option maxRecDepth 20000 in
theorem ggX7_list_X7_isBelow : GoodIn wsX7_list wsX7_isBelow := goodIn_r _ [5] (by decide +kernel) (by decide +kernel)
set_option maxRecDepth 20000 in
theorem gX7_list_X7_isBelow : GoodIn wsX7_list (va_wsS RX7 79 yX7_isBelow wsX7_isBelow) := goodIn_app (goodIn_of _ (by decide +kernel)) ggX7_list_X7_isBelow
set_option maxRecDepth 20000 in
theorem ggX7_list_X2_freeOnList : GoodIn wsX7_list wsX2_freeOnList := goodIn_r _ [9, 10, 11, 12, 22, 23, 24, 25, 26, 27, 28, 29, 30, 31, 32, 33, 34, 35, 36] (by decide +kernel) (by decide +kernel)
set_option maxRecDepth 20000 in
theorem gX7_list_X2_freeOnList_n163 : GoodIn wsX7_list (wsX2_freeOnList) := ggX7_list_X2_freeOnList
theorem dX7_list_0 : decode cX7_list 0 = .ok (.iload_n 1, 1) := by decide +kernel
theorem dX7_list_1 : decode cX7_list 1 = .ok (.iconst 3, 1) := by decide +kernel
theorem dX7_list_2 : decode cX7_list 2 = .ok (.invokestatic 79, 3) := by decide +kernel
theorem dX7_list_5 : decode cX7_list 5 = .ok (.ifCond .eq 7, 3) := by decide +kernel
theorem dX7_list_8 : decode cX7_list 8 = .ok (.iload_n 2, 1) := by decide +kernel
theorem dX7_list_9 : decode cX7_list 9 = .ok (.ifCond .ge 5, 3) := by decide +kernel
theorem dX7_list_12 : decode cX7_list 12 = .ok (.iconst (-1), 1) := by decide +kernel
theorem dX7_list_13 : decode cX7_list 13 = .ok (.ireturn, 1) := by decide +kernel
theorem dX7_list_14 : decode cX7_list 14 = .ok (.aload_n 0, 1) := by decide +kernel
theorem dX7_list_15 : decode cX7_list 15 = .ok (.getfield 60, 3) := by decide +kernel
theorem dX7_list_18 : decode cX7_list 18 = .ok (.iload_n 1, 1) := by decide +kernel
theorem dX7_list_19 : decode cX7_list 19 = .ok (.iload_n 2, 1) := by decide +kernel
theorem dX7_list_20 : decode cX7_list 20 = .ok (.invokevirtual 163, 3) := by decide +kernel
theorem dX7_list_23 : decode cX7_list 23 = .ok (.ireturn, 1) := by decide +kernel
set_option maxRecDepth 20000 in
theorem ggX7_look_X7_isBelow : GoodIn wsX7_look wsX7_isBelow := goodIn_r _ [6] (by decide +kernel) (by decide +kernel)
set_option maxRecDepth 20000 in
theorem gX7_look_X7_isBelow : GoodIn wsX7_look (va_wsS RX7 79 yX7_isBelow wsX7_isBelow) := goodIn_app (goodIn_of _ (by decide +kernel)) ggX7_look_X7_isBelow
theorem dX7_look_0 : decode cX7_look 0 = .ok (.iload_n 1, 1) := by decide +kernel
theorem dX7_look_1 : decode cX7_look 1 = .ok (.aload_n 0, 1) := by decide +kernel
theorem dX7_look_2 : decode cX7_look 2 = .ok (.getfield 35, 3) := by decide +kernel
theorem dX7_look_5 : decode cX7_look 5 = .ok (.getfield 122, 3) := by decide +kernel
theorem dX7_look_8 : decode cX7_look 8 = .ok (.invokestatic 79, 3) := by decide +kernel
theorem dX7_look_11 : decode cX7_look 11 = .ok (.ifCond .ne 5, 3) := by decide +kernel
theorem dX7_look_14 : decode cX7_look 14 = .ok (.iconst (-1), 1) := by decide +kernel
theorem dX7_look_15 : decode cX7_look 15 = .ok (.ireturn, 1) := by decide +kernel
theorem dX7_look_16 : decode cX7_look 16 = .ok (.iload_n 2, 1) := by decide +kernel
theorem dX7_look_17 : decode cX7_look 17 = .ok (.tableswitch 71 0 3 #[31, 41, 51, 61], 31) := by decide +kernel
theorem dX7_look_48 : decode cX7_look 48 = .ok (.aload_n 0, 1) := by decide +kernel
theorem dX7_look_49 : decode cX7_look 49 = .ok (.getfield 35, 3) := by decide +kernel
theorem dX7_look_52 : decode cX7_look 52 = .ok (.getfield 166, 3) := by decide +kernel
theorem dX7_look_55 : decode cX7_look 55 = .ok (.iload_n 1, 1) := by decide +kernel
theorem dX7_look_56 : decode cX7_look 56 = .ok (.iaload, 1) := by decide +kernel
theorem dX7_look_57 : decode cX7_look 57 = .ok (.ireturn, 1) := by decide +kernel
theorem dX7_look_58 : decode cX7_look 58 = .ok (.aload_n 0, 1) := by decide +kernel
theorem dX7_look_59 : decode cX7_look 59 = .ok (.getfield 35, 3) := by decide +kernel
theorem dX7_look_62 : decode cX7_look 62 = .ok (.getfield 169, 3) := by decide +kernel
theorem dX7_look_65 : decode cX7_look 65 = .ok (.iload_n 1, 1) := by decide +kernel
theorem dX7_look_66 : decode cX7_look 66 = .ok (.iaload, 1) := by decide +kernel
theorem dX7_look_67 : decode cX7_look 67 = .ok (.ireturn, 1) := by decide +kernel
theorem dX7_look_68 : decode cX7_look 68 = .ok (.aload_n 0, 1) := by decide +kernel
theorem dX7_look_69 : decode cX7_look 69 = .ok (.getfield 60, 3) := by decide +kernel
theorem dX7_look_72 : decode cX7_look 72 = .ok (.getfield 172, 3) := by decide +kernel
theorem dX7_look_75 : decode cX7_look 75 = .ok (.iload_n 1, 1) := by decide +kernel
theorem dX7_look_76 : decode cX7_look 76 = .ok (.iaload, 1) := by decide +kernel
theorem dX7_look_77 : decode cX7_look 77 = .ok (.ireturn, 1) := by decide +kernel
theorem dX7_look_78 : decode cX7_look 78 = .ok (.aload_n 0, 1) := by decide +kernel
theorem dX7_look_79 : decode cX7_look 79 = .ok (.getfield 60, 3) := by decide +kernel
theorem dX7_look_82 : decode cX7_look 82 = .ok (.getfield 175, 3) := by decide +kernel
theorem dX7_look_85 : decode cX7_look 85 = .ok (.iload_n 1, 1) := by decide +kernel
theorem dX7_look_86 : decode cX7_look 86 = .ok (.iaload, 1) := by decide +kernel
theorem dX7_look_87 : decode cX7_look 87 = .ok (.ireturn, 1) := by decide +kernel
theorem dX7_look_88 : decode cX7_look 88 = .ok (.iconst (-1), 1) := by decide +kernel
theorem dX7_look_89 : decode cX7_look 89 = .ok (.ireturn, 1) := by decide +kernel
set_option maxRecDepth 20000 in
theorem ggX7_hours_X7_isBelow : GoodIn wsX7_hours wsX7_isBelow := goodIn_r _ [7] (by decide +kernel) (by decide +kernel)
set_option maxRecDepth 20000 in
theorem gX7_hours_X7_isBelow : GoodIn wsX7_hours (va_wsS RX7 79 yX7_isBelow wsX7_isBelow) := goodIn_app (goodIn_of _ (by decide +kernel)) ggX7_hours_X7_isBelow
set_option maxRecDepth 20000 in
theorem ggX7_hours_X7_hasCome : GoodIn wsX7_hours wsX7_hasCome := goodIn_r _ [11, 3, 21, 22, 23, 24, 25, 26, 27, 28, 29] (by decide +kernel) (by decide +kernel)
set_option maxRecDepth 20000 in
theorem gX7_hours_X7_hasCome : GoodIn wsX7_hours (wsV RX7 114 RX7 yX7_hasCome wsX7_hasCome) := goodIn_app (goodIn_of _ (by decide +kernel)) ggX7_hours_X7_hasCome
set_option maxRecDepth 20000 in
theorem ggX7_hours_X5_add : GoodIn wsX7_hours wsX5_add := goodIn_r _ [15, 16, 17, 18, 19, 20, 40, 41, 42, 43, 44, 45, 46] (by decide +kernel) (by decide +kernel)
set_option maxRecDepth 20000 in
theorem gX7_hours_X5_add_n179 : GoodIn wsX7_hours (wsX5_add) := ggX7_hours_X5_add
theorem dX7_hours_0 : decode cX7_hours 0 = .ok (.iload_n 1, 1) := by decide +kernel
theorem dX7_hours_1 : decode cX7_hours 1 = .ok (.aload_n 0, 1) := by decide +kernel
theorem dX7_hours_2 : decode cX7_hours 2 = .ok (.getfield 35, 3) := by decide +kernel
theorem dX7_hours_5 : decode cX7_hours 5 = .ok (.getfield 122, 3) := by decide +kernel
theorem dX7_hours_8 : decode cX7_hours 8 = .ok (.invokestatic 79, 3) := by decide +kernel
theorem dX7_hours_11 : decode cX7_hours 11 = .ok (.ifCond .eq 34, 3) := by decide +kernel
theorem dX7_hours_14 : decode cX7_hours 14 = .ok (.aload_n 0, 1) := by decide +kernel
theorem dX7_hours_15 : decode cX7_hours 15 = .ok (.iload_n 2, 1) := by decide +kernel
theorem dX7_hours_16 : decode cX7_hours 16 = .ok (.invokevirtual 114, 3) := by decide +kernel
theorem dX7_hours_19 : decode cX7_hours 19 = .ok (.ifCond .eq 26, 3) := by decide +kernel
theorem dX7_hours_22 : decode cX7_hours 22 = .ok (.iload_n 3, 1) := by decide +kernel
theorem dX7_hours_23 : decode cX7_hours 23 = .ok (.ifCond .lt 22, 3) := by decide +kernel
theorem dX7_hours_26 : decode cX7_hours 26 = .ok (.iload_n 3, 1) := by decide +kernel
theorem dX7_hours_27 : decode cX7_hours 27 = .ok (.bipush 24, 2) := by decide +kernel
theorem dX7_hours_29 : decode cX7_hours 29 = .ok (.if_icmp .gt 16, 3) := by decide +kernel
theorem dX7_hours_32 : decode cX7_hours 32 = .ok (.aload_n 0, 1) := by decide +kernel
theorem dX7_hours_33 : decode cX7_hours 33 = .ok (.getfield 51, 3) := by decide +kernel
theorem dX7_hours_36 : decode cX7_hours 36 = .ok (.getfield 178, 3) := by decide +kernel
theorem dX7_hours_39 : decode cX7_hours 39 = .ok (.sipush 150, 3) := by decide +kernel
theorem dX7_hours_42 : decode cX7_hours 42 = .ok (.if_icmp .lt 5, 3) := by decide +kernel
theorem dX7_hours_45 : decode cX7_hours 45 = .ok (.iconst 0, 1) := by decide +kernel
theorem dX7_hours_46 : decode cX7_hours 46 = .ok (.ireturn, 1) := by decide +kernel
theorem dX7_hours_47 : decode cX7_hours 47 = .ok (.aload_n 0, 1) := by decide +kernel
theorem dX7_hours_48 : decode cX7_hours 48 = .ok (.getfield 51, 3) := by decide +kernel
theorem dX7_hours_51 : decode cX7_hours 51 = .ok (.iload_n 1, 1) := by decide +kernel
theorem dX7_hours_52 : decode cX7_hours 52 = .ok (.iload_n 2, 1) := by decide +kernel
theorem dX7_hours_53 : decode cX7_hours 53 = .ok (.iload_n 3, 1) := by decide +kernel
theorem dX7_hours_54 : decode cX7_hours 54 = .ok (.aload_n 0, 1) := by decide +kernel
theorem dX7_hours_55 : decode cX7_hours 55 = .ok (.getfield 102, 3) := by decide +kernel
theorem dX7_hours_58 : decode cX7_hours 58 = .ok (.invokevirtual 179, 3) := by decide +kernel
theorem dX7_hours_61 : decode cX7_hours 61 = .ok (.iconst 1, 1) := by decide +kernel
theorem dX7_hours_62 : decode cX7_hours 62 = .ok (.ireturn, 1) := by decide +kernel
set_option maxRecDepth 20000 in
theorem ggX7_bank_X7_isBelow : GoodIn wsX7_bank wsX7_isBelow := goodIn_r _ [6] (by decide +kernel) (by decide +kernel)
set_option maxRecDepth 20000 in
theorem gX7_bank_X7_isBelow : GoodIn wsX7_bank (va_wsS RX7 79 yX7_isBelow wsX7_isBelow) := goodIn_app (goodIn_of _ (by decide +kernel)) ggX7_bank_X7_isBelow
set_option maxRecDepth 20000 in
theorem ggX7_bank_X7_hasCome : GoodIn wsX7_bank wsX7_hasCome := goodIn_r _ [10, 11, 40, 41, 42, 43, 44, 45, 46, 47, 48] (by decide +kernel) (by decide +kernel)
set_option maxRecDepth 20000 in
theorem gX7_bank_X7_hasCome : GoodIn wsX7_bank (wsV RX7 114 RX7 yX7_hasCome wsX7_hasCome) := goodIn_app (goodIn_of _ (by decide +kernel)) ggX7_bank_X7_hasCome
set_option maxRecDepth 20000 in
theorem ggX7_bank_X5_sum : GoodIn wsX7_bank wsX5_sum := goodIn_r _ [15, 16, 17, 18, 19, 20, 21, 22, 23, 24, 25, 26, 27, 28, 29, 30, 31, 32, 33, 34, 35, 36, 37, 38, 39, 59, 60, 61, 62, 63, 64, 65, 66, 67, 68, 69, 70, 71] (by decide +kernel) (by decide +kernel)
set_option maxRecDepth 20000 in
theorem gX7_bank_X5_sum_n181 : GoodIn wsX7_bank (wsX5_sum) := ggX7_bank_X5_sum
theorem dX7_bank_0 : decode cX7_bank 0 = .ok (.iload_n 1, 1) := by decide +kernel
theorem dX7_bank_1 : decode cX7_bank 1 = .ok (.aload_n 0, 1) := by decide +kernel
theorem dX7_bank_2 : decode cX7_bank 2 = .ok (.getfield 35, 3) := by decide +kernel
theorem dX7_bank_5 : decode cX7_bank 5 = .ok (.getfield 122, 3) := by decide +kernel
theorem dX7_bank_8 : decode cX7_bank 8 = .ok (.invokestatic 79, 3) := by decide +kernel
theorem dX7_bank_11 : decode cX7_bank 11 = .ok (.ifCond .eq 19, 3) := by decide +kernel
theorem dX7_bank_14 : decode cX7_bank 14 = .ok (.iload_n 2, 1) := by decide +kernel
theorem dX7_bank_15 : decode cX7_bank 15 = .ok (.iconst 3, 1) := by decide +kernel
theorem dX7_bank_16 : decode cX7_bank 16 = .ok (.invokestatic 79, 3) := by decide +kernel
theorem dX7_bank_19 : decode cX7_bank 19 = .ok (.ifCond .eq 11, 3) := by decide +kernel
theorem dX7_bank_22 : decode cX7_bank 22 = .ok (.aload_n 0, 1) := by decide +kernel
theorem dX7_bank_23 : decode cX7_bank 23 = .ok (.iload_n 3, 1) := by decide +kernel
theorem dX7_bank_24 : decode cX7_bank 24 = .ok (.invokevirtual 114, 3) := by decide +kernel
theorem dX7_bank_27 : decode cX7_bank 27 = .ok (.ifCond .ne 5, 3) := by decide +kernel
theorem dX7_bank_30 : decode cX7_bank 30 = .ok (.iconst (-1), 1) := by decide +kernel
theorem dX7_bank_31 : decode cX7_bank 31 = .ok (.ireturn, 1) := by decide +kernel
theorem dX7_bank_32 : decode cX7_bank 32 = .ok (.aload_n 0, 1) := by decide +kernel
theorem dX7_bank_33 : decode cX7_bank 33 = .ok (.getfield 51, 3) := by decide +kernel
theorem dX7_bank_36 : decode cX7_bank 36 = .ok (.iload_n 1, 1) := by decide +kernel
theorem dX7_bank_37 : decode cX7_bank 37 = .ok (.iload_n 2, 1) := by decide +kernel
theorem dX7_bank_38 : decode cX7_bank 38 = .ok (.iload_n 3, 1) := by decide +kernel
theorem dX7_bank_39 : decode cX7_bank 39 = .ok (.invokevirtual 181, 3) := by decide +kernel
theorem dX7_bank_42 : decode cX7_bank 42 = .ok (.ireturn, 1) := by decide +kernel
set_option maxRecDepth 20000 in
theorem ggX7_anew_X7_hasCome : GoodIn wsX7_anew wsX7_hasCome := goodIn_r _ [6, 7, 121, 122, 123, 124, 125, 126, 127, 128, 129] (by decide +kernel) (by decide +kernel)
set_option maxRecDepth 20000 in
theorem gX7_anew_X7_hasCome : GoodIn wsX7_anew (wsV RX7 114 RX7 yX7_hasCome wsX7_hasCome) := goodIn_app (goodIn_of _ (by decide +kernel)) ggX7_anew_X7_hasCome
set_option maxRecDepth 20000 in
theorem ggX7_anew_X2_clear : GoodIn wsX7_anew wsX2_clear := goodIn_r _ [11, 12, 13, 14, 15, 16, 17, 18, 19, 20, 21, 130, 131, 132, 133, 134, 135, 136, 137, 138, 139, 140, 141, 142, 143, 144] (by decide +kernel) (by decide +kernel)
set_option maxRecDepth 20000 in
theorem gX7_anew_X2_clear_n184 : GoodIn wsX7_anew (wsX2_clear) := ggX7_anew_X2_clear
set_option maxRecDepth 20000 in
theorem ggX7_anew_X2_work : GoodIn wsX7_anew wsX2_work := goodIn_r _ [24, 25, 26, 17, 16, 27, 28, 29, 30, 31, 32, 33, 34, 35, 36, 37, 38, 39, 40, 41, 42, 43, 9, 44, 45, 13, 46, 47, 48, 49, 50, 12, 51, 52, 53, 54, 55, 56, 57, 58, 59, 15, 60, 61, 62, 63, 64, 65, 66, 67, 68, 69, 70, 71, 72, 73, 74, 75, 76, 77, 78, 79, 80, 81, 82, 83, 84, 85, 86, 87, 88, 89, 90, 91, 92, 93, 94, 95, 96, 97, 98, 99, 100, 14, 101, 102, 103, 104, 130, 131, 132, 133, 134, 135, 136, 137, 138, 139, 140, 141, 142, 143, 144, 145, 146, 147, 148, 149, 150, 151, 152, 153, 154, 155, 156, 157, 158, 159, 160, 161, 162, 163, 164, 165, 166, 167, 168, 169] (by decide +kernel) (by decide +kernel)
set_option maxRecDepth 20000 in
theorem gX7_anew_X2_work_n151 : GoodIn wsX7_anew (wsX2_work) := ggX7_anew_X2_work
set_option maxRecDepth 20000 in
theorem ggX7_anew_X7_countDifferences : GoodIn wsX7_anew wsX7_countDifferences := goodIn_r _ [108, 1, 109, 110, 111, 5, 112, 113, 114, 9, 115, 116, 117, 118, 119, 120, 15, 121, 122, 123, 124, 125, 126, 127, 128, 129, 130, 131, 132, 133, 134, 135, 136, 137, 138, 139, 140, 141, 142, 143, 144] (by decide +kernel) (by decide +kernel)
set_option maxRecDepth 20000 in
theorem gX7_anew_X7_countDifferences : GoodIn wsX7_anew (wsV RX7 185 RX7 yX7_countDifferences wsX7_countDifferences) := goodIn_app (goodIn_of _ (by decide +kernel)) ggX7_anew_X7_countDifferences
theorem dX7_anew_0 : decode cX7_anew 0 = .ok (.aload_n 0, 1) := by decide +kernel
theorem dX7_anew_1 : decode cX7_anew 1 = .ok (.iload_n 1, 1) := by decide +kernel
theorem dX7_anew_2 : decode cX7_anew 2 = .ok (.invokevirtual 114, 3) := by decide +kernel
theorem dX7_anew_5 : decode cX7_anew 5 = .ok (.ifCond .eq 11, 3) := by decide +kernel
theorem dX7_anew_8 : decode cX7_anew 8 = .ok (.aload_n 0, 1) := by decide +kernel
theorem dX7_anew_9 : decode cX7_anew 9 = .ok (.iload_n 2, 1) := by decide +kernel
theorem dX7_anew_10 : decode cX7_anew 10 = .ok (.invokevirtual 114, 3) := by decide +kernel
theorem dX7_anew_13 : decode cX7_anew 13 = .ok (.ifCond .ne 5, 3) := by decide +kernel
theorem dX7_anew_16 : decode cX7_anew 16 = .ok (.iconst (-1), 1) := by decide +kernel
theorem dX7_anew_17 : decode cX7_anew 17 = .ok (.ireturn, 1) := by decide +kernel
theorem dX7_anew_18 : decode cX7_anew 18 = .ok (.aload_n 0, 1) := by decide +kernel
theorem dX7_anew_19 : decode cX7_anew 19 = .ok (.getfield 64, 3) := by decide +kernel
theorem dX7_anew_22 : decode cX7_anew 22 = .ok (.invokevirtual 184, 3) := by decide +kernel
theorem dX7_anew_25 : decode cX7_anew 25 = .ok (.iconst 0, 1) := by decide +kernel
theorem dX7_anew_26 : decode cX7_anew 26 = .ok (.istore_n 3, 1) := by decide +kernel
theorem dX7_anew_27 : decode cX7_anew 27 = .ok (.iload_n 3, 1) := by decide +kernel
theorem dX7_anew_28 : decode cX7_anew 28 = .ok (.iload_n 1, 1) := by decide +kernel
theorem dX7_anew_29 : decode cX7_anew 29 = .ok (.if_icmp .ge 19, 3) := by decide +kernel
theorem dX7_anew_32 : decode cX7_anew 32 = .ok (.aload_n 0, 1) := by decide +kernel
theorem dX7_anew_33 : decode cX7_anew 33 = .ok (.getfield 64, 3) := by decide +kernel
theorem dX7_anew_36 : decode cX7_anew 36 = .ok (.iload_n 3, 1) := by decide +kernel
theorem dX7_anew_37 : decode cX7_anew 37 = .ok (.iload_n 2, 1) := by decide +kernel
theorem dX7_anew_38 : decode cX7_anew 38 = .ok (.invokevirtual 151, 3) := by decide +kernel
theorem dX7_anew_41 : decode cX7_anew 41 = .ok (.pop, 1) := by decide +kernel
theorem dX7_anew_42 : decode cX7_anew 42 = .ok (.iinc 3 1, 3) := by decide +kernel
theorem dX7_anew_45 : decode cX7_anew 45 = .ok (.goto (-18), 3) := by decide +kernel
theorem dX7_anew_48 : decode cX7_anew 48 = .ok (.aload_n 0, 1) := by decide +kernel
theorem dX7_anew_49 : decode cX7_anew 49 = .ok (.invokevirtual 185, 3) := by decide +kernel
theorem dX7_anew_52 : decode cX7_anew 52 = .ok (.ireturn, 1) := by decide +kernel
set_option maxRecDepth 20000 in
theorem ggX7_differs_X7_findDifference : GoodIn wsX7_differs wsX7_findDifference := goodIn_r _ [6, 1, 7, 8, 9, 5, 10, 11, 12, 13, 14, 15, 16, 17, 18, 19, 20, 21, 22, 23, 24, 25, 26, 27, 28, 29, 30, 31, 32, 33, 34, 35, 36, 37, 38, 39, 40, 41, 42, 43, 44] (by decide +kernel) (by decide +kernel)
set_option maxRecDepth 20000 in
theorem gX7_differs_X7_findDifference : GoodIn wsX7_differs (wsV RX7 189 RX7 yX7_findDifference wsX7_findDifference) := goodIn_app (goodIn_of _ (by decide +kernel)) ggX7_differs_X7_findDifference
set_option maxRecDepth 20000 in
theorem ggX7_differs_X2_wasSent : GoodIn wsX7_differs wsX2_wasSent := goodIn_r _ [15, 16, 17, 18, 13, 19, 20, 30, 31, 32, 33, 34, 35, 36, 37, 38, 39, 40, 41, 42, 43, 44] (by decide +kernel) (by decide +kernel)
set_option maxRecDepth 20000 in
theorem gX7_differs_X2_wasSent_n193 : GoodIn wsX7_differs (wsX2_wasSent) := ggX7_differs_X2_wasSent
theorem dX7_differs_0 : decode cX7_differs 0 = .ok (.iload_n 1, 1) := by decide +kernel
theorem dX7_differs_1 : decode cX7_differs 1 = .ok (.ifCond .ge 7, 3) := by decide +kernel
theorem dX7_differs_4 : decode cX7_differs 4 = .ok (.iconst (-1), 1) := by decide +kernel
theorem dX7_differs_5 : decode cX7_differs 5 = .ok (.goto 8, 3) := by decide +kernel
theorem dX7_differs_8 : decode cX7_differs 8 = .ok (.aload_n 0, 1) := by decide +kernel
theorem dX7_differs_9 : decode cX7_differs 9 = .ok (.iload_n 1, 1) := by decide +kernel
theorem dX7_differs_10 : decode cX7_differs 10 = .ok (.invokevirtual 189, 3) := by decide +kernel
theorem dX7_differs_13 : decode cX7_differs 13 = .ok (.istore_n 3, 1) := by decide +kernel
theorem dX7_differs_14 : decode cX7_differs 14 = .ok (.iload_n 3, 1) := by decide +kernel
theorem dX7_differs_15 : decode cX7_differs 15 = .ok (.iconst (-1), 1) := by decide +kernel
theorem dX7_differs_16 : decode cX7_differs 16 = .ok (.if_icmp .ne 5, 3) := by decide +kernel
theorem dX7_differs_19 : decode cX7_differs 19 = .ok (.iconst (-1), 1) := by decide +kernel
theorem dX7_differs_20 : decode cX7_differs 20 = .ok (.ireturn, 1) := by decide +kernel
theorem dX7_differs_21 : decode cX7_differs 21 = .ok (.iload_n 3, 1) := by decide +kernel
theorem dX7_differs_22 : decode cX7_differs 22 = .ok (.bipush 16, 2) := by decide +kernel
theorem dX7_differs_24 : decode cX7_differs 24 = .ok (.idiv, 1) := by decide +kernel
theorem dX7_differs_25 : decode cX7_differs 25 = .ok (.istore 4, 2) := by decide +kernel
theorem dX7_differs_27 : decode cX7_differs 27 = .ok (.iload_n 3, 1) := by decide +kernel
theorem dX7_differs_28 : decode cX7_differs 28 = .ok (.bipush 16, 2) := by decide +kernel
theorem dX7_differs_30 : decode cX7_differs 30 = .ok (.irem, 1) := by decide +kernel
theorem dX7_differs_31 : decode cX7_differs 31 = .ok (.istore 5, 2) := by decide +kernel
theorem dX7_differs_33 : decode cX7_differs 33 = .ok (.iload_n 2, 1) := by decide +kernel
theorem dX7_differs_34 : decode cX7_differs 34 = .ok (.tableswitch 52 0 2 #[26, 29, 32], 26) := by decide +kernel
theorem dX7_differs_60 : decode cX7_differs 60 = .ok (.iload 4, 2) := by decide +kernel
theorem dX7_differs_62 : decode cX7_differs 62 = .ok (.ireturn, 1) := by decide +kernel
theorem dX7_differs_63 : decode cX7_differs 63 = .ok (.iload 5, 2) := by decide +kernel
theorem dX7_differs_65 : decode cX7_differs 65 = .ok (.ireturn, 1) := by decide +kernel
theorem dX7_differs_66 : decode cX7_differs 66 = .ok (.aload_n 0, 1) := by decide +kernel
theorem dX7_differs_67 : decode cX7_differs 67 = .ok (.getfield 64, 3) := by decide +kernel
theorem dX7_differs_70 : decode cX7_differs 70 = .ok (.iload 4, 2) := by decide +kernel
theorem dX7_differs_72 : decode cX7_differs 72 = .ok (.iload 5, 2) := by decide +kernel
theorem dX7_differs_74 : decode cX7_differs 74 = .ok (.invokevirtual 193, 3) := by decide +kernel
theorem dX7_differs_77 : decode cX7_differs 77 = .ok (.ifCond .eq 7, 3) := by decide +kernel
theorem dX7_differs_80 : decode cX7_differs 80 = .ok (.iconst 1, 1) := by decide +kernel
theorem dX7_differs_81 : decode cX7_differs 81 = .ok (.goto 4, 3) := by decide +kernel
theorem dX7_differs_84 : decode cX7_differs 84 = .ok (.iconst 0, 1) := by decide +kernel
theorem dX7_differs_85 : decode cX7_differs 85 = .ok (.ireturn, 1) := by decide +kernel
theorem dX7_differs_86 : decode cX7_differs 86 = .ok (.iconst (-1), 1) := by decide +kernel
theorem dX7_differs_87 : decode cX7_differs 87 = .ok (.ireturn, 1) := by decide +kernel
theorem dX7_count_0 : decode cX7_count 0 = .ok (.iload_n 1, 1) := by decide +kernel
theorem dX7_count_1 : decode cX7_count 1 = .ok (.tableswitch 96 0 6 #[43, 48, 56, 64, 72, 80, 88], 43) := by decide +kernel
theorem dX7_count_44 : decode cX7_count 44 = .ok (.aload_n 0, 1) := by decide +kernel
theorem dX7_count_45 : decode cX7_count 45 = .ok (.getfield 102, 3) := by decide +kernel
theorem dX7_count_48 : decode cX7_count 48 = .ok (.ireturn, 1) := by decide +kernel
theorem dX7_count_49 : decode cX7_count 49 = .ok (.aload_n 0, 1) := by decide +kernel
theorem dX7_count_50 : decode cX7_count 50 = .ok (.getfield 35, 3) := by decide +kernel
theorem dX7_count_53 : decode cX7_count 53 = .ok (.getfield 122, 3) := by decide +kernel
theorem dX7_count_56 : decode cX7_count 56 = .ok (.ireturn, 1) := by decide +kernel
theorem dX7_count_57 : decode cX7_count 57 = .ok (.aload_n 0, 1) := by decide +kernel
theorem dX7_count_58 : decode cX7_count 58 = .ok (.getfield 42, 3) := by decide +kernel
theorem dX7_count_61 : decode cX7_count 61 = .ok (.getfield 141, 3) := by decide +kernel
theorem dX7_count_64 : decode cX7_count 64 = .ok (.ireturn, 1) := by decide +kernel
theorem dX7_count_65 : decode cX7_count 65 = .ok (.aload_n 0, 1) := by decide +kernel
theorem dX7_count_66 : decode cX7_count 66 = .ok (.getfield 28, 3) := by decide +kernel
theorem dX7_count_69 : decode cX7_count 69 = .ok (.getfield 83, 3) := by decide +kernel
theorem dX7_count_72 : decode cX7_count 72 = .ok (.ireturn, 1) := by decide +kernel
theorem dX7_count_73 : decode cX7_count 73 = .ok (.aload_n 0, 1) := by decide +kernel
theorem dX7_count_74 : decode cX7_count 74 = .ok (.getfield 60, 3) := by decide +kernel
theorem dX7_count_77 : decode cX7_count 77 = .ok (.getfield 196, 3) := by decide +kernel
theorem dX7_count_80 : decode cX7_count 80 = .ok (.ireturn, 1) := by decide +kernel
theorem dX7_count_81 : decode cX7_count 81 = .ok (.aload_n 0, 1) := by decide +kernel
theorem dX7_count_82 : decode cX7_count 82 = .ok (.getfield 51, 3) := by decide +kernel
theorem dX7_count_85 : decode cX7_count 85 = .ok (.getfield 178, 3) := by decide +kernel
theorem dX7_count_88 : decode cX7_count 88 = .ok (.ireturn, 1) := by decide +kernel
theorem dX7_count_89 : decode cX7_count 89 = .ok (.aload_n 0, 1) := by decide +kernel
theorem dX7_count_90 : decode cX7_count 90 = .ok (.getfield 28, 3) := by decide +kernel
theorem dX7_count_93 : decode cX7_count 93 = .ok (.getfield 199, 3) := by decide +kernel
theorem dX7_count_96 : decode cX7_count 96 = .ok (.ireturn, 1) := by decide +kernel
theorem dX7_count_97 : decode cX7_count 97 = .ok (.iconst (-1), 1) := by decide +kernel
theorem dX7_count_98 : decode cX7_count 98 = .ok (.ireturn, 1) := by decide +kernel
theorem dX7_hasCome_0 : decode cX7_hasCome 0 = .ok (.iload_n 1, 1) := by decide +kernel
theorem dX7_hasCome_1 : decode cX7_hasCome 1 = .ok (.ifCond .lt 15, 3) := by decide +kernel
theorem dX7_hasCome_4 : decode cX7_hasCome 4 = .ok (.iload_n 1, 1) := by decide +kernel
theorem dX7_hasCome_5 : decode cX7_hasCome 5 = .ok (.aload_n 0, 1) := by decide +kernel
theorem dX7_hasCome_6 : decode cX7_hasCome 6 = .ok (.getfield 102, 3) := by decide +kernel
theorem dX7_hasCome_9 : decode cX7_hasCome 9 = .ok (.if_icmp .gt 7, 3) := by decide +kernel
theorem dX7_hasCome_12 : decode cX7_hasCome 12 = .ok (.iconst 1, 1) := by decide +kernel
theorem dX7_hasCome_13 : decode cX7_hasCome 13 = .ok (.goto 4, 3) := by decide +kernel
theorem dX7_hasCome_16 : decode cX7_hasCome 16 = .ok (.iconst 0, 1) := by decide +kernel
theorem dX7_hasCome_17 : decode cX7_hasCome 17 = .ok (.ireturn, 1) := by decide +kernel
theorem dX7_isBelow_0 : decode cX7_isBelow 0 = .ok (.iload_n 0, 1) := by decide +kernel
theorem dX7_isBelow_1 : decode cX7_isBelow 1 = .ok (.ifCond .lt 12, 3) := by decide +kernel
theorem dX7_isBelow_4 : decode cX7_isBelow 4 = .ok (.iload_n 0, 1) := by decide +kernel
theorem dX7_isBelow_5 : decode cX7_isBelow 5 = .ok (.iload_n 1, 1) := by decide +kernel
theorem dX7_isBelow_6 : decode cX7_isBelow 6 = .ok (.if_icmp .ge 7, 3) := by decide +kernel
theorem dX7_isBelow_9 : decode cX7_isBelow 9 = .ok (.iconst 1, 1) := by decide +kernel
theorem dX7_isBelow_10 : decode cX7_isBelow 10 = .ok (.goto 4, 3) := by decide +kernel
theorem dX7_isBelow_13 : decode cX7_isBelow 13 = .ok (.iconst 0, 1) := by decide +kernel
theorem dX7_isBelow_14 : decode cX7_isBelow 14 = .ok (.ireturn, 1) := by decide +kernel
set_option maxRecDepth 20000 in
theorem ggX7_countDifferences_X7_isDifference : GoodIn wsX7_countDifferences wsX7_isDifference := goodIn_r _ [6, 7, 1, 8, 9, 10, 11, 12, 13, 14, 15, 16, 17, 18, 19, 20, 21, 22, 23, 24, 25, 26, 27, 28, 29, 30, 31, 32, 33, 34, 35, 36, 37, 38, 39, 40] (by decide +kernel) (by decide +kernel)
set_option maxRecDepth 20000 in
theorem gX7_countDifferences_X7_isDifference : GoodIn wsX7_countDifferences (wsV RX7 200 RX7 yX7_isDifference wsX7_isDifference) := goodIn_app (goodIn_of _ (by decide +kernel)) ggX7_countDifferences_X7_isDifference
theorem dX7_countDifferences_0 : decode cX7_countDifferences 0 = .ok (.iconst 0, 1) := by decide +kernel
theorem dX7_countDifferences_1 : decode cX7_countDifferences 1 = .ok (.istore_n 1, 1) := by decide +kernel
theorem dX7_countDifferences_2 : decode cX7_countDifferences 2 = .ok (.aload_n 0, 1) := by decide +kernel
theorem dX7_countDifferences_3 : decode cX7_countDifferences 3 = .ok (.getfield 64, 3) := by decide +kernel
theorem dX7_countDifferences_6 : decode cX7_countDifferences 6 = .ok (.getfield 154, 3) := by decide +kernel
theorem dX7_countDifferences_9 : decode cX7_countDifferences 9 = .ok (.bipush 16, 2) := by decide +kernel
theorem dX7_countDifferences_11 : decode cX7_countDifferences 11 = .ok (.imul, 1) := by decide +kernel
theorem dX7_countDifferences_12 : decode cX7_countDifferences 12 = .ok (.istore_n 2, 1) := by decide +kernel
theorem dX7_countDifferences_13 : decode cX7_countDifferences 13 = .ok (.iconst 0, 1) := by decide +kernel
theorem dX7_countDifferences_14 : decode cX7_countDifferences 14 = .ok (.istore_n 3, 1) := by decide +kernel
theorem dX7_countDifferences_15 : decode cX7_countDifferences 15 = .ok (.iload_n 3, 1) := by decide +kernel
theorem dX7_countDifferences_16 : decode cX7_countDifferences 16 = .ok (.iload_n 2, 1) := by decide +kernel
theorem dX7_countDifferences_17 : decode cX7_countDifferences 17 = .ok (.if_icmp .ge 20, 3) := by decide +kernel
theorem dX7_countDifferences_20 : decode cX7_countDifferences 20 = .ok (.aload_n 0, 1) := by decide +kernel
theorem dX7_countDifferences_21 : decode cX7_countDifferences 21 = .ok (.iload_n 3, 1) := by decide +kernel
theorem dX7_countDifferences_22 : decode cX7_countDifferences 22 = .ok (.invokevirtual 200, 3) := by decide +kernel
theorem dX7_countDifferences_25 : decode cX7_countDifferences 25 = .ok (.ifCond .eq 6, 3) := by decide +kernel
theorem dX7_countDifferences_28 : decode cX7_countDifferences 28 = .ok (.iinc 1 1, 3) := by decide +kernel
theorem dX7_countDifferences_31 : decode cX7_countDifferences 31 = .ok (.iinc 3 1, 3) := by decide +kernel
theorem dX7_countDifferences_34 : decode cX7_countDifferences 34 = .ok (.goto (-19), 3) := by decide +kernel
theorem dX7_countDifferences_37 : decode cX7_countDifferences 37 = .ok (.iload_n 1, 1) := by decide +kernel
theorem dX7_countDifferences_38 : decode cX7_countDifferences 38 = .ok (.ireturn, 1) := by decide +kernel
set_option maxRecDepth 20000 in
theorem ggX7_findDifference_X7_isDifference : GoodIn wsX7_findDifference wsX7_isDifference := goodIn_r _ [6, 7, 1, 8, 9, 10, 11, 12, 13, 14, 15, 16, 17, 18, 19, 20, 21, 22, 23, 24, 25, 26, 27, 28, 29, 30, 31, 32, 33, 34, 35, 36, 37, 38, 39, 40] (by decide +kernel) (by decide +kernel)
set_option maxRecDepth 20000 in
theorem gX7_findDifference_X7_isDifference : GoodIn wsX7_findDifference (wsV RX7 200 RX7 yX7_isDifference wsX7_isDifference) := goodIn_app (goodIn_of _ (by decide +kernel)) ggX7_findDifference_X7_isDifference
theorem dX7_findDifference_0 : decode cX7_findDifference 0 = .ok (.iload_n 1, 1) := by decide +kernel
theorem dX7_findDifference_1 : decode cX7_findDifference 1 = .ok (.istore_n 2, 1) := by decide +kernel
theorem dX7_findDifference_2 : decode cX7_findDifference 2 = .ok (.aload_n 0, 1) := by decide +kernel
theorem dX7_findDifference_3 : decode cX7_findDifference 3 = .ok (.getfield 64, 3) := by decide +kernel
theorem dX7_findDifference_6 : decode cX7_findDifference 6 = .ok (.getfield 154, 3) := by decide +kernel
theorem dX7_findDifference_9 : decode cX7_findDifference 9 = .ok (.bipush 16, 2) := by decide +kernel
theorem dX7_findDifference_11 : decode cX7_findDifference 11 = .ok (.imul, 1) := by decide +kernel
theorem dX7_findDifference_12 : decode cX7_findDifference 12 = .ok (.istore_n 3, 1) := by decide +kernel
theorem dX7_findDifference_13 : decode cX7_findDifference 13 = .ok (.iconst 0, 1) := by decide +kernel
theorem dX7_findDifference_14 : decode cX7_findDifference 14 = .ok (.istore 4, 2) := by decide +kernel
theorem dX7_findDifference_16 : decode cX7_findDifference 16 = .ok (.iload 4, 2) := by decide +kernel
theorem dX7_findDifference_18 : decode cX7_findDifference 18 = .ok (.iload_n 3, 1) := by decide +kernel
theorem dX7_findDifference_19 : decode cX7_findDifference 19 = .ok (.if_icmp .ge 28, 3) := by decide +kernel
theorem dX7_findDifference_22 : decode cX7_findDifference 22 = .ok (.aload_n 0, 1) := by decide +kernel
theorem dX7_findDifference_23 : decode cX7_findDifference 23 = .ok (.iload 4, 2) := by decide +kernel
theorem dX7_findDifference_25 : decode cX7_findDifference 25 = .ok (.invokevirtual 200, 3) := by decide +kernel
theorem dX7_findDifference_28 : decode cX7_findDifference 28 = .ok (.ifCond .eq 13, 3) := by decide +kernel
theorem dX7_findDifference_31 : decode cX7_findDifference 31 = .ok (.iload_n 2, 1) := by decide +kernel
theorem dX7_findDifference_32 : decode cX7_findDifference 32 = .ok (.ifCond .ne 6, 3) := by decide +kernel
theorem dX7_findDifference_35 : decode cX7_findDifference 35 = .ok (.iload 4, 2) := by decide +kernel
theorem dX7_findDifference_37 : decode cX7_findDifference 37 = .ok (.ireturn, 1) := by decide +kernel
theorem dX7_findDifference_38 : decode cX7_findDifference 38 = .ok (.iinc 2 (-1), 3) := by decide +kernel
theorem dX7_findDifference_41 : decode cX7_findDifference 41 = .ok (.iinc 4 1, 3) := by decide +kernel
theorem dX7_findDifference_44 : decode cX7_findDifference 44 = .ok (.goto (-28), 3) := by decide +kernel
theorem dX7_findDifference_47 : decode cX7_findDifference 47 = .ok (.iconst (-1), 1) := by decide +kernel
theorem dX7_findDifference_48 : decode cX7_findDifference 48 = .ok (.ireturn, 1) := by decide +kernel
set_option maxRecDepth 20000 in
theorem ggX7_isDifference_X2_wasSent : GoodIn wsX7_isDifference wsX2_wasSent := goodIn_r _ [6, 7, 8, 9, 4, 10, 11, 21, 22, 23, 24, 25, 26, 27, 28, 29, 30, 31, 32, 33, 34, 35] (by decide +kernel) (by decide +kernel)
set_option maxRecDepth 20000 in
theorem gX7_isDifference_X2_wasSent_n193 : GoodIn wsX7_isDifference (wsX2_wasSent) := ggX7_isDifference_X2_wasSent
theorem dX7_isDifference_0 : decode cX7_isDifference 0 = .ok (.iload_n 1, 1) := by decide +kernel
theorem dX7_isDifference_1 : decode cX7_isDifference 1 = .ok (.bipush 16, 2) := by decide +kernel
theorem dX7_isDifference_3 : decode cX7_isDifference 3 = .ok (.idiv, 1) := by decide +kernel
theorem dX7_isDifference_4 : decode cX7_isDifference 4 = .ok (.istore_n 2, 1) := by decide +kernel
theorem dX7_isDifference_5 : decode cX7_isDifference 5 = .ok (.iload_n 1, 1) := by decide +kernel
theorem dX7_isDifference_6 : decode cX7_isDifference 6 = .ok (.bipush 16, 2) := by decide +kernel
theorem dX7_isDifference_8 : decode cX7_isDifference 8 = .ok (.irem, 1) := by decide +kernel
theorem dX7_isDifference_9 : decode cX7_isDifference 9 = .ok (.istore_n 3, 1) := by decide +kernel
theorem dX7_isDifference_10 : decode cX7_isDifference 10 = .ok (.aload_n 0, 1) := by decide +kernel
theorem dX7_isDifference_11 : decode cX7_isDifference 11 = .ok (.getfield 60, 3) := by decide +kernel
theorem dX7_isDifference_14 : decode cX7_isDifference 14 = .ok (.iload_n 2, 1) := by decide +kernel
theorem dX7_isDifference_15 : decode cX7_isDifference 15 = .ok (.iload_n 3, 1) := by decide +kernel
theorem dX7_isDifference_16 : decode cX7_isDifference 16 = .ok (.invokevirtual 193, 3) := by decide +kernel
theorem dX7_isDifference_19 : decode cX7_isDifference 19 = .ok (.aload_n 0, 1) := by decide +kernel
theorem dX7_isDifference_20 : decode cX7_isDifference 20 = .ok (.getfield 64, 3) := by decide +kernel
theorem dX7_isDifference_23 : decode cX7_isDifference 23 = .ok (.iload_n 2, 1) := by decide +kernel
theorem dX7_isDifference_24 : decode cX7_isDifference 24 = .ok (.iload_n 3, 1) := by decide +kernel
theorem dX7_isDifference_25 : decode cX7_isDifference 25 = .ok (.invokevirtual 193, 3) := by decide +kernel
theorem dX7_isDifference_28 : decode cX7_isDifference 28 = .ok (.if_icmp .eq 7, 3) := by decide +kernel
theorem dX7_isDifference_31 : decode cX7_isDifference 31 = .ok (.iconst 1, 1) := by decide +kernel
theorem dX7_isDifference_32 : decode cX7_isDifference 32 = .ok (.goto 4, 3) := by decide +kernel
theorem dX7_isDifference_35 : decode cX7_isDifference 35 = .ok (.iconst 0, 1) := by decide +kernel
theorem dX7_isDifference_36 : decode cX7_isDifference 36 = .ok (.ireturn, 1) := by decide +kernel
theorem dX8_init_0 : decode cX8_init 0 = .ok (.aload_n 0, 1) := by decide +kernel
theorem dX8_init_1 : decode cX8_init 1 = .ok (.invokespecial 1, 3) := by decide +kernel
theorem dX8_init_4 : decode cX8_init 4 = .ok (.aload_n 0, 1) := by decide +kernel
theorem dX8_init_5 : decode cX8_init 5 = .ok (.sipush 800, 3) := by decide +kernel
theorem dX8_init_8 : decode cX8_init 8 = .ok (.newarray .int, 2) := by decide +kernel
theorem dX8_init_10 : decode cX8_init 10 = .ok (.putfield 7, 3) := by decide +kernel
theorem dX8_init_13 : decode cX8_init 13 = .ok (.aload_n 0, 1) := by decide +kernel
theorem dX8_init_14 : decode cX8_init 14 = .ok (.bipush 10, 2) := by decide +kernel
theorem dX8_init_16 : decode cX8_init 16 = .ok (.newarray .int, 2) := by decide +kernel
theorem dX8_init_18 : decode cX8_init 18 = .ok (.putfield 13, 3) := by decide +kernel
theorem dX8_init_21 : decode cX8_init 21 = .ok (.aload_n 0, 1) := by decide +kernel
theorem dX8_init_22 : decode cX8_init 22 = .ok (.bipush 10, 2) := by decide +kernel
theorem dX8_init_24 : decode cX8_init 24 = .ok (.newarray .int, 2) := by decide +kernel
theorem dX8_init_26 : decode cX8_init 26 = .ok (.putfield 16, 3) := by decide +kernel
theorem dX8_init_29 : decode cX8_init 29 = .ok (.aload_n 0, 1) := by decide +kernel
theorem dX8_init_30 : decode cX8_init 30 = .ok (.bipush 10, 2) := by decide +kernel
theorem dX8_init_32 : decode cX8_init 32 = .ok (.newarray .int, 2) := by decide +kernel
theorem dX8_init_34 : decode cX8_init 34 = .ok (.putfield 19, 3) := by decide +kernel
theorem dX8_init_37 : decode cX8_init 37 = .ok (.aload_n 0, 1) := by decide +kernel
theorem dX8_init_38 : decode cX8_init 38 = .ok (.bipush 88, 2) := by decide +kernel
theorem dX8_init_40 : decode cX8_init 40 = .ok (.newarray .int, 2) := by decide +kernel
theorem dX8_init_42 : decode cX8_init 42 = .ok (.putfield 22, 3) := by decide +kernel
theorem dX8_init_45 : decode cX8_init 45 = .ok (.aload_n 0, 1) := by decide +kernel
theorem dX8_init_46 : decode cX8_init 46 = .ok (.iconst (-1), 1) := by decide +kernel
theorem dX8_init_47 : decode cX8_init 47 = .ok (.putfield 25, 3) := by decide +kernel
theorem dX8_init_50 : decode cX8_init 50 = .ok (.aload_n 0, 1) := by decide +kernel
theorem dX8_init_51 : decode cX8_init 51 = .ok (.bipush 16, 2) := by decide +kernel
theorem dX8_init_53 : decode cX8_init 53 = .ok (.newarray .int, 2) := by decide +kernel
theorem dX8_init_55 : decode cX8_init 55 = .ok (.putfield 29, 3) := by decide +kernel
theorem dX8_init_58 : decode cX8_init 58 = .ok (.aload_n 0, 1) := by decide +kernel
theorem dX8_init_59 : decode cX8_init 59 = .ok (.bipush 16, 2) := by decide +kernel
theorem dX8_init_61 : decode cX8_init 61 = .ok (.newarray .int, 2) := by decide +kernel
theorem dX8_init_63 : decode cX8_init 63 = .ok (.putfield 32, 3) := by decide +kernel
theorem dX8_init_66 : decode cX8_init 66 = .ok (.aload_n 0, 1) := by decide +kernel
theorem dX8_init_67 : decode cX8_init 67 = .ok (.bipush 100, 2) := by decide +kernel
theorem dX8_init_69 : decode cX8_init 69 = .ok (.newarray .int, 2) := by decide +kernel
theorem dX8_init_71 : decode cX8_init 71 = .ok (.putfield 35, 3) := by decide +kernel
theorem dX8_init_74 : decode cX8_init 74 = .ok (.aload_n 0, 1) := by decide +kernel
theorem dX8_init_75 : decode cX8_init 75 = .ok (.bipush 100, 2) := by decide +kernel
theorem dX8_init_77 : decode cX8_init 77 = .ok (.newarray .int, 2) := by decide +kernel
theorem dX8_init_79 : decode cX8_init 79 = .ok (.putfield 38, 3) := by decide +kernel
theorem dX8_init_82 : decode cX8_init 82 = .ok (.aload_n 0, 1) := by decide +kernel
theorem dX8_init_83 : decode cX8_init 83 = .ok (.bipush 100, 2) := by decide +kernel
theorem dX8_init_85 : decode cX8_init 85 = .ok (.newarray .int, 2) := by decide +kernel
theorem dX8_init_87 : decode cX8_init 87 = .ok (.putfield 41, 3) := by decide +kernel
theorem dX8_init_90 : decode cX8_init 90 = .ok (.aload_n 0, 1) := by decide +kernel
theorem dX8_init_91 : decode cX8_init 91 = .ok (.bipush 100, 2) := by decide +kernel
theorem dX8_init_93 : decode cX8_init 93 = .ok (.newarray .int, 2) := by decide +kernel
theorem dX8_init_95 : decode cX8_init 95 = .ok (.putfield 44, 3) := by decide +kernel
theorem dX8_init_98 : decode cX8_init 98 = .ok (.aload_n 0, 1) := by decide +kernel
theorem dX8_init_99 : decode cX8_init 99 = .ok (.sipush 200, 3) := by decide +kernel
theorem dX8_init_102 : decode cX8_init 102 = .ok (.newarray .int, 2) := by decide +kernel
theorem dX8_init_104 : decode cX8_init 104 = .ok (.putfield 47, 3) := by decide +kernel
theorem dX8_init_107 : decode cX8_init 107 = .ok (.aload_n 0, 1) := by decide +kernel
theorem dX8_init_108 : decode cX8_init 108 = .ok (.sipush 200, 3) := by decide +kernel
theorem dX8_init_111 : decode cX8_init 111 = .ok (.newarray .int, 2) := by decide +kernel
theorem dX8_init_113 : decode cX8_init 113 = .ok (.putfield 50, 3) := by decide +kernel
theorem dX8_init_116 : decode cX8_init 116 = .ok (.aload_n 0, 1) := by decide +kernel
theorem dX8_init_117 : decode cX8_init 117 = .ok (.sipush 200, 3) := by decide +kernel
theorem dX8_init_120 : decode cX8_init 120 = .ok (.newarray .int, 2) := by decide +kernel
theorem dX8_init_122 : decode cX8_init 122 = .ok (.putfield 53, 3) := by decide +kernel
theorem dX8_init_125 : decode cX8_init 125 = .ok (.aload_n 0, 1) := by decide +kernel
theorem dX8_init_126 : decode cX8_init 126 = .ok (.sipush 200, 3) := by decide +kernel
theorem dX8_init_129 : decode cX8_init 129 = .ok (.newarray .int, 2) := by decide +kernel
theorem dX8_init_131 : decode cX8_init 131 = .ok (.putfield 56, 3) := by decide +kernel
theorem dX8_init_134 : decode cX8_init 134 = .ok (.aload_n 0, 1) := by decide +kernel
theorem dX8_init_135 : decode cX8_init 135 = .ok (.bipush 60, 2) := by decide +kernel
theorem dX8_init_137 : decode cX8_init 137 = .ok (.newarray .int, 2) := by decide +kernel
theorem dX8_init_139 : decode cX8_init 139 = .ok (.putfield 59, 3) := by decide +kernel
theorem dX8_init_142 : decode cX8_init 142 = .ok (.aload_n 0, 1) := by decide +kernel
theorem dX8_init_143 : decode cX8_init 143 = .ok (.bipush 60, 2) := by decide +kernel
theorem dX8_init_145 : decode cX8_init 145 = .ok (.newarray .int, 2) := by decide +kernel
theorem dX8_init_147 : decode cX8_init 147 = .ok (.putfield 62, 3) := by decide +kernel
theorem dX8_init_150 : decode cX8_init 150 = .ok (.aload_n 0, 1) := by decide +kernel
theorem dX8_init_151 : decode cX8_init 151 = .ok (.bipush 60, 2) := by decide +kernel
theorem dX8_init_153 : decode cX8_init 153 = .ok (.newarray .int, 2) := by decide +kernel
theorem dX8_init_155 : decode cX8_init 155 = .ok (.putfield 65, 3) := by decide +kernel
theorem dX8_init_158 : decode cX8_init 158 = .ok (.aload_n 0, 1) := by decide +kernel
theorem dX8_init_159 : decode cX8_init 159 = .ok (.bipush 60, 2) := by decide +kernel
theorem dX8_init_161 : decode cX8_init 161 = .ok (.newarray .int, 2) := by decide +kernel
theorem dX8_init_163 : decode cX8_init 163 = .ok (.putfield 68, 3) := by decide +kernel
theorem dX8_init_166 : decode cX8_init 166 = .ok (.aload_n 0, 1) := by decide +kernel
theorem dX8_init_167 : decode cX8_init 167 = .ok (.bipush 60, 2) := by decide +kernel
theorem dX8_init_169 : decode cX8_init 169 = .ok (.newarray .int, 2) := by decide +kernel
theorem dX8_init_171 : decode cX8_init 171 = .ok (.putfield 71, 3) := by decide +kernel
theorem dX8_init_174 : decode cX8_init 174 = .ok (.aload_n 0, 1) := by decide +kernel
theorem dX8_init_175 : decode cX8_init 175 = .ok (.bipush 60, 2) := by decide +kernel
theorem dX8_init_177 : decode cX8_init 177 = .ok (.newarray .int, 2) := by decide +kernel
theorem dX8_init_179 : decode cX8_init 179 = .ok (.putfield 74, 3) := by decide +kernel
theorem dX8_init_182 : decode cX8_init 182 = .ok (.aload_n 0, 1) := by decide +kernel
theorem dX8_init_183 : decode cX8_init 183 = .ok (.bipush 60, 2) := by decide +kernel
theorem dX8_init_185 : decode cX8_init 185 = .ok (.newarray .int, 2) := by decide +kernel
theorem dX8_init_187 : decode cX8_init 187 = .ok (.putfield 77, 3) := by decide +kernel
theorem dX8_init_190 : decode cX8_init 190 = .ok (.aload_n 0, 1) := by decide +kernel
theorem dX8_init_191 : decode cX8_init 191 = .ok (.bipush 48, 2) := by decide +kernel
theorem dX8_init_193 : decode cX8_init 193 = .ok (.newarray .int, 2) := by decide +kernel
theorem dX8_init_195 : decode cX8_init 195 = .ok (.putfield 80, 3) := by decide +kernel
theorem dX8_init_198 : decode cX8_init 198 = .ok (.aload_n 0, 1) := by decide +kernel
theorem dX8_init_199 : decode cX8_init 199 = .ok (.iconst 3, 1) := by decide +kernel
theorem dX8_init_200 : decode cX8_init 200 = .ok (.newarray .int, 2) := by decide +kernel
theorem dX8_init_202 : decode cX8_init 202 = .ok (.putfield 83, 3) := by decide +kernel
theorem dX8_init_205 : decode cX8_init 205 = .ok (.aload_n 0, 1) := by decide +kernel
theorem dX8_init_206 : decode cX8_init 206 = .ok (.bipush 16, 2) := by decide +kernel
theorem dX8_init_208 : decode cX8_init 208 = .ok (.newarray .boolean, 2) := by decide +kernel
theorem dX8_init_210 : decode cX8_init 210 = .ok (.putfield 86, 3) := by decide +kernel
theorem dX8_init_213 : decode cX8_init 213 = .ok (.aload_n 0, 1) := by decide +kernel
theorem dX8_init_214 : decode cX8_init 214 = .ok (.bipush 16, 2) := by decide +kernel
theorem dX8_init_216 : decode cX8_init 216 = .ok (.newarray .int, 2) := by decide +kernel
theorem dX8_init_218 : decode cX8_init 218 = .ok (.putfield 90, 3) := by decide +kernel
theorem dX8_init_221 : decode cX8_init 221 = .ok (.aload_n 0, 1) := by decide +kernel
theorem dX8_init_222 : decode cX8_init 222 = .ok (.bipush 16, 2) := by decide +kernel
theorem dX8_init_224 : decode cX8_init 224 = .ok (.newarray .int, 2) := by decide +kernel
theorem dX8_init_226 : decode cX8_init 226 = .ok (.putfield 93, 3) := by decide +kernel
theorem dX8_init_229 : decode cX8_init 229 = .ok (.aload_n 0, 1) := by decide +kernel
theorem dX8_init_230 : decode cX8_init 230 = .ok (.bipush 16, 2) := by decide +kernel
theorem dX8_init_232 : decode cX8_init 232 = .ok (.newarray .int, 2) := by decide +kernel
theorem dX8_init_234 : decode cX8_init 234 = .ok (.putfield 96, 3) := by decide +kernel
theorem dX8_init_237 : decode cX8_init 237 = .ok (.aload_n 0, 1) := by decide +kernel
theorem dX8_init_238 : decode cX8_init 238 = .ok (.bipush 16, 2) := by decide +kernel
theorem dX8_init_240 : decode cX8_init 240 = .ok (.newarray .int, 2) := by decide +kernel
theorem dX8_init_242 : decode cX8_init 242 = .ok (.putfield 99, 3) := by decide +kernel
theorem dX8_init_245 : decode cX8_init 245 = .ok (.aload_n 0, 1) := by decide +kernel
theorem dX8_init_246 : decode cX8_init 246 = .ok (.sipush 960, 3) := by decide +kernel
theorem dX8_init_249 : decode cX8_init 249 = .ok (.newarray .int, 2) := by decide +kernel
theorem dX8_init_251 : decode cX8_init 251 = .ok (.putfield 102, 3) := by decide +kernel
theorem dX8_init_254 : decode cX8_init 254 = .ok (.aload_n 0, 1) := by decide +kernel
theorem dX8_init_255 : decode cX8_init 255 = .ok (.sipush 960, 3) := by decide +kernel
theorem dX8_init_258 : decode cX8_init 258 = .ok (.newarray .int, 2) := by decide +kernel
theorem dX8_init_260 : decode cX8_init 260 = .ok (.putfield 105, 3) := by decide +kernel
theorem dX8_init_263 : decode cX8_init 263 = .ok (.aload_n 0, 1) := by decide +kernel
theorem dX8_init_264 : decode cX8_init 264 = .ok (.bipush 49, 2) := by decide +kernel
theorem dX8_init_266 : decode cX8_init 266 = .ok (.newarray .int, 2) := by decide +kernel
theorem dX8_init_268 : decode cX8_init 268 = .ok (.putfield 108, 3) := by decide +kernel
