theorem dX2_send_6 : decode cX2_send 6 = .ok (.iastore, 1) := by decide +kernel
theorem dX2_send_7 : decode cX2_send 7 = .ok (.aload_n 0, 1) := by decide +kernel
theorem dX2_send_8 : decode cX2_send 8 = .ok (.getfield 21, 3) := by decide +kernel
theorem dX2_send_11 : decode cX2_send 11 = .ok (.iload_n 2, 1) := by decide +kernel
theorem dX2_send_12 : decode cX2_send 12 = .ok (.iload_n 3, 1) := by decide +kernel
theorem dX2_send_13 : decode cX2_send 13 = .ok (.aload_n 0, 1) := by decide +kernel
theorem dX2_send_14 : decode cX2_send 14 = .ok (.getfield 44, 3) := by decide +kernel
theorem dX2_send_17 : decode cX2_send 17 = .ok (.getfield 92, 3) := by decide +kernel
theorem dX2_send_20 : decode cX2_send 20 = .ok (.iload_n 1, 1) := by decide +kernel
theorem dX2_send_21 : decode cX2_send 21 = .ok (.iaload, 1) := by decide +kernel
theorem dX2_send_22 : decode cX2_send 22 = .ok (.iadd, 1) := by decide +kernel
theorem dX2_send_23 : decode cX2_send 23 = .ok (.iconst 1, 1) := by decide +kernel
theorem dX2_send_24 : decode cX2_send 24 = .ok (.isub, 1) := by decide +kernel
theorem dX2_send_25 : decode cX2_send 25 = .ok (.iastore, 1) := by decide +kernel
theorem dX2_send_26 : decode cX2_send 26 = .ok (.aload_n 0, 1) := by decide +kernel
theorem dX2_send_27 : decode cX2_send 27 = .ok (.getfield 24, 3) := by decide +kernel
theorem dX2_send_30 : decode cX2_send 30 = .ok (.iload_n 2, 1) := by decide +kernel
theorem dX2_send_31 : decode cX2_send 31 = .ok (.iconst 0, 1) := by decide +kernel
theorem dX2_send_32 : decode cX2_send 32 = .ok (.iastore, 1) := by decide +kernel
theorem dX2_send_33 : decode cX2_send 33 = .ok (.aload_n 0, 1) := by decide +kernel
theorem dX2_send_34 : decode cX2_send 34 = .ok (.dup, 1) := by decide +kernel
theorem dX2_send_35 : decode cX2_send 35 = .ok (.getfield 58, 3) := by decide +kernel
theorem dX2_send_38 : decode cX2_send 38 = .ok (.iconst 1, 1) := by decide +kernel
theorem dX2_send_39 : decode cX2_send 39 = .ok (.iadd, 1) := by decide +kernel
theorem dX2_send_40 : decode cX2_send 40 = .ok (.putfield 58, 3) := by decide +kernel
theorem dX2_send_43 : decode cX2_send 43 = .ok (.return_, 1) := by decide +kernel
theorem dX2_outcomeNoted_0 : decode cX2_outcomeNoted 0 = .ok (.aload_n 0, 1) := by decide +kernel
theorem dX2_outcomeNoted_1 : decode cX2_outcomeNoted 1 = .ok (.getfield 27, 3) := by decide +kernel
theorem dX2_outcomeNoted_4 : decode cX2_outcomeNoted 4 = .ok (.iload_n 1, 1) := by decide +kernel
theorem dX2_outcomeNoted_5 : decode cX2_outcomeNoted 5 = .ok (.bipush 16, 2) := by decide +kernel
theorem dX2_outcomeNoted_7 : decode cX2_outcomeNoted 7 = .ok (.imul, 1) := by decide +kernel
theorem dX2_outcomeNoted_8 : decode cX2_outcomeNoted 8 = .ok (.iload_n 2, 1) := by decide +kernel
theorem dX2_outcomeNoted_9 : decode cX2_outcomeNoted 9 = .ok (.iadd, 1) := by decide +kernel
theorem dX2_outcomeNoted_10 : decode cX2_outcomeNoted 10 = .ok (.iaload, 1) := by decide +kernel
theorem dX2_outcomeNoted_11 : decode cX2_outcomeNoted 11 = .ok (.bipush 8, 2) := by decide +kernel
theorem dX2_outcomeNoted_13 : decode cX2_outcomeNoted 13 = .ok (.irem, 1) := by decide +kernel
theorem dX2_outcomeNoted_14 : decode cX2_outcomeNoted 14 = .ok (.ireturn, 1) := by decide +kernel
set_option maxRecDepth 20000 in
theorem ggX2_clockNoted_X2_outcomeNoted : GoodIn wsX2_clockNoted wsX2_outcomeNoted := goodIn_r _ [6, 1, 7, 8, 9, 10, 11, 12, 13, 14, 15, 16, 17, 18, 19, 20, 21] (by decide +kernel) (by decide +kernel)
set_option maxRecDepth 20000 in
theorem gX2_clockNoted_X2_outcomeNoted : GoodIn wsX2_clockNoted (wsV RX2 152 RX2 yX2_outcomeNoted wsX2_outcomeNoted) := goodIn_app (goodIn_of _ (by decide +kernel)) ggX2_clockNoted_X2_outcomeNoted
theorem dX2_clockNoted_0 : decode cX2_clockNoted 0 = .ok (.aload_n 0, 1) := by decide +kernel
theorem dX2_clockNoted_1 : decode cX2_clockNoted 1 = .ok (.iload_n 1, 1) := by decide +kernel
theorem dX2_clockNoted_2 : decode cX2_clockNoted 2 = .ok (.iload_n 2, 1) := by decide +kernel
theorem dX2_clockNoted_3 : decode cX2_clockNoted 3 = .ok (.invokevirtual 152, 3) := by decide +kernel
theorem dX2_clockNoted_6 : decode cX2_clockNoted 6 = .ok (.istore_n 3, 1) := by decide +kernel
theorem dX2_clockNoted_7 : decode cX2_clockNoted 7 = .ok (.iload_n 3, 1) := by decide +kernel
theorem dX2_clockNoted_8 : decode cX2_clockNoted 8 = .ok (.ifCond .eq 13, 3) := by decide +kernel
theorem dX2_clockNoted_11 : decode cX2_clockNoted 11 = .ok (.iload_n 3, 1) := by decide +kernel
theorem dX2_clockNoted_12 : decode cX2_clockNoted 12 = .ok (.bipush 6, 2) := by decide +kernel
theorem dX2_clockNoted_14 : decode cX2_clockNoted 14 = .ok (.if_icmp .eq 7, 3) := by decide +kernel
theorem dX2_clockNoted_17 : decode cX2_clockNoted 17 = .ok (.iconst 1, 1) := by decide +kernel
theorem dX2_clockNoted_18 : decode cX2_clockNoted 18 = .ok (.goto 4, 3) := by decide +kernel
theorem dX2_clockNoted_21 : decode cX2_clockNoted 21 = .ok (.iconst 0, 1) := by decide +kernel
theorem dX2_clockNoted_22 : decode cX2_clockNoted 22 = .ok (.istore 4, 2) := by decide +kernel
theorem dX2_clockNoted_24 : decode cX2_clockNoted 24 = .ok (.iload 4, 2) := by decide +kernel
theorem dX2_clockNoted_26 : decode cX2_clockNoted 26 = .ok (.ifCond .eq 20, 3) := by decide +kernel
theorem dX2_clockNoted_29 : decode cX2_clockNoted 29 = .ok (.aload_n 0, 1) := by decide +kernel
theorem dX2_clockNoted_30 : decode cX2_clockNoted 30 = .ok (.getfield 27, 3) := by decide +kernel
theorem dX2_clockNoted_33 : decode cX2_clockNoted 33 = .ok (.iload_n 1, 1) := by decide +kernel
theorem dX2_clockNoted_34 : decode cX2_clockNoted 34 = .ok (.bipush 16, 2) := by decide +kernel
theorem dX2_clockNoted_36 : decode cX2_clockNoted 36 = .ok (.imul, 1) := by decide +kernel
theorem dX2_clockNoted_37 : decode cX2_clockNoted 37 = .ok (.iload_n 2, 1) := by decide +kernel
theorem dX2_clockNoted_38 : decode cX2_clockNoted 38 = .ok (.iadd, 1) := by decide +kernel
theorem dX2_clockNoted_39 : decode cX2_clockNoted 39 = .ok (.iaload, 1) := by decide +kernel
theorem dX2_clockNoted_40 : decode cX2_clockNoted 40 = .ok (.bipush 8, 2) := by decide +kernel
theorem dX2_clockNoted_42 : decode cX2_clockNoted 42 = .ok (.idiv, 1) := by decide +kernel
theorem dX2_clockNoted_43 : decode cX2_clockNoted 43 = .ok (.goto 4, 3) := by decide +kernel
theorem dX2_clockNoted_46 : decode cX2_clockNoted 46 = .ok (.iconst (-1), 1) := by decide +kernel
theorem dX2_clockNoted_47 : decode cX2_clockNoted 47 = .ok (.ireturn, 1) := by decide +kernel
set_option maxRecDepth 20000 in
theorem ggX2_wasSent_X2_outcomeNoted : GoodIn wsX2_wasSent wsX2_outcomeNoted := goodIn_r _ [5, 6, 7, 8, 9, 10, 11, 12, 13, 14, 15, 16, 17, 18, 19, 20, 21] (by decide +kernel) (by decide +kernel)
set_option maxRecDepth 20000 in
theorem gX2_wasSent_X2_outcomeNoted : GoodIn wsX2_wasSent (wsV RX2 152 RX2 yX2_outcomeNoted wsX2_outcomeNoted) := goodIn_app (goodIn_of _ (by decide +kernel)) ggX2_wasSent_X2_outcomeNoted
theorem dX2_wasSent_0 : decode cX2_wasSent 0 = .ok (.aload_n 0, 1) := by decide +kernel
theorem dX2_wasSent_1 : decode cX2_wasSent 1 = .ok (.iload_n 1, 1) := by decide +kernel
theorem dX2_wasSent_2 : decode cX2_wasSent 2 = .ok (.iload_n 2, 1) := by decide +kernel
theorem dX2_wasSent_3 : decode cX2_wasSent 3 = .ok (.invokevirtual 152, 3) := by decide +kernel
theorem dX2_wasSent_6 : decode cX2_wasSent 6 = .ok (.iconst 5, 1) := by decide +kernel
theorem dX2_wasSent_7 : decode cX2_wasSent 7 = .ok (.if_icmp .ne 7, 3) := by decide +kernel
theorem dX2_wasSent_10 : decode cX2_wasSent 10 = .ok (.iconst 1, 1) := by decide +kernel
theorem dX2_wasSent_11 : decode cX2_wasSent 11 = .ok (.goto 4, 3) := by decide +kernel
theorem dX2_wasSent_14 : decode cX2_wasSent 14 = .ok (.iconst 0, 1) := by decide +kernel
theorem dX2_wasSent_15 : decode cX2_wasSent 15 = .ok (.ireturn, 1) := by decide +kernel
theorem dX2_freeOnList_0 : decode cX2_freeOnList 0 = .ok (.iload_n 2, 1) := by decide +kernel
theorem dX2_freeOnList_1 : decode cX2_freeOnList 1 = .ok (.istore_n 3, 1) := by decide +kernel
theorem dX2_freeOnList_2 : decode cX2_freeOnList 2 = .ok (.iconst 0, 1) := by decide +kernel
theorem dX2_freeOnList_3 : decode cX2_freeOnList 3 = .ok (.istore 4, 2) := by decide +kernel
theorem dX2_freeOnList_5 : decode cX2_freeOnList 5 = .ok (.iload 4, 2) := by decide +kernel
theorem dX2_freeOnList_7 : decode cX2_freeOnList 7 = .ok (.aload_n 0, 1) := by decide +kernel
theorem dX2_freeOnList_8 : decode cX2_freeOnList 8 = .ok (.getfield 15, 3) := by decide +kernel
theorem dX2_freeOnList_11 : decode cX2_freeOnList 11 = .ok (.iload_n 1, 1) := by decide +kernel
theorem dX2_freeOnList_12 : decode cX2_freeOnList 12 = .ok (.iaload, 1) := by decide +kernel
theorem dX2_freeOnList_13 : decode cX2_freeOnList 13 = .ok (.if_icmp .ge 44, 3) := by decide +kernel
theorem dX2_freeOnList_16 : decode cX2_freeOnList 16 = .ok (.aload_n 0, 1) := by decide +kernel
theorem dX2_freeOnList_17 : decode cX2_freeOnList 17 = .ok (.getfield 9, 3) := by decide +kernel
theorem dX2_freeOnList_20 : decode cX2_freeOnList 20 = .ok (.iload_n 1, 1) := by decide +kernel
theorem dX2_freeOnList_21 : decode cX2_freeOnList 21 = .ok (.bipush 16, 2) := by decide +kernel
theorem dX2_freeOnList_23 : decode cX2_freeOnList 23 = .ok (.imul, 1) := by decide +kernel
theorem dX2_freeOnList_24 : decode cX2_freeOnList 24 = .ok (.iload 4, 2) := by decide +kernel
theorem dX2_freeOnList_26 : decode cX2_freeOnList 26 = .ok (.iadd, 1) := by decide +kernel
theorem dX2_freeOnList_27 : decode cX2_freeOnList 27 = .ok (.iaload, 1) := by decide +kernel
theorem dX2_freeOnList_28 : decode cX2_freeOnList 28 = .ok (.istore 5, 2) := by decide +kernel
theorem dX2_freeOnList_30 : decode cX2_freeOnList 30 = .ok (.aload_n 0, 1) := by decide +kernel
theorem dX2_freeOnList_31 : decode cX2_freeOnList 31 = .ok (.getfield 18, 3) := by decide +kernel
theorem dX2_freeOnList_34 : decode cX2_freeOnList 34 = .ok (.iload 5, 2) := by decide +kernel
theorem dX2_freeOnList_36 : decode cX2_freeOnList 36 = .ok (.iaload, 1) := by decide +kernel
theorem dX2_freeOnList_37 : decode cX2_freeOnList 37 = .ok (.iconst (-1), 1) := by decide +kernel
theorem dX2_freeOnList_38 : decode cX2_freeOnList 38 = .ok (.if_icmp .ne 13, 3) := by decide +kernel
theorem dX2_freeOnList_41 : decode cX2_freeOnList 41 = .ok (.iload_n 3, 1) := by decide +kernel
theorem dX2_freeOnList_42 : decode cX2_freeOnList 42 = .ok (.ifCond .ne 6, 3) := by decide +kernel
theorem dX2_freeOnList_45 : decode cX2_freeOnList 45 = .ok (.iload 5, 2) := by decide +kernel
theorem dX2_freeOnList_47 : decode cX2_freeOnList 47 = .ok (.ireturn, 1) := by decide +kernel
theorem dX2_freeOnList_48 : decode cX2_freeOnList 48 = .ok (.iinc 3 (-1), 3) := by decide +kernel
theorem dX2_freeOnList_51 : decode cX2_freeOnList 51 = .ok (.iinc 4 1, 3) := by decide +kernel
theorem dX2_freeOnList_54 : decode cX2_freeOnList 54 = .ok (.goto (-49), 3) := by decide +kernel
theorem dX2_freeOnList_57 : decode cX2_freeOnList 57 = .ok (.iconst (-1), 1) := by decide +kernel
theorem dX2_freeOnList_58 : decode cX2_freeOnList 58 = .ok (.ireturn, 1) := by decide +kernel
theorem dX3_init_0 : decode cX3_init 0 = .ok (.aload_n 0, 1) := by decide +kernel
theorem dX3_init_1 : decode cX3_init 1 = .ok (.invokespecial 3, 3) := by decide +kernel
theorem dX3_init_4 : decode cX3_init 4 = .ok (.aload_n 0, 1) := by decide +kernel
theorem dX3_init_5 : decode cX3_init 5 = .ok (.bipush 8, 2) := by decide +kernel
theorem dX3_init_7 : decode cX3_init 7 = .ok (.newarray .int, 2) := by decide +kernel
theorem dX3_init_9 : decode cX3_init 9 = .ok (.putfield 9, 3) := by decide +kernel
theorem dX3_init_12 : decode cX3_init 12 = .ok (.aload_n 0, 1) := by decide +kernel
theorem dX3_init_13 : decode cX3_init 13 = .ok (.iconst 0, 1) := by decide +kernel
theorem dX3_init_14 : decode cX3_init 14 = .ok (.putfield 15, 3) := by decide +kernel
theorem dX3_init_17 : decode cX3_init 17 = .ok (.aload_n 0, 1) := by decide +kernel
theorem dX3_init_18 : decode cX3_init 18 = .ok (.iconst (-1), 1) := by decide +kernel
theorem dX3_init_19 : decode cX3_init 19 = .ok (.putfield 19, 3) := by decide +kernel
theorem dX3_init_22 : decode cX3_init 22 = .ok (.aload_n 0, 1) := by decide +kernel
theorem dX3_init_23 : decode cX3_init 23 = .ok (.aload_n 1, 1) := by decide +kernel
theorem dX3_init_24 : decode cX3_init 24 = .ok (.putfield 22, 3) := by decide +kernel
theorem dX3_init_27 : decode cX3_init 27 = .ok (.return_, 1) := by decide +kernel
set_option maxRecDepth 20000 in
theorem ggX3_read_J7_fill_53178 : GoodIn wsX3_read wsJ7_fill_53178 := goodIn_r _ [11] (by decide +kernel) (by decide +kernel)
set_option maxRecDepth 20000 in
theorem gX3_read_J7_fill_53178 : GoodIn wsX3_read (va_wsS RX3 26 yJ7_fill_53178 wsJ7_fill_53178) := goodIn_app (goodIn_of _ (by decide +kernel)) ggX3_read_J7_fill_53178
set_option maxRecDepth 20000 in
theorem ggX3_read_X3_nextToken : GoodIn wsX3_read wsX3_nextToken := goodIn_r _ [16, 6, 5, 17, 18, 7, 19, 20, 21, 22, 23, 24, 25, 26, 15, 27, 28, 29, 30, 31, 32, 33, 34, 35, 36, 37, 38, 39, 40, 41, 42, 43, 44, 45, 46, 47, 48, 49, 50, 51, 52, 53, 54, 55, 56, 57, 58, 59, 60, 61, 62, 63, 64, 65, 66, 67, 68, 69, 70, 71, 72, 73, 74, 75, 76, 77, 78, 79, 80, 81, 82, 83, 84, 85, 86, 87, 88, 89, 90, 91, 92, 93, 94, 95, 96, 97, 98, 118, 119, 120, 121, 122, 123, 124, 125, 126, 127, 128, 129] (by decide +kernel) (by decide +kernel)
set_option maxRecDepth 20000 in
theorem gX3_read_X3_nextToken : GoodIn wsX3_read (wsV RX3 41 RX3 yX3_nextToken wsX3_nextToken) := goodIn_app (goodIn_of _ (by decide +kernel)) ggX3_read_X3_nextToken
set_option maxRecDepth 20000 in
theorem ggX3_read_X3_readLine : GoodIn wsX3_read wsX3_readLine := goodIn_r _ [102, 18, 35, 1, 2, 103, 104, 105, 15, 106, 7, 107, 108, 109, 110, 3, 4, 12, 13, 14, 16, 6, 5, 17, 19, 20, 21, 22, 23, 24, 25, 26, 27, 28, 29, 30, 31, 32, 33, 34, 36, 37, 38, 39, 40, 41, 42, 43, 44, 45, 46, 47, 48, 49, 50, 51, 52, 53, 54, 55, 56, 57, 58, 59, 60, 61, 62, 63, 64, 65, 66, 67, 68, 69, 70, 71, 72, 73, 74, 75, 76, 77, 78, 79, 80, 81, 82, 83, 84, 85, 86, 87, 88, 89, 90, 91, 92, 93, 94, 95, 96, 97, 98, 111, 112, 113, 114, 115, 116, 117, 118, 119, 120, 121, 122, 123, 124, 125, 126, 127, 128, 129] (by decide +kernel) (by decide +kernel)
set_option maxRecDepth 20000 in
theorem gX3_read_X3_readLine : GoodIn wsX3_read (wsV RX3 47 RX3 yX3_readLine wsX3_readLine) := goodIn_app (goodIn_of _ (by decide +kernel)) ggX3_read_X3_readLine
theorem dX3_read_0 : decode cX3_read 0 = .ok (.aload_n 0, 1) := by decide +kernel
theorem dX3_read_1 : decode cX3_read 1 = .ok (.getfield 9, 3) := by decide +kernel
theorem dX3_read_4 : decode cX3_read 4 = .ok (.iconst (-1), 1) := by decide +kernel
theorem dX3_read_5 : decode cX3_read 5 = .ok (.invokestatic 26, 3) := by decide +kernel
theorem dX3_read_8 : decode cX3_read 8 = .ok (.aload_n 0, 1) := by decide +kernel
theorem dX3_read_9 : decode cX3_read 9 = .ok (.iconst 0, 1) := by decide +kernel
theorem dX3_read_10 : decode cX3_read 10 = .ok (.putfield 32, 3) := by decide +kernel
theorem dX3_read_13 : decode cX3_read 13 = .ok (.aload_n 0, 1) := by decide +kernel
theorem dX3_read_14 : decode cX3_read 14 = .ok (.iconst 0, 1) := by decide +kernel
theorem dX3_read_15 : decode cX3_read 15 = .ok (.putfield 15, 3) := by decide +kernel
theorem dX3_read_18 : decode cX3_read 18 = .ok (.aload_n 0, 1) := by decide +kernel
theorem dX3_read_19 : decode cX3_read 19 = .ok (.iconst (-1), 1) := by decide +kernel
theorem dX3_read_20 : decode cX3_read 20 = .ok (.putfield 19, 3) := by decide +kernel
theorem dX3_read_23 : decode cX3_read 23 = .ok (.aload_n 0, 1) := by decide +kernel
theorem dX3_read_24 : decode cX3_read 24 = .ok (.iload_n 1, 1) := by decide +kernel
theorem dX3_read_25 : decode cX3_read 25 = .ok (.putfield 35, 3) := by decide +kernel
theorem dX3_read_28 : decode cX3_read 28 = .ok (.aload_n 0, 1) := by decide +kernel
theorem dX3_read_29 : decode cX3_read 29 = .ok (.iconst 0, 1) := by decide +kernel
theorem dX3_read_30 : decode cX3_read 30 = .ok (.putfield 38, 3) := by decide +kernel
theorem dX3_read_33 : decode cX3_read 33 = .ok (.aload_n 0, 1) := by decide +kernel
theorem dX3_read_34 : decode cX3_read 34 = .ok (.invokevirtual 41, 3) := by decide +kernel
theorem dX3_read_37 : decode cX3_read 37 = .ok (.iconst 0, 1) := by decide +kernel
theorem dX3_read_38 : decode cX3_read 38 = .ok (.istore_n 2, 1) := by decide +kernel
theorem dX3_read_39 : decode cX3_read 39 = .ok (.iload_n 2, 1) := by decide +kernel
theorem dX3_read_40 : decode cX3_read 40 = .ok (.aload_n 0, 1) := by decide +kernel
theorem dX3_read_41 : decode cX3_read 41 = .ok (.getfield 35, 3) := by decide +kernel
theorem dX3_read_44 : decode cX3_read 44 = .ok (.if_icmp .ge 27, 3) := by decide +kernel
theorem dX3_read_47 : decode cX3_read 47 = .ok (.aload_n 0, 1) := by decide +kernel
theorem dX3_read_48 : decode cX3_read 48 = .ok (.getfield 44, 3) := by decide +kernel
theorem dX3_read_51 : decode cX3_read 51 = .ok (.ifCond .eq 20, 3) := by decide +kernel
theorem dX3_read_54 : decode cX3_read 54 = .ok (.aload_n 0, 1) := by decide +kernel
theorem dX3_read_55 : decode cX3_read 55 = .ok (.getfield 15, 3) := by decide +kernel
theorem dX3_read_58 : decode cX3_read 58 = .ok (.ifCond .ne 13, 3) := by decide +kernel
theorem dX3_read_61 : decode cX3_read 61 = .ok (.aload_n 0, 1) := by decide +kernel
theorem dX3_read_62 : decode cX3_read 62 = .ok (.invokevirtual 47, 3) := by decide +kernel
theorem dX3_read_65 : decode cX3_read 65 = .ok (.iinc 2 1, 3) := by decide +kernel
theorem dX3_read_68 : decode cX3_read 68 = .ok (.goto (-29), 3) := by decide +kernel
theorem dX3_read_71 : decode cX3_read 71 = .ok (.return_, 1) := by decide +kernel
set_option maxRecDepth 20000 in
theorem ggX3_readLine_X3_isKind : GoodIn wsX3_readLine wsX3_isKind := goodIn_r _ [9, 10, 1, 11, 12, 13, 8, 14, 15, 16, 110, 111, 112, 113, 114, 115, 116, 117, 118, 119] (by decide +kernel) (by decide +kernel)
set_option maxRecDepth 20000 in
theorem gX3_readLine_X3_isKind : GoodIn wsX3_readLine (wsV RX3 53 RX3 yX3_isKind wsX3_isKind) := goodIn_app (goodIn_of _ (by decide +kernel)) ggX3_readLine_X3_isKind
set_option maxRecDepth 20000 in
theorem ggX3_readLine_X3_nextToken : GoodIn wsX3_readLine wsX3_nextToken := goodIn_r _ [20, 21, 22, 23, 1, 10, 24, 25, 26, 27, 28, 29, 30, 31, 8, 32, 33, 34, 35, 36, 37, 38, 39, 2, 40, 41, 42, 43, 44, 45, 46, 47, 48, 49, 50, 51, 52, 53, 54, 55, 56, 57, 58, 59, 60, 61, 62, 63, 64, 65, 66, 67, 68, 69, 70, 71, 72, 73, 74, 75, 76, 77, 78, 79, 80, 81, 82, 83, 84, 85, 86, 87, 88, 89, 90, 91, 92, 93, 94, 95, 96, 97, 98, 99, 100, 101, 102, 110, 111, 112, 113, 114, 115, 116, 117, 118, 119, 120, 121] (by decide +kernel) (by decide +kernel)
set_option maxRecDepth 20000 in
theorem gX3_readLine_X3_nextToken : GoodIn wsX3_readLine (wsV RX3 41 RX3 yX3_nextToken wsX3_nextToken) := goodIn_app (goodIn_of _ (by decide +kernel)) ggX3_readLine_X3_nextToken
set_option maxRecDepth 20000 in
theorem ggX3_readLine_X3_isNumberUpTo : GoodIn wsX3_readLine wsX3_isNumberUpTo := goodIn_r _ [106, 2, 1, 5, 6, 7, 8, 9, 10, 11, 12, 13, 14, 15, 16, 110, 111, 112, 113, 114, 115, 116, 117, 118, 119] (by decide +kernel) (by decide +kernel)
set_option maxRecDepth 20000 in
theorem gX3_readLine_X3_isNumberUpTo : GoodIn wsX3_readLine (wsV RX3 60 RX3 yX3_isNumberUpTo wsX3_isNumberUpTo) := goodIn_app (goodIn_of _ (by decide +kernel)) ggX3_readLine_X3_isNumberUpTo
set_option maxRecDepth 20000 in
theorem ggX3_readLine_X3_mostOf : GoodIn wsX3_readLine wsX3_mostOf := goodIn_r _ [109] (by decide +kernel) (by decide +kernel)
set_option maxRecDepth 20000 in
theorem gX3_readLine_X3_mostOf : GoodIn wsX3_readLine (va_wsS RX3 63 yX3_mostOf wsX3_mostOf) := goodIn_app (goodIn_of _ (by decide +kernel)) ggX3_readLine_X3_mostOf
set_option maxRecDepth 20000 in
theorem ggX3_readLine_X3_setFault : GoodIn wsX3_readLine wsX3_setFault := goodIn_r _ [14, 15, 16, 110, 111, 112, 113, 114, 115, 116, 117, 118, 119] (by decide +kernel) (by decide +kernel)
set_option maxRecDepth 20000 in
theorem gX3_readLine_X3_setFault : GoodIn wsX3_readLine (wsV RX3 67 RX3 yX3_setFault wsX3_setFault) := goodIn_app (goodIn_of _ (by decide +kernel)) ggX3_readLine_X3_setFault
theorem dX3_readLine_0 : decode cX3_readLine 0 = .ok (.aload_n 0, 1) := by decide +kernel
theorem dX3_readLine_1 : decode cX3_readLine 1 = .ok (.getfield 50, 3) := by decide +kernel
theorem dX3_readLine_4 : decode cX3_readLine 4 = .ok (.istore_n 1, 1) := by decide +kernel
theorem dX3_readLine_5 : decode cX3_readLine 5 = .ok (.aload_n 0, 1) := by decide +kernel
theorem dX3_readLine_6 : decode cX3_readLine 6 = .ok (.iconst 1, 1) := by decide +kernel
theorem dX3_readLine_7 : decode cX3_readLine 7 = .ok (.invokevirtual 53, 3) := by decide +kernel
theorem dX3_readLine_10 : decode cX3_readLine 10 = .ok (.ifCond .ne 4, 3) := by decide +kernel
theorem dX3_readLine_13 : decode cX3_readLine 13 = .ok (.return_, 1) := by decide +kernel
theorem dX3_readLine_14 : decode cX3_readLine 14 = .ok (.aload_n 0, 1) := by decide +kernel
theorem dX3_readLine_15 : decode cX3_readLine 15 = .ok (.getfield 57, 3) := by decide +kernel
theorem dX3_readLine_18 : decode cX3_readLine 18 = .ok (.istore_n 2, 1) := by decide +kernel
theorem dX3_readLine_19 : decode cX3_readLine 19 = .ok (.aload_n 0, 1) := by decide +kernel
theorem dX3_readLine_20 : decode cX3_readLine 20 = .ok (.invokevirtual 41, 3) := by decide +kernel
theorem dX3_readLine_23 : decode cX3_readLine 23 = .ok (.iload_n 2, 1) := by decide +kernel
theorem dX3_readLine_24 : decode cX3_readLine 24 = .ok (.iconst 5, 1) := by decide +kernel
theorem dX3_readLine_25 : decode cX3_readLine 25 = .ok (.if_icmp .ne 23, 3) := by decide +kernel
theorem dX3_readLine_28 : decode cX3_readLine 28 = .ok (.aload_n 0, 1) := by decide +kernel
theorem dX3_readLine_29 : decode cX3_readLine 29 = .ok (.iconst 2, 1) := by decide +kernel
theorem dX3_readLine_30 : decode cX3_readLine 30 = .ok (.invokevirtual 60, 3) := by decide +kernel
theorem dX3_readLine_33 : decode cX3_readLine 33 = .ok (.ifCond .ne 4, 3) := by decide +kernel
theorem dX3_readLine_36 : decode cX3_readLine 36 = .ok (.return_, 1) := by decide +kernel
theorem dX3_readLine_37 : decode cX3_readLine 37 = .ok (.iconst 5, 1) := by decide +kernel
theorem dX3_readLine_38 : decode cX3_readLine 38 = .ok (.aload_n 0, 1) := by decide +kernel
theorem dX3_readLine_39 : decode cX3_readLine 39 = .ok (.getfield 57, 3) := by decide +kernel
theorem dX3_readLine_42 : decode cX3_readLine 42 = .ok (.iadd, 1) := by decide +kernel
theorem dX3_readLine_43 : decode cX3_readLine 43 = .ok (.istore_n 2, 1) := by decide +kernel
theorem dX3_readLine_44 : decode cX3_readLine 44 = .ok (.aload_n 0, 1) := by decide +kernel
theorem dX3_readLine_45 : decode cX3_readLine 45 = .ok (.invokevirtual 41, 3) := by decide +kernel
theorem dX3_readLine_48 : decode cX3_readLine 48 = .ok (.aload_n 0, 1) := by decide +kernel
theorem dX3_readLine_49 : decode cX3_readLine 49 = .ok (.iload_n 2, 1) := by decide +kernel
theorem dX3_readLine_50 : decode cX3_readLine 50 = .ok (.invokestatic 63, 3) := by decide +kernel
theorem dX3_readLine_53 : decode cX3_readLine 53 = .ok (.invokevirtual 60, 3) := by decide +kernel
theorem dX3_readLine_56 : decode cX3_readLine 56 = .ok (.ifCond .ne 4, 3) := by decide +kernel
theorem dX3_readLine_59 : decode cX3_readLine 59 = .ok (.return_, 1) := by decide +kernel
theorem dX3_readLine_60 : decode cX3_readLine 60 = .ok (.aload_n 0, 1) := by decide +kernel
theorem dX3_readLine_61 : decode cX3_readLine 61 = .ok (.getfield 9, 3) := by decide +kernel
theorem dX3_readLine_64 : decode cX3_readLine 64 = .ok (.iload_n 2, 1) := by decide +kernel
theorem dX3_readLine_65 : decode cX3_readLine 65 = .ok (.iaload, 1) := by decide +kernel
theorem dX3_readLine_66 : decode cX3_readLine 66 = .ok (.iconst (-1), 1) := by decide +kernel
theorem dX3_readLine_67 : decode cX3_readLine 67 = .ok (.if_icmp .eq 10, 3) := by decide +kernel
theorem dX3_readLine_70 : decode cX3_readLine 70 = .ok (.aload_n 0, 1) := by decide +kernel
theorem dX3_readLine_71 : decode cX3_readLine 71 = .ok (.iconst 3, 1) := by decide +kernel
theorem dX3_readLine_72 : decode cX3_readLine 72 = .ok (.iload_n 1, 1) := by decide +kernel
theorem dX3_readLine_73 : decode cX3_readLine 73 = .ok (.invokevirtual 67, 3) := by decide +kernel
theorem dX3_readLine_76 : decode cX3_readLine 76 = .ok (.return_, 1) := by decide +kernel
theorem dX3_readLine_77 : decode cX3_readLine 77 = .ok (.aload_n 0, 1) := by decide +kernel
theorem dX3_readLine_78 : decode cX3_readLine 78 = .ok (.getfield 9, 3) := by decide +kernel
theorem dX3_readLine_81 : decode cX3_readLine 81 = .ok (.iload_n 2, 1) := by decide +kernel
theorem dX3_readLine_82 : decode cX3_readLine 82 = .ok (.aload_n 0, 1) := by decide +kernel
theorem dX3_readLine_83 : decode cX3_readLine 83 = .ok (.getfield 57, 3) := by decide +kernel
theorem dX3_readLine_86 : decode cX3_readLine 86 = .ok (.iastore, 1) := by decide +kernel
theorem dX3_readLine_87 : decode cX3_readLine 87 = .ok (.aload_n 0, 1) := by decide +kernel
theorem dX3_readLine_88 : decode cX3_readLine 88 = .ok (.dup, 1) := by decide +kernel
theorem dX3_readLine_89 : decode cX3_readLine 89 = .ok (.getfield 32, 3) := by decide +kernel
theorem dX3_readLine_92 : decode cX3_readLine 92 = .ok (.iconst 1, 1) := by decide +kernel
theorem dX3_readLine_93 : decode cX3_readLine 93 = .ok (.iadd, 1) := by decide +kernel
theorem dX3_readLine_94 : decode cX3_readLine 94 = .ok (.putfield 32, 3) := by decide +kernel
theorem dX3_readLine_97 : decode cX3_readLine 97 = .ok (.aload_n 0, 1) := by decide +kernel
theorem dX3_readLine_98 : decode cX3_readLine 98 = .ok (.invokevirtual 41, 3) := by decide +kernel
theorem dX3_readLine_101 : decode cX3_readLine 101 = .ok (.aload_n 0, 1) := by decide +kernel
theorem dX3_readLine_102 : decode cX3_readLine 102 = .ok (.iconst 3, 1) := by decide +kernel
theorem dX3_readLine_103 : decode cX3_readLine 103 = .ok (.invokevirtual 53, 3) := by decide +kernel
theorem dX3_readLine_106 : decode cX3_readLine 106 = .ok (.ifCond .eq 7, 3) := by decide +kernel
theorem dX3_readLine_109 : decode cX3_readLine 109 = .ok (.aload_n 0, 1) := by decide +kernel
theorem dX3_readLine_110 : decode cX3_readLine 110 = .ok (.invokevirtual 41, 3) := by decide +kernel
theorem dX3_readLine_113 : decode cX3_readLine 113 = .ok (.return_, 1) := by decide +kernel
set_option maxRecDepth 20000 in
theorem ggX3_isKind_X3_setFault : GoodIn wsX3_isKind wsX3_setFault := goodIn_r _ [7, 8, 9, 10, 11, 12, 13, 14, 15, 16, 17, 18, 19] (by decide +kernel) (by decide +kernel)
set_option maxRecDepth 20000 in
theorem gX3_isKind_X3_setFault : GoodIn wsX3_isKind (wsV RX3 67 RX3 yX3_setFault wsX3_setFault) := goodIn_app (goodIn_of _ (by decide +kernel)) ggX3_isKind_X3_setFault
theorem dX3_isKind_0 : decode cX3_isKind 0 = .ok (.aload_n 0, 1) := by decide +kernel
theorem dX3_isKind_1 : decode cX3_isKind 1 = .ok (.getfield 44, 3) := by decide +kernel
theorem dX3_isKind_4 : decode cX3_isKind 4 = .ok (.iload_n 1, 1) := by decide +kernel
theorem dX3_isKind_5 : decode cX3_isKind 5 = .ok (.if_icmp .eq 14, 3) := by decide +kernel
theorem dX3_isKind_8 : decode cX3_isKind 8 = .ok (.aload_n 0, 1) := by decide +kernel
theorem dX3_isKind_9 : decode cX3_isKind 9 = .ok (.iconst 1, 1) := by decide +kernel
theorem dX3_isKind_10 : decode cX3_isKind 10 = .ok (.aload_n 0, 1) := by decide +kernel
theorem dX3_isKind_11 : decode cX3_isKind 11 = .ok (.getfield 50, 3) := by decide +kernel
theorem dX3_isKind_14 : decode cX3_isKind 14 = .ok (.invokevirtual 67, 3) := by decide +kernel
theorem dX3_isKind_17 : decode cX3_isKind 17 = .ok (.iconst 0, 1) := by decide +kernel
theorem dX3_isKind_18 : decode cX3_isKind 18 = .ok (.ireturn, 1) := by decide +kernel
theorem dX3_isKind_19 : decode cX3_isKind 19 = .ok (.iconst 1, 1) := by decide +kernel
theorem dX3_isKind_20 : decode cX3_isKind 20 = .ok (.ireturn, 1) := by decide +kernel
set_option maxRecDepth 20000 in
theorem ggX3_isNumberUpTo_X3_isKind : GoodIn wsX3_isNumberUpTo wsX3_isKind := goodIn_r _ [7, 8, 2, 9, 10, 11, 6, 12, 13, 14, 15, 16, 17, 18, 19, 20, 21, 22, 23, 24] (by decide +kernel) (by decide +kernel)
set_option maxRecDepth 20000 in
theorem gX3_isNumberUpTo_X3_isKind : GoodIn wsX3_isNumberUpTo (wsV RX3 53 RX3 yX3_isKind wsX3_isKind) := goodIn_app (goodIn_of _ (by decide +kernel)) ggX3_isNumberUpTo_X3_isKind
set_option maxRecDepth 20000 in
theorem ggX3_isNumberUpTo_X3_setFault : GoodIn wsX3_isNumberUpTo wsX3_setFault := goodIn_r _ [12, 13, 14, 15, 16, 17, 18, 19, 20, 21, 22, 23, 24] (by decide +kernel) (by decide +kernel)
set_option maxRecDepth 20000 in
theorem gX3_isNumberUpTo_X3_setFault : GoodIn wsX3_isNumberUpTo (wsV RX3 67 RX3 yX3_setFault wsX3_setFault) := goodIn_app (goodIn_of _ (by decide +kernel)) ggX3_isNumberUpTo_X3_setFault
theorem dX3_isNumberUpTo_0 : decode cX3_isNumberUpTo 0 = .ok (.aload_n 0, 1) := by decide +kernel
theorem dX3_isNumberUpTo_1 : decode cX3_isNumberUpTo 1 = .ok (.iconst 2, 1) := by decide +kernel
theorem dX3_isNumberUpTo_2 : decode cX3_isNumberUpTo 2 = .ok (.invokevirtual 53, 3) := by decide +kernel
theorem dX3_isNumberUpTo_5 : decode cX3_isNumberUpTo 5 = .ok (.ifCond .ne 5, 3) := by decide +kernel
theorem dX3_isNumberUpTo_8 : decode cX3_isNumberUpTo 8 = .ok (.iconst 0, 1) := by decide +kernel
theorem dX3_isNumberUpTo_9 : decode cX3_isNumberUpTo 9 = .ok (.ireturn, 1) := by decide +kernel
theorem dX3_isNumberUpTo_10 : decode cX3_isNumberUpTo 10 = .ok (.aload_n 0, 1) := by decide +kernel
theorem dX3_isNumberUpTo_11 : decode cX3_isNumberUpTo 11 = .ok (.getfield 57, 3) := by decide +kernel
theorem dX3_isNumberUpTo_14 : decode cX3_isNumberUpTo 14 = .ok (.iload_n 1, 1) := by decide +kernel
theorem dX3_isNumberUpTo_15 : decode cX3_isNumberUpTo 15 = .ok (.if_icmp .le 14, 3) := by decide +kernel
theorem dX3_isNumberUpTo_18 : decode cX3_isNumberUpTo 18 = .ok (.aload_n 0, 1) := by decide +kernel
theorem dX3_isNumberUpTo_19 : decode cX3_isNumberUpTo 19 = .ok (.iconst 2, 1) := by decide +kernel
theorem dX3_isNumberUpTo_20 : decode cX3_isNumberUpTo 20 = .ok (.aload_n 0, 1) := by decide +kernel
theorem dX3_isNumberUpTo_21 : decode cX3_isNumberUpTo 21 = .ok (.getfield 50, 3) := by decide +kernel
theorem dX3_isNumberUpTo_24 : decode cX3_isNumberUpTo 24 = .ok (.invokevirtual 67, 3) := by decide +kernel
theorem dX3_isNumberUpTo_27 : decode cX3_isNumberUpTo 27 = .ok (.iconst 0, 1) := by decide +kernel
theorem dX3_isNumberUpTo_28 : decode cX3_isNumberUpTo 28 = .ok (.ireturn, 1) := by decide +kernel
theorem dX3_isNumberUpTo_29 : decode cX3_isNumberUpTo 29 = .ok (.iconst 1, 1) := by decide +kernel
theorem dX3_isNumberUpTo_30 : decode cX3_isNumberUpTo 30 = .ok (.ireturn, 1) := by decide +kernel
theorem dX3_setFault_0 : decode cX3_setFault 0 = .ok (.aload_n 0, 1) := by decide +kernel
theorem dX3_setFault_1 : decode cX3_setFault 1 = .ok (.iload_n 1, 1) := by decide +kernel
theorem dX3_setFault_2 : decode cX3_setFault 2 = .ok (.putfield 15, 3) := by decide +kernel
theorem dX3_setFault_5 : decode cX3_setFault 5 = .ok (.aload_n 0, 1) := by decide +kernel
theorem dX3_setFault_6 : decode cX3_setFault 6 = .ok (.iload_n 2, 1) := by decide +kernel
theorem dX3_setFault_7 : decode cX3_setFault 7 = .ok (.putfield 19, 3) := by decide +kernel
theorem dX3_setFault_10 : decode cX3_setFault 10 = .ok (.return_, 1) := by decide +kernel
theorem dX3_mostOf_0 : decode cX3_mostOf 0 = .ok (.iload_n 0, 1) := by decide +kernel
theorem dX3_mostOf_1 : decode cX3_mostOf 1 = .ok (.iconst 3, 1) := by decide +kernel
theorem dX3_mostOf_2 : decode cX3_mostOf 2 = .ok (.if_icmp .eq 8, 3) := by decide +kernel
theorem dX3_mostOf_5 : decode cX3_mostOf 5 = .ok (.iload_n 0, 1) := by decide +kernel
theorem dX3_mostOf_6 : decode cX3_mostOf 6 = .ok (.iconst 4, 1) := by decide +kernel
theorem dX3_mostOf_7 : decode cX3_mostOf 7 = .ok (.if_icmp .ne 7, 3) := by decide +kernel
theorem dX3_mostOf_10 : decode cX3_mostOf 10 = .ok (.iconst 1, 1) := by decide +kernel
theorem dX3_mostOf_11 : decode cX3_mostOf 11 = .ok (.goto 6, 3) := by decide +kernel
theorem dX3_mostOf_14 : decode cX3_mostOf 14 = .ok (.sipush 999, 3) := by decide +kernel
theorem dX3_mostOf_17 : decode cX3_mostOf 17 = .ok (.ireturn, 1) := by decide +kernel
set_option maxRecDepth 20000 in
theorem ggX3_nextToken_X6_byteAt : GoodIn wsX3_nextToken wsX6_byteAt := goodIn_r _ [9, 10, 11, 97, 98] (by decide +kernel) (by decide +kernel)
set_option maxRecDepth 20000 in
theorem gX3_nextToken_X6_byteAt_n71 : GoodIn wsX3_nextToken (wsX6_byteAt) := ggX3_nextToken_X6_byteAt
set_option maxRecDepth 20000 in
theorem ggX3_nextToken_X3_isBlank : GoodIn wsX3_nextToken wsX3_isBlank := goodIn_r _ [15] (by decide +kernel) (by decide +kernel)
set_option maxRecDepth 20000 in
theorem gX3_nextToken_X3_isBlank : GoodIn wsX3_nextToken (va_wsS RX3 76 yX3_isBlank wsX3_isBlank) := goodIn_app (goodIn_of _ (by decide +kernel)) ggX3_nextToken_X3_isBlank
set_option maxRecDepth 20000 in
theorem ggX3_nextToken_X3_isLetter : GoodIn wsX3_nextToken wsX3_isLetter := goodIn_r _ [18] (by decide +kernel) (by decide +kernel)
set_option maxRecDepth 20000 in
theorem gX3_nextToken_X3_isLetter : GoodIn wsX3_nextToken (va_wsS RX3 79 yX3_isLetter wsX3_isLetter) := goodIn_app (goodIn_of _ (by decide +kernel)) ggX3_nextToken_X3_isLetter
set_option maxRecDepth 20000 in
theorem ggX3_nextToken_X3_takeWord : GoodIn wsX3_nextToken wsX3_takeWord := goodIn_r _ [22, 1, 2, 3, 5, 23, 6, 7, 8, 9, 10, 11, 16, 17, 14, 18, 24, 25, 26, 27, 28, 29, 30, 4, 31, 32, 33, 34, 35, 36, 37, 38, 39, 40, 41, 42, 43, 44, 45, 46, 47, 48, 49, 50, 51, 52, 53, 54, 55, 56, 57, 58, 59, 60, 61, 62, 63, 64, 65, 66, 67, 68, 69, 70, 71, 72, 73, 74, 75, 76, 77, 78, 79, 87, 88, 89, 90, 91, 92, 93, 94, 95, 96, 97, 98] (by decide +kernel) (by decide +kernel)
set_option maxRecDepth 20000 in
theorem gX3_nextToken_X3_takeWord : GoodIn wsX3_nextToken (wsV RX3 82 RX3 yX3_takeWord wsX3_takeWord) := goodIn_app (goodIn_of _ (by decide +kernel)) ggX3_nextToken_X3_takeWord
set_option maxRecDepth 20000 in
theorem ggX3_nextToken_X3_isDigit : GoodIn wsX3_nextToken wsX3_isDigit := goodIn_r _ [82] (by decide +kernel) (by decide +kernel)
set_option maxRecDepth 20000 in
theorem gX3_nextToken_X3_isDigit : GoodIn wsX3_nextToken (va_wsS RX3 85 yX3_isDigit wsX3_isDigit) := goodIn_app (goodIn_of _ (by decide +kernel)) ggX3_nextToken_X3_isDigit
set_option maxRecDepth 20000 in
theorem ggX3_nextToken_X3_takeNumber : GoodIn wsX3_nextToken wsX3_takeNumber := goodIn_r _ [86, 5, 23, 1, 2, 3, 6, 7, 8, 9, 10, 11, 80, 81, 14, 82, 87, 88, 89, 90, 91, 92, 93, 94, 95, 96, 97, 98] (by decide +kernel) (by decide +kernel)
set_option maxRecDepth 20000 in
theorem gX3_nextToken_X3_takeNumber : GoodIn wsX3_nextToken (wsV RX3 88 RX3 yX3_takeNumber wsX3_takeNumber) := goodIn_app (goodIn_of _ (by decide +kernel)) ggX3_nextToken_X3_takeNumber
theorem dX3_nextToken_0 : decode cX3_nextToken 0 = .ok (.aload_n 0, 1) := by decide +kernel
theorem dX3_nextToken_1 : decode cX3_nextToken 1 = .ok (.getfield 38, 3) := by decide +kernel
theorem dX3_nextToken_4 : decode cX3_nextToken 4 = .ok (.aload_n 0, 1) := by decide +kernel
theorem dX3_nextToken_5 : decode cX3_nextToken 5 = .ok (.getfield 35, 3) := by decide +kernel
theorem dX3_nextToken_8 : decode cX3_nextToken 8 = .ok (.if_icmp .ge 33, 3) := by decide +kernel
theorem dX3_nextToken_11 : decode cX3_nextToken 11 = .ok (.aload_n 0, 1) := by decide +kernel
theorem dX3_nextToken_12 : decode cX3_nextToken 12 = .ok (.getfield 22, 3) := by decide +kernel
theorem dX3_nextToken_15 : decode cX3_nextToken 15 = .ok (.aload_n 0, 1) := by decide +kernel
theorem dX3_nextToken_16 : decode cX3_nextToken 16 = .ok (.getfield 38, 3) := by decide +kernel
theorem dX3_nextToken_19 : decode cX3_nextToken 19 = .ok (.invokevirtual 71, 3) := by decide +kernel
theorem dX3_nextToken_22 : decode cX3_nextToken 22 = .ok (.invokestatic 76, 3) := by decide +kernel
theorem dX3_nextToken_25 : decode cX3_nextToken 25 = .ok (.ifCond .eq 16, 3) := by decide +kernel
theorem dX3_nextToken_28 : decode cX3_nextToken 28 = .ok (.aload_n 0, 1) := by decide +kernel
theorem dX3_nextToken_29 : decode cX3_nextToken 29 = .ok (.dup, 1) := by decide +kernel
theorem dX3_nextToken_30 : decode cX3_nextToken 30 = .ok (.getfield 38, 3) := by decide +kernel
theorem dX3_nextToken_33 : decode cX3_nextToken 33 = .ok (.iconst 1, 1) := by decide +kernel
theorem dX3_nextToken_34 : decode cX3_nextToken 34 = .ok (.iadd, 1) := by decide +kernel
theorem dX3_nextToken_35 : decode cX3_nextToken 35 = .ok (.putfield 38, 3) := by decide +kernel
theorem dX3_nextToken_38 : decode cX3_nextToken 38 = .ok (.goto (-38), 3) := by decide +kernel
theorem dX3_nextToken_41 : decode cX3_nextToken 41 = .ok (.aload_n 0, 1) := by decide +kernel
theorem dX3_nextToken_42 : decode cX3_nextToken 42 = .ok (.aload_n 0, 1) := by decide +kernel
theorem dX3_nextToken_43 : decode cX3_nextToken 43 = .ok (.getfield 38, 3) := by decide +kernel
theorem dX3_nextToken_46 : decode cX3_nextToken 46 = .ok (.putfield 50, 3) := by decide +kernel
theorem dX3_nextToken_49 : decode cX3_nextToken 49 = .ok (.aload_n 0, 1) := by decide +kernel
theorem dX3_nextToken_50 : decode cX3_nextToken 50 = .ok (.getfield 38, 3) := by decide +kernel
theorem dX3_nextToken_53 : decode cX3_nextToken 53 = .ok (.aload_n 0, 1) := by decide +kernel
theorem dX3_nextToken_54 : decode cX3_nextToken 54 = .ok (.getfield 35, 3) := by decide +kernel
theorem dX3_nextToken_57 : decode cX3_nextToken 57 = .ok (.if_icmp .lt 9, 3) := by decide +kernel
theorem dX3_nextToken_60 : decode cX3_nextToken 60 = .ok (.aload_n 0, 1) := by decide +kernel
theorem dX3_nextToken_61 : decode cX3_nextToken 61 = .ok (.iconst 0, 1) := by decide +kernel
theorem dX3_nextToken_62 : decode cX3_nextToken 62 = .ok (.putfield 44, 3) := by decide +kernel
theorem dX3_nextToken_65 : decode cX3_nextToken 65 = .ok (.return_, 1) := by decide +kernel
theorem dX3_nextToken_66 : decode cX3_nextToken 66 = .ok (.aload_n 0, 1) := by decide +kernel
theorem dX3_nextToken_67 : decode cX3_nextToken 67 = .ok (.getfield 22, 3) := by decide +kernel
theorem dX3_nextToken_70 : decode cX3_nextToken 70 = .ok (.aload_n 0, 1) := by decide +kernel
theorem dX3_nextToken_71 : decode cX3_nextToken 71 = .ok (.getfield 38, 3) := by decide +kernel
theorem dX3_nextToken_74 : decode cX3_nextToken 74 = .ok (.invokevirtual 71, 3) := by decide +kernel
theorem dX3_nextToken_77 : decode cX3_nextToken 77 = .ok (.istore_n 1, 1) := by decide +kernel
theorem dX3_nextToken_78 : decode cX3_nextToken 78 = .ok (.iload_n 1, 1) := by decide +kernel
theorem dX3_nextToken_79 : decode cX3_nextToken 79 = .ok (.invokestatic 79, 3) := by decide +kernel
theorem dX3_nextToken_82 : decode cX3_nextToken 82 = .ok (.ifCond .eq 10, 3) := by decide +kernel
theorem dX3_nextToken_85 : decode cX3_nextToken 85 = .ok (.aload_n 0, 1) := by decide +kernel
theorem dX3_nextToken_86 : decode cX3_nextToken 86 = .ok (.invokevirtual 82, 3) := by decide +kernel
theorem dX3_nextToken_89 : decode cX3_nextToken 89 = .ok (.goto 42, 3) := by decide +kernel
theorem dX3_nextToken_92 : decode cX3_nextToken 92 = .ok (.iload_n 1, 1) := by decide +kernel
theorem dX3_nextToken_93 : decode cX3_nextToken 93 = .ok (.invokestatic 85, 3) := by decide +kernel
theorem dX3_nextToken_96 : decode cX3_nextToken 96 = .ok (.ifCond .eq 10, 3) := by decide +kernel
theorem dX3_nextToken_99 : decode cX3_nextToken 99 = .ok (.aload_n 0, 1) := by decide +kernel
theorem dX3_nextToken_100 : decode cX3_nextToken 100 = .ok (.invokevirtual 88, 3) := by decide +kernel
theorem dX3_nextToken_103 : decode cX3_nextToken 103 = .ok (.goto 28, 3) := by decide +kernel
theorem dX3_nextToken_106 : decode cX3_nextToken 106 = .ok (.aload_n 0, 1) := by decide +kernel
theorem dX3_nextToken_107 : decode cX3_nextToken 107 = .ok (.iload_n 1, 1) := by decide +kernel
theorem dX3_nextToken_108 : decode cX3_nextToken 108 = .ok (.bipush 59, 2) := by decide +kernel
theorem dX3_nextToken_110 : decode cX3_nextToken 110 = .ok (.if_icmp .ne 7, 3) := by decide +kernel
theorem dX3_nextToken_113 : decode cX3_nextToken 113 = .ok (.iconst 3, 1) := by decide +kernel
theorem dX3_nextToken_114 : decode cX3_nextToken 114 = .ok (.goto 4, 3) := by decide +kernel
theorem dX3_nextToken_117 : decode cX3_nextToken 117 = .ok (.iconst 4, 1) := by decide +kernel
theorem dX3_nextToken_118 : decode cX3_nextToken 118 = .ok (.putfield 44, 3) := by decide +kernel
theorem dX3_nextToken_121 : decode cX3_nextToken 121 = .ok (.aload_n 0, 1) := by decide +kernel
theorem dX3_nextToken_122 : decode cX3_nextToken 122 = .ok (.dup, 1) := by decide +kernel
theorem dX3_nextToken_123 : decode cX3_nextToken 123 = .ok (.getfield 38, 3) := by decide +kernel
theorem dX3_nextToken_126 : decode cX3_nextToken 126 = .ok (.iconst 1, 1) := by decide +kernel
theorem dX3_nextToken_127 : decode cX3_nextToken 127 = .ok (.iadd, 1) := by decide +kernel
theorem dX3_nextToken_128 : decode cX3_nextToken 128 = .ok (.putfield 38, 3) := by decide +kernel
theorem dX3_nextToken_131 : decode cX3_nextToken 131 = .ok (.return_, 1) := by decide +kernel
set_option maxRecDepth 20000 in
theorem ggX3_takeWord_X6_byteAt : GoodIn wsX3_takeWord wsX6_byteAt := goodIn_r _ [9, 10, 11, 83, 84] (by decide +kernel) (by decide +kernel)
set_option maxRecDepth 20000 in
theorem gX3_takeWord_X6_byteAt_n71 : GoodIn wsX3_takeWord (wsX6_byteAt) := ggX3_takeWord_X6_byteAt
set_option maxRecDepth 20000 in
theorem ggX3_takeWord_X3_isLetter : GoodIn wsX3_takeWord wsX3_isLetter := goodIn_r _ [15] (by decide +kernel) (by decide +kernel)
set_option maxRecDepth 20000 in
theorem gX3_takeWord_X3_isLetter : GoodIn wsX3_takeWord (va_wsS RX3 79 yX3_isLetter wsX3_isLetter) := goodIn_app (goodIn_of _ (by decide +kernel)) ggX3_takeWord_X3_isLetter
set_option maxRecDepth 20000 in
theorem ggX3_takeWord_X3_spelling : GoodIn wsX3_takeWord wsX3_spelling := goodIn_r _ [18] (by decide +kernel) (by decide +kernel)
set_option maxRecDepth 20000 in
theorem gX3_takeWord_X3_spelling : GoodIn wsX3_takeWord (va_wsS RX3 91 yX3_spelling wsX3_spelling) := goodIn_app (goodIn_of _ (by decide +kernel)) ggX3_takeWord_X3_spelling
set_option maxRecDepth 20000 in
theorem ggX3_takeWord_X3_isToken : GoodIn wsX3_takeWord wsX3_isToken := goodIn_r _ [22, 1, 23, 3, 24, 25, 26, 27, 28, 29, 30, 31, 32, 33, 34, 35, 6, 7, 8, 9, 10, 11, 36, 37, 38, 39, 40, 41, 42, 43, 44, 45, 46, 47, 48, 49, 50, 51, 52, 53, 54, 55, 56, 57, 58, 59, 60, 61, 62, 63, 64, 65, 66, 67, 68, 69, 70, 71, 72, 73, 74, 75, 76, 77, 78, 79, 80, 81, 82, 83, 84] (by decide +kernel) (by decide +kernel)
set_option maxRecDepth 20000 in
theorem gX3_takeWord_X3_isToken : GoodIn wsX3_takeWord (wsV RX3 95 RX3 yX3_isToken wsX3_isToken) := goodIn_app (goodIn_of _ (by decide +kernel)) ggX3_takeWord_X3_isToken
theorem dX3_takeWord_0 : decode cX3_takeWord 0 = .ok (.aload_n 0, 1) := by decide +kernel
theorem dX3_takeWord_1 : decode cX3_takeWord 1 = .ok (.getfield 38, 3) := by decide +kernel
theorem dX3_takeWord_4 : decode cX3_takeWord 4 = .ok (.aload_n 0, 1) := by decide +kernel
theorem dX3_takeWord_5 : decode cX3_takeWord 5 = .ok (.getfield 35, 3) := by decide +kernel
theorem dX3_takeWord_8 : decode cX3_takeWord 8 = .ok (.if_icmp .ge 33, 3) := by decide +kernel
theorem dX3_takeWord_11 : decode cX3_takeWord 11 = .ok (.aload_n 0, 1) := by decide +kernel
theorem dX3_takeWord_12 : decode cX3_takeWord 12 = .ok (.getfield 22, 3) := by decide +kernel
theorem dX3_takeWord_15 : decode cX3_takeWord 15 = .ok (.aload_n 0, 1) := by decide +kernel
theorem dX3_takeWord_16 : decode cX3_takeWord 16 = .ok (.getfield 38, 3) := by decide +kernel
theorem dX3_takeWord_19 : decode cX3_takeWord 19 = .ok (.invokevirtual 71, 3) := by decide +kernel
theorem dX3_takeWord_22 : decode cX3_takeWord 22 = .ok (.invokestatic 79, 3) := by decide +kernel
theorem dX3_takeWord_25 : decode cX3_takeWord 25 = .ok (.ifCond .eq 16, 3) := by decide +kernel
theorem dX3_takeWord_28 : decode cX3_takeWord 28 = .ok (.aload_n 0, 1) := by decide +kernel
theorem dX3_takeWord_29 : decode cX3_takeWord 29 = .ok (.dup, 1) := by decide +kernel
theorem dX3_takeWord_30 : decode cX3_takeWord 30 = .ok (.getfield 38, 3) := by decide +kernel
theorem dX3_takeWord_33 : decode cX3_takeWord 33 = .ok (.iconst 1, 1) := by decide +kernel
theorem dX3_takeWord_34 : decode cX3_takeWord 34 = .ok (.iadd, 1) := by decide +kernel
theorem dX3_takeWord_35 : decode cX3_takeWord 35 = .ok (.putfield 38, 3) := by decide +kernel
theorem dX3_takeWord_38 : decode cX3_takeWord 38 = .ok (.goto (-38), 3) := by decide +kernel
theorem dX3_takeWord_41 : decode cX3_takeWord 41 = .ok (.aload_n 0, 1) := by decide +kernel
theorem dX3_takeWord_42 : decode cX3_takeWord 42 = .ok (.iconst 4, 1) := by decide +kernel
theorem dX3_takeWord_43 : decode cX3_takeWord 43 = .ok (.putfield 44, 3) := by decide +kernel
theorem dX3_takeWord_46 : decode cX3_takeWord 46 = .ok (.iconst 0, 1) := by decide +kernel
theorem dX3_takeWord_47 : decode cX3_takeWord 47 = .ok (.istore_n 1, 1) := by decide +kernel
theorem dX3_takeWord_48 : decode cX3_takeWord 48 = .ok (.iload_n 1, 1) := by decide +kernel
theorem dX3_takeWord_49 : decode cX3_takeWord 49 = .ok (.bipush 6, 2) := by decide +kernel
theorem dX3_takeWord_51 : decode cX3_takeWord 51 = .ok (.if_icmp .ge 30, 3) := by decide +kernel
theorem dX3_takeWord_54 : decode cX3_takeWord 54 = .ok (.aload_n 0, 1) := by decide +kernel
theorem dX3_takeWord_55 : decode cX3_takeWord 55 = .ok (.iload_n 1, 1) := by decide +kernel
theorem dX3_takeWord_56 : decode cX3_takeWord 56 = .ok (.invokestatic 91, 3) := by decide +kernel
theorem dX3_takeWord_59 : decode cX3_takeWord 59 = .ok (.invokevirtual 95, 3) := by decide +kernel
theorem dX3_takeWord_62 : decode cX3_takeWord 62 = .ok (.ifCond .eq 13, 3) := by decide +kernel
theorem dX3_takeWord_65 : decode cX3_takeWord 65 = .ok (.aload_n 0, 1) := by decide +kernel
theorem dX3_takeWord_66 : decode cX3_takeWord 66 = .ok (.iconst 1, 1) := by decide +kernel
theorem dX3_takeWord_67 : decode cX3_takeWord 67 = .ok (.putfield 44, 3) := by decide +kernel
theorem dX3_takeWord_70 : decode cX3_takeWord 70 = .ok (.aload_n 0, 1) := by decide +kernel
theorem dX3_takeWord_71 : decode cX3_takeWord 71 = .ok (.iload_n 1, 1) := by decide +kernel
theorem dX3_takeWord_72 : decode cX3_takeWord 72 = .ok (.putfield 57, 3) := by decide +kernel
theorem dX3_takeWord_75 : decode cX3_takeWord 75 = .ok (.iinc 1 1, 3) := by decide +kernel
theorem dX3_takeWord_78 : decode cX3_takeWord 78 = .ok (.goto (-30), 3) := by decide +kernel
theorem dX3_takeWord_81 : decode cX3_takeWord 81 = .ok (.return_, 1) := by decide +kernel
set_option maxRecDepth 20000 in
theorem ggX3_takeNumber_X6_byteAt : GoodIn wsX3_takeNumber wsX6_byteAt := goodIn_r _ [9, 10, 11, 26, 27] (by decide +kernel) (by decide +kernel)
set_option maxRecDepth 20000 in
theorem gX3_takeNumber_X6_byteAt_n71 : GoodIn wsX3_takeNumber (wsX6_byteAt) := ggX3_takeNumber_X6_byteAt
set_option maxRecDepth 20000 in
theorem ggX3_takeNumber_X3_isDigit : GoodIn wsX3_takeNumber wsX3_isDigit := goodIn_r _ [15] (by decide +kernel) (by decide +kernel)
set_option maxRecDepth 20000 in
theorem gX3_takeNumber_X3_isDigit : GoodIn wsX3_takeNumber (va_wsS RX3 85 yX3_isDigit wsX3_isDigit) := goodIn_app (goodIn_of _ (by decide +kernel)) ggX3_takeNumber_X3_isDigit
theorem dX3_takeNumber_0 : decode cX3_takeNumber 0 = .ok (.aload_n 0, 1) := by decide +kernel
theorem dX3_takeNumber_1 : decode cX3_takeNumber 1 = .ok (.iconst 2, 1) := by decide +kernel
theorem dX3_takeNumber_2 : decode cX3_takeNumber 2 = .ok (.putfield 44, 3) := by decide +kernel
theorem dX3_takeNumber_5 : decode cX3_takeNumber 5 = .ok (.aload_n 0, 1) := by decide +kernel
theorem dX3_takeNumber_6 : decode cX3_takeNumber 6 = .ok (.iconst 0, 1) := by decide +kernel
theorem dX3_takeNumber_7 : decode cX3_takeNumber 7 = .ok (.putfield 57, 3) := by decide +kernel
theorem dX3_takeNumber_10 : decode cX3_takeNumber 10 = .ok (.aload_n 0, 1) := by decide +kernel
theorem dX3_takeNumber_11 : decode cX3_takeNumber 11 = .ok (.getfield 38, 3) := by decide +kernel
theorem dX3_takeNumber_14 : decode cX3_takeNumber 14 = .ok (.aload_n 0, 1) := by decide +kernel
theorem dX3_takeNumber_15 : decode cX3_takeNumber 15 = .ok (.getfield 35, 3) := by decide +kernel
theorem dX3_takeNumber_18 : decode cX3_takeNumber 18 = .ok (.if_icmp .ge 69, 3) := by decide +kernel
theorem dX3_takeNumber_21 : decode cX3_takeNumber 21 = .ok (.aload_n 0, 1) := by decide +kernel
theorem dX3_takeNumber_22 : decode cX3_takeNumber 22 = .ok (.getfield 22, 3) := by decide +kernel
theorem dX3_takeNumber_25 : decode cX3_takeNumber 25 = .ok (.aload_n 0, 1) := by decide +kernel
theorem dX3_takeNumber_26 : decode cX3_takeNumber 26 = .ok (.getfield 38, 3) := by decide +kernel
theorem dX3_takeNumber_29 : decode cX3_takeNumber 29 = .ok (.invokevirtual 71, 3) := by decide +kernel
theorem dX3_takeNumber_32 : decode cX3_takeNumber 32 = .ok (.invokestatic 85, 3) := by decide +kernel
theorem dX3_takeNumber_35 : decode cX3_takeNumber 35 = .ok (.ifCond .eq 52, 3) := by decide +kernel
theorem dX3_takeNumber_38 : decode cX3_takeNumber 38 = .ok (.aload_n 0, 1) := by decide +kernel
theorem dX3_takeNumber_39 : decode cX3_takeNumber 39 = .ok (.getfield 57, 3) := by decide +kernel
theorem dX3_takeNumber_42 : decode cX3_takeNumber 42 = .ok (.sipush 999, 3) := by decide +kernel
theorem dX3_takeNumber_45 : decode cX3_takeNumber 45 = .ok (.if_icmp .gt 29, 3) := by decide +kernel
theorem dX3_takeNumber_48 : decode cX3_takeNumber 48 = .ok (.aload_n 0, 1) := by decide +kernel
theorem dX3_takeNumber_49 : decode cX3_takeNumber 49 = .ok (.aload_n 0, 1) := by decide +kernel
theorem dX3_takeNumber_50 : decode cX3_takeNumber 50 = .ok (.getfield 57, 3) := by decide +kernel
theorem dX3_takeNumber_53 : decode cX3_takeNumber 53 = .ok (.bipush 10, 2) := by decide +kernel
theorem dX3_takeNumber_55 : decode cX3_takeNumber 55 = .ok (.imul, 1) := by decide +kernel
theorem dX3_takeNumber_56 : decode cX3_takeNumber 56 = .ok (.aload_n 0, 1) := by decide +kernel
theorem dX3_takeNumber_57 : decode cX3_takeNumber 57 = .ok (.getfield 22, 3) := by decide +kernel
theorem dX3_takeNumber_60 : decode cX3_takeNumber 60 = .ok (.aload_n 0, 1) := by decide +kernel
theorem dX3_takeNumber_61 : decode cX3_takeNumber 61 = .ok (.getfield 38, 3) := by decide +kernel
theorem dX3_takeNumber_64 : decode cX3_takeNumber 64 = .ok (.invokevirtual 71, 3) := by decide +kernel
theorem dX3_takeNumber_67 : decode cX3_takeNumber 67 = .ok (.iadd, 1) := by decide +kernel
theorem dX3_takeNumber_68 : decode cX3_takeNumber 68 = .ok (.bipush 48, 2) := by decide +kernel
theorem dX3_takeNumber_70 : decode cX3_takeNumber 70 = .ok (.isub, 1) := by decide +kernel
theorem dX3_takeNumber_71 : decode cX3_takeNumber 71 = .ok (.putfield 57, 3) := by decide +kernel
theorem dX3_takeNumber_74 : decode cX3_takeNumber 74 = .ok (.aload_n 0, 1) := by decide +kernel
theorem dX3_takeNumber_75 : decode cX3_takeNumber 75 = .ok (.dup, 1) := by decide +kernel
theorem dX3_takeNumber_76 : decode cX3_takeNumber 76 = .ok (.getfield 38, 3) := by decide +kernel
theorem dX3_takeNumber_79 : decode cX3_takeNumber 79 = .ok (.iconst 1, 1) := by decide +kernel
theorem dX3_takeNumber_80 : decode cX3_takeNumber 80 = .ok (.iadd, 1) := by decide +kernel
theorem dX3_takeNumber_81 : decode cX3_takeNumber 81 = .ok (.putfield 38, 3) := by decide +kernel
theorem dX3_takeNumber_84 : decode cX3_takeNumber 84 = .ok (.goto (-74), 3) := by decide +kernel
theorem dX3_takeNumber_87 : decode cX3_takeNumber 87 = .ok (.return_, 1) := by decide +kernel
set_option maxRecDepth 20000 in
theorem ggX3_isToken_J0_length_8abf5 : GoodIn wsX3_isToken wsJ0_length_8abf5 := goodIn_r _ [8, 9, 10, 11, 12, 7, 13, 14, 15] (by decide +kernel) (by decide +kernel)
set_option maxRecDepth 20000 in
theorem gX3_isToken_J0_length_8abf5 : GoodIn wsX3_isToken (wsV RX3 99 RJ0 yJ0_length_8abf5 wsJ0_length_8abf5) := goodIn_app (goodIn_of _ (by decide +kernel)) ggX3_isToken_J0_length_8abf5
set_option maxRecDepth 20000 in
theorem ggX3_isToken_X6_byteAt : GoodIn wsX3_isToken wsX6_byteAt := goodIn_r _ [19, 20, 21, 69, 70] (by decide +kernel) (by decide +kernel)
set_option maxRecDepth 20000 in
theorem gX3_isToken_X6_byteAt_n71 : GoodIn wsX3_isToken (wsX6_byteAt) := ggX3_isToken_X6_byteAt
set_option maxRecDepth 20000 in
theorem ggX3_isToken_J0_charAt_5068e : GoodIn wsX3_isToken wsJ0_charAt_5068e := goodIn_r _ [25, 9, 26, 27, 28, 7, 29, 14, 15, 30, 31, 32, 33, 34, 35, 36, 37, 38, 39, 40, 41, 42, 43, 44, 45, 46, 47, 48, 49, 50, 51, 52, 53, 54, 55, 56, 57, 58] (by decide +kernel) (by decide +kernel)
set_option maxRecDepth 20000 in
theorem gX3_isToken_J0_charAt_5068e : GoodIn wsX3_isToken (wsV RX3 104 RJ0 yJ0_charAt_5068e wsJ0_charAt_5068e) := goodIn_app (goodIn_of _ (by decide +kernel)) ggX3_isToken_J0_charAt_5068e
theorem dX3_isToken_0 : decode cX3_isToken 0 = .ok (.aload_n 0, 1) := by decide +kernel
theorem dX3_isToken_1 : decode cX3_isToken 1 = .ok (.getfield 38, 3) := by decide +kernel
theorem dX3_isToken_4 : decode cX3_isToken 4 = .ok (.aload_n 0, 1) := by decide +kernel
theorem dX3_isToken_5 : decode cX3_isToken 5 = .ok (.getfield 50, 3) := by decide +kernel
theorem dX3_isToken_8 : decode cX3_isToken 8 = .ok (.isub, 1) := by decide +kernel
theorem dX3_isToken_9 : decode cX3_isToken 9 = .ok (.aload_n 1, 1) := by decide +kernel
theorem dX3_isToken_10 : decode cX3_isToken 10 = .ok (.invokevirtual 99, 3) := by decide +kernel
theorem dX3_isToken_13 : decode cX3_isToken 13 = .ok (.if_icmp .eq 5, 3) := by decide +kernel
theorem dX3_isToken_16 : decode cX3_isToken 16 = .ok (.iconst 0, 1) := by decide +kernel
theorem dX3_isToken_17 : decode cX3_isToken 17 = .ok (.ireturn, 1) := by decide +kernel
theorem dX3_isToken_18 : decode cX3_isToken 18 = .ok (.iconst 0, 1) := by decide +kernel
theorem dX3_isToken_19 : decode cX3_isToken 19 = .ok (.istore_n 2, 1) := by decide +kernel
theorem dX3_isToken_20 : decode cX3_isToken 20 = .ok (.iload_n 2, 1) := by decide +kernel
theorem dX3_isToken_21 : decode cX3_isToken 21 = .ok (.aload_n 1, 1) := by decide +kernel
theorem dX3_isToken_22 : decode cX3_isToken 22 = .ok (.invokevirtual 99, 3) := by decide +kernel
theorem dX3_isToken_25 : decode cX3_isToken 25 = .ok (.if_icmp .ge 32, 3) := by decide +kernel
theorem dX3_isToken_28 : decode cX3_isToken 28 = .ok (.aload_n 0, 1) := by decide +kernel
theorem dX3_isToken_29 : decode cX3_isToken 29 = .ok (.getfield 22, 3) := by decide +kernel
theorem dX3_isToken_32 : decode cX3_isToken 32 = .ok (.aload_n 0, 1) := by decide +kernel
theorem dX3_isToken_33 : decode cX3_isToken 33 = .ok (.getfield 50, 3) := by decide +kernel
theorem dX3_isToken_36 : decode cX3_isToken 36 = .ok (.iload_n 2, 1) := by decide +kernel
theorem dX3_isToken_37 : decode cX3_isToken 37 = .ok (.iadd, 1) := by decide +kernel
theorem dX3_isToken_38 : decode cX3_isToken 38 = .ok (.invokevirtual 71, 3) := by decide +kernel
theorem dX3_isToken_41 : decode cX3_isToken 41 = .ok (.aload_n 1, 1) := by decide +kernel
theorem dX3_isToken_42 : decode cX3_isToken 42 = .ok (.iload_n 2, 1) := by decide +kernel
theorem dX3_isToken_43 : decode cX3_isToken 43 = .ok (.invokevirtual 104, 3) := by decide +kernel
theorem dX3_isToken_46 : decode cX3_isToken 46 = .ok (.if_icmp .eq 5, 3) := by decide +kernel
theorem dX3_isToken_49 : decode cX3_isToken 49 = .ok (.iconst 0, 1) := by decide +kernel
theorem dX3_isToken_50 : decode cX3_isToken 50 = .ok (.ireturn, 1) := by decide +kernel
theorem dX3_isToken_51 : decode cX3_isToken 51 = .ok (.iinc 2 1, 3) := by decide +kernel
theorem dX3_isToken_54 : decode cX3_isToken 54 = .ok (.goto (-34), 3) := by decide +kernel
theorem dX3_isToken_57 : decode cX3_isToken 57 = .ok (.iconst 1, 1) := by decide +kernel
theorem dX3_isToken_58 : decode cX3_isToken 58 = .ok (.ireturn, 1) := by decide +kernel
theorem dX3_spelling_0 : decode cX3_spelling 0 = .ok (.iload_n 0, 1) := by decide +kernel
theorem dX3_spelling_1 : decode cX3_spelling 1 = .ok (.tableswitch 50 0 4 #[35, 38, 41, 44, 47], 35) := by decide +kernel
theorem dX3_spelling_36 : decode cX3_spelling 36 = .ok (.ldc 108, 2) := by decide +kernel
theorem dX3_spelling_38 : decode cX3_spelling 38 = .ok (.areturn, 1) := by decide +kernel
theorem dX3_spelling_39 : decode cX3_spelling 39 = .ok (.ldc 110, 2) := by decide +kernel
theorem dX3_spelling_41 : decode cX3_spelling 41 = .ok (.areturn, 1) := by decide +kernel
theorem dX3_spelling_42 : decode cX3_spelling 42 = .ok (.ldc 112, 2) := by decide +kernel
theorem dX3_spelling_44 : decode cX3_spelling 44 = .ok (.areturn, 1) := by decide +kernel
theorem dX3_spelling_45 : decode cX3_spelling 45 = .ok (.ldc 114, 2) := by decide +kernel
theorem dX3_spelling_47 : decode cX3_spelling 47 = .ok (.areturn, 1) := by decide +kernel
theorem dX3_spelling_48 : decode cX3_spelling 48 = .ok (.ldc 116, 2) := by decide +kernel
theorem dX3_spelling_50 : decode cX3_spelling 50 = .ok (.areturn, 1) := by decide +kernel
theorem dX3_spelling_51 : decode cX3_spelling 51 = .ok (.ldc 118, 2) := by decide +kernel
theorem dX3_spelling_53 : decode cX3_spelling 53 = .ok (.areturn, 1) := by decide +kernel
theorem dX3_isBlank_0 : decode cX3_isBlank 0 = .ok (.iload_n 0, 1) := by decide +kernel
theorem dX3_isBlank_1 : decode cX3_isBlank 1 = .ok (.bipush 10, 2) := by decide +kernel
theorem dX3_isBlank_3 : decode cX3_isBlank 3 = .ok (.if_icmp .eq 9, 3) := by decide +kernel
theorem dX3_isBlank_6 : decode cX3_isBlank 6 = .ok (.iload_n 0, 1) := by decide +kernel
theorem dX3_isBlank_7 : decode cX3_isBlank 7 = .ok (.bipush 32, 2) := by decide +kernel
theorem dX3_isBlank_9 : decode cX3_isBlank 9 = .ok (.if_icmp .ne 7, 3) := by decide +kernel
theorem dX3_isBlank_12 : decode cX3_isBlank 12 = .ok (.iconst 1, 1) := by decide +kernel
theorem dX3_isBlank_13 : decode cX3_isBlank 13 = .ok (.goto 4, 3) := by decide +kernel
theorem dX3_isBlank_16 : decode cX3_isBlank 16 = .ok (.iconst 0, 1) := by decide +kernel
theorem dX3_isBlank_17 : decode cX3_isBlank 17 = .ok (.ireturn, 1) := by decide +kernel
theorem dX3_isLetter_0 : decode cX3_isLetter 0 = .ok (.iload_n 0, 1) := by decide +kernel
theorem dX3_isLetter_1 : decode cX3_isLetter 1 = .ok (.bipush 97, 2) := by decide +kernel
theorem dX3_isLetter_3 : decode cX3_isLetter 3 = .ok (.if_icmp .lt 13, 3) := by decide +kernel
theorem dX3_isLetter_6 : decode cX3_isLetter 6 = .ok (.iload_n 0, 1) := by decide +kernel
theorem dX3_isLetter_7 : decode cX3_isLetter 7 = .ok (.bipush 122, 2) := by decide +kernel
theorem dX3_isLetter_9 : decode cX3_isLetter 9 = .ok (.if_icmp .gt 7, 3) := by decide +kernel
theorem dX3_isLetter_12 : decode cX3_isLetter 12 = .ok (.iconst 1, 1) := by decide +kernel
theorem dX3_isLetter_13 : decode cX3_isLetter 13 = .ok (.goto 4, 3) := by decide +kernel
theorem dX3_isLetter_16 : decode cX3_isLetter 16 = .ok (.iconst 0, 1) := by decide +kernel
theorem dX3_isLetter_17 : decode cX3_isLetter 17 = .ok (.ireturn, 1) := by decide +kernel
theorem dX3_isDigit_0 : decode cX3_isDigit 0 = .ok (.iload_n 0, 1) := by decide +kernel
theorem dX3_isDigit_1 : decode cX3_isDigit 1 = .ok (.bipush 48, 2) := by decide +kernel
theorem dX3_isDigit_3 : decode cX3_isDigit 3 = .ok (.if_icmp .lt 13, 3) := by decide +kernel
theorem dX3_isDigit_6 : decode cX3_isDigit 6 = .ok (.iload_n 0, 1) := by decide +kernel
theorem dX3_isDigit_7 : decode cX3_isDigit 7 = .ok (.bipush 57, 2) := by decide +kernel
theorem dX3_isDigit_9 : decode cX3_isDigit 9 = .ok (.if_icmp .gt 7, 3) := by decide +kernel
theorem dX3_isDigit_12 : decode cX3_isDigit 12 = .ok (.iconst 1, 1) := by decide +kernel
theorem dX3_isDigit_13 : decode cX3_isDigit 13 = .ok (.goto 4, 3) := by decide +kernel
theorem dX3_isDigit_16 : decode cX3_isDigit 16 = .ok (.iconst 0, 1) := by decide +kernel
theorem dX3_isDigit_17 : decode cX3_isDigit 17 = .ok (.ireturn, 1) := by decide +kernel
theorem dX4_init_0 : decode cX4_init 0 = .ok (.aload_n 0, 1) := by decide +kernel
theorem dX4_init_1 : decode cX4_init 1 = .ok (.invokespecial 3, 3) := by decide +kernel
theorem dX4_init_4 : decode cX4_init 4 = .ok (.aload_n 0, 1) := by decide +kernel
theorem dX4_init_5 : decode cX4_init 5 = .ok (.bipush 10, 2) := by decide +kernel
theorem dX4_init_7 : decode cX4_init 7 = .ok (.newarray .int, 2) := by decide +kernel
theorem dX4_init_9 : decode cX4_init 9 = .ok (.putfield 9, 3) := by decide +kernel
theorem dX4_init_12 : decode cX4_init 12 = .ok (.aload_n 0, 1) := by decide +kernel
theorem dX4_init_13 : decode cX4_init 13 = .ok (.bipush 10, 2) := by decide +kernel
theorem dX4_init_15 : decode cX4_init 15 = .ok (.newarray .int, 2) := by decide +kernel
theorem dX4_init_17 : decode cX4_init 17 = .ok (.putfield 15, 3) := by decide +kernel
theorem dX4_init_20 : decode cX4_init 20 = .ok (.aload_n 0, 1) := by decide +kernel
theorem dX4_init_21 : decode cX4_init 21 = .ok (.bipush 10, 2) := by decide +kernel
theorem dX4_init_23 : decode cX4_init 23 = .ok (.newarray .int, 2) := by decide +kernel
theorem dX4_init_25 : decode cX4_init 25 = .ok (.putfield 18, 3) := by decide +kernel
theorem dX4_init_28 : decode cX4_init 28 = .ok (.aload_n 0, 1) := by decide +kernel
theorem dX4_init_29 : decode cX4_init 29 = .ok (.bipush 80, 2) := by decide +kernel
theorem dX4_init_31 : decode cX4_init 31 = .ok (.newarray .int, 2) := by decide +kernel
theorem dX4_init_33 : decode cX4_init 33 = .ok (.putfield 21, 3) := by decide +kernel
theorem dX4_init_36 : decode cX4_init 36 = .ok (.return_, 1) := by decide +kernel
theorem dX4_add_0 : decode cX4_add 0 = .ok (.aload_n 0, 1) := by decide +kernel
theorem dX4_add_1 : decode cX4_add 1 = .ok (.getfield 24, 3) := by decide +kernel
theorem dX4_add_4 : decode cX4_add 4 = .ok (.istore 5, 2) := by decide +kernel
theorem dX4_add_6 : decode cX4_add 6 = .ok (.aload_n 1, 1) := by decide +kernel
theorem dX4_add_7 : decode cX4_add 7 = .ok (.iconst 0, 1) := by decide +kernel
theorem dX4_add_8 : decode cX4_add 8 = .ok (.aload_n 0, 1) := by decide +kernel
theorem dX4_add_9 : decode cX4_add 9 = .ok (.getfield 21, 3) := by decide +kernel
theorem dX4_add_12 : decode cX4_add 12 = .ok (.iload 5, 2) := by decide +kernel
theorem dX4_add_14 : decode cX4_add 14 = .ok (.bipush 8, 2) := by decide +kernel
theorem dX4_add_16 : decode cX4_add 16 = .ok (.imul, 1) := by decide +kernel
theorem dX4_add_17 : decode cX4_add 17 = .ok (.bipush 8, 2) := by decide +kernel
theorem dX4_add_19 : decode cX4_add 19 = .ok (.invokestatic 28, 3) := by decide +kernel
theorem dX4_add_22 : decode cX4_add 22 = .ok (.aload_n 0, 1) := by decide +kernel
theorem dX4_add_23 : decode cX4_add 23 = .ok (.getfield 9, 3) := by decide +kernel
theorem dX4_add_26 : decode cX4_add 26 = .ok (.iload 5, 2) := by decide +kernel
theorem dX4_add_28 : decode cX4_add 28 = .ok (.iload_n 3, 1) := by decide +kernel
theorem dX4_add_29 : decode cX4_add 29 = .ok (.iastore, 1) := by decide +kernel
theorem dX4_add_30 : decode cX4_add 30 = .ok (.aload_n 0, 1) := by decide +kernel
theorem dX4_add_31 : decode cX4_add 31 = .ok (.getfield 15, 3) := by decide +kernel
theorem dX4_add_34 : decode cX4_add 34 = .ok (.iload 5, 2) := by decide +kernel
theorem dX4_add_36 : decode cX4_add 36 = .ok (.iload 4, 2) := by decide +kernel
theorem dX4_add_38 : decode cX4_add 38 = .ok (.iastore, 1) := by decide +kernel
theorem dX4_add_39 : decode cX4_add 39 = .ok (.aload_n 0, 1) := by decide +kernel
theorem dX4_add_40 : decode cX4_add 40 = .ok (.getfield 18, 3) := by decide +kernel
theorem dX4_add_43 : decode cX4_add 43 = .ok (.iload 5, 2) := by decide +kernel
theorem dX4_add_45 : decode cX4_add 45 = .ok (.iconst (-1), 1) := by decide +kernel
theorem dX4_add_46 : decode cX4_add 46 = .ok (.iastore, 1) := by decide +kernel
theorem dX4_add_47 : decode cX4_add 47 = .ok (.aload_n 0, 1) := by decide +kernel
theorem dX4_add_48 : decode cX4_add 48 = .ok (.dup, 1) := by decide +kernel
theorem dX4_add_49 : decode cX4_add 49 = .ok (.getfield 34, 3) := by decide +kernel
theorem dX4_add_52 : decode cX4_add 52 = .ok (.iload_n 2, 1) := by decide +kernel
theorem dX4_add_53 : decode cX4_add 53 = .ok (.iadd, 1) := by decide +kernel
theorem dX4_add_54 : decode cX4_add 54 = .ok (.putfield 34, 3) := by decide +kernel
theorem dX4_add_57 : decode cX4_add 57 = .ok (.aload_n 0, 1) := by decide +kernel
theorem dX4_add_58 : decode cX4_add 58 = .ok (.dup, 1) := by decide +kernel
theorem dX4_add_59 : decode cX4_add 59 = .ok (.getfield 24, 3) := by decide +kernel
theorem dX4_add_62 : decode cX4_add 62 = .ok (.iconst 1, 1) := by decide +kernel
theorem dX4_add_63 : decode cX4_add 63 = .ok (.iadd, 1) := by decide +kernel
theorem dX4_add_64 : decode cX4_add 64 = .ok (.putfield 24, 3) := by decide +kernel
theorem dX4_add_67 : decode cX4_add 67 = .ok (.iload 5, 2) := by decide +kernel
theorem dX4_add_69 : decode cX4_add 69 = .ok (.ireturn, 1) := by decide +kernel
theorem dX4_strike_0 : decode cX4_strike 0 = .ok (.aload_n 0, 1) := by decide +kernel
theorem dX4_strike_1 : decode cX4_strike 1 = .ok (.getfield 18, 3) := by decide +kernel
theorem dX4_strike_4 : decode cX4_strike 4 = .ok (.iload_n 1, 1) := by decide +kernel
theorem dX4_strike_5 : decode cX4_strike 5 = .ok (.iaload, 1) := by decide +kernel
theorem dX4_strike_6 : decode cX4_strike 6 = .ok (.iconst (-1), 1) := by decide +kernel
theorem dX4_strike_7 : decode cX4_strike 7 = .ok (.if_icmp .eq 5, 3) := by decide +kernel
theorem dX4_strike_10 : decode cX4_strike 10 = .ok (.iconst 0, 1) := by decide +kernel
theorem dX4_strike_11 : decode cX4_strike 11 = .ok (.ireturn, 1) := by decide +kernel
theorem dX4_strike_12 : decode cX4_strike 12 = .ok (.aload_n 0, 1) := by decide +kernel
theorem dX4_strike_13 : decode cX4_strike 13 = .ok (.getfield 18, 3) := by decide +kernel
theorem dX4_strike_16 : decode cX4_strike 16 = .ok (.iload_n 1, 1) := by decide +kernel
theorem dX4_strike_17 : decode cX4_strike 17 = .ok (.iload_n 2, 1) := by decide +kernel
theorem dX4_strike_18 : decode cX4_strike 18 = .ok (.iastore, 1) := by decide +kernel
theorem dX4_strike_19 : decode cX4_strike 19 = .ok (.iconst 1, 1) := by decide +kernel
theorem dX4_strike_20 : decode cX4_strike 20 = .ok (.ireturn, 1) := by decide +kernel
set_option maxRecDepth 20000 in
theorem ggX4_said_X4_isKnown : GoodIn wsX4_said wsX4_isKnown := goodIn_r _ [8, 9, 10, 11, 12, 13, 14, 15, 16] (by decide +kernel) (by decide +kernel)
set_option maxRecDepth 20000 in
theorem gX4_said_X4_isKnown : GoodIn wsX4_said (wsV RX4 37 RX4 yX4_isKnown wsX4_isKnown) := goodIn_app (goodIn_of _ (by decide +kernel)) ggX4_said_X4_isKnown
theorem dX4_said_0 : decode cX4_said 0 = .ok (.iconst (-1), 1) := by decide +kernel
theorem dX4_said_1 : decode cX4_said 1 = .ok (.istore 4, 2) := by decide +kernel
theorem dX4_said_3 : decode cX4_said 3 = .ok (.iconst 0, 1) := by decide +kernel
theorem dX4_said_4 : decode cX4_said 4 = .ok (.istore 5, 2) := by decide +kernel
theorem dX4_said_6 : decode cX4_said 6 = .ok (.iload 5, 2) := by decide +kernel
theorem dX4_said_8 : decode cX4_said 8 = .ok (.aload_n 0, 1) := by decide +kernel
theorem dX4_said_9 : decode cX4_said 9 = .ok (.getfield 24, 3) := by decide +kernel
theorem dX4_said_12 : decode cX4_said 12 = .ok (.if_icmp .ge 73, 3) := by decide +kernel
theorem dX4_said_15 : decode cX4_said 15 = .ok (.aload_n 0, 1) := by decide +kernel
theorem dX4_said_16 : decode cX4_said 16 = .ok (.getfield 21, 3) := by decide +kernel
theorem dX4_said_19 : decode cX4_said 19 = .ok (.iload 5, 2) := by decide +kernel
theorem dX4_said_21 : decode cX4_said 21 = .ok (.bipush 8, 2) := by decide +kernel
theorem dX4_said_23 : decode cX4_said 23 = .ok (.imul, 1) := by decide +kernel
theorem dX4_said_24 : decode cX4_said 24 = .ok (.iload_n 1, 1) := by decide +kernel
theorem dX4_said_25 : decode cX4_said 25 = .ok (.iadd, 1) := by decide +kernel
theorem dX4_said_26 : decode cX4_said 26 = .ok (.iaload, 1) := by decide +kernel
theorem dX4_said_27 : decode cX4_said 27 = .ok (.iconst (-1), 1) := by decide +kernel
theorem dX4_said_28 : decode cX4_said 28 = .ok (.if_icmp .eq 51, 3) := by decide +kernel
theorem dX4_said_31 : decode cX4_said 31 = .ok (.aload_n 0, 1) := by decide +kernel
theorem dX4_said_32 : decode cX4_said 32 = .ok (.getfield 9, 3) := by decide +kernel
theorem dX4_said_35 : decode cX4_said 35 = .ok (.iload 5, 2) := by decide +kernel
theorem dX4_said_37 : decode cX4_said 37 = .ok (.iaload, 1) := by decide +kernel
theorem dX4_said_38 : decode cX4_said 38 = .ok (.iload_n 2, 1) := by decide +kernel
theorem dX4_said_39 : decode cX4_said 39 = .ok (.if_icmp .gt 40, 3) := by decide +kernel
theorem dX4_said_42 : decode cX4_said 42 = .ok (.aload_n 0, 1) := by decide +kernel
theorem dX4_said_43 : decode cX4_said 43 = .ok (.iload 5, 2) := by decide +kernel
theorem dX4_said_45 : decode cX4_said 45 = .ok (.iload_n 3, 1) := by decide +kernel
theorem dX4_said_46 : decode cX4_said 46 = .ok (.invokevirtual 37, 3) := by decide +kernel
theorem dX4_said_49 : decode cX4_said 49 = .ok (.ifCond .eq 30, 3) := by decide +kernel
theorem dX4_said_52 : decode cX4_said 52 = .ok (.iload 4, 2) := by decide +kernel
theorem dX4_said_54 : decode cX4_said 54 = .ok (.iconst (-1), 1) := by decide +kernel
theorem dX4_said_55 : decode cX4_said 55 = .ok (.if_icmp .eq 20, 3) := by decide +kernel
theorem dX4_said_58 : decode cX4_said 58 = .ok (.aload_n 0, 1) := by decide +kernel
theorem dX4_said_59 : decode cX4_said 59 = .ok (.getfield 9, 3) := by decide +kernel
theorem dX4_said_62 : decode cX4_said 62 = .ok (.iload 5, 2) := by decide +kernel
theorem dX4_said_64 : decode cX4_said 64 = .ok (.iaload, 1) := by decide +kernel
theorem dX4_said_65 : decode cX4_said 65 = .ok (.aload_n 0, 1) := by decide +kernel
theorem dX4_said_66 : decode cX4_said 66 = .ok (.getfield 9, 3) := by decide +kernel
theorem dX4_said_69 : decode cX4_said 69 = .ok (.iload 4, 2) := by decide +kernel
theorem dX4_said_71 : decode cX4_said 71 = .ok (.iaload, 1) := by decide +kernel
theorem dX4_said_72 : decode cX4_said 72 = .ok (.if_icmp .lt 7, 3) := by decide +kernel
theorem dX4_said_75 : decode cX4_said 75 = .ok (.iload 5, 2) := by decide +kernel
theorem dX4_said_77 : decode cX4_said 77 = .ok (.istore 4, 2) := by decide +kernel
theorem dX4_said_79 : decode cX4_said 79 = .ok (.iinc 5 1, 3) := by decide +kernel
theorem dX4_said_82 : decode cX4_said 82 = .ok (.goto (-76), 3) := by decide +kernel
theorem dX4_said_85 : decode cX4_said 85 = .ok (.iload 4, 2) := by decide +kernel
theorem dX4_said_87 : decode cX4_said 87 = .ok (.iconst (-1), 1) := by decide +kernel
theorem dX4_said_88 : decode cX4_said 88 = .ok (.if_icmp .ne 7, 3) := by decide +kernel
theorem dX4_said_91 : decode cX4_said 91 = .ok (.iconst 0, 1) := by decide +kernel
theorem dX4_said_92 : decode cX4_said 92 = .ok (.goto 15, 3) := by decide +kernel
theorem dX4_said_95 : decode cX4_said 95 = .ok (.aload_n 0, 1) := by decide +kernel
theorem dX4_said_96 : decode cX4_said 96 = .ok (.getfield 21, 3) := by decide +kernel
theorem dX4_said_99 : decode cX4_said 99 = .ok (.iload 4, 2) := by decide +kernel
theorem dX4_said_101 : decode cX4_said 101 = .ok (.bipush 8, 2) := by decide +kernel
theorem dX4_said_103 : decode cX4_said 103 = .ok (.imul, 1) := by decide +kernel
theorem dX4_said_104 : decode cX4_said 104 = .ok (.iload_n 1, 1) := by decide +kernel
theorem dX4_said_105 : decode cX4_said 105 = .ok (.iadd, 1) := by decide +kernel
theorem dX4_said_106 : decode cX4_said 106 = .ok (.iaload, 1) := by decide +kernel
theorem dX4_said_107 : decode cX4_said 107 = .ok (.ireturn, 1) := by decide +kernel
theorem dX4_isKnown_0 : decode cX4_isKnown 0 = .ok (.aload_n 0, 1) := by decide +kernel
theorem dX4_isKnown_1 : decode cX4_isKnown 1 = .ok (.getfield 15, 3) := by decide +kernel
theorem dX4_isKnown_4 : decode cX4_isKnown 4 = .ok (.iload_n 1, 1) := by decide +kernel
theorem dX4_isKnown_5 : decode cX4_isKnown 5 = .ok (.iaload, 1) := by decide +kernel
theorem dX4_isKnown_6 : decode cX4_isKnown 6 = .ok (.iload_n 2, 1) := by decide +kernel
theorem dX4_isKnown_7 : decode cX4_isKnown 7 = .ok (.if_icmp .gt 27, 3) := by decide +kernel
theorem dX4_isKnown_10 : decode cX4_isKnown 10 = .ok (.aload_n 0, 1) := by decide +kernel
theorem dX4_isKnown_11 : decode cX4_isKnown 11 = .ok (.getfield 18, 3) := by decide +kernel
theorem dX4_isKnown_14 : decode cX4_isKnown 14 = .ok (.iload_n 1, 1) := by decide +kernel
theorem dX4_isKnown_15 : decode cX4_isKnown 15 = .ok (.iaload, 1) := by decide +kernel
theorem dX4_isKnown_16 : decode cX4_isKnown 16 = .ok (.iconst (-1), 1) := by decide +kernel
theorem dX4_isKnown_17 : decode cX4_isKnown 17 = .ok (.if_icmp .eq 13, 3) := by decide +kernel
theorem dX4_isKnown_20 : decode cX4_isKnown 20 = .ok (.aload_n 0, 1) := by decide +kernel
theorem dX4_isKnown_21 : decode cX4_isKnown 21 = .ok (.getfield 18, 3) := by decide +kernel
theorem dX4_isKnown_24 : decode cX4_isKnown 24 = .ok (.iload_n 1, 1) := by decide +kernel
theorem dX4_isKnown_25 : decode cX4_isKnown 25 = .ok (.iaload, 1) := by decide +kernel
theorem dX4_isKnown_26 : decode cX4_isKnown 26 = .ok (.iload_n 2, 1) := by decide +kernel
theorem dX4_isKnown_27 : decode cX4_isKnown 27 = .ok (.if_icmp .le 7, 3) := by decide +kernel
theorem dX4_isKnown_30 : decode cX4_isKnown 30 = .ok (.iconst 1, 1) := by decide +kernel
theorem dX4_isKnown_31 : decode cX4_isKnown 31 = .ok (.goto 4, 3) := by decide +kernel
theorem dX4_isKnown_34 : decode cX4_isKnown 34 = .ok (.iconst 0, 1) := by decide +kernel
theorem dX4_isKnown_35 : decode cX4_isKnown 35 = .ok (.ireturn, 1) := by decide +kernel
theorem dX5_init_0 : decode cX5_init 0 = .ok (.aload_n 0, 1) := by decide +kernel
theorem dX5_init_1 : decode cX5_init 1 = .ok (.invokespecial 3, 3) := by decide +kernel
theorem dX5_init_4 : decode cX5_init 4 = .ok (.aload_n 0, 1) := by decide +kernel
theorem dX5_init_5 : decode cX5_init 5 = .ok (.sipush 150, 3) := by decide +kernel
theorem dX5_init_8 : decode cX5_init 8 = .ok (.newarray .int, 2) := by decide +kernel
theorem dX5_init_10 : decode cX5_init 10 = .ok (.putfield 9, 3) := by decide +kernel
theorem dX5_init_13 : decode cX5_init 13 = .ok (.aload_n 0, 1) := by decide +kernel
theorem dX5_init_14 : decode cX5_init 14 = .ok (.sipush 150, 3) := by decide +kernel
theorem dX5_init_17 : decode cX5_init 17 = .ok (.newarray .int, 2) := by decide +kernel
theorem dX5_init_19 : decode cX5_init 19 = .ok (.putfield 15, 3) := by decide +kernel
theorem dX5_init_22 : decode cX5_init 22 = .ok (.aload_n 0, 1) := by decide +kernel
theorem dX5_init_23 : decode cX5_init 23 = .ok (.sipush 150, 3) := by decide +kernel
theorem dX5_init_26 : decode cX5_init 26 = .ok (.newarray .int, 2) := by decide +kernel
theorem dX5_init_28 : decode cX5_init 28 = .ok (.putfield 18, 3) := by decide +kernel
theorem dX5_init_31 : decode cX5_init 31 = .ok (.aload_n 0, 1) := by decide +kernel
theorem dX5_init_32 : decode cX5_init 32 = .ok (.sipush 150, 3) := by decide +kernel
theorem dX5_init_35 : decode cX5_init 35 = .ok (.newarray .int, 2) := by decide +kernel
theorem dX5_init_37 : decode cX5_init 37 = .ok (.putfield 21, 3) := by decide +kernel
theorem dX5_init_40 : decode cX5_init 40 = .ok (.aload_n 0, 1) := by decide +kernel
theorem dX5_init_41 : decode cX5_init 41 = .ok (.bipush 100, 2) := by decide +kernel
theorem dX5_init_43 : decode cX5_init 43 = .ok (.newarray .int, 2) := by decide +kernel
theorem dX5_init_45 : decode cX5_init 45 = .ok (.putfield 24, 3) := by decide +kernel
theorem dX5_init_48 : decode cX5_init 48 = .ok (.aload_n 0, 1) := by decide +kernel
theorem dX5_init_49 : decode cX5_init 49 = .ok (.aload_n 1, 1) := by decide +kernel
theorem dX5_init_50 : decode cX5_init 50 = .ok (.putfield 27, 3) := by decide +kernel
theorem dX5_init_53 : decode cX5_init 53 = .ok (.return_, 1) := by decide +kernel
theorem dX5_add_0 : decode cX5_add 0 = .ok (.aload_n 0, 1) := by decide +kernel
theorem dX5_add_1 : decode cX5_add 1 = .ok (.getfield 9, 3) := by decide +kernel
theorem dX5_add_4 : decode cX5_add 4 = .ok (.aload_n 0, 1) := by decide +kernel
theorem dX5_add_5 : decode cX5_add 5 = .ok (.getfield 31, 3) := by decide +kernel
theorem dX5_add_8 : decode cX5_add 8 = .ok (.iload_n 1, 1) := by decide +kernel
theorem dX5_add_9 : decode cX5_add 9 = .ok (.iastore, 1) := by decide +kernel
theorem dX5_add_10 : decode cX5_add 10 = .ok (.aload_n 0, 1) := by decide +kernel
theorem dX5_add_11 : decode cX5_add 11 = .ok (.getfield 15, 3) := by decide +kernel
theorem dX5_add_14 : decode cX5_add 14 = .ok (.aload_n 0, 1) := by decide +kernel
theorem dX5_add_15 : decode cX5_add 15 = .ok (.getfield 31, 3) := by decide +kernel
theorem dX5_add_18 : decode cX5_add 18 = .ok (.iload_n 2, 1) := by decide +kernel
theorem dX5_add_19 : decode cX5_add 19 = .ok (.iastore, 1) := by decide +kernel
theorem dX5_add_20 : decode cX5_add 20 = .ok (.aload_n 0, 1) := by decide +kernel
theorem dX5_add_21 : decode cX5_add 21 = .ok (.getfield 18, 3) := by decide +kernel
theorem dX5_add_24 : decode cX5_add 24 = .ok (.aload_n 0, 1) := by decide +kernel
theorem dX5_add_25 : decode cX5_add 25 = .ok (.getfield 31, 3) := by decide +kernel
theorem dX5_add_28 : decode cX5_add 28 = .ok (.iload_n 3, 1) := by decide +kernel
theorem dX5_add_29 : decode cX5_add 29 = .ok (.iastore, 1) := by decide +kernel
theorem dX5_add_30 : decode cX5_add 30 = .ok (.aload_n 0, 1) := by decide +kernel
theorem dX5_add_31 : decode cX5_add 31 = .ok (.getfield 21, 3) := by decide +kernel
theorem dX5_add_34 : decode cX5_add 34 = .ok (.aload_n 0, 1) := by decide +kernel
theorem dX5_add_35 : decode cX5_add 35 = .ok (.getfield 31, 3) := by decide +kernel
theorem dX5_add_38 : decode cX5_add 38 = .ok (.iload 4, 2) := by decide +kernel
theorem dX5_add_40 : decode cX5_add 40 = .ok (.iastore, 1) := by decide +kernel
theorem dX5_add_41 : decode cX5_add 41 = .ok (.aload_n 0, 1) := by decide +kernel
theorem dX5_add_42 : decode cX5_add 42 = .ok (.dup, 1) := by decide +kernel
theorem dX5_add_43 : decode cX5_add 43 = .ok (.getfield 31, 3) := by decide +kernel
theorem dX5_add_46 : decode cX5_add 46 = .ok (.iconst 1, 1) := by decide +kernel
theorem dX5_add_47 : decode cX5_add 47 = .ok (.iadd, 1) := by decide +kernel
theorem dX5_add_48 : decode cX5_add 48 = .ok (.putfield 31, 3) := by decide +kernel
theorem dX5_add_51 : decode cX5_add 51 = .ok (.return_, 1) := by decide +kernel
set_option maxRecDepth 20000 in
theorem ggX5_sum_J7_fill_53178 : GoodIn wsX5_sum wsJ7_fill_53178 := goodIn_r _ [11] (by decide +kernel) (by decide +kernel)
set_option maxRecDepth 20000 in
theorem gX5_sum_J7_fill_53178 : GoodIn wsX5_sum (va_wsS RX5 35 yJ7_fill_53178 wsJ7_fill_53178) := goodIn_app (goodIn_of _ (by decide +kernel)) ggX5_sum_J7_fill_53178
set_option maxRecDepth 20000 in
theorem ggX5_sum_X4_said : GoodIn wsX5_sum wsX4_said := goodIn_r _ [15, 16, 17, 18, 19, 20, 21, 13, 22, 23, 24, 32, 33, 34, 35, 36, 37] (by decide +kernel) (by decide +kernel)
set_option maxRecDepth 20000 in
theorem gX5_sum_X4_said_n41 : GoodIn wsX5_sum (wsX4_said) := ggX5_sum_X4_said
theorem dX5_sum_0 : decode cX5_sum 0 = .ok (.aload_n 0, 1) := by decide +kernel
theorem dX5_sum_1 : decode cX5_sum 1 = .ok (.getfield 24, 3) := by decide +kernel
theorem dX5_sum_4 : decode cX5_sum 4 = .ok (.iconst 0, 1) := by decide +kernel
theorem dX5_sum_5 : decode cX5_sum 5 = .ok (.invokestatic 35, 3) := by decide +kernel
theorem dX5_sum_8 : decode cX5_sum 8 = .ok (.iconst 0, 1) := by decide +kernel
theorem dX5_sum_9 : decode cX5_sum 9 = .ok (.istore 4, 2) := by decide +kernel
theorem dX5_sum_11 : decode cX5_sum 11 = .ok (.aload_n 0, 1) := by decide +kernel
theorem dX5_sum_12 : decode cX5_sum 12 = .ok (.getfield 31, 3) := by decide +kernel
theorem dX5_sum_15 : decode cX5_sum 15 = .ok (.iconst 1, 1) := by decide +kernel
theorem dX5_sum_16 : decode cX5_sum 16 = .ok (.isub, 1) := by decide +kernel
theorem dX5_sum_17 : decode cX5_sum 17 = .ok (.istore 5, 2) := by decide +kernel
theorem dX5_sum_19 : decode cX5_sum 19 = .ok (.iload 5, 2) := by decide +kernel
theorem dX5_sum_21 : decode cX5_sum 21 = .ok (.ifCond .lt 90, 3) := by decide +kernel
theorem dX5_sum_24 : decode cX5_sum 24 = .ok (.aload_n 0, 1) := by decide +kernel
theorem dX5_sum_25 : decode cX5_sum 25 = .ok (.getfield 9, 3) := by decide +kernel
theorem dX5_sum_28 : decode cX5_sum 28 = .ok (.iload 5, 2) := by decide +kernel
theorem dX5_sum_30 : decode cX5_sum 30 = .ok (.iaload, 1) := by decide +kernel
theorem dX5_sum_31 : decode cX5_sum 31 = .ok (.iload_n 1, 1) := by decide +kernel
theorem dX5_sum_32 : decode cX5_sum 32 = .ok (.if_icmp .ne 73, 3) := by decide +kernel
theorem dX5_sum_35 : decode cX5_sum 35 = .ok (.aload_n 0, 1) := by decide +kernel
theorem dX5_sum_36 : decode cX5_sum 36 = .ok (.getfield 21, 3) := by decide +kernel
theorem dX5_sum_39 : decode cX5_sum 39 = .ok (.iload 5, 2) := by decide +kernel
theorem dX5_sum_41 : decode cX5_sum 41 = .ok (.iaload, 1) := by decide +kernel
theorem dX5_sum_42 : decode cX5_sum 42 = .ok (.iload_n 3, 1) := by decide +kernel
theorem dX5_sum_43 : decode cX5_sum 43 = .ok (.if_icmp .gt 62, 3) := by decide +kernel
theorem dX5_sum_46 : decode cX5_sum 46 = .ok (.aload_n 0, 1) := by decide +kernel
theorem dX5_sum_47 : decode cX5_sum 47 = .ok (.getfield 24, 3) := by decide +kernel
theorem dX5_sum_50 : decode cX5_sum 50 = .ok (.aload_n 0, 1) := by decide +kernel
theorem dX5_sum_51 : decode cX5_sum 51 = .ok (.getfield 15, 3) := by decide +kernel
theorem dX5_sum_54 : decode cX5_sum 54 = .ok (.iload 5, 2) := by decide +kernel
theorem dX5_sum_56 : decode cX5_sum 56 = .ok (.iaload, 1) := by decide +kernel
theorem dX5_sum_57 : decode cX5_sum 57 = .ok (.iaload, 1) := by decide +kernel
theorem dX5_sum_58 : decode cX5_sum 58 = .ok (.ifCond .ne 47, 3) := by decide +kernel
theorem dX5_sum_61 : decode cX5_sum 61 = .ok (.aload_n 0, 1) := by decide +kernel
theorem dX5_sum_62 : decode cX5_sum 62 = .ok (.getfield 24, 3) := by decide +kernel
theorem dX5_sum_65 : decode cX5_sum 65 = .ok (.aload_n 0, 1) := by decide +kernel
theorem dX5_sum_66 : decode cX5_sum 66 = .ok (.getfield 15, 3) := by decide +kernel
theorem dX5_sum_69 : decode cX5_sum 69 = .ok (.iload 5, 2) := by decide +kernel
theorem dX5_sum_71 : decode cX5_sum 71 = .ok (.iaload, 1) := by decide +kernel
theorem dX5_sum_72 : decode cX5_sum 72 = .ok (.iconst 1, 1) := by decide +kernel
theorem dX5_sum_73 : decode cX5_sum 73 = .ok (.iastore, 1) := by decide +kernel
theorem dX5_sum_74 : decode cX5_sum 74 = .ok (.iload 4, 2) := by decide +kernel
theorem dX5_sum_76 : decode cX5_sum 76 = .ok (.aload_n 0, 1) := by decide +kernel
theorem dX5_sum_77 : decode cX5_sum 77 = .ok (.getfield 18, 3) := by decide +kernel
theorem dX5_sum_80 : decode cX5_sum 80 = .ok (.iload 5, 2) := by decide +kernel
theorem dX5_sum_82 : decode cX5_sum 82 = .ok (.iaload, 1) := by decide +kernel
theorem dX5_sum_83 : decode cX5_sum 83 = .ok (.aload_n 0, 1) := by decide +kernel
theorem dX5_sum_84 : decode cX5_sum 84 = .ok (.getfield 27, 3) := by decide +kernel
theorem dX5_sum_87 : decode cX5_sum 87 = .ok (.iconst 5, 1) := by decide +kernel
theorem dX5_sum_88 : decode cX5_sum 88 = .ok (.iload_n 2, 1) := by decide +kernel
theorem dX5_sum_89 : decode cX5_sum 89 = .ok (.iadd, 1) := by decide +kernel
theorem dX5_sum_90 : decode cX5_sum 90 = .ok (.aload_n 0, 1) := by decide +kernel
theorem dX5_sum_91 : decode cX5_sum 91 = .ok (.getfield 15, 3) := by decide +kernel
theorem dX5_sum_94 : decode cX5_sum 94 = .ok (.iload 5, 2) := by decide +kernel
theorem dX5_sum_96 : decode cX5_sum 96 = .ok (.iaload, 1) := by decide +kernel
theorem dX5_sum_97 : decode cX5_sum 97 = .ok (.iload_n 3, 1) := by decide +kernel
theorem dX5_sum_98 : decode cX5_sum 98 = .ok (.invokevirtual 41, 3) := by decide +kernel
theorem dX5_sum_101 : decode cX5_sum 101 = .ok (.imul, 1) := by decide +kernel
theorem dX5_sum_102 : decode cX5_sum 102 = .ok (.iadd, 1) := by decide +kernel
theorem dX5_sum_103 : decode cX5_sum 103 = .ok (.istore 4, 2) := by decide +kernel
theorem dX5_sum_105 : decode cX5_sum 105 = .ok (.iinc 5 (-1), 3) := by decide +kernel
theorem dX5_sum_108 : decode cX5_sum 108 = .ok (.goto (-89), 3) := by decide +kernel
theorem dX5_sum_111 : decode cX5_sum 111 = .ok (.iload 4, 2) := by decide +kernel
theorem dX5_sum_113 : decode cX5_sum 113 = .ok (.ireturn, 1) := by decide +kernel
theorem dX6_init_0 : decode cX6_init 0 = .ok (.aload_n 0, 1) := by decide +kernel
theorem dX6_init_1 : decode cX6_init 1 = .ok (.invokespecial 3, 3) := by decide +kernel
theorem dX6_init_4 : decode cX6_init 4 = .ok (.aload_n 0, 1) := by decide +kernel
theorem dX6_init_5 : decode cX6_init 5 = .ok (.sipush 200, 3) := by decide +kernel
theorem dX6_init_8 : decode cX6_init 8 = .ok (.newarray .int, 2) := by decide +kernel
theorem dX6_init_10 : decode cX6_init 10 = .ok (.putfield 9, 3) := by decide +kernel
theorem dX6_init_13 : decode cX6_init 13 = .ok (.return_, 1) := by decide +kernel
theorem dX6_hasRoom_0 : decode cX6_hasRoom 0 = .ok (.aload_n 0, 1) := by decide +kernel
theorem dX6_hasRoom_1 : decode cX6_hasRoom 1 = .ok (.getfield 15, 3) := by decide +kernel
theorem dX6_hasRoom_4 : decode cX6_hasRoom 4 = .ok (.bipush 20, 2) := by decide +kernel
theorem dX6_hasRoom_6 : decode cX6_hasRoom 6 = .ok (.iadd, 1) := by decide +kernel
theorem dX6_hasRoom_7 : decode cX6_hasRoom 7 = .ok (.sipush 800, 3) := by decide +kernel
theorem dX6_hasRoom_10 : decode cX6_hasRoom 10 = .ok (.if_icmp .gt 7, 3) := by decide +kernel
theorem dX6_hasRoom_13 : decode cX6_hasRoom 13 = .ok (.iconst 1, 1) := by decide +kernel
theorem dX6_hasRoom_14 : decode cX6_hasRoom 14 = .ok (.goto 4, 3) := by decide +kernel
theorem dX6_hasRoom_17 : decode cX6_hasRoom 17 = .ok (.iconst 0, 1) := by decide +kernel
theorem dX6_hasRoom_18 : decode cX6_hasRoom 18 = .ok (.ireturn, 1) := by decide +kernel
theorem dX6_add_0 : decode cX6_add 0 = .ok (.aload_n 0, 1) := by decide +kernel
theorem dX6_add_1 : decode cX6_add 1 = .ok (.getfield 15, 3) := by decide +kernel
theorem dX6_add_4 : decode cX6_add 4 = .ok (.iconst 4, 1) := by decide +kernel
theorem dX6_add_5 : decode cX6_add 5 = .ok (.idiv, 1) := by decide +kernel
theorem dX6_add_6 : decode cX6_add 6 = .ok (.istore_n 2, 1) := by decide +kernel
theorem dX6_add_7 : decode cX6_add 7 = .ok (.iload_n 2, 1) := by decide +kernel
theorem dX6_add_8 : decode cX6_add 8 = .ok (.aload_n 0, 1) := by decide +kernel
theorem dX6_add_9 : decode cX6_add 9 = .ok (.getfield 9, 3) := by decide +kernel
theorem dX6_add_12 : decode cX6_add 12 = .ok (.arraylength, 1) := by decide +kernel
theorem dX6_add_13 : decode cX6_add 13 = .ok (.if_icmp .ge 20, 3) := by decide +kernel
theorem dX6_add_16 : decode cX6_add 16 = .ok (.aload_n 0, 1) := by decide +kernel
theorem dX6_add_17 : decode cX6_add 17 = .ok (.getfield 9, 3) := by decide +kernel
theorem dX6_add_20 : decode cX6_add 20 = .ok (.iload_n 2, 1) := by decide +kernel
theorem dX6_add_21 : decode cX6_add 21 = .ok (.iload_n 1, 1) := by decide +kernel
theorem dX6_add_22 : decode cX6_add 22 = .ok (.iastore, 1) := by decide +kernel
theorem dX6_add_23 : decode cX6_add 23 = .ok (.aload_n 0, 1) := by decide +kernel
theorem dX6_add_24 : decode cX6_add 24 = .ok (.dup, 1) := by decide +kernel
theorem dX6_add_25 : decode cX6_add 25 = .ok (.getfield 15, 3) := by decide +kernel
theorem dX6_add_28 : decode cX6_add 28 = .ok (.iconst 4, 1) := by decide +kernel
theorem dX6_add_29 : decode cX6_add 29 = .ok (.iadd, 1) := by decide +kernel
theorem dX6_add_30 : decode cX6_add 30 = .ok (.putfield 15, 3) := by decide +kernel
theorem dX6_add_33 : decode cX6_add 33 = .ok (.return_, 1) := by decide +kernel
theorem dX6_byteAt_0 : decode cX6_byteAt 0 = .ok (.iload_n 1, 1) := by decide +kernel
theorem dX6_byteAt_1 : decode cX6_byteAt 1 = .ok (.ifCond .lt 11, 3) := by decide +kernel
theorem dX6_byteAt_4 : decode cX6_byteAt 4 = .ok (.iload_n 1, 1) := by decide +kernel
theorem dX6_byteAt_5 : decode cX6_byteAt 5 = .ok (.aload_n 0, 1) := by decide +kernel
theorem dX6_byteAt_6 : decode cX6_byteAt 6 = .ok (.getfield 15, 3) := by decide +kernel
theorem dX6_byteAt_9 : decode cX6_byteAt 9 = .ok (.if_icmp .lt 5, 3) := by decide +kernel
theorem dX6_byteAt_12 : decode cX6_byteAt 12 = .ok (.iconst (-1), 1) := by decide +kernel
theorem dX6_byteAt_13 : decode cX6_byteAt 13 = .ok (.ireturn, 1) := by decide +kernel
theorem dX6_byteAt_14 : decode cX6_byteAt 14 = .ok (.aload_n 0, 1) := by decide +kernel
theorem dX6_byteAt_15 : decode cX6_byteAt 15 = .ok (.getfield 9, 3) := by decide +kernel
theorem dX6_byteAt_18 : decode cX6_byteAt 18 = .ok (.iload_n 1, 1) := by decide +kernel
theorem dX6_byteAt_19 : decode cX6_byteAt 19 = .ok (.iconst 4, 1) := by decide +kernel
theorem dX6_byteAt_20 : decode cX6_byteAt 20 = .ok (.idiv, 1) := by decide +kernel
theorem dX6_byteAt_21 : decode cX6_byteAt 21 = .ok (.iaload, 1) := by decide +kernel
theorem dX6_byteAt_22 : decode cX6_byteAt 22 = .ok (.bipush 24, 2) := by decide +kernel
theorem dX6_byteAt_24 : decode cX6_byteAt 24 = .ok (.bipush 8, 2) := by decide +kernel
theorem dX6_byteAt_26 : decode cX6_byteAt 26 = .ok (.iload_n 1, 1) := by decide +kernel
theorem dX6_byteAt_27 : decode cX6_byteAt 27 = .ok (.iconst 4, 1) := by decide +kernel
theorem dX6_byteAt_28 : decode cX6_byteAt 28 = .ok (.irem, 1) := by decide +kernel
theorem dX6_byteAt_29 : decode cX6_byteAt 29 = .ok (.imul, 1) := by decide +kernel
theorem dX6_byteAt_30 : decode cX6_byteAt 30 = .ok (.isub, 1) := by decide +kernel
theorem dX6_byteAt_31 : decode cX6_byteAt 31 = .ok (.iushr, 1) := by decide +kernel
theorem dX6_byteAt_32 : decode cX6_byteAt 32 = .ok (.sipush 255, 3) := by decide +kernel
theorem dX6_byteAt_35 : decode cX6_byteAt 35 = .ok (.iand, 1) := by decide +kernel
theorem dX6_byteAt_36 : decode cX6_byteAt 36 = .ok (.ireturn, 1) := by decide +kernel
theorem dX6_clear_0 : decode cX6_clear 0 = .ok (.aload_n 0, 1) := by decide +kernel
theorem dX6_clear_1 : decode cX6_clear 1 = .ok (.iconst 0, 1) := by decide +kernel
theorem dX6_clear_2 : decode cX6_clear 2 = .ok (.putfield 15, 3) := by decide +kernel
theorem dX6_clear_5 : decode cX6_clear 5 = .ok (.return_, 1) := by decide +kernel
set_option maxRecDepth 20000 in
theorem ggX7_init_X6_init : GoodIn wsX7_init wsX6_init := goodIn_r _ [34, 35, 2, 3, 36, 37, 101, 102] (by decide +kernel) (by decide +kernel)
set_option maxRecDepth 20000 in
theorem gX7_init_X6_init_n11 : GoodIn wsX7_init (wsX6_init) := ggX7_init_X6_init
set_option maxRecDepth 20000 in
theorem ggX7_init_X3_init : GoodIn wsX7_init wsX3_init := goodIn_r _ [39, 40, 2, 3, 36, 41, 42, 43, 44, 112, 113, 114, 115, 116, 117, 118, 119, 120, 121] (by decide +kernel) (by decide +kernel)
set_option maxRecDepth 20000 in
theorem gX7_init_X3_init_n18 : GoodIn wsX7_init (wsX3_init) := ggX7_init_X3_init
set_option maxRecDepth 20000 in
theorem ggX7_init_X4_init : GoodIn wsX7_init wsX4_init := goodIn_r _ [46, 47, 2, 3, 36, 48, 49, 50, 51, 122, 123, 124, 125, 126, 127] (by decide +kernel) (by decide +kernel)
set_option maxRecDepth 20000 in
theorem gX7_init_X4_init_n27 : GoodIn wsX7_init (wsX4_init) := ggX7_init_X4_init
set_option maxRecDepth 20000 in
theorem ggX7_init_X1_init : GoodIn wsX7_init wsX1_init := goodIn_r _ [53, 54, 2, 3, 36, 55, 56, 57, 58, 59, 60, 61, 62, 63, 64, 65, 128, 129, 130, 131, 132, 133, 134, 135, 136, 137] (by decide +kernel) (by decide +kernel)
set_option maxRecDepth 20000 in
theorem gX7_init_X1_init_n34 : GoodIn wsX7_init (wsX1_init) := ggX7_init_X1_init
set_option maxRecDepth 20000 in
theorem ggX7_init_X0_init : GoodIn wsX7_init wsX0_init := goodIn_r _ [67, 68, 2, 3, 36, 69, 70, 71, 72, 73, 74, 75, 76, 138, 139, 140, 141, 142, 143, 144, 145, 146] (by decide +kernel) (by decide +kernel)
set_option maxRecDepth 20000 in
theorem gX7_init_X0_init_n41 : GoodIn wsX7_init (wsX0_init) := ggX7_init_X0_init
set_option maxRecDepth 20000 in
theorem ggX7_init_X5_init : GoodIn wsX7_init wsX5_init := goodIn_r _ [78, 79, 2, 3, 36, 80, 81, 82, 83, 84, 85, 147, 148, 149, 150, 151, 152, 153] (by decide +kernel) (by decide +kernel)
set_option maxRecDepth 20000 in
theorem gX7_init_X5_init_n48 : GoodIn wsX7_init (wsX5_init) := ggX7_init_X5_init
set_option maxRecDepth 20000 in
theorem ggX7_init_X2_init : GoodIn wsX7_init wsX2_init := goodIn_r _ [87, 88, 2, 3, 36, 89, 90, 91, 92, 93, 94, 95, 96, 97, 98, 99, 100, 63, 64, 65, 154, 155, 156, 157, 158, 159, 160, 161, 162, 163, 164, 165, 166, 167, 168] (by decide +kernel) (by decide +kernel)
