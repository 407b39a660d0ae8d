theorem dX8_why_58 : decode cX8_why 58 = .ok (.iload_n 3, 1) := by decide +kernel
theorem dX8_why_59 : decode cX8_why 59 = .ok (.iconst 1, 1) := by decide +kernel
theorem dX8_why_60 : decode cX8_why 60 = .ok (.if_icmp .ne 17, 3) := by decide +kernel
theorem dX8_why_63 : decode cX8_why 63 = .ok (.aload_n 0, 1) := by decide +kernel
theorem dX8_why_64 : decode cX8_why 64 = .ok (.getfield 114, 3) := by decide +kernel
theorem dX8_why_67 : decode cX8_why 67 = .ok (.bipush 16, 2) := by decide +kernel
theorem dX8_why_69 : decode cX8_why 69 = .ok (.iload_n 1, 1) := by decide +kernel
theorem dX8_why_70 : decode cX8_why 70 = .ok (.imul, 1) := by decide +kernel
theorem dX8_why_71 : decode cX8_why 71 = .ok (.iload_n 2, 1) := by decide +kernel
theorem dX8_why_72 : decode cX8_why 72 = .ok (.iadd, 1) := by decide +kernel
theorem dX8_why_73 : decode cX8_why 73 = .ok (.iaload, 1) := by decide +kernel
theorem dX8_why_74 : decode cX8_why 74 = .ok (.goto 4, 3) := by decide +kernel
theorem dX8_why_77 : decode cX8_why 77 = .ok (.iconst (-1), 1) := by decide +kernel
theorem dX8_why_78 : decode cX8_why 78 = .ok (.ireturn, 1) := by decide +kernel
theorem dX8_list_0 : decode cX8_list 0 = .ok (.aload_n 0, 1) := by decide +kernel
theorem dX8_list_1 : decode cX8_list 1 = .ok (.iconst 0, 1) := by decide +kernel
theorem dX8_list_2 : decode cX8_list 2 = .ok (.putfield 153, 3) := by decide +kernel
theorem dX8_list_5 : decode cX8_list 5 = .ok (.iload_n 1, 1) := by decide +kernel
theorem dX8_list_6 : decode cX8_list 6 = .ok (.ifCond .lt 12, 3) := by decide +kernel
theorem dX8_list_9 : decode cX8_list 9 = .ok (.iload_n 1, 1) := by decide +kernel
theorem dX8_list_10 : decode cX8_list 10 = .ok (.iconst 2, 1) := by decide +kernel
theorem dX8_list_11 : decode cX8_list 11 = .ok (.if_icmp .gt 7, 3) := by decide +kernel
theorem dX8_list_14 : decode cX8_list 14 = .ok (.iload_n 2, 1) := by decide +kernel
theorem dX8_list_15 : decode cX8_list 15 = .ok (.ifCond .ge 5, 3) := by decide +kernel
theorem dX8_list_18 : decode cX8_list 18 = .ok (.iconst (-1), 1) := by decide +kernel
theorem dX8_list_19 : decode cX8_list 19 = .ok (.ireturn, 1) := by decide +kernel
theorem dX8_list_20 : decode cX8_list 20 = .ok (.iconst 0, 1) := by decide +kernel
theorem dX8_list_21 : decode cX8_list 21 = .ok (.istore_n 3, 1) := by decide +kernel
theorem dX8_list_22 : decode cX8_list 22 = .ok (.iconst 0, 1) := by decide +kernel
theorem dX8_list_23 : decode cX8_list 23 = .ok (.istore 4, 2) := by decide +kernel
theorem dX8_list_25 : decode cX8_list 25 = .ok (.iload 4, 2) := by decide +kernel
theorem dX8_list_27 : decode cX8_list 27 = .ok (.aload_n 0, 1) := by decide +kernel
theorem dX8_list_28 : decode cX8_list 28 = .ok (.getfield 120, 3) := by decide +kernel
theorem dX8_list_31 : decode cX8_list 31 = .ok (.iload_n 1, 1) := by decide +kernel
theorem dX8_list_32 : decode cX8_list 32 = .ok (.iaload, 1) := by decide +kernel
theorem dX8_list_33 : decode cX8_list 33 = .ok (.if_icmp .ge 47, 3) := by decide +kernel
theorem dX8_list_36 : decode cX8_list 36 = .ok (.aload_n 0, 1) := by decide +kernel
theorem dX8_list_37 : decode cX8_list 37 = .ok (.getfield 117, 3) := by decide +kernel
theorem dX8_list_40 : decode cX8_list 40 = .ok (.bipush 16, 2) := by decide +kernel
theorem dX8_list_42 : decode cX8_list 42 = .ok (.iload_n 1, 1) := by decide +kernel
theorem dX8_list_43 : decode cX8_list 43 = .ok (.imul, 1) := by decide +kernel
theorem dX8_list_44 : decode cX8_list 44 = .ok (.iload 4, 2) := by decide +kernel
theorem dX8_list_46 : decode cX8_list 46 = .ok (.iadd, 1) := by decide +kernel
theorem dX8_list_47 : decode cX8_list 47 = .ok (.iaload, 1) := by decide +kernel
theorem dX8_list_48 : decode cX8_list 48 = .ok (.istore 5, 2) := by decide +kernel
theorem dX8_list_50 : decode cX8_list 50 = .ok (.aload_n 0, 1) := by decide +kernel
theorem dX8_list_51 : decode cX8_list 51 = .ok (.getfield 123, 3) := by decide +kernel
theorem dX8_list_54 : decode cX8_list 54 = .ok (.iload 5, 2) := by decide +kernel
theorem dX8_list_56 : decode cX8_list 56 = .ok (.baload, 1) := by decide +kernel
theorem dX8_list_57 : decode cX8_list 57 = .ok (.ifCond .eq 6, 3) := by decide +kernel
theorem dX8_list_60 : decode cX8_list 60 = .ok (.goto 14, 3) := by decide +kernel
theorem dX8_list_63 : decode cX8_list 63 = .ok (.iload_n 3, 1) := by decide +kernel
theorem dX8_list_64 : decode cX8_list 64 = .ok (.iload_n 2, 1) := by decide +kernel
theorem dX8_list_65 : decode cX8_list 65 = .ok (.if_icmp .ne 6, 3) := by decide +kernel
theorem dX8_list_68 : decode cX8_list 68 = .ok (.iload 5, 2) := by decide +kernel
theorem dX8_list_70 : decode cX8_list 70 = .ok (.ireturn, 1) := by decide +kernel
theorem dX8_list_71 : decode cX8_list 71 = .ok (.iinc 3 1, 3) := by decide +kernel
theorem dX8_list_74 : decode cX8_list 74 = .ok (.iinc 4 1, 3) := by decide +kernel
theorem dX8_list_77 : decode cX8_list 77 = .ok (.goto (-52), 3) := by decide +kernel
theorem dX8_list_80 : decode cX8_list 80 = .ok (.iconst (-1), 1) := by decide +kernel
theorem dX8_list_81 : decode cX8_list 81 = .ok (.ireturn, 1) := by decide +kernel
set_option maxRecDepth 20000 in
theorem ggX8_look_X8_isWorker : GoodIn wsX8_look wsX8_isWorker := goodIn_r _ [11, 12, 13, 14, 15, 16, 17, 18, 19, 20, 21, 22, 23, 24, 25, 26, 27, 28, 29, 30, 31, 32, 33, 34, 35, 36, 37, 38, 39, 40, 41, 42, 43, 44, 45, 46, 47, 48, 49, 50, 51, 52, 53, 54, 55, 56, 57, 58, 59, 60, 61, 62, 63, 64, 65, 66, 67, 68, 69, 70, 71, 72, 73, 74, 75, 76, 77, 78, 79, 80, 81, 82, 83, 84] (by decide +kernel) (by decide +kernel)
set_option maxRecDepth 20000 in
theorem gX8_look_X8_isWorker : GoodIn wsX8_look (wsV RX8 244 RX8 yX8_isWorker wsX8_isWorker) := goodIn_app (goodIn_of _ (by decide +kernel)) ggX8_look_X8_isWorker
theorem dX8_look_0 : decode cX8_look 0 = .ok (.aload_n 0, 1) := by decide +kernel
theorem dX8_look_1 : decode cX8_look 1 = .ok (.iconst 0, 1) := by decide +kernel
theorem dX8_look_2 : decode cX8_look 2 = .ok (.putfield 153, 3) := by decide +kernel
theorem dX8_look_5 : decode cX8_look 5 = .ok (.aload_n 0, 1) := by decide +kernel
theorem dX8_look_6 : decode cX8_look 6 = .ok (.iload_n 1, 1) := by decide +kernel
theorem dX8_look_7 : decode cX8_look 7 = .ok (.invokevirtual 244, 3) := by decide +kernel
theorem dX8_look_10 : decode cX8_look 10 = .ok (.ifCond .ne 5, 3) := by decide +kernel
theorem dX8_look_13 : decode cX8_look 13 = .ok (.iconst (-1), 1) := by decide +kernel
theorem dX8_look_14 : decode cX8_look 14 = .ok (.ireturn, 1) := by decide +kernel
theorem dX8_look_15 : decode cX8_look 15 = .ok (.iload_n 2, 1) := by decide +kernel
theorem dX8_look_16 : decode cX8_look 16 = .ok (.tableswitch 77 0 3 #[32, 39, 46, 70], 32) := by decide +kernel
theorem dX8_look_48 : decode cX8_look 48 = .ok (.aload_n 0, 1) := by decide +kernel
theorem dX8_look_49 : decode cX8_look 49 = .ok (.getfield 29, 3) := by decide +kernel
theorem dX8_look_52 : decode cX8_look 52 = .ok (.iload_n 1, 1) := by decide +kernel
theorem dX8_look_53 : decode cX8_look 53 = .ok (.iaload, 1) := by decide +kernel
theorem dX8_look_54 : decode cX8_look 54 = .ok (.ireturn, 1) := by decide +kernel
theorem dX8_look_55 : decode cX8_look 55 = .ok (.aload_n 0, 1) := by decide +kernel
theorem dX8_look_56 : decode cX8_look 56 = .ok (.getfield 32, 3) := by decide +kernel
theorem dX8_look_59 : decode cX8_look 59 = .ok (.iload_n 1, 1) := by decide +kernel
theorem dX8_look_60 : decode cX8_look 60 = .ok (.iaload, 1) := by decide +kernel
theorem dX8_look_61 : decode cX8_look 61 = .ok (.ireturn, 1) := by decide +kernel
theorem dX8_look_62 : decode cX8_look 62 = .ok (.aload_n 0, 1) := by decide +kernel
theorem dX8_look_63 : decode cX8_look 63 = .ok (.getfield 32, 3) := by decide +kernel
theorem dX8_look_66 : decode cX8_look 66 = .ok (.iload_n 1, 1) := by decide +kernel
theorem dX8_look_67 : decode cX8_look 67 = .ok (.iaload, 1) := by decide +kernel
theorem dX8_look_68 : decode cX8_look 68 = .ok (.aload_n 0, 1) := by decide +kernel
theorem dX8_look_69 : decode cX8_look 69 = .ok (.getfield 231, 3) := by decide +kernel
theorem dX8_look_72 : decode cX8_look 72 = .ok (.if_icmp .ge 12, 3) := by decide +kernel
theorem dX8_look_75 : decode cX8_look 75 = .ok (.aload_n 0, 1) := by decide +kernel
theorem dX8_look_76 : decode cX8_look 76 = .ok (.getfield 126, 3) := by decide +kernel
theorem dX8_look_79 : decode cX8_look 79 = .ok (.iload_n 1, 1) := by decide +kernel
theorem dX8_look_80 : decode cX8_look 80 = .ok (.iaload, 1) := by decide +kernel
theorem dX8_look_81 : decode cX8_look 81 = .ok (.goto 4, 3) := by decide +kernel
theorem dX8_look_84 : decode cX8_look 84 = .ok (.iconst (-1), 1) := by decide +kernel
theorem dX8_look_85 : decode cX8_look 85 = .ok (.ireturn, 1) := by decide +kernel
theorem dX8_look_86 : decode cX8_look 86 = .ok (.aload_n 0, 1) := by decide +kernel
theorem dX8_look_87 : decode cX8_look 87 = .ok (.getfield 129, 3) := by decide +kernel
theorem dX8_look_90 : decode cX8_look 90 = .ok (.iload_n 1, 1) := by decide +kernel
theorem dX8_look_91 : decode cX8_look 91 = .ok (.iaload, 1) := by decide +kernel
theorem dX8_look_92 : decode cX8_look 92 = .ok (.ireturn, 1) := by decide +kernel
theorem dX8_look_93 : decode cX8_look 93 = .ok (.iconst (-1), 1) := by decide +kernel
theorem dX8_look_94 : decode cX8_look 94 = .ok (.ireturn, 1) := by decide +kernel
set_option maxRecDepth 20000 in
theorem ggX8_hours_X8_isWorker : GoodIn wsX8_hours wsX8_isWorker := goodIn_r _ [12, 13, 14, 15, 16, 17, 18, 19, 20, 21, 22, 23, 24, 25, 26, 27, 28, 29, 30, 31, 32, 33, 34, 35, 36, 37, 38, 39, 40, 41, 42, 43, 44, 45, 46, 47, 48, 49, 50, 51, 52, 53, 54, 55, 56, 57, 58, 59, 60, 61, 62, 63, 64, 65, 66, 67, 68, 69, 70, 71, 72, 73, 74, 75, 76, 77, 78, 79, 80, 81, 82, 83, 84, 85] (by decide +kernel) (by decide +kernel)
set_option maxRecDepth 20000 in
theorem gX8_hours_X8_isWorker : GoodIn wsX8_hours (wsV RX8 244 RX8 yX8_isWorker wsX8_isWorker) := goodIn_app (goodIn_of _ (by decide +kernel)) ggX8_hours_X8_isWorker
theorem dX8_hours_0 : decode cX8_hours 0 = .ok (.aload_n 0, 1) := by decide +kernel
theorem dX8_hours_1 : decode cX8_hours 1 = .ok (.iconst 0, 1) := by decide +kernel
theorem dX8_hours_2 : decode cX8_hours 2 = .ok (.putfield 153, 3) := by decide +kernel
theorem dX8_hours_5 : decode cX8_hours 5 = .ok (.aload_n 0, 1) := by decide +kernel
theorem dX8_hours_6 : decode cX8_hours 6 = .ok (.iload_n 1, 1) := by decide +kernel
theorem dX8_hours_7 : decode cX8_hours 7 = .ok (.invokevirtual 244, 3) := by decide +kernel
theorem dX8_hours_10 : decode cX8_hours 10 = .ok (.ifCond .eq 35, 3) := by decide +kernel
theorem dX8_hours_13 : decode cX8_hours 13 = .ok (.iload_n 2, 1) := by decide +kernel
theorem dX8_hours_14 : decode cX8_hours 14 = .ok (.ifCond .lt 31, 3) := by decide +kernel
theorem dX8_hours_17 : decode cX8_hours 17 = .ok (.iload_n 2, 1) := by decide +kernel
theorem dX8_hours_18 : decode cX8_hours 18 = .ok (.aload_n 0, 1) := by decide +kernel
theorem dX8_hours_19 : decode cX8_hours 19 = .ok (.getfield 231, 3) := by decide +kernel
theorem dX8_hours_22 : decode cX8_hours 22 = .ok (.if_icmp .gt 23, 3) := by decide +kernel
theorem dX8_hours_25 : decode cX8_hours 25 = .ok (.iload_n 3, 1) := by decide +kernel
theorem dX8_hours_26 : decode cX8_hours 26 = .ok (.ifCond .lt 19, 3) := by decide +kernel
theorem dX8_hours_29 : decode cX8_hours 29 = .ok (.iload_n 3, 1) := by decide +kernel
theorem dX8_hours_30 : decode cX8_hours 30 = .ok (.bipush 24, 2) := by decide +kernel
theorem dX8_hours_32 : decode cX8_hours 32 = .ok (.if_icmp .gt 13, 3) := by decide +kernel
theorem dX8_hours_35 : decode cX8_hours 35 = .ok (.aload_n 0, 1) := by decide +kernel
theorem dX8_hours_36 : decode cX8_hours 36 = .ok (.getfield 300, 3) := by decide +kernel
theorem dX8_hours_39 : decode cX8_hours 39 = .ok (.sipush 150, 3) := by decide +kernel
theorem dX8_hours_42 : decode cX8_hours 42 = .ok (.if_icmp .ne 5, 3) := by decide +kernel
theorem dX8_hours_45 : decode cX8_hours 45 = .ok (.iconst 0, 1) := by decide +kernel
theorem dX8_hours_46 : decode cX8_hours 46 = .ok (.ireturn, 1) := by decide +kernel
theorem dX8_hours_47 : decode cX8_hours 47 = .ok (.aload_n 0, 1) := by decide +kernel
theorem dX8_hours_48 : decode cX8_hours 48 = .ok (.getfield 132, 3) := by decide +kernel
theorem dX8_hours_51 : decode cX8_hours 51 = .ok (.aload_n 0, 1) := by decide +kernel
theorem dX8_hours_52 : decode cX8_hours 52 = .ok (.getfield 300, 3) := by decide +kernel
theorem dX8_hours_55 : decode cX8_hours 55 = .ok (.iload_n 1, 1) := by decide +kernel
theorem dX8_hours_56 : decode cX8_hours 56 = .ok (.iastore, 1) := by decide +kernel
theorem dX8_hours_57 : decode cX8_hours 57 = .ok (.aload_n 0, 1) := by decide +kernel
theorem dX8_hours_58 : decode cX8_hours 58 = .ok (.getfield 135, 3) := by decide +kernel
theorem dX8_hours_61 : decode cX8_hours 61 = .ok (.aload_n 0, 1) := by decide +kernel
theorem dX8_hours_62 : decode cX8_hours 62 = .ok (.getfield 300, 3) := by decide +kernel
theorem dX8_hours_65 : decode cX8_hours 65 = .ok (.iload_n 2, 1) := by decide +kernel
theorem dX8_hours_66 : decode cX8_hours 66 = .ok (.iastore, 1) := by decide +kernel
theorem dX8_hours_67 : decode cX8_hours 67 = .ok (.aload_n 0, 1) := by decide +kernel
theorem dX8_hours_68 : decode cX8_hours 68 = .ok (.getfield 138, 3) := by decide +kernel
theorem dX8_hours_71 : decode cX8_hours 71 = .ok (.aload_n 0, 1) := by decide +kernel
theorem dX8_hours_72 : decode cX8_hours 72 = .ok (.getfield 300, 3) := by decide +kernel
theorem dX8_hours_75 : decode cX8_hours 75 = .ok (.aload_n 0, 1) := by decide +kernel
theorem dX8_hours_76 : decode cX8_hours 76 = .ok (.getfield 231, 3) := by decide +kernel
theorem dX8_hours_79 : decode cX8_hours 79 = .ok (.iastore, 1) := by decide +kernel
theorem dX8_hours_80 : decode cX8_hours 80 = .ok (.aload_n 0, 1) := by decide +kernel
theorem dX8_hours_81 : decode cX8_hours 81 = .ok (.getfield 141, 3) := by decide +kernel
theorem dX8_hours_84 : decode cX8_hours 84 = .ok (.aload_n 0, 1) := by decide +kernel
theorem dX8_hours_85 : decode cX8_hours 85 = .ok (.getfield 300, 3) := by decide +kernel
theorem dX8_hours_88 : decode cX8_hours 88 = .ok (.iload_n 3, 1) := by decide +kernel
theorem dX8_hours_89 : decode cX8_hours 89 = .ok (.iastore, 1) := by decide +kernel
theorem dX8_hours_90 : decode cX8_hours 90 = .ok (.aload_n 0, 1) := by decide +kernel
theorem dX8_hours_91 : decode cX8_hours 91 = .ok (.dup, 1) := by decide +kernel
theorem dX8_hours_92 : decode cX8_hours 92 = .ok (.getfield 300, 3) := by decide +kernel
theorem dX8_hours_95 : decode cX8_hours 95 = .ok (.iconst 1, 1) := by decide +kernel
theorem dX8_hours_96 : decode cX8_hours 96 = .ok (.iadd, 1) := by decide +kernel
theorem dX8_hours_97 : decode cX8_hours 97 = .ok (.putfield 300, 3) := by decide +kernel
theorem dX8_hours_100 : decode cX8_hours 100 = .ok (.iconst 1, 1) := by decide +kernel
theorem dX8_hours_101 : decode cX8_hours 101 = .ok (.ireturn, 1) := by decide +kernel
set_option maxRecDepth 20000 in
theorem ggX8_bank_X8_isWorker : GoodIn wsX8_bank wsX8_isWorker := goodIn_r _ [12, 13, 23, 24, 25, 26, 27, 28, 29, 30, 31, 32, 33, 34, 35, 36, 37, 38, 39, 40, 41, 42, 43, 44, 45, 46, 47, 48, 49, 50, 51, 52, 53, 54, 55, 56, 57, 58, 59, 60, 61, 62, 63, 64, 65, 66, 67, 68, 69, 70, 71, 72, 73, 74, 75, 76, 77, 78, 79, 80, 81, 82, 83, 84, 85, 86, 87, 88, 89, 90, 91, 92, 93, 94] (by decide +kernel) (by decide +kernel)
set_option maxRecDepth 20000 in
theorem gX8_bank_X8_isWorker : GoodIn wsX8_bank (wsV RX8 244 RX8 yX8_isWorker wsX8_isWorker) := goodIn_app (goodIn_of _ (by decide +kernel)) ggX8_bank_X8_isWorker
set_option maxRecDepth 20000 in
theorem ggX8_bank_X8_lawOf : GoodIn wsX8_bank wsX8_lawOf := goodIn_r _ [17, 18, 19, 20, 21, 22, 23, 24, 25, 26, 27, 28, 29, 30, 31, 32, 33, 34, 35, 36, 37, 38, 39, 40, 41, 42, 43, 44, 45, 46, 47, 48, 49, 50, 51, 52, 53, 54, 55, 56, 57, 58, 59, 60, 61, 62, 63, 64, 65, 66, 67, 68, 69, 70, 71, 72, 73, 74, 75, 76, 77, 78, 79, 80, 81, 82, 83, 84, 85, 86, 87, 88, 89, 90, 91, 92, 93, 94] (by decide +kernel) (by decide +kernel)
set_option maxRecDepth 20000 in
theorem gX8_bank_X8_lawOf : GoodIn wsX8_bank (wsV RX8 237 RX8 yX8_lawOf wsX8_lawOf) := goodIn_app (goodIn_of _ (by decide +kernel)) ggX8_bank_X8_lawOf
theorem dX8_bank_0 : decode cX8_bank 0 = .ok (.aload_n 0, 1) := by decide +kernel
theorem dX8_bank_1 : decode cX8_bank 1 = .ok (.iconst 0, 1) := by decide +kernel
theorem dX8_bank_2 : decode cX8_bank 2 = .ok (.putfield 153, 3) := by decide +kernel
theorem dX8_bank_5 : decode cX8_bank 5 = .ok (.aload_n 0, 1) := by decide +kernel
theorem dX8_bank_6 : decode cX8_bank 6 = .ok (.iload_n 1, 1) := by decide +kernel
theorem dX8_bank_7 : decode cX8_bank 7 = .ok (.invokevirtual 244, 3) := by decide +kernel
theorem dX8_bank_10 : decode cX8_bank 10 = .ok (.ifCond .eq 24, 3) := by decide +kernel
theorem dX8_bank_13 : decode cX8_bank 13 = .ok (.iload_n 2, 1) := by decide +kernel
theorem dX8_bank_14 : decode cX8_bank 14 = .ok (.ifCond .lt 20, 3) := by decide +kernel
theorem dX8_bank_17 : decode cX8_bank 17 = .ok (.iload_n 2, 1) := by decide +kernel
theorem dX8_bank_18 : decode cX8_bank 18 = .ok (.iconst 2, 1) := by decide +kernel
theorem dX8_bank_19 : decode cX8_bank 19 = .ok (.if_icmp .gt 15, 3) := by decide +kernel
theorem dX8_bank_22 : decode cX8_bank 22 = .ok (.iload_n 3, 1) := by decide +kernel
theorem dX8_bank_23 : decode cX8_bank 23 = .ok (.ifCond .lt 11, 3) := by decide +kernel
theorem dX8_bank_26 : decode cX8_bank 26 = .ok (.iload_n 3, 1) := by decide +kernel
theorem dX8_bank_27 : decode cX8_bank 27 = .ok (.aload_n 0, 1) := by decide +kernel
theorem dX8_bank_28 : decode cX8_bank 28 = .ok (.getfield 231, 3) := by decide +kernel
theorem dX8_bank_31 : decode cX8_bank 31 = .ok (.if_icmp .le 5, 3) := by decide +kernel
theorem dX8_bank_34 : decode cX8_bank 34 = .ok (.iconst (-1), 1) := by decide +kernel
theorem dX8_bank_35 : decode cX8_bank 35 = .ok (.ireturn, 1) := by decide +kernel
theorem dX8_bank_36 : decode cX8_bank 36 = .ok (.iconst 0, 1) := by decide +kernel
theorem dX8_bank_37 : decode cX8_bank 37 = .ok (.istore 4, 2) := by decide +kernel
theorem dX8_bank_39 : decode cX8_bank 39 = .ok (.iconst 0, 1) := by decide +kernel
theorem dX8_bank_40 : decode cX8_bank 40 = .ok (.istore 5, 2) := by decide +kernel
theorem dX8_bank_42 : decode cX8_bank 42 = .ok (.iload 5, 2) := by decide +kernel
theorem dX8_bank_44 : decode cX8_bank 44 = .ok (.bipush 100, 2) := by decide +kernel
theorem dX8_bank_46 : decode cX8_bank 46 = .ok (.if_icmp .ge 100, 3) := by decide +kernel
theorem dX8_bank_49 : decode cX8_bank 49 = .ok (.iconst 0, 1) := by decide +kernel
theorem dX8_bank_50 : decode cX8_bank 50 = .ok (.istore 6, 2) := by decide +kernel
theorem dX8_bank_52 : decode cX8_bank 52 = .ok (.iconst 0, 1) := by decide +kernel
theorem dX8_bank_53 : decode cX8_bank 53 = .ok (.istore 7, 2) := by decide +kernel
theorem dX8_bank_55 : decode cX8_bank 55 = .ok (.iload 7, 2) := by decide +kernel
theorem dX8_bank_57 : decode cX8_bank 57 = .ok (.aload_n 0, 1) := by decide +kernel
theorem dX8_bank_58 : decode cX8_bank 58 = .ok (.getfield 300, 3) := by decide +kernel
theorem dX8_bank_61 : decode cX8_bank 61 = .ok (.if_icmp .ge 52, 3) := by decide +kernel
theorem dX8_bank_64 : decode cX8_bank 64 = .ok (.aload_n 0, 1) := by decide +kernel
theorem dX8_bank_65 : decode cX8_bank 65 = .ok (.getfield 132, 3) := by decide +kernel
theorem dX8_bank_68 : decode cX8_bank 68 = .ok (.iload 7, 2) := by decide +kernel
theorem dX8_bank_70 : decode cX8_bank 70 = .ok (.iaload, 1) := by decide +kernel
theorem dX8_bank_71 : decode cX8_bank 71 = .ok (.iload_n 1, 1) := by decide +kernel
theorem dX8_bank_72 : decode cX8_bank 72 = .ok (.if_icmp .ne 35, 3) := by decide +kernel
theorem dX8_bank_75 : decode cX8_bank 75 = .ok (.aload_n 0, 1) := by decide +kernel
theorem dX8_bank_76 : decode cX8_bank 76 = .ok (.getfield 135, 3) := by decide +kernel
theorem dX8_bank_79 : decode cX8_bank 79 = .ok (.iload 7, 2) := by decide +kernel
theorem dX8_bank_81 : decode cX8_bank 81 = .ok (.iaload, 1) := by decide +kernel
theorem dX8_bank_82 : decode cX8_bank 82 = .ok (.iload 5, 2) := by decide +kernel
theorem dX8_bank_84 : decode cX8_bank 84 = .ok (.if_icmp .ne 23, 3) := by decide +kernel
theorem dX8_bank_87 : decode cX8_bank 87 = .ok (.aload_n 0, 1) := by decide +kernel
theorem dX8_bank_88 : decode cX8_bank 88 = .ok (.getfield 138, 3) := by decide +kernel
theorem dX8_bank_91 : decode cX8_bank 91 = .ok (.iload 7, 2) := by decide +kernel
theorem dX8_bank_93 : decode cX8_bank 93 = .ok (.iaload, 1) := by decide +kernel
theorem dX8_bank_94 : decode cX8_bank 94 = .ok (.iload_n 3, 1) := by decide +kernel
theorem dX8_bank_95 : decode cX8_bank 95 = .ok (.if_icmp .gt 12, 3) := by decide +kernel
theorem dX8_bank_98 : decode cX8_bank 98 = .ok (.aload_n 0, 1) := by decide +kernel
theorem dX8_bank_99 : decode cX8_bank 99 = .ok (.getfield 141, 3) := by decide +kernel
theorem dX8_bank_102 : decode cX8_bank 102 = .ok (.iload 7, 2) := by decide +kernel
theorem dX8_bank_104 : decode cX8_bank 104 = .ok (.iaload, 1) := by decide +kernel
theorem dX8_bank_105 : decode cX8_bank 105 = .ok (.istore 6, 2) := by decide +kernel
theorem dX8_bank_107 : decode cX8_bank 107 = .ok (.iinc 7 1, 3) := by decide +kernel
theorem dX8_bank_110 : decode cX8_bank 110 = .ok (.goto (-55), 3) := by decide +kernel
theorem dX8_bank_113 : decode cX8_bank 113 = .ok (.iload 4, 2) := by decide +kernel
theorem dX8_bank_115 : decode cX8_bank 115 = .ok (.iload 6, 2) := by decide +kernel
theorem dX8_bank_117 : decode cX8_bank 117 = .ok (.ifCond .ne 7, 3) := by decide +kernel
theorem dX8_bank_120 : decode cX8_bank 120 = .ok (.iconst 0, 1) := by decide +kernel
theorem dX8_bank_121 : decode cX8_bank 121 = .ok (.goto 16, 3) := by decide +kernel
theorem dX8_bank_124 : decode cX8_bank 124 = .ok (.iload 6, 2) := by decide +kernel
theorem dX8_bank_126 : decode cX8_bank 126 = .ok (.aload_n 0, 1) := by decide +kernel
theorem dX8_bank_127 : decode cX8_bank 127 = .ok (.iconst 5, 1) := by decide +kernel
theorem dX8_bank_128 : decode cX8_bank 128 = .ok (.iload_n 2, 1) := by decide +kernel
theorem dX8_bank_129 : decode cX8_bank 129 = .ok (.iadd, 1) := by decide +kernel
theorem dX8_bank_130 : decode cX8_bank 130 = .ok (.iload 5, 2) := by decide +kernel
theorem dX8_bank_132 : decode cX8_bank 132 = .ok (.iload_n 3, 1) := by decide +kernel
theorem dX8_bank_133 : decode cX8_bank 133 = .ok (.invokevirtual 237, 3) := by decide +kernel
theorem dX8_bank_136 : decode cX8_bank 136 = .ok (.imul, 1) := by decide +kernel
theorem dX8_bank_137 : decode cX8_bank 137 = .ok (.iadd, 1) := by decide +kernel
theorem dX8_bank_138 : decode cX8_bank 138 = .ok (.istore 4, 2) := by decide +kernel
theorem dX8_bank_140 : decode cX8_bank 140 = .ok (.iinc 5 1, 3) := by decide +kernel
theorem dX8_bank_143 : decode cX8_bank 143 = .ok (.goto (-101), 3) := by decide +kernel
theorem dX8_bank_146 : decode cX8_bank 146 = .ok (.iload 4, 2) := by decide +kernel
theorem dX8_bank_148 : decode cX8_bank 148 = .ok (.ireturn, 1) := by decide +kernel
set_option maxRecDepth 20000 in
theorem ggX8_anew_X8_works : GoodIn wsX8_anew wsX8_works := goodIn_r _ [16, 17, 18, 19, 20, 7, 21, 22, 23, 24, 25, 15, 26, 5, 27, 28, 29, 30, 31, 32, 33, 34, 35, 36, 37, 38, 39, 40, 41, 42, 43, 44, 45, 46, 47, 48, 4, 6, 49, 50, 51, 52, 53, 54, 55, 56, 57, 58, 59, 60, 61, 62, 63, 64, 65, 66, 67, 68, 69, 70, 71, 72, 73, 74, 75, 76, 77, 78, 79, 80, 81, 82, 83, 84, 85, 86, 87, 88, 89, 90, 91, 92, 93, 94, 95, 96, 97, 98, 99, 100, 101, 102, 103, 104, 105, 106, 107, 108, 109, 110, 111, 112, 113, 114, 115, 116, 117, 118, 119, 120, 121, 122, 123, 124, 125, 126, 127, 128, 129, 130, 131, 132, 133, 134, 135, 136, 137, 138, 139, 140, 141, 142, 143, 144, 145, 146, 147, 148, 149, 150, 151, 152, 153, 154, 155, 156] (by decide +kernel) (by decide +kernel)
set_option maxRecDepth 20000 in
theorem gX8_anew_X8_works : GoodIn wsX8_anew (wsV RX8 294 RX8 yX8_works wsX8_works) := goodIn_app (goodIn_of _ (by decide +kernel)) ggX8_anew_X8_works
theorem dX8_anew_0 : decode cX8_anew 0 = .ok (.aload_n 0, 1) := by decide +kernel
theorem dX8_anew_1 : decode cX8_anew 1 = .ok (.iconst 0, 1) := by decide +kernel
theorem dX8_anew_2 : decode cX8_anew 2 = .ok (.putfield 153, 3) := by decide +kernel
theorem dX8_anew_5 : decode cX8_anew 5 = .ok (.iload_n 1, 1) := by decide +kernel
theorem dX8_anew_6 : decode cX8_anew 6 = .ok (.ifCond .lt 23, 3) := by decide +kernel
theorem dX8_anew_9 : decode cX8_anew 9 = .ok (.iload_n 1, 1) := by decide +kernel
theorem dX8_anew_10 : decode cX8_anew 10 = .ok (.aload_n 0, 1) := by decide +kernel
theorem dX8_anew_11 : decode cX8_anew 11 = .ok (.getfield 231, 3) := by decide +kernel
theorem dX8_anew_14 : decode cX8_anew 14 = .ok (.if_icmp .gt 15, 3) := by decide +kernel
theorem dX8_anew_17 : decode cX8_anew 17 = .ok (.iload_n 2, 1) := by decide +kernel
theorem dX8_anew_18 : decode cX8_anew 18 = .ok (.ifCond .lt 11, 3) := by decide +kernel
theorem dX8_anew_21 : decode cX8_anew 21 = .ok (.iload_n 2, 1) := by decide +kernel
theorem dX8_anew_22 : decode cX8_anew 22 = .ok (.aload_n 0, 1) := by decide +kernel
theorem dX8_anew_23 : decode cX8_anew 23 = .ok (.getfield 231, 3) := by decide +kernel
theorem dX8_anew_26 : decode cX8_anew 26 = .ok (.if_icmp .le 5, 3) := by decide +kernel
theorem dX8_anew_29 : decode cX8_anew 29 = .ok (.iconst (-1), 1) := by decide +kernel
theorem dX8_anew_30 : decode cX8_anew 30 = .ok (.ireturn, 1) := by decide +kernel
theorem dX8_anew_31 : decode cX8_anew 31 = .ok (.aload_n 0, 1) := by decide +kernel
theorem dX8_anew_32 : decode cX8_anew 32 = .ok (.iload_n 1, 1) := by decide +kernel
theorem dX8_anew_33 : decode cX8_anew 33 = .ok (.iload_n 2, 1) := by decide +kernel
theorem dX8_anew_34 : decode cX8_anew 34 = .ok (.invokevirtual 294, 3) := by decide +kernel
theorem dX8_anew_37 : decode cX8_anew 37 = .ok (.aload_n 0, 1) := by decide +kernel
theorem dX8_anew_38 : decode cX8_anew 38 = .ok (.iconst 0, 1) := by decide +kernel
theorem dX8_anew_39 : decode cX8_anew 39 = .ok (.putfield 303, 3) := by decide +kernel
theorem dX8_anew_42 : decode cX8_anew 42 = .ok (.iconst 0, 1) := by decide +kernel
theorem dX8_anew_43 : decode cX8_anew 43 = .ok (.istore_n 3, 1) := by decide +kernel
theorem dX8_anew_44 : decode cX8_anew 44 = .ok (.iload_n 3, 1) := by decide +kernel
theorem dX8_anew_45 : decode cX8_anew 45 = .ok (.aload_n 0, 1) := by decide +kernel
theorem dX8_anew_46 : decode cX8_anew 46 = .ok (.getfield 253, 3) := by decide +kernel
theorem dX8_anew_49 : decode cX8_anew 49 = .ok (.if_icmp .ge 139, 3) := by decide +kernel
theorem dX8_anew_52 : decode cX8_anew 52 = .ok (.iconst 0, 1) := by decide +kernel
theorem dX8_anew_53 : decode cX8_anew 53 = .ok (.istore 4, 2) := by decide +kernel
theorem dX8_anew_55 : decode cX8_anew 55 = .ok (.iload 4, 2) := by decide +kernel
theorem dX8_anew_57 : decode cX8_anew 57 = .ok (.aload_n 0, 1) := by decide +kernel
theorem dX8_anew_58 : decode cX8_anew 58 = .ok (.getfield 241, 3) := by decide +kernel
theorem dX8_anew_61 : decode cX8_anew 61 = .ok (.if_icmp .ge 121, 3) := by decide +kernel
theorem dX8_anew_64 : decode cX8_anew 64 = .ok (.aload_n 0, 1) := by decide +kernel
theorem dX8_anew_65 : decode cX8_anew 65 = .ok (.getfield 74, 3) := by decide +kernel
theorem dX8_anew_68 : decode cX8_anew 68 = .ok (.iload_n 3, 1) := by decide +kernel
theorem dX8_anew_69 : decode cX8_anew 69 = .ok (.iaload, 1) := by decide +kernel
theorem dX8_anew_70 : decode cX8_anew 70 = .ok (.iload_n 1, 1) := by decide +kernel
theorem dX8_anew_71 : decode cX8_anew 71 = .ok (.if_icmp .ge 111, 3) := by decide +kernel
theorem dX8_anew_74 : decode cX8_anew 74 = .ok (.aload_n 0, 1) := by decide +kernel
theorem dX8_anew_75 : decode cX8_anew 75 = .ok (.getfield 102, 3) := by decide +kernel
theorem dX8_anew_78 : decode cX8_anew 78 = .ok (.bipush 16, 2) := by decide +kernel
theorem dX8_anew_80 : decode cX8_anew 80 = .ok (.iload_n 3, 1) := by decide +kernel
theorem dX8_anew_81 : decode cX8_anew 81 = .ok (.imul, 1) := by decide +kernel
theorem dX8_anew_82 : decode cX8_anew 82 = .ok (.iload 4, 2) := by decide +kernel
theorem dX8_anew_84 : decode cX8_anew 84 = .ok (.iadd, 1) := by decide +kernel
theorem dX8_anew_85 : decode cX8_anew 85 = .ok (.iaload, 1) := by decide +kernel
theorem dX8_anew_86 : decode cX8_anew 86 = .ok (.iconst 5, 1) := by decide +kernel
theorem dX8_anew_87 : decode cX8_anew 87 = .ok (.if_icmp .ne 7, 3) := by decide +kernel
theorem dX8_anew_90 : decode cX8_anew 90 = .ok (.iconst 1, 1) := by decide +kernel
theorem dX8_anew_91 : decode cX8_anew 91 = .ok (.goto 4, 3) := by decide +kernel
theorem dX8_anew_94 : decode cX8_anew 94 = .ok (.iconst 0, 1) := by decide +kernel
theorem dX8_anew_95 : decode cX8_anew 95 = .ok (.istore 5, 2) := by decide +kernel
theorem dX8_anew_97 : decode cX8_anew 97 = .ok (.iload 5, 2) := by decide +kernel
theorem dX8_anew_99 : decode cX8_anew 99 = .ok (.aload_n 0, 1) := by decide +kernel
theorem dX8_anew_100 : decode cX8_anew 100 = .ok (.getfield 111, 3) := by decide +kernel
theorem dX8_anew_103 : decode cX8_anew 103 = .ok (.bipush 16, 2) := by decide +kernel
theorem dX8_anew_105 : decode cX8_anew 105 = .ok (.iload_n 3, 1) := by decide +kernel
theorem dX8_anew_106 : decode cX8_anew 106 = .ok (.imul, 1) := by decide +kernel
theorem dX8_anew_107 : decode cX8_anew 107 = .ok (.iload 4, 2) := by decide +kernel
theorem dX8_anew_109 : decode cX8_anew 109 = .ok (.iadd, 1) := by decide +kernel
theorem dX8_anew_110 : decode cX8_anew 110 = .ok (.iaload, 1) := by decide +kernel
theorem dX8_anew_111 : decode cX8_anew 111 = .ok (.iconst 5, 1) := by decide +kernel
theorem dX8_anew_112 : decode cX8_anew 112 = .ok (.if_icmp .ne 7, 3) := by decide +kernel
theorem dX8_anew_115 : decode cX8_anew 115 = .ok (.iconst 1, 1) := by decide +kernel
theorem dX8_anew_116 : decode cX8_anew 116 = .ok (.goto 4, 3) := by decide +kernel
theorem dX8_anew_119 : decode cX8_anew 119 = .ok (.iconst 0, 1) := by decide +kernel
theorem dX8_anew_120 : decode cX8_anew 120 = .ok (.if_icmp .ne 6, 3) := by decide +kernel
theorem dX8_anew_123 : decode cX8_anew 123 = .ok (.goto 53, 3) := by decide +kernel
theorem dX8_anew_126 : decode cX8_anew 126 = .ok (.aload_n 0, 1) := by decide +kernel
theorem dX8_anew_127 : decode cX8_anew 127 = .ok (.getfield 144, 3) := by decide +kernel
theorem dX8_anew_130 : decode cX8_anew 130 = .ok (.aload_n 0, 1) := by decide +kernel
theorem dX8_anew_131 : decode cX8_anew 131 = .ok (.getfield 303, 3) := by decide +kernel
theorem dX8_anew_134 : decode cX8_anew 134 = .ok (.iload_n 3, 1) := by decide +kernel
theorem dX8_anew_135 : decode cX8_anew 135 = .ok (.iastore, 1) := by decide +kernel
theorem dX8_anew_136 : decode cX8_anew 136 = .ok (.aload_n 0, 1) := by decide +kernel
theorem dX8_anew_137 : decode cX8_anew 137 = .ok (.getfield 147, 3) := by decide +kernel
theorem dX8_anew_140 : decode cX8_anew 140 = .ok (.aload_n 0, 1) := by decide +kernel
theorem dX8_anew_141 : decode cX8_anew 141 = .ok (.getfield 303, 3) := by decide +kernel
theorem dX8_anew_144 : decode cX8_anew 144 = .ok (.iload 4, 2) := by decide +kernel
theorem dX8_anew_146 : decode cX8_anew 146 = .ok (.iastore, 1) := by decide +kernel
theorem dX8_anew_147 : decode cX8_anew 147 = .ok (.aload_n 0, 1) := by decide +kernel
theorem dX8_anew_148 : decode cX8_anew 148 = .ok (.getfield 150, 3) := by decide +kernel
theorem dX8_anew_151 : decode cX8_anew 151 = .ok (.aload_n 0, 1) := by decide +kernel
theorem dX8_anew_152 : decode cX8_anew 152 = .ok (.getfield 303, 3) := by decide +kernel
theorem dX8_anew_155 : decode cX8_anew 155 = .ok (.iload 5, 2) := by decide +kernel
theorem dX8_anew_157 : decode cX8_anew 157 = .ok (.ifCond .eq 7, 3) := by decide +kernel
theorem dX8_anew_160 : decode cX8_anew 160 = .ok (.iconst 1, 1) := by decide +kernel
theorem dX8_anew_161 : decode cX8_anew 161 = .ok (.goto 4, 3) := by decide +kernel
theorem dX8_anew_164 : decode cX8_anew 164 = .ok (.iconst 0, 1) := by decide +kernel
theorem dX8_anew_165 : decode cX8_anew 165 = .ok (.iastore, 1) := by decide +kernel
theorem dX8_anew_166 : decode cX8_anew 166 = .ok (.aload_n 0, 1) := by decide +kernel
theorem dX8_anew_167 : decode cX8_anew 167 = .ok (.dup, 1) := by decide +kernel
theorem dX8_anew_168 : decode cX8_anew 168 = .ok (.getfield 303, 3) := by decide +kernel
theorem dX8_anew_171 : decode cX8_anew 171 = .ok (.iconst 1, 1) := by decide +kernel
theorem dX8_anew_172 : decode cX8_anew 172 = .ok (.iadd, 1) := by decide +kernel
theorem dX8_anew_173 : decode cX8_anew 173 = .ok (.putfield 303, 3) := by decide +kernel
theorem dX8_anew_176 : decode cX8_anew 176 = .ok (.iinc 4 1, 3) := by decide +kernel
theorem dX8_anew_179 : decode cX8_anew 179 = .ok (.goto (-124), 3) := by decide +kernel
theorem dX8_anew_182 : decode cX8_anew 182 = .ok (.iinc 3 1, 3) := by decide +kernel
theorem dX8_anew_185 : decode cX8_anew 185 = .ok (.goto (-141), 3) := by decide +kernel
theorem dX8_anew_188 : decode cX8_anew 188 = .ok (.aload_n 0, 1) := by decide +kernel
theorem dX8_anew_189 : decode cX8_anew 189 = .ok (.getfield 303, 3) := by decide +kernel
theorem dX8_anew_192 : decode cX8_anew 192 = .ok (.ireturn, 1) := by decide +kernel
theorem dX8_differs_0 : decode cX8_differs 0 = .ok (.aload_n 0, 1) := by decide +kernel
theorem dX8_differs_1 : decode cX8_differs 1 = .ok (.iconst 0, 1) := by decide +kernel
theorem dX8_differs_2 : decode cX8_differs 2 = .ok (.putfield 153, 3) := by decide +kernel
theorem dX8_differs_5 : decode cX8_differs 5 = .ok (.iload_n 1, 1) := by decide +kernel
theorem dX8_differs_6 : decode cX8_differs 6 = .ok (.ifCond .lt 11, 3) := by decide +kernel
theorem dX8_differs_9 : decode cX8_differs 9 = .ok (.iload_n 1, 1) := by decide +kernel
theorem dX8_differs_10 : decode cX8_differs 10 = .ok (.aload_n 0, 1) := by decide +kernel
theorem dX8_differs_11 : decode cX8_differs 11 = .ok (.getfield 303, 3) := by decide +kernel
theorem dX8_differs_14 : decode cX8_differs 14 = .ok (.if_icmp .lt 5, 3) := by decide +kernel
theorem dX8_differs_17 : decode cX8_differs 17 = .ok (.iconst (-1), 1) := by decide +kernel
theorem dX8_differs_18 : decode cX8_differs 18 = .ok (.ireturn, 1) := by decide +kernel
theorem dX8_differs_19 : decode cX8_differs 19 = .ok (.iload_n 2, 1) := by decide +kernel
theorem dX8_differs_20 : decode cX8_differs 20 = .ok (.ifCond .ne 12, 3) := by decide +kernel
theorem dX8_differs_23 : decode cX8_differs 23 = .ok (.aload_n 0, 1) := by decide +kernel
theorem dX8_differs_24 : decode cX8_differs 24 = .ok (.getfield 144, 3) := by decide +kernel
theorem dX8_differs_27 : decode cX8_differs 27 = .ok (.iload_n 1, 1) := by decide +kernel
theorem dX8_differs_28 : decode cX8_differs 28 = .ok (.iaload, 1) := by decide +kernel
theorem dX8_differs_29 : decode cX8_differs 29 = .ok (.goto 32, 3) := by decide +kernel
theorem dX8_differs_32 : decode cX8_differs 32 = .ok (.iload_n 2, 1) := by decide +kernel
theorem dX8_differs_33 : decode cX8_differs 33 = .ok (.iconst 1, 1) := by decide +kernel
theorem dX8_differs_34 : decode cX8_differs 34 = .ok (.if_icmp .ne 12, 3) := by decide +kernel
theorem dX8_differs_37 : decode cX8_differs 37 = .ok (.aload_n 0, 1) := by decide +kernel
theorem dX8_differs_38 : decode cX8_differs 38 = .ok (.getfield 147, 3) := by decide +kernel
theorem dX8_differs_41 : decode cX8_differs 41 = .ok (.iload_n 1, 1) := by decide +kernel
theorem dX8_differs_42 : decode cX8_differs 42 = .ok (.iaload, 1) := by decide +kernel
theorem dX8_differs_43 : decode cX8_differs 43 = .ok (.goto 18, 3) := by decide +kernel
theorem dX8_differs_46 : decode cX8_differs 46 = .ok (.iload_n 2, 1) := by decide +kernel
theorem dX8_differs_47 : decode cX8_differs 47 = .ok (.iconst 2, 1) := by decide +kernel
theorem dX8_differs_48 : decode cX8_differs 48 = .ok (.if_icmp .ne 12, 3) := by decide +kernel
theorem dX8_differs_51 : decode cX8_differs 51 = .ok (.aload_n 0, 1) := by decide +kernel
theorem dX8_differs_52 : decode cX8_differs 52 = .ok (.getfield 150, 3) := by decide +kernel
theorem dX8_differs_55 : decode cX8_differs 55 = .ok (.iload_n 1, 1) := by decide +kernel
theorem dX8_differs_56 : decode cX8_differs 56 = .ok (.iaload, 1) := by decide +kernel
theorem dX8_differs_57 : decode cX8_differs 57 = .ok (.goto 4, 3) := by decide +kernel
theorem dX8_differs_60 : decode cX8_differs 60 = .ok (.iconst (-1), 1) := by decide +kernel
theorem dX8_differs_61 : decode cX8_differs 61 = .ok (.ireturn, 1) := by decide +kernel
theorem dX8_count_0 : decode cX8_count 0 = .ok (.aload_n 0, 1) := by decide +kernel
theorem dX8_count_1 : decode cX8_count 1 = .ok (.iconst 0, 1) := by decide +kernel
theorem dX8_count_2 : decode cX8_count 2 = .ok (.putfield 153, 3) := by decide +kernel
theorem dX8_count_5 : decode cX8_count 5 = .ok (.iload_n 1, 1) := by decide +kernel
theorem dX8_count_6 : decode cX8_count 6 = .ok (.tableswitch 77 0 6 #[42, 47, 52, 57, 62, 67, 72], 42) := by decide +kernel
theorem dX8_count_48 : decode cX8_count 48 = .ok (.aload_n 0, 1) := by decide +kernel
theorem dX8_count_49 : decode cX8_count 49 = .ok (.getfield 231, 3) := by decide +kernel
theorem dX8_count_52 : decode cX8_count 52 = .ok (.ireturn, 1) := by decide +kernel
theorem dX8_count_53 : decode cX8_count 53 = .ok (.aload_n 0, 1) := by decide +kernel
theorem dX8_count_54 : decode cX8_count 54 = .ok (.getfield 241, 3) := by decide +kernel
theorem dX8_count_57 : decode cX8_count 57 = .ok (.ireturn, 1) := by decide +kernel
theorem dX8_count_58 : decode cX8_count 58 = .ok (.aload_n 0, 1) := by decide +kernel
theorem dX8_count_59 : decode cX8_count 59 = .ok (.getfield 253, 3) := by decide +kernel
theorem dX8_count_62 : decode cX8_count 62 = .ok (.ireturn, 1) := by decide +kernel
theorem dX8_count_63 : decode cX8_count 63 = .ok (.aload_n 0, 1) := by decide +kernel
theorem dX8_count_64 : decode cX8_count 64 = .ok (.getfield 222, 3) := by decide +kernel
theorem dX8_count_67 : decode cX8_count 67 = .ok (.ireturn, 1) := by decide +kernel
theorem dX8_count_68 : decode cX8_count 68 = .ok (.aload_n 0, 1) := by decide +kernel
theorem dX8_count_69 : decode cX8_count 69 = .ok (.getfield 297, 3) := by decide +kernel
theorem dX8_count_72 : decode cX8_count 72 = .ok (.ireturn, 1) := by decide +kernel
theorem dX8_count_73 : decode cX8_count 73 = .ok (.aload_n 0, 1) := by decide +kernel
theorem dX8_count_74 : decode cX8_count 74 = .ok (.getfield 300, 3) := by decide +kernel
theorem dX8_count_77 : decode cX8_count 77 = .ok (.ireturn, 1) := by decide +kernel
theorem dX8_count_78 : decode cX8_count 78 = .ok (.aload_n 0, 1) := by decide +kernel
theorem dX8_count_79 : decode cX8_count 79 = .ok (.getfield 234, 3) := by decide +kernel
theorem dX8_count_82 : decode cX8_count 82 = .ok (.ireturn, 1) := by decide +kernel
theorem dX8_count_83 : decode cX8_count 83 = .ok (.iconst (-1), 1) := by decide +kernel
theorem dX8_count_84 : decode cX8_count 84 = .ok (.ireturn, 1) := by decide +kernel
set_option maxRecDepth 20000 in
theorem ggJ0_length_8abf5_J0_coder_7d493 : GoodIn wsJ0_length_8abf5 wsJ0_coder_7d493 := goodIn_r _ [6, 7, 8] (by decide +kernel) (by decide +kernel)
set_option maxRecDepth 20000 in
theorem gJ0_length_8abf5_J0_coder_7d493 : GoodIn wsJ0_length_8abf5 (wsV RJ0 335 RJ0 yJ0_coder_7d493 wsJ0_coder_7d493) := goodIn_app (goodIn_of _ (by decide +kernel)) ggJ0_length_8abf5_J0_coder_7d493
theorem dJ0_length_8abf5_0 : decode cJ0_length_8abf5 0 = .ok (.aload_n 0, 1) := by decide +kernel
theorem dJ0_length_8abf5_1 : decode cJ0_length_8abf5 1 = .ok (.getfield 9, 3) := by decide +kernel
theorem dJ0_length_8abf5_4 : decode cJ0_length_8abf5 4 = .ok (.arraylength, 1) := by decide +kernel
theorem dJ0_length_8abf5_5 : decode cJ0_length_8abf5 5 = .ok (.aload_n 0, 1) := by decide +kernel
theorem dJ0_length_8abf5_6 : decode cJ0_length_8abf5 6 = .ok (.invokevirtual 335, 3) := by decide +kernel
theorem dJ0_length_8abf5_9 : decode cJ0_length_8abf5 9 = .ok (.ishr, 1) := by decide +kernel
theorem dJ0_length_8abf5_10 : decode cJ0_length_8abf5 10 = .ok (.ireturn, 1) := by decide +kernel
set_option maxRecDepth 20000 in
theorem ggJ0_charAt_5068e_J0_isLatin1_aae02 : GoodIn wsJ0_charAt_5068e wsJ0_isLatin1_aae02 := goodIn_r _ [6, 7, 8] (by decide +kernel) (by decide +kernel)
set_option maxRecDepth 20000 in
theorem gJ0_charAt_5068e_J0_isLatin1_aae02 : GoodIn wsJ0_charAt_5068e (wsV RJ0 492 RJ0 yJ0_isLatin1_aae02 wsJ0_isLatin1_aae02) := goodIn_app (goodIn_of _ (by decide +kernel)) ggJ0_charAt_5068e_J0_isLatin1_aae02
set_option maxRecDepth 20000 in
theorem ggJ0_charAt_5068e_J1_charAt_3b067 : GoodIn wsJ0_charAt_5068e wsJ1_charAt_3b067 := goodIn_r _ [12, 13, 14, 5, 15, 16, 17, 18, 19, 20] (by decide +kernel) (by decide +kernel)
set_option maxRecDepth 20000 in
theorem gJ0_charAt_5068e_J1_charAt_3b067 : GoodIn wsJ0_charAt_5068e (va_wsS RJ0 495 yJ1_charAt_3b067 wsJ1_charAt_3b067) := goodIn_app (goodIn_of _ (by decide +kernel)) ggJ0_charAt_5068e_J1_charAt_3b067
set_option maxRecDepth 20000 in
theorem ggJ0_charAt_5068e_J2_charAt_3b067 : GoodIn wsJ0_charAt_5068e wsJ2_charAt_3b067 := goodIn_r _ [24, 25, 26, 23, 27, 28, 29, 30, 31, 14, 5, 15, 16, 17, 18, 19, 20, 32, 33, 34, 35, 36, 37] (by decide +kernel) (by decide +kernel)
set_option maxRecDepth 20000 in
theorem gJ0_charAt_5068e_J2_charAt_3b067 : GoodIn wsJ0_charAt_5068e (va_wsS RJ0 498 yJ2_charAt_3b067 wsJ2_charAt_3b067) := goodIn_app (goodIn_of _ (by decide +kernel)) ggJ0_charAt_5068e_J2_charAt_3b067
theorem dJ0_charAt_5068e_0 : decode cJ0_charAt_5068e 0 = .ok (.aload_n 0, 1) := by decide +kernel
theorem dJ0_charAt_5068e_1 : decode cJ0_charAt_5068e 1 = .ok (.invokevirtual 492, 3) := by decide +kernel
theorem dJ0_charAt_5068e_4 : decode cJ0_charAt_5068e 4 = .ok (.ifCond .eq 12, 3) := by decide +kernel
theorem dJ0_charAt_5068e_7 : decode cJ0_charAt_5068e 7 = .ok (.aload_n 0, 1) := by decide +kernel
theorem dJ0_charAt_5068e_8 : decode cJ0_charAt_5068e 8 = .ok (.getfield 9, 3) := by decide +kernel
theorem dJ0_charAt_5068e_11 : decode cJ0_charAt_5068e 11 = .ok (.iload_n 1, 1) := by decide +kernel
theorem dJ0_charAt_5068e_12 : decode cJ0_charAt_5068e 12 = .ok (.invokestatic 495, 3) := by decide +kernel
theorem dJ0_charAt_5068e_15 : decode cJ0_charAt_5068e 15 = .ok (.ireturn, 1) := by decide +kernel
theorem dJ0_charAt_5068e_16 : decode cJ0_charAt_5068e 16 = .ok (.aload_n 0, 1) := by decide +kernel
theorem dJ0_charAt_5068e_17 : decode cJ0_charAt_5068e 17 = .ok (.getfield 9, 3) := by decide +kernel
theorem dJ0_charAt_5068e_20 : decode cJ0_charAt_5068e 20 = .ok (.iload_n 1, 1) := by decide +kernel
theorem dJ0_charAt_5068e_21 : decode cJ0_charAt_5068e 21 = .ok (.invokestatic 498, 3) := by decide +kernel
theorem dJ0_charAt_5068e_24 : decode cJ0_charAt_5068e 24 = .ok (.ireturn, 1) := by decide +kernel
theorem dJ0_coder_7d493_0 : decode cJ0_coder_7d493 0 = .ok (.getstatic 38, 3) := by decide +kernel
theorem dJ0_coder_7d493_3 : decode cJ0_coder_7d493 3 = .ok (.ifCond .eq 10, 3) := by decide +kernel
theorem dJ0_coder_7d493_6 : decode cJ0_coder_7d493 6 = .ok (.aload_n 0, 1) := by decide +kernel
theorem dJ0_coder_7d493_7 : decode cJ0_coder_7d493 7 = .ok (.getfield 15, 3) := by decide +kernel
theorem dJ0_coder_7d493_10 : decode cJ0_coder_7d493 10 = .ok (.goto 4, 3) := by decide +kernel
theorem dJ0_coder_7d493_13 : decode cJ0_coder_7d493 13 = .ok (.iconst 1, 1) := by decide +kernel
theorem dJ0_coder_7d493_14 : decode cJ0_coder_7d493 14 = .ok (.ireturn, 1) := by decide +kernel
theorem dJ0_isLatin1_aae02_0 : decode cJ0_isLatin1_aae02 0 = .ok (.getstatic 38, 3) := by decide +kernel
theorem dJ0_isLatin1_aae02_3 : decode cJ0_isLatin1_aae02 3 = .ok (.ifCond .eq 14, 3) := by decide +kernel
theorem dJ0_isLatin1_aae02_6 : decode cJ0_isLatin1_aae02 6 = .ok (.aload_n 0, 1) := by decide +kernel
theorem dJ0_isLatin1_aae02_7 : decode cJ0_isLatin1_aae02 7 = .ok (.getfield 15, 3) := by decide +kernel
theorem dJ0_isLatin1_aae02_10 : decode cJ0_isLatin1_aae02 10 = .ok (.ifCond .ne 7, 3) := by decide +kernel
theorem dJ0_isLatin1_aae02_13 : decode cJ0_isLatin1_aae02 13 = .ok (.iconst 1, 1) := by decide +kernel
theorem dJ0_isLatin1_aae02_14 : decode cJ0_isLatin1_aae02 14 = .ok (.goto 4, 3) := by decide +kernel
theorem dJ0_isLatin1_aae02_17 : decode cJ0_isLatin1_aae02 17 = .ok (.iconst 0, 1) := by decide +kernel
theorem dJ0_isLatin1_aae02_18 : decode cJ0_isLatin1_aae02 18 = .ok (.ireturn, 1) := by decide +kernel
set_option maxRecDepth 20000 in
theorem ggJ0_checkIndex_df160_J3_checkIndex_8e157 : GoodIn wsJ0_checkIndex_df160 wsJ3_checkIndex_8e157 := goodIn_r _ [5] (by decide +kernel) (by decide +kernel)
set_option maxRecDepth 20000 in
theorem gJ0_checkIndex_df160_J3_checkIndex_8e157 : GoodIn wsJ0_checkIndex_df160 (va_wsS RJ0 1059 yJ3_checkIndex_8e157 wsJ3_checkIndex_8e157) := goodIn_app (goodIn_of _ (by decide +kernel)) ggJ0_checkIndex_df160_J3_checkIndex_8e157
theorem dJ0_checkIndex_df160_0 : decode cJ0_checkIndex_df160 0 = .ok (.iload_n 0, 1) := by decide +kernel
theorem dJ0_checkIndex_df160_1 : decode cJ0_checkIndex_df160 1 = .ok (.iload_n 1, 1) := by decide +kernel
theorem dJ0_checkIndex_df160_2 : decode cJ0_checkIndex_df160 2 = .ok (.getstatic 1053, 3) := by decide +kernel
theorem dJ0_checkIndex_df160_5 : decode cJ0_checkIndex_df160 5 = .ok (.invokestatic 1059, 3) := by decide +kernel
theorem dJ0_checkIndex_df160_8 : decode cJ0_checkIndex_df160 8 = .ok (.pop, 1) := by decide +kernel
theorem dJ0_checkIndex_df160_9 : decode cJ0_checkIndex_df160 9 = .ok (.return_, 1) := by decide +kernel
set_option maxRecDepth 20000 in
theorem ggJ1_charAt_3b067_J0_checkIndex_df160 : GoodIn wsJ1_charAt_3b067 wsJ0_checkIndex_df160 := goodIn_r _ [4, 5, 6, 7, 8, 9] (by decide +kernel) (by decide +kernel)
set_option maxRecDepth 20000 in
theorem gJ1_charAt_3b067_J0_checkIndex_df160 : GoodIn wsJ1_charAt_3b067 (va_wsS RJ1 9 yJ0_checkIndex_df160 wsJ0_checkIndex_df160) := goodIn_app (goodIn_of _ (by decide +kernel)) ggJ1_charAt_3b067_J0_checkIndex_df160
theorem dJ1_charAt_3b067_0 : decode cJ1_charAt_3b067 0 = .ok (.iload_n 1, 1) := by decide +kernel
theorem dJ1_charAt_3b067_1 : decode cJ1_charAt_3b067 1 = .ok (.aload_n 0, 1) := by decide +kernel
theorem dJ1_charAt_3b067_2 : decode cJ1_charAt_3b067 2 = .ok (.arraylength, 1) := by decide +kernel
theorem dJ1_charAt_3b067_3 : decode cJ1_charAt_3b067 3 = .ok (.invokestatic 9, 3) := by decide +kernel
theorem dJ1_charAt_3b067_6 : decode cJ1_charAt_3b067 6 = .ok (.aload_n 0, 1) := by decide +kernel
theorem dJ1_charAt_3b067_7 : decode cJ1_charAt_3b067 7 = .ok (.iload_n 1, 1) := by decide +kernel
theorem dJ1_charAt_3b067_8 : decode cJ1_charAt_3b067 8 = .ok (.baload, 1) := by decide +kernel
theorem dJ1_charAt_3b067_9 : decode cJ1_charAt_3b067 9 = .ok (.sipush 255, 3) := by decide +kernel
theorem dJ1_charAt_3b067_12 : decode cJ1_charAt_3b067 12 = .ok (.iand, 1) := by decide +kernel
theorem dJ1_charAt_3b067_13 : decode cJ1_charAt_3b067 13 = .ok (.i2c, 1) := by decide +kernel
theorem dJ1_charAt_3b067_14 : decode cJ1_charAt_3b067 14 = .ok (.ireturn, 1) := by decide +kernel
set_option maxRecDepth 20000 in
theorem ggJ2_getChar_3b067_J2_length_9d52b : GoodIn wsJ2_getChar_3b067 wsJ2_length_9d52b := goodIn_r _ [7] (by decide +kernel) (by decide +kernel)
set_option maxRecDepth 20000 in
theorem gJ2_getChar_3b067_J2_length_9d52b : GoodIn wsJ2_getChar_3b067 (va_wsS RJ2 48 yJ2_length_9d52b wsJ2_length_9d52b) := goodIn_app (goodIn_of _ (by decide +kernel)) ggJ2_getChar_3b067_J2_length_9d52b
theorem dJ2_getChar_3b067_0 : decode cJ2_getChar_3b067 0 = .ok (.getstatic 44, 3) := by decide +kernel
theorem dJ2_getChar_3b067_3 : decode cJ2_getChar_3b067 3 = .ok (.ifCond .ne 25, 3) := by decide +kernel
theorem dJ2_getChar_3b067_6 : decode cJ2_getChar_3b067 6 = .ok (.iload_n 1, 1) := by decide +kernel
theorem dJ2_getChar_3b067_7 : decode cJ2_getChar_3b067 7 = .ok (.ifCond .lt 11, 3) := by decide +kernel
theorem dJ2_getChar_3b067_10 : decode cJ2_getChar_3b067 10 = .ok (.iload_n 1, 1) := by decide +kernel
theorem dJ2_getChar_3b067_11 : decode cJ2_getChar_3b067 11 = .ok (.aload_n 0, 1) := by decide +kernel
theorem dJ2_getChar_3b067_12 : decode cJ2_getChar_3b067 12 = .ok (.invokestatic 48, 3) := by decide +kernel
theorem dJ2_getChar_3b067_15 : decode cJ2_getChar_3b067 15 = .ok (.if_icmp .lt 13, 3) := by decide +kernel
theorem dJ2_getChar_3b067_18 : decode cJ2_getChar_3b067 18 = .ok (.new 52, 3) := by decide +kernel
theorem dJ2_getChar_3b067_21 : decode cJ2_getChar_3b067 21 = .ok (.dup, 1) := by decide +kernel
theorem dJ2_getChar_3b067_22 : decode cJ2_getChar_3b067 22 = .ok (.ldc 54, 2) := by decide +kernel
theorem dJ2_getChar_3b067_24 : decode cJ2_getChar_3b067 24 = .ok (.invokespecial 56, 3) := by decide +kernel
theorem dJ2_getChar_3b067_27 : decode cJ2_getChar_3b067 27 = .ok (.athrow, 1) := by decide +kernel
theorem dJ2_getChar_3b067_28 : decode cJ2_getChar_3b067 28 = .ok (.iload_n 1, 1) := by decide +kernel
theorem dJ2_getChar_3b067_29 : decode cJ2_getChar_3b067 29 = .ok (.iconst 1, 1) := by decide +kernel
theorem dJ2_getChar_3b067_30 : decode cJ2_getChar_3b067 30 = .ok (.ishl, 1) := by decide +kernel
theorem dJ2_getChar_3b067_31 : decode cJ2_getChar_3b067 31 = .ok (.istore_n 1, 1) := by decide +kernel
theorem dJ2_getChar_3b067_32 : decode cJ2_getChar_3b067 32 = .ok (.aload_n 0, 1) := by decide +kernel
theorem dJ2_getChar_3b067_33 : decode cJ2_getChar_3b067 33 = .ok (.iload_n 1, 1) := by decide +kernel
theorem dJ2_getChar_3b067_34 : decode cJ2_getChar_3b067 34 = .ok (.iinc 1 1, 3) := by decide +kernel
theorem dJ2_getChar_3b067_37 : decode cJ2_getChar_3b067 37 = .ok (.baload, 1) := by decide +kernel
theorem dJ2_getChar_3b067_38 : decode cJ2_getChar_3b067 38 = .ok (.sipush 255, 3) := by decide +kernel
theorem dJ2_getChar_3b067_41 : decode cJ2_getChar_3b067 41 = .ok (.iand, 1) := by decide +kernel
theorem dJ2_getChar_3b067_42 : decode cJ2_getChar_3b067 42 = .ok (.getstatic 59, 3) := by decide +kernel
theorem dJ2_getChar_3b067_45 : decode cJ2_getChar_3b067 45 = .ok (.ishl, 1) := by decide +kernel
theorem dJ2_getChar_3b067_46 : decode cJ2_getChar_3b067 46 = .ok (.aload_n 0, 1) := by decide +kernel
theorem dJ2_getChar_3b067_47 : decode cJ2_getChar_3b067 47 = .ok (.iload_n 1, 1) := by decide +kernel
theorem dJ2_getChar_3b067_48 : decode cJ2_getChar_3b067 48 = .ok (.baload, 1) := by decide +kernel
theorem dJ2_getChar_3b067_49 : decode cJ2_getChar_3b067 49 = .ok (.sipush 255, 3) := by decide +kernel
theorem dJ2_getChar_3b067_52 : decode cJ2_getChar_3b067 52 = .ok (.iand, 1) := by decide +kernel
theorem dJ2_getChar_3b067_53 : decode cJ2_getChar_3b067 53 = .ok (.getstatic 63, 3) := by decide +kernel
theorem dJ2_getChar_3b067_56 : decode cJ2_getChar_3b067 56 = .ok (.ishl, 1) := by decide +kernel
theorem dJ2_getChar_3b067_57 : decode cJ2_getChar_3b067 57 = .ok (.ior, 1) := by decide +kernel
theorem dJ2_getChar_3b067_58 : decode cJ2_getChar_3b067 58 = .ok (.i2c, 1) := by decide +kernel
theorem dJ2_getChar_3b067_59 : decode cJ2_getChar_3b067 59 = .ok (.ireturn, 1) := by decide +kernel
theorem dJ2_length_9d52b_0 : decode cJ2_length_9d52b 0 = .ok (.aload_n 0, 1) := by decide +kernel
theorem dJ2_length_9d52b_1 : decode cJ2_length_9d52b 1 = .ok (.arraylength, 1) := by decide +kernel
theorem dJ2_length_9d52b_2 : decode cJ2_length_9d52b 2 = .ok (.iconst 1, 1) := by decide +kernel
theorem dJ2_length_9d52b_3 : decode cJ2_length_9d52b 3 = .ok (.ishr, 1) := by decide +kernel
theorem dJ2_length_9d52b_4 : decode cJ2_length_9d52b 4 = .ok (.ireturn, 1) := by decide +kernel
set_option maxRecDepth 20000 in
theorem ggJ2_charAt_3b067_J2_checkIndex_2214a : GoodIn wsJ2_charAt_3b067 wsJ2_checkIndex_2214a := goodIn_r _ [4, 5, 6, 3, 7, 8, 9, 10, 11, 12, 13, 14, 15, 16] (by decide +kernel) (by decide +kernel)
set_option maxRecDepth 20000 in
theorem gJ2_charAt_3b067_J2_checkIndex_2214a : GoodIn wsJ2_charAt_3b067 (va_wsS RJ2 67 yJ2_checkIndex_2214a wsJ2_checkIndex_2214a) := goodIn_app (goodIn_of _ (by decide +kernel)) ggJ2_charAt_3b067_J2_checkIndex_2214a
set_option maxRecDepth 20000 in
theorem ggJ2_charAt_3b067_J2_getChar_3b067 : GoodIn wsJ2_charAt_3b067 wsJ2_getChar_3b067 := goodIn_r _ [19, 20, 21, 22, 5, 6, 3, 7] (by decide +kernel) (by decide +kernel)
set_option maxRecDepth 20000 in
theorem gJ2_charAt_3b067_J2_getChar_3b067 : GoodIn wsJ2_charAt_3b067 (va_wsS RJ2 71 yJ2_getChar_3b067 wsJ2_getChar_3b067) := goodIn_app (goodIn_of _ (by decide +kernel)) ggJ2_charAt_3b067_J2_getChar_3b067
theorem dJ2_charAt_3b067_0 : decode cJ2_charAt_3b067 0 = .ok (.iload_n 1, 1) := by decide +kernel
theorem dJ2_charAt_3b067_1 : decode cJ2_charAt_3b067 1 = .ok (.aload_n 0, 1) := by decide +kernel
theorem dJ2_charAt_3b067_2 : decode cJ2_charAt_3b067 2 = .ok (.invokestatic 67, 3) := by decide +kernel
theorem dJ2_charAt_3b067_5 : decode cJ2_charAt_3b067 5 = .ok (.aload_n 0, 1) := by decide +kernel
theorem dJ2_charAt_3b067_6 : decode cJ2_charAt_3b067 6 = .ok (.iload_n 1, 1) := by decide +kernel
theorem dJ2_charAt_3b067_7 : decode cJ2_charAt_3b067 7 = .ok (.invokestatic 71, 3) := by decide +kernel
theorem dJ2_charAt_3b067_10 : decode cJ2_charAt_3b067 10 = .ok (.ireturn, 1) := by decide +kernel
set_option maxRecDepth 20000 in
theorem ggJ2_checkIndex_2214a_J2_length_9d52b : GoodIn wsJ2_checkIndex_2214a wsJ2_length_9d52b := goodIn_r _ [4] (by decide +kernel) (by decide +kernel)
set_option maxRecDepth 20000 in
theorem gJ2_checkIndex_2214a_J2_length_9d52b : GoodIn wsJ2_checkIndex_2214a (va_wsS RJ2 48 yJ2_length_9d52b wsJ2_length_9d52b) := goodIn_app (goodIn_of _ (by decide +kernel)) ggJ2_checkIndex_2214a_J2_length_9d52b
set_option maxRecDepth 20000 in
theorem ggJ2_checkIndex_2214a_J0_checkIndex_df160 : GoodIn wsJ2_checkIndex_2214a wsJ0_checkIndex_df160 := goodIn_r _ [8, 9, 10, 11, 12, 13] (by decide +kernel) (by decide +kernel)
set_option maxRecDepth 20000 in
theorem gJ2_checkIndex_2214a_J0_checkIndex_df160 : GoodIn wsJ2_checkIndex_2214a (va_wsS RJ2 414 yJ0_checkIndex_df160 wsJ0_checkIndex_df160) := goodIn_app (goodIn_of _ (by decide +kernel)) ggJ2_checkIndex_2214a_J0_checkIndex_df160
theorem dJ2_checkIndex_2214a_0 : decode cJ2_checkIndex_2214a 0 = .ok (.iload_n 0, 1) := by decide +kernel
theorem dJ2_checkIndex_2214a_1 : decode cJ2_checkIndex_2214a 1 = .ok (.aload_n 1, 1) := by decide +kernel
theorem dJ2_checkIndex_2214a_2 : decode cJ2_checkIndex_2214a 2 = .ok (.invokestatic 48, 3) := by decide +kernel
theorem dJ2_checkIndex_2214a_5 : decode cJ2_checkIndex_2214a 5 = .ok (.invokestatic 414, 3) := by decide +kernel
theorem dJ2_checkIndex_2214a_8 : decode cJ2_checkIndex_2214a 8 = .ok (.return_, 1) := by decide +kernel
theorem dJ7_fill_53178_0 : decode cJ7_fill_53178 0 = .ok (.iconst 0, 1) := by decide +kernel
theorem dJ7_fill_53178_1 : decode cJ7_fill_53178 1 = .ok (.istore_n 2, 1) := by decide +kernel
theorem dJ7_fill_53178_2 : decode cJ7_fill_53178 2 = .ok (.aload_n 0, 1) := by decide +kernel
theorem dJ7_fill_53178_3 : decode cJ7_fill_53178 3 = .ok (.arraylength, 1) := by decide +kernel
theorem dJ7_fill_53178_4 : decode cJ7_fill_53178 4 = .ok (.istore_n 3, 1) := by decide +kernel
theorem dJ7_fill_53178_5 : decode cJ7_fill_53178 5 = .ok (.iload_n 2, 1) := by decide +kernel
theorem dJ7_fill_53178_6 : decode cJ7_fill_53178 6 = .ok (.iload_n 3, 1) := by decide +kernel
theorem dJ7_fill_53178_7 : decode cJ7_fill_53178 7 = .ok (.if_icmp .ge 13, 3) := by decide +kernel
theorem dJ7_fill_53178_10 : decode cJ7_fill_53178 10 = .ok (.aload_n 0, 1) := by decide +kernel
theorem dJ7_fill_53178_11 : decode cJ7_fill_53178 11 = .ok (.iload_n 2, 1) := by decide +kernel
theorem dJ7_fill_53178_12 : decode cJ7_fill_53178 12 = .ok (.iload_n 1, 1) := by decide +kernel
theorem dJ7_fill_53178_13 : decode cJ7_fill_53178 13 = .ok (.iastore, 1) := by decide +kernel
theorem dJ7_fill_53178_14 : decode cJ7_fill_53178 14 = .ok (.iinc 2 1, 3) := by decide +kernel
theorem dJ7_fill_53178_17 : decode cJ7_fill_53178 17 = .ok (.goto (-12), 3) := by decide +kernel
theorem dJ7_fill_53178_20 : decode cJ7_fill_53178 20 = .ok (.return_, 1) := by decide +kernel
theorem dJ3_checkIndex_8e157_0 : decode cJ3_checkIndex_8e157 0 = .ok (.iload_n 0, 1) := by decide +kernel
theorem dJ3_checkIndex_8e157_1 : decode cJ3_checkIndex_8e157 1 = .ok (.ifCond .lt 8, 3) := by decide +kernel
theorem dJ3_checkIndex_8e157_4 : decode cJ3_checkIndex_8e157 4 = .ok (.iload_n 0, 1) := by decide +kernel
theorem dJ3_checkIndex_8e157_5 : decode cJ3_checkIndex_8e157 5 = .ok (.iload_n 1, 1) := by decide +kernel
theorem dJ3_checkIndex_8e157_6 : decode cJ3_checkIndex_8e157 6 = .ok (.if_icmp .lt 10, 3) := by decide +kernel
theorem dJ3_checkIndex_8e157_9 : decode cJ3_checkIndex_8e157 9 = .ok (.aload_n 2, 1) := by decide +kernel
theorem dJ3_checkIndex_8e157_10 : decode cJ3_checkIndex_8e157 10 = .ok (.iload_n 0, 1) := by decide +kernel
theorem dJ3_checkIndex_8e157_11 : decode cJ3_checkIndex_8e157 11 = .ok (.iload_n 1, 1) := by decide +kernel
theorem dJ3_checkIndex_8e157_12 : decode cJ3_checkIndex_8e157 12 = .ok (.invokestatic 95, 3) := by decide +kernel
theorem dJ3_checkIndex_8e157_15 : decode cJ3_checkIndex_8e157 15 = .ok (.athrow, 1) := by decide +kernel
theorem dJ3_checkIndex_8e157_16 : decode cJ3_checkIndex_8e157 16 = .ok (.iload_n 0, 1) := by decide +kernel
theorem dJ3_checkIndex_8e157_17 : decode cJ3_checkIndex_8e157 17 = .ok (.ireturn, 1) := by decide +kernel
theorem dL_law_0 : decode cL_law 0 = .ok (.new 7, 3) := by decide +kernel
theorem dL_law_3 : decode cL_law 3 = .ok (.dup, 1) := by decide +kernel
theorem dL_law_4 : decode cL_law 4 = .ok (.invokespecial 9, 3) := by decide +kernel
theorem dL_law_7 : decode cL_law 7 = .ok (.astore_n 1, 1) := by decide +kernel
theorem dL_law_8 : decode cL_law 8 = .ok (.new 10, 3) := by decide +kernel
theorem dL_law_11 : decode cL_law 11 = .ok (.dup, 1) := by decide +kernel
theorem dL_law_12 : decode cL_law 12 = .ok (.invokespecial 12, 3) := by decide +kernel
theorem dL_law_15 : decode cL_law 15 = .ok (.astore_n 2, 1) := by decide +kernel
theorem dL_law_16 : decode cL_law 16 = .ok (.iconst 0, 1) := by decide +kernel
theorem dL_law_17 : decode cL_law 17 = .ok (.istore_n 3, 1) := by decide +kernel
theorem dL_law_18 : decode cL_law 18 = .ok (.iload_n 3, 1) := by decide +kernel
theorem dL_law_19 : decode cL_law 19 = .ok (.aload_n 0, 1) := by decide +kernel
theorem dL_law_20 : decode cL_law 20 = .ok (.arraylength, 1) := by decide +kernel
theorem dL_law_21 : decode cL_law 21 = .ok (.bipush 6, 2) := by decide +kernel
theorem dL_law_23 : decode cL_law 23 = .ok (.isub, 1) := by decide +kernel
theorem dL_law_24 : decode cL_law 24 = .ok (.if_icmp .gt 803, 3) := by decide +kernel
theorem dL_law_27 : decode cL_law 27 = .ok (.aload_n 0, 1) := by decide +kernel
theorem dL_law_28 : decode cL_law 28 = .ok (.iload_n 3, 1) := by decide +kernel
theorem dL_law_29 : decode cL_law 29 = .ok (.iaload, 1) := by decide +kernel
theorem dL_law_30 : decode cL_law 30 = .ok (.bipush 31, 2) := by decide +kernel
theorem dL_law_32 : decode cL_law 32 = .ok (.iand, 1) := by decide +kernel
theorem dL_law_33 : decode cL_law 33 = .ok (.tableswitch 788 0 18 #[91, 154, 187, 210, 233, 276, 299, 342, 395, 458, 491, 504, 547, 580, 613, 656, 699, 732, 765], 91) := by decide +kernel
theorem dL_law_124 : decode cL_law 124 = .ok (.aload_n 1, 1) := by decide +kernel
theorem dL_law_125 : decode cL_law 125 = .ok (.aload_n 0, 1) := by decide +kernel
theorem dL_law_126 : decode cL_law 126 = .ok (.iload_n 3, 1) := by decide +kernel
theorem dL_law_127 : decode cL_law 127 = .ok (.iconst 1, 1) := by decide +kernel
theorem dL_law_128 : decode cL_law 128 = .ok (.iadd, 1) := by decide +kernel
theorem dL_law_129 : decode cL_law 129 = .ok (.iaload, 1) := by decide +kernel
theorem dL_law_130 : decode cL_law 130 = .ok (.aload_n 0, 1) := by decide +kernel
theorem dL_law_131 : decode cL_law 131 = .ok (.iload_n 3, 1) := by decide +kernel
theorem dL_law_132 : decode cL_law 132 = .ok (.iconst 2, 1) := by decide +kernel
theorem dL_law_133 : decode cL_law 133 = .ok (.iadd, 1) := by decide +kernel
theorem dL_law_134 : decode cL_law 134 = .ok (.iaload, 1) := by decide +kernel
theorem dL_law_135 : decode cL_law 135 = .ok (.aload_n 0, 1) := by decide +kernel
theorem dL_law_136 : decode cL_law 136 = .ok (.iload_n 3, 1) := by decide +kernel
theorem dL_law_137 : decode cL_law 137 = .ok (.iconst 3, 1) := by decide +kernel
theorem dL_law_138 : decode cL_law 138 = .ok (.iadd, 1) := by decide +kernel
theorem dL_law_139 : decode cL_law 139 = .ok (.iaload, 1) := by decide +kernel
theorem dL_law_140 : decode cL_law 140 = .ok (.aload_n 0, 1) := by decide +kernel
theorem dL_law_141 : decode cL_law 141 = .ok (.iload_n 3, 1) := by decide +kernel
theorem dL_law_142 : decode cL_law 142 = .ok (.iconst 4, 1) := by decide +kernel
theorem dL_law_143 : decode cL_law 143 = .ok (.iadd, 1) := by decide +kernel
theorem dL_law_144 : decode cL_law 144 = .ok (.iaload, 1) := by decide +kernel
theorem dL_law_145 : decode cL_law 145 = .ok (.aload_n 0, 1) := by decide +kernel
theorem dL_law_146 : decode cL_law 146 = .ok (.iload_n 3, 1) := by decide +kernel
theorem dL_law_147 : decode cL_law 147 = .ok (.iconst 5, 1) := by decide +kernel
theorem dL_law_148 : decode cL_law 148 = .ok (.iadd, 1) := by decide +kernel
theorem dL_law_149 : decode cL_law 149 = .ok (.iaload, 1) := by decide +kernel
theorem dL_law_150 : decode cL_law 150 = .ok (.invokevirtual 13, 3) := by decide +kernel
theorem dL_law_153 : decode cL_law 153 = .ok (.aload_n 2, 1) := by decide +kernel
theorem dL_law_154 : decode cL_law 154 = .ok (.aload_n 0, 1) := by decide +kernel
theorem dL_law_155 : decode cL_law 155 = .ok (.iload_n 3, 1) := by decide +kernel
theorem dL_law_156 : decode cL_law 156 = .ok (.iconst 1, 1) := by decide +kernel
theorem dL_law_157 : decode cL_law 157 = .ok (.iadd, 1) := by decide +kernel
theorem dL_law_158 : decode cL_law 158 = .ok (.iaload, 1) := by decide +kernel
theorem dL_law_159 : decode cL_law 159 = .ok (.aload_n 0, 1) := by decide +kernel
theorem dL_law_160 : decode cL_law 160 = .ok (.iload_n 3, 1) := by decide +kernel
theorem dL_law_161 : decode cL_law 161 = .ok (.iconst 2, 1) := by decide +kernel
theorem dL_law_162 : decode cL_law 162 = .ok (.iadd, 1) := by decide +kernel
theorem dL_law_163 : decode cL_law 163 = .ok (.iaload, 1) := by decide +kernel
theorem dL_law_164 : decode cL_law 164 = .ok (.aload_n 0, 1) := by decide +kernel
theorem dL_law_165 : decode cL_law 165 = .ok (.iload_n 3, 1) := by decide +kernel
theorem dL_law_166 : decode cL_law 166 = .ok (.iconst 3, 1) := by decide +kernel
theorem dL_law_167 : decode cL_law 167 = .ok (.iadd, 1) := by decide +kernel
theorem dL_law_168 : decode cL_law 168 = .ok (.iaload, 1) := by decide +kernel
theorem dL_law_169 : decode cL_law 169 = .ok (.aload_n 0, 1) := by decide +kernel
theorem dL_law_170 : decode cL_law 170 = .ok (.iload_n 3, 1) := by decide +kernel
theorem dL_law_171 : decode cL_law 171 = .ok (.iconst 4, 1) := by decide +kernel
theorem dL_law_172 : decode cL_law 172 = .ok (.iadd, 1) := by decide +kernel
theorem dL_law_173 : decode cL_law 173 = .ok (.iaload, 1) := by decide +kernel
theorem dL_law_174 : decode cL_law 174 = .ok (.aload_n 0, 1) := by decide +kernel
theorem dL_law_175 : decode cL_law 175 = .ok (.iload_n 3, 1) := by decide +kernel
theorem dL_law_176 : decode cL_law 176 = .ok (.iconst 5, 1) := by decide +kernel
theorem dL_law_177 : decode cL_law 177 = .ok (.iadd, 1) := by decide +kernel
theorem dL_law_178 : decode cL_law 178 = .ok (.iaload, 1) := by decide +kernel
theorem dL_law_179 : decode cL_law 179 = .ok (.invokevirtual 17, 3) := by decide +kernel
theorem dL_law_182 : decode cL_law 182 = .ok (.if_icmp .eq 639, 3) := by decide +kernel
theorem dL_law_185 : decode cL_law 185 = .ok (.iconst 0, 1) := by decide +kernel
theorem dL_law_186 : decode cL_law 186 = .ok (.ireturn, 1) := by decide +kernel
theorem dL_law_187 : decode cL_law 187 = .ok (.aload_n 1, 1) := by decide +kernel
theorem dL_law_188 : decode cL_law 188 = .ok (.aload_n 0, 1) := by decide +kernel
theorem dL_law_189 : decode cL_law 189 = .ok (.iload_n 3, 1) := by decide +kernel
theorem dL_law_190 : decode cL_law 190 = .ok (.iconst 1, 1) := by decide +kernel
theorem dL_law_191 : decode cL_law 191 = .ok (.iadd, 1) := by decide +kernel
theorem dL_law_192 : decode cL_law 192 = .ok (.iaload, 1) := by decide +kernel
theorem dL_law_193 : decode cL_law 193 = .ok (.aload_n 0, 1) := by decide +kernel
theorem dL_law_194 : decode cL_law 194 = .ok (.iload_n 3, 1) := by decide +kernel
theorem dL_law_195 : decode cL_law 195 = .ok (.iconst 2, 1) := by decide +kernel
theorem dL_law_196 : decode cL_law 196 = .ok (.iadd, 1) := by decide +kernel
theorem dL_law_197 : decode cL_law 197 = .ok (.iaload, 1) := by decide +kernel
theorem dL_law_198 : decode cL_law 198 = .ok (.invokevirtual 18, 3) := by decide +kernel
theorem dL_law_201 : decode cL_law 201 = .ok (.aload_n 2, 1) := by decide +kernel
theorem dL_law_202 : decode cL_law 202 = .ok (.aload_n 0, 1) := by decide +kernel
theorem dL_law_203 : decode cL_law 203 = .ok (.iload_n 3, 1) := by decide +kernel
theorem dL_law_204 : decode cL_law 204 = .ok (.iconst 1, 1) := by decide +kernel
theorem dL_law_205 : decode cL_law 205 = .ok (.iadd, 1) := by decide +kernel
theorem dL_law_206 : decode cL_law 206 = .ok (.iaload, 1) := by decide +kernel
theorem dL_law_207 : decode cL_law 207 = .ok (.aload_n 0, 1) := by decide +kernel
theorem dL_law_208 : decode cL_law 208 = .ok (.iload_n 3, 1) := by decide +kernel
theorem dL_law_209 : decode cL_law 209 = .ok (.iconst 2, 1) := by decide +kernel
theorem dL_law_210 : decode cL_law 210 = .ok (.iadd, 1) := by decide +kernel
theorem dL_law_211 : decode cL_law 211 = .ok (.iaload, 1) := by decide +kernel
theorem dL_law_212 : decode cL_law 212 = .ok (.invokevirtual 22, 3) := by decide +kernel
theorem dL_law_215 : decode cL_law 215 = .ok (.if_icmp .eq 606, 3) := by decide +kernel
theorem dL_law_218 : decode cL_law 218 = .ok (.iconst 0, 1) := by decide +kernel
theorem dL_law_219 : decode cL_law 219 = .ok (.ireturn, 1) := by decide +kernel
theorem dL_law_220 : decode cL_law 220 = .ok (.aload_n 1, 1) := by decide +kernel
theorem dL_law_221 : decode cL_law 221 = .ok (.aload_n 0, 1) := by decide +kernel
theorem dL_law_222 : decode cL_law 222 = .ok (.iload_n 3, 1) := by decide +kernel
theorem dL_law_223 : decode cL_law 223 = .ok (.iconst 1, 1) := by decide +kernel
theorem dL_law_224 : decode cL_law 224 = .ok (.iadd, 1) := by decide +kernel
theorem dL_law_225 : decode cL_law 225 = .ok (.iaload, 1) := by decide +kernel
theorem dL_law_226 : decode cL_law 226 = .ok (.invokevirtual 23, 3) := by decide +kernel
theorem dL_law_229 : decode cL_law 229 = .ok (.aload_n 2, 1) := by decide +kernel
theorem dL_law_230 : decode cL_law 230 = .ok (.aload_n 0, 1) := by decide +kernel
theorem dL_law_231 : decode cL_law 231 = .ok (.iload_n 3, 1) := by decide +kernel
theorem dL_law_232 : decode cL_law 232 = .ok (.iconst 1, 1) := by decide +kernel
theorem dL_law_233 : decode cL_law 233 = .ok (.iadd, 1) := by decide +kernel
theorem dL_law_234 : decode cL_law 234 = .ok (.iaload, 1) := by decide +kernel
theorem dL_law_235 : decode cL_law 235 = .ok (.invokevirtual 27, 3) := by decide +kernel
theorem dL_law_238 : decode cL_law 238 = .ok (.if_icmp .eq 583, 3) := by decide +kernel
theorem dL_law_241 : decode cL_law 241 = .ok (.iconst 0, 1) := by decide +kernel
theorem dL_law_242 : decode cL_law 242 = .ok (.ireturn, 1) := by decide +kernel
theorem dL_law_243 : decode cL_law 243 = .ok (.aload_n 1, 1) := by decide +kernel
theorem dL_law_244 : decode cL_law 244 = .ok (.aload_n 0, 1) := by decide +kernel
theorem dL_law_245 : decode cL_law 245 = .ok (.iload_n 3, 1) := by decide +kernel
theorem dL_law_246 : decode cL_law 246 = .ok (.iconst 1, 1) := by decide +kernel
theorem dL_law_247 : decode cL_law 247 = .ok (.iadd, 1) := by decide +kernel
theorem dL_law_248 : decode cL_law 248 = .ok (.iaload, 1) := by decide +kernel
theorem dL_law_249 : decode cL_law 249 = .ok (.invokevirtual 28, 3) := by decide +kernel
theorem dL_law_252 : decode cL_law 252 = .ok (.aload_n 2, 1) := by decide +kernel
theorem dL_law_253 : decode cL_law 253 = .ok (.aload_n 0, 1) := by decide +kernel
theorem dL_law_254 : decode cL_law 254 = .ok (.iload_n 3, 1) := by decide +kernel
theorem dL_law_255 : decode cL_law 255 = .ok (.iconst 1, 1) := by decide +kernel
theorem dL_law_256 : decode cL_law 256 = .ok (.iadd, 1) := by decide +kernel
theorem dL_law_257 : decode cL_law 257 = .ok (.iaload, 1) := by decide +kernel
theorem dL_law_258 : decode cL_law 258 = .ok (.invokevirtual 32, 3) := by decide +kernel
theorem dL_law_261 : decode cL_law 261 = .ok (.if_icmp .eq 560, 3) := by decide +kernel
theorem dL_law_264 : decode cL_law 264 = .ok (.iconst 0, 1) := by decide +kernel
theorem dL_law_265 : decode cL_law 265 = .ok (.ireturn, 1) := by decide +kernel
theorem dL_law_266 : decode cL_law 266 = .ok (.aload_n 1, 1) := by decide +kernel
theorem dL_law_267 : decode cL_law 267 = .ok (.aload_n 0, 1) := by decide +kernel
theorem dL_law_268 : decode cL_law 268 = .ok (.iload_n 3, 1) := by decide +kernel
theorem dL_law_269 : decode cL_law 269 = .ok (.iconst 1, 1) := by decide +kernel
theorem dL_law_270 : decode cL_law 270 = .ok (.iadd, 1) := by decide +kernel
theorem dL_law_271 : decode cL_law 271 = .ok (.iaload, 1) := by decide +kernel
theorem dL_law_272 : decode cL_law 272 = .ok (.aload_n 0, 1) := by decide +kernel
theorem dL_law_273 : decode cL_law 273 = .ok (.iload_n 3, 1) := by decide +kernel
theorem dL_law_274 : decode cL_law 274 = .ok (.iconst 2, 1) := by decide +kernel
theorem dL_law_275 : decode cL_law 275 = .ok (.iadd, 1) := by decide +kernel
theorem dL_law_276 : decode cL_law 276 = .ok (.iaload, 1) := by decide +kernel
theorem dL_law_277 : decode cL_law 277 = .ok (.aload_n 0, 1) := by decide +kernel
theorem dL_law_278 : decode cL_law 278 = .ok (.iload_n 3, 1) := by decide +kernel
theorem dL_law_279 : decode cL_law 279 = .ok (.iconst 3, 1) := by decide +kernel
theorem dL_law_280 : decode cL_law 280 = .ok (.iadd, 1) := by decide +kernel
theorem dL_law_281 : decode cL_law 281 = .ok (.iaload, 1) := by decide +kernel
theorem dL_law_282 : decode cL_law 282 = .ok (.invokevirtual 33, 3) := by decide +kernel
theorem dL_law_285 : decode cL_law 285 = .ok (.aload_n 2, 1) := by decide +kernel
theorem dL_law_286 : decode cL_law 286 = .ok (.aload_n 0, 1) := by decide +kernel
theorem dL_law_287 : decode cL_law 287 = .ok (.iload_n 3, 1) := by decide +kernel
theorem dL_law_288 : decode cL_law 288 = .ok (.iconst 1, 1) := by decide +kernel
theorem dL_law_289 : decode cL_law 289 = .ok (.iadd, 1) := by decide +kernel
theorem dL_law_290 : decode cL_law 290 = .ok (.iaload, 1) := by decide +kernel
theorem dL_law_291 : decode cL_law 291 = .ok (.aload_n 0, 1) := by decide +kernel
theorem dL_law_292 : decode cL_law 292 = .ok (.iload_n 3, 1) := by decide +kernel
theorem dL_law_293 : decode cL_law 293 = .ok (.iconst 2, 1) := by decide +kernel
theorem dL_law_294 : decode cL_law 294 = .ok (.iadd, 1) := by decide +kernel
theorem dL_law_295 : decode cL_law 295 = .ok (.iaload, 1) := by decide +kernel
theorem dL_law_296 : decode cL_law 296 = .ok (.aload_n 0, 1) := by decide +kernel
theorem dL_law_297 : decode cL_law 297 = .ok (.iload_n 3, 1) := by decide +kernel
theorem dL_law_298 : decode cL_law 298 = .ok (.iconst 3, 1) := by decide +kernel
theorem dL_law_299 : decode cL_law 299 = .ok (.iadd, 1) := by decide +kernel
theorem dL_law_300 : decode cL_law 300 = .ok (.iaload, 1) := by decide +kernel
theorem dL_law_301 : decode cL_law 301 = .ok (.invokevirtual 37, 3) := by decide +kernel
theorem dL_law_304 : decode cL_law 304 = .ok (.if_icmp .eq 517, 3) := by decide +kernel
theorem dL_law_307 : decode cL_law 307 = .ok (.iconst 0, 1) := by decide +kernel
theorem dL_law_308 : decode cL_law 308 = .ok (.ireturn, 1) := by decide +kernel
theorem dL_law_309 : decode cL_law 309 = .ok (.aload_n 1, 1) := by decide +kernel
theorem dL_law_310 : decode cL_law 310 = .ok (.aload_n 0, 1) := by decide +kernel
theorem dL_law_311 : decode cL_law 311 = .ok (.iload_n 3, 1) := by decide +kernel
theorem dL_law_312 : decode cL_law 312 = .ok (.iconst 1, 1) := by decide +kernel
theorem dL_law_313 : decode cL_law 313 = .ok (.iadd, 1) := by decide +kernel
theorem dL_law_314 : decode cL_law 314 = .ok (.iaload, 1) := by decide +kernel
theorem dL_law_315 : decode cL_law 315 = .ok (.invokevirtual 38, 3) := by decide +kernel
theorem dL_law_318 : decode cL_law 318 = .ok (.aload_n 2, 1) := by decide +kernel
theorem dL_law_319 : decode cL_law 319 = .ok (.aload_n 0, 1) := by decide +kernel
theorem dL_law_320 : decode cL_law 320 = .ok (.iload_n 3, 1) := by decide +kernel
theorem dL_law_321 : decode cL_law 321 = .ok (.iconst 1, 1) := by decide +kernel
theorem dL_law_322 : decode cL_law 322 = .ok (.iadd, 1) := by decide +kernel
theorem dL_law_323 : decode cL_law 323 = .ok (.iaload, 1) := by decide +kernel
theorem dL_law_324 : decode cL_law 324 = .ok (.invokevirtual 41, 3) := by decide +kernel
theorem dL_law_327 : decode cL_law 327 = .ok (.if_icmp .eq 494, 3) := by decide +kernel
theorem dL_law_330 : decode cL_law 330 = .ok (.iconst 0, 1) := by decide +kernel
theorem dL_law_331 : decode cL_law 331 = .ok (.ireturn, 1) := by decide +kernel
theorem dL_law_332 : decode cL_law 332 = .ok (.aload_n 1, 1) := by decide +kernel
theorem dL_law_333 : decode cL_law 333 = .ok (.aload_n 0, 1) := by decide +kernel
theorem dL_law_334 : decode cL_law 334 = .ok (.iload_n 3, 1) := by decide +kernel
theorem dL_law_335 : decode cL_law 335 = .ok (.iconst 1, 1) := by decide +kernel
theorem dL_law_336 : decode cL_law 336 = .ok (.iadd, 1) := by decide +kernel
theorem dL_law_337 : decode cL_law 337 = .ok (.iaload, 1) := by decide +kernel
theorem dL_law_338 : decode cL_law 338 = .ok (.aload_n 0, 1) := by decide +kernel
theorem dL_law_339 : decode cL_law 339 = .ok (.iload_n 3, 1) := by decide +kernel
theorem dL_law_340 : decode cL_law 340 = .ok (.iconst 2, 1) := by decide +kernel
theorem dL_law_341 : decode cL_law 341 = .ok (.iadd, 1) := by decide +kernel
theorem dL_law_342 : decode cL_law 342 = .ok (.iaload, 1) := by decide +kernel
theorem dL_law_343 : decode cL_law 343 = .ok (.aload_n 0, 1) := by decide +kernel
theorem dL_law_344 : decode cL_law 344 = .ok (.iload_n 3, 1) := by decide +kernel
theorem dL_law_345 : decode cL_law 345 = .ok (.iconst 3, 1) := by decide +kernel
theorem dL_law_346 : decode cL_law 346 = .ok (.iadd, 1) := by decide +kernel
theorem dL_law_347 : decode cL_law 347 = .ok (.iaload, 1) := by decide +kernel
theorem dL_law_348 : decode cL_law 348 = .ok (.invokevirtual 42, 3) := by decide +kernel
theorem dL_law_351 : decode cL_law 351 = .ok (.aload_n 2, 1) := by decide +kernel
theorem dL_law_352 : decode cL_law 352 = .ok (.aload_n 0, 1) := by decide +kernel
theorem dL_law_353 : decode cL_law 353 = .ok (.iload_n 3, 1) := by decide +kernel
theorem dL_law_354 : decode cL_law 354 = .ok (.iconst 1, 1) := by decide +kernel
theorem dL_law_355 : decode cL_law 355 = .ok (.iadd, 1) := by decide +kernel
theorem dL_law_356 : decode cL_law 356 = .ok (.iaload, 1) := by decide +kernel
theorem dL_law_357 : decode cL_law 357 = .ok (.aload_n 0, 1) := by decide +kernel
theorem dL_law_358 : decode cL_law 358 = .ok (.iload_n 3, 1) := by decide +kernel
theorem dL_law_359 : decode cL_law 359 = .ok (.iconst 2, 1) := by decide +kernel
theorem dL_law_360 : decode cL_law 360 = .ok (.iadd, 1) := by decide +kernel
theorem dL_law_361 : decode cL_law 361 = .ok (.iaload, 1) := by decide +kernel
theorem dL_law_362 : decode cL_law 362 = .ok (.aload_n 0, 1) := by decide +kernel
theorem dL_law_363 : decode cL_law 363 = .ok (.iload_n 3, 1) := by decide +kernel
theorem dL_law_364 : decode cL_law 364 = .ok (.iconst 3, 1) := by decide +kernel
theorem dL_law_365 : decode cL_law 365 = .ok (.iadd, 1) := by decide +kernel
theorem dL_law_366 : decode cL_law 366 = .ok (.iaload, 1) := by decide +kernel
theorem dL_law_367 : decode cL_law 367 = .ok (.invokevirtual 46, 3) := by decide +kernel
theorem dL_law_370 : decode cL_law 370 = .ok (.if_icmp .eq 451, 3) := by decide +kernel
theorem dL_law_373 : decode cL_law 373 = .ok (.iconst 0, 1) := by decide +kernel
theorem dL_law_374 : decode cL_law 374 = .ok (.ireturn, 1) := by decide +kernel
theorem dL_law_375 : decode cL_law 375 = .ok (.aload_n 1, 1) := by decide +kernel
theorem dL_law_376 : decode cL_law 376 = .ok (.aload_n 0, 1) := by decide +kernel
theorem dL_law_377 : decode cL_law 377 = .ok (.iload_n 3, 1) := by decide +kernel
theorem dL_law_378 : decode cL_law 378 = .ok (.iconst 1, 1) := by decide +kernel
theorem dL_law_379 : decode cL_law 379 = .ok (.iadd, 1) := by decide +kernel
theorem dL_law_380 : decode cL_law 380 = .ok (.iaload, 1) := by decide +kernel
theorem dL_law_381 : decode cL_law 381 = .ok (.aload_n 0, 1) := by decide +kernel
theorem dL_law_382 : decode cL_law 382 = .ok (.iload_n 3, 1) := by decide +kernel
theorem dL_law_383 : decode cL_law 383 = .ok (.iconst 2, 1) := by decide +kernel
theorem dL_law_384 : decode cL_law 384 = .ok (.iadd, 1) := by decide +kernel
theorem dL_law_385 : decode cL_law 385 = .ok (.iaload, 1) := by decide +kernel
theorem dL_law_386 : decode cL_law 386 = .ok (.aload_n 0, 1) := by decide +kernel
theorem dL_law_387 : decode cL_law 387 = .ok (.iload_n 3, 1) := by decide +kernel
theorem dL_law_388 : decode cL_law 388 = .ok (.iconst 3, 1) := by decide +kernel
theorem dL_law_389 : decode cL_law 389 = .ok (.iadd, 1) := by decide +kernel
theorem dL_law_390 : decode cL_law 390 = .ok (.iaload, 1) := by decide +kernel
theorem dL_law_391 : decode cL_law 391 = .ok (.aload_n 0, 1) := by decide +kernel
theorem dL_law_392 : decode cL_law 392 = .ok (.iload_n 3, 1) := by decide +kernel
theorem dL_law_393 : decode cL_law 393 = .ok (.iconst 4, 1) := by decide +kernel
theorem dL_law_394 : decode cL_law 394 = .ok (.iadd, 1) := by decide +kernel
theorem dL_law_395 : decode cL_law 395 = .ok (.iaload, 1) := by decide +kernel
theorem dL_law_396 : decode cL_law 396 = .ok (.invokevirtual 47, 3) := by decide +kernel
theorem dL_law_399 : decode cL_law 399 = .ok (.aload_n 2, 1) := by decide +kernel
theorem dL_law_400 : decode cL_law 400 = .ok (.aload_n 0, 1) := by decide +kernel
theorem dL_law_401 : decode cL_law 401 = .ok (.iload_n 3, 1) := by decide +kernel
theorem dL_law_402 : decode cL_law 402 = .ok (.iconst 1, 1) := by decide +kernel
theorem dL_law_403 : decode cL_law 403 = .ok (.iadd, 1) := by decide +kernel
theorem dL_law_404 : decode cL_law 404 = .ok (.iaload, 1) := by decide +kernel
theorem dL_law_405 : decode cL_law 405 = .ok (.aload_n 0, 1) := by decide +kernel
theorem dL_law_406 : decode cL_law 406 = .ok (.iload_n 3, 1) := by decide +kernel
theorem dL_law_407 : decode cL_law 407 = .ok (.iconst 2, 1) := by decide +kernel
theorem dL_law_408 : decode cL_law 408 = .ok (.iadd, 1) := by decide +kernel
theorem dL_law_409 : decode cL_law 409 = .ok (.iaload, 1) := by decide +kernel
theorem dL_law_410 : decode cL_law 410 = .ok (.aload_n 0, 1) := by decide +kernel
theorem dL_law_411 : decode cL_law 411 = .ok (.iload_n 3, 1) := by decide +kernel
theorem dL_law_412 : decode cL_law 412 = .ok (.iconst 3, 1) := by decide +kernel
theorem dL_law_413 : decode cL_law 413 = .ok (.iadd, 1) := by decide +kernel
theorem dL_law_414 : decode cL_law 414 = .ok (.iaload, 1) := by decide +kernel
theorem dL_law_415 : decode cL_law 415 = .ok (.aload_n 0, 1) := by decide +kernel
theorem dL_law_416 : decode cL_law 416 = .ok (.iload_n 3, 1) := by decide +kernel
theorem dL_law_417 : decode cL_law 417 = .ok (.iconst 4, 1) := by decide +kernel
theorem dL_law_418 : decode cL_law 418 = .ok (.iadd, 1) := by decide +kernel
theorem dL_law_419 : decode cL_law 419 = .ok (.iaload, 1) := by decide +kernel
theorem dL_law_420 : decode cL_law 420 = .ok (.invokevirtual 51, 3) := by decide +kernel
theorem dL_law_423 : decode cL_law 423 = .ok (.if_icmp .eq 398, 3) := by decide +kernel
theorem dL_law_426 : decode cL_law 426 = .ok (.iconst 0, 1) := by decide +kernel
theorem dL_law_427 : decode cL_law 427 = .ok (.ireturn, 1) := by decide +kernel
theorem dL_law_428 : decode cL_law 428 = .ok (.aload_n 1, 1) := by decide +kernel
theorem dL_law_429 : decode cL_law 429 = .ok (.aload_n 0, 1) := by decide +kernel
theorem dL_law_430 : decode cL_law 430 = .ok (.iload_n 3, 1) := by decide +kernel
theorem dL_law_431 : decode cL_law 431 = .ok (.iconst 1, 1) := by decide +kernel
theorem dL_law_432 : decode cL_law 432 = .ok (.iadd, 1) := by decide +kernel
theorem dL_law_433 : decode cL_law 433 = .ok (.iaload, 1) := by decide +kernel
theorem dL_law_434 : decode cL_law 434 = .ok (.aload_n 0, 1) := by decide +kernel
theorem dL_law_435 : decode cL_law 435 = .ok (.iload_n 3, 1) := by decide +kernel
theorem dL_law_436 : decode cL_law 436 = .ok (.iconst 2, 1) := by decide +kernel
theorem dL_law_437 : decode cL_law 437 = .ok (.iadd, 1) := by decide +kernel
theorem dL_law_438 : decode cL_law 438 = .ok (.iaload, 1) := by decide +kernel
theorem dL_law_439 : decode cL_law 439 = .ok (.aload_n 0, 1) := by decide +kernel
theorem dL_law_440 : decode cL_law 440 = .ok (.iload_n 3, 1) := by decide +kernel
theorem dL_law_441 : decode cL_law 441 = .ok (.iconst 3, 1) := by decide +kernel
theorem dL_law_442 : decode cL_law 442 = .ok (.iadd, 1) := by decide +kernel
theorem dL_law_443 : decode cL_law 443 = .ok (.iaload, 1) := by decide +kernel
theorem dL_law_444 : decode cL_law 444 = .ok (.aload_n 0, 1) := by decide +kernel
theorem dL_law_445 : decode cL_law 445 = .ok (.iload_n 3, 1) := by decide +kernel
theorem dL_law_446 : decode cL_law 446 = .ok (.iconst 4, 1) := by decide +kernel
theorem dL_law_447 : decode cL_law 447 = .ok (.iadd, 1) := by decide +kernel
theorem dL_law_448 : decode cL_law 448 = .ok (.iaload, 1) := by decide +kernel
theorem dL_law_449 : decode cL_law 449 = .ok (.aload_n 0, 1) := by decide +kernel
theorem dL_law_450 : decode cL_law 450 = .ok (.iload_n 3, 1) := by decide +kernel
theorem dL_law_451 : decode cL_law 451 = .ok (.iconst 5, 1) := by decide +kernel
theorem dL_law_452 : decode cL_law 452 = .ok (.iadd, 1) := by decide +kernel
theorem dL_law_453 : decode cL_law 453 = .ok (.iaload, 1) := by decide +kernel
theorem dL_law_454 : decode cL_law 454 = .ok (.invokevirtual 52, 3) := by decide +kernel
theorem dL_law_457 : decode cL_law 457 = .ok (.aload_n 2, 1) := by decide +kernel
theorem dL_law_458 : decode cL_law 458 = .ok (.aload_n 0, 1) := by decide +kernel
theorem dL_law_459 : decode cL_law 459 = .ok (.iload_n 3, 1) := by decide +kernel
theorem dL_law_460 : decode cL_law 460 = .ok (.iconst 1, 1) := by decide +kernel
theorem dL_law_461 : decode cL_law 461 = .ok (.iadd, 1) := by decide +kernel
theorem dL_law_462 : decode cL_law 462 = .ok (.iaload, 1) := by decide +kernel
theorem dL_law_463 : decode cL_law 463 = .ok (.aload_n 0, 1) := by decide +kernel
theorem dL_law_464 : decode cL_law 464 = .ok (.iload_n 3, 1) := by decide +kernel
theorem dL_law_465 : decode cL_law 465 = .ok (.iconst 2, 1) := by decide +kernel
theorem dL_law_466 : decode cL_law 466 = .ok (.iadd, 1) := by decide +kernel
theorem dL_law_467 : decode cL_law 467 = .ok (.iaload, 1) := by decide +kernel
theorem dL_law_468 : decode cL_law 468 = .ok (.aload_n 0, 1) := by decide +kernel
theorem dL_law_469 : decode cL_law 469 = .ok (.iload_n 3, 1) := by decide +kernel
theorem dL_law_470 : decode cL_law 470 = .ok (.iconst 3, 1) := by decide +kernel
theorem dL_law_471 : decode cL_law 471 = .ok (.iadd, 1) := by decide +kernel
theorem dL_law_472 : decode cL_law 472 = .ok (.iaload, 1) := by decide +kernel
theorem dL_law_473 : decode cL_law 473 = .ok (.aload_n 0, 1) := by decide +kernel
theorem dL_law_474 : decode cL_law 474 = .ok (.iload_n 3, 1) := by decide +kernel
theorem dL_law_475 : decode cL_law 475 = .ok (.iconst 4, 1) := by decide +kernel
theorem dL_law_476 : decode cL_law 476 = .ok (.iadd, 1) := by decide +kernel
theorem dL_law_477 : decode cL_law 477 = .ok (.iaload, 1) := by decide +kernel
theorem dL_law_478 : decode cL_law 478 = .ok (.aload_n 0, 1) := by decide +kernel
theorem dL_law_479 : decode cL_law 479 = .ok (.iload_n 3, 1) := by decide +kernel
theorem dL_law_480 : decode cL_law 480 = .ok (.iconst 5, 1) := by decide +kernel
theorem dL_law_481 : decode cL_law 481 = .ok (.iadd, 1) := by decide +kernel
theorem dL_law_482 : decode cL_law 482 = .ok (.iaload, 1) := by decide +kernel
theorem dL_law_483 : decode cL_law 483 = .ok (.invokevirtual 55, 3) := by decide +kernel
theorem dL_law_486 : decode cL_law 486 = .ok (.if_icmp .eq 335, 3) := by decide +kernel
theorem dL_law_489 : decode cL_law 489 = .ok (.iconst 0, 1) := by decide +kernel
theorem dL_law_490 : decode cL_law 490 = .ok (.ireturn, 1) := by decide +kernel
theorem dL_law_491 : decode cL_law 491 = .ok (.aload_n 1, 1) := by decide +kernel
theorem dL_law_492 : decode cL_law 492 = .ok (.aload_n 0, 1) := by decide +kernel
theorem dL_law_493 : decode cL_law 493 = .ok (.iload_n 3, 1) := by decide +kernel
theorem dL_law_494 : decode cL_law 494 = .ok (.iconst 1, 1) := by decide +kernel
theorem dL_law_495 : decode cL_law 495 = .ok (.iadd, 1) := by decide +kernel
theorem dL_law_496 : decode cL_law 496 = .ok (.iaload, 1) := by decide +kernel
theorem dL_law_497 : decode cL_law 497 = .ok (.aload_n 0, 1) := by decide +kernel
theorem dL_law_498 : decode cL_law 498 = .ok (.iload_n 3, 1) := by decide +kernel
theorem dL_law_499 : decode cL_law 499 = .ok (.iconst 2, 1) := by decide +kernel
theorem dL_law_500 : decode cL_law 500 = .ok (.iadd, 1) := by decide +kernel
theorem dL_law_501 : decode cL_law 501 = .ok (.iaload, 1) := by decide +kernel
theorem dL_law_502 : decode cL_law 502 = .ok (.invokevirtual 56, 3) := by decide +kernel
theorem dL_law_505 : decode cL_law 505 = .ok (.aload_n 2, 1) := by decide +kernel
theorem dL_law_506 : decode cL_law 506 = .ok (.aload_n 0, 1) := by decide +kernel
theorem dL_law_507 : decode cL_law 507 = .ok (.iload_n 3, 1) := by decide +kernel
theorem dL_law_508 : decode cL_law 508 = .ok (.iconst 1, 1) := by decide +kernel
theorem dL_law_509 : decode cL_law 509 = .ok (.iadd, 1) := by decide +kernel
theorem dL_law_510 : decode cL_law 510 = .ok (.iaload, 1) := by decide +kernel
theorem dL_law_511 : decode cL_law 511 = .ok (.aload_n 0, 1) := by decide +kernel
theorem dL_law_512 : decode cL_law 512 = .ok (.iload_n 3, 1) := by decide +kernel
theorem dL_law_513 : decode cL_law 513 = .ok (.iconst 2, 1) := by decide +kernel
theorem dL_law_514 : decode cL_law 514 = .ok (.iadd, 1) := by decide +kernel
theorem dL_law_515 : decode cL_law 515 = .ok (.iaload, 1) := by decide +kernel
theorem dL_law_516 : decode cL_law 516 = .ok (.invokevirtual 60, 3) := by decide +kernel
theorem dL_law_519 : decode cL_law 519 = .ok (.if_icmp .eq 302, 3) := by decide +kernel
theorem dL_law_522 : decode cL_law 522 = .ok (.iconst 0, 1) := by decide +kernel
theorem dL_law_523 : decode cL_law 523 = .ok (.ireturn, 1) := by decide +kernel
theorem dL_law_524 : decode cL_law 524 = .ok (.aload_n 1, 1) := by decide +kernel
theorem dL_law_525 : decode cL_law 525 = .ok (.invokevirtual 61, 3) := by decide +kernel
theorem dL_law_528 : decode cL_law 528 = .ok (.aload_n 2, 1) := by decide +kernel
theorem dL_law_529 : decode cL_law 529 = .ok (.invokevirtual 65, 3) := by decide +kernel
theorem dL_law_532 : decode cL_law 532 = .ok (.if_icmp .eq 289, 3) := by decide +kernel
theorem dL_law_535 : decode cL_law 535 = .ok (.iconst 0, 1) := by decide +kernel
theorem dL_law_536 : decode cL_law 536 = .ok (.ireturn, 1) := by decide +kernel
theorem dL_law_537 : decode cL_law 537 = .ok (.aload_n 1, 1) := by decide +kernel
theorem dL_law_538 : decode cL_law 538 = .ok (.aload_n 0, 1) := by decide +kernel
theorem dL_law_539 : decode cL_law 539 = .ok (.iload_n 3, 1) := by decide +kernel
theorem dL_law_540 : decode cL_law 540 = .ok (.iconst 1, 1) := by decide +kernel
theorem dL_law_541 : decode cL_law 541 = .ok (.iadd, 1) := by decide +kernel
theorem dL_law_542 : decode cL_law 542 = .ok (.iaload, 1) := by decide +kernel
theorem dL_law_543 : decode cL_law 543 = .ok (.aload_n 0, 1) := by decide +kernel
theorem dL_law_544 : decode cL_law 544 = .ok (.iload_n 3, 1) := by decide +kernel
theorem dL_law_545 : decode cL_law 545 = .ok (.iconst 2, 1) := by decide +kernel
theorem dL_law_546 : decode cL_law 546 = .ok (.iadd, 1) := by decide +kernel
theorem dL_law_547 : decode cL_law 547 = .ok (.iaload, 1) := by decide +kernel
theorem dL_law_548 : decode cL_law 548 = .ok (.aload_n 0, 1) := by decide +kernel
theorem dL_law_549 : decode cL_law 549 = .ok (.iload_n 3, 1) := by decide +kernel
theorem dL_law_550 : decode cL_law 550 = .ok (.iconst 3, 1) := by decide +kernel
theorem dL_law_551 : decode cL_law 551 = .ok (.iadd, 1) := by decide +kernel
theorem dL_law_552 : decode cL_law 552 = .ok (.iaload, 1) := by decide +kernel
theorem dL_law_553 : decode cL_law 553 = .ok (.invokevirtual 66, 3) := by decide +kernel
theorem dL_law_556 : decode cL_law 556 = .ok (.aload_n 2, 1) := by decide +kernel
theorem dL_law_557 : decode cL_law 557 = .ok (.aload_n 0, 1) := by decide +kernel
theorem dL_law_558 : decode cL_law 558 = .ok (.iload_n 3, 1) := by decide +kernel
theorem dL_law_559 : decode cL_law 559 = .ok (.iconst 1, 1) := by decide +kernel
theorem dL_law_560 : decode cL_law 560 = .ok (.iadd, 1) := by decide +kernel
theorem dL_law_561 : decode cL_law 561 = .ok (.iaload, 1) := by decide +kernel
theorem dL_law_562 : decode cL_law 562 = .ok (.aload_n 0, 1) := by decide +kernel
