theorem dX8_here_99 : decode cX8_here 99 = .ok (.dup, 1) := by decide +kernel
theorem dX8_here_100 : decode cX8_here 100 = .ok (.getfield 250, 3) := by decide +kernel
theorem dX8_here_103 : decode cX8_here 103 = .ok (.iconst 1, 1) := by decide +kernel
theorem dX8_here_104 : decode cX8_here 104 = .ok (.iadd, 1) := by decide +kernel
theorem dX8_here_105 : decode cX8_here 105 = .ok (.putfield 250, 3) := by decide +kernel
theorem dX8_here_108 : decode cX8_here 108 = .ok (.iconst 1, 1) := by decide +kernel
theorem dX8_here_109 : decode cX8_here 109 = .ok (.ireturn, 1) := by decide +kernel
theorem dX8_isHere_0 : decode cX8_isHere 0 = .ok (.iconst 0, 1) := by decide +kernel
theorem dX8_isHere_1 : decode cX8_isHere 1 = .ok (.istore 4, 2) := by decide +kernel
theorem dX8_isHere_3 : decode cX8_isHere 3 = .ok (.iconst 0, 1) := by decide +kernel
theorem dX8_isHere_4 : decode cX8_isHere 4 = .ok (.istore 5, 2) := by decide +kernel
theorem dX8_isHere_6 : decode cX8_isHere 6 = .ok (.iload 5, 2) := by decide +kernel
theorem dX8_isHere_8 : decode cX8_isHere 8 = .ok (.aload_n 0, 1) := by decide +kernel
theorem dX8_isHere_9 : decode cX8_isHere 9 = .ok (.getfield 250, 3) := by decide +kernel
theorem dX8_isHere_12 : decode cX8_isHere 12 = .ok (.if_icmp .ge 60, 3) := by decide +kernel
theorem dX8_isHere_15 : decode cX8_isHere 15 = .ok (.aload_n 0, 1) := by decide +kernel
theorem dX8_isHere_16 : decode cX8_isHere 16 = .ok (.getfield 47, 3) := by decide +kernel
theorem dX8_isHere_19 : decode cX8_isHere 19 = .ok (.iload 5, 2) := by decide +kernel
theorem dX8_isHere_21 : decode cX8_isHere 21 = .ok (.iaload, 1) := by decide +kernel
theorem dX8_isHere_22 : decode cX8_isHere 22 = .ok (.iload_n 1, 1) := by decide +kernel
theorem dX8_isHere_23 : decode cX8_isHere 23 = .ok (.if_icmp .ne 43, 3) := by decide +kernel
theorem dX8_isHere_26 : decode cX8_isHere 26 = .ok (.aload_n 0, 1) := by decide +kernel
theorem dX8_isHere_27 : decode cX8_isHere 27 = .ok (.getfield 50, 3) := by decide +kernel
theorem dX8_isHere_30 : decode cX8_isHere 30 = .ok (.iload 5, 2) := by decide +kernel
theorem dX8_isHere_32 : decode cX8_isHere 32 = .ok (.iaload, 1) := by decide +kernel
theorem dX8_isHere_33 : decode cX8_isHere 33 = .ok (.iload_n 2, 1) := by decide +kernel
theorem dX8_isHere_34 : decode cX8_isHere 34 = .ok (.if_icmp .ne 32, 3) := by decide +kernel
theorem dX8_isHere_37 : decode cX8_isHere 37 = .ok (.iload_n 3, 1) := by decide +kernel
theorem dX8_isHere_38 : decode cX8_isHere 38 = .ok (.aload_n 0, 1) := by decide +kernel
theorem dX8_isHere_39 : decode cX8_isHere 39 = .ok (.getfield 53, 3) := by decide +kernel
theorem dX8_isHere_42 : decode cX8_isHere 42 = .ok (.iload 5, 2) := by decide +kernel
theorem dX8_isHere_44 : decode cX8_isHere 44 = .ok (.iaload, 1) := by decide +kernel
theorem dX8_isHere_45 : decode cX8_isHere 45 = .ok (.if_icmp .lt 18, 3) := by decide +kernel
theorem dX8_isHere_48 : decode cX8_isHere 48 = .ok (.iload_n 3, 1) := by decide +kernel
theorem dX8_isHere_49 : decode cX8_isHere 49 = .ok (.aload_n 0, 1) := by decide +kernel
theorem dX8_isHere_50 : decode cX8_isHere 50 = .ok (.getfield 56, 3) := by decide +kernel
theorem dX8_isHere_53 : decode cX8_isHere 53 = .ok (.iload 5, 2) := by decide +kernel
theorem dX8_isHere_55 : decode cX8_isHere 55 = .ok (.iaload, 1) := by decide +kernel
theorem dX8_isHere_56 : decode cX8_isHere 56 = .ok (.if_icmp .ge 7, 3) := by decide +kernel
theorem dX8_isHere_59 : decode cX8_isHere 59 = .ok (.iconst 1, 1) := by decide +kernel
theorem dX8_isHere_60 : decode cX8_isHere 60 = .ok (.goto 4, 3) := by decide +kernel
theorem dX8_isHere_63 : decode cX8_isHere 63 = .ok (.iconst 0, 1) := by decide +kernel
theorem dX8_isHere_64 : decode cX8_isHere 64 = .ok (.istore 4, 2) := by decide +kernel
theorem dX8_isHere_66 : decode cX8_isHere 66 = .ok (.iinc 5 1, 3) := by decide +kernel
theorem dX8_isHere_69 : decode cX8_isHere 69 = .ok (.goto (-63), 3) := by decide +kernel
theorem dX8_isHere_72 : decode cX8_isHere 72 = .ok (.iload 4, 2) := by decide +kernel
theorem dX8_isHere_74 : decode cX8_isHere 74 = .ok (.ireturn, 1) := by decide +kernel
set_option maxRecDepth 20000 in
theorem ggX8_call_X8_isWorker : GoodIn wsX8_call wsX8_isWorker := goodIn_r _ [15, 16, 17, 18, 19, 20, 21, 22, 23, 24, 25, 26, 27, 28, 29, 30, 31, 32, 33, 34, 35, 36, 37, 38, 39, 40, 41, 42, 43, 44, 45, 46, 47, 48, 49, 50, 51, 52, 53, 54, 55, 56, 57, 58, 59, 60, 61, 62, 63, 64, 65, 66, 67, 68, 69, 70, 71, 72, 73, 74, 75, 76, 77, 78, 79, 80, 81, 82, 83, 84, 85, 86, 87, 88] (by decide +kernel) (by decide +kernel)
set_option maxRecDepth 20000 in
theorem gX8_call_X8_isWorker : GoodIn wsX8_call (wsV RX8 244 RX8 yX8_isWorker wsX8_isWorker) := goodIn_app (goodIn_of _ (by decide +kernel)) ggX8_call_X8_isWorker
theorem dX8_call_0 : decode cX8_call 0 = .ok (.aload_n 0, 1) := by decide +kernel
theorem dX8_call_1 : decode cX8_call 1 = .ok (.iconst 0, 1) := by decide +kernel
theorem dX8_call_2 : decode cX8_call 2 = .ok (.putfield 153, 3) := by decide +kernel
theorem dX8_call_5 : decode cX8_call 5 = .ok (.iload_n 1, 1) := by decide +kernel
theorem dX8_call_6 : decode cX8_call 6 = .ok (.ifCond .lt 68, 3) := by decide +kernel
theorem dX8_call_9 : decode cX8_call 9 = .ok (.iload_n 1, 1) := by decide +kernel
theorem dX8_call_10 : decode cX8_call 10 = .ok (.bipush 7, 2) := by decide +kernel
theorem dX8_call_12 : decode cX8_call 12 = .ok (.if_icmp .gt 62, 3) := by decide +kernel
theorem dX8_call_15 : decode cX8_call 15 = .ok (.iload_n 2, 1) := by decide +kernel
theorem dX8_call_16 : decode cX8_call 16 = .ok (.iconst 1, 1) := by decide +kernel
theorem dX8_call_17 : decode cX8_call 17 = .ok (.if_icmp .lt 57, 3) := by decide +kernel
theorem dX8_call_20 : decode cX8_call 20 = .ok (.iload_n 2, 1) := by decide +kernel
theorem dX8_call_21 : decode cX8_call 21 = .ok (.bipush 30, 2) := by decide +kernel
theorem dX8_call_23 : decode cX8_call 23 = .ok (.if_icmp .gt 51, 3) := by decide +kernel
theorem dX8_call_26 : decode cX8_call 26 = .ok (.iload_n 3, 1) := by decide +kernel
theorem dX8_call_27 : decode cX8_call 27 = .ok (.iconst 1, 1) := by decide +kernel
theorem dX8_call_28 : decode cX8_call 28 = .ok (.if_icmp .lt 46, 3) := by decide +kernel
theorem dX8_call_31 : decode cX8_call 31 = .ok (.iload_n 3, 1) := by decide +kernel
theorem dX8_call_32 : decode cX8_call 32 = .ok (.bipush 9, 2) := by decide +kernel
theorem dX8_call_34 : decode cX8_call 34 = .ok (.if_icmp .gt 40, 3) := by decide +kernel
theorem dX8_call_37 : decode cX8_call 37 = .ok (.iload 4, 2) := by decide +kernel
theorem dX8_call_39 : decode cX8_call 39 = .ok (.iconst (-1), 1) := by decide +kernel
theorem dX8_call_40 : decode cX8_call 40 = .ok (.if_icmp .eq 12, 3) := by decide +kernel
theorem dX8_call_43 : decode cX8_call 43 = .ok (.aload_n 0, 1) := by decide +kernel
theorem dX8_call_44 : decode cX8_call 44 = .ok (.iload 4, 2) := by decide +kernel
theorem dX8_call_46 : decode cX8_call 46 = .ok (.invokevirtual 244, 3) := by decide +kernel
theorem dX8_call_49 : decode cX8_call 49 = .ok (.ifCond .eq 25, 3) := by decide +kernel
theorem dX8_call_52 : decode cX8_call 52 = .ok (.iload 5, 2) := by decide +kernel
theorem dX8_call_54 : decode cX8_call 54 = .ok (.ifCond .lt 20, 3) := by decide +kernel
theorem dX8_call_57 : decode cX8_call 57 = .ok (.iload 5, 2) := by decide +kernel
theorem dX8_call_59 : decode cX8_call 59 = .ok (.sipush 599, 3) := by decide +kernel
theorem dX8_call_62 : decode cX8_call 62 = .ok (.if_icmp .gt 12, 3) := by decide +kernel
theorem dX8_call_65 : decode cX8_call 65 = .ok (.aload_n 0, 1) := by decide +kernel
theorem dX8_call_66 : decode cX8_call 66 = .ok (.getfield 253, 3) := by decide +kernel
theorem dX8_call_69 : decode cX8_call 69 = .ok (.bipush 60, 2) := by decide +kernel
theorem dX8_call_71 : decode cX8_call 71 = .ok (.if_icmp .ne 5, 3) := by decide +kernel
theorem dX8_call_74 : decode cX8_call 74 = .ok (.iconst (-1), 1) := by decide +kernel
theorem dX8_call_75 : decode cX8_call 75 = .ok (.ireturn, 1) := by decide +kernel
theorem dX8_call_76 : decode cX8_call 76 = .ok (.aload_n 0, 1) := by decide +kernel
theorem dX8_call_77 : decode cX8_call 77 = .ok (.getfield 59, 3) := by decide +kernel
theorem dX8_call_80 : decode cX8_call 80 = .ok (.aload_n 0, 1) := by decide +kernel
theorem dX8_call_81 : decode cX8_call 81 = .ok (.getfield 253, 3) := by decide +kernel
theorem dX8_call_84 : decode cX8_call 84 = .ok (.iload_n 1, 1) := by decide +kernel
theorem dX8_call_85 : decode cX8_call 85 = .ok (.iastore, 1) := by decide +kernel
theorem dX8_call_86 : decode cX8_call 86 = .ok (.aload_n 0, 1) := by decide +kernel
theorem dX8_call_87 : decode cX8_call 87 = .ok (.getfield 62, 3) := by decide +kernel
theorem dX8_call_90 : decode cX8_call 90 = .ok (.aload_n 0, 1) := by decide +kernel
theorem dX8_call_91 : decode cX8_call 91 = .ok (.getfield 253, 3) := by decide +kernel
theorem dX8_call_94 : decode cX8_call 94 = .ok (.iload_n 2, 1) := by decide +kernel
theorem dX8_call_95 : decode cX8_call 95 = .ok (.iastore, 1) := by decide +kernel
theorem dX8_call_96 : decode cX8_call 96 = .ok (.aload_n 0, 1) := by decide +kernel
theorem dX8_call_97 : decode cX8_call 97 = .ok (.getfield 65, 3) := by decide +kernel
theorem dX8_call_100 : decode cX8_call 100 = .ok (.aload_n 0, 1) := by decide +kernel
theorem dX8_call_101 : decode cX8_call 101 = .ok (.getfield 253, 3) := by decide +kernel
theorem dX8_call_104 : decode cX8_call 104 = .ok (.iload_n 3, 1) := by decide +kernel
theorem dX8_call_105 : decode cX8_call 105 = .ok (.iastore, 1) := by decide +kernel
theorem dX8_call_106 : decode cX8_call 106 = .ok (.aload_n 0, 1) := by decide +kernel
theorem dX8_call_107 : decode cX8_call 107 = .ok (.getfield 68, 3) := by decide +kernel
theorem dX8_call_110 : decode cX8_call 110 = .ok (.aload_n 0, 1) := by decide +kernel
theorem dX8_call_111 : decode cX8_call 111 = .ok (.getfield 253, 3) := by decide +kernel
theorem dX8_call_114 : decode cX8_call 114 = .ok (.iload 4, 2) := by decide +kernel
theorem dX8_call_116 : decode cX8_call 116 = .ok (.iastore, 1) := by decide +kernel
theorem dX8_call_117 : decode cX8_call 117 = .ok (.aload_n 0, 1) := by decide +kernel
theorem dX8_call_118 : decode cX8_call 118 = .ok (.getfield 71, 3) := by decide +kernel
theorem dX8_call_121 : decode cX8_call 121 = .ok (.aload_n 0, 1) := by decide +kernel
theorem dX8_call_122 : decode cX8_call 122 = .ok (.getfield 253, 3) := by decide +kernel
theorem dX8_call_125 : decode cX8_call 125 = .ok (.iload 5, 2) := by decide +kernel
theorem dX8_call_127 : decode cX8_call 127 = .ok (.iastore, 1) := by decide +kernel
theorem dX8_call_128 : decode cX8_call 128 = .ok (.aload_n 0, 1) := by decide +kernel
theorem dX8_call_129 : decode cX8_call 129 = .ok (.getfield 74, 3) := by decide +kernel
theorem dX8_call_132 : decode cX8_call 132 = .ok (.aload_n 0, 1) := by decide +kernel
theorem dX8_call_133 : decode cX8_call 133 = .ok (.getfield 253, 3) := by decide +kernel
theorem dX8_call_136 : decode cX8_call 136 = .ok (.aload_n 0, 1) := by decide +kernel
theorem dX8_call_137 : decode cX8_call 137 = .ok (.getfield 231, 3) := by decide +kernel
theorem dX8_call_140 : decode cX8_call 140 = .ok (.iastore, 1) := by decide +kernel
theorem dX8_call_141 : decode cX8_call 141 = .ok (.aload_n 0, 1) := by decide +kernel
theorem dX8_call_142 : decode cX8_call 142 = .ok (.getfield 77, 3) := by decide +kernel
theorem dX8_call_145 : decode cX8_call 145 = .ok (.aload_n 0, 1) := by decide +kernel
theorem dX8_call_146 : decode cX8_call 146 = .ok (.getfield 253, 3) := by decide +kernel
theorem dX8_call_149 : decode cX8_call 149 = .ok (.iconst 0, 1) := by decide +kernel
theorem dX8_call_150 : decode cX8_call 150 = .ok (.iastore, 1) := by decide +kernel
theorem dX8_call_151 : decode cX8_call 151 = .ok (.aload_n 0, 1) := by decide +kernel
theorem dX8_call_152 : decode cX8_call 152 = .ok (.dup, 1) := by decide +kernel
theorem dX8_call_153 : decode cX8_call 153 = .ok (.getfield 253, 3) := by decide +kernel
theorem dX8_call_156 : decode cX8_call 156 = .ok (.iconst 1, 1) := by decide +kernel
theorem dX8_call_157 : decode cX8_call 157 = .ok (.iadd, 1) := by decide +kernel
theorem dX8_call_158 : decode cX8_call 158 = .ok (.putfield 253, 3) := by decide +kernel
theorem dX8_call_161 : decode cX8_call 161 = .ok (.aload_n 0, 1) := by decide +kernel
theorem dX8_call_162 : decode cX8_call 162 = .ok (.getfield 253, 3) := by decide +kernel
theorem dX8_call_165 : decode cX8_call 165 = .ok (.iconst 1, 1) := by decide +kernel
theorem dX8_call_166 : decode cX8_call 166 = .ok (.isub, 1) := by decide +kernel
theorem dX8_call_167 : decode cX8_call 167 = .ok (.ireturn, 1) := by decide +kernel
set_option maxRecDepth 20000 in
theorem ggX8_refuse_X8_isWorker : GoodIn wsX8_refuse wsX8_isWorker := goodIn_r _ [10, 11, 12, 13, 14, 15, 16, 17, 18, 19, 20, 21, 22, 23, 24, 25, 26, 27, 28, 29, 30, 31, 32, 33, 34, 35, 36, 37, 38, 39, 40, 41, 42, 43, 44, 45, 46, 47, 48, 49, 50, 51, 52, 53, 54, 55, 56, 57, 58, 59, 60, 61, 62, 63, 64, 65, 66, 67, 68, 69, 70, 71, 72, 73, 74, 75, 76, 77, 78, 79, 80, 81, 82, 83] (by decide +kernel) (by decide +kernel)
set_option maxRecDepth 20000 in
theorem gX8_refuse_X8_isWorker : GoodIn wsX8_refuse (wsV RX8 244 RX8 yX8_isWorker wsX8_isWorker) := goodIn_app (goodIn_of _ (by decide +kernel)) ggX8_refuse_X8_isWorker
theorem dX8_refuse_0 : decode cX8_refuse 0 = .ok (.aload_n 0, 1) := by decide +kernel
theorem dX8_refuse_1 : decode cX8_refuse 1 = .ok (.iconst 0, 1) := by decide +kernel
theorem dX8_refuse_2 : decode cX8_refuse 2 = .ok (.putfield 153, 3) := by decide +kernel
theorem dX8_refuse_5 : decode cX8_refuse 5 = .ok (.iload_n 1, 1) := by decide +kernel
theorem dX8_refuse_6 : decode cX8_refuse 6 = .ok (.ifCond .lt 46, 3) := by decide +kernel
theorem dX8_refuse_9 : decode cX8_refuse 9 = .ok (.iload_n 1, 1) := by decide +kernel
theorem dX8_refuse_10 : decode cX8_refuse 10 = .ok (.aload_n 0, 1) := by decide +kernel
theorem dX8_refuse_11 : decode cX8_refuse 11 = .ok (.getfield 253, 3) := by decide +kernel
theorem dX8_refuse_14 : decode cX8_refuse 14 = .ok (.if_icmp .ge 38, 3) := by decide +kernel
theorem dX8_refuse_17 : decode cX8_refuse 17 = .ok (.aload_n 0, 1) := by decide +kernel
theorem dX8_refuse_18 : decode cX8_refuse 18 = .ok (.getfield 74, 3) := by decide +kernel
theorem dX8_refuse_21 : decode cX8_refuse 21 = .ok (.iload_n 1, 1) := by decide +kernel
theorem dX8_refuse_22 : decode cX8_refuse 22 = .ok (.iaload, 1) := by decide +kernel
theorem dX8_refuse_23 : decode cX8_refuse 23 = .ok (.aload_n 0, 1) := by decide +kernel
theorem dX8_refuse_24 : decode cX8_refuse 24 = .ok (.getfield 231, 3) := by decide +kernel
theorem dX8_refuse_27 : decode cX8_refuse 27 = .ok (.if_icmp .ne 25, 3) := by decide +kernel
theorem dX8_refuse_30 : decode cX8_refuse 30 = .ok (.aload_n 0, 1) := by decide +kernel
theorem dX8_refuse_31 : decode cX8_refuse 31 = .ok (.iload_n 2, 1) := by decide +kernel
theorem dX8_refuse_32 : decode cX8_refuse 32 = .ok (.invokevirtual 244, 3) := by decide +kernel
theorem dX8_refuse_35 : decode cX8_refuse 35 = .ok (.ifCond .eq 17, 3) := by decide +kernel
theorem dX8_refuse_38 : decode cX8_refuse 38 = .ok (.aload_n 0, 1) := by decide +kernel
theorem dX8_refuse_39 : decode cX8_refuse 39 = .ok (.getfield 77, 3) := by decide +kernel
theorem dX8_refuse_42 : decode cX8_refuse 42 = .ok (.iload_n 1, 1) := by decide +kernel
theorem dX8_refuse_43 : decode cX8_refuse 43 = .ok (.iaload, 1) := by decide +kernel
theorem dX8_refuse_44 : decode cX8_refuse 44 = .ok (.iload_n 2, 1) := by decide +kernel
theorem dX8_refuse_45 : decode cX8_refuse 45 = .ok (.ishr, 1) := by decide +kernel
theorem dX8_refuse_46 : decode cX8_refuse 46 = .ok (.iconst 1, 1) := by decide +kernel
theorem dX8_refuse_47 : decode cX8_refuse 47 = .ok (.iand, 1) := by decide +kernel
theorem dX8_refuse_48 : decode cX8_refuse 48 = .ok (.iconst 1, 1) := by decide +kernel
theorem dX8_refuse_49 : decode cX8_refuse 49 = .ok (.if_icmp .ne 5, 3) := by decide +kernel
theorem dX8_refuse_52 : decode cX8_refuse 52 = .ok (.iconst 0, 1) := by decide +kernel
theorem dX8_refuse_53 : decode cX8_refuse 53 = .ok (.ireturn, 1) := by decide +kernel
theorem dX8_refuse_54 : decode cX8_refuse 54 = .ok (.aload_n 0, 1) := by decide +kernel
theorem dX8_refuse_55 : decode cX8_refuse 55 = .ok (.getfield 77, 3) := by decide +kernel
theorem dX8_refuse_58 : decode cX8_refuse 58 = .ok (.iload_n 1, 1) := by decide +kernel
theorem dX8_refuse_59 : decode cX8_refuse 59 = .ok (.dup2, 1) := by decide +kernel
theorem dX8_refuse_60 : decode cX8_refuse 60 = .ok (.iaload, 1) := by decide +kernel
theorem dX8_refuse_61 : decode cX8_refuse 61 = .ok (.iconst 1, 1) := by decide +kernel
theorem dX8_refuse_62 : decode cX8_refuse 62 = .ok (.iload_n 2, 1) := by decide +kernel
theorem dX8_refuse_63 : decode cX8_refuse 63 = .ok (.ishl, 1) := by decide +kernel
theorem dX8_refuse_64 : decode cX8_refuse 64 = .ok (.ior, 1) := by decide +kernel
theorem dX8_refuse_65 : decode cX8_refuse 65 = .ok (.iastore, 1) := by decide +kernel
theorem dX8_refuse_66 : decode cX8_refuse 66 = .ok (.iconst 1, 1) := by decide +kernel
theorem dX8_refuse_67 : decode cX8_refuse 67 = .ok (.ireturn, 1) := by decide +kernel
theorem dX8_comesToEnd_0 : decode cX8_comesToEnd 0 = .ok (.aload_n 0, 1) := by decide +kernel
theorem dX8_comesToEnd_1 : decode cX8_comesToEnd 1 = .ok (.getfield 29, 3) := by decide +kernel
theorem dX8_comesToEnd_4 : decode cX8_comesToEnd 4 = .ok (.iload_n 1, 1) := by decide +kernel
theorem dX8_comesToEnd_5 : decode cX8_comesToEnd 5 = .ok (.iaload, 1) := by decide +kernel
theorem dX8_comesToEnd_6 : decode cX8_comesToEnd 6 = .ok (.istore_n 2, 1) := by decide +kernel
theorem dX8_comesToEnd_7 : decode cX8_comesToEnd 7 = .ok (.iconst 0, 1) := by decide +kernel
theorem dX8_comesToEnd_8 : decode cX8_comesToEnd 8 = .ok (.istore_n 3, 1) := by decide +kernel
theorem dX8_comesToEnd_9 : decode cX8_comesToEnd 9 = .ok (.iconst 0, 1) := by decide +kernel
theorem dX8_comesToEnd_10 : decode cX8_comesToEnd 10 = .ok (.istore 4, 2) := by decide +kernel
theorem dX8_comesToEnd_12 : decode cX8_comesToEnd 12 = .ok (.iload 4, 2) := by decide +kernel
theorem dX8_comesToEnd_14 : decode cX8_comesToEnd 14 = .ok (.aload_n 0, 1) := by decide +kernel
theorem dX8_comesToEnd_15 : decode cX8_comesToEnd 15 = .ok (.getfield 83, 3) := by decide +kernel
theorem dX8_comesToEnd_18 : decode cX8_comesToEnd 18 = .ok (.iload_n 2, 1) := by decide +kernel
theorem dX8_comesToEnd_19 : decode cX8_comesToEnd 19 = .ok (.iaload, 1) := by decide +kernel
theorem dX8_comesToEnd_20 : decode cX8_comesToEnd 20 = .ok (.if_icmp .ge 54, 3) := by decide +kernel
theorem dX8_comesToEnd_23 : decode cX8_comesToEnd 23 = .ok (.aload_n 0, 1) := by decide +kernel
theorem dX8_comesToEnd_24 : decode cX8_comesToEnd 24 = .ok (.getfield 80, 3) := by decide +kernel
theorem dX8_comesToEnd_27 : decode cX8_comesToEnd 27 = .ok (.bipush 16, 2) := by decide +kernel
theorem dX8_comesToEnd_29 : decode cX8_comesToEnd 29 = .ok (.iload_n 2, 1) := by decide +kernel
theorem dX8_comesToEnd_30 : decode cX8_comesToEnd 30 = .ok (.imul, 1) := by decide +kernel
theorem dX8_comesToEnd_31 : decode cX8_comesToEnd 31 = .ok (.iload 4, 2) := by decide +kernel
theorem dX8_comesToEnd_33 : decode cX8_comesToEnd 33 = .ok (.iadd, 1) := by decide +kernel
theorem dX8_comesToEnd_34 : decode cX8_comesToEnd 34 = .ok (.iaload, 1) := by decide +kernel
theorem dX8_comesToEnd_35 : decode cX8_comesToEnd 35 = .ok (.iload_n 1, 1) := by decide +kernel
theorem dX8_comesToEnd_36 : decode cX8_comesToEnd 36 = .ok (.if_icmp .ne 6, 3) := by decide +kernel
theorem dX8_comesToEnd_39 : decode cX8_comesToEnd 39 = .ok (.goto 29, 3) := by decide +kernel
theorem dX8_comesToEnd_42 : decode cX8_comesToEnd 42 = .ok (.aload_n 0, 1) := by decide +kernel
theorem dX8_comesToEnd_43 : decode cX8_comesToEnd 43 = .ok (.getfield 80, 3) := by decide +kernel
theorem dX8_comesToEnd_46 : decode cX8_comesToEnd 46 = .ok (.bipush 16, 2) := by decide +kernel
theorem dX8_comesToEnd_48 : decode cX8_comesToEnd 48 = .ok (.iload_n 2, 1) := by decide +kernel
theorem dX8_comesToEnd_49 : decode cX8_comesToEnd 49 = .ok (.imul, 1) := by decide +kernel
theorem dX8_comesToEnd_50 : decode cX8_comesToEnd 50 = .ok (.iload_n 3, 1) := by decide +kernel
theorem dX8_comesToEnd_51 : decode cX8_comesToEnd 51 = .ok (.iadd, 1) := by decide +kernel
theorem dX8_comesToEnd_52 : decode cX8_comesToEnd 52 = .ok (.aload_n 0, 1) := by decide +kernel
theorem dX8_comesToEnd_53 : decode cX8_comesToEnd 53 = .ok (.getfield 80, 3) := by decide +kernel
theorem dX8_comesToEnd_56 : decode cX8_comesToEnd 56 = .ok (.bipush 16, 2) := by decide +kernel
theorem dX8_comesToEnd_58 : decode cX8_comesToEnd 58 = .ok (.iload_n 2, 1) := by decide +kernel
theorem dX8_comesToEnd_59 : decode cX8_comesToEnd 59 = .ok (.imul, 1) := by decide +kernel
theorem dX8_comesToEnd_60 : decode cX8_comesToEnd 60 = .ok (.iload 4, 2) := by decide +kernel
theorem dX8_comesToEnd_62 : decode cX8_comesToEnd 62 = .ok (.iadd, 1) := by decide +kernel
theorem dX8_comesToEnd_63 : decode cX8_comesToEnd 63 = .ok (.iaload, 1) := by decide +kernel
theorem dX8_comesToEnd_64 : decode cX8_comesToEnd 64 = .ok (.iastore, 1) := by decide +kernel
theorem dX8_comesToEnd_65 : decode cX8_comesToEnd 65 = .ok (.iinc 3 1, 3) := by decide +kernel
theorem dX8_comesToEnd_68 : decode cX8_comesToEnd 68 = .ok (.iinc 4 1, 3) := by decide +kernel
theorem dX8_comesToEnd_71 : decode cX8_comesToEnd 71 = .ok (.goto (-59), 3) := by decide +kernel
theorem dX8_comesToEnd_74 : decode cX8_comesToEnd 74 = .ok (.aload_n 0, 1) := by decide +kernel
theorem dX8_comesToEnd_75 : decode cX8_comesToEnd 75 = .ok (.getfield 80, 3) := by decide +kernel
theorem dX8_comesToEnd_78 : decode cX8_comesToEnd 78 = .ok (.bipush 16, 2) := by decide +kernel
theorem dX8_comesToEnd_80 : decode cX8_comesToEnd 80 = .ok (.iload_n 2, 1) := by decide +kernel
theorem dX8_comesToEnd_81 : decode cX8_comesToEnd 81 = .ok (.imul, 1) := by decide +kernel
theorem dX8_comesToEnd_82 : decode cX8_comesToEnd 82 = .ok (.iload_n 3, 1) := by decide +kernel
theorem dX8_comesToEnd_83 : decode cX8_comesToEnd 83 = .ok (.iadd, 1) := by decide +kernel
theorem dX8_comesToEnd_84 : decode cX8_comesToEnd 84 = .ok (.iload_n 1, 1) := by decide +kernel
theorem dX8_comesToEnd_85 : decode cX8_comesToEnd 85 = .ok (.iastore, 1) := by decide +kernel
theorem dX8_comesToEnd_86 : decode cX8_comesToEnd 86 = .ok (.aload_n 0, 1) := by decide +kernel
theorem dX8_comesToEnd_87 : decode cX8_comesToEnd 87 = .ok (.getfield 83, 3) := by decide +kernel
theorem dX8_comesToEnd_90 : decode cX8_comesToEnd 90 = .ok (.iload_n 2, 1) := by decide +kernel
theorem dX8_comesToEnd_91 : decode cX8_comesToEnd 91 = .ok (.iload_n 3, 1) := by decide +kernel
theorem dX8_comesToEnd_92 : decode cX8_comesToEnd 92 = .ok (.iconst 1, 1) := by decide +kernel
theorem dX8_comesToEnd_93 : decode cX8_comesToEnd 93 = .ok (.iadd, 1) := by decide +kernel
theorem dX8_comesToEnd_94 : decode cX8_comesToEnd 94 = .ok (.iastore, 1) := by decide +kernel
theorem dX8_comesToEnd_95 : decode cX8_comesToEnd 95 = .ok (.return_, 1) := by decide +kernel
set_option maxRecDepth 20000 in
theorem ggX8_works_X8_begins : GoodIn wsX8_works wsX8_begins := goodIn_r _ [12, 13, 2, 14, 3, 15, 16, 17, 18, 19, 11, 20, 21, 22, 23, 24, 25, 26, 27, 28, 29, 30, 1, 31, 74, 75, 76, 77, 78, 79, 80, 81, 82, 83, 84, 85, 86, 87, 88, 89, 90, 91, 92, 93, 94, 95, 96, 97, 98, 99, 100, 101, 102, 103, 104, 105, 106, 107, 108, 109, 110, 111, 112, 113, 114, 115, 116, 117, 118, 119, 120, 121, 122, 123, 124, 125, 126, 127, 128, 129, 130, 131, 132, 133, 134, 135, 136, 137, 138, 139, 140, 141, 142, 143, 144, 145] (by decide +kernel) (by decide +kernel)
set_option maxRecDepth 20000 in
theorem gX8_works_X8_begins : GoodIn wsX8_works (wsV RX8 256 RX8 yX8_begins wsX8_begins) := goodIn_app (goodIn_of _ (by decide +kernel)) ggX8_works_X8_begins
set_option maxRecDepth 20000 in
theorem ggX8_works_X8_nextCall : GoodIn wsX8_works wsX8_nextCall := goodIn_r _ [35, 36, 37, 38, 74, 75, 76, 77, 78, 79, 80, 81, 82, 83, 84, 85, 86, 87, 88, 89, 90, 91, 92, 93, 94, 95, 96, 97, 98, 99, 100, 101, 102, 103, 104, 105, 106, 107, 108, 109, 110, 111, 112, 113, 114, 115, 116, 117, 118, 119, 120, 121, 122, 123, 124, 125, 126, 127, 128, 129, 130, 131, 132, 133, 134, 135, 136, 137, 138, 139, 140, 141, 142, 143, 144, 145] (by decide +kernel) (by decide +kernel)
set_option maxRecDepth 20000 in
theorem gX8_works_X8_nextCall : GoodIn wsX8_works (wsV RX8 262 RX8 yX8_nextCall wsX8_nextCall) := goodIn_app (goodIn_of _ (by decide +kernel)) ggX8_works_X8_nextCall
set_option maxRecDepth 20000 in
theorem ggX8_works_X8_asks : GoodIn wsX8_works wsX8_asks := goodIn_r _ [42, 13, 5, 16, 43, 30, 44, 1, 31, 38, 45, 46, 47, 48, 17, 18, 19, 11, 20, 21, 22, 23, 24, 25, 49, 50, 51, 52, 6, 2, 53, 54, 4, 14, 55, 15, 3, 7, 56, 57, 58, 59, 60, 61, 62, 63, 64, 65, 66, 67, 68, 69, 70, 71, 72, 73, 26, 27, 28, 29, 74, 75, 76, 77, 78, 79, 80, 81, 82, 83, 84, 85, 86, 87, 88, 89, 90, 91, 92, 93, 94, 95, 96, 97, 98, 99, 100, 101, 102, 103, 104, 105, 106, 107, 108, 109, 110, 111, 112, 113, 114, 115, 116, 117, 118, 119, 120, 121, 122, 123, 124, 125, 126, 127, 128, 129, 130, 131, 132, 133, 134, 135, 136, 137, 138, 139, 140, 141, 142, 143, 144, 145] (by decide +kernel) (by decide +kernel)
set_option maxRecDepth 20000 in
theorem gX8_works_X8_asks : GoodIn wsX8_works (wsV RX8 266 RX8 yX8_asks wsX8_asks) := goodIn_app (goodIn_of _ (by decide +kernel)) ggX8_works_X8_asks
theorem dX8_works_0 : decode cX8_works 0 = .ok (.iconst 0, 1) := by decide +kernel
theorem dX8_works_1 : decode cX8_works 1 = .ok (.istore_n 3, 1) := by decide +kernel
theorem dX8_works_2 : decode cX8_works 2 = .ok (.iload_n 3, 1) := by decide +kernel
theorem dX8_works_3 : decode cX8_works 3 = .ok (.iconst 3, 1) := by decide +kernel
theorem dX8_works_4 : decode cX8_works 4 = .ok (.if_icmp .ge 16, 3) := by decide +kernel
theorem dX8_works_7 : decode cX8_works 7 = .ok (.aload_n 0, 1) := by decide +kernel
theorem dX8_works_8 : decode cX8_works 8 = .ok (.getfield 83, 3) := by decide +kernel
theorem dX8_works_11 : decode cX8_works 11 = .ok (.iload_n 3, 1) := by decide +kernel
theorem dX8_works_12 : decode cX8_works 12 = .ok (.iconst 0, 1) := by decide +kernel
theorem dX8_works_13 : decode cX8_works 13 = .ok (.iastore, 1) := by decide +kernel
theorem dX8_works_14 : decode cX8_works 14 = .ok (.iinc 3 1, 3) := by decide +kernel
theorem dX8_works_17 : decode cX8_works 17 = .ok (.goto (-15), 3) := by decide +kernel
theorem dX8_works_20 : decode cX8_works 20 = .ok (.iconst 0, 1) := by decide +kernel
theorem dX8_works_21 : decode cX8_works 21 = .ok (.istore_n 3, 1) := by decide +kernel
theorem dX8_works_22 : decode cX8_works 22 = .ok (.iload_n 3, 1) := by decide +kernel
theorem dX8_works_23 : decode cX8_works 23 = .ok (.bipush 16, 2) := by decide +kernel
theorem dX8_works_25 : decode cX8_works 25 = .ok (.if_icmp .ge 30, 3) := by decide +kernel
theorem dX8_works_28 : decode cX8_works 28 = .ok (.aload_n 0, 1) := by decide +kernel
theorem dX8_works_29 : decode cX8_works 29 = .ok (.getfield 86, 3) := by decide +kernel
theorem dX8_works_32 : decode cX8_works 32 = .ok (.iload_n 3, 1) := by decide +kernel
theorem dX8_works_33 : decode cX8_works 33 = .ok (.iconst 0, 1) := by decide +kernel
theorem dX8_works_34 : decode cX8_works 34 = .ok (.bastore, 1) := by decide +kernel
theorem dX8_works_35 : decode cX8_works 35 = .ok (.aload_n 0, 1) := by decide +kernel
theorem dX8_works_36 : decode cX8_works 36 = .ok (.getfield 96, 3) := by decide +kernel
theorem dX8_works_39 : decode cX8_works 39 = .ok (.iload_n 3, 1) := by decide +kernel
theorem dX8_works_40 : decode cX8_works 40 = .ok (.iconst (-1), 1) := by decide +kernel
theorem dX8_works_41 : decode cX8_works 41 = .ok (.iastore, 1) := by decide +kernel
theorem dX8_works_42 : decode cX8_works 42 = .ok (.aload_n 0, 1) := by decide +kernel
theorem dX8_works_43 : decode cX8_works 43 = .ok (.getfield 99, 3) := by decide +kernel
theorem dX8_works_46 : decode cX8_works 46 = .ok (.iload_n 3, 1) := by decide +kernel
theorem dX8_works_47 : decode cX8_works 47 = .ok (.iconst 0, 1) := by decide +kernel
theorem dX8_works_48 : decode cX8_works 48 = .ok (.iastore, 1) := by decide +kernel
theorem dX8_works_49 : decode cX8_works 49 = .ok (.iinc 3 1, 3) := by decide +kernel
theorem dX8_works_52 : decode cX8_works 52 = .ok (.goto (-30), 3) := by decide +kernel
theorem dX8_works_55 : decode cX8_works 55 = .ok (.iconst 0, 1) := by decide +kernel
theorem dX8_works_56 : decode cX8_works 56 = .ok (.istore_n 3, 1) := by decide +kernel
theorem dX8_works_57 : decode cX8_works 57 = .ok (.iload_n 3, 1) := by decide +kernel
theorem dX8_works_58 : decode cX8_works 58 = .ok (.sipush 960, 3) := by decide +kernel
theorem dX8_works_61 : decode cX8_works 61 = .ok (.if_icmp .ge 23, 3) := by decide +kernel
theorem dX8_works_64 : decode cX8_works 64 = .ok (.aload_n 0, 1) := by decide +kernel
theorem dX8_works_65 : decode cX8_works 65 = .ok (.getfield 102, 3) := by decide +kernel
theorem dX8_works_68 : decode cX8_works 68 = .ok (.iload_n 3, 1) := by decide +kernel
theorem dX8_works_69 : decode cX8_works 69 = .ok (.iconst 0, 1) := by decide +kernel
theorem dX8_works_70 : decode cX8_works 70 = .ok (.iastore, 1) := by decide +kernel
theorem dX8_works_71 : decode cX8_works 71 = .ok (.aload_n 0, 1) := by decide +kernel
theorem dX8_works_72 : decode cX8_works 72 = .ok (.getfield 105, 3) := by decide +kernel
theorem dX8_works_75 : decode cX8_works 75 = .ok (.iload_n 3, 1) := by decide +kernel
theorem dX8_works_76 : decode cX8_works 76 = .ok (.iconst (-1), 1) := by decide +kernel
theorem dX8_works_77 : decode cX8_works 77 = .ok (.iastore, 1) := by decide +kernel
theorem dX8_works_78 : decode cX8_works 78 = .ok (.iinc 3 1, 3) := by decide +kernel
theorem dX8_works_81 : decode cX8_works 81 = .ok (.goto (-24), 3) := by decide +kernel
theorem dX8_works_84 : decode cX8_works 84 = .ok (.iconst 0, 1) := by decide +kernel
theorem dX8_works_85 : decode cX8_works 85 = .ok (.istore_n 3, 1) := by decide +kernel
theorem dX8_works_86 : decode cX8_works 86 = .ok (.iload_n 3, 1) := by decide +kernel
theorem dX8_works_87 : decode cX8_works 87 = .ok (.iload_n 1, 1) := by decide +kernel
theorem dX8_works_88 : decode cX8_works 88 = .ok (.if_icmp .ge 72, 3) := by decide +kernel
theorem dX8_works_91 : decode cX8_works 91 = .ok (.aload_n 0, 1) := by decide +kernel
theorem dX8_works_92 : decode cX8_works 92 = .ok (.iload_n 3, 1) := by decide +kernel
theorem dX8_works_93 : decode cX8_works 93 = .ok (.iload_n 2, 1) := by decide +kernel
theorem dX8_works_94 : decode cX8_works 94 = .ok (.iconst (-1), 1) := by decide +kernel
theorem dX8_works_95 : decode cX8_works 95 = .ok (.if_icmp .ne 7, 3) := by decide +kernel
theorem dX8_works_98 : decode cX8_works 98 = .ok (.iload_n 3, 1) := by decide +kernel
theorem dX8_works_99 : decode cX8_works 99 = .ok (.goto 4, 3) := by decide +kernel
theorem dX8_works_102 : decode cX8_works 102 = .ok (.iload_n 2, 1) := by decide +kernel
theorem dX8_works_103 : decode cX8_works 103 = .ok (.invokevirtual 256, 3) := by decide +kernel
theorem dX8_works_106 : decode cX8_works 106 = .ok (.aload_n 0, 1) := by decide +kernel
theorem dX8_works_107 : decode cX8_works 107 = .ok (.iconst 0, 1) := by decide +kernel
theorem dX8_works_108 : decode cX8_works 108 = .ok (.putfield 259, 3) := by decide +kernel
theorem dX8_works_111 : decode cX8_works 111 = .ok (.aload_n 0, 1) := by decide +kernel
theorem dX8_works_112 : decode cX8_works 112 = .ok (.iload_n 3, 1) := by decide +kernel
theorem dX8_works_113 : decode cX8_works 113 = .ok (.iconst (-1), 1) := by decide +kernel
theorem dX8_works_114 : decode cX8_works 114 = .ok (.invokevirtual 262, 3) := by decide +kernel
theorem dX8_works_117 : decode cX8_works 117 = .ok (.istore 4, 2) := by decide +kernel
theorem dX8_works_119 : decode cX8_works 119 = .ok (.iload 4, 2) := by decide +kernel
theorem dX8_works_121 : decode cX8_works 121 = .ok (.iconst (-1), 1) := by decide +kernel
theorem dX8_works_122 : decode cX8_works 122 = .ok (.if_icmp .eq 32, 3) := by decide +kernel
theorem dX8_works_125 : decode cX8_works 125 = .ok (.aload_n 0, 1) := by decide +kernel
theorem dX8_works_126 : decode cX8_works 126 = .ok (.iload 4, 2) := by decide +kernel
theorem dX8_works_128 : decode cX8_works 128 = .ok (.iload_n 3, 1) := by decide +kernel
theorem dX8_works_129 : decode cX8_works 129 = .ok (.iload_n 2, 1) := by decide +kernel
theorem dX8_works_130 : decode cX8_works 130 = .ok (.iconst (-1), 1) := by decide +kernel
theorem dX8_works_131 : decode cX8_works 131 = .ok (.if_icmp .ne 7, 3) := by decide +kernel
theorem dX8_works_134 : decode cX8_works 134 = .ok (.iload_n 3, 1) := by decide +kernel
theorem dX8_works_135 : decode cX8_works 135 = .ok (.goto 4, 3) := by decide +kernel
theorem dX8_works_138 : decode cX8_works 138 = .ok (.iload_n 2, 1) := by decide +kernel
theorem dX8_works_139 : decode cX8_works 139 = .ok (.invokevirtual 266, 3) := by decide +kernel
theorem dX8_works_142 : decode cX8_works 142 = .ok (.aload_n 0, 1) := by decide +kernel
theorem dX8_works_143 : decode cX8_works 143 = .ok (.iload_n 3, 1) := by decide +kernel
theorem dX8_works_144 : decode cX8_works 144 = .ok (.iload 4, 2) := by decide +kernel
theorem dX8_works_146 : decode cX8_works 146 = .ok (.invokevirtual 262, 3) := by decide +kernel
theorem dX8_works_149 : decode cX8_works 149 = .ok (.istore 4, 2) := by decide +kernel
theorem dX8_works_151 : decode cX8_works 151 = .ok (.goto (-32), 3) := by decide +kernel
theorem dX8_works_154 : decode cX8_works 154 = .ok (.iinc 3 1, 3) := by decide +kernel
theorem dX8_works_157 : decode cX8_works 157 = .ok (.goto (-71), 3) := by decide +kernel
theorem dX8_works_160 : decode cX8_works 160 = .ok (.return_, 1) := by decide +kernel
set_option maxRecDepth 20000 in
theorem ggX8_begins_X8_lawOf : GoodIn wsX8_begins wsX8_lawOf := goodIn_r _ [11, 12, 13, 14, 15, 16, 24, 25, 26, 27, 28, 29, 30, 31, 32, 33, 34, 35, 36, 37, 38, 39, 40, 41, 42, 43, 44, 45, 46, 47, 48, 49, 50, 51, 52, 53, 54, 55, 56, 57, 58, 59, 60, 61, 62, 63, 64, 65, 66, 67, 68, 69, 70, 71, 72, 73, 74, 75, 76, 77, 78, 79, 80, 81, 82, 83, 84, 85, 86, 87, 88, 89, 90, 91, 92, 93, 94, 95] (by decide +kernel) (by decide +kernel)
set_option maxRecDepth 20000 in
theorem gX8_begins_X8_lawOf : GoodIn wsX8_begins (wsV RX8 237 RX8 yX8_lawOf wsX8_lawOf) := goodIn_app (goodIn_of _ (by decide +kernel)) ggX8_begins_X8_lawOf
set_option maxRecDepth 20000 in
theorem ggX8_begins_X8_comesToEnd : GoodIn wsX8_begins wsX8_comesToEnd := goodIn_r _ [20, 21, 22, 23, 24, 25, 26, 27, 28, 29, 30, 31, 32, 33, 34, 35, 36, 37, 38, 39, 40, 41, 42, 43, 44, 45, 46, 47, 48, 49, 50, 51, 52, 53, 54, 55, 56, 57, 58, 59, 60, 61, 62, 63, 64, 65, 66, 67, 68, 69, 70, 71, 72, 73, 74, 75, 76, 77, 78, 79, 80, 81, 82, 83, 84, 85, 86, 87, 88, 89, 90, 91, 92, 93, 94, 95] (by decide +kernel) (by decide +kernel)
set_option maxRecDepth 20000 in
theorem gX8_begins_X8_comesToEnd : GoodIn wsX8_begins (wsV RX8 270 RX8 yX8_comesToEnd wsX8_comesToEnd) := goodIn_app (goodIn_of _ (by decide +kernel)) ggX8_begins_X8_comesToEnd
theorem dX8_begins_0 : decode cX8_begins 0 = .ok (.iconst 0, 1) := by decide +kernel
theorem dX8_begins_1 : decode cX8_begins 1 = .ok (.istore_n 3, 1) := by decide +kernel
theorem dX8_begins_2 : decode cX8_begins 2 = .ok (.iload_n 3, 1) := by decide +kernel
theorem dX8_begins_3 : decode cX8_begins 3 = .ok (.aload_n 0, 1) := by decide +kernel
theorem dX8_begins_4 : decode cX8_begins 4 = .ok (.getfield 241, 3) := by decide +kernel
theorem dX8_begins_7 : decode cX8_begins 7 = .ok (.if_icmp .ge 68, 3) := by decide +kernel
theorem dX8_begins_10 : decode cX8_begins 10 = .ok (.aload_n 0, 1) := by decide +kernel
theorem dX8_begins_11 : decode cX8_begins 11 = .ok (.getfield 86, 3) := by decide +kernel
theorem dX8_begins_14 : decode cX8_begins 14 = .ok (.iload_n 3, 1) := by decide +kernel
theorem dX8_begins_15 : decode cX8_begins 15 = .ok (.baload, 1) := by decide +kernel
theorem dX8_begins_16 : decode cX8_begins 16 = .ok (.ifCond .eq 53, 3) := by decide +kernel
theorem dX8_begins_19 : decode cX8_begins 19 = .ok (.aload_n 0, 1) := by decide +kernel
theorem dX8_begins_20 : decode cX8_begins 20 = .ok (.getfield 90, 3) := by decide +kernel
theorem dX8_begins_23 : decode cX8_begins 23 = .ok (.iload_n 3, 1) := by decide +kernel
theorem dX8_begins_24 : decode cX8_begins 24 = .ok (.iaload, 1) := by decide +kernel
theorem dX8_begins_25 : decode cX8_begins 25 = .ok (.iload_n 1, 1) := by decide +kernel
theorem dX8_begins_26 : decode cX8_begins 26 = .ok (.iconst 1, 1) := by decide +kernel
theorem dX8_begins_27 : decode cX8_begins 27 = .ok (.isub, 1) := by decide +kernel
theorem dX8_begins_28 : decode cX8_begins 28 = .ok (.if_icmp .eq 6, 3) := by decide +kernel
theorem dX8_begins_31 : decode cX8_begins 31 = .ok (.goto 38, 3) := by decide +kernel
theorem dX8_begins_34 : decode cX8_begins 34 = .ok (.aload_n 0, 1) := by decide +kernel
theorem dX8_begins_35 : decode cX8_begins 35 = .ok (.getfield 86, 3) := by decide +kernel
theorem dX8_begins_38 : decode cX8_begins 38 = .ok (.iload_n 3, 1) := by decide +kernel
theorem dX8_begins_39 : decode cX8_begins 39 = .ok (.iconst 0, 1) := by decide +kernel
theorem dX8_begins_40 : decode cX8_begins 40 = .ok (.bastore, 1) := by decide +kernel
theorem dX8_begins_41 : decode cX8_begins 41 = .ok (.aload_n 0, 1) := by decide +kernel
theorem dX8_begins_42 : decode cX8_begins 42 = .ok (.getfield 96, 3) := by decide +kernel
theorem dX8_begins_45 : decode cX8_begins 45 = .ok (.iload_n 3, 1) := by decide +kernel
theorem dX8_begins_46 : decode cX8_begins 46 = .ok (.iconst (-1), 1) := by decide +kernel
theorem dX8_begins_47 : decode cX8_begins 47 = .ok (.iastore, 1) := by decide +kernel
theorem dX8_begins_48 : decode cX8_begins 48 = .ok (.aload_n 0, 1) := by decide +kernel
theorem dX8_begins_49 : decode cX8_begins 49 = .ok (.getfield 93, 3) := by decide +kernel
theorem dX8_begins_52 : decode cX8_begins 52 = .ok (.iload_n 3, 1) := by decide +kernel
theorem dX8_begins_53 : decode cX8_begins 53 = .ok (.iaload, 1) := by decide +kernel
theorem dX8_begins_54 : decode cX8_begins 54 = .ok (.aload_n 0, 1) := by decide +kernel
theorem dX8_begins_55 : decode cX8_begins 55 = .ok (.iconst 0, 1) := by decide +kernel
theorem dX8_begins_56 : decode cX8_begins 56 = .ok (.iload_n 1, 1) := by decide +kernel
theorem dX8_begins_57 : decode cX8_begins 57 = .ok (.iload_n 2, 1) := by decide +kernel
theorem dX8_begins_58 : decode cX8_begins 58 = .ok (.invokevirtual 237, 3) := by decide +kernel
theorem dX8_begins_61 : decode cX8_begins 61 = .ok (.if_icmp .le 8, 3) := by decide +kernel
theorem dX8_begins_64 : decode cX8_begins 64 = .ok (.aload_n 0, 1) := by decide +kernel
theorem dX8_begins_65 : decode cX8_begins 65 = .ok (.iload_n 3, 1) := by decide +kernel
theorem dX8_begins_66 : decode cX8_begins 66 = .ok (.invokevirtual 270, 3) := by decide +kernel
theorem dX8_begins_69 : decode cX8_begins 69 = .ok (.iinc 3 1, 3) := by decide +kernel
theorem dX8_begins_72 : decode cX8_begins 72 = .ok (.goto (-70), 3) := by decide +kernel
theorem dX8_begins_75 : decode cX8_begins 75 = .ok (.iconst 0, 1) := by decide +kernel
theorem dX8_begins_76 : decode cX8_begins 76 = .ok (.istore_n 3, 1) := by decide +kernel
theorem dX8_begins_77 : decode cX8_begins 77 = .ok (.iload_n 3, 1) := by decide +kernel
theorem dX8_begins_78 : decode cX8_begins 78 = .ok (.aload_n 0, 1) := by decide +kernel
theorem dX8_begins_79 : decode cX8_begins 79 = .ok (.getfield 241, 3) := by decide +kernel
theorem dX8_begins_82 : decode cX8_begins 82 = .ok (.if_icmp .ge 24, 3) := by decide +kernel
theorem dX8_begins_85 : decode cX8_begins 85 = .ok (.aload_n 0, 1) := by decide +kernel
theorem dX8_begins_86 : decode cX8_begins 86 = .ok (.getfield 32, 3) := by decide +kernel
theorem dX8_begins_89 : decode cX8_begins 89 = .ok (.iload_n 3, 1) := by decide +kernel
theorem dX8_begins_90 : decode cX8_begins 90 = .ok (.iaload, 1) := by decide +kernel
theorem dX8_begins_91 : decode cX8_begins 91 = .ok (.iload_n 1, 1) := by decide +kernel
theorem dX8_begins_92 : decode cX8_begins 92 = .ok (.if_icmp .ne 8, 3) := by decide +kernel
theorem dX8_begins_95 : decode cX8_begins 95 = .ok (.aload_n 0, 1) := by decide +kernel
theorem dX8_begins_96 : decode cX8_begins 96 = .ok (.iload_n 3, 1) := by decide +kernel
theorem dX8_begins_97 : decode cX8_begins 97 = .ok (.invokevirtual 270, 3) := by decide +kernel
theorem dX8_begins_100 : decode cX8_begins 100 = .ok (.iinc 3 1, 3) := by decide +kernel
theorem dX8_begins_103 : decode cX8_begins 103 = .ok (.goto (-26), 3) := by decide +kernel
theorem dX8_begins_106 : decode cX8_begins 106 = .ok (.return_, 1) := by decide +kernel
theorem dX8_nextCall_0 : decode cX8_nextCall 0 = .ok (.iconst (-1), 1) := by decide +kernel
theorem dX8_nextCall_1 : decode cX8_nextCall 1 = .ok (.istore_n 3, 1) := by decide +kernel
theorem dX8_nextCall_2 : decode cX8_nextCall 2 = .ok (.iconst 0, 1) := by decide +kernel
theorem dX8_nextCall_3 : decode cX8_nextCall 3 = .ok (.istore 4, 2) := by decide +kernel
theorem dX8_nextCall_5 : decode cX8_nextCall 5 = .ok (.iload 4, 2) := by decide +kernel
theorem dX8_nextCall_7 : decode cX8_nextCall 7 = .ok (.aload_n 0, 1) := by decide +kernel
theorem dX8_nextCall_8 : decode cX8_nextCall 8 = .ok (.getfield 253, 3) := by decide +kernel
theorem dX8_nextCall_11 : decode cX8_nextCall 11 = .ok (.if_icmp .ge 102, 3) := by decide +kernel
theorem dX8_nextCall_14 : decode cX8_nextCall 14 = .ok (.aload_n 0, 1) := by decide +kernel
theorem dX8_nextCall_15 : decode cX8_nextCall 15 = .ok (.getfield 74, 3) := by decide +kernel
theorem dX8_nextCall_18 : decode cX8_nextCall 18 = .ok (.iload 4, 2) := by decide +kernel
theorem dX8_nextCall_20 : decode cX8_nextCall 20 = .ok (.iaload, 1) := by decide +kernel
theorem dX8_nextCall_21 : decode cX8_nextCall 21 = .ok (.iload_n 1, 1) := by decide +kernel
theorem dX8_nextCall_22 : decode cX8_nextCall 22 = .ok (.if_icmp .eq 6, 3) := by decide +kernel
theorem dX8_nextCall_25 : decode cX8_nextCall 25 = .ok (.goto 82, 3) := by decide +kernel
theorem dX8_nextCall_28 : decode cX8_nextCall 28 = .ok (.iload_n 2, 1) := by decide +kernel
theorem dX8_nextCall_29 : decode cX8_nextCall 29 = .ok (.iconst (-1), 1) := by decide +kernel
theorem dX8_nextCall_30 : decode cX8_nextCall 30 = .ok (.if_icmp .eq 41, 3) := by decide +kernel
theorem dX8_nextCall_33 : decode cX8_nextCall 33 = .ok (.aload_n 0, 1) := by decide +kernel
theorem dX8_nextCall_34 : decode cX8_nextCall 34 = .ok (.getfield 71, 3) := by decide +kernel
theorem dX8_nextCall_37 : decode cX8_nextCall 37 = .ok (.iload 4, 2) := by decide +kernel
theorem dX8_nextCall_39 : decode cX8_nextCall 39 = .ok (.iaload, 1) := by decide +kernel
theorem dX8_nextCall_40 : decode cX8_nextCall 40 = .ok (.aload_n 0, 1) := by decide +kernel
theorem dX8_nextCall_41 : decode cX8_nextCall 41 = .ok (.getfield 71, 3) := by decide +kernel
theorem dX8_nextCall_44 : decode cX8_nextCall 44 = .ok (.iload_n 2, 1) := by decide +kernel
theorem dX8_nextCall_45 : decode cX8_nextCall 45 = .ok (.iaload, 1) := by decide +kernel
theorem dX8_nextCall_46 : decode cX8_nextCall 46 = .ok (.if_icmp .gt 25, 3) := by decide +kernel
theorem dX8_nextCall_49 : decode cX8_nextCall 49 = .ok (.aload_n 0, 1) := by decide +kernel
theorem dX8_nextCall_50 : decode cX8_nextCall 50 = .ok (.getfield 71, 3) := by decide +kernel
theorem dX8_nextCall_53 : decode cX8_nextCall 53 = .ok (.iload 4, 2) := by decide +kernel
theorem dX8_nextCall_55 : decode cX8_nextCall 55 = .ok (.iaload, 1) := by decide +kernel
theorem dX8_nextCall_56 : decode cX8_nextCall 56 = .ok (.aload_n 0, 1) := by decide +kernel
theorem dX8_nextCall_57 : decode cX8_nextCall 57 = .ok (.getfield 71, 3) := by decide +kernel
theorem dX8_nextCall_60 : decode cX8_nextCall 60 = .ok (.iload_n 2, 1) := by decide +kernel
theorem dX8_nextCall_61 : decode cX8_nextCall 61 = .ok (.iaload, 1) := by decide +kernel
theorem dX8_nextCall_62 : decode cX8_nextCall 62 = .ok (.if_icmp .ne 13, 3) := by decide +kernel
theorem dX8_nextCall_65 : decode cX8_nextCall 65 = .ok (.iload 4, 2) := by decide +kernel
theorem dX8_nextCall_67 : decode cX8_nextCall 67 = .ok (.iload_n 2, 1) := by decide +kernel
theorem dX8_nextCall_68 : decode cX8_nextCall 68 = .ok (.if_icmp .le 7, 3) := by decide +kernel
theorem dX8_nextCall_71 : decode cX8_nextCall 71 = .ok (.iconst 1, 1) := by decide +kernel
theorem dX8_nextCall_72 : decode cX8_nextCall 72 = .ok (.goto 4, 3) := by decide +kernel
theorem dX8_nextCall_75 : decode cX8_nextCall 75 = .ok (.iconst 0, 1) := by decide +kernel
theorem dX8_nextCall_76 : decode cX8_nextCall 76 = .ok (.istore 5, 2) := by decide +kernel
theorem dX8_nextCall_78 : decode cX8_nextCall 78 = .ok (.iload 5, 2) := by decide +kernel
theorem dX8_nextCall_80 : decode cX8_nextCall 80 = .ok (.ifCond .eq 27, 3) := by decide +kernel
theorem dX8_nextCall_83 : decode cX8_nextCall 83 = .ok (.iload_n 3, 1) := by decide +kernel
theorem dX8_nextCall_84 : decode cX8_nextCall 84 = .ok (.iconst (-1), 1) := by decide +kernel
theorem dX8_nextCall_85 : decode cX8_nextCall 85 = .ok (.if_icmp .eq 19, 3) := by decide +kernel
theorem dX8_nextCall_88 : decode cX8_nextCall 88 = .ok (.aload_n 0, 1) := by decide +kernel
theorem dX8_nextCall_89 : decode cX8_nextCall 89 = .ok (.getfield 71, 3) := by decide +kernel
theorem dX8_nextCall_92 : decode cX8_nextCall 92 = .ok (.iload 4, 2) := by decide +kernel
theorem dX8_nextCall_94 : decode cX8_nextCall 94 = .ok (.iaload, 1) := by decide +kernel
theorem dX8_nextCall_95 : decode cX8_nextCall 95 = .ok (.aload_n 0, 1) := by decide +kernel
theorem dX8_nextCall_96 : decode cX8_nextCall 96 = .ok (.getfield 71, 3) := by decide +kernel
theorem dX8_nextCall_99 : decode cX8_nextCall 99 = .ok (.iload_n 3, 1) := by decide +kernel
theorem dX8_nextCall_100 : decode cX8_nextCall 100 = .ok (.iaload, 1) := by decide +kernel
theorem dX8_nextCall_101 : decode cX8_nextCall 101 = .ok (.if_icmp .ge 6, 3) := by decide +kernel
theorem dX8_nextCall_104 : decode cX8_nextCall 104 = .ok (.iload 4, 2) := by decide +kernel
theorem dX8_nextCall_106 : decode cX8_nextCall 106 = .ok (.istore_n 3, 1) := by decide +kernel
theorem dX8_nextCall_107 : decode cX8_nextCall 107 = .ok (.iinc 4 1, 3) := by decide +kernel
theorem dX8_nextCall_110 : decode cX8_nextCall 110 = .ok (.goto (-105), 3) := by decide +kernel
theorem dX8_nextCall_113 : decode cX8_nextCall 113 = .ok (.iload_n 3, 1) := by decide +kernel
theorem dX8_nextCall_114 : decode cX8_nextCall 114 = .ok (.ireturn, 1) := by decide +kernel
set_option maxRecDepth 20000 in
theorem ggX8_asks_X8_lawOf : GoodIn wsX8_asks wsX8_lawOf := goodIn_r _ [18, 19, 20, 21, 22, 23, 60, 61, 62, 63, 64, 65, 66, 67, 68, 69, 70, 71, 72, 73, 74, 75, 76, 77, 78, 79, 80, 81, 82, 83, 84, 85, 86, 87, 88, 89, 90, 91, 92, 93, 94, 95, 96, 97, 98, 99, 100, 101, 102, 103, 104, 105, 106, 107, 108, 109, 110, 111, 112, 113, 114, 115, 116, 117, 118, 119, 120, 121, 122, 123, 124, 125, 126, 127, 128, 129, 130, 131] (by decide +kernel) (by decide +kernel)
set_option maxRecDepth 20000 in
theorem gX8_asks_X8_lawOf : GoodIn wsX8_asks (wsV RX8 237 RX8 yX8_lawOf wsX8_lawOf) := goodIn_app (goodIn_of _ (by decide +kernel)) ggX8_asks_X8_lawOf
set_option maxRecDepth 20000 in
theorem ggX8_asks_X8_comesTo : GoodIn wsX8_asks wsX8_comesTo := goodIn_r _ [27, 28, 10, 29, 30, 31, 2, 32, 33, 34, 35, 36, 12, 37, 38, 39, 40, 17, 41, 42, 43, 44, 45, 46, 47, 48, 49, 50, 51, 52, 53, 54, 55, 14, 15, 16, 18, 19, 20, 21, 22, 23, 56, 57, 58, 59, 5, 7, 8, 60, 61, 62, 63, 64, 65, 66, 67, 68, 69, 70, 71, 72, 73, 74, 75, 76, 77, 78, 79, 80, 81, 82, 83, 84, 85, 86, 87, 88, 89, 90, 91, 92, 93, 94, 95, 96, 97, 98, 99, 100, 101, 102, 103, 104, 105, 106, 107, 108, 109, 110, 111, 112, 113, 114, 115, 116, 117, 118, 119, 120, 121, 122, 123, 124, 125, 126, 127, 128, 129, 130, 131] (by decide +kernel) (by decide +kernel)
set_option maxRecDepth 20000 in
theorem gX8_asks_X8_comesTo : GoodIn wsX8_asks (wsV RX8 283 RX8 yX8_comesTo wsX8_comesTo) := goodIn_app (goodIn_of _ (by decide +kernel)) ggX8_asks_X8_comesTo
theorem dX8_asks_0 : decode cX8_asks 0 = .ok (.iconst 0, 1) := by decide +kernel
theorem dX8_asks_1 : decode cX8_asks 1 = .ok (.istore 4, 2) := by decide +kernel
theorem dX8_asks_3 : decode cX8_asks 3 = .ok (.iload 4, 2) := by decide +kernel
theorem dX8_asks_5 : decode cX8_asks 5 = .ok (.aload_n 0, 1) := by decide +kernel
theorem dX8_asks_6 : decode cX8_asks 6 = .ok (.getfield 241, 3) := by decide +kernel
theorem dX8_asks_9 : decode cX8_asks 9 = .ok (.if_icmp .ge 38, 3) := by decide +kernel
theorem dX8_asks_12 : decode cX8_asks 12 = .ok (.aload_n 0, 1) := by decide +kernel
theorem dX8_asks_13 : decode cX8_asks 13 = .ok (.getfield 102, 3) := by decide +kernel
theorem dX8_asks_16 : decode cX8_asks 16 = .ok (.bipush 16, 2) := by decide +kernel
theorem dX8_asks_18 : decode cX8_asks 18 = .ok (.iload_n 1, 1) := by decide +kernel
theorem dX8_asks_19 : decode cX8_asks 19 = .ok (.imul, 1) := by decide +kernel
theorem dX8_asks_20 : decode cX8_asks 20 = .ok (.iload 4, 2) := by decide +kernel
theorem dX8_asks_22 : decode cX8_asks 22 = .ok (.iadd, 1) := by decide +kernel
theorem dX8_asks_23 : decode cX8_asks 23 = .ok (.aload_n 0, 1) := by decide +kernel
theorem dX8_asks_24 : decode cX8_asks 24 = .ok (.getfield 32, 3) := by decide +kernel
theorem dX8_asks_27 : decode cX8_asks 27 = .ok (.iload 4, 2) := by decide +kernel
theorem dX8_asks_29 : decode cX8_asks 29 = .ok (.iaload, 1) := by decide +kernel
theorem dX8_asks_30 : decode cX8_asks 30 = .ok (.iload_n 2, 1) := by decide +kernel
theorem dX8_asks_31 : decode cX8_asks 31 = .ok (.if_icmp .gt 8, 3) := by decide +kernel
theorem dX8_asks_34 : decode cX8_asks 34 = .ok (.bipush 6, 2) := by decide +kernel
theorem dX8_asks_36 : decode cX8_asks 36 = .ok (.goto 4, 3) := by decide +kernel
theorem dX8_asks_39 : decode cX8_asks 39 = .ok (.iconst 0, 1) := by decide +kernel
theorem dX8_asks_40 : decode cX8_asks 40 = .ok (.iastore, 1) := by decide +kernel
theorem dX8_asks_41 : decode cX8_asks 41 = .ok (.iinc 4 1, 3) := by decide +kernel
theorem dX8_asks_44 : decode cX8_asks 44 = .ok (.goto (-41), 3) := by decide +kernel
theorem dX8_asks_47 : decode cX8_asks 47 = .ok (.aload_n 0, 1) := by decide +kernel
theorem dX8_asks_48 : decode cX8_asks 48 = .ok (.iconst 3, 1) := by decide +kernel
theorem dX8_asks_49 : decode cX8_asks 49 = .ok (.iload_n 2, 1) := by decide +kernel
theorem dX8_asks_50 : decode cX8_asks 50 = .ok (.iload_n 3, 1) := by decide +kernel
theorem dX8_asks_51 : decode cX8_asks 51 = .ok (.invokevirtual 237, 3) := by decide +kernel
theorem dX8_asks_54 : decode cX8_asks 54 = .ok (.iconst 1, 1) := by decide +kernel
theorem dX8_asks_55 : decode cX8_asks 55 = .ok (.if_icmp .ne 7, 3) := by decide +kernel
theorem dX8_asks_58 : decode cX8_asks 58 = .ok (.iconst 3, 1) := by decide +kernel
theorem dX8_asks_59 : decode cX8_asks 59 = .ok (.goto 4, 3) := by decide +kernel
theorem dX8_asks_62 : decode cX8_asks 62 = .ok (.iconst 2, 1) := by decide +kernel
theorem dX8_asks_63 : decode cX8_asks 63 = .ok (.istore 4, 2) := by decide +kernel
theorem dX8_asks_65 : decode cX8_asks 65 = .ok (.iconst 0, 1) := by decide +kernel
theorem dX8_asks_66 : decode cX8_asks 66 = .ok (.istore 5, 2) := by decide +kernel
theorem dX8_asks_68 : decode cX8_asks 68 = .ok (.aload_n 0, 1) := by decide +kernel
theorem dX8_asks_69 : decode cX8_asks 69 = .ok (.getfield 68, 3) := by decide +kernel
theorem dX8_asks_72 : decode cX8_asks 72 = .ok (.iload_n 1, 1) := by decide +kernel
theorem dX8_asks_73 : decode cX8_asks 73 = .ok (.iaload, 1) := by decide +kernel
theorem dX8_asks_74 : decode cX8_asks 74 = .ok (.istore 6, 2) := by decide +kernel
theorem dX8_asks_76 : decode cX8_asks 76 = .ok (.aload_n 0, 1) := by decide +kernel
theorem dX8_asks_77 : decode cX8_asks 77 = .ok (.iconst 4, 1) := by decide +kernel
theorem dX8_asks_78 : decode cX8_asks 78 = .ok (.iload_n 2, 1) := by decide +kernel
theorem dX8_asks_79 : decode cX8_asks 79 = .ok (.iload_n 3, 1) := by decide +kernel
theorem dX8_asks_80 : decode cX8_asks 80 = .ok (.invokevirtual 237, 3) := by decide +kernel
theorem dX8_asks_83 : decode cX8_asks 83 = .ok (.iconst 1, 1) := by decide +kernel
theorem dX8_asks_84 : decode cX8_asks 84 = .ok (.if_icmp .ne 44, 3) := by decide +kernel
theorem dX8_asks_87 : decode cX8_asks 87 = .ok (.iload 6, 2) := by decide +kernel
theorem dX8_asks_89 : decode cX8_asks 89 = .ok (.iconst (-1), 1) := by decide +kernel
theorem dX8_asks_90 : decode cX8_asks 90 = .ok (.if_icmp .eq 38, 3) := by decide +kernel
theorem dX8_asks_93 : decode cX8_asks 93 = .ok (.aload_n 0, 1) := by decide +kernel
theorem dX8_asks_94 : decode cX8_asks 94 = .ok (.getfield 32, 3) := by decide +kernel
theorem dX8_asks_97 : decode cX8_asks 97 = .ok (.iload 6, 2) := by decide +kernel
theorem dX8_asks_99 : decode cX8_asks 99 = .ok (.iaload, 1) := by decide +kernel
theorem dX8_asks_100 : decode cX8_asks 100 = .ok (.iload_n 2, 1) := by decide +kernel
theorem dX8_asks_101 : decode cX8_asks 101 = .ok (.if_icmp .gt 27, 3) := by decide +kernel
theorem dX8_asks_104 : decode cX8_asks 104 = .ok (.aload_n 0, 1) := by decide +kernel
theorem dX8_asks_105 : decode cX8_asks 105 = .ok (.getfield 29, 3) := by decide +kernel
theorem dX8_asks_108 : decode cX8_asks 108 = .ok (.iload 6, 2) := by decide +kernel
theorem dX8_asks_110 : decode cX8_asks 110 = .ok (.iaload, 1) := by decide +kernel
theorem dX8_asks_111 : decode cX8_asks 111 = .ok (.iload 4, 2) := by decide +kernel
theorem dX8_asks_113 : decode cX8_asks 113 = .ok (.if_icmp .ge 15, 3) := by decide +kernel
theorem dX8_asks_116 : decode cX8_asks 116 = .ok (.aload_n 0, 1) := by decide +kernel
theorem dX8_asks_117 : decode cX8_asks 117 = .ok (.getfield 108, 3) := by decide +kernel
theorem dX8_asks_120 : decode cX8_asks 120 = .ok (.iload 5, 2) := by decide +kernel
theorem dX8_asks_122 : decode cX8_asks 122 = .ok (.iload 6, 2) := by decide +kernel
theorem dX8_asks_124 : decode cX8_asks 124 = .ok (.iastore, 1) := by decide +kernel
theorem dX8_asks_125 : decode cX8_asks 125 = .ok (.iinc 5 1, 3) := by decide +kernel
theorem dX8_asks_128 : decode cX8_asks 128 = .ok (.iconst 0, 1) := by decide +kernel
theorem dX8_asks_129 : decode cX8_asks 129 = .ok (.istore 7, 2) := by decide +kernel
theorem dX8_asks_131 : decode cX8_asks 131 = .ok (.iload 7, 2) := by decide +kernel
theorem dX8_asks_133 : decode cX8_asks 133 = .ok (.iload 4, 2) := by decide +kernel
theorem dX8_asks_135 : decode cX8_asks 135 = .ok (.if_icmp .ge 53, 3) := by decide +kernel
theorem dX8_asks_138 : decode cX8_asks 138 = .ok (.iconst 0, 1) := by decide +kernel
theorem dX8_asks_139 : decode cX8_asks 139 = .ok (.istore 8, 2) := by decide +kernel
theorem dX8_asks_141 : decode cX8_asks 141 = .ok (.iload 8, 2) := by decide +kernel
theorem dX8_asks_143 : decode cX8_asks 143 = .ok (.aload_n 0, 1) := by decide +kernel
theorem dX8_asks_144 : decode cX8_asks 144 = .ok (.getfield 83, 3) := by decide +kernel
theorem dX8_asks_147 : decode cX8_asks 147 = .ok (.iload 7, 2) := by decide +kernel
theorem dX8_asks_149 : decode cX8_asks 149 = .ok (.iaload, 1) := by decide +kernel
theorem dX8_asks_150 : decode cX8_asks 150 = .ok (.if_icmp .ge 32, 3) := by decide +kernel
theorem dX8_asks_153 : decode cX8_asks 153 = .ok (.aload_n 0, 1) := by decide +kernel
theorem dX8_asks_154 : decode cX8_asks 154 = .ok (.getfield 108, 3) := by decide +kernel
theorem dX8_asks_157 : decode cX8_asks 157 = .ok (.iload 5, 2) := by decide +kernel
theorem dX8_asks_159 : decode cX8_asks 159 = .ok (.aload_n 0, 1) := by decide +kernel
theorem dX8_asks_160 : decode cX8_asks 160 = .ok (.getfield 80, 3) := by decide +kernel
theorem dX8_asks_163 : decode cX8_asks 163 = .ok (.bipush 16, 2) := by decide +kernel
theorem dX8_asks_165 : decode cX8_asks 165 = .ok (.iload 7, 2) := by decide +kernel
theorem dX8_asks_167 : decode cX8_asks 167 = .ok (.imul, 1) := by decide +kernel
theorem dX8_asks_168 : decode cX8_asks 168 = .ok (.iload 8, 2) := by decide +kernel
theorem dX8_asks_170 : decode cX8_asks 170 = .ok (.iadd, 1) := by decide +kernel
theorem dX8_asks_171 : decode cX8_asks 171 = .ok (.iaload, 1) := by decide +kernel
theorem dX8_asks_172 : decode cX8_asks 172 = .ok (.iastore, 1) := by decide +kernel
theorem dX8_asks_173 : decode cX8_asks 173 = .ok (.iinc 5 1, 3) := by decide +kernel
theorem dX8_asks_176 : decode cX8_asks 176 = .ok (.iinc 8 1, 3) := by decide +kernel
theorem dX8_asks_179 : decode cX8_asks 179 = .ok (.goto (-38), 3) := by decide +kernel
theorem dX8_asks_182 : decode cX8_asks 182 = .ok (.iinc 7 1, 3) := by decide +kernel
theorem dX8_asks_185 : decode cX8_asks 185 = .ok (.goto (-54), 3) := by decide +kernel
theorem dX8_asks_188 : decode cX8_asks 188 = .ok (.aload_n 0, 1) := by decide +kernel
theorem dX8_asks_189 : decode cX8_asks 189 = .ok (.aload_n 0, 1) := by decide +kernel
theorem dX8_asks_190 : decode cX8_asks 190 = .ok (.getfield 71, 3) := by decide +kernel
theorem dX8_asks_193 : decode cX8_asks 193 = .ok (.iload_n 1, 1) := by decide +kernel
theorem dX8_asks_194 : decode cX8_asks 194 = .ok (.iaload, 1) := by decide +kernel
theorem dX8_asks_195 : decode cX8_asks 195 = .ok (.putfield 274, 3) := by decide +kernel
theorem dX8_asks_198 : decode cX8_asks 198 = .ok (.aload_n 0, 1) := by decide +kernel
theorem dX8_asks_199 : decode cX8_asks 199 = .ok (.aload_n 0, 1) := by decide +kernel
theorem dX8_asks_200 : decode cX8_asks 200 = .ok (.getfield 65, 3) := by decide +kernel
theorem dX8_asks_203 : decode cX8_asks 203 = .ok (.iload_n 1, 1) := by decide +kernel
theorem dX8_asks_204 : decode cX8_asks 204 = .ok (.iaload, 1) := by decide +kernel
theorem dX8_asks_205 : decode cX8_asks 205 = .ok (.putfield 277, 3) := by decide +kernel
theorem dX8_asks_208 : decode cX8_asks 208 = .ok (.aload_n 0, 1) := by decide +kernel
theorem dX8_asks_209 : decode cX8_asks 209 = .ok (.iconst 0, 1) := by decide +kernel
theorem dX8_asks_210 : decode cX8_asks 210 = .ok (.putfield 280, 3) := by decide +kernel
theorem dX8_asks_213 : decode cX8_asks 213 = .ok (.iconst 0, 1) := by decide +kernel
theorem dX8_asks_214 : decode cX8_asks 214 = .ok (.istore 7, 2) := by decide +kernel
theorem dX8_asks_216 : decode cX8_asks 216 = .ok (.iload 7, 2) := by decide +kernel
theorem dX8_asks_218 : decode cX8_asks 218 = .ok (.iload 5, 2) := by decide +kernel
theorem dX8_asks_220 : decode cX8_asks 220 = .ok (.if_icmp .ge 69, 3) := by decide +kernel
theorem dX8_asks_223 : decode cX8_asks 223 = .ok (.aload_n 0, 1) := by decide +kernel
theorem dX8_asks_224 : decode cX8_asks 224 = .ok (.getfield 277, 3) := by decide +kernel
theorem dX8_asks_227 : decode cX8_asks 227 = .ok (.ifCond .le 62, 3) := by decide +kernel
theorem dX8_asks_230 : decode cX8_asks 230 = .ok (.aload_n 0, 1) := by decide +kernel
theorem dX8_asks_231 : decode cX8_asks 231 = .ok (.getfield 280, 3) := by decide +kernel
theorem dX8_asks_234 : decode cX8_asks 234 = .ok (.aload_n 0, 1) := by decide +kernel
theorem dX8_asks_235 : decode cX8_asks 235 = .ok (.getfield 108, 3) := by decide +kernel
theorem dX8_asks_238 : decode cX8_asks 238 = .ok (.iload 7, 2) := by decide +kernel
theorem dX8_asks_240 : decode cX8_asks 240 = .ok (.iaload, 1) := by decide +kernel
theorem dX8_asks_241 : decode cX8_asks 241 = .ok (.ishr, 1) := by decide +kernel
theorem dX8_asks_242 : decode cX8_asks 242 = .ok (.iconst 1, 1) := by decide +kernel
theorem dX8_asks_243 : decode cX8_asks 243 = .ok (.iand, 1) := by decide +kernel
theorem dX8_asks_244 : decode cX8_asks 244 = .ok (.iconst 1, 1) := by decide +kernel
theorem dX8_asks_245 : decode cX8_asks 245 = .ok (.if_icmp .ne 6, 3) := by decide +kernel
theorem dX8_asks_248 : decode cX8_asks 248 = .ok (.goto 35, 3) := by decide +kernel
theorem dX8_asks_251 : decode cX8_asks 251 = .ok (.aload_n 0, 1) := by decide +kernel
theorem dX8_asks_252 : decode cX8_asks 252 = .ok (.dup, 1) := by decide +kernel
theorem dX8_asks_253 : decode cX8_asks 253 = .ok (.getfield 280, 3) := by decide +kernel
theorem dX8_asks_256 : decode cX8_asks 256 = .ok (.iconst 1, 1) := by decide +kernel
theorem dX8_asks_257 : decode cX8_asks 257 = .ok (.aload_n 0, 1) := by decide +kernel
theorem dX8_asks_258 : decode cX8_asks 258 = .ok (.getfield 108, 3) := by decide +kernel
theorem dX8_asks_261 : decode cX8_asks 261 = .ok (.iload 7, 2) := by decide +kernel
theorem dX8_asks_263 : decode cX8_asks 263 = .ok (.iaload, 1) := by decide +kernel
theorem dX8_asks_264 : decode cX8_asks 264 = .ok (.ishl, 1) := by decide +kernel
theorem dX8_asks_265 : decode cX8_asks 265 = .ok (.ior, 1) := by decide +kernel
theorem dX8_asks_266 : decode cX8_asks 266 = .ok (.putfield 280, 3) := by decide +kernel
theorem dX8_asks_269 : decode cX8_asks 269 = .ok (.aload_n 0, 1) := by decide +kernel
theorem dX8_asks_270 : decode cX8_asks 270 = .ok (.iload_n 1, 1) := by decide +kernel
theorem dX8_asks_271 : decode cX8_asks 271 = .ok (.aload_n 0, 1) := by decide +kernel
theorem dX8_asks_272 : decode cX8_asks 272 = .ok (.getfield 108, 3) := by decide +kernel
theorem dX8_asks_275 : decode cX8_asks 275 = .ok (.iload 7, 2) := by decide +kernel
theorem dX8_asks_277 : decode cX8_asks 277 = .ok (.iaload, 1) := by decide +kernel
theorem dX8_asks_278 : decode cX8_asks 278 = .ok (.iload_n 2, 1) := by decide +kernel
theorem dX8_asks_279 : decode cX8_asks 279 = .ok (.iload_n 3, 1) := by decide +kernel
theorem dX8_asks_280 : decode cX8_asks 280 = .ok (.invokevirtual 283, 3) := by decide +kernel
theorem dX8_asks_283 : decode cX8_asks 283 = .ok (.iinc 7 1, 3) := by decide +kernel
theorem dX8_asks_286 : decode cX8_asks 286 = .ok (.goto (-70), 3) := by decide +kernel
theorem dX8_asks_289 : decode cX8_asks 289 = .ok (.return_, 1) := by decide +kernel
set_option maxRecDepth 20000 in
theorem ggX8_comesTo_X8_hasPaper : GoodIn wsX8_comesTo wsX8_hasPaper := goodIn_r _ [18, 19, 20, 21, 22, 23, 49, 50, 51, 52, 53, 54, 55, 56, 57, 58, 59, 60, 61, 62, 63, 64, 65, 66, 67, 68, 69, 70, 71, 72, 73, 74, 75, 76, 77, 78, 79, 80, 81, 82, 83, 84, 85, 86, 87, 88, 89, 90, 91, 92, 93, 94, 95, 96, 97, 98, 99, 100, 101, 102, 103, 104, 105, 106, 107, 108, 109, 110, 111, 112, 113, 114, 115, 116, 117, 118, 119, 120] (by decide +kernel) (by decide +kernel)
set_option maxRecDepth 20000 in
theorem gX8_comesTo_X8_hasPaper : GoodIn wsX8_comesTo (wsV RX8 287 RX8 yX8_hasPaper wsX8_hasPaper) := goodIn_app (goodIn_of _ (by decide +kernel)) ggX8_comesTo_X8_hasPaper
set_option maxRecDepth 20000 in
theorem ggX8_comesTo_X8_isHere : GoodIn wsX8_comesTo wsX8_isHere := goodIn_r _ [27, 28, 29, 30, 31, 32, 49, 50, 51, 52, 53, 54, 55, 56, 57, 58, 59, 60, 61, 62, 63, 64, 65, 66, 67, 68, 69, 70, 71, 72, 73, 74, 75, 76, 77, 78, 79, 80, 81, 82, 83, 84, 85, 86, 87, 88, 89, 90, 91, 92, 93, 94, 95, 96, 97, 98, 99, 100, 101, 102, 103, 104, 105, 106, 107, 108, 109, 110, 111, 112, 113, 114, 115, 116, 117, 118, 119, 120] (by decide +kernel) (by decide +kernel)
set_option maxRecDepth 20000 in
theorem gX8_comesTo_X8_isHere : GoodIn wsX8_comesTo (wsV RX8 291 RX8 yX8_isHere wsX8_isHere) := goodIn_app (goodIn_of _ (by decide +kernel)) ggX8_comesTo_X8_isHere
set_option maxRecDepth 20000 in
theorem ggX8_comesTo_X8_lawOf : GoodIn wsX8_comesTo wsX8_lawOf := goodIn_r _ [36, 37, 38, 39, 40, 41, 49, 50, 51, 52, 53, 54, 55, 56, 57, 58, 59, 60, 61, 62, 63, 64, 65, 66, 67, 68, 69, 70, 71, 72, 73, 74, 75, 76, 77, 78, 79, 80, 81, 82, 83, 84, 85, 86, 87, 88, 89, 90, 91, 92, 93, 94, 95, 96, 97, 98, 99, 100, 101, 102, 103, 104, 105, 106, 107, 108, 109, 110, 111, 112, 113, 114, 115, 116, 117, 118, 119, 120] (by decide +kernel) (by decide +kernel)
set_option maxRecDepth 20000 in
theorem gX8_comesTo_X8_lawOf : GoodIn wsX8_comesTo (wsV RX8 237 RX8 yX8_lawOf wsX8_lawOf) := goodIn_app (goodIn_of _ (by decide +kernel)) ggX8_comesTo_X8_lawOf
set_option maxRecDepth 20000 in
theorem ggX8_comesTo_X8_comesToEnd : GoodIn wsX8_comesTo wsX8_comesToEnd := goodIn_r _ [45, 46, 47, 48, 49, 50, 51, 52, 53, 54, 55, 56, 57, 58, 59, 60, 61, 62, 63, 64, 65, 66, 67, 68, 69, 70, 71, 72, 73, 74, 75, 76, 77, 78, 79, 80, 81, 82, 83, 84, 85, 86, 87, 88, 89, 90, 91, 92, 93, 94, 95, 96, 97, 98, 99, 100, 101, 102, 103, 104, 105, 106, 107, 108, 109, 110, 111, 112, 113, 114, 115, 116, 117, 118, 119, 120] (by decide +kernel) (by decide +kernel)
set_option maxRecDepth 20000 in
theorem gX8_comesTo_X8_comesToEnd : GoodIn wsX8_comesTo (wsV RX8 270 RX8 yX8_comesToEnd wsX8_comesToEnd) := goodIn_app (goodIn_of _ (by decide +kernel)) ggX8_comesTo_X8_comesToEnd
theorem dX8_comesTo_0 : decode cX8_comesTo 0 = .ok (.aload_n 0, 1) := by decide +kernel
theorem dX8_comesTo_1 : decode cX8_comesTo 1 = .ok (.getfield 105, 3) := by decide +kernel
theorem dX8_comesTo_4 : decode cX8_comesTo 4 = .ok (.bipush 16, 2) := by decide +kernel
theorem dX8_comesTo_6 : decode cX8_comesTo 6 = .ok (.iload_n 1, 1) := by decide +kernel
theorem dX8_comesTo_7 : decode cX8_comesTo 7 = .ok (.imul, 1) := by decide +kernel
theorem dX8_comesTo_8 : decode cX8_comesTo 8 = .ok (.iload_n 2, 1) := by decide +kernel
theorem dX8_comesTo_9 : decode cX8_comesTo 9 = .ok (.iadd, 1) := by decide +kernel
theorem dX8_comesTo_10 : decode cX8_comesTo 10 = .ok (.aload_n 0, 1) := by decide +kernel
theorem dX8_comesTo_11 : decode cX8_comesTo 11 = .ok (.getfield 274, 3) := by decide +kernel
theorem dX8_comesTo_14 : decode cX8_comesTo 14 = .ok (.iastore, 1) := by decide +kernel
theorem dX8_comesTo_15 : decode cX8_comesTo 15 = .ok (.aload_n 0, 1) := by decide +kernel
theorem dX8_comesTo_16 : decode cX8_comesTo 16 = .ok (.getfield 86, 3) := by decide +kernel
theorem dX8_comesTo_19 : decode cX8_comesTo 19 = .ok (.iload_n 2, 1) := by decide +kernel
theorem dX8_comesTo_20 : decode cX8_comesTo 20 = .ok (.baload, 1) := by decide +kernel
theorem dX8_comesTo_21 : decode cX8_comesTo 21 = .ok (.ifCond .eq 9, 3) := by decide +kernel
theorem dX8_comesTo_24 : decode cX8_comesTo 24 = .ok (.iconst 1, 1) := by decide +kernel
theorem dX8_comesTo_25 : decode cX8_comesTo 25 = .ok (.istore 5, 2) := by decide +kernel
theorem dX8_comesTo_27 : decode cX8_comesTo 27 = .ok (.goto 66, 3) := by decide +kernel
theorem dX8_comesTo_30 : decode cX8_comesTo 30 = .ok (.aload_n 0, 1) := by decide +kernel
theorem dX8_comesTo_31 : decode cX8_comesTo 31 = .ok (.iload_n 2, 1) := by decide +kernel
theorem dX8_comesTo_32 : decode cX8_comesTo 32 = .ok (.aload_n 0, 1) := by decide +kernel
theorem dX8_comesTo_33 : decode cX8_comesTo 33 = .ok (.getfield 59, 3) := by decide +kernel
theorem dX8_comesTo_36 : decode cX8_comesTo 36 = .ok (.iload_n 1, 1) := by decide +kernel
theorem dX8_comesTo_37 : decode cX8_comesTo 37 = .ok (.iaload, 1) := by decide +kernel
theorem dX8_comesTo_38 : decode cX8_comesTo 38 = .ok (.iload_n 3, 1) := by decide +kernel
theorem dX8_comesTo_39 : decode cX8_comesTo 39 = .ok (.invokevirtual 287, 3) := by decide +kernel
theorem dX8_comesTo_42 : decode cX8_comesTo 42 = .ok (.ifCond .ne 9, 3) := by decide +kernel
theorem dX8_comesTo_45 : decode cX8_comesTo 45 = .ok (.iconst 2, 1) := by decide +kernel
theorem dX8_comesTo_46 : decode cX8_comesTo 46 = .ok (.istore 5, 2) := by decide +kernel
theorem dX8_comesTo_48 : decode cX8_comesTo 48 = .ok (.goto 45, 3) := by decide +kernel
theorem dX8_comesTo_51 : decode cX8_comesTo 51 = .ok (.aload_n 0, 1) := by decide +kernel
theorem dX8_comesTo_52 : decode cX8_comesTo 52 = .ok (.iload_n 2, 1) := by decide +kernel
theorem dX8_comesTo_53 : decode cX8_comesTo 53 = .ok (.iload_n 3, 1) := by decide +kernel
theorem dX8_comesTo_54 : decode cX8_comesTo 54 = .ok (.aload_n 0, 1) := by decide +kernel
theorem dX8_comesTo_55 : decode cX8_comesTo 55 = .ok (.getfield 274, 3) := by decide +kernel
theorem dX8_comesTo_58 : decode cX8_comesTo 58 = .ok (.invokevirtual 291, 3) := by decide +kernel
theorem dX8_comesTo_61 : decode cX8_comesTo 61 = .ok (.ifCond .ne 9, 3) := by decide +kernel
theorem dX8_comesTo_64 : decode cX8_comesTo 64 = .ok (.iconst 3, 1) := by decide +kernel
theorem dX8_comesTo_65 : decode cX8_comesTo 65 = .ok (.istore 5, 2) := by decide +kernel
theorem dX8_comesTo_67 : decode cX8_comesTo 67 = .ok (.goto 26, 3) := by decide +kernel
theorem dX8_comesTo_70 : decode cX8_comesTo 70 = .ok (.aload_n 0, 1) := by decide +kernel
theorem dX8_comesTo_71 : decode cX8_comesTo 71 = .ok (.getfield 77, 3) := by decide +kernel
theorem dX8_comesTo_74 : decode cX8_comesTo 74 = .ok (.iload_n 1, 1) := by decide +kernel
theorem dX8_comesTo_75 : decode cX8_comesTo 75 = .ok (.iaload, 1) := by decide +kernel
theorem dX8_comesTo_76 : decode cX8_comesTo 76 = .ok (.iload_n 2, 1) := by decide +kernel
theorem dX8_comesTo_77 : decode cX8_comesTo 77 = .ok (.ishr, 1) := by decide +kernel
theorem dX8_comesTo_78 : decode cX8_comesTo 78 = .ok (.iconst 1, 1) := by decide +kernel
theorem dX8_comesTo_79 : decode cX8_comesTo 79 = .ok (.iand, 1) := by decide +kernel
theorem dX8_comesTo_80 : decode cX8_comesTo 80 = .ok (.iconst 1, 1) := by decide +kernel
theorem dX8_comesTo_81 : decode cX8_comesTo 81 = .ok (.if_icmp .ne 9, 3) := by decide +kernel
theorem dX8_comesTo_84 : decode cX8_comesTo 84 = .ok (.iconst 4, 1) := by decide +kernel
theorem dX8_comesTo_85 : decode cX8_comesTo 85 = .ok (.istore 5, 2) := by decide +kernel
theorem dX8_comesTo_87 : decode cX8_comesTo 87 = .ok (.goto 6, 3) := by decide +kernel
theorem dX8_comesTo_90 : decode cX8_comesTo 90 = .ok (.iconst 5, 1) := by decide +kernel
theorem dX8_comesTo_91 : decode cX8_comesTo 91 = .ok (.istore 5, 2) := by decide +kernel
theorem dX8_comesTo_93 : decode cX8_comesTo 93 = .ok (.aload_n 0, 1) := by decide +kernel
theorem dX8_comesTo_94 : decode cX8_comesTo 94 = .ok (.getfield 102, 3) := by decide +kernel
theorem dX8_comesTo_97 : decode cX8_comesTo 97 = .ok (.bipush 16, 2) := by decide +kernel
theorem dX8_comesTo_99 : decode cX8_comesTo 99 = .ok (.iload_n 1, 1) := by decide +kernel
theorem dX8_comesTo_100 : decode cX8_comesTo 100 = .ok (.imul, 1) := by decide +kernel
theorem dX8_comesTo_101 : decode cX8_comesTo 101 = .ok (.iload_n 2, 1) := by decide +kernel
theorem dX8_comesTo_102 : decode cX8_comesTo 102 = .ok (.iadd, 1) := by decide +kernel
theorem dX8_comesTo_103 : decode cX8_comesTo 103 = .ok (.iload 5, 2) := by decide +kernel
theorem dX8_comesTo_105 : decode cX8_comesTo 105 = .ok (.iastore, 1) := by decide +kernel
theorem dX8_comesTo_106 : decode cX8_comesTo 106 = .ok (.iload 5, 2) := by decide +kernel
theorem dX8_comesTo_108 : decode cX8_comesTo 108 = .ok (.iconst 4, 1) := by decide +kernel
theorem dX8_comesTo_109 : decode cX8_comesTo 109 = .ok (.if_icmp .ne 71, 3) := by decide +kernel
theorem dX8_comesTo_112 : decode cX8_comesTo 112 = .ok (.aload_n 0, 1) := by decide +kernel
theorem dX8_comesTo_113 : decode cX8_comesTo 113 = .ok (.getfield 99, 3) := by decide +kernel
theorem dX8_comesTo_116 : decode cX8_comesTo 116 = .ok (.iload_n 2, 1) := by decide +kernel
theorem dX8_comesTo_117 : decode cX8_comesTo 117 = .ok (.dup2, 1) := by decide +kernel
theorem dX8_comesTo_118 : decode cX8_comesTo 118 = .ok (.iaload, 1) := by decide +kernel
theorem dX8_comesTo_119 : decode cX8_comesTo 119 = .ok (.iconst 1, 1) := by decide +kernel
theorem dX8_comesTo_120 : decode cX8_comesTo 120 = .ok (.iadd, 1) := by decide +kernel
theorem dX8_comesTo_121 : decode cX8_comesTo 121 = .ok (.iastore, 1) := by decide +kernel
theorem dX8_comesTo_122 : decode cX8_comesTo 122 = .ok (.aload_n 0, 1) := by decide +kernel
theorem dX8_comesTo_123 : decode cX8_comesTo 123 = .ok (.iconst 1, 1) := by decide +kernel
theorem dX8_comesTo_124 : decode cX8_comesTo 124 = .ok (.iload_n 3, 1) := by decide +kernel
theorem dX8_comesTo_125 : decode cX8_comesTo 125 = .ok (.iload 4, 2) := by decide +kernel
theorem dX8_comesTo_127 : decode cX8_comesTo 127 = .ok (.invokevirtual 237, 3) := by decide +kernel
theorem dX8_comesTo_130 : decode cX8_comesTo 130 = .ok (.istore 6, 2) := by decide +kernel
theorem dX8_comesTo_132 : decode cX8_comesTo 132 = .ok (.iload 6, 2) := by decide +kernel
theorem dX8_comesTo_134 : decode cX8_comesTo 134 = .ok (.ifCond .le 26, 3) := by decide +kernel
theorem dX8_comesTo_137 : decode cX8_comesTo 137 = .ok (.aload_n 0, 1) := by decide +kernel
theorem dX8_comesTo_138 : decode cX8_comesTo 138 = .ok (.getfield 99, 3) := by decide +kernel
theorem dX8_comesTo_141 : decode cX8_comesTo 141 = .ok (.iload_n 2, 1) := by decide +kernel
theorem dX8_comesTo_142 : decode cX8_comesTo 142 = .ok (.iaload, 1) := by decide +kernel
theorem dX8_comesTo_143 : decode cX8_comesTo 143 = .ok (.iload 6, 2) := by decide +kernel
theorem dX8_comesTo_145 : decode cX8_comesTo 145 = .ok (.if_icmp .lt 15, 3) := by decide +kernel
theorem dX8_comesTo_148 : decode cX8_comesTo 148 = .ok (.aload_n 0, 1) := by decide +kernel
theorem dX8_comesTo_149 : decode cX8_comesTo 149 = .ok (.iload_n 2, 1) := by decide +kernel
theorem dX8_comesTo_150 : decode cX8_comesTo 150 = .ok (.invokevirtual 270, 3) := by decide +kernel
theorem dX8_comesTo_153 : decode cX8_comesTo 153 = .ok (.aload_n 0, 1) := by decide +kernel
theorem dX8_comesTo_154 : decode cX8_comesTo 154 = .ok (.getfield 99, 3) := by decide +kernel
theorem dX8_comesTo_157 : decode cX8_comesTo 157 = .ok (.iload_n 2, 1) := by decide +kernel
theorem dX8_comesTo_158 : decode cX8_comesTo 158 = .ok (.iconst 0, 1) := by decide +kernel
theorem dX8_comesTo_159 : decode cX8_comesTo 159 = .ok (.iastore, 1) := by decide +kernel
theorem dX8_comesTo_160 : decode cX8_comesTo 160 = .ok (.aload_n 0, 1) := by decide +kernel
theorem dX8_comesTo_161 : decode cX8_comesTo 161 = .ok (.dup, 1) := by decide +kernel
theorem dX8_comesTo_162 : decode cX8_comesTo 162 = .ok (.getfield 274, 3) := by decide +kernel
theorem dX8_comesTo_165 : decode cX8_comesTo 165 = .ok (.aload_n 0, 1) := by decide +kernel
theorem dX8_comesTo_166 : decode cX8_comesTo 166 = .ok (.iconst 2, 1) := by decide +kernel
theorem dX8_comesTo_167 : decode cX8_comesTo 167 = .ok (.iload_n 3, 1) := by decide +kernel
theorem dX8_comesTo_168 : decode cX8_comesTo 168 = .ok (.iload 4, 2) := by decide +kernel
theorem dX8_comesTo_170 : decode cX8_comesTo 170 = .ok (.invokevirtual 237, 3) := by decide +kernel
theorem dX8_comesTo_173 : decode cX8_comesTo 173 = .ok (.iadd, 1) := by decide +kernel
theorem dX8_comesTo_174 : decode cX8_comesTo 174 = .ok (.putfield 274, 3) := by decide +kernel
theorem dX8_comesTo_177 : decode cX8_comesTo 177 = .ok (.goto 78, 3) := by decide +kernel
theorem dX8_comesTo_180 : decode cX8_comesTo 180 = .ok (.iload 5, 2) := by decide +kernel
theorem dX8_comesTo_182 : decode cX8_comesTo 182 = .ok (.iconst 5, 1) := by decide +kernel
theorem dX8_comesTo_183 : decode cX8_comesTo 183 = .ok (.if_icmp .ne 72, 3) := by decide +kernel
theorem dX8_comesTo_186 : decode cX8_comesTo 186 = .ok (.aload_n 0, 1) := by decide +kernel
theorem dX8_comesTo_187 : decode cX8_comesTo 187 = .ok (.getfield 86, 3) := by decide +kernel
theorem dX8_comesTo_190 : decode cX8_comesTo 190 = .ok (.iload_n 2, 1) := by decide +kernel
theorem dX8_comesTo_191 : decode cX8_comesTo 191 = .ok (.iconst 1, 1) := by decide +kernel
theorem dX8_comesTo_192 : decode cX8_comesTo 192 = .ok (.bastore, 1) := by decide +kernel
theorem dX8_comesTo_193 : decode cX8_comesTo 193 = .ok (.aload_n 0, 1) := by decide +kernel
theorem dX8_comesTo_194 : decode cX8_comesTo 194 = .ok (.getfield 90, 3) := by decide +kernel
theorem dX8_comesTo_197 : decode cX8_comesTo 197 = .ok (.iload_n 2, 1) := by decide +kernel
theorem dX8_comesTo_198 : decode cX8_comesTo 198 = .ok (.iload_n 3, 1) := by decide +kernel
theorem dX8_comesTo_199 : decode cX8_comesTo 199 = .ok (.aload_n 0, 1) := by decide +kernel
theorem dX8_comesTo_200 : decode cX8_comesTo 200 = .ok (.getfield 62, 3) := by decide +kernel
theorem dX8_comesTo_203 : decode cX8_comesTo 203 = .ok (.iload_n 1, 1) := by decide +kernel
theorem dX8_comesTo_204 : decode cX8_comesTo 204 = .ok (.iaload, 1) := by decide +kernel
theorem dX8_comesTo_205 : decode cX8_comesTo 205 = .ok (.iadd, 1) := by decide +kernel
theorem dX8_comesTo_206 : decode cX8_comesTo 206 = .ok (.iconst 1, 1) := by decide +kernel
theorem dX8_comesTo_207 : decode cX8_comesTo 207 = .ok (.isub, 1) := by decide +kernel
theorem dX8_comesTo_208 : decode cX8_comesTo 208 = .ok (.iastore, 1) := by decide +kernel
theorem dX8_comesTo_209 : decode cX8_comesTo 209 = .ok (.aload_n 0, 1) := by decide +kernel
theorem dX8_comesTo_210 : decode cX8_comesTo 210 = .ok (.getfield 93, 3) := by decide +kernel
theorem dX8_comesTo_213 : decode cX8_comesTo 213 = .ok (.iload_n 2, 1) := by decide +kernel
theorem dX8_comesTo_214 : decode cX8_comesTo 214 = .ok (.aload_n 0, 1) := by decide +kernel
theorem dX8_comesTo_215 : decode cX8_comesTo 215 = .ok (.getfield 62, 3) := by decide +kernel
theorem dX8_comesTo_218 : decode cX8_comesTo 218 = .ok (.iload_n 1, 1) := by decide +kernel
theorem dX8_comesTo_219 : decode cX8_comesTo 219 = .ok (.iaload, 1) := by decide +kernel
theorem dX8_comesTo_220 : decode cX8_comesTo 220 = .ok (.iastore, 1) := by decide +kernel
theorem dX8_comesTo_221 : decode cX8_comesTo 221 = .ok (.aload_n 0, 1) := by decide +kernel
theorem dX8_comesTo_222 : decode cX8_comesTo 222 = .ok (.getfield 96, 3) := by decide +kernel
theorem dX8_comesTo_225 : decode cX8_comesTo 225 = .ok (.iload_n 2, 1) := by decide +kernel
theorem dX8_comesTo_226 : decode cX8_comesTo 226 = .ok (.iload_n 1, 1) := by decide +kernel
theorem dX8_comesTo_227 : decode cX8_comesTo 227 = .ok (.iastore, 1) := by decide +kernel
theorem dX8_comesTo_228 : decode cX8_comesTo 228 = .ok (.aload_n 0, 1) := by decide +kernel
theorem dX8_comesTo_229 : decode cX8_comesTo 229 = .ok (.getfield 99, 3) := by decide +kernel
theorem dX8_comesTo_232 : decode cX8_comesTo 232 = .ok (.iload_n 2, 1) := by decide +kernel
theorem dX8_comesTo_233 : decode cX8_comesTo 233 = .ok (.iconst 0, 1) := by decide +kernel
theorem dX8_comesTo_234 : decode cX8_comesTo 234 = .ok (.iastore, 1) := by decide +kernel
theorem dX8_comesTo_235 : decode cX8_comesTo 235 = .ok (.aload_n 0, 1) := by decide +kernel
theorem dX8_comesTo_236 : decode cX8_comesTo 236 = .ok (.dup, 1) := by decide +kernel
theorem dX8_comesTo_237 : decode cX8_comesTo 237 = .ok (.getfield 277, 3) := by decide +kernel
theorem dX8_comesTo_240 : decode cX8_comesTo 240 = .ok (.iconst 1, 1) := by decide +kernel
theorem dX8_comesTo_241 : decode cX8_comesTo 241 = .ok (.isub, 1) := by decide +kernel
theorem dX8_comesTo_242 : decode cX8_comesTo 242 = .ok (.putfield 277, 3) := by decide +kernel
theorem dX8_comesTo_245 : decode cX8_comesTo 245 = .ok (.aload_n 0, 1) := by decide +kernel
theorem dX8_comesTo_246 : decode cX8_comesTo 246 = .ok (.dup, 1) := by decide +kernel
theorem dX8_comesTo_247 : decode cX8_comesTo 247 = .ok (.getfield 259, 3) := by decide +kernel
theorem dX8_comesTo_250 : decode cX8_comesTo 250 = .ok (.iconst 1, 1) := by decide +kernel
theorem dX8_comesTo_251 : decode cX8_comesTo 251 = .ok (.iadd, 1) := by decide +kernel
theorem dX8_comesTo_252 : decode cX8_comesTo 252 = .ok (.putfield 259, 3) := by decide +kernel
theorem dX8_comesTo_255 : decode cX8_comesTo 255 = .ok (.return_, 1) := by decide +kernel
set_option maxRecDepth 20000 in
theorem ggX8_morning_X8_works : GoodIn wsX8_morning wsX8_works := goodIn_r _ [23, 10, 12, 14, 16, 4, 6, 18, 24, 25, 26, 22, 27, 28, 29, 30, 31, 32, 33, 34, 35, 36, 37, 38, 39, 40, 41, 42, 43, 44, 45, 8, 46, 47, 48, 49, 50, 51, 52, 53, 54, 55, 56, 57, 58, 59, 60, 61, 62, 63, 64, 65, 66, 67, 68, 69, 70, 71, 72, 73, 74, 75, 76, 77, 78, 79, 80, 81, 82, 83, 84, 85, 86, 87, 88, 89, 90, 91, 92, 93, 94, 95, 96, 97, 98, 99, 100, 101, 102, 103, 104, 105, 106, 107, 108, 109, 110, 111, 112, 113, 114, 115, 116, 117, 118, 119, 120, 121, 122, 123, 124, 125, 126, 127, 128, 129, 130, 131, 132, 133, 134, 135, 136, 137, 138, 139, 140, 141, 142, 143, 144, 145, 146, 147, 148, 149, 150, 151, 152, 153, 154, 155, 156, 157, 158, 159] (by decide +kernel) (by decide +kernel)
set_option maxRecDepth 20000 in
theorem gX8_morning_X8_works : GoodIn wsX8_morning (wsV RX8 294 RX8 yX8_works wsX8_works) := goodIn_app (goodIn_of _ (by decide +kernel)) ggX8_morning_X8_works
theorem dX8_morning_0 : decode cX8_morning 0 = .ok (.aload_n 0, 1) := by decide +kernel
theorem dX8_morning_1 : decode cX8_morning 1 = .ok (.iconst 0, 1) := by decide +kernel
theorem dX8_morning_2 : decode cX8_morning 2 = .ok (.putfield 153, 3) := by decide +kernel
theorem dX8_morning_5 : decode cX8_morning 5 = .ok (.aload_n 0, 1) := by decide +kernel
theorem dX8_morning_6 : decode cX8_morning 6 = .ok (.getfield 231, 3) := by decide +kernel
theorem dX8_morning_9 : decode cX8_morning 9 = .ok (.bipush 99, 2) := by decide +kernel
theorem dX8_morning_11 : decode cX8_morning 11 = .ok (.if_icmp .ne 5, 3) := by decide +kernel
theorem dX8_morning_14 : decode cX8_morning 14 = .ok (.iconst (-1), 1) := by decide +kernel
theorem dX8_morning_15 : decode cX8_morning 15 = .ok (.ireturn, 1) := by decide +kernel
theorem dX8_morning_16 : decode cX8_morning 16 = .ok (.aload_n 0, 1) := by decide +kernel
theorem dX8_morning_17 : decode cX8_morning 17 = .ok (.aload_n 0, 1) := by decide +kernel
theorem dX8_morning_18 : decode cX8_morning 18 = .ok (.getfield 231, 3) := by decide +kernel
theorem dX8_morning_21 : decode cX8_morning 21 = .ok (.iconst 1, 1) := by decide +kernel
theorem dX8_morning_22 : decode cX8_morning 22 = .ok (.iadd, 1) := by decide +kernel
theorem dX8_morning_23 : decode cX8_morning 23 = .ok (.iconst (-1), 1) := by decide +kernel
theorem dX8_morning_24 : decode cX8_morning 24 = .ok (.invokevirtual 294, 3) := by decide +kernel
theorem dX8_morning_27 : decode cX8_morning 27 = .ok (.iconst 0, 1) := by decide +kernel
theorem dX8_morning_28 : decode cX8_morning 28 = .ok (.istore_n 1, 1) := by decide +kernel
theorem dX8_morning_29 : decode cX8_morning 29 = .ok (.iload_n 1, 1) := by decide +kernel
theorem dX8_morning_30 : decode cX8_morning 30 = .ok (.sipush 960, 3) := by decide +kernel
theorem dX8_morning_33 : decode cX8_morning 33 = .ok (.if_icmp .ge 33, 3) := by decide +kernel
theorem dX8_morning_36 : decode cX8_morning 36 = .ok (.aload_n 0, 1) := by decide +kernel
theorem dX8_morning_37 : decode cX8_morning 37 = .ok (.getfield 111, 3) := by decide +kernel
theorem dX8_morning_40 : decode cX8_morning 40 = .ok (.iload_n 1, 1) := by decide +kernel
theorem dX8_morning_41 : decode cX8_morning 41 = .ok (.aload_n 0, 1) := by decide +kernel
theorem dX8_morning_42 : decode cX8_morning 42 = .ok (.getfield 102, 3) := by decide +kernel
theorem dX8_morning_45 : decode cX8_morning 45 = .ok (.iload_n 1, 1) := by decide +kernel
theorem dX8_morning_46 : decode cX8_morning 46 = .ok (.iaload, 1) := by decide +kernel
theorem dX8_morning_47 : decode cX8_morning 47 = .ok (.iastore, 1) := by decide +kernel
theorem dX8_morning_48 : decode cX8_morning 48 = .ok (.aload_n 0, 1) := by decide +kernel
theorem dX8_morning_49 : decode cX8_morning 49 = .ok (.getfield 114, 3) := by decide +kernel
theorem dX8_morning_52 : decode cX8_morning 52 = .ok (.iload_n 1, 1) := by decide +kernel
theorem dX8_morning_53 : decode cX8_morning 53 = .ok (.aload_n 0, 1) := by decide +kernel
theorem dX8_morning_54 : decode cX8_morning 54 = .ok (.getfield 105, 3) := by decide +kernel
theorem dX8_morning_57 : decode cX8_morning 57 = .ok (.iload_n 1, 1) := by decide +kernel
theorem dX8_morning_58 : decode cX8_morning 58 = .ok (.iaload, 1) := by decide +kernel
theorem dX8_morning_59 : decode cX8_morning 59 = .ok (.iastore, 1) := by decide +kernel
theorem dX8_morning_60 : decode cX8_morning 60 = .ok (.iinc 1 1, 3) := by decide +kernel
theorem dX8_morning_63 : decode cX8_morning 63 = .ok (.goto (-34), 3) := by decide +kernel
theorem dX8_morning_66 : decode cX8_morning 66 = .ok (.iconst 0, 1) := by decide +kernel
theorem dX8_morning_67 : decode cX8_morning 67 = .ok (.istore_n 1, 1) := by decide +kernel
theorem dX8_morning_68 : decode cX8_morning 68 = .ok (.iload_n 1, 1) := by decide +kernel
theorem dX8_morning_69 : decode cX8_morning 69 = .ok (.bipush 48, 2) := by decide +kernel
theorem dX8_morning_71 : decode cX8_morning 71 = .ok (.if_icmp .ge 21, 3) := by decide +kernel
theorem dX8_morning_74 : decode cX8_morning 74 = .ok (.aload_n 0, 1) := by decide +kernel
theorem dX8_morning_75 : decode cX8_morning 75 = .ok (.getfield 117, 3) := by decide +kernel
theorem dX8_morning_78 : decode cX8_morning 78 = .ok (.iload_n 1, 1) := by decide +kernel
theorem dX8_morning_79 : decode cX8_morning 79 = .ok (.aload_n 0, 1) := by decide +kernel
theorem dX8_morning_80 : decode cX8_morning 80 = .ok (.getfield 80, 3) := by decide +kernel
theorem dX8_morning_83 : decode cX8_morning 83 = .ok (.iload_n 1, 1) := by decide +kernel
theorem dX8_morning_84 : decode cX8_morning 84 = .ok (.iaload, 1) := by decide +kernel
theorem dX8_morning_85 : decode cX8_morning 85 = .ok (.iastore, 1) := by decide +kernel
theorem dX8_morning_86 : decode cX8_morning 86 = .ok (.iinc 1 1, 3) := by decide +kernel
theorem dX8_morning_89 : decode cX8_morning 89 = .ok (.goto (-21), 3) := by decide +kernel
theorem dX8_morning_92 : decode cX8_morning 92 = .ok (.iconst 0, 1) := by decide +kernel
theorem dX8_morning_93 : decode cX8_morning 93 = .ok (.istore_n 1, 1) := by decide +kernel
theorem dX8_morning_94 : decode cX8_morning 94 = .ok (.iload_n 1, 1) := by decide +kernel
theorem dX8_morning_95 : decode cX8_morning 95 = .ok (.iconst 3, 1) := by decide +kernel
theorem dX8_morning_96 : decode cX8_morning 96 = .ok (.if_icmp .ge 21, 3) := by decide +kernel
theorem dX8_morning_99 : decode cX8_morning 99 = .ok (.aload_n 0, 1) := by decide +kernel
theorem dX8_morning_100 : decode cX8_morning 100 = .ok (.getfield 120, 3) := by decide +kernel
theorem dX8_morning_103 : decode cX8_morning 103 = .ok (.iload_n 1, 1) := by decide +kernel
theorem dX8_morning_104 : decode cX8_morning 104 = .ok (.aload_n 0, 1) := by decide +kernel
theorem dX8_morning_105 : decode cX8_morning 105 = .ok (.getfield 83, 3) := by decide +kernel
theorem dX8_morning_108 : decode cX8_morning 108 = .ok (.iload_n 1, 1) := by decide +kernel
theorem dX8_morning_109 : decode cX8_morning 109 = .ok (.iaload, 1) := by decide +kernel
theorem dX8_morning_110 : decode cX8_morning 110 = .ok (.iastore, 1) := by decide +kernel
theorem dX8_morning_111 : decode cX8_morning 111 = .ok (.iinc 1 1, 3) := by decide +kernel
theorem dX8_morning_114 : decode cX8_morning 114 = .ok (.goto (-20), 3) := by decide +kernel
theorem dX8_morning_117 : decode cX8_morning 117 = .ok (.iconst 0, 1) := by decide +kernel
theorem dX8_morning_118 : decode cX8_morning 118 = .ok (.istore_n 1, 1) := by decide +kernel
theorem dX8_morning_119 : decode cX8_morning 119 = .ok (.iload_n 1, 1) := by decide +kernel
theorem dX8_morning_120 : decode cX8_morning 120 = .ok (.bipush 16, 2) := by decide +kernel
theorem dX8_morning_122 : decode cX8_morning 122 = .ok (.if_icmp .ge 58, 3) := by decide +kernel
theorem dX8_morning_125 : decode cX8_morning 125 = .ok (.aload_n 0, 1) := by decide +kernel
theorem dX8_morning_126 : decode cX8_morning 126 = .ok (.getfield 123, 3) := by decide +kernel
theorem dX8_morning_129 : decode cX8_morning 129 = .ok (.iload_n 1, 1) := by decide +kernel
theorem dX8_morning_130 : decode cX8_morning 130 = .ok (.aload_n 0, 1) := by decide +kernel
theorem dX8_morning_131 : decode cX8_morning 131 = .ok (.getfield 86, 3) := by decide +kernel
theorem dX8_morning_134 : decode cX8_morning 134 = .ok (.iload_n 1, 1) := by decide +kernel
theorem dX8_morning_135 : decode cX8_morning 135 = .ok (.baload, 1) := by decide +kernel
theorem dX8_morning_136 : decode cX8_morning 136 = .ok (.bastore, 1) := by decide +kernel
theorem dX8_morning_137 : decode cX8_morning 137 = .ok (.aload_n 0, 1) := by decide +kernel
theorem dX8_morning_138 : decode cX8_morning 138 = .ok (.getfield 126, 3) := by decide +kernel
theorem dX8_morning_141 : decode cX8_morning 141 = .ok (.iload_n 1, 1) := by decide +kernel
theorem dX8_morning_142 : decode cX8_morning 142 = .ok (.aload_n 0, 1) := by decide +kernel
theorem dX8_morning_143 : decode cX8_morning 143 = .ok (.getfield 86, 3) := by decide +kernel
theorem dX8_morning_146 : decode cX8_morning 146 = .ok (.iload_n 1, 1) := by decide +kernel
theorem dX8_morning_147 : decode cX8_morning 147 = .ok (.baload, 1) := by decide +kernel
theorem dX8_morning_148 : decode cX8_morning 148 = .ok (.ifCond .eq 12, 3) := by decide +kernel
theorem dX8_morning_151 : decode cX8_morning 151 = .ok (.aload_n 0, 1) := by decide +kernel
theorem dX8_morning_152 : decode cX8_morning 152 = .ok (.getfield 96, 3) := by decide +kernel
theorem dX8_morning_155 : decode cX8_morning 155 = .ok (.iload_n 1, 1) := by decide +kernel
theorem dX8_morning_156 : decode cX8_morning 156 = .ok (.iaload, 1) := by decide +kernel
theorem dX8_morning_157 : decode cX8_morning 157 = .ok (.goto 4, 3) := by decide +kernel
theorem dX8_morning_160 : decode cX8_morning 160 = .ok (.iconst (-1), 1) := by decide +kernel
theorem dX8_morning_161 : decode cX8_morning 161 = .ok (.iastore, 1) := by decide +kernel
theorem dX8_morning_162 : decode cX8_morning 162 = .ok (.aload_n 0, 1) := by decide +kernel
theorem dX8_morning_163 : decode cX8_morning 163 = .ok (.getfield 129, 3) := by decide +kernel
theorem dX8_morning_166 : decode cX8_morning 166 = .ok (.iload_n 1, 1) := by decide +kernel
theorem dX8_morning_167 : decode cX8_morning 167 = .ok (.aload_n 0, 1) := by decide +kernel
theorem dX8_morning_168 : decode cX8_morning 168 = .ok (.getfield 99, 3) := by decide +kernel
theorem dX8_morning_171 : decode cX8_morning 171 = .ok (.iload_n 1, 1) := by decide +kernel
theorem dX8_morning_172 : decode cX8_morning 172 = .ok (.iaload, 1) := by decide +kernel
theorem dX8_morning_173 : decode cX8_morning 173 = .ok (.iastore, 1) := by decide +kernel
theorem dX8_morning_174 : decode cX8_morning 174 = .ok (.iinc 1 1, 3) := by decide +kernel
theorem dX8_morning_177 : decode cX8_morning 177 = .ok (.goto (-58), 3) := by decide +kernel
theorem dX8_morning_180 : decode cX8_morning 180 = .ok (.aload_n 0, 1) := by decide +kernel
theorem dX8_morning_181 : decode cX8_morning 181 = .ok (.dup, 1) := by decide +kernel
theorem dX8_morning_182 : decode cX8_morning 182 = .ok (.getfield 297, 3) := by decide +kernel
theorem dX8_morning_185 : decode cX8_morning 185 = .ok (.aload_n 0, 1) := by decide +kernel
theorem dX8_morning_186 : decode cX8_morning 186 = .ok (.getfield 259, 3) := by decide +kernel
theorem dX8_morning_189 : decode cX8_morning 189 = .ok (.iadd, 1) := by decide +kernel
theorem dX8_morning_190 : decode cX8_morning 190 = .ok (.putfield 297, 3) := by decide +kernel
theorem dX8_morning_193 : decode cX8_morning 193 = .ok (.aload_n 0, 1) := by decide +kernel
theorem dX8_morning_194 : decode cX8_morning 194 = .ok (.dup, 1) := by decide +kernel
theorem dX8_morning_195 : decode cX8_morning 195 = .ok (.getfield 231, 3) := by decide +kernel
theorem dX8_morning_198 : decode cX8_morning 198 = .ok (.iconst 1, 1) := by decide +kernel
theorem dX8_morning_199 : decode cX8_morning 199 = .ok (.iadd, 1) := by decide +kernel
theorem dX8_morning_200 : decode cX8_morning 200 = .ok (.putfield 231, 3) := by decide +kernel
theorem dX8_morning_203 : decode cX8_morning 203 = .ok (.aload_n 0, 1) := by decide +kernel
theorem dX8_morning_204 : decode cX8_morning 204 = .ok (.getfield 259, 3) := by decide +kernel
theorem dX8_morning_207 : decode cX8_morning 207 = .ok (.ireturn, 1) := by decide +kernel
set_option maxRecDepth 20000 in
theorem ggX8_why_X8_isWorker : GoodIn wsX8_why wsX8_isWorker := goodIn_r _ [11, 12, 13, 14, 15, 16, 17, 18, 19, 20, 21, 22, 23, 24, 25, 26, 27, 28, 29, 30, 31, 32, 33, 34, 35, 36, 37, 38, 39, 40, 41, 42, 43, 44, 45, 46, 47, 48, 49, 50, 51, 52, 53, 54, 55, 56, 57, 58, 59, 60, 61, 62, 63, 64, 65, 66, 67, 68, 69, 70, 71, 72, 73, 74, 75, 76, 77, 78, 79, 80, 81, 82, 83, 84] (by decide +kernel) (by decide +kernel)
set_option maxRecDepth 20000 in
theorem gX8_why_X8_isWorker : GoodIn wsX8_why (wsV RX8 244 RX8 yX8_isWorker wsX8_isWorker) := goodIn_app (goodIn_of _ (by decide +kernel)) ggX8_why_X8_isWorker
theorem dX8_why_0 : decode cX8_why 0 = .ok (.aload_n 0, 1) := by decide +kernel
theorem dX8_why_1 : decode cX8_why 1 = .ok (.iconst 0, 1) := by decide +kernel
theorem dX8_why_2 : decode cX8_why 2 = .ok (.putfield 153, 3) := by decide +kernel
theorem dX8_why_5 : decode cX8_why 5 = .ok (.iload_n 1, 1) := by decide +kernel
theorem dX8_why_6 : decode cX8_why 6 = .ok (.ifCond .lt 32, 3) := by decide +kernel
theorem dX8_why_9 : decode cX8_why 9 = .ok (.iload_n 1, 1) := by decide +kernel
theorem dX8_why_10 : decode cX8_why 10 = .ok (.aload_n 0, 1) := by decide +kernel
theorem dX8_why_11 : decode cX8_why 11 = .ok (.getfield 253, 3) := by decide +kernel
theorem dX8_why_14 : decode cX8_why 14 = .ok (.if_icmp .ge 24, 3) := by decide +kernel
theorem dX8_why_17 : decode cX8_why 17 = .ok (.aload_n 0, 1) := by decide +kernel
theorem dX8_why_18 : decode cX8_why 18 = .ok (.getfield 74, 3) := by decide +kernel
theorem dX8_why_21 : decode cX8_why 21 = .ok (.iload_n 1, 1) := by decide +kernel
theorem dX8_why_22 : decode cX8_why 22 = .ok (.iaload, 1) := by decide +kernel
theorem dX8_why_23 : decode cX8_why 23 = .ok (.aload_n 0, 1) := by decide +kernel
theorem dX8_why_24 : decode cX8_why 24 = .ok (.getfield 231, 3) := by decide +kernel
theorem dX8_why_27 : decode cX8_why 27 = .ok (.if_icmp .ge 11, 3) := by decide +kernel
theorem dX8_why_30 : decode cX8_why 30 = .ok (.aload_n 0, 1) := by decide +kernel
theorem dX8_why_31 : decode cX8_why 31 = .ok (.iload_n 2, 1) := by decide +kernel
theorem dX8_why_32 : decode cX8_why 32 = .ok (.invokevirtual 244, 3) := by decide +kernel
theorem dX8_why_35 : decode cX8_why 35 = .ok (.ifCond .ne 5, 3) := by decide +kernel
theorem dX8_why_38 : decode cX8_why 38 = .ok (.iconst (-1), 1) := by decide +kernel
theorem dX8_why_39 : decode cX8_why 39 = .ok (.ireturn, 1) := by decide +kernel
theorem dX8_why_40 : decode cX8_why 40 = .ok (.iload_n 3, 1) := by decide +kernel
theorem dX8_why_41 : decode cX8_why 41 = .ok (.ifCond .ne 17, 3) := by decide +kernel
theorem dX8_why_44 : decode cX8_why 44 = .ok (.aload_n 0, 1) := by decide +kernel
theorem dX8_why_45 : decode cX8_why 45 = .ok (.getfield 111, 3) := by decide +kernel
theorem dX8_why_48 : decode cX8_why 48 = .ok (.bipush 16, 2) := by decide +kernel
theorem dX8_why_50 : decode cX8_why 50 = .ok (.iload_n 1, 1) := by decide +kernel
theorem dX8_why_51 : decode cX8_why 51 = .ok (.imul, 1) := by decide +kernel
theorem dX8_why_52 : decode cX8_why 52 = .ok (.iload_n 2, 1) := by decide +kernel
theorem dX8_why_53 : decode cX8_why 53 = .ok (.iadd, 1) := by decide +kernel
theorem dX8_why_54 : decode cX8_why 54 = .ok (.iaload, 1) := by decide +kernel
theorem dX8_why_55 : decode cX8_why 55 = .ok (.goto 23, 3) := by decide +kernel
