theorem dX7_send_351 : decode cX7_send 351 = .ok (.dup2, 1) := by decide +kernel
theorem dX7_send_352 : decode cX7_send 352 = .ok (.iaload, 1) := by decide +kernel
theorem dX7_send_353 : decode cX7_send 353 = .ok (.iconst 1, 1) := by decide +kernel
theorem dX7_send_354 : decode cX7_send 354 = .ok (.iadd, 1) := by decide +kernel
theorem dX7_send_355 : decode cX7_send 355 = .ok (.iastore, 1) := by decide +kernel
theorem dX7_send_356 : decode cX7_send 356 = .ok (.return_, 1) := by decide +kernel
theorem dX7_isRule_0 : decode cX7_isRule 0 = .ok (.iconst 0, 1) := by decide +kernel
theorem dX7_isRule_1 : decode cX7_isRule 1 = .ok (.istore_n 1, 1) := by decide +kernel
theorem dX7_isRule_2 : decode cX7_isRule 2 = .ok (.iconst 0, 1) := by decide +kernel
theorem dX7_isRule_3 : decode cX7_isRule 3 = .ok (.istore_n 2, 1) := by decide +kernel
theorem dX7_isRule_4 : decode cX7_isRule 4 = .ok (.iload_n 2, 1) := by decide +kernel
theorem dX7_isRule_5 : decode cX7_isRule 5 = .ok (.aload_n 0, 1) := by decide +kernel
theorem dX7_isRule_6 : decode cX7_isRule 6 = .ok (.getfield 101, 3) := by decide +kernel
theorem dX7_isRule_9 : decode cX7_isRule 9 = .ok (.if_icmp .ge 39, 3) := by decide +kernel
theorem dX7_isRule_12 : decode cX7_isRule 12 = .ok (.aload_n 0, 1) := by decide +kernel
theorem dX7_isRule_13 : decode cX7_isRule 13 = .ok (.getfield 7, 3) := by decide +kernel
theorem dX7_isRule_16 : decode cX7_isRule 16 = .ok (.iload_n 2, 1) := by decide +kernel
theorem dX7_isRule_17 : decode cX7_isRule 17 = .ok (.iaload, 1) := by decide +kernel
theorem dX7_isRule_18 : decode cX7_isRule 18 = .ok (.ifCond .ne 22, 3) := by decide +kernel
theorem dX7_isRule_21 : decode cX7_isRule 21 = .ok (.aload_n 0, 1) := by decide +kernel
theorem dX7_isRule_22 : decode cX7_isRule 22 = .ok (.getfield 86, 3) := by decide +kernel
theorem dX7_isRule_25 : decode cX7_isRule 25 = .ok (.iload_n 2, 1) := by decide +kernel
theorem dX7_isRule_26 : decode cX7_isRule 26 = .ok (.iaload, 1) := by decide +kernel
theorem dX7_isRule_27 : decode cX7_isRule 27 = .ok (.iload_n 1, 1) := by decide +kernel
theorem dX7_isRule_28 : decode cX7_isRule 28 = .ok (.if_icmp .le 12, 3) := by decide +kernel
theorem dX7_isRule_31 : decode cX7_isRule 31 = .ok (.aload_n 0, 1) := by decide +kernel
theorem dX7_isRule_32 : decode cX7_isRule 32 = .ok (.getfield 86, 3) := by decide +kernel
theorem dX7_isRule_35 : decode cX7_isRule 35 = .ok (.iload_n 2, 1) := by decide +kernel
theorem dX7_isRule_36 : decode cX7_isRule 36 = .ok (.iaload, 1) := by decide +kernel
theorem dX7_isRule_37 : decode cX7_isRule 37 = .ok (.goto 4, 3) := by decide +kernel
theorem dX7_isRule_40 : decode cX7_isRule 40 = .ok (.iload_n 1, 1) := by decide +kernel
theorem dX7_isRule_41 : decode cX7_isRule 41 = .ok (.istore_n 1, 1) := by decide +kernel
theorem dX7_isRule_42 : decode cX7_isRule 42 = .ok (.iinc 2 1, 3) := by decide +kernel
theorem dX7_isRule_45 : decode cX7_isRule 45 = .ok (.goto (-41), 3) := by decide +kernel
theorem dX7_isRule_48 : decode cX7_isRule 48 = .ok (.iconst 0, 1) := by decide +kernel
theorem dX7_isRule_49 : decode cX7_isRule 49 = .ok (.istore_n 2, 1) := by decide +kernel
theorem dX7_isRule_50 : decode cX7_isRule 50 = .ok (.iconst 0, 1) := by decide +kernel
theorem dX7_isRule_51 : decode cX7_isRule 51 = .ok (.istore_n 3, 1) := by decide +kernel
theorem dX7_isRule_52 : decode cX7_isRule 52 = .ok (.iload_n 3, 1) := by decide +kernel
theorem dX7_isRule_53 : decode cX7_isRule 53 = .ok (.aload_n 0, 1) := by decide +kernel
theorem dX7_isRule_54 : decode cX7_isRule 54 = .ok (.getfield 101, 3) := by decide +kernel
theorem dX7_isRule_57 : decode cX7_isRule 57 = .ok (.if_icmp .ge 29, 3) := by decide +kernel
theorem dX7_isRule_60 : decode cX7_isRule 60 = .ok (.iload_n 2, 1) := by decide +kernel
theorem dX7_isRule_61 : decode cX7_isRule 61 = .ok (.aload_n 0, 1) := by decide +kernel
theorem dX7_isRule_62 : decode cX7_isRule 62 = .ok (.getfield 86, 3) := by decide +kernel
theorem dX7_isRule_65 : decode cX7_isRule 65 = .ok (.iload_n 3, 1) := by decide +kernel
theorem dX7_isRule_66 : decode cX7_isRule 66 = .ok (.iaload, 1) := by decide +kernel
theorem dX7_isRule_67 : decode cX7_isRule 67 = .ok (.iload_n 1, 1) := by decide +kernel
theorem dX7_isRule_68 : decode cX7_isRule 68 = .ok (.iconst 1, 1) := by decide +kernel
theorem dX7_isRule_69 : decode cX7_isRule 69 = .ok (.isub, 1) := by decide +kernel
theorem dX7_isRule_70 : decode cX7_isRule 70 = .ok (.if_icmp .lt 7, 3) := by decide +kernel
theorem dX7_isRule_73 : decode cX7_isRule 73 = .ok (.iconst 1, 1) := by decide +kernel
theorem dX7_isRule_74 : decode cX7_isRule 74 = .ok (.goto 4, 3) := by decide +kernel
theorem dX7_isRule_77 : decode cX7_isRule 77 = .ok (.iconst 0, 1) := by decide +kernel
theorem dX7_isRule_78 : decode cX7_isRule 78 = .ok (.iadd, 1) := by decide +kernel
theorem dX7_isRule_79 : decode cX7_isRule 79 = .ok (.istore_n 2, 1) := by decide +kernel
theorem dX7_isRule_80 : decode cX7_isRule 80 = .ok (.iinc 3 1, 3) := by decide +kernel
theorem dX7_isRule_83 : decode cX7_isRule 83 = .ok (.goto (-31), 3) := by decide +kernel
theorem dX7_isRule_86 : decode cX7_isRule 86 = .ok (.iload_n 1, 1) := by decide +kernel
theorem dX7_isRule_87 : decode cX7_isRule 87 = .ok (.ifCond .eq 13, 3) := by decide +kernel
theorem dX7_isRule_90 : decode cX7_isRule 90 = .ok (.iconst 2, 1) := by decide +kernel
theorem dX7_isRule_91 : decode cX7_isRule 91 = .ok (.iload_n 2, 1) := by decide +kernel
theorem dX7_isRule_92 : decode cX7_isRule 92 = .ok (.imul, 1) := by decide +kernel
theorem dX7_isRule_93 : decode cX7_isRule 93 = .ok (.aload_n 0, 1) := by decide +kernel
theorem dX7_isRule_94 : decode cX7_isRule 94 = .ok (.getfield 101, 3) := by decide +kernel
theorem dX7_isRule_97 : decode cX7_isRule 97 = .ok (.if_icmp .le 7, 3) := by decide +kernel
theorem dX7_isRule_100 : decode cX7_isRule 100 = .ok (.iconst 1, 1) := by decide +kernel
theorem dX7_isRule_101 : decode cX7_isRule 101 = .ok (.goto 4, 3) := by decide +kernel
theorem dX7_isRule_104 : decode cX7_isRule 104 = .ok (.iconst 0, 1) := by decide +kernel
theorem dX7_isRule_105 : decode cX7_isRule 105 = .ok (.ireturn, 1) := by decide +kernel
set_option maxRecDepth 20000 in
theorem ggX7_run_X7_happen : GoodIn wsX7_run wsX7_happen := goodIn_r _ [23, 24, 25, 26, 27, 28, 7, 11, 12, 67, 68, 69, 70, 71, 72, 73, 74, 75, 76, 77, 78, 79, 80, 81, 82, 83, 84, 85, 86, 87, 88, 89, 90, 91, 92, 93, 94, 95, 96, 97, 98, 99, 100] (by decide +kernel) (by decide +kernel)
set_option maxRecDepth 20000 in
theorem gX7_run_X7_happen : GoodIn wsX7_run (wsV RX7 138 RX7 yX7_happen wsX7_happen) := goodIn_app (goodIn_of _ (by decide +kernel)) ggX7_run_X7_happen
set_option maxRecDepth 20000 in
theorem ggX7_run_X7_takeIn : GoodIn wsX7_run wsX7_takeIn := goodIn_r _ [32, 2, 33, 34, 35, 36, 22, 37, 38, 39, 40, 41, 42, 11, 43, 5, 4, 44, 12, 45, 9, 46, 47, 48, 49, 50, 7, 67, 68, 69, 70, 71, 72, 73, 74, 75, 76, 77, 78, 79, 80, 81, 82, 83, 84, 85, 86, 87, 88, 89, 90, 91, 92, 93, 94, 95, 96, 97, 98, 99, 100] (by decide +kernel) (by decide +kernel)
set_option maxRecDepth 20000 in
theorem gX7_run_X7_takeIn : GoodIn wsX7_run (wsV RX7 141 RX7 yX7_takeIn wsX7_takeIn) := goodIn_app (goodIn_of _ (by decide +kernel)) ggX7_run_X7_takeIn
set_option maxRecDepth 20000 in
theorem ggX7_run_X7_grow : GoodIn wsX7_run wsX7_grow := goodIn_r _ [54, 13, 12, 8, 15, 11, 67, 68, 69, 70, 71, 72, 73, 74, 75, 76, 77, 78, 79, 80, 81, 82, 83, 84, 85, 86, 87, 88, 89, 90, 91, 92, 93, 94, 95, 96, 97, 98, 99, 100] (by decide +kernel) (by decide +kernel)
set_option maxRecDepth 20000 in
theorem gX7_run_X7_grow : GoodIn wsX7_run (wsV RX7 145 RX7 yX7_grow wsX7_grow) := goodIn_app (goodIn_of _ (by decide +kernel)) ggX7_run_X7_grow
set_option maxRecDepth 20000 in
theorem ggX7_run_X7_send : GoodIn wsX7_run wsX7_send := goodIn_r _ [58, 2, 43, 42, 59, 45, 14, 8, 46, 9, 44, 33, 60, 61, 34, 24, 25, 26, 28, 62, 3, 67, 68, 69, 70, 71, 72, 73, 74, 75, 76, 77, 78, 79, 80, 81, 82, 83, 84, 85, 86, 87, 88, 89, 90, 91, 92, 93, 94, 95, 96, 97, 98, 99, 100] (by decide +kernel) (by decide +kernel)
set_option maxRecDepth 20000 in
theorem gX7_run_X7_send : GoodIn wsX7_run (wsV RX7 148 RX7 yX7_send wsX7_send) := goodIn_app (goodIn_of _ (by decide +kernel)) ggX7_run_X7_send
set_option maxRecDepth 20000 in
theorem ggX7_run_X7_isRule : GoodIn wsX7_run wsX7_isRule := goodIn_r _ [66, 13, 14, 8, 67, 68, 69, 70, 71, 72, 73, 74, 75, 76, 77, 78, 79, 80, 81, 82, 83, 84, 85, 86, 87, 88, 89, 90, 91, 92, 93, 94, 95, 96, 97, 98, 99, 100] (by decide +kernel) (by decide +kernel)
set_option maxRecDepth 20000 in
theorem gX7_run_X7_isRule : GoodIn wsX7_run (wsV RX7 152 RX7 yX7_isRule wsX7_isRule) := goodIn_app (goodIn_of _ (by decide +kernel)) ggX7_run_X7_isRule
theorem dX7_run_0 : decode cX7_run 0 = .ok (.aload_n 0, 1) := by decide +kernel
theorem dX7_run_1 : decode cX7_run 1 = .ok (.getfield 35, 3) := by decide +kernel
theorem dX7_run_4 : decode cX7_run 4 = .ok (.iload_n 1, 1) := by decide +kernel
theorem dX7_run_5 : decode cX7_run 5 = .ok (.iload_n 2, 1) := by decide +kernel
theorem dX7_run_6 : decode cX7_run 6 = .ok (.iastore, 1) := by decide +kernel
theorem dX7_run_7 : decode cX7_run 7 = .ok (.aload_n 0, 1) := by decide +kernel
theorem dX7_run_8 : decode cX7_run 8 = .ok (.getfield 38, 3) := by decide +kernel
theorem dX7_run_11 : decode cX7_run 11 = .ok (.iload_n 1, 1) := by decide +kernel
theorem dX7_run_12 : decode cX7_run 12 = .ok (.iconst 0, 1) := by decide +kernel
theorem dX7_run_13 : decode cX7_run 13 = .ok (.iastore, 1) := by decide +kernel
theorem dX7_run_14 : decode cX7_run 14 = .ok (.aload_n 0, 1) := by decide +kernel
theorem dX7_run_15 : decode cX7_run 15 = .ok (.getfield 41, 3) := by decide +kernel
theorem dX7_run_18 : decode cX7_run 18 = .ok (.iload_n 1, 1) := by decide +kernel
theorem dX7_run_19 : decode cX7_run 19 = .ok (.iconst 0, 1) := by decide +kernel
theorem dX7_run_20 : decode cX7_run 20 = .ok (.iastore, 1) := by decide +kernel
theorem dX7_run_21 : decode cX7_run 21 = .ok (.aload_n 0, 1) := by decide +kernel
theorem dX7_run_22 : decode cX7_run 22 = .ok (.getfield 44, 3) := by decide +kernel
theorem dX7_run_25 : decode cX7_run 25 = .ok (.iload_n 1, 1) := by decide +kernel
theorem dX7_run_26 : decode cX7_run 26 = .ok (.iconst 0, 1) := by decide +kernel
theorem dX7_run_27 : decode cX7_run 27 = .ok (.iastore, 1) := by decide +kernel
theorem dX7_run_28 : decode cX7_run 28 = .ok (.aload_n 0, 1) := by decide +kernel
theorem dX7_run_29 : decode cX7_run 29 = .ok (.getfield 47, 3) := by decide +kernel
theorem dX7_run_32 : decode cX7_run 32 = .ok (.iload_n 1, 1) := by decide +kernel
theorem dX7_run_33 : decode cX7_run 33 = .ok (.iconst 0, 1) := by decide +kernel
theorem dX7_run_34 : decode cX7_run 34 = .ok (.iastore, 1) := by decide +kernel
theorem dX7_run_35 : decode cX7_run 35 = .ok (.aload_n 0, 1) := by decide +kernel
theorem dX7_run_36 : decode cX7_run 36 = .ok (.getfield 50, 3) := by decide +kernel
theorem dX7_run_39 : decode cX7_run 39 = .ok (.iload_n 1, 1) := by decide +kernel
theorem dX7_run_40 : decode cX7_run 40 = .ok (.iconst (-1), 1) := by decide +kernel
theorem dX7_run_41 : decode cX7_run 41 = .ok (.iastore, 1) := by decide +kernel
theorem dX7_run_42 : decode cX7_run 42 = .ok (.aload_n 0, 1) := by decide +kernel
theorem dX7_run_43 : decode cX7_run 43 = .ok (.iconst 0, 1) := by decide +kernel
theorem dX7_run_44 : decode cX7_run 44 = .ok (.putfield 124, 3) := by decide +kernel
theorem dX7_run_47 : decode cX7_run 47 = .ok (.iconst 0, 1) := by decide +kernel
theorem dX7_run_48 : decode cX7_run 48 = .ok (.istore_n 3, 1) := by decide +kernel
theorem dX7_run_49 : decode cX7_run 49 = .ok (.iload_n 3, 1) := by decide +kernel
theorem dX7_run_50 : decode cX7_run 50 = .ok (.bipush 7, 2) := by decide +kernel
theorem dX7_run_52 : decode cX7_run 52 = .ok (.if_icmp .ge 35, 3) := by decide +kernel
theorem dX7_run_55 : decode cX7_run 55 = .ok (.aload_n 0, 1) := by decide +kernel
theorem dX7_run_56 : decode cX7_run 56 = .ok (.getfield 86, 3) := by decide +kernel
theorem dX7_run_59 : decode cX7_run 59 = .ok (.iload_n 3, 1) := by decide +kernel
theorem dX7_run_60 : decode cX7_run 60 = .ok (.iconst 0, 1) := by decide +kernel
theorem dX7_run_61 : decode cX7_run 61 = .ok (.iastore, 1) := by decide +kernel
theorem dX7_run_62 : decode cX7_run 62 = .ok (.aload_n 0, 1) := by decide +kernel
theorem dX7_run_63 : decode cX7_run 63 = .ok (.getfield 89, 3) := by decide +kernel
theorem dX7_run_66 : decode cX7_run 66 = .ok (.iload_n 3, 1) := by decide +kernel
theorem dX7_run_67 : decode cX7_run 67 = .ok (.aload_n 0, 1) := by decide +kernel
theorem dX7_run_68 : decode cX7_run 68 = .ok (.getfield 16, 3) := by decide +kernel
theorem dX7_run_71 : decode cX7_run 71 = .ok (.iload_n 3, 1) := by decide +kernel
theorem dX7_run_72 : decode cX7_run 72 = .ok (.iaload, 1) := by decide +kernel
theorem dX7_run_73 : decode cX7_run 73 = .ok (.iastore, 1) := by decide +kernel
theorem dX7_run_74 : decode cX7_run 74 = .ok (.aload_n 0, 1) := by decide +kernel
theorem dX7_run_75 : decode cX7_run 75 = .ok (.getfield 95, 3) := by decide +kernel
theorem dX7_run_78 : decode cX7_run 78 = .ok (.iload_n 3, 1) := by decide +kernel
theorem dX7_run_79 : decode cX7_run 79 = .ok (.iconst 0, 1) := by decide +kernel
theorem dX7_run_80 : decode cX7_run 80 = .ok (.bastore, 1) := by decide +kernel
theorem dX7_run_81 : decode cX7_run 81 = .ok (.iinc 3 1, 3) := by decide +kernel
theorem dX7_run_84 : decode cX7_run 84 = .ok (.goto (-35), 3) := by decide +kernel
theorem dX7_run_87 : decode cX7_run 87 = .ok (.iconst 0, 1) := by decide +kernel
theorem dX7_run_88 : decode cX7_run 88 = .ok (.istore_n 3, 1) := by decide +kernel
theorem dX7_run_89 : decode cX7_run 89 = .ok (.iload_n 3, 1) := by decide +kernel
theorem dX7_run_90 : decode cX7_run 90 = .ok (.bipush 49, 2) := by decide +kernel
theorem dX7_run_92 : decode cX7_run 92 = .ok (.if_icmp .ge 16, 3) := by decide +kernel
theorem dX7_run_95 : decode cX7_run 95 = .ok (.aload_n 0, 1) := by decide +kernel
theorem dX7_run_96 : decode cX7_run 96 = .ok (.getfield 92, 3) := by decide +kernel
theorem dX7_run_99 : decode cX7_run 99 = .ok (.iload_n 3, 1) := by decide +kernel
theorem dX7_run_100 : decode cX7_run 100 = .ok (.iconst 0, 1) := by decide +kernel
theorem dX7_run_101 : decode cX7_run 101 = .ok (.iastore, 1) := by decide +kernel
theorem dX7_run_102 : decode cX7_run 102 = .ok (.iinc 3 1, 3) := by decide +kernel
theorem dX7_run_105 : decode cX7_run 105 = .ok (.goto (-16), 3) := by decide +kernel
theorem dX7_run_108 : decode cX7_run 108 = .ok (.iconst 0, 1) := by decide +kernel
theorem dX7_run_109 : decode cX7_run 109 = .ok (.istore_n 3, 1) := by decide +kernel
theorem dX7_run_110 : decode cX7_run 110 = .ok (.iload_n 3, 1) := by decide +kernel
theorem dX7_run_111 : decode cX7_run 111 = .ok (.iload_n 2, 1) := by decide +kernel
theorem dX7_run_112 : decode cX7_run 112 = .ok (.if_icmp .ge 186, 3) := by decide +kernel
theorem dX7_run_115 : decode cX7_run 115 = .ok (.aload_n 0, 1) := by decide +kernel
theorem dX7_run_116 : decode cX7_run 116 = .ok (.iload_n 3, 1) := by decide +kernel
theorem dX7_run_117 : decode cX7_run 117 = .ok (.invokevirtual 138, 3) := by decide +kernel
theorem dX7_run_120 : decode cX7_run 120 = .ok (.aload_n 0, 1) := by decide +kernel
theorem dX7_run_121 : decode cX7_run 121 = .ok (.iload_n 1, 1) := by decide +kernel
theorem dX7_run_122 : decode cX7_run 122 = .ok (.iload_n 3, 1) := by decide +kernel
theorem dX7_run_123 : decode cX7_run 123 = .ok (.invokevirtual 141, 3) := by decide +kernel
theorem dX7_run_126 : decode cX7_run 126 = .ok (.aload_n 0, 1) := by decide +kernel
theorem dX7_run_127 : decode cX7_run 127 = .ok (.invokevirtual 145, 3) := by decide +kernel
theorem dX7_run_130 : decode cX7_run 130 = .ok (.iconst 0, 1) := by decide +kernel
theorem dX7_run_131 : decode cX7_run 131 = .ok (.istore 4, 2) := by decide +kernel
theorem dX7_run_133 : decode cX7_run 133 = .ok (.iload 4, 2) := by decide +kernel
theorem dX7_run_135 : decode cX7_run 135 = .ok (.aload_n 0, 1) := by decide +kernel
theorem dX7_run_136 : decode cX7_run 136 = .ok (.getfield 101, 3) := by decide +kernel
theorem dX7_run_139 : decode cX7_run 139 = .ok (.if_icmp .ge 106, 3) := by decide +kernel
theorem dX7_run_142 : decode cX7_run 142 = .ok (.aload_n 0, 1) := by decide +kernel
theorem dX7_run_143 : decode cX7_run 143 = .ok (.getfield 95, 3) := by decide +kernel
theorem dX7_run_146 : decode cX7_run 146 = .ok (.iload 4, 2) := by decide +kernel
theorem dX7_run_148 : decode cX7_run 148 = .ok (.baload, 1) := by decide +kernel
theorem dX7_run_149 : decode cX7_run 149 = .ok (.ifCond .ne 65, 3) := by decide +kernel
theorem dX7_run_152 : decode cX7_run 152 = .ok (.aload_n 0, 1) := by decide +kernel
theorem dX7_run_153 : decode cX7_run 153 = .ok (.getfield 7, 3) := by decide +kernel
theorem dX7_run_156 : decode cX7_run 156 = .ok (.iload 4, 2) := by decide +kernel
theorem dX7_run_158 : decode cX7_run 158 = .ok (.iaload, 1) := by decide +kernel
theorem dX7_run_159 : decode cX7_run 159 = .ok (.iconst 2, 1) := by decide +kernel
theorem dX7_run_160 : decode cX7_run 160 = .ok (.if_icmp .eq 54, 3) := by decide +kernel
theorem dX7_run_163 : decode cX7_run 163 = .ok (.aload_n 0, 1) := by decide +kernel
theorem dX7_run_164 : decode cX7_run 164 = .ok (.getfield 98, 3) := by decide +kernel
theorem dX7_run_167 : decode cX7_run 167 = .ok (.iload 4, 2) := by decide +kernel
theorem dX7_run_169 : decode cX7_run 169 = .ok (.baload, 1) := by decide +kernel
theorem dX7_run_170 : decode cX7_run 170 = .ok (.ifCond .ne 9, 3) := by decide +kernel
theorem dX7_run_173 : decode cX7_run 173 = .ok (.iload_n 3, 1) := by decide +kernel
theorem dX7_run_174 : decode cX7_run 174 = .ok (.iconst 4, 1) := by decide +kernel
theorem dX7_run_175 : decode cX7_run 175 = .ok (.irem, 1) := by decide +kernel
theorem dX7_run_176 : decode cX7_run 176 = .ok (.ifCond .ne 38, 3) := by decide +kernel
theorem dX7_run_179 : decode cX7_run 179 = .ok (.iconst 0, 1) := by decide +kernel
theorem dX7_run_180 : decode cX7_run 180 = .ok (.istore 5, 2) := by decide +kernel
theorem dX7_run_182 : decode cX7_run 182 = .ok (.iload 5, 2) := by decide +kernel
theorem dX7_run_184 : decode cX7_run 184 = .ok (.aload_n 0, 1) := by decide +kernel
theorem dX7_run_185 : decode cX7_run 185 = .ok (.getfield 101, 3) := by decide +kernel
theorem dX7_run_188 : decode cX7_run 188 = .ok (.if_icmp .ge 26, 3) := by decide +kernel
theorem dX7_run_191 : decode cX7_run 191 = .ok (.iload 5, 2) := by decide +kernel
theorem dX7_run_193 : decode cX7_run 193 = .ok (.iload 4, 2) := by decide +kernel
theorem dX7_run_195 : decode cX7_run 195 = .ok (.if_icmp .eq 13, 3) := by decide +kernel
theorem dX7_run_198 : decode cX7_run 198 = .ok (.aload_n 0, 1) := by decide +kernel
theorem dX7_run_199 : decode cX7_run 199 = .ok (.iload_n 1, 1) := by decide +kernel
theorem dX7_run_200 : decode cX7_run 200 = .ok (.iload_n 3, 1) := by decide +kernel
theorem dX7_run_201 : decode cX7_run 201 = .ok (.iload 4, 2) := by decide +kernel
theorem dX7_run_203 : decode cX7_run 203 = .ok (.iload 5, 2) := by decide +kernel
theorem dX7_run_205 : decode cX7_run 205 = .ok (.invokevirtual 148, 3) := by decide +kernel
theorem dX7_run_208 : decode cX7_run 208 = .ok (.iinc 5 1, 3) := by decide +kernel
theorem dX7_run_211 : decode cX7_run 211 = .ok (.goto (-29), 3) := by decide +kernel
theorem dX7_run_214 : decode cX7_run 214 = .ok (.aload_n 0, 1) := by decide +kernel
theorem dX7_run_215 : decode cX7_run 215 = .ok (.getfield 53, 3) := by decide +kernel
theorem dX7_run_218 : decode cX7_run 218 = .ok (.sipush 420, 3) := by decide +kernel
theorem dX7_run_221 : decode cX7_run 221 = .ok (.iload_n 1, 1) := by decide +kernel
theorem dX7_run_222 : decode cX7_run 222 = .ok (.imul, 1) := by decide +kernel
theorem dX7_run_223 : decode cX7_run 223 = .ok (.bipush 7, 2) := by decide +kernel
theorem dX7_run_225 : decode cX7_run 225 = .ok (.iload_n 3, 1) := by decide +kernel
theorem dX7_run_226 : decode cX7_run 226 = .ok (.imul, 1) := by decide +kernel
theorem dX7_run_227 : decode cX7_run 227 = .ok (.iadd, 1) := by decide +kernel
theorem dX7_run_228 : decode cX7_run 228 = .ok (.iload 4, 2) := by decide +kernel
theorem dX7_run_230 : decode cX7_run 230 = .ok (.iadd, 1) := by decide +kernel
theorem dX7_run_231 : decode cX7_run 231 = .ok (.aload_n 0, 1) := by decide +kernel
theorem dX7_run_232 : decode cX7_run 232 = .ok (.getfield 86, 3) := by decide +kernel
theorem dX7_run_235 : decode cX7_run 235 = .ok (.iload 4, 2) := by decide +kernel
theorem dX7_run_237 : decode cX7_run 237 = .ok (.iaload, 1) := by decide +kernel
theorem dX7_run_238 : decode cX7_run 238 = .ok (.iastore, 1) := by decide +kernel
theorem dX7_run_239 : decode cX7_run 239 = .ok (.iinc 4 1, 3) := by decide +kernel
theorem dX7_run_242 : decode cX7_run 242 = .ok (.goto (-109), 3) := by decide +kernel
theorem dX7_run_245 : decode cX7_run 245 = .ok (.aload_n 0, 1) := by decide +kernel
theorem dX7_run_246 : decode cX7_run 246 = .ok (.getfield 56, 3) := by decide +kernel
theorem dX7_run_249 : decode cX7_run 249 = .ok (.bipush 60, 2) := by decide +kernel
theorem dX7_run_251 : decode cX7_run 251 = .ok (.iload_n 1, 1) := by decide +kernel
theorem dX7_run_252 : decode cX7_run 252 = .ok (.imul, 1) := by decide +kernel
theorem dX7_run_253 : decode cX7_run 253 = .ok (.iload_n 3, 1) := by decide +kernel
theorem dX7_run_254 : decode cX7_run 254 = .ok (.iadd, 1) := by decide +kernel
theorem dX7_run_255 : decode cX7_run 255 = .ok (.aload_n 0, 1) := by decide +kernel
theorem dX7_run_256 : decode cX7_run 256 = .ok (.invokevirtual 152, 3) := by decide +kernel
theorem dX7_run_259 : decode cX7_run 259 = .ok (.bastore, 1) := by decide +kernel
theorem dX7_run_260 : decode cX7_run 260 = .ok (.aload_n 0, 1) := by decide +kernel
theorem dX7_run_261 : decode cX7_run 261 = .ok (.getfield 50, 3) := by decide +kernel
theorem dX7_run_264 : decode cX7_run 264 = .ok (.iload_n 1, 1) := by decide +kernel
theorem dX7_run_265 : decode cX7_run 265 = .ok (.aload_n 0, 1) := by decide +kernel
theorem dX7_run_266 : decode cX7_run 266 = .ok (.getfield 50, 3) := by decide +kernel
theorem dX7_run_269 : decode cX7_run 269 = .ok (.iload_n 1, 1) := by decide +kernel
theorem dX7_run_270 : decode cX7_run 270 = .ok (.iaload, 1) := by decide +kernel
theorem dX7_run_271 : decode cX7_run 271 = .ok (.ifCond .ge 14, 3) := by decide +kernel
theorem dX7_run_274 : decode cX7_run 274 = .ok (.aload_n 0, 1) := by decide +kernel
theorem dX7_run_275 : decode cX7_run 275 = .ok (.invokevirtual 152, 3) := by decide +kernel
theorem dX7_run_278 : decode cX7_run 278 = .ok (.ifCond .ne 7, 3) := by decide +kernel
theorem dX7_run_281 : decode cX7_run 281 = .ok (.iload_n 3, 1) := by decide +kernel
theorem dX7_run_282 : decode cX7_run 282 = .ok (.goto 9, 3) := by decide +kernel
theorem dX7_run_285 : decode cX7_run 285 = .ok (.aload_n 0, 1) := by decide +kernel
theorem dX7_run_286 : decode cX7_run 286 = .ok (.getfield 50, 3) := by decide +kernel
theorem dX7_run_289 : decode cX7_run 289 = .ok (.iload_n 1, 1) := by decide +kernel
theorem dX7_run_290 : decode cX7_run 290 = .ok (.iaload, 1) := by decide +kernel
theorem dX7_run_291 : decode cX7_run 291 = .ok (.iastore, 1) := by decide +kernel
theorem dX7_run_292 : decode cX7_run 292 = .ok (.iinc 3 1, 3) := by decide +kernel
theorem dX7_run_295 : decode cX7_run 295 = .ok (.goto (-185), 3) := by decide +kernel
theorem dX7_run_298 : decode cX7_run 298 = .ok (.iconst 0, 1) := by decide +kernel
theorem dX7_run_299 : decode cX7_run 299 = .ok (.istore_n 3, 1) := by decide +kernel
theorem dX7_run_300 : decode cX7_run 300 = .ok (.iload_n 3, 1) := by decide +kernel
theorem dX7_run_301 : decode cX7_run 301 = .ok (.bipush 7, 2) := by decide +kernel
theorem dX7_run_303 : decode cX7_run 303 = .ok (.if_icmp .ge 26, 3) := by decide +kernel
theorem dX7_run_306 : decode cX7_run 306 = .ok (.aload_n 0, 1) := by decide +kernel
theorem dX7_run_307 : decode cX7_run 307 = .ok (.getfield 59, 3) := by decide +kernel
theorem dX7_run_310 : decode cX7_run 310 = .ok (.bipush 7, 2) := by decide +kernel
theorem dX7_run_312 : decode cX7_run 312 = .ok (.iload_n 1, 1) := by decide +kernel
theorem dX7_run_313 : decode cX7_run 313 = .ok (.imul, 1) := by decide +kernel
theorem dX7_run_314 : decode cX7_run 314 = .ok (.iload_n 3, 1) := by decide +kernel
theorem dX7_run_315 : decode cX7_run 315 = .ok (.iadd, 1) := by decide +kernel
theorem dX7_run_316 : decode cX7_run 316 = .ok (.aload_n 0, 1) := by decide +kernel
theorem dX7_run_317 : decode cX7_run 317 = .ok (.getfield 89, 3) := by decide +kernel
theorem dX7_run_320 : decode cX7_run 320 = .ok (.iload_n 3, 1) := by decide +kernel
theorem dX7_run_321 : decode cX7_run 321 = .ok (.iaload, 1) := by decide +kernel
theorem dX7_run_322 : decode cX7_run 322 = .ok (.iastore, 1) := by decide +kernel
theorem dX7_run_323 : decode cX7_run 323 = .ok (.iinc 3 1, 3) := by decide +kernel
theorem dX7_run_326 : decode cX7_run 326 = .ok (.goto (-26), 3) := by decide +kernel
theorem dX7_run_329 : decode cX7_run 329 = .ok (.return_, 1) := by decide +kernel
set_option maxRecDepth 20000 in
theorem ggX7_isFailing_X7_run : GoodIn wsX7_isFailing wsX7_run := goodIn_r _ [7, 1, 8, 9, 10, 11, 2, 12, 13, 14, 15, 16, 17, 18, 19, 20, 21, 22, 23, 24, 25, 26, 6, 27, 28, 29, 30, 31, 32, 33, 34, 35, 36, 37, 38, 39, 40, 41, 42, 43, 44, 45, 46, 47, 48, 49, 50, 51, 52, 53, 54, 55, 56, 57, 58, 59, 60, 61, 62, 63, 64, 65, 66, 67, 68, 69, 70, 71, 72, 73, 74, 75, 76, 77, 78, 79, 80, 81, 82, 83, 84, 85, 86, 87, 88, 89, 90, 91, 92, 93, 94, 95, 96, 97, 98, 99, 100, 101, 102, 103, 104] (by decide +kernel) (by decide +kernel)
set_option maxRecDepth 20000 in
theorem gX7_isFailing_X7_run : GoodIn wsX7_isFailing (wsV RX7 156 RX7 yX7_run wsX7_run) := goodIn_app (goodIn_of _ (by decide +kernel)) ggX7_isFailing_X7_run
theorem dX7_isFailing_0 : decode cX7_isFailing 0 = .ok (.aload_n 0, 1) := by decide +kernel
theorem dX7_isFailing_1 : decode cX7_isFailing 1 = .ok (.iconst 1, 1) := by decide +kernel
theorem dX7_isFailing_2 : decode cX7_isFailing 2 = .ok (.aload_n 0, 1) := by decide +kernel
theorem dX7_isFailing_3 : decode cX7_isFailing 3 = .ok (.getfield 35, 3) := by decide +kernel
theorem dX7_isFailing_6 : decode cX7_isFailing 6 = .ok (.iconst 0, 1) := by decide +kernel
theorem dX7_isFailing_7 : decode cX7_isFailing 7 = .ok (.iaload, 1) := by decide +kernel
theorem dX7_isFailing_8 : decode cX7_isFailing 8 = .ok (.invokevirtual 156, 3) := by decide +kernel
theorem dX7_isFailing_11 : decode cX7_isFailing 11 = .ok (.aload_n 0, 1) := by decide +kernel
theorem dX7_isFailing_12 : decode cX7_isFailing 12 = .ok (.getfield 50, 3) := by decide +kernel
theorem dX7_isFailing_15 : decode cX7_isFailing 15 = .ok (.iconst 1, 1) := by decide +kernel
theorem dX7_isFailing_16 : decode cX7_isFailing 16 = .ok (.iaload, 1) := by decide +kernel
theorem dX7_isFailing_17 : decode cX7_isFailing 17 = .ok (.ifCond .lt 7, 3) := by decide +kernel
theorem dX7_isFailing_20 : decode cX7_isFailing 20 = .ok (.iconst 1, 1) := by decide +kernel
theorem dX7_isFailing_21 : decode cX7_isFailing 21 = .ok (.goto 4, 3) := by decide +kernel
theorem dX7_isFailing_24 : decode cX7_isFailing 24 = .ok (.iconst 0, 1) := by decide +kernel
theorem dX7_isFailing_25 : decode cX7_isFailing 25 = .ok (.ireturn, 1) := by decide +kernel
set_option maxRecDepth 20000 in
theorem ggX7_play_X7_in : GoodIn wsX7_play wsX7_in := goodIn_r _ [6] (by decide +kernel) (by decide +kernel)
set_option maxRecDepth 20000 in
theorem gX7_play_X7_in : GoodIn wsX7_play (va_wsS RX7 105 yX7_in wsX7_in) := goodIn_app (goodIn_of _ (by decide +kernel)) ggX7_play_X7_in
set_option maxRecDepth 20000 in
theorem ggX7_play_X7_run : GoodIn wsX7_play wsX7_run := goodIn_r _ [10, 11, 12, 13, 14, 15, 16, 17, 2, 18, 19, 20, 21, 1, 22, 23, 24, 25, 26, 27, 28, 29, 5, 30, 31, 32, 33, 34, 35, 36, 37, 38, 39, 40, 41, 3, 4, 6, 42, 43, 44, 45, 46, 47, 48, 49, 50, 51, 52, 53, 54, 55, 56, 57, 58, 59, 60, 61, 62, 63, 64, 65, 66, 67, 68, 69, 70, 71, 72, 73, 74, 75, 76, 77, 78, 79, 80, 81, 82, 83, 84, 85, 86, 87, 88, 89, 90, 91, 92, 93, 94, 95, 96, 97, 98, 99, 100, 101, 102, 103, 104] (by decide +kernel) (by decide +kernel)
set_option maxRecDepth 20000 in
theorem gX7_play_X7_run : GoodIn wsX7_play (wsV RX7 156 RX7 yX7_run wsX7_run) := goodIn_app (goodIn_of _ (by decide +kernel)) ggX7_play_X7_run
theorem dX7_play_0 : decode cX7_play 0 = .ok (.iload_n 1, 1) := by decide +kernel
theorem dX7_play_1 : decode cX7_play 1 = .ok (.iconst 1, 1) := by decide +kernel
theorem dX7_play_2 : decode cX7_play 2 = .ok (.bipush 40, 2) := by decide +kernel
theorem dX7_play_4 : decode cX7_play 4 = .ok (.invokestatic 105, 3) := by decide +kernel
theorem dX7_play_7 : decode cX7_play 7 = .ok (.ifCond .ne 6, 3) := by decide +kernel
theorem dX7_play_10 : decode cX7_play 10 = .ok (.bipush (-3), 2) := by decide +kernel
theorem dX7_play_12 : decode cX7_play 12 = .ok (.ireturn, 1) := by decide +kernel
theorem dX7_play_13 : decode cX7_play 13 = .ok (.aload_n 0, 1) := by decide +kernel
theorem dX7_play_14 : decode cX7_play 14 = .ok (.iconst 0, 1) := by decide +kernel
theorem dX7_play_15 : decode cX7_play 15 = .ok (.iload_n 1, 1) := by decide +kernel
theorem dX7_play_16 : decode cX7_play 16 = .ok (.invokevirtual 156, 3) := by decide +kernel
theorem dX7_play_19 : decode cX7_play 19 = .ok (.iconst 0, 1) := by decide +kernel
theorem dX7_play_20 : decode cX7_play 20 = .ok (.istore_n 2, 1) := by decide +kernel
theorem dX7_play_21 : decode cX7_play 21 = .ok (.iconst 0, 1) := by decide +kernel
theorem dX7_play_22 : decode cX7_play 22 = .ok (.istore_n 3, 1) := by decide +kernel
theorem dX7_play_23 : decode cX7_play 23 = .ok (.iload_n 3, 1) := by decide +kernel
theorem dX7_play_24 : decode cX7_play 24 = .ok (.aload_n 0, 1) := by decide +kernel
theorem dX7_play_25 : decode cX7_play 25 = .ok (.getfield 101, 3) := by decide +kernel
theorem dX7_play_28 : decode cX7_play 28 = .ok (.if_icmp .ge 30, 3) := by decide +kernel
theorem dX7_play_31 : decode cX7_play 31 = .ok (.aload_n 0, 1) := by decide +kernel
theorem dX7_play_32 : decode cX7_play 32 = .ok (.getfield 86, 3) := by decide +kernel
theorem dX7_play_35 : decode cX7_play 35 = .ok (.iload_n 3, 1) := by decide +kernel
theorem dX7_play_36 : decode cX7_play 36 = .ok (.iaload, 1) := by decide +kernel
theorem dX7_play_37 : decode cX7_play 37 = .ok (.iload_n 2, 1) := by decide +kernel
theorem dX7_play_38 : decode cX7_play 38 = .ok (.if_icmp .le 12, 3) := by decide +kernel
theorem dX7_play_41 : decode cX7_play 41 = .ok (.aload_n 0, 1) := by decide +kernel
theorem dX7_play_42 : decode cX7_play 42 = .ok (.getfield 86, 3) := by decide +kernel
theorem dX7_play_45 : decode cX7_play 45 = .ok (.iload_n 3, 1) := by decide +kernel
theorem dX7_play_46 : decode cX7_play 46 = .ok (.iaload, 1) := by decide +kernel
theorem dX7_play_47 : decode cX7_play 47 = .ok (.goto 4, 3) := by decide +kernel
theorem dX7_play_50 : decode cX7_play 50 = .ok (.iload_n 2, 1) := by decide +kernel
theorem dX7_play_51 : decode cX7_play 51 = .ok (.istore_n 2, 1) := by decide +kernel
theorem dX7_play_52 : decode cX7_play 52 = .ok (.iinc 3 1, 3) := by decide +kernel
theorem dX7_play_55 : decode cX7_play 55 = .ok (.goto (-32), 3) := by decide +kernel
theorem dX7_play_58 : decode cX7_play 58 = .ok (.iload_n 2, 1) := by decide +kernel
theorem dX7_play_59 : decode cX7_play 59 = .ok (.ireturn, 1) := by decide +kernel
set_option maxRecDepth 20000 in
theorem ggX7_isTurn_X7_in : GoodIn wsX7_isTurn wsX7_in := goodIn_r _ [5] (by decide +kernel) (by decide +kernel)
set_option maxRecDepth 20000 in
theorem gX7_isTurn_X7_in : GoodIn wsX7_isTurn (va_wsS RX7 105 yX7_in wsX7_in) := goodIn_app (goodIn_of _ (by decide +kernel)) ggX7_isTurn_X7_in
theorem dX7_isTurn_0 : decode cX7_isTurn 0 = .ok (.iload_n 1, 1) := by decide +kernel
theorem dX7_isTurn_1 : decode cX7_isTurn 1 = .ok (.iconst 0, 1) := by decide +kernel
theorem dX7_isTurn_2 : decode cX7_isTurn 2 = .ok (.aload_n 0, 1) := by decide +kernel
theorem dX7_isTurn_3 : decode cX7_isTurn 3 = .ok (.getfield 35, 3) := by decide +kernel
theorem dX7_isTurn_6 : decode cX7_isTurn 6 = .ok (.iconst 0, 1) := by decide +kernel
theorem dX7_isTurn_7 : decode cX7_isTurn 7 = .ok (.iaload, 1) := by decide +kernel
theorem dX7_isTurn_8 : decode cX7_isTurn 8 = .ok (.iconst 1, 1) := by decide +kernel
theorem dX7_isTurn_9 : decode cX7_isTurn 9 = .ok (.isub, 1) := by decide +kernel
theorem dX7_isTurn_10 : decode cX7_isTurn 10 = .ok (.invokestatic 105, 3) := by decide +kernel
theorem dX7_isTurn_13 : decode cX7_isTurn 13 = .ok (.ireturn, 1) := by decide +kernel
set_option maxRecDepth 20000 in
theorem ggX7_height_X7_isTurn : GoodIn wsX7_height wsX7_isTurn := goodIn_r _ [6, 7, 8, 9, 5, 10, 16, 17, 18, 19, 20, 21, 22, 23, 24, 25, 26, 27, 28, 29, 30, 31, 32, 33, 34, 35, 36, 37, 38, 39, 40, 41, 42, 43, 44, 45, 46, 47, 48, 49] (by decide +kernel) (by decide +kernel)
set_option maxRecDepth 20000 in
theorem gX7_height_X7_isTurn : GoodIn wsX7_height (wsV RX7 159 RX7 yX7_isTurn wsX7_isTurn) := goodIn_app (goodIn_of _ (by decide +kernel)) ggX7_height_X7_isTurn
set_option maxRecDepth 20000 in
theorem ggX7_height_X7_isNode : GoodIn wsX7_height wsX7_isNode := goodIn_r _ [14, 15, 8, 9, 5, 10, 16, 17, 18, 19, 20, 21, 22, 23, 24, 25, 26, 27, 28, 29, 30, 31, 32, 33, 34, 35, 36, 37, 38, 39, 40, 41, 42, 43, 44, 45, 46, 47, 48, 49] (by decide +kernel) (by decide +kernel)
set_option maxRecDepth 20000 in
theorem gX7_height_X7_isNode : GoodIn wsX7_height (wsV RX7 109 RX7 yX7_isNode wsX7_isNode) := goodIn_app (goodIn_of _ (by decide +kernel)) ggX7_height_X7_isNode
theorem dX7_height_0 : decode cX7_height 0 = .ok (.aload_n 0, 1) := by decide +kernel
theorem dX7_height_1 : decode cX7_height 1 = .ok (.iload_n 1, 1) := by decide +kernel
theorem dX7_height_2 : decode cX7_height 2 = .ok (.invokevirtual 159, 3) := by decide +kernel
theorem dX7_height_5 : decode cX7_height 5 = .ok (.ifCond .eq 25, 3) := by decide +kernel
theorem dX7_height_8 : decode cX7_height 8 = .ok (.aload_n 0, 1) := by decide +kernel
theorem dX7_height_9 : decode cX7_height 9 = .ok (.iload_n 2, 1) := by decide +kernel
theorem dX7_height_10 : decode cX7_height 10 = .ok (.invokevirtual 109, 3) := by decide +kernel
theorem dX7_height_13 : decode cX7_height 13 = .ok (.ifCond .eq 17, 3) := by decide +kernel
theorem dX7_height_16 : decode cX7_height 16 = .ok (.aload_n 0, 1) := by decide +kernel
theorem dX7_height_17 : decode cX7_height 17 = .ok (.getfield 53, 3) := by decide +kernel
theorem dX7_height_20 : decode cX7_height 20 = .ok (.bipush 7, 2) := by decide +kernel
theorem dX7_height_22 : decode cX7_height 22 = .ok (.iload_n 1, 1) := by decide +kernel
theorem dX7_height_23 : decode cX7_height 23 = .ok (.imul, 1) := by decide +kernel
theorem dX7_height_24 : decode cX7_height 24 = .ok (.iload_n 2, 1) := by decide +kernel
theorem dX7_height_25 : decode cX7_height 25 = .ok (.iadd, 1) := by decide +kernel
theorem dX7_height_26 : decode cX7_height 26 = .ok (.iaload, 1) := by decide +kernel
theorem dX7_height_27 : decode cX7_height 27 = .ok (.goto 5, 3) := by decide +kernel
theorem dX7_height_30 : decode cX7_height 30 = .ok (.bipush (-2), 2) := by decide +kernel
theorem dX7_height_32 : decode cX7_height 32 = .ok (.ireturn, 1) := by decide +kernel
set_option maxRecDepth 20000 in
theorem ggX7_holds_X7_isTurn : GoodIn wsX7_holds wsX7_isTurn := goodIn_r _ [6, 7, 8, 9, 5, 10, 11, 12, 13, 14, 15, 16, 17, 18, 19, 20, 21, 22, 23, 24, 25, 26, 27, 28, 29, 30, 31, 32, 33, 34, 35, 36, 37, 38, 39, 40, 41, 42, 43, 44] (by decide +kernel) (by decide +kernel)
set_option maxRecDepth 20000 in
theorem gX7_holds_X7_isTurn : GoodIn wsX7_holds (wsV RX7 159 RX7 yX7_isTurn wsX7_isTurn) := goodIn_app (goodIn_of _ (by decide +kernel)) ggX7_holds_X7_isTurn
theorem dX7_holds_0 : decode cX7_holds 0 = .ok (.aload_n 0, 1) := by decide +kernel
theorem dX7_holds_1 : decode cX7_holds 1 = .ok (.iload_n 1, 1) := by decide +kernel
theorem dX7_holds_2 : decode cX7_holds 2 = .ok (.invokevirtual 159, 3) := by decide +kernel
theorem dX7_holds_5 : decode cX7_holds 5 = .ok (.ifCond .ne 8, 3) := by decide +kernel
theorem dX7_holds_8 : decode cX7_holds 8 = .ok (.bipush (-2), 2) := by decide +kernel
theorem dX7_holds_10 : decode cX7_holds 10 = .ok (.goto 17, 3) := by decide +kernel
theorem dX7_holds_13 : decode cX7_holds 13 = .ok (.aload_n 0, 1) := by decide +kernel
theorem dX7_holds_14 : decode cX7_holds 14 = .ok (.getfield 56, 3) := by decide +kernel
theorem dX7_holds_17 : decode cX7_holds 17 = .ok (.iload_n 1, 1) := by decide +kernel
theorem dX7_holds_18 : decode cX7_holds 18 = .ok (.baload, 1) := by decide +kernel
theorem dX7_holds_19 : decode cX7_holds 19 = .ok (.ifCond .eq 7, 3) := by decide +kernel
theorem dX7_holds_22 : decode cX7_holds 22 = .ok (.iconst 1, 1) := by decide +kernel
theorem dX7_holds_23 : decode cX7_holds 23 = .ok (.goto 4, 3) := by decide +kernel
theorem dX7_holds_26 : decode cX7_holds 26 = .ok (.iconst 0, 1) := by decide +kernel
theorem dX7_holds_27 : decode cX7_holds 27 = .ok (.ireturn, 1) := by decide +kernel
theorem dX7_fails_0 : decode cX7_fails 0 = .ok (.aload_n 0, 1) := by decide +kernel
theorem dX7_fails_1 : decode cX7_fails 1 = .ok (.getfield 35, 3) := by decide +kernel
theorem dX7_fails_4 : decode cX7_fails 4 = .ok (.iconst 0, 1) := by decide +kernel
theorem dX7_fails_5 : decode cX7_fails 5 = .ok (.iaload, 1) := by decide +kernel
theorem dX7_fails_6 : decode cX7_fails 6 = .ok (.ifCond .ne 8, 3) := by decide +kernel
theorem dX7_fails_9 : decode cX7_fails 9 = .ok (.bipush (-4), 2) := by decide +kernel
theorem dX7_fails_11 : decode cX7_fails 11 = .ok (.goto 9, 3) := by decide +kernel
theorem dX7_fails_14 : decode cX7_fails 14 = .ok (.aload_n 0, 1) := by decide +kernel
theorem dX7_fails_15 : decode cX7_fails 15 = .ok (.getfield 50, 3) := by decide +kernel
theorem dX7_fails_18 : decode cX7_fails 18 = .ok (.iconst 0, 1) := by decide +kernel
theorem dX7_fails_19 : decode cX7_fails 19 = .ok (.iaload, 1) := by decide +kernel
theorem dX7_fails_20 : decode cX7_fails 20 = .ok (.ireturn, 1) := by decide +kernel
set_option maxRecDepth 20000 in
theorem ggX7_letter_X7_in : GoodIn wsX7_letter wsX7_in := goodIn_r _ [12] (by decide +kernel) (by decide +kernel)
set_option maxRecDepth 20000 in
theorem gX7_letter_X7_in : GoodIn wsX7_letter (va_wsS RX7 105 yX7_in wsX7_in) := goodIn_app (goodIn_of _ (by decide +kernel)) ggX7_letter_X7_in
theorem dX7_letter_0 : decode cX7_letter 0 = .ok (.iload_n 1, 1) := by decide +kernel
theorem dX7_letter_1 : decode cX7_letter 1 = .ok (.iconst 0, 1) := by decide +kernel
theorem dX7_letter_2 : decode cX7_letter 2 = .ok (.aload_n 0, 1) := by decide +kernel
theorem dX7_letter_3 : decode cX7_letter 3 = .ok (.getfield 38, 3) := by decide +kernel
theorem dX7_letter_6 : decode cX7_letter 6 = .ok (.iconst 0, 1) := by decide +kernel
theorem dX7_letter_7 : decode cX7_letter 7 = .ok (.iaload, 1) := by decide +kernel
theorem dX7_letter_8 : decode cX7_letter 8 = .ok (.iconst 1, 1) := by decide +kernel
theorem dX7_letter_9 : decode cX7_letter 9 = .ok (.isub, 1) := by decide +kernel
theorem dX7_letter_10 : decode cX7_letter 10 = .ok (.invokestatic 105, 3) := by decide +kernel
theorem dX7_letter_13 : decode cX7_letter 13 = .ok (.ifCond .eq 13, 3) := by decide +kernel
theorem dX7_letter_16 : decode cX7_letter 16 = .ok (.iload_n 2, 1) := by decide +kernel
theorem dX7_letter_17 : decode cX7_letter 17 = .ok (.iconst 0, 1) := by decide +kernel
theorem dX7_letter_18 : decode cX7_letter 18 = .ok (.bipush 6, 2) := by decide +kernel
theorem dX7_letter_20 : decode cX7_letter 20 = .ok (.invokestatic 105, 3) := by decide +kernel
theorem dX7_letter_23 : decode cX7_letter 23 = .ok (.ifCond .ne 6, 3) := by decide +kernel
theorem dX7_letter_26 : decode cX7_letter 26 = .ok (.bipush (-2), 2) := by decide +kernel
theorem dX7_letter_28 : decode cX7_letter 28 = .ok (.ireturn, 1) := by decide +kernel
theorem dX7_letter_29 : decode cX7_letter 29 = .ok (.iload_n 2, 1) := by decide +kernel
theorem dX7_letter_30 : decode cX7_letter 30 = .ok (.ifCond .ne 12, 3) := by decide +kernel
theorem dX7_letter_33 : decode cX7_letter 33 = .ok (.aload_n 0, 1) := by decide +kernel
theorem dX7_letter_34 : decode cX7_letter 34 = .ok (.getfield 62, 3) := by decide +kernel
theorem dX7_letter_37 : decode cX7_letter 37 = .ok (.iload_n 1, 1) := by decide +kernel
theorem dX7_letter_38 : decode cX7_letter 38 = .ok (.iaload, 1) := by decide +kernel
theorem dX7_letter_39 : decode cX7_letter 39 = .ok (.goto 79, 3) := by decide +kernel
theorem dX7_letter_42 : decode cX7_letter 42 = .ok (.iload_n 2, 1) := by decide +kernel
theorem dX7_letter_43 : decode cX7_letter 43 = .ok (.iconst 1, 1) := by decide +kernel
theorem dX7_letter_44 : decode cX7_letter 44 = .ok (.if_icmp .ne 12, 3) := by decide +kernel
theorem dX7_letter_47 : decode cX7_letter 47 = .ok (.aload_n 0, 1) := by decide +kernel
theorem dX7_letter_48 : decode cX7_letter 48 = .ok (.getfield 65, 3) := by decide +kernel
theorem dX7_letter_51 : decode cX7_letter 51 = .ok (.iload_n 1, 1) := by decide +kernel
theorem dX7_letter_52 : decode cX7_letter 52 = .ok (.iaload, 1) := by decide +kernel
theorem dX7_letter_53 : decode cX7_letter 53 = .ok (.goto 65, 3) := by decide +kernel
theorem dX7_letter_56 : decode cX7_letter 56 = .ok (.iload_n 2, 1) := by decide +kernel
theorem dX7_letter_57 : decode cX7_letter 57 = .ok (.iconst 2, 1) := by decide +kernel
theorem dX7_letter_58 : decode cX7_letter 58 = .ok (.if_icmp .ne 12, 3) := by decide +kernel
theorem dX7_letter_61 : decode cX7_letter 61 = .ok (.aload_n 0, 1) := by decide +kernel
theorem dX7_letter_62 : decode cX7_letter 62 = .ok (.getfield 68, 3) := by decide +kernel
theorem dX7_letter_65 : decode cX7_letter 65 = .ok (.iload_n 1, 1) := by decide +kernel
theorem dX7_letter_66 : decode cX7_letter 66 = .ok (.iaload, 1) := by decide +kernel
theorem dX7_letter_67 : decode cX7_letter 67 = .ok (.goto 51, 3) := by decide +kernel
theorem dX7_letter_70 : decode cX7_letter 70 = .ok (.iload_n 2, 1) := by decide +kernel
theorem dX7_letter_71 : decode cX7_letter 71 = .ok (.iconst 3, 1) := by decide +kernel
theorem dX7_letter_72 : decode cX7_letter 72 = .ok (.if_icmp .ne 12, 3) := by decide +kernel
theorem dX7_letter_75 : decode cX7_letter 75 = .ok (.aload_n 0, 1) := by decide +kernel
theorem dX7_letter_76 : decode cX7_letter 76 = .ok (.getfield 71, 3) := by decide +kernel
theorem dX7_letter_79 : decode cX7_letter 79 = .ok (.iload_n 1, 1) := by decide +kernel
theorem dX7_letter_80 : decode cX7_letter 80 = .ok (.iaload, 1) := by decide +kernel
theorem dX7_letter_81 : decode cX7_letter 81 = .ok (.goto 37, 3) := by decide +kernel
theorem dX7_letter_84 : decode cX7_letter 84 = .ok (.iload_n 2, 1) := by decide +kernel
theorem dX7_letter_85 : decode cX7_letter 85 = .ok (.iconst 4, 1) := by decide +kernel
theorem dX7_letter_86 : decode cX7_letter 86 = .ok (.if_icmp .ne 12, 3) := by decide +kernel
theorem dX7_letter_89 : decode cX7_letter 89 = .ok (.aload_n 0, 1) := by decide +kernel
theorem dX7_letter_90 : decode cX7_letter 90 = .ok (.getfield 74, 3) := by decide +kernel
theorem dX7_letter_93 : decode cX7_letter 93 = .ok (.iload_n 1, 1) := by decide +kernel
theorem dX7_letter_94 : decode cX7_letter 94 = .ok (.iaload, 1) := by decide +kernel
theorem dX7_letter_95 : decode cX7_letter 95 = .ok (.goto 23, 3) := by decide +kernel
theorem dX7_letter_98 : decode cX7_letter 98 = .ok (.iload_n 2, 1) := by decide +kernel
theorem dX7_letter_99 : decode cX7_letter 99 = .ok (.iconst 5, 1) := by decide +kernel
theorem dX7_letter_100 : decode cX7_letter 100 = .ok (.if_icmp .ne 12, 3) := by decide +kernel
theorem dX7_letter_103 : decode cX7_letter 103 = .ok (.aload_n 0, 1) := by decide +kernel
theorem dX7_letter_104 : decode cX7_letter 104 = .ok (.getfield 77, 3) := by decide +kernel
theorem dX7_letter_107 : decode cX7_letter 107 = .ok (.iload_n 1, 1) := by decide +kernel
theorem dX7_letter_108 : decode cX7_letter 108 = .ok (.iaload, 1) := by decide +kernel
theorem dX7_letter_109 : decode cX7_letter 109 = .ok (.goto 9, 3) := by decide +kernel
theorem dX7_letter_112 : decode cX7_letter 112 = .ok (.aload_n 0, 1) := by decide +kernel
theorem dX7_letter_113 : decode cX7_letter 113 = .ok (.getfield 80, 3) := by decide +kernel
theorem dX7_letter_116 : decode cX7_letter 116 = .ok (.iload_n 1, 1) := by decide +kernel
theorem dX7_letter_117 : decode cX7_letter 117 = .ok (.iaload, 1) := by decide +kernel
theorem dX7_letter_118 : decode cX7_letter 118 = .ok (.ireturn, 1) := by decide +kernel
set_option maxRecDepth 20000 in
theorem ggX7_reached_X7_in : GoodIn wsX7_reached wsX7_in := goodIn_r _ [7] (by decide +kernel) (by decide +kernel)
set_option maxRecDepth 20000 in
theorem gX7_reached_X7_in : GoodIn wsX7_reached (va_wsS RX7 105 yX7_in wsX7_in) := goodIn_app (goodIn_of _ (by decide +kernel)) ggX7_reached_X7_in
theorem dX7_reached_0 : decode cX7_reached 0 = .ok (.iload_n 1, 1) := by decide +kernel
theorem dX7_reached_1 : decode cX7_reached 1 = .ok (.iconst 0, 1) := by decide +kernel
theorem dX7_reached_2 : decode cX7_reached 2 = .ok (.bipush 7, 2) := by decide +kernel
theorem dX7_reached_4 : decode cX7_reached 4 = .ok (.invokestatic 105, 3) := by decide +kernel
theorem dX7_reached_7 : decode cX7_reached 7 = .ok (.ifCond .ne 6, 3) := by decide +kernel
theorem dX7_reached_10 : decode cX7_reached 10 = .ok (.bipush (-2), 2) := by decide +kernel
theorem dX7_reached_12 : decode cX7_reached 12 = .ok (.ireturn, 1) := by decide +kernel
theorem dX7_reached_13 : decode cX7_reached 13 = .ok (.aload_n 0, 1) := by decide +kernel
theorem dX7_reached_14 : decode cX7_reached 14 = .ok (.getfield 35, 3) := by decide +kernel
theorem dX7_reached_17 : decode cX7_reached 17 = .ok (.iconst 0, 1) := by decide +kernel
theorem dX7_reached_18 : decode cX7_reached 18 = .ok (.iaload, 1) := by decide +kernel
theorem dX7_reached_19 : decode cX7_reached 19 = .ok (.ifCond .ne 6, 3) := by decide +kernel
theorem dX7_reached_22 : decode cX7_reached 22 = .ok (.bipush (-4), 2) := by decide +kernel
theorem dX7_reached_24 : decode cX7_reached 24 = .ok (.ireturn, 1) := by decide +kernel
theorem dX7_reached_25 : decode cX7_reached 25 = .ok (.iconst 0, 1) := by decide +kernel
theorem dX7_reached_26 : decode cX7_reached 26 = .ok (.istore_n 2, 1) := by decide +kernel
theorem dX7_reached_27 : decode cX7_reached 27 = .ok (.iconst 0, 1) := by decide +kernel
theorem dX7_reached_28 : decode cX7_reached 28 = .ok (.istore_n 3, 1) := by decide +kernel
theorem dX7_reached_29 : decode cX7_reached 29 = .ok (.iload_n 3, 1) := by decide +kernel
theorem dX7_reached_30 : decode cX7_reached 30 = .ok (.aload_n 0, 1) := by decide +kernel
theorem dX7_reached_31 : decode cX7_reached 31 = .ok (.getfield 101, 3) := by decide +kernel
theorem dX7_reached_34 : decode cX7_reached 34 = .ok (.if_icmp .ge 22, 3) := by decide +kernel
theorem dX7_reached_37 : decode cX7_reached 37 = .ok (.iload_n 2, 1) := by decide +kernel
theorem dX7_reached_38 : decode cX7_reached 38 = .ok (.aload_n 0, 1) := by decide +kernel
theorem dX7_reached_39 : decode cX7_reached 39 = .ok (.getfield 59, 3) := by decide +kernel
theorem dX7_reached_42 : decode cX7_reached 42 = .ok (.iload_n 3, 1) := by decide +kernel
theorem dX7_reached_43 : decode cX7_reached 43 = .ok (.iaload, 1) := by decide +kernel
theorem dX7_reached_44 : decode cX7_reached 44 = .ok (.iload_n 1, 1) := by decide +kernel
theorem dX7_reached_45 : decode cX7_reached 45 = .ok (.ishr, 1) := by decide +kernel
theorem dX7_reached_46 : decode cX7_reached 46 = .ok (.iconst 1, 1) := by decide +kernel
theorem dX7_reached_47 : decode cX7_reached 47 = .ok (.iand, 1) := by decide +kernel
theorem dX7_reached_48 : decode cX7_reached 48 = .ok (.iadd, 1) := by decide +kernel
theorem dX7_reached_49 : decode cX7_reached 49 = .ok (.istore_n 2, 1) := by decide +kernel
theorem dX7_reached_50 : decode cX7_reached 50 = .ok (.iinc 3 1, 3) := by decide +kernel
theorem dX7_reached_53 : decode cX7_reached 53 = .ok (.goto (-24), 3) := by decide +kernel
theorem dX7_reached_56 : decode cX7_reached 56 = .ok (.iload_n 2, 1) := by decide +kernel
theorem dX7_reached_57 : decode cX7_reached 57 = .ok (.ireturn, 1) := by decide +kernel
set_option maxRecDepth 20000 in
theorem ggX7_bytes_X7_isNode : GoodIn wsX7_bytes wsX7_isNode := goodIn_r _ [9, 10, 11, 12, 8, 13, 17, 18, 19, 20, 21, 22, 23, 24, 25, 26, 27, 28, 29, 30, 31, 32, 33, 34, 35, 36, 37, 38, 39, 40, 41, 42, 43, 44, 45, 46, 47, 48, 49, 50] (by decide +kernel) (by decide +kernel)
set_option maxRecDepth 20000 in
theorem gX7_bytes_X7_isNode : GoodIn wsX7_bytes (wsV RX7 109 RX7 yX7_isNode wsX7_isNode) := goodIn_app (goodIn_of _ (by decide +kernel)) ggX7_bytes_X7_isNode
set_option maxRecDepth 20000 in
theorem ggX7_bytes_X7_bits : GoodIn wsX7_bytes wsX7_bits := goodIn_r _ [16] (by decide +kernel) (by decide +kernel)
set_option maxRecDepth 20000 in
theorem gX7_bytes_X7_bits : GoodIn wsX7_bytes (va_wsS RX7 113 yX7_bits wsX7_bits) := goodIn_app (goodIn_of _ (by decide +kernel)) ggX7_bytes_X7_bits
theorem dX7_bytes_0 : decode cX7_bytes 0 = .ok (.aload_n 0, 1) := by decide +kernel
theorem dX7_bytes_1 : decode cX7_bytes 1 = .ok (.iload_n 1, 1) := by decide +kernel
theorem dX7_bytes_2 : decode cX7_bytes 2 = .ok (.invokevirtual 109, 3) := by decide +kernel
theorem dX7_bytes_5 : decode cX7_bytes 5 = .ok (.ifCond .ne 6, 3) := by decide +kernel
theorem dX7_bytes_8 : decode cX7_bytes 8 = .ok (.bipush (-2), 2) := by decide +kernel
theorem dX7_bytes_10 : decode cX7_bytes 10 = .ok (.ireturn, 1) := by decide +kernel
theorem dX7_bytes_11 : decode cX7_bytes 11 = .ok (.aload_n 0, 1) := by decide +kernel
theorem dX7_bytes_12 : decode cX7_bytes 12 = .ok (.getfield 35, 3) := by decide +kernel
theorem dX7_bytes_15 : decode cX7_bytes 15 = .ok (.iconst 0, 1) := by decide +kernel
theorem dX7_bytes_16 : decode cX7_bytes 16 = .ok (.iaload, 1) := by decide +kernel
theorem dX7_bytes_17 : decode cX7_bytes 17 = .ok (.ifCond .ne 6, 3) := by decide +kernel
theorem dX7_bytes_20 : decode cX7_bytes 20 = .ok (.bipush (-4), 2) := by decide +kernel
theorem dX7_bytes_22 : decode cX7_bytes 22 = .ok (.ireturn, 1) := by decide +kernel
theorem dX7_bytes_23 : decode cX7_bytes 23 = .ok (.iconst 0, 1) := by decide +kernel
theorem dX7_bytes_24 : decode cX7_bytes 24 = .ok (.istore_n 2, 1) := by decide +kernel
theorem dX7_bytes_25 : decode cX7_bytes 25 = .ok (.iconst 0, 1) := by decide +kernel
theorem dX7_bytes_26 : decode cX7_bytes 26 = .ok (.istore_n 3, 1) := by decide +kernel
theorem dX7_bytes_27 : decode cX7_bytes 27 = .ok (.iload_n 3, 1) := by decide +kernel
theorem dX7_bytes_28 : decode cX7_bytes 28 = .ok (.aload_n 0, 1) := by decide +kernel
theorem dX7_bytes_29 : decode cX7_bytes 29 = .ok (.getfield 38, 3) := by decide +kernel
theorem dX7_bytes_32 : decode cX7_bytes 32 = .ok (.iconst 0, 1) := by decide +kernel
theorem dX7_bytes_33 : decode cX7_bytes 33 = .ok (.iaload, 1) := by decide +kernel
theorem dX7_bytes_34 : decode cX7_bytes 34 = .ok (.if_icmp .ge 37, 3) := by decide +kernel
theorem dX7_bytes_37 : decode cX7_bytes 37 = .ok (.iload_n 2, 1) := by decide +kernel
theorem dX7_bytes_38 : decode cX7_bytes 38 = .ok (.aload_n 0, 1) := by decide +kernel
theorem dX7_bytes_39 : decode cX7_bytes 39 = .ok (.getfield 62, 3) := by decide +kernel
theorem dX7_bytes_42 : decode cX7_bytes 42 = .ok (.iload_n 3, 1) := by decide +kernel
theorem dX7_bytes_43 : decode cX7_bytes 43 = .ok (.iaload, 1) := by decide +kernel
theorem dX7_bytes_44 : decode cX7_bytes 44 = .ok (.iload_n 1, 1) := by decide +kernel
theorem dX7_bytes_45 : decode cX7_bytes 45 = .ok (.if_icmp .ne 17, 3) := by decide +kernel
theorem dX7_bytes_48 : decode cX7_bytes 48 = .ok (.iconst 4, 1) := by decide +kernel
theorem dX7_bytes_49 : decode cX7_bytes 49 = .ok (.aload_n 0, 1) := by decide +kernel
theorem dX7_bytes_50 : decode cX7_bytes 50 = .ok (.getfield 74, 3) := by decide +kernel
theorem dX7_bytes_53 : decode cX7_bytes 53 = .ok (.iload_n 3, 1) := by decide +kernel
theorem dX7_bytes_54 : decode cX7_bytes 54 = .ok (.iaload, 1) := by decide +kernel
theorem dX7_bytes_55 : decode cX7_bytes 55 = .ok (.invokestatic 113, 3) := by decide +kernel
theorem dX7_bytes_58 : decode cX7_bytes 58 = .ok (.iadd, 1) := by decide +kernel
theorem dX7_bytes_59 : decode cX7_bytes 59 = .ok (.goto 4, 3) := by decide +kernel
theorem dX7_bytes_62 : decode cX7_bytes 62 = .ok (.iconst 0, 1) := by decide +kernel
theorem dX7_bytes_63 : decode cX7_bytes 63 = .ok (.iadd, 1) := by decide +kernel
theorem dX7_bytes_64 : decode cX7_bytes 64 = .ok (.istore_n 2, 1) := by decide +kernel
theorem dX7_bytes_65 : decode cX7_bytes 65 = .ok (.iinc 3 1, 3) := by decide +kernel
theorem dX7_bytes_68 : decode cX7_bytes 68 = .ok (.goto (-41), 3) := by decide +kernel
theorem dX7_bytes_71 : decode cX7_bytes 71 = .ok (.iload_n 2, 1) := by decide +kernel
theorem dX7_bytes_72 : decode cX7_bytes 72 = .ok (.ireturn, 1) := by decide +kernel
set_option maxRecDepth 20000 in
theorem ggX7_shrink_X7_isFailing : GoodIn wsX7_shrink wsX7_isFailing := goodIn_r _ [8, 1, 9, 10, 11, 12, 7, 13, 14, 15, 16, 17, 18, 19, 20, 21, 22, 23, 24, 25, 26, 27, 28, 29, 30, 31, 32, 33, 2, 3, 34, 35, 36, 37, 38, 39, 40, 41, 42, 43, 44, 45, 46, 47, 48, 49, 50, 51, 52, 53, 54, 55, 56, 57, 58, 59, 60, 61, 62, 63, 64, 65, 66, 67, 68, 69, 70, 71, 72, 73, 74, 79, 80, 81, 82, 83, 84, 85, 86, 87, 88, 89, 90, 91, 92, 93, 94, 95, 96, 97, 98, 99, 100, 101, 102, 103, 104, 105, 106, 107, 108, 109, 110, 111, 112] (by decide +kernel) (by decide +kernel)
set_option maxRecDepth 20000 in
theorem gX7_shrink_X7_isFailing : GoodIn wsX7_shrink (wsV RX7 162 RX7 yX7_isFailing wsX7_isFailing) := goodIn_app (goodIn_of _ (by decide +kernel)) ggX7_shrink_X7_isFailing
set_option maxRecDepth 20000 in
theorem ggX7_shrink_X7_remove : GoodIn wsX7_shrink wsX7_remove := goodIn_r _ [78, 2, 34, 35, 36, 70, 79, 80, 81, 82, 83, 84, 85, 86, 87, 88, 89, 90, 91, 92, 93, 94, 95, 96, 97, 98, 99, 100, 101, 102, 103, 104, 105, 106, 107, 108, 109, 110, 111, 112] (by decide +kernel) (by decide +kernel)
set_option maxRecDepth 20000 in
theorem gX7_shrink_X7_remove : GoodIn wsX7_shrink (wsV RX7 120 RX7 yX7_remove wsX7_remove) := goodIn_app (goodIn_of _ (by decide +kernel)) ggX7_shrink_X7_remove
set_option maxRecDepth 20000 in
theorem ggX7_shrink_X7_run : GoodIn wsX7_shrink wsX7_run := goodIn_r _ [13, 1, 14, 15, 16, 17, 9, 18, 19, 20, 21, 22, 23, 24, 25, 26, 27, 28, 29, 30, 31, 32, 7, 33, 2, 3, 34, 35, 36, 37, 38, 39, 40, 41, 42, 43, 44, 45, 46, 47, 48, 49, 50, 51, 52, 53, 54, 55, 56, 57, 58, 59, 60, 61, 62, 63, 64, 65, 66, 67, 68, 69, 70, 71, 72, 73, 74, 79, 80, 81, 82, 83, 84, 85, 86, 87, 88, 89, 90, 91, 92, 93, 94, 95, 96, 97, 98, 99, 100, 101, 102, 103, 104, 105, 106, 107, 108, 109, 110, 111, 112] (by decide +kernel) (by decide +kernel)
set_option maxRecDepth 20000 in
theorem gX7_shrink_X7_run : GoodIn wsX7_shrink (wsV RX7 156 RX7 yX7_run wsX7_run) := goodIn_app (goodIn_of _ (by decide +kernel)) ggX7_shrink_X7_run
theorem dX7_shrink_0 : decode cX7_shrink 0 = .ok (.aload_n 0, 1) := by decide +kernel
theorem dX7_shrink_1 : decode cX7_shrink 1 = .ok (.getfield 35, 3) := by decide +kernel
theorem dX7_shrink_4 : decode cX7_shrink 4 = .ok (.iconst 0, 1) := by decide +kernel
theorem dX7_shrink_5 : decode cX7_shrink 5 = .ok (.iaload, 1) := by decide +kernel
theorem dX7_shrink_6 : decode cX7_shrink 6 = .ok (.ifCond .eq 10, 3) := by decide +kernel
theorem dX7_shrink_9 : decode cX7_shrink 9 = .ok (.aload_n 0, 1) := by decide +kernel
theorem dX7_shrink_10 : decode cX7_shrink 10 = .ok (.invokevirtual 162, 3) := by decide +kernel
theorem dX7_shrink_13 : decode cX7_shrink 13 = .ok (.ifCond .ne 6, 3) := by decide +kernel
theorem dX7_shrink_16 : decode cX7_shrink 16 = .ok (.bipush (-4), 2) := by decide +kernel
theorem dX7_shrink_18 : decode cX7_shrink 18 = .ok (.ireturn, 1) := by decide +kernel
theorem dX7_shrink_19 : decode cX7_shrink 19 = .ok (.aload_n 0, 1) := by decide +kernel
theorem dX7_shrink_20 : decode cX7_shrink 20 = .ok (.getfield 117, 3) := by decide +kernel
theorem dX7_shrink_23 : decode cX7_shrink 23 = .ok (.iconst 1, 1) := by decide +kernel
theorem dX7_shrink_24 : decode cX7_shrink 24 = .ok (.isub, 1) := by decide +kernel
theorem dX7_shrink_25 : decode cX7_shrink 25 = .ok (.istore_n 1, 1) := by decide +kernel
theorem dX7_shrink_26 : decode cX7_shrink 26 = .ok (.iload_n 1, 1) := by decide +kernel
theorem dX7_shrink_27 : decode cX7_shrink 27 = .ok (.ifCond .lt 37, 3) := by decide +kernel
theorem dX7_shrink_30 : decode cX7_shrink 30 = .ok (.aload_n 0, 1) := by decide +kernel
theorem dX7_shrink_31 : decode cX7_shrink 31 = .ok (.getfield 31, 3) := by decide +kernel
theorem dX7_shrink_34 : decode cX7_shrink 34 = .ok (.iload_n 1, 1) := by decide +kernel
theorem dX7_shrink_35 : decode cX7_shrink 35 = .ok (.iconst 1, 1) := by decide +kernel
theorem dX7_shrink_36 : decode cX7_shrink 36 = .ok (.bastore, 1) := by decide +kernel
theorem dX7_shrink_37 : decode cX7_shrink 37 = .ok (.aload_n 0, 1) := by decide +kernel
theorem dX7_shrink_38 : decode cX7_shrink 38 = .ok (.invokevirtual 162, 3) := by decide +kernel
theorem dX7_shrink_41 : decode cX7_shrink 41 = .ok (.istore_n 2, 1) := by decide +kernel
theorem dX7_shrink_42 : decode cX7_shrink 42 = .ok (.aload_n 0, 1) := by decide +kernel
theorem dX7_shrink_43 : decode cX7_shrink 43 = .ok (.getfield 31, 3) := by decide +kernel
theorem dX7_shrink_46 : decode cX7_shrink 46 = .ok (.iload_n 1, 1) := by decide +kernel
theorem dX7_shrink_47 : decode cX7_shrink 47 = .ok (.iconst 0, 1) := by decide +kernel
theorem dX7_shrink_48 : decode cX7_shrink 48 = .ok (.bastore, 1) := by decide +kernel
theorem dX7_shrink_49 : decode cX7_shrink 49 = .ok (.iload_n 2, 1) := by decide +kernel
theorem dX7_shrink_50 : decode cX7_shrink 50 = .ok (.ifCond .eq 8, 3) := by decide +kernel
theorem dX7_shrink_53 : decode cX7_shrink 53 = .ok (.aload_n 0, 1) := by decide +kernel
theorem dX7_shrink_54 : decode cX7_shrink 54 = .ok (.iload_n 1, 1) := by decide +kernel
theorem dX7_shrink_55 : decode cX7_shrink 55 = .ok (.invokevirtual 120, 3) := by decide +kernel
theorem dX7_shrink_58 : decode cX7_shrink 58 = .ok (.iinc 1 (-1), 3) := by decide +kernel
theorem dX7_shrink_61 : decode cX7_shrink 61 = .ok (.goto (-35), 3) := by decide +kernel
theorem dX7_shrink_64 : decode cX7_shrink 64 = .ok (.aload_n 0, 1) := by decide +kernel
theorem dX7_shrink_65 : decode cX7_shrink 65 = .ok (.iconst 0, 1) := by decide +kernel
theorem dX7_shrink_66 : decode cX7_shrink 66 = .ok (.aload_n 0, 1) := by decide +kernel
theorem dX7_shrink_67 : decode cX7_shrink 67 = .ok (.getfield 35, 3) := by decide +kernel
theorem dX7_shrink_70 : decode cX7_shrink 70 = .ok (.iconst 0, 1) := by decide +kernel
theorem dX7_shrink_71 : decode cX7_shrink 71 = .ok (.iaload, 1) := by decide +kernel
theorem dX7_shrink_72 : decode cX7_shrink 72 = .ok (.invokevirtual 156, 3) := by decide +kernel
theorem dX7_shrink_75 : decode cX7_shrink 75 = .ok (.aload_n 0, 1) := by decide +kernel
theorem dX7_shrink_76 : decode cX7_shrink 76 = .ok (.getfield 117, 3) := by decide +kernel
theorem dX7_shrink_79 : decode cX7_shrink 79 = .ok (.ireturn, 1) := by decide +kernel
set_option maxRecDepth 20000 in
theorem ggX7_minimal_X7_isFailing : GoodIn wsX7_minimal wsX7_isFailing := goodIn_r _ [8, 1, 9, 10, 11, 12, 7, 13, 14, 15, 16, 17, 18, 19, 20, 21, 22, 23, 24, 25, 26, 27, 28, 29, 30, 31, 32, 33, 2, 3, 34, 35, 36, 37, 38, 39, 40, 41, 42, 43, 44, 45, 46, 47, 48, 49, 50, 51, 52, 53, 54, 55, 56, 57, 58, 59, 60, 61, 62, 63, 64, 65, 66, 67, 68, 69, 70, 71, 72, 73, 74, 75, 76, 77, 78, 79, 80, 81, 82, 83, 84, 85, 86, 87, 88, 89, 90, 91, 92, 93, 94, 95, 96, 97, 98, 99, 100, 101, 102, 103, 104, 105, 106, 107, 108] (by decide +kernel) (by decide +kernel)
set_option maxRecDepth 20000 in
theorem gX7_minimal_X7_isFailing : GoodIn wsX7_minimal (wsV RX7 162 RX7 yX7_isFailing wsX7_isFailing) := goodIn_app (goodIn_of _ (by decide +kernel)) ggX7_minimal_X7_isFailing
theorem dX7_minimal_0 : decode cX7_minimal 0 = .ok (.aload_n 0, 1) := by decide +kernel
theorem dX7_minimal_1 : decode cX7_minimal 1 = .ok (.getfield 35, 3) := by decide +kernel
theorem dX7_minimal_4 : decode cX7_minimal 4 = .ok (.iconst 0, 1) := by decide +kernel
theorem dX7_minimal_5 : decode cX7_minimal 5 = .ok (.iaload, 1) := by decide +kernel
theorem dX7_minimal_6 : decode cX7_minimal 6 = .ok (.ifCond .ne 6, 3) := by decide +kernel
theorem dX7_minimal_9 : decode cX7_minimal 9 = .ok (.bipush (-4), 2) := by decide +kernel
theorem dX7_minimal_11 : decode cX7_minimal 11 = .ok (.ireturn, 1) := by decide +kernel
theorem dX7_minimal_12 : decode cX7_minimal 12 = .ok (.aload_n 0, 1) := by decide +kernel
theorem dX7_minimal_13 : decode cX7_minimal 13 = .ok (.invokevirtual 162, 3) := by decide +kernel
theorem dX7_minimal_16 : decode cX7_minimal 16 = .ok (.istore_n 1, 1) := by decide +kernel
theorem dX7_minimal_17 : decode cX7_minimal 17 = .ok (.iconst 0, 1) := by decide +kernel
theorem dX7_minimal_18 : decode cX7_minimal 18 = .ok (.istore_n 2, 1) := by decide +kernel
theorem dX7_minimal_19 : decode cX7_minimal 19 = .ok (.iload_n 2, 1) := by decide +kernel
theorem dX7_minimal_20 : decode cX7_minimal 20 = .ok (.aload_n 0, 1) := by decide +kernel
theorem dX7_minimal_21 : decode cX7_minimal 21 = .ok (.getfield 117, 3) := by decide +kernel
theorem dX7_minimal_24 : decode cX7_minimal 24 = .ok (.if_icmp .ge 40, 3) := by decide +kernel
theorem dX7_minimal_27 : decode cX7_minimal 27 = .ok (.iload_n 1, 1) := by decide +kernel
theorem dX7_minimal_28 : decode cX7_minimal 28 = .ok (.ifCond .eq 36, 3) := by decide +kernel
theorem dX7_minimal_31 : decode cX7_minimal 31 = .ok (.aload_n 0, 1) := by decide +kernel
theorem dX7_minimal_32 : decode cX7_minimal 32 = .ok (.getfield 31, 3) := by decide +kernel
theorem dX7_minimal_35 : decode cX7_minimal 35 = .ok (.iload_n 2, 1) := by decide +kernel
theorem dX7_minimal_36 : decode cX7_minimal 36 = .ok (.iconst 1, 1) := by decide +kernel
theorem dX7_minimal_37 : decode cX7_minimal 37 = .ok (.bastore, 1) := by decide +kernel
theorem dX7_minimal_38 : decode cX7_minimal 38 = .ok (.aload_n 0, 1) := by decide +kernel
theorem dX7_minimal_39 : decode cX7_minimal 39 = .ok (.invokevirtual 162, 3) := by decide +kernel
theorem dX7_minimal_42 : decode cX7_minimal 42 = .ok (.ifCond .ne 7, 3) := by decide +kernel
theorem dX7_minimal_45 : decode cX7_minimal 45 = .ok (.iconst 1, 1) := by decide +kernel
theorem dX7_minimal_46 : decode cX7_minimal 46 = .ok (.goto 4, 3) := by decide +kernel
theorem dX7_minimal_49 : decode cX7_minimal 49 = .ok (.iconst 0, 1) := by decide +kernel
theorem dX7_minimal_50 : decode cX7_minimal 50 = .ok (.istore_n 1, 1) := by decide +kernel
theorem dX7_minimal_51 : decode cX7_minimal 51 = .ok (.aload_n 0, 1) := by decide +kernel
theorem dX7_minimal_52 : decode cX7_minimal 52 = .ok (.getfield 31, 3) := by decide +kernel
theorem dX7_minimal_55 : decode cX7_minimal 55 = .ok (.iload_n 2, 1) := by decide +kernel
theorem dX7_minimal_56 : decode cX7_minimal 56 = .ok (.iconst 0, 1) := by decide +kernel
theorem dX7_minimal_57 : decode cX7_minimal 57 = .ok (.bastore, 1) := by decide +kernel
theorem dX7_minimal_58 : decode cX7_minimal 58 = .ok (.iinc 2 1, 3) := by decide +kernel
theorem dX7_minimal_61 : decode cX7_minimal 61 = .ok (.goto (-42), 3) := by decide +kernel
theorem dX7_minimal_64 : decode cX7_minimal 64 = .ok (.iload_n 1, 1) := by decide +kernel
theorem dX7_minimal_65 : decode cX7_minimal 65 = .ok (.ifCond .eq 7, 3) := by decide +kernel
theorem dX7_minimal_68 : decode cX7_minimal 68 = .ok (.iconst 1, 1) := by decide +kernel
theorem dX7_minimal_69 : decode cX7_minimal 69 = .ok (.goto 4, 3) := by decide +kernel
theorem dX7_minimal_72 : decode cX7_minimal 72 = .ok (.iconst 0, 1) := by decide +kernel
theorem dX7_minimal_73 : decode cX7_minimal 73 = .ok (.ireturn, 1) := by decide +kernel
set_option maxRecDepth 20000 in
theorem ggX7_sets_X7_in : GoodIn wsX7_sets wsX7_in := goodIn_r _ [6] (by decide +kernel) (by decide +kernel)
set_option maxRecDepth 20000 in
theorem gX7_sets_X7_in : GoodIn wsX7_sets (va_wsS RX7 105 yX7_in wsX7_in) := goodIn_app (goodIn_of _ (by decide +kernel)) ggX7_sets_X7_in
set_option maxRecDepth 20000 in
theorem ggX7_sets_X7_isFailing : GoodIn wsX7_sets wsX7_isFailing := goodIn_r _ [10, 1, 11, 12, 13, 14, 5, 15, 16, 17, 18, 19, 20, 21, 22, 23, 24, 25, 26, 27, 28, 29, 30, 31, 32, 33, 34, 35, 36, 37, 38, 39, 40, 41, 42, 43, 44, 45, 46, 3, 4, 6, 47, 48, 49, 50, 51, 52, 53, 54, 55, 56, 57, 58, 59, 60, 61, 62, 63, 64, 65, 66, 67, 68, 69, 2, 70, 71, 72, 73, 74, 75, 76, 77, 78, 79, 80, 81, 82, 83, 84, 85, 86, 87, 88, 89, 90, 91, 92, 93, 94, 95, 96, 97, 98, 99, 100, 101, 102, 103, 104, 105, 106, 107, 108] (by decide +kernel) (by decide +kernel)
set_option maxRecDepth 20000 in
theorem gX7_sets_X7_isFailing : GoodIn wsX7_sets (wsV RX7 162 RX7 yX7_isFailing wsX7_isFailing) := goodIn_app (goodIn_of _ (by decide +kernel)) ggX7_sets_X7_isFailing
theorem dX7_sets_0 : decode cX7_sets 0 = .ok (.iload_n 1, 1) := by decide +kernel
theorem dX7_sets_1 : decode cX7_sets 1 = .ok (.iconst 0, 1) := by decide +kernel
theorem dX7_sets_2 : decode cX7_sets 2 = .ok (.iconst 5, 1) := by decide +kernel
theorem dX7_sets_3 : decode cX7_sets 3 = .ok (.invokestatic 105, 3) := by decide +kernel
theorem dX7_sets_6 : decode cX7_sets 6 = .ok (.ifCond .ne 6, 3) := by decide +kernel
theorem dX7_sets_9 : decode cX7_sets 9 = .ok (.bipush (-3), 2) := by decide +kernel
theorem dX7_sets_11 : decode cX7_sets 11 = .ok (.ireturn, 1) := by decide +kernel
theorem dX7_sets_12 : decode cX7_sets 12 = .ok (.aload_n 0, 1) := by decide +kernel
theorem dX7_sets_13 : decode cX7_sets 13 = .ok (.getfield 35, 3) := by decide +kernel
theorem dX7_sets_16 : decode cX7_sets 16 = .ok (.iconst 0, 1) := by decide +kernel
theorem dX7_sets_17 : decode cX7_sets 17 = .ok (.iaload, 1) := by decide +kernel
theorem dX7_sets_18 : decode cX7_sets 18 = .ok (.ifCond .ne 6, 3) := by decide +kernel
theorem dX7_sets_21 : decode cX7_sets 21 = .ok (.bipush (-4), 2) := by decide +kernel
theorem dX7_sets_23 : decode cX7_sets 23 = .ok (.ireturn, 1) := by decide +kernel
theorem dX7_sets_24 : decode cX7_sets 24 = .ok (.iconst 0, 1) := by decide +kernel
theorem dX7_sets_25 : decode cX7_sets 25 = .ok (.istore_n 2, 1) := by decide +kernel
theorem dX7_sets_26 : decode cX7_sets 26 = .ok (.iconst 0, 1) := by decide +kernel
theorem dX7_sets_27 : decode cX7_sets 27 = .ok (.istore_n 3, 1) := by decide +kernel
theorem dX7_sets_28 : decode cX7_sets 28 = .ok (.iload_n 3, 1) := by decide +kernel
theorem dX7_sets_29 : decode cX7_sets 29 = .ok (.iconst 1, 1) := by decide +kernel
theorem dX7_sets_30 : decode cX7_sets 30 = .ok (.iload_n 1, 1) := by decide +kernel
theorem dX7_sets_31 : decode cX7_sets 31 = .ok (.ishl, 1) := by decide +kernel
theorem dX7_sets_32 : decode cX7_sets 32 = .ok (.if_icmp .ge 29, 3) := by decide +kernel
theorem dX7_sets_35 : decode cX7_sets 35 = .ok (.aload_n 0, 1) := by decide +kernel
theorem dX7_sets_36 : decode cX7_sets 36 = .ok (.iload_n 3, 1) := by decide +kernel
theorem dX7_sets_37 : decode cX7_sets 37 = .ok (.putfield 135, 3) := by decide +kernel
theorem dX7_sets_40 : decode cX7_sets 40 = .ok (.iload_n 2, 1) := by decide +kernel
theorem dX7_sets_41 : decode cX7_sets 41 = .ok (.aload_n 0, 1) := by decide +kernel
theorem dX7_sets_42 : decode cX7_sets 42 = .ok (.invokevirtual 162, 3) := by decide +kernel
theorem dX7_sets_45 : decode cX7_sets 45 = .ok (.ifCond .eq 7, 3) := by decide +kernel
theorem dX7_sets_48 : decode cX7_sets 48 = .ok (.iconst 1, 1) := by decide +kernel
theorem dX7_sets_49 : decode cX7_sets 49 = .ok (.goto 4, 3) := by decide +kernel
theorem dX7_sets_52 : decode cX7_sets 52 = .ok (.iconst 0, 1) := by decide +kernel
theorem dX7_sets_53 : decode cX7_sets 53 = .ok (.iadd, 1) := by decide +kernel
theorem dX7_sets_54 : decode cX7_sets 54 = .ok (.istore_n 2, 1) := by decide +kernel
theorem dX7_sets_55 : decode cX7_sets 55 = .ok (.iinc 3 1, 3) := by decide +kernel
theorem dX7_sets_58 : decode cX7_sets 58 = .ok (.goto (-30), 3) := by decide +kernel
theorem dX7_sets_61 : decode cX7_sets 61 = .ok (.aload_n 0, 1) := by decide +kernel
theorem dX7_sets_62 : decode cX7_sets 62 = .ok (.iconst 0, 1) := by decide +kernel
theorem dX7_sets_63 : decode cX7_sets 63 = .ok (.putfield 135, 3) := by decide +kernel
theorem dX7_sets_66 : decode cX7_sets 66 = .ok (.iload_n 2, 1) := by decide +kernel
theorem dX7_sets_67 : decode cX7_sets 67 = .ok (.ireturn, 1) := by decide +kernel
theorem dX7_count_0 : decode cX7_count 0 = .ok (.iload_n 1, 1) := by decide +kernel
theorem dX7_count_1 : decode cX7_count 1 = .ok (.ifCond .ne 10, 3) := by decide +kernel
theorem dX7_count_4 : decode cX7_count 4 = .ok (.aload_n 0, 1) := by decide +kernel
theorem dX7_count_5 : decode cX7_count 5 = .ok (.getfield 101, 3) := by decide +kernel
theorem dX7_count_8 : decode cX7_count 8 = .ok (.goto 88, 3) := by decide +kernel
theorem dX7_count_11 : decode cX7_count 11 = .ok (.iload_n 1, 1) := by decide +kernel
theorem dX7_count_12 : decode cX7_count 12 = .ok (.iconst 1, 1) := by decide +kernel
theorem dX7_count_13 : decode cX7_count 13 = .ok (.if_icmp .ne 10, 3) := by decide +kernel
theorem dX7_count_16 : decode cX7_count 16 = .ok (.aload_n 0, 1) := by decide +kernel
theorem dX7_count_17 : decode cX7_count 17 = .ok (.getfield 117, 3) := by decide +kernel
theorem dX7_count_20 : decode cX7_count 20 = .ok (.goto 76, 3) := by decide +kernel
theorem dX7_count_23 : decode cX7_count 23 = .ok (.iload_n 1, 1) := by decide +kernel
theorem dX7_count_24 : decode cX7_count 24 = .ok (.iconst 2, 1) := by decide +kernel
theorem dX7_count_25 : decode cX7_count 25 = .ok (.if_icmp .ne 12, 3) := by decide +kernel
theorem dX7_count_28 : decode cX7_count 28 = .ok (.aload_n 0, 1) := by decide +kernel
theorem dX7_count_29 : decode cX7_count 29 = .ok (.getfield 35, 3) := by decide +kernel
theorem dX7_count_32 : decode cX7_count 32 = .ok (.iconst 0, 1) := by decide +kernel
theorem dX7_count_33 : decode cX7_count 33 = .ok (.iaload, 1) := by decide +kernel
theorem dX7_count_34 : decode cX7_count 34 = .ok (.goto 62, 3) := by decide +kernel
theorem dX7_count_37 : decode cX7_count 37 = .ok (.iload_n 1, 1) := by decide +kernel
theorem dX7_count_38 : decode cX7_count 38 = .ok (.iconst 3, 1) := by decide +kernel
theorem dX7_count_39 : decode cX7_count 39 = .ok (.if_icmp .ne 12, 3) := by decide +kernel
theorem dX7_count_42 : decode cX7_count 42 = .ok (.aload_n 0, 1) := by decide +kernel
theorem dX7_count_43 : decode cX7_count 43 = .ok (.getfield 38, 3) := by decide +kernel
theorem dX7_count_46 : decode cX7_count 46 = .ok (.iconst 0, 1) := by decide +kernel
theorem dX7_count_47 : decode cX7_count 47 = .ok (.iaload, 1) := by decide +kernel
theorem dX7_count_48 : decode cX7_count 48 = .ok (.goto 48, 3) := by decide +kernel
theorem dX7_count_51 : decode cX7_count 51 = .ok (.iload_n 1, 1) := by decide +kernel
theorem dX7_count_52 : decode cX7_count 52 = .ok (.iconst 4, 1) := by decide +kernel
theorem dX7_count_53 : decode cX7_count 53 = .ok (.if_icmp .ne 12, 3) := by decide +kernel
theorem dX7_count_56 : decode cX7_count 56 = .ok (.aload_n 0, 1) := by decide +kernel
theorem dX7_count_57 : decode cX7_count 57 = .ok (.getfield 41, 3) := by decide +kernel
theorem dX7_count_60 : decode cX7_count 60 = .ok (.iconst 0, 1) := by decide +kernel
theorem dX7_count_61 : decode cX7_count 61 = .ok (.iaload, 1) := by decide +kernel
theorem dX7_count_62 : decode cX7_count 62 = .ok (.goto 34, 3) := by decide +kernel
theorem dX7_count_65 : decode cX7_count 65 = .ok (.iload_n 1, 1) := by decide +kernel
theorem dX7_count_66 : decode cX7_count 66 = .ok (.iconst 5, 1) := by decide +kernel
theorem dX7_count_67 : decode cX7_count 67 = .ok (.if_icmp .ne 12, 3) := by decide +kernel
theorem dX7_count_70 : decode cX7_count 70 = .ok (.aload_n 0, 1) := by decide +kernel
theorem dX7_count_71 : decode cX7_count 71 = .ok (.getfield 44, 3) := by decide +kernel
theorem dX7_count_74 : decode cX7_count 74 = .ok (.iconst 0, 1) := by decide +kernel
theorem dX7_count_75 : decode cX7_count 75 = .ok (.iaload, 1) := by decide +kernel
theorem dX7_count_76 : decode cX7_count 76 = .ok (.goto 20, 3) := by decide +kernel
theorem dX7_count_79 : decode cX7_count 79 = .ok (.iload_n 1, 1) := by decide +kernel
theorem dX7_count_80 : decode cX7_count 80 = .ok (.bipush 6, 2) := by decide +kernel
theorem dX7_count_82 : decode cX7_count 82 = .ok (.if_icmp .ne 12, 3) := by decide +kernel
theorem dX7_count_85 : decode cX7_count 85 = .ok (.aload_n 0, 1) := by decide +kernel
theorem dX7_count_86 : decode cX7_count 86 = .ok (.getfield 47, 3) := by decide +kernel
theorem dX7_count_89 : decode cX7_count 89 = .ok (.iconst 0, 1) := by decide +kernel
theorem dX7_count_90 : decode cX7_count 90 = .ok (.iaload, 1) := by decide +kernel
theorem dX7_count_91 : decode cX7_count 91 = .ok (.goto 5, 3) := by decide +kernel
theorem dX7_count_94 : decode cX7_count 94 = .ok (.bipush (-2), 2) := by decide +kernel
theorem dX7_count_96 : decode cX7_count 96 = .ok (.ireturn, 1) := by decide +kernel
theorem dJ6_bitCount_0f7a4_0 : decode cJ6_bitCount_0f7a4 0 = .ok (.iload_n 0, 1) := by decide +kernel
theorem dJ6_bitCount_0f7a4_1 : decode cJ6_bitCount_0f7a4 1 = .ok (.iload_n 0, 1) := by decide +kernel
theorem dJ6_bitCount_0f7a4_2 : decode cJ6_bitCount_0f7a4 2 = .ok (.iconst 1, 1) := by decide +kernel
theorem dJ6_bitCount_0f7a4_3 : decode cJ6_bitCount_0f7a4 3 = .ok (.iushr, 1) := by decide +kernel
theorem dJ6_bitCount_0f7a4_4 : decode cJ6_bitCount_0f7a4 4 = .ok (.ldc_w 265, 3) := by decide +kernel
theorem dJ6_bitCount_0f7a4_7 : decode cJ6_bitCount_0f7a4 7 = .ok (.iand, 1) := by decide +kernel
theorem dJ6_bitCount_0f7a4_8 : decode cJ6_bitCount_0f7a4 8 = .ok (.isub, 1) := by decide +kernel
theorem dJ6_bitCount_0f7a4_9 : decode cJ6_bitCount_0f7a4 9 = .ok (.istore_n 0, 1) := by decide +kernel
theorem dJ6_bitCount_0f7a4_10 : decode cJ6_bitCount_0f7a4 10 = .ok (.iload_n 0, 1) := by decide +kernel
theorem dJ6_bitCount_0f7a4_11 : decode cJ6_bitCount_0f7a4 11 = .ok (.ldc_w 266, 3) := by decide +kernel
theorem dJ6_bitCount_0f7a4_14 : decode cJ6_bitCount_0f7a4 14 = .ok (.iand, 1) := by decide +kernel
theorem dJ6_bitCount_0f7a4_15 : decode cJ6_bitCount_0f7a4 15 = .ok (.iload_n 0, 1) := by decide +kernel
theorem dJ6_bitCount_0f7a4_16 : decode cJ6_bitCount_0f7a4 16 = .ok (.iconst 2, 1) := by decide +kernel
theorem dJ6_bitCount_0f7a4_17 : decode cJ6_bitCount_0f7a4 17 = .ok (.iushr, 1) := by decide +kernel
theorem dJ6_bitCount_0f7a4_18 : decode cJ6_bitCount_0f7a4 18 = .ok (.ldc_w 266, 3) := by decide +kernel
theorem dJ6_bitCount_0f7a4_21 : decode cJ6_bitCount_0f7a4 21 = .ok (.iand, 1) := by decide +kernel
theorem dJ6_bitCount_0f7a4_22 : decode cJ6_bitCount_0f7a4 22 = .ok (.iadd, 1) := by decide +kernel
theorem dJ6_bitCount_0f7a4_23 : decode cJ6_bitCount_0f7a4 23 = .ok (.istore_n 0, 1) := by decide +kernel
theorem dJ6_bitCount_0f7a4_24 : decode cJ6_bitCount_0f7a4 24 = .ok (.iload_n 0, 1) := by decide +kernel
theorem dJ6_bitCount_0f7a4_25 : decode cJ6_bitCount_0f7a4 25 = .ok (.iload_n 0, 1) := by decide +kernel
theorem dJ6_bitCount_0f7a4_26 : decode cJ6_bitCount_0f7a4 26 = .ok (.iconst 4, 1) := by decide +kernel
theorem dJ6_bitCount_0f7a4_27 : decode cJ6_bitCount_0f7a4 27 = .ok (.iushr, 1) := by decide +kernel
theorem dJ6_bitCount_0f7a4_28 : decode cJ6_bitCount_0f7a4 28 = .ok (.iadd, 1) := by decide +kernel
theorem dJ6_bitCount_0f7a4_29 : decode cJ6_bitCount_0f7a4 29 = .ok (.ldc_w 267, 3) := by decide +kernel
theorem dJ6_bitCount_0f7a4_32 : decode cJ6_bitCount_0f7a4 32 = .ok (.iand, 1) := by decide +kernel
theorem dJ6_bitCount_0f7a4_33 : decode cJ6_bitCount_0f7a4 33 = .ok (.istore_n 0, 1) := by decide +kernel
theorem dJ6_bitCount_0f7a4_34 : decode cJ6_bitCount_0f7a4 34 = .ok (.iload_n 0, 1) := by decide +kernel
theorem dJ6_bitCount_0f7a4_35 : decode cJ6_bitCount_0f7a4 35 = .ok (.iload_n 0, 1) := by decide +kernel
theorem dJ6_bitCount_0f7a4_36 : decode cJ6_bitCount_0f7a4 36 = .ok (.bipush 8, 2) := by decide +kernel
theorem dJ6_bitCount_0f7a4_38 : decode cJ6_bitCount_0f7a4 38 = .ok (.iushr, 1) := by decide +kernel
theorem dJ6_bitCount_0f7a4_39 : decode cJ6_bitCount_0f7a4 39 = .ok (.iadd, 1) := by decide +kernel
theorem dJ6_bitCount_0f7a4_40 : decode cJ6_bitCount_0f7a4 40 = .ok (.istore_n 0, 1) := by decide +kernel
theorem dJ6_bitCount_0f7a4_41 : decode cJ6_bitCount_0f7a4 41 = .ok (.iload_n 0, 1) := by decide +kernel
theorem dJ6_bitCount_0f7a4_42 : decode cJ6_bitCount_0f7a4 42 = .ok (.iload_n 0, 1) := by decide +kernel
theorem dJ6_bitCount_0f7a4_43 : decode cJ6_bitCount_0f7a4 43 = .ok (.bipush 16, 2) := by decide +kernel
theorem dJ6_bitCount_0f7a4_45 : decode cJ6_bitCount_0f7a4 45 = .ok (.iushr, 1) := by decide +kernel
theorem dJ6_bitCount_0f7a4_46 : decode cJ6_bitCount_0f7a4 46 = .ok (.iadd, 1) := by decide +kernel
theorem dJ6_bitCount_0f7a4_47 : decode cJ6_bitCount_0f7a4 47 = .ok (.istore_n 0, 1) := by decide +kernel
theorem dJ6_bitCount_0f7a4_48 : decode cJ6_bitCount_0f7a4 48 = .ok (.iload_n 0, 1) := by decide +kernel
theorem dJ6_bitCount_0f7a4_49 : decode cJ6_bitCount_0f7a4 49 = .ok (.bipush 63, 2) := by decide +kernel
theorem dJ6_bitCount_0f7a4_51 : decode cJ6_bitCount_0f7a4 51 = .ok (.iand, 1) := by decide +kernel
theorem dJ6_bitCount_0f7a4_52 : decode cJ6_bitCount_0f7a4 52 = .ok (.ireturn, 1) := by decide +kernel
theorem dJ9_max_7cf53_0 : decode cJ9_max_7cf53 0 = .ok (.iload_n 0, 1) := by decide +kernel
theorem dJ9_max_7cf53_1 : decode cJ9_max_7cf53 1 = .ok (.iload_n 1, 1) := by decide +kernel
theorem dJ9_max_7cf53_2 : decode cJ9_max_7cf53 2 = .ok (.if_icmp .lt 7, 3) := by decide +kernel
theorem dJ9_max_7cf53_5 : decode cJ9_max_7cf53 5 = .ok (.iload_n 0, 1) := by decide +kernel
theorem dJ9_max_7cf53_6 : decode cJ9_max_7cf53 6 = .ok (.goto 4, 3) := by decide +kernel
theorem dJ9_max_7cf53_9 : decode cJ9_max_7cf53 9 = .ok (.iload_n 1, 1) := by decide +kernel
theorem dJ9_max_7cf53_10 : decode cJ9_max_7cf53 10 = .ok (.ireturn, 1) := by decide +kernel
theorem dJ9_min_7cf53_0 : decode cJ9_min_7cf53 0 = .ok (.iload_n 0, 1) := by decide +kernel
theorem dJ9_min_7cf53_1 : decode cJ9_min_7cf53 1 = .ok (.iload_n 1, 1) := by decide +kernel
theorem dJ9_min_7cf53_2 : decode cJ9_min_7cf53 2 = .ok (.if_icmp .gt 7, 3) := by decide +kernel
theorem dJ9_min_7cf53_5 : decode cJ9_min_7cf53 5 = .ok (.iload_n 0, 1) := by decide +kernel
theorem dJ9_min_7cf53_6 : decode cJ9_min_7cf53 6 = .ok (.goto 4, 3) := by decide +kernel
theorem dJ9_min_7cf53_9 : decode cJ9_min_7cf53 9 = .ok (.iload_n 1, 1) := by decide +kernel
theorem dJ9_min_7cf53_10 : decode cJ9_min_7cf53 10 = .ok (.ireturn, 1) := by decide +kernel
theorem dJ7_fill_53178_0 : decode cJ7_fill_53178 0 = .ok (.iconst 0, 1) := by decide +kernel
theorem dJ7_fill_53178_1 : decode cJ7_fill_53178 1 = .ok (.istore_n 2, 1) := by decide +kernel
theorem dJ7_fill_53178_2 : decode cJ7_fill_53178 2 = .ok (.aload_n 0, 1) := by decide +kernel
theorem dJ7_fill_53178_3 : decode cJ7_fill_53178 3 = .ok (.arraylength, 1) := by decide +kernel
theorem dJ7_fill_53178_4 : decode cJ7_fill_53178 4 = .ok (.istore_n 3, 1) := by decide +kernel
theorem dJ7_fill_53178_5 : decode cJ7_fill_53178 5 = .ok (.iload_n 2, 1) := by decide +kernel
theorem dJ7_fill_53178_6 : decode cJ7_fill_53178 6 = .ok (.iload_n 3, 1) := by decide +kernel
theorem dJ7_fill_53178_7 : decode cJ7_fill_53178 7 = .ok (.if_icmp .ge 13, 3) := by decide +kernel
theorem dJ7_fill_53178_10 : decode cJ7_fill_53178 10 = .ok (.aload_n 0, 1) := by decide +kernel
theorem dJ7_fill_53178_11 : decode cJ7_fill_53178 11 = .ok (.iload_n 2, 1) := by decide +kernel
theorem dJ7_fill_53178_12 : decode cJ7_fill_53178 12 = .ok (.iload_n 1, 1) := by decide +kernel
theorem dJ7_fill_53178_13 : decode cJ7_fill_53178 13 = .ok (.iastore, 1) := by decide +kernel
theorem dJ7_fill_53178_14 : decode cJ7_fill_53178 14 = .ok (.iinc 2 1, 3) := by decide +kernel
theorem dJ7_fill_53178_17 : decode cJ7_fill_53178 17 = .ok (.goto (-12), 3) := by decide +kernel
theorem dJ7_fill_53178_20 : decode cJ7_fill_53178 20 = .ok (.return_, 1) := by decide +kernel
