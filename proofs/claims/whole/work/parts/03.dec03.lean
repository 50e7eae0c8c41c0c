theorem dX7_behaviour_20 : decode cX7_behaviour 20 = .ok (.bipush (-3), 2) := by decide +kernel
theorem dX7_behaviour_22 : decode cX7_behaviour 22 = .ok (.ireturn, 1) := by decide +kernel
theorem dX7_behaviour_23 : decode cX7_behaviour 23 = .ok (.aload_n 0, 1) := by decide +kernel
theorem dX7_behaviour_24 : decode cX7_behaviour 24 = .ok (.getfield 7, 3) := by decide +kernel
theorem dX7_behaviour_27 : decode cX7_behaviour 27 = .ok (.iload_n 1, 1) := by decide +kernel
theorem dX7_behaviour_28 : decode cX7_behaviour 28 = .ok (.iaload, 1) := by decide +kernel
theorem dX7_behaviour_29 : decode cX7_behaviour 29 = .ok (.istore_n 3, 1) := by decide +kernel
theorem dX7_behaviour_30 : decode cX7_behaviour 30 = .ok (.aload_n 0, 1) := by decide +kernel
theorem dX7_behaviour_31 : decode cX7_behaviour 31 = .ok (.getfield 7, 3) := by decide +kernel
theorem dX7_behaviour_34 : decode cX7_behaviour 34 = .ok (.iload_n 1, 1) := by decide +kernel
theorem dX7_behaviour_35 : decode cX7_behaviour 35 = .ok (.iload_n 2, 1) := by decide +kernel
theorem dX7_behaviour_36 : decode cX7_behaviour 36 = .ok (.iastore, 1) := by decide +kernel
theorem dX7_behaviour_37 : decode cX7_behaviour 37 = .ok (.iload_n 3, 1) := by decide +kernel
theorem dX7_behaviour_38 : decode cX7_behaviour 38 = .ok (.ireturn, 1) := by decide +kernel
set_option maxRecDepth 20000 in
theorem ggX7_delay_X7_isNode : GoodIn wsX7_delay wsX7_isNode := goodIn_r _ [6, 7, 8, 9, 5, 10, 11, 12, 13, 14, 15, 16, 17, 18, 19, 20, 21, 22, 23, 24, 25, 26, 27, 28, 29, 30, 31, 32, 33, 34, 35, 36, 37, 38, 39, 40, 41, 42, 43, 44] (by decide +kernel) (by decide +kernel)
set_option maxRecDepth 20000 in
theorem gX7_delay_X7_isNode : GoodIn wsX7_delay (wsV RX7 109 RX7 yX7_isNode wsX7_isNode) := goodIn_app (goodIn_of _ (by decide +kernel)) ggX7_delay_X7_isNode
set_option maxRecDepth 20000 in
theorem ggX7_delay_X7_in : GoodIn wsX7_delay wsX7_in := goodIn_r _ [10] (by decide +kernel) (by decide +kernel)
set_option maxRecDepth 20000 in
theorem gX7_delay_X7_in : GoodIn wsX7_delay (va_wsS RX7 105 yX7_in wsX7_in) := goodIn_app (goodIn_of _ (by decide +kernel)) ggX7_delay_X7_in
theorem dX7_delay_0 : decode cX7_delay 0 = .ok (.aload_n 0, 1) := by decide +kernel
theorem dX7_delay_1 : decode cX7_delay 1 = .ok (.iload_n 1, 1) := by decide +kernel
theorem dX7_delay_2 : decode cX7_delay 2 = .ok (.invokevirtual 109, 3) := by decide +kernel
theorem dX7_delay_5 : decode cX7_delay 5 = .ok (.ifCond .eq 16, 3) := by decide +kernel
theorem dX7_delay_8 : decode cX7_delay 8 = .ok (.aload_n 0, 1) := by decide +kernel
theorem dX7_delay_9 : decode cX7_delay 9 = .ok (.iload_n 2, 1) := by decide +kernel
theorem dX7_delay_10 : decode cX7_delay 10 = .ok (.invokevirtual 109, 3) := by decide +kernel
theorem dX7_delay_13 : decode cX7_delay 13 = .ok (.ifCond .eq 8, 3) := by decide +kernel
theorem dX7_delay_16 : decode cX7_delay 16 = .ok (.iload_n 1, 1) := by decide +kernel
theorem dX7_delay_17 : decode cX7_delay 17 = .ok (.iload_n 2, 1) := by decide +kernel
theorem dX7_delay_18 : decode cX7_delay 18 = .ok (.if_icmp .ne 6, 3) := by decide +kernel
theorem dX7_delay_21 : decode cX7_delay 21 = .ok (.bipush (-2), 2) := by decide +kernel
theorem dX7_delay_23 : decode cX7_delay 23 = .ok (.ireturn, 1) := by decide +kernel
theorem dX7_delay_24 : decode cX7_delay 24 = .ok (.iload_n 3, 1) := by decide +kernel
theorem dX7_delay_25 : decode cX7_delay 25 = .ok (.iconst 1, 1) := by decide +kernel
theorem dX7_delay_26 : decode cX7_delay 26 = .ok (.iconst 5, 1) := by decide +kernel
theorem dX7_delay_27 : decode cX7_delay 27 = .ok (.invokestatic 105, 3) := by decide +kernel
theorem dX7_delay_30 : decode cX7_delay 30 = .ok (.ifCond .ne 6, 3) := by decide +kernel
theorem dX7_delay_33 : decode cX7_delay 33 = .ok (.bipush (-3), 2) := by decide +kernel
theorem dX7_delay_35 : decode cX7_delay 35 = .ok (.ireturn, 1) := by decide +kernel
theorem dX7_delay_36 : decode cX7_delay 36 = .ok (.aload_n 0, 1) := by decide +kernel
theorem dX7_delay_37 : decode cX7_delay 37 = .ok (.getfield 13, 3) := by decide +kernel
theorem dX7_delay_40 : decode cX7_delay 40 = .ok (.bipush 7, 2) := by decide +kernel
theorem dX7_delay_42 : decode cX7_delay 42 = .ok (.iload_n 1, 1) := by decide +kernel
theorem dX7_delay_43 : decode cX7_delay 43 = .ok (.imul, 1) := by decide +kernel
theorem dX7_delay_44 : decode cX7_delay 44 = .ok (.iload_n 2, 1) := by decide +kernel
theorem dX7_delay_45 : decode cX7_delay 45 = .ok (.iadd, 1) := by decide +kernel
theorem dX7_delay_46 : decode cX7_delay 46 = .ok (.iaload, 1) := by decide +kernel
theorem dX7_delay_47 : decode cX7_delay 47 = .ok (.istore 4, 2) := by decide +kernel
theorem dX7_delay_49 : decode cX7_delay 49 = .ok (.aload_n 0, 1) := by decide +kernel
theorem dX7_delay_50 : decode cX7_delay 50 = .ok (.getfield 13, 3) := by decide +kernel
theorem dX7_delay_53 : decode cX7_delay 53 = .ok (.bipush 7, 2) := by decide +kernel
theorem dX7_delay_55 : decode cX7_delay 55 = .ok (.iload_n 1, 1) := by decide +kernel
theorem dX7_delay_56 : decode cX7_delay 56 = .ok (.imul, 1) := by decide +kernel
theorem dX7_delay_57 : decode cX7_delay 57 = .ok (.iload_n 2, 1) := by decide +kernel
theorem dX7_delay_58 : decode cX7_delay 58 = .ok (.iadd, 1) := by decide +kernel
theorem dX7_delay_59 : decode cX7_delay 59 = .ok (.iload_n 3, 1) := by decide +kernel
theorem dX7_delay_60 : decode cX7_delay 60 = .ok (.iastore, 1) := by decide +kernel
theorem dX7_delay_61 : decode cX7_delay 61 = .ok (.iload 4, 2) := by decide +kernel
theorem dX7_delay_63 : decode cX7_delay 63 = .ok (.ireturn, 1) := by decide +kernel
theorem dX7_bits_0 : decode cX7_bits 0 = .ok (.iconst 0, 1) := by decide +kernel
theorem dX7_bits_1 : decode cX7_bits 1 = .ok (.istore_n 1, 1) := by decide +kernel
theorem dX7_bits_2 : decode cX7_bits 2 = .ok (.iconst 0, 1) := by decide +kernel
theorem dX7_bits_3 : decode cX7_bits 3 = .ok (.istore_n 2, 1) := by decide +kernel
theorem dX7_bits_4 : decode cX7_bits 4 = .ok (.iload_n 2, 1) := by decide +kernel
theorem dX7_bits_5 : decode cX7_bits 5 = .ok (.bipush 8, 2) := by decide +kernel
theorem dX7_bits_7 : decode cX7_bits 7 = .ok (.if_icmp .ge 17, 3) := by decide +kernel
theorem dX7_bits_10 : decode cX7_bits 10 = .ok (.iload_n 1, 1) := by decide +kernel
theorem dX7_bits_11 : decode cX7_bits 11 = .ok (.iload_n 0, 1) := by decide +kernel
theorem dX7_bits_12 : decode cX7_bits 12 = .ok (.iload_n 2, 1) := by decide +kernel
theorem dX7_bits_13 : decode cX7_bits 13 = .ok (.ishr, 1) := by decide +kernel
theorem dX7_bits_14 : decode cX7_bits 14 = .ok (.iconst 1, 1) := by decide +kernel
theorem dX7_bits_15 : decode cX7_bits 15 = .ok (.iand, 1) := by decide +kernel
theorem dX7_bits_16 : decode cX7_bits 16 = .ok (.iadd, 1) := by decide +kernel
theorem dX7_bits_17 : decode cX7_bits 17 = .ok (.istore_n 1, 1) := by decide +kernel
theorem dX7_bits_18 : decode cX7_bits 18 = .ok (.iinc 2 1, 3) := by decide +kernel
theorem dX7_bits_21 : decode cX7_bits 21 = .ok (.goto (-17), 3) := by decide +kernel
theorem dX7_bits_24 : decode cX7_bits 24 = .ok (.iload_n 1, 1) := by decide +kernel
theorem dX7_bits_25 : decode cX7_bits 25 = .ok (.ireturn, 1) := by decide +kernel
set_option maxRecDepth 20000 in
theorem ggX7_tell_X7_isNode : GoodIn wsX7_tell wsX7_isNode := goodIn_r _ [6, 7, 8, 9, 5, 10, 14, 15, 16, 17, 18, 19, 20, 21, 22, 23, 24, 25, 26, 27, 28, 29, 30, 31, 32, 33, 34, 35, 36, 37, 38, 39, 40, 41, 42, 43, 44, 45, 46, 47] (by decide +kernel) (by decide +kernel)
set_option maxRecDepth 20000 in
theorem gX7_tell_X7_isNode : GoodIn wsX7_tell (wsV RX7 109 RX7 yX7_isNode wsX7_isNode) := goodIn_app (goodIn_of _ (by decide +kernel)) ggX7_tell_X7_isNode
set_option maxRecDepth 20000 in
theorem ggX7_tell_X7_in : GoodIn wsX7_tell wsX7_in := goodIn_r _ [10] (by decide +kernel) (by decide +kernel)
set_option maxRecDepth 20000 in
theorem gX7_tell_X7_in : GoodIn wsX7_tell (va_wsS RX7 105 yX7_in wsX7_in) := goodIn_app (goodIn_of _ (by decide +kernel)) ggX7_tell_X7_in
set_option maxRecDepth 20000 in
theorem ggX7_tell_X7_bits : GoodIn wsX7_tell wsX7_bits := goodIn_r _ [13] (by decide +kernel) (by decide +kernel)
set_option maxRecDepth 20000 in
theorem gX7_tell_X7_bits : GoodIn wsX7_tell (va_wsS RX7 113 yX7_bits wsX7_bits) := goodIn_app (goodIn_of _ (by decide +kernel)) ggX7_tell_X7_bits
theorem dX7_tell_0 : decode cX7_tell 0 = .ok (.aload_n 0, 1) := by decide +kernel
theorem dX7_tell_1 : decode cX7_tell 1 = .ok (.iload_n 1, 1) := by decide +kernel
theorem dX7_tell_2 : decode cX7_tell 2 = .ok (.invokevirtual 109, 3) := by decide +kernel
theorem dX7_tell_5 : decode cX7_tell 5 = .ok (.ifCond .eq 13, 3) := by decide +kernel
theorem dX7_tell_8 : decode cX7_tell 8 = .ok (.iload_n 2, 1) := by decide +kernel
theorem dX7_tell_9 : decode cX7_tell 9 = .ok (.iconst 0, 1) := by decide +kernel
theorem dX7_tell_10 : decode cX7_tell 10 = .ok (.bipush 7, 2) := by decide +kernel
theorem dX7_tell_12 : decode cX7_tell 12 = .ok (.invokestatic 105, 3) := by decide +kernel
theorem dX7_tell_15 : decode cX7_tell 15 = .ok (.ifCond .ne 6, 3) := by decide +kernel
theorem dX7_tell_18 : decode cX7_tell 18 = .ok (.bipush (-2), 2) := by decide +kernel
theorem dX7_tell_20 : decode cX7_tell 20 = .ok (.ireturn, 1) := by decide +kernel
theorem dX7_tell_21 : decode cX7_tell 21 = .ok (.aload_n 0, 1) := by decide +kernel
theorem dX7_tell_22 : decode cX7_tell 22 = .ok (.getfield 16, 3) := by decide +kernel
theorem dX7_tell_25 : decode cX7_tell 25 = .ok (.iload_n 1, 1) := by decide +kernel
theorem dX7_tell_26 : decode cX7_tell 26 = .ok (.dup2, 1) := by decide +kernel
theorem dX7_tell_27 : decode cX7_tell 27 = .ok (.iaload, 1) := by decide +kernel
theorem dX7_tell_28 : decode cX7_tell 28 = .ok (.iconst 1, 1) := by decide +kernel
theorem dX7_tell_29 : decode cX7_tell 29 = .ok (.iload_n 2, 1) := by decide +kernel
theorem dX7_tell_30 : decode cX7_tell 30 = .ok (.ishl, 1) := by decide +kernel
theorem dX7_tell_31 : decode cX7_tell 31 = .ok (.ior, 1) := by decide +kernel
theorem dX7_tell_32 : decode cX7_tell 32 = .ok (.iastore, 1) := by decide +kernel
theorem dX7_tell_33 : decode cX7_tell 33 = .ok (.aload_n 0, 1) := by decide +kernel
theorem dX7_tell_34 : decode cX7_tell 34 = .ok (.getfield 16, 3) := by decide +kernel
theorem dX7_tell_37 : decode cX7_tell 37 = .ok (.iload_n 1, 1) := by decide +kernel
theorem dX7_tell_38 : decode cX7_tell 38 = .ok (.iaload, 1) := by decide +kernel
theorem dX7_tell_39 : decode cX7_tell 39 = .ok (.invokestatic 113, 3) := by decide +kernel
theorem dX7_tell_42 : decode cX7_tell 42 = .ok (.ireturn, 1) := by decide +kernel
set_option maxRecDepth 20000 in
theorem ggX7_event_X7_in : GoodIn wsX7_event wsX7_in := goodIn_r _ [10] (by decide +kernel) (by decide +kernel)
set_option maxRecDepth 20000 in
theorem gX7_event_X7_in : GoodIn wsX7_event (va_wsS RX7 105 yX7_in wsX7_in) := goodIn_app (goodIn_of _ (by decide +kernel)) ggX7_event_X7_in
set_option maxRecDepth 20000 in
theorem ggX7_event_X7_isNode : GoodIn wsX7_event wsX7_isNode := goodIn_r _ [14, 1, 7, 8, 9, 10, 15, 16, 17, 18, 19, 20, 21, 22, 23, 24, 25, 26, 27, 28, 29, 30, 31, 32, 33, 34, 35, 36, 37, 38, 39, 40, 41, 42, 43, 44, 45, 46, 47, 48] (by decide +kernel) (by decide +kernel)
set_option maxRecDepth 20000 in
theorem gX7_event_X7_isNode : GoodIn wsX7_event (wsV RX7 109 RX7 yX7_isNode wsX7_isNode) := goodIn_app (goodIn_of _ (by decide +kernel)) ggX7_event_X7_isNode
theorem dX7_event_0 : decode cX7_event 0 = .ok (.iload_n 1, 1) := by decide +kernel
theorem dX7_event_1 : decode cX7_event 1 = .ok (.iconst 0, 1) := by decide +kernel
theorem dX7_event_2 : decode cX7_event 2 = .ok (.bipush 6, 2) := by decide +kernel
theorem dX7_event_4 : decode cX7_event 4 = .ok (.invokestatic 105, 3) := by decide +kernel
theorem dX7_event_7 : decode cX7_event 7 = .ok (.ifCond .eq 21, 3) := by decide +kernel
theorem dX7_event_10 : decode cX7_event 10 = .ok (.iload_n 1, 1) := by decide +kernel
theorem dX7_event_11 : decode cX7_event 11 = .ok (.iconst 2, 1) := by decide +kernel
theorem dX7_event_12 : decode cX7_event 12 = .ok (.if_icmp .eq 8, 3) := by decide +kernel
theorem dX7_event_15 : decode cX7_event 15 = .ok (.iload_n 1, 1) := by decide +kernel
theorem dX7_event_16 : decode cX7_event 16 = .ok (.iconst 3, 1) := by decide +kernel
theorem dX7_event_17 : decode cX7_event 17 = .ok (.if_icmp .ne 14, 3) := by decide +kernel
theorem dX7_event_20 : decode cX7_event 20 = .ok (.aload_n 0, 1) := by decide +kernel
theorem dX7_event_21 : decode cX7_event 21 = .ok (.iload_n 3, 1) := by decide +kernel
theorem dX7_event_22 : decode cX7_event 22 = .ok (.invokevirtual 109, 3) := by decide +kernel
theorem dX7_event_25 : decode cX7_event 25 = .ok (.ifCond .ne 6, 3) := by decide +kernel
theorem dX7_event_28 : decode cX7_event 28 = .ok (.bipush (-2), 2) := by decide +kernel
theorem dX7_event_30 : decode cX7_event 30 = .ok (.ireturn, 1) := by decide +kernel
theorem dX7_event_31 : decode cX7_event 31 = .ok (.iload_n 1, 1) := by decide +kernel
theorem dX7_event_32 : decode cX7_event 32 = .ok (.iconst 4, 1) := by decide +kernel
theorem dX7_event_33 : decode cX7_event 33 = .ok (.if_icmp .ge 13, 3) := by decide +kernel
theorem dX7_event_36 : decode cX7_event 36 = .ok (.iload_n 2, 1) := by decide +kernel
theorem dX7_event_37 : decode cX7_event 37 = .ok (.iconst 0, 1) := by decide +kernel
theorem dX7_event_38 : decode cX7_event 38 = .ok (.bipush 39, 2) := by decide +kernel
theorem dX7_event_40 : decode cX7_event 40 = .ok (.invokestatic 105, 3) := by decide +kernel
theorem dX7_event_43 : decode cX7_event 43 = .ok (.ifCond .eq 54, 3) := by decide +kernel
theorem dX7_event_46 : decode cX7_event 46 = .ok (.iload_n 1, 1) := by decide +kernel
theorem dX7_event_47 : decode cX7_event 47 = .ok (.ifCond .ne 19, 3) := by decide +kernel
theorem dX7_event_50 : decode cX7_event 50 = .ok (.iload_n 3, 1) := by decide +kernel
theorem dX7_event_51 : decode cX7_event 51 = .ok (.iconst 0, 1) := by decide +kernel
theorem dX7_event_52 : decode cX7_event 52 = .ok (.iconst 1, 1) := by decide +kernel
theorem dX7_event_53 : decode cX7_event 53 = .ok (.aload_n 0, 1) := by decide +kernel
theorem dX7_event_54 : decode cX7_event 54 = .ok (.getfield 101, 3) := by decide +kernel
theorem dX7_event_57 : decode cX7_event 57 = .ok (.ishl, 1) := by decide +kernel
theorem dX7_event_58 : decode cX7_event 58 = .ok (.iconst 1, 1) := by decide +kernel
theorem dX7_event_59 : decode cX7_event 59 = .ok (.isub, 1) := by decide +kernel
theorem dX7_event_60 : decode cX7_event 60 = .ok (.invokestatic 105, 3) := by decide +kernel
theorem dX7_event_63 : decode cX7_event 63 = .ok (.ifCond .eq 34, 3) := by decide +kernel
theorem dX7_event_66 : decode cX7_event 66 = .ok (.iload_n 1, 1) := by decide +kernel
theorem dX7_event_67 : decode cX7_event 67 = .ok (.iconst 3, 1) := by decide +kernel
theorem dX7_event_68 : decode cX7_event 68 = .ok (.if_icmp .le 14, 3) := by decide +kernel
theorem dX7_event_71 : decode cX7_event 71 = .ok (.iload_n 3, 1) := by decide +kernel
theorem dX7_event_72 : decode cX7_event 72 = .ok (.iconst 0, 1) := by decide +kernel
theorem dX7_event_73 : decode cX7_event 73 = .ok (.sipush 1199, 3) := by decide +kernel
theorem dX7_event_76 : decode cX7_event 76 = .ok (.invokestatic 105, 3) := by decide +kernel
theorem dX7_event_79 : decode cX7_event 79 = .ok (.ifCond .eq 18, 3) := by decide +kernel
theorem dX7_event_82 : decode cX7_event 82 = .ok (.iload_n 1, 1) := by decide +kernel
theorem dX7_event_83 : decode cX7_event 83 = .ok (.iconst 4, 1) := by decide +kernel
theorem dX7_event_84 : decode cX7_event 84 = .ok (.if_icmp .le 16, 3) := by decide +kernel
theorem dX7_event_87 : decode cX7_event 87 = .ok (.iload 4, 2) := by decide +kernel
theorem dX7_event_89 : decode cX7_event 89 = .ok (.iconst 1, 1) := by decide +kernel
theorem dX7_event_90 : decode cX7_event 90 = .ok (.iconst 5, 1) := by decide +kernel
theorem dX7_event_91 : decode cX7_event 91 = .ok (.invokestatic 105, 3) := by decide +kernel
theorem dX7_event_94 : decode cX7_event 94 = .ok (.ifCond .ne 6, 3) := by decide +kernel
theorem dX7_event_97 : decode cX7_event 97 = .ok (.bipush (-3), 2) := by decide +kernel
theorem dX7_event_99 : decode cX7_event 99 = .ok (.ireturn, 1) := by decide +kernel
theorem dX7_event_100 : decode cX7_event 100 = .ok (.aload_n 0, 1) := by decide +kernel
theorem dX7_event_101 : decode cX7_event 101 = .ok (.getfield 117, 3) := by decide +kernel
theorem dX7_event_104 : decode cX7_event 104 = .ok (.bipush 20, 2) := by decide +kernel
theorem dX7_event_106 : decode cX7_event 106 = .ok (.if_icmp .ne 6, 3) := by decide +kernel
theorem dX7_event_109 : decode cX7_event 109 = .ok (.bipush (-5), 2) := by decide +kernel
theorem dX7_event_111 : decode cX7_event 111 = .ok (.ireturn, 1) := by decide +kernel
theorem dX7_event_112 : decode cX7_event 112 = .ok (.aload_n 0, 1) := by decide +kernel
theorem dX7_event_113 : decode cX7_event 113 = .ok (.getfield 19, 3) := by decide +kernel
theorem dX7_event_116 : decode cX7_event 116 = .ok (.aload_n 0, 1) := by decide +kernel
theorem dX7_event_117 : decode cX7_event 117 = .ok (.getfield 117, 3) := by decide +kernel
theorem dX7_event_120 : decode cX7_event 120 = .ok (.iload_n 1, 1) := by decide +kernel
theorem dX7_event_121 : decode cX7_event 121 = .ok (.iastore, 1) := by decide +kernel
theorem dX7_event_122 : decode cX7_event 122 = .ok (.aload_n 0, 1) := by decide +kernel
theorem dX7_event_123 : decode cX7_event 123 = .ok (.getfield 22, 3) := by decide +kernel
theorem dX7_event_126 : decode cX7_event 126 = .ok (.aload_n 0, 1) := by decide +kernel
theorem dX7_event_127 : decode cX7_event 127 = .ok (.getfield 117, 3) := by decide +kernel
theorem dX7_event_130 : decode cX7_event 130 = .ok (.iload_n 1, 1) := by decide +kernel
theorem dX7_event_131 : decode cX7_event 131 = .ok (.iconst 4, 1) := by decide +kernel
theorem dX7_event_132 : decode cX7_event 132 = .ok (.if_icmp .ge 7, 3) := by decide +kernel
theorem dX7_event_135 : decode cX7_event 135 = .ok (.iload_n 2, 1) := by decide +kernel
theorem dX7_event_136 : decode cX7_event 136 = .ok (.goto 4, 3) := by decide +kernel
theorem dX7_event_139 : decode cX7_event 139 = .ok (.iconst 0, 1) := by decide +kernel
theorem dX7_event_140 : decode cX7_event 140 = .ok (.iastore, 1) := by decide +kernel
theorem dX7_event_141 : decode cX7_event 141 = .ok (.aload_n 0, 1) := by decide +kernel
theorem dX7_event_142 : decode cX7_event 142 = .ok (.getfield 25, 3) := by decide +kernel
theorem dX7_event_145 : decode cX7_event 145 = .ok (.aload_n 0, 1) := by decide +kernel
theorem dX7_event_146 : decode cX7_event 146 = .ok (.getfield 117, 3) := by decide +kernel
theorem dX7_event_149 : decode cX7_event 149 = .ok (.iload_n 1, 1) := by decide +kernel
theorem dX7_event_150 : decode cX7_event 150 = .ok (.iconst 1, 1) := by decide +kernel
theorem dX7_event_151 : decode cX7_event 151 = .ok (.if_icmp .ne 7, 3) := by decide +kernel
theorem dX7_event_154 : decode cX7_event 154 = .ok (.iconst 0, 1) := by decide +kernel
theorem dX7_event_155 : decode cX7_event 155 = .ok (.goto 4, 3) := by decide +kernel
theorem dX7_event_158 : decode cX7_event 158 = .ok (.iload_n 3, 1) := by decide +kernel
theorem dX7_event_159 : decode cX7_event 159 = .ok (.iastore, 1) := by decide +kernel
theorem dX7_event_160 : decode cX7_event 160 = .ok (.aload_n 0, 1) := by decide +kernel
theorem dX7_event_161 : decode cX7_event 161 = .ok (.getfield 28, 3) := by decide +kernel
theorem dX7_event_164 : decode cX7_event 164 = .ok (.aload_n 0, 1) := by decide +kernel
theorem dX7_event_165 : decode cX7_event 165 = .ok (.getfield 117, 3) := by decide +kernel
theorem dX7_event_168 : decode cX7_event 168 = .ok (.iload_n 1, 1) := by decide +kernel
theorem dX7_event_169 : decode cX7_event 169 = .ok (.iconst 4, 1) := by decide +kernel
theorem dX7_event_170 : decode cX7_event 170 = .ok (.if_icmp .le 8, 3) := by decide +kernel
theorem dX7_event_173 : decode cX7_event 173 = .ok (.iload 4, 2) := by decide +kernel
theorem dX7_event_175 : decode cX7_event 175 = .ok (.goto 4, 3) := by decide +kernel
theorem dX7_event_178 : decode cX7_event 178 = .ok (.iconst 0, 1) := by decide +kernel
theorem dX7_event_179 : decode cX7_event 179 = .ok (.iastore, 1) := by decide +kernel
theorem dX7_event_180 : decode cX7_event 180 = .ok (.aload_n 0, 1) := by decide +kernel
theorem dX7_event_181 : decode cX7_event 181 = .ok (.dup, 1) := by decide +kernel
theorem dX7_event_182 : decode cX7_event 182 = .ok (.getfield 117, 3) := by decide +kernel
theorem dX7_event_185 : decode cX7_event 185 = .ok (.iconst 1, 1) := by decide +kernel
theorem dX7_event_186 : decode cX7_event 186 = .ok (.iadd, 1) := by decide +kernel
theorem dX7_event_187 : decode cX7_event 187 = .ok (.putfield 117, 3) := by decide +kernel
theorem dX7_event_190 : decode cX7_event 190 = .ok (.aload_n 0, 1) := by decide +kernel
theorem dX7_event_191 : decode cX7_event 191 = .ok (.getfield 117, 3) := by decide +kernel
theorem dX7_event_194 : decode cX7_event 194 = .ok (.iconst 1, 1) := by decide +kernel
theorem dX7_event_195 : decode cX7_event 195 = .ok (.isub, 1) := by decide +kernel
theorem dX7_event_196 : decode cX7_event 196 = .ok (.ireturn, 1) := by decide +kernel
theorem dX7_remove_0 : decode cX7_remove 0 = .ok (.iload_n 1, 1) := by decide +kernel
theorem dX7_remove_1 : decode cX7_remove 1 = .ok (.istore_n 2, 1) := by decide +kernel
theorem dX7_remove_2 : decode cX7_remove 2 = .ok (.iload_n 2, 1) := by decide +kernel
theorem dX7_remove_3 : decode cX7_remove 3 = .ok (.iconst 1, 1) := by decide +kernel
theorem dX7_remove_4 : decode cX7_remove 4 = .ok (.iadd, 1) := by decide +kernel
theorem dX7_remove_5 : decode cX7_remove 5 = .ok (.aload_n 0, 1) := by decide +kernel
theorem dX7_remove_6 : decode cX7_remove 6 = .ok (.getfield 117, 3) := by decide +kernel
theorem dX7_remove_9 : decode cX7_remove 9 = .ok (.if_icmp .ge 65, 3) := by decide +kernel
theorem dX7_remove_12 : decode cX7_remove 12 = .ok (.aload_n 0, 1) := by decide +kernel
theorem dX7_remove_13 : decode cX7_remove 13 = .ok (.getfield 19, 3) := by decide +kernel
theorem dX7_remove_16 : decode cX7_remove 16 = .ok (.iload_n 2, 1) := by decide +kernel
theorem dX7_remove_17 : decode cX7_remove 17 = .ok (.aload_n 0, 1) := by decide +kernel
theorem dX7_remove_18 : decode cX7_remove 18 = .ok (.getfield 19, 3) := by decide +kernel
theorem dX7_remove_21 : decode cX7_remove 21 = .ok (.iload_n 2, 1) := by decide +kernel
theorem dX7_remove_22 : decode cX7_remove 22 = .ok (.iconst 1, 1) := by decide +kernel
theorem dX7_remove_23 : decode cX7_remove 23 = .ok (.iadd, 1) := by decide +kernel
theorem dX7_remove_24 : decode cX7_remove 24 = .ok (.iaload, 1) := by decide +kernel
theorem dX7_remove_25 : decode cX7_remove 25 = .ok (.iastore, 1) := by decide +kernel
theorem dX7_remove_26 : decode cX7_remove 26 = .ok (.aload_n 0, 1) := by decide +kernel
theorem dX7_remove_27 : decode cX7_remove 27 = .ok (.getfield 22, 3) := by decide +kernel
theorem dX7_remove_30 : decode cX7_remove 30 = .ok (.iload_n 2, 1) := by decide +kernel
theorem dX7_remove_31 : decode cX7_remove 31 = .ok (.aload_n 0, 1) := by decide +kernel
theorem dX7_remove_32 : decode cX7_remove 32 = .ok (.getfield 22, 3) := by decide +kernel
theorem dX7_remove_35 : decode cX7_remove 35 = .ok (.iload_n 2, 1) := by decide +kernel
theorem dX7_remove_36 : decode cX7_remove 36 = .ok (.iconst 1, 1) := by decide +kernel
theorem dX7_remove_37 : decode cX7_remove 37 = .ok (.iadd, 1) := by decide +kernel
theorem dX7_remove_38 : decode cX7_remove 38 = .ok (.iaload, 1) := by decide +kernel
theorem dX7_remove_39 : decode cX7_remove 39 = .ok (.iastore, 1) := by decide +kernel
theorem dX7_remove_40 : decode cX7_remove 40 = .ok (.aload_n 0, 1) := by decide +kernel
theorem dX7_remove_41 : decode cX7_remove 41 = .ok (.getfield 25, 3) := by decide +kernel
theorem dX7_remove_44 : decode cX7_remove 44 = .ok (.iload_n 2, 1) := by decide +kernel
theorem dX7_remove_45 : decode cX7_remove 45 = .ok (.aload_n 0, 1) := by decide +kernel
theorem dX7_remove_46 : decode cX7_remove 46 = .ok (.getfield 25, 3) := by decide +kernel
theorem dX7_remove_49 : decode cX7_remove 49 = .ok (.iload_n 2, 1) := by decide +kernel
theorem dX7_remove_50 : decode cX7_remove 50 = .ok (.iconst 1, 1) := by decide +kernel
theorem dX7_remove_51 : decode cX7_remove 51 = .ok (.iadd, 1) := by decide +kernel
theorem dX7_remove_52 : decode cX7_remove 52 = .ok (.iaload, 1) := by decide +kernel
theorem dX7_remove_53 : decode cX7_remove 53 = .ok (.iastore, 1) := by decide +kernel
theorem dX7_remove_54 : decode cX7_remove 54 = .ok (.aload_n 0, 1) := by decide +kernel
theorem dX7_remove_55 : decode cX7_remove 55 = .ok (.getfield 28, 3) := by decide +kernel
theorem dX7_remove_58 : decode cX7_remove 58 = .ok (.iload_n 2, 1) := by decide +kernel
theorem dX7_remove_59 : decode cX7_remove 59 = .ok (.aload_n 0, 1) := by decide +kernel
theorem dX7_remove_60 : decode cX7_remove 60 = .ok (.getfield 28, 3) := by decide +kernel
theorem dX7_remove_63 : decode cX7_remove 63 = .ok (.iload_n 2, 1) := by decide +kernel
theorem dX7_remove_64 : decode cX7_remove 64 = .ok (.iconst 1, 1) := by decide +kernel
theorem dX7_remove_65 : decode cX7_remove 65 = .ok (.iadd, 1) := by decide +kernel
theorem dX7_remove_66 : decode cX7_remove 66 = .ok (.iaload, 1) := by decide +kernel
theorem dX7_remove_67 : decode cX7_remove 67 = .ok (.iastore, 1) := by decide +kernel
theorem dX7_remove_68 : decode cX7_remove 68 = .ok (.iinc 2 1, 3) := by decide +kernel
theorem dX7_remove_71 : decode cX7_remove 71 = .ok (.goto (-69), 3) := by decide +kernel
theorem dX7_remove_74 : decode cX7_remove 74 = .ok (.aload_n 0, 1) := by decide +kernel
theorem dX7_remove_75 : decode cX7_remove 75 = .ok (.dup, 1) := by decide +kernel
theorem dX7_remove_76 : decode cX7_remove 76 = .ok (.getfield 117, 3) := by decide +kernel
theorem dX7_remove_79 : decode cX7_remove 79 = .ok (.iconst 1, 1) := by decide +kernel
theorem dX7_remove_80 : decode cX7_remove 80 = .ok (.isub, 1) := by decide +kernel
theorem dX7_remove_81 : decode cX7_remove 81 = .ok (.putfield 117, 3) := by decide +kernel
theorem dX7_remove_84 : decode cX7_remove 84 = .ok (.return_, 1) := by decide +kernel
set_option maxRecDepth 20000 in
theorem ggX7_drop_X7_in : GoodIn wsX7_drop wsX7_in := goodIn_r _ [5] (by decide +kernel) (by decide +kernel)
set_option maxRecDepth 20000 in
theorem gX7_drop_X7_in : GoodIn wsX7_drop (va_wsS RX7 105 yX7_in wsX7_in) := goodIn_app (goodIn_of _ (by decide +kernel)) ggX7_drop_X7_in
set_option maxRecDepth 20000 in
theorem ggX7_drop_X7_remove : GoodIn wsX7_drop wsX7_remove := goodIn_r _ [9, 1, 10, 11, 12, 13, 14, 15, 16, 17, 18, 19, 20, 21, 22, 23, 24, 25, 26, 27, 28, 29, 30, 31, 32, 33, 34, 35, 36, 37, 38, 39, 40, 41, 42, 43, 44, 45, 46, 47] (by decide +kernel) (by decide +kernel)
set_option maxRecDepth 20000 in
theorem gX7_drop_X7_remove : GoodIn wsX7_drop (wsV RX7 120 RX7 yX7_remove wsX7_remove) := goodIn_app (goodIn_of _ (by decide +kernel)) ggX7_drop_X7_remove
theorem dX7_drop_0 : decode cX7_drop 0 = .ok (.iload_n 1, 1) := by decide +kernel
theorem dX7_drop_1 : decode cX7_drop 1 = .ok (.iconst 0, 1) := by decide +kernel
theorem dX7_drop_2 : decode cX7_drop 2 = .ok (.aload_n 0, 1) := by decide +kernel
theorem dX7_drop_3 : decode cX7_drop 3 = .ok (.getfield 117, 3) := by decide +kernel
theorem dX7_drop_6 : decode cX7_drop 6 = .ok (.iconst 1, 1) := by decide +kernel
theorem dX7_drop_7 : decode cX7_drop 7 = .ok (.isub, 1) := by decide +kernel
theorem dX7_drop_8 : decode cX7_drop 8 = .ok (.invokestatic 105, 3) := by decide +kernel
theorem dX7_drop_11 : decode cX7_drop 11 = .ok (.ifCond .ne 6, 3) := by decide +kernel
theorem dX7_drop_14 : decode cX7_drop 14 = .ok (.bipush (-2), 2) := by decide +kernel
theorem dX7_drop_16 : decode cX7_drop 16 = .ok (.ireturn, 1) := by decide +kernel
theorem dX7_drop_17 : decode cX7_drop 17 = .ok (.aload_n 0, 1) := by decide +kernel
theorem dX7_drop_18 : decode cX7_drop 18 = .ok (.iload_n 1, 1) := by decide +kernel
theorem dX7_drop_19 : decode cX7_drop 19 = .ok (.invokevirtual 120, 3) := by decide +kernel
theorem dX7_drop_22 : decode cX7_drop 22 = .ok (.aload_n 0, 1) := by decide +kernel
theorem dX7_drop_23 : decode cX7_drop 23 = .ok (.getfield 117, 3) := by decide +kernel
theorem dX7_drop_26 : decode cX7_drop 26 = .ok (.ireturn, 1) := by decide +kernel
set_option maxRecDepth 20000 in
theorem ggX7_told_X7_in : GoodIn wsX7_told wsX7_in := goodIn_r _ [9] (by decide +kernel) (by decide +kernel)
set_option maxRecDepth 20000 in
theorem gX7_told_X7_in : GoodIn wsX7_told (va_wsS RX7 105 yX7_in wsX7_in) := goodIn_app (goodIn_of _ (by decide +kernel)) ggX7_told_X7_in
theorem dX7_told_0 : decode cX7_told 0 = .ok (.iload_n 1, 1) := by decide +kernel
theorem dX7_told_1 : decode cX7_told 1 = .ok (.iconst 0, 1) := by decide +kernel
theorem dX7_told_2 : decode cX7_told 2 = .ok (.aload_n 0, 1) := by decide +kernel
theorem dX7_told_3 : decode cX7_told 3 = .ok (.getfield 117, 3) := by decide +kernel
theorem dX7_told_6 : decode cX7_told 6 = .ok (.iconst 1, 1) := by decide +kernel
theorem dX7_told_7 : decode cX7_told 7 = .ok (.isub, 1) := by decide +kernel
theorem dX7_told_8 : decode cX7_told 8 = .ok (.invokestatic 105, 3) := by decide +kernel
theorem dX7_told_11 : decode cX7_told 11 = .ok (.ifCond .eq 12, 3) := by decide +kernel
theorem dX7_told_14 : decode cX7_told 14 = .ok (.iload_n 2, 1) := by decide +kernel
theorem dX7_told_15 : decode cX7_told 15 = .ok (.iconst 0, 1) := by decide +kernel
theorem dX7_told_16 : decode cX7_told 16 = .ok (.iconst 3, 1) := by decide +kernel
theorem dX7_told_17 : decode cX7_told 17 = .ok (.invokestatic 105, 3) := by decide +kernel
theorem dX7_told_20 : decode cX7_told 20 = .ok (.ifCond .ne 6, 3) := by decide +kernel
theorem dX7_told_23 : decode cX7_told 23 = .ok (.bipush (-2), 2) := by decide +kernel
theorem dX7_told_25 : decode cX7_told 25 = .ok (.ireturn, 1) := by decide +kernel
theorem dX7_told_26 : decode cX7_told 26 = .ok (.iload_n 2, 1) := by decide +kernel
theorem dX7_told_27 : decode cX7_told 27 = .ok (.ifCond .ne 12, 3) := by decide +kernel
theorem dX7_told_30 : decode cX7_told 30 = .ok (.aload_n 0, 1) := by decide +kernel
theorem dX7_told_31 : decode cX7_told 31 = .ok (.getfield 19, 3) := by decide +kernel
theorem dX7_told_34 : decode cX7_told 34 = .ok (.iload_n 1, 1) := by decide +kernel
theorem dX7_told_35 : decode cX7_told 35 = .ok (.iaload, 1) := by decide +kernel
theorem dX7_told_36 : decode cX7_told 36 = .ok (.goto 37, 3) := by decide +kernel
theorem dX7_told_39 : decode cX7_told 39 = .ok (.iload_n 2, 1) := by decide +kernel
theorem dX7_told_40 : decode cX7_told 40 = .ok (.iconst 1, 1) := by decide +kernel
theorem dX7_told_41 : decode cX7_told 41 = .ok (.if_icmp .ne 12, 3) := by decide +kernel
theorem dX7_told_44 : decode cX7_told 44 = .ok (.aload_n 0, 1) := by decide +kernel
theorem dX7_told_45 : decode cX7_told 45 = .ok (.getfield 22, 3) := by decide +kernel
theorem dX7_told_48 : decode cX7_told 48 = .ok (.iload_n 1, 1) := by decide +kernel
theorem dX7_told_49 : decode cX7_told 49 = .ok (.iaload, 1) := by decide +kernel
theorem dX7_told_50 : decode cX7_told 50 = .ok (.goto 23, 3) := by decide +kernel
theorem dX7_told_53 : decode cX7_told 53 = .ok (.iload_n 2, 1) := by decide +kernel
theorem dX7_told_54 : decode cX7_told 54 = .ok (.iconst 2, 1) := by decide +kernel
theorem dX7_told_55 : decode cX7_told 55 = .ok (.if_icmp .ne 12, 3) := by decide +kernel
theorem dX7_told_58 : decode cX7_told 58 = .ok (.aload_n 0, 1) := by decide +kernel
theorem dX7_told_59 : decode cX7_told 59 = .ok (.getfield 25, 3) := by decide +kernel
theorem dX7_told_62 : decode cX7_told 62 = .ok (.iload_n 1, 1) := by decide +kernel
theorem dX7_told_63 : decode cX7_told 63 = .ok (.iaload, 1) := by decide +kernel
theorem dX7_told_64 : decode cX7_told 64 = .ok (.goto 9, 3) := by decide +kernel
theorem dX7_told_67 : decode cX7_told 67 = .ok (.aload_n 0, 1) := by decide +kernel
theorem dX7_told_68 : decode cX7_told 68 = .ok (.getfield 28, 3) := by decide +kernel
theorem dX7_told_71 : decode cX7_told 71 = .ok (.iload_n 1, 1) := by decide +kernel
theorem dX7_told_72 : decode cX7_told 72 = .ok (.iaload, 1) := by decide +kernel
theorem dX7_told_73 : decode cX7_told 73 = .ok (.ireturn, 1) := by decide +kernel
theorem dX7_isTogether_0 : decode cX7_isTogether 0 = .ok (.aload_n 0, 1) := by decide +kernel
theorem dX7_isTogether_1 : decode cX7_isTogether 1 = .ok (.getfield 124, 3) := by decide +kernel
theorem dX7_isTogether_4 : decode cX7_isTogether 4 = .ok (.iload_n 1, 1) := by decide +kernel
theorem dX7_isTogether_5 : decode cX7_isTogether 5 = .ok (.ishr, 1) := by decide +kernel
theorem dX7_isTogether_6 : decode cX7_isTogether 6 = .ok (.iconst 1, 1) := by decide +kernel
theorem dX7_isTogether_7 : decode cX7_isTogether 7 = .ok (.iand, 1) := by decide +kernel
theorem dX7_isTogether_8 : decode cX7_isTogether 8 = .ok (.aload_n 0, 1) := by decide +kernel
theorem dX7_isTogether_9 : decode cX7_isTogether 9 = .ok (.getfield 124, 3) := by decide +kernel
theorem dX7_isTogether_12 : decode cX7_isTogether 12 = .ok (.iload_n 2, 1) := by decide +kernel
theorem dX7_isTogether_13 : decode cX7_isTogether 13 = .ok (.ishr, 1) := by decide +kernel
theorem dX7_isTogether_14 : decode cX7_isTogether 14 = .ok (.iconst 1, 1) := by decide +kernel
theorem dX7_isTogether_15 : decode cX7_isTogether 15 = .ok (.iand, 1) := by decide +kernel
theorem dX7_isTogether_16 : decode cX7_isTogether 16 = .ok (.if_icmp .ne 7, 3) := by decide +kernel
theorem dX7_isTogether_19 : decode cX7_isTogether 19 = .ok (.iconst 1, 1) := by decide +kernel
theorem dX7_isTogether_20 : decode cX7_isTogether 20 = .ok (.goto 4, 3) := by decide +kernel
theorem dX7_isTogether_23 : decode cX7_isTogether 23 = .ok (.iconst 0, 1) := by decide +kernel
theorem dX7_isTogether_24 : decode cX7_isTogether 24 = .ok (.ireturn, 1) := by decide +kernel
theorem dX7_happen_0 : decode cX7_happen 0 = .ok (.iconst 0, 1) := by decide +kernel
theorem dX7_happen_1 : decode cX7_happen 1 = .ok (.istore_n 2, 1) := by decide +kernel
theorem dX7_happen_2 : decode cX7_happen 2 = .ok (.iload_n 2, 1) := by decide +kernel
theorem dX7_happen_3 : decode cX7_happen 3 = .ok (.aload_n 0, 1) := by decide +kernel
theorem dX7_happen_4 : decode cX7_happen 4 = .ok (.getfield 117, 3) := by decide +kernel
theorem dX7_happen_7 : decode cX7_happen 7 = .ok (.if_icmp .ge 141, 3) := by decide +kernel
theorem dX7_happen_10 : decode cX7_happen 10 = .ok (.aload_n 0, 1) := by decide +kernel
theorem dX7_happen_11 : decode cX7_happen 11 = .ok (.getfield 31, 3) := by decide +kernel
theorem dX7_happen_14 : decode cX7_happen 14 = .ok (.iload_n 2, 1) := by decide +kernel
theorem dX7_happen_15 : decode cX7_happen 15 = .ok (.baload, 1) := by decide +kernel
theorem dX7_happen_16 : decode cX7_happen 16 = .ok (.ifCond .ne 126, 3) := by decide +kernel
theorem dX7_happen_19 : decode cX7_happen 19 = .ok (.aload_n 0, 1) := by decide +kernel
theorem dX7_happen_20 : decode cX7_happen 20 = .ok (.getfield 19, 3) := by decide +kernel
theorem dX7_happen_23 : decode cX7_happen 23 = .ok (.iload_n 2, 1) := by decide +kernel
theorem dX7_happen_24 : decode cX7_happen 24 = .ok (.iaload, 1) := by decide +kernel
theorem dX7_happen_25 : decode cX7_happen 25 = .ok (.iconst 4, 1) := by decide +kernel
theorem dX7_happen_26 : decode cX7_happen 26 = .ok (.if_icmp .ge 116, 3) := by decide +kernel
theorem dX7_happen_29 : decode cX7_happen 29 = .ok (.aload_n 0, 1) := by decide +kernel
theorem dX7_happen_30 : decode cX7_happen 30 = .ok (.getfield 22, 3) := by decide +kernel
theorem dX7_happen_33 : decode cX7_happen 33 = .ok (.iload_n 2, 1) := by decide +kernel
theorem dX7_happen_34 : decode cX7_happen 34 = .ok (.iaload, 1) := by decide +kernel
theorem dX7_happen_35 : decode cX7_happen 35 = .ok (.iload_n 1, 1) := by decide +kernel
theorem dX7_happen_36 : decode cX7_happen 36 = .ok (.if_icmp .ne 106, 3) := by decide +kernel
theorem dX7_happen_39 : decode cX7_happen 39 = .ok (.aload_n 0, 1) := by decide +kernel
theorem dX7_happen_40 : decode cX7_happen 40 = .ok (.getfield 25, 3) := by decide +kernel
theorem dX7_happen_43 : decode cX7_happen 43 = .ok (.iload_n 2, 1) := by decide +kernel
theorem dX7_happen_44 : decode cX7_happen 44 = .ok (.iaload, 1) := by decide +kernel
theorem dX7_happen_45 : decode cX7_happen 45 = .ok (.istore_n 3, 1) := by decide +kernel
theorem dX7_happen_46 : decode cX7_happen 46 = .ok (.aload_n 0, 1) := by decide +kernel
theorem dX7_happen_47 : decode cX7_happen 47 = .ok (.getfield 19, 3) := by decide +kernel
theorem dX7_happen_50 : decode cX7_happen 50 = .ok (.iload_n 2, 1) := by decide +kernel
theorem dX7_happen_51 : decode cX7_happen 51 = .ok (.iaload, 1) := by decide +kernel
theorem dX7_happen_52 : decode cX7_happen 52 = .ok (.iconst 2, 1) := by decide +kernel
theorem dX7_happen_53 : decode cX7_happen 53 = .ok (.if_icmp .ge 24, 3) := by decide +kernel
theorem dX7_happen_56 : decode cX7_happen 56 = .ok (.aload_n 0, 1) := by decide +kernel
theorem dX7_happen_57 : decode cX7_happen 57 = .ok (.aload_n 0, 1) := by decide +kernel
theorem dX7_happen_58 : decode cX7_happen 58 = .ok (.getfield 19, 3) := by decide +kernel
theorem dX7_happen_61 : decode cX7_happen 61 = .ok (.iload_n 2, 1) := by decide +kernel
theorem dX7_happen_62 : decode cX7_happen 62 = .ok (.iaload, 1) := by decide +kernel
theorem dX7_happen_63 : decode cX7_happen 63 = .ok (.ifCond .ne 7, 3) := by decide +kernel
theorem dX7_happen_66 : decode cX7_happen 66 = .ok (.iload_n 3, 1) := by decide +kernel
theorem dX7_happen_67 : decode cX7_happen 67 = .ok (.goto 4, 3) := by decide +kernel
theorem dX7_happen_70 : decode cX7_happen 70 = .ok (.iconst 0, 1) := by decide +kernel
theorem dX7_happen_71 : decode cX7_happen 71 = .ok (.putfield 124, 3) := by decide +kernel
theorem dX7_happen_74 : decode cX7_happen 74 = .ok (.goto 68, 3) := by decide +kernel
theorem dX7_happen_77 : decode cX7_happen 77 = .ok (.aload_n 0, 1) := by decide +kernel
theorem dX7_happen_78 : decode cX7_happen 78 = .ok (.getfield 19, 3) := by decide +kernel
theorem dX7_happen_81 : decode cX7_happen 81 = .ok (.iload_n 2, 1) := by decide +kernel
theorem dX7_happen_82 : decode cX7_happen 82 = .ok (.iaload, 1) := by decide +kernel
theorem dX7_happen_83 : decode cX7_happen 83 = .ok (.iconst 2, 1) := by decide +kernel
theorem dX7_happen_84 : decode cX7_happen 84 = .ok (.if_icmp .ne 13, 3) := by decide +kernel
theorem dX7_happen_87 : decode cX7_happen 87 = .ok (.aload_n 0, 1) := by decide +kernel
theorem dX7_happen_88 : decode cX7_happen 88 = .ok (.getfield 95, 3) := by decide +kernel
theorem dX7_happen_91 : decode cX7_happen 91 = .ok (.iload_n 3, 1) := by decide +kernel
theorem dX7_happen_92 : decode cX7_happen 92 = .ok (.iconst 1, 1) := by decide +kernel
theorem dX7_happen_93 : decode cX7_happen 93 = .ok (.bastore, 1) := by decide +kernel
theorem dX7_happen_94 : decode cX7_happen 94 = .ok (.goto 48, 3) := by decide +kernel
theorem dX7_happen_97 : decode cX7_happen 97 = .ok (.aload_n 0, 1) := by decide +kernel
theorem dX7_happen_98 : decode cX7_happen 98 = .ok (.getfield 95, 3) := by decide +kernel
theorem dX7_happen_101 : decode cX7_happen 101 = .ok (.iload_n 3, 1) := by decide +kernel
theorem dX7_happen_102 : decode cX7_happen 102 = .ok (.baload, 1) := by decide +kernel
theorem dX7_happen_103 : decode cX7_happen 103 = .ok (.ifCond .eq 39, 3) := by decide +kernel
theorem dX7_happen_106 : decode cX7_happen 106 = .ok (.aload_n 0, 1) := by decide +kernel
theorem dX7_happen_107 : decode cX7_happen 107 = .ok (.getfield 95, 3) := by decide +kernel
theorem dX7_happen_110 : decode cX7_happen 110 = .ok (.iload_n 3, 1) := by decide +kernel
theorem dX7_happen_111 : decode cX7_happen 111 = .ok (.iconst 0, 1) := by decide +kernel
theorem dX7_happen_112 : decode cX7_happen 112 = .ok (.bastore, 1) := by decide +kernel
theorem dX7_happen_113 : decode cX7_happen 113 = .ok (.iconst 0, 1) := by decide +kernel
theorem dX7_happen_114 : decode cX7_happen 114 = .ok (.istore 4, 2) := by decide +kernel
theorem dX7_happen_116 : decode cX7_happen 116 = .ok (.iload 4, 2) := by decide +kernel
theorem dX7_happen_118 : decode cX7_happen 118 = .ok (.bipush 7, 2) := by decide +kernel
theorem dX7_happen_120 : decode cX7_happen 120 = .ok (.if_icmp .ge 22, 3) := by decide +kernel
theorem dX7_happen_123 : decode cX7_happen 123 = .ok (.aload_n 0, 1) := by decide +kernel
theorem dX7_happen_124 : decode cX7_happen 124 = .ok (.getfield 92, 3) := by decide +kernel
theorem dX7_happen_127 : decode cX7_happen 127 = .ok (.bipush 7, 2) := by decide +kernel
theorem dX7_happen_129 : decode cX7_happen 129 = .ok (.iload_n 3, 1) := by decide +kernel
theorem dX7_happen_130 : decode cX7_happen 130 = .ok (.imul, 1) := by decide +kernel
theorem dX7_happen_131 : decode cX7_happen 131 = .ok (.iload 4, 2) := by decide +kernel
theorem dX7_happen_133 : decode cX7_happen 133 = .ok (.iadd, 1) := by decide +kernel
theorem dX7_happen_134 : decode cX7_happen 134 = .ok (.iconst 0, 1) := by decide +kernel
theorem dX7_happen_135 : decode cX7_happen 135 = .ok (.iastore, 1) := by decide +kernel
theorem dX7_happen_136 : decode cX7_happen 136 = .ok (.iinc 4 1, 3) := by decide +kernel
theorem dX7_happen_139 : decode cX7_happen 139 = .ok (.goto (-23), 3) := by decide +kernel
theorem dX7_happen_142 : decode cX7_happen 142 = .ok (.iinc 2 1, 3) := by decide +kernel
theorem dX7_happen_145 : decode cX7_happen 145 = .ok (.goto (-143), 3) := by decide +kernel
theorem dX7_happen_148 : decode cX7_happen 148 = .ok (.return_, 1) := by decide +kernel
set_option maxRecDepth 20000 in
theorem ggX7_come_X7_isTogether : GoodIn wsX7_come wsX7_isTogether := goodIn_r _ [15, 16, 17, 18, 19, 20, 21, 22, 23, 24, 25, 26, 27, 28, 29, 30, 31, 32, 33, 34, 35, 36, 37, 38, 39, 40, 41, 42, 43, 44, 45, 46, 47, 48, 49, 50] (by decide +kernel) (by decide +kernel)
set_option maxRecDepth 20000 in
theorem gX7_come_X7_isTogether : GoodIn wsX7_come (wsV RX7 127 RX7 yX7_isTogether wsX7_isTogether) := goodIn_app (goodIn_of _ (by decide +kernel)) ggX7_come_X7_isTogether
theorem dX7_come_0 : decode cX7_come 0 = .ok (.aload_n 0, 1) := by decide +kernel
theorem dX7_come_1 : decode cX7_come 1 = .ok (.getfield 65, 3) := by decide +kernel
theorem dX7_come_4 : decode cX7_come 4 = .ok (.iload_n 2, 1) := by decide +kernel
theorem dX7_come_5 : decode cX7_come 5 = .ok (.iaload, 1) := by decide +kernel
theorem dX7_come_6 : decode cX7_come 6 = .ok (.istore 4, 2) := by decide +kernel
theorem dX7_come_8 : decode cX7_come 8 = .ok (.aload_n 0, 1) := by decide +kernel
theorem dX7_come_9 : decode cX7_come 9 = .ok (.getfield 95, 3) := by decide +kernel
theorem dX7_come_12 : decode cX7_come 12 = .ok (.iload 4, 2) := by decide +kernel
theorem dX7_come_14 : decode cX7_come 14 = .ok (.baload, 1) := by decide +kernel
theorem dX7_come_15 : decode cX7_come 15 = .ok (.ifCond .ne 18, 3) := by decide +kernel
theorem dX7_come_18 : decode cX7_come 18 = .ok (.aload_n 0, 1) := by decide +kernel
theorem dX7_come_19 : decode cX7_come 19 = .ok (.iload 4, 2) := by decide +kernel
theorem dX7_come_21 : decode cX7_come 21 = .ok (.aload_n 0, 1) := by decide +kernel
theorem dX7_come_22 : decode cX7_come 22 = .ok (.getfield 62, 3) := by decide +kernel
theorem dX7_come_25 : decode cX7_come 25 = .ok (.iload_n 2, 1) := by decide +kernel
theorem dX7_come_26 : decode cX7_come 26 = .ok (.iaload, 1) := by decide +kernel
theorem dX7_come_27 : decode cX7_come 27 = .ok (.invokevirtual 127, 3) := by decide +kernel
theorem dX7_come_30 : decode cX7_come 30 = .ok (.ifCond .ne 14, 3) := by decide +kernel
theorem dX7_come_33 : decode cX7_come 33 = .ok (.aload_n 0, 1) := by decide +kernel
theorem dX7_come_34 : decode cX7_come 34 = .ok (.getfield 47, 3) := by decide +kernel
theorem dX7_come_37 : decode cX7_come 37 = .ok (.iload_n 1, 1) := by decide +kernel
theorem dX7_come_38 : decode cX7_come 38 = .ok (.dup2, 1) := by decide +kernel
theorem dX7_come_39 : decode cX7_come 39 = .ok (.iaload, 1) := by decide +kernel
theorem dX7_come_40 : decode cX7_come 40 = .ok (.iload_n 3, 1) := by decide +kernel
theorem dX7_come_41 : decode cX7_come 41 = .ok (.iadd, 1) := by decide +kernel
theorem dX7_come_42 : decode cX7_come 42 = .ok (.iastore, 1) := by decide +kernel
theorem dX7_come_43 : decode cX7_come 43 = .ok (.return_, 1) := by decide +kernel
theorem dX7_come_44 : decode cX7_come 44 = .ok (.aload_n 0, 1) := by decide +kernel
theorem dX7_come_45 : decode cX7_come 45 = .ok (.getfield 44, 3) := by decide +kernel
theorem dX7_come_48 : decode cX7_come 48 = .ok (.iload_n 1, 1) := by decide +kernel
theorem dX7_come_49 : decode cX7_come 49 = .ok (.dup2, 1) := by decide +kernel
theorem dX7_come_50 : decode cX7_come 50 = .ok (.iaload, 1) := by decide +kernel
theorem dX7_come_51 : decode cX7_come 51 = .ok (.iload_n 3, 1) := by decide +kernel
theorem dX7_come_52 : decode cX7_come 52 = .ok (.iadd, 1) := by decide +kernel
theorem dX7_come_53 : decode cX7_come 53 = .ok (.iastore, 1) := by decide +kernel
theorem dX7_come_54 : decode cX7_come 54 = .ok (.aload_n 0, 1) := by decide +kernel
theorem dX7_come_55 : decode cX7_come 55 = .ok (.getfield 80, 3) := by decide +kernel
theorem dX7_come_58 : decode cX7_come 58 = .ok (.iload_n 2, 1) := by decide +kernel
theorem dX7_come_59 : decode cX7_come 59 = .ok (.dup2, 1) := by decide +kernel
theorem dX7_come_60 : decode cX7_come 60 = .ok (.iaload, 1) := by decide +kernel
theorem dX7_come_61 : decode cX7_come 61 = .ok (.iload_n 3, 1) := by decide +kernel
theorem dX7_come_62 : decode cX7_come 62 = .ok (.iadd, 1) := by decide +kernel
theorem dX7_come_63 : decode cX7_come 63 = .ok (.iastore, 1) := by decide +kernel
theorem dX7_come_64 : decode cX7_come 64 = .ok (.bipush 7, 2) := by decide +kernel
theorem dX7_come_66 : decode cX7_come 66 = .ok (.iload 4, 2) := by decide +kernel
theorem dX7_come_68 : decode cX7_come 68 = .ok (.imul, 1) := by decide +kernel
theorem dX7_come_69 : decode cX7_come 69 = .ok (.aload_n 0, 1) := by decide +kernel
theorem dX7_come_70 : decode cX7_come 70 = .ok (.getfield 62, 3) := by decide +kernel
theorem dX7_come_73 : decode cX7_come 73 = .ok (.iload_n 2, 1) := by decide +kernel
theorem dX7_come_74 : decode cX7_come 74 = .ok (.iaload, 1) := by decide +kernel
theorem dX7_come_75 : decode cX7_come 75 = .ok (.iadd, 1) := by decide +kernel
theorem dX7_come_76 : decode cX7_come 76 = .ok (.istore 5, 2) := by decide +kernel
theorem dX7_come_78 : decode cX7_come 78 = .ok (.aload_n 0, 1) := by decide +kernel
theorem dX7_come_79 : decode cX7_come 79 = .ok (.getfield 92, 3) := by decide +kernel
theorem dX7_come_82 : decode cX7_come 82 = .ok (.iload 5, 2) := by decide +kernel
theorem dX7_come_84 : decode cX7_come 84 = .ok (.aload_n 0, 1) := by decide +kernel
theorem dX7_come_85 : decode cX7_come 85 = .ok (.getfield 71, 3) := by decide +kernel
theorem dX7_come_88 : decode cX7_come 88 = .ok (.iload_n 2, 1) := by decide +kernel
theorem dX7_come_89 : decode cX7_come 89 = .ok (.iaload, 1) := by decide +kernel
theorem dX7_come_90 : decode cX7_come 90 = .ok (.aload_n 0, 1) := by decide +kernel
theorem dX7_come_91 : decode cX7_come 91 = .ok (.getfield 92, 3) := by decide +kernel
theorem dX7_come_94 : decode cX7_come 94 = .ok (.iload 5, 2) := by decide +kernel
theorem dX7_come_96 : decode cX7_come 96 = .ok (.iaload, 1) := by decide +kernel
theorem dX7_come_97 : decode cX7_come 97 = .ok (.if_icmp .le 12, 3) := by decide +kernel
theorem dX7_come_100 : decode cX7_come 100 = .ok (.aload_n 0, 1) := by decide +kernel
theorem dX7_come_101 : decode cX7_come 101 = .ok (.getfield 71, 3) := by decide +kernel
theorem dX7_come_104 : decode cX7_come 104 = .ok (.iload_n 2, 1) := by decide +kernel
theorem dX7_come_105 : decode cX7_come 105 = .ok (.iaload, 1) := by decide +kernel
theorem dX7_come_106 : decode cX7_come 106 = .ok (.goto 10, 3) := by decide +kernel
theorem dX7_come_109 : decode cX7_come 109 = .ok (.aload_n 0, 1) := by decide +kernel
theorem dX7_come_110 : decode cX7_come 110 = .ok (.getfield 92, 3) := by decide +kernel
theorem dX7_come_113 : decode cX7_come 113 = .ok (.iload 5, 2) := by decide +kernel
theorem dX7_come_115 : decode cX7_come 115 = .ok (.iaload, 1) := by decide +kernel
theorem dX7_come_116 : decode cX7_come 116 = .ok (.iastore, 1) := by decide +kernel
theorem dX7_come_117 : decode cX7_come 117 = .ok (.aload_n 0, 1) := by decide +kernel
theorem dX7_come_118 : decode cX7_come 118 = .ok (.getfield 89, 3) := by decide +kernel
theorem dX7_come_121 : decode cX7_come 121 = .ok (.iload 4, 2) := by decide +kernel
theorem dX7_come_123 : decode cX7_come 123 = .ok (.dup2, 1) := by decide +kernel
theorem dX7_come_124 : decode cX7_come 124 = .ok (.iaload, 1) := by decide +kernel
theorem dX7_come_125 : decode cX7_come 125 = .ok (.aload_n 0, 1) := by decide +kernel
theorem dX7_come_126 : decode cX7_come 126 = .ok (.getfield 74, 3) := by decide +kernel
theorem dX7_come_129 : decode cX7_come 129 = .ok (.iload_n 2, 1) := by decide +kernel
theorem dX7_come_130 : decode cX7_come 130 = .ok (.iaload, 1) := by decide +kernel
theorem dX7_come_131 : decode cX7_come 131 = .ok (.ior, 1) := by decide +kernel
theorem dX7_come_132 : decode cX7_come 132 = .ok (.iastore, 1) := by decide +kernel
theorem dX7_come_133 : decode cX7_come 133 = .ok (.return_, 1) := by decide +kernel
set_option maxRecDepth 20000 in
theorem ggX7_takeIn_X7_in : GoodIn wsX7_takeIn wsX7_in := goodIn_r _ [7] (by decide +kernel) (by decide +kernel)
set_option maxRecDepth 20000 in
theorem gX7_takeIn_X7_in : GoodIn wsX7_takeIn (va_wsS RX7 105 yX7_in wsX7_in) := goodIn_app (goodIn_of _ (by decide +kernel)) ggX7_takeIn_X7_in
set_option maxRecDepth 20000 in
theorem ggX7_takeIn_X7_come : GoodIn wsX7_takeIn wsX7_come := goodIn_r _ [11, 12, 13, 14, 15, 16, 17, 18, 19, 20, 21, 22, 23, 24, 6, 25, 26, 27, 28, 29, 30, 31, 32, 33, 34, 35, 36, 37, 38, 39, 40, 41, 42, 43, 44, 45, 46, 47, 48, 49, 50, 51, 52, 53, 54, 55, 56, 57, 58, 59, 60] (by decide +kernel) (by decide +kernel)
set_option maxRecDepth 20000 in
theorem gX7_takeIn_X7_come : GoodIn wsX7_takeIn (wsV RX7 131 RX7 yX7_come wsX7_come) := goodIn_app (goodIn_of _ (by decide +kernel)) ggX7_takeIn_X7_come
theorem dX7_takeIn_0 : decode cX7_takeIn 0 = .ok (.iconst 0, 1) := by decide +kernel
theorem dX7_takeIn_1 : decode cX7_takeIn 1 = .ok (.istore_n 3, 1) := by decide +kernel
theorem dX7_takeIn_2 : decode cX7_takeIn 2 = .ok (.iload_n 3, 1) := by decide +kernel
theorem dX7_takeIn_3 : decode cX7_takeIn 3 = .ok (.aload_n 0, 1) := by decide +kernel
theorem dX7_takeIn_4 : decode cX7_takeIn 4 = .ok (.getfield 38, 3) := by decide +kernel
theorem dX7_takeIn_7 : decode cX7_takeIn 7 = .ok (.iload_n 1, 1) := by decide +kernel
theorem dX7_takeIn_8 : decode cX7_takeIn 8 = .ok (.iaload, 1) := by decide +kernel
theorem dX7_takeIn_9 : decode cX7_takeIn 9 = .ok (.if_icmp .ge 87, 3) := by decide +kernel
theorem dX7_takeIn_12 : decode cX7_takeIn 12 = .ok (.sipush 1200, 3) := by decide +kernel
theorem dX7_takeIn_15 : decode cX7_takeIn 15 = .ok (.iload_n 1, 1) := by decide +kernel
theorem dX7_takeIn_16 : decode cX7_takeIn 16 = .ok (.imul, 1) := by decide +kernel
theorem dX7_takeIn_17 : decode cX7_takeIn 17 = .ok (.iload_n 3, 1) := by decide +kernel
theorem dX7_takeIn_18 : decode cX7_takeIn 18 = .ok (.iadd, 1) := by decide +kernel
theorem dX7_takeIn_19 : decode cX7_takeIn 19 = .ok (.istore 4, 2) := by decide +kernel
theorem dX7_takeIn_21 : decode cX7_takeIn 21 = .ok (.iload_n 2, 1) := by decide +kernel
theorem dX7_takeIn_22 : decode cX7_takeIn 22 = .ok (.aload_n 0, 1) := by decide +kernel
theorem dX7_takeIn_23 : decode cX7_takeIn 23 = .ok (.getfield 77, 3) := by decide +kernel
theorem dX7_takeIn_26 : decode cX7_takeIn 26 = .ok (.iload 4, 2) := by decide +kernel
theorem dX7_takeIn_28 : decode cX7_takeIn 28 = .ok (.iaload, 1) := by decide +kernel
theorem dX7_takeIn_29 : decode cX7_takeIn 29 = .ok (.isub, 1) := by decide +kernel
theorem dX7_takeIn_30 : decode cX7_takeIn 30 = .ok (.istore 5, 2) := by decide +kernel
theorem dX7_takeIn_32 : decode cX7_takeIn 32 = .ok (.aload_n 0, 1) := by decide +kernel
theorem dX7_takeIn_33 : decode cX7_takeIn 33 = .ok (.getfield 77, 3) := by decide +kernel
theorem dX7_takeIn_36 : decode cX7_takeIn 36 = .ok (.iload 4, 2) := by decide +kernel
theorem dX7_takeIn_38 : decode cX7_takeIn 38 = .ok (.iaload, 1) := by decide +kernel
theorem dX7_takeIn_39 : decode cX7_takeIn 39 = .ok (.ifCond .lt 51, 3) := by decide +kernel
theorem dX7_takeIn_42 : decode cX7_takeIn 42 = .ok (.iload 5, 2) := by decide +kernel
theorem dX7_takeIn_44 : decode cX7_takeIn 44 = .ok (.iconst 0, 1) := by decide +kernel
theorem dX7_takeIn_45 : decode cX7_takeIn 45 = .ok (.iconst 5, 1) := by decide +kernel
theorem dX7_takeIn_46 : decode cX7_takeIn 46 = .ok (.invokestatic 105, 3) := by decide +kernel
theorem dX7_takeIn_49 : decode cX7_takeIn 49 = .ok (.ifCond .eq 41, 3) := by decide +kernel
theorem dX7_takeIn_52 : decode cX7_takeIn 52 = .ok (.iload 5, 2) := by decide +kernel
theorem dX7_takeIn_54 : decode cX7_takeIn 54 = .ok (.ifCond .ne 7, 3) := by decide +kernel
theorem dX7_takeIn_57 : decode cX7_takeIn 57 = .ok (.iconst 1, 1) := by decide +kernel
theorem dX7_takeIn_58 : decode cX7_takeIn 58 = .ok (.goto 16, 3) := by decide +kernel
theorem dX7_takeIn_61 : decode cX7_takeIn 61 = .ok (.aload_n 0, 1) := by decide +kernel
theorem dX7_takeIn_62 : decode cX7_takeIn 62 = .ok (.getfield 83, 3) := by decide +kernel
theorem dX7_takeIn_65 : decode cX7_takeIn 65 = .ok (.bipush 6, 2) := by decide +kernel
theorem dX7_takeIn_67 : decode cX7_takeIn 67 = .ok (.iload 4, 2) := by decide +kernel
theorem dX7_takeIn_69 : decode cX7_takeIn 69 = .ok (.imul, 1) := by decide +kernel
theorem dX7_takeIn_70 : decode cX7_takeIn 70 = .ok (.iload 5, 2) := by decide +kernel
theorem dX7_takeIn_72 : decode cX7_takeIn 72 = .ok (.iadd, 1) := by decide +kernel
theorem dX7_takeIn_73 : decode cX7_takeIn 73 = .ok (.iaload, 1) := by decide +kernel
theorem dX7_takeIn_74 : decode cX7_takeIn 74 = .ok (.istore 6, 2) := by decide +kernel
theorem dX7_takeIn_76 : decode cX7_takeIn 76 = .ok (.iload 6, 2) := by decide +kernel
theorem dX7_takeIn_78 : decode cX7_takeIn 78 = .ok (.ifCond .le 12, 3) := by decide +kernel
theorem dX7_takeIn_81 : decode cX7_takeIn 81 = .ok (.aload_n 0, 1) := by decide +kernel
theorem dX7_takeIn_82 : decode cX7_takeIn 82 = .ok (.iload_n 1, 1) := by decide +kernel
theorem dX7_takeIn_83 : decode cX7_takeIn 83 = .ok (.iload 4, 2) := by decide +kernel
theorem dX7_takeIn_85 : decode cX7_takeIn 85 = .ok (.iload 6, 2) := by decide +kernel
theorem dX7_takeIn_87 : decode cX7_takeIn 87 = .ok (.invokevirtual 131, 3) := by decide +kernel
theorem dX7_takeIn_90 : decode cX7_takeIn 90 = .ok (.iinc 3 1, 3) := by decide +kernel
theorem dX7_takeIn_93 : decode cX7_takeIn 93 = .ok (.goto (-91), 3) := by decide +kernel
theorem dX7_takeIn_96 : decode cX7_takeIn 96 = .ok (.return_, 1) := by decide +kernel
theorem dX7_grow_0 : decode cX7_grow 0 = .ok (.iconst 0, 1) := by decide +kernel
theorem dX7_grow_1 : decode cX7_grow 1 = .ok (.istore_n 1, 1) := by decide +kernel
theorem dX7_grow_2 : decode cX7_grow 2 = .ok (.iload_n 1, 1) := by decide +kernel
theorem dX7_grow_3 : decode cX7_grow 3 = .ok (.aload_n 0, 1) := by decide +kernel
theorem dX7_grow_4 : decode cX7_grow 4 = .ok (.getfield 101, 3) := by decide +kernel
theorem dX7_grow_7 : decode cX7_grow 7 = .ok (.if_icmp .ge 113, 3) := by decide +kernel
theorem dX7_grow_10 : decode cX7_grow 10 = .ok (.iconst 0, 1) := by decide +kernel
theorem dX7_grow_11 : decode cX7_grow 11 = .ok (.istore_n 2, 1) := by decide +kernel
theorem dX7_grow_12 : decode cX7_grow 12 = .ok (.iconst 0, 1) := by decide +kernel
theorem dX7_grow_13 : decode cX7_grow 13 = .ok (.istore_n 3, 1) := by decide +kernel
theorem dX7_grow_14 : decode cX7_grow 14 = .ok (.iload_n 3, 1) := by decide +kernel
theorem dX7_grow_15 : decode cX7_grow 15 = .ok (.aload_n 0, 1) := by decide +kernel
theorem dX7_grow_16 : decode cX7_grow 16 = .ok (.getfield 101, 3) := by decide +kernel
theorem dX7_grow_19 : decode cX7_grow 19 = .ok (.if_icmp .ge 42, 3) := by decide +kernel
theorem dX7_grow_22 : decode cX7_grow 22 = .ok (.iload_n 2, 1) := by decide +kernel
theorem dX7_grow_23 : decode cX7_grow 23 = .ok (.iload_n 3, 1) := by decide +kernel
theorem dX7_grow_24 : decode cX7_grow 24 = .ok (.iload_n 1, 1) := by decide +kernel
theorem dX7_grow_25 : decode cX7_grow 25 = .ok (.if_icmp .eq 23, 3) := by decide +kernel
theorem dX7_grow_28 : decode cX7_grow 28 = .ok (.aload_n 0, 1) := by decide +kernel
theorem dX7_grow_29 : decode cX7_grow 29 = .ok (.getfield 92, 3) := by decide +kernel
theorem dX7_grow_32 : decode cX7_grow 32 = .ok (.bipush 7, 2) := by decide +kernel
theorem dX7_grow_34 : decode cX7_grow 34 = .ok (.iload_n 1, 1) := by decide +kernel
theorem dX7_grow_35 : decode cX7_grow 35 = .ok (.imul, 1) := by decide +kernel
theorem dX7_grow_36 : decode cX7_grow 36 = .ok (.iload_n 3, 1) := by decide +kernel
theorem dX7_grow_37 : decode cX7_grow 37 = .ok (.iadd, 1) := by decide +kernel
theorem dX7_grow_38 : decode cX7_grow 38 = .ok (.iaload, 1) := by decide +kernel
theorem dX7_grow_39 : decode cX7_grow 39 = .ok (.aload_n 0, 1) := by decide +kernel
theorem dX7_grow_40 : decode cX7_grow 40 = .ok (.getfield 86, 3) := by decide +kernel
theorem dX7_grow_43 : decode cX7_grow 43 = .ok (.iload_n 1, 1) := by decide +kernel
theorem dX7_grow_44 : decode cX7_grow 44 = .ok (.iaload, 1) := by decide +kernel
theorem dX7_grow_45 : decode cX7_grow 45 = .ok (.if_icmp .lt 7, 3) := by decide +kernel
theorem dX7_grow_48 : decode cX7_grow 48 = .ok (.iconst 1, 1) := by decide +kernel
theorem dX7_grow_49 : decode cX7_grow 49 = .ok (.goto 4, 3) := by decide +kernel
theorem dX7_grow_52 : decode cX7_grow 52 = .ok (.iconst 0, 1) := by decide +kernel
theorem dX7_grow_53 : decode cX7_grow 53 = .ok (.iadd, 1) := by decide +kernel
theorem dX7_grow_54 : decode cX7_grow 54 = .ok (.istore_n 2, 1) := by decide +kernel
theorem dX7_grow_55 : decode cX7_grow 55 = .ok (.iinc 3 1, 3) := by decide +kernel
theorem dX7_grow_58 : decode cX7_grow 58 = .ok (.goto (-44), 3) := by decide +kernel
theorem dX7_grow_61 : decode cX7_grow 61 = .ok (.aload_n 0, 1) := by decide +kernel
theorem dX7_grow_62 : decode cX7_grow 62 = .ok (.getfield 98, 3) := by decide +kernel
theorem dX7_grow_65 : decode cX7_grow 65 = .ok (.iload_n 1, 1) := by decide +kernel
theorem dX7_grow_66 : decode cX7_grow 66 = .ok (.aload_n 0, 1) := by decide +kernel
theorem dX7_grow_67 : decode cX7_grow 67 = .ok (.getfield 95, 3) := by decide +kernel
theorem dX7_grow_70 : decode cX7_grow 70 = .ok (.iload_n 1, 1) := by decide +kernel
theorem dX7_grow_71 : decode cX7_grow 71 = .ok (.baload, 1) := by decide +kernel
theorem dX7_grow_72 : decode cX7_grow 72 = .ok (.ifCond .ne 17, 3) := by decide +kernel
theorem dX7_grow_75 : decode cX7_grow 75 = .ok (.iconst 2, 1) := by decide +kernel
theorem dX7_grow_76 : decode cX7_grow 76 = .ok (.iload_n 2, 1) := by decide +kernel
theorem dX7_grow_77 : decode cX7_grow 77 = .ok (.imul, 1) := by decide +kernel
theorem dX7_grow_78 : decode cX7_grow 78 = .ok (.aload_n 0, 1) := by decide +kernel
theorem dX7_grow_79 : decode cX7_grow 79 = .ok (.getfield 101, 3) := by decide +kernel
theorem dX7_grow_82 : decode cX7_grow 82 = .ok (.if_icmp .le 7, 3) := by decide +kernel
theorem dX7_grow_85 : decode cX7_grow 85 = .ok (.iconst 1, 1) := by decide +kernel
theorem dX7_grow_86 : decode cX7_grow 86 = .ok (.goto 4, 3) := by decide +kernel
theorem dX7_grow_89 : decode cX7_grow 89 = .ok (.iconst 0, 1) := by decide +kernel
theorem dX7_grow_90 : decode cX7_grow 90 = .ok (.bastore, 1) := by decide +kernel
theorem dX7_grow_91 : decode cX7_grow 91 = .ok (.aload_n 0, 1) := by decide +kernel
theorem dX7_grow_92 : decode cX7_grow 92 = .ok (.getfield 86, 3) := by decide +kernel
theorem dX7_grow_95 : decode cX7_grow 95 = .ok (.iload_n 1, 1) := by decide +kernel
theorem dX7_grow_96 : decode cX7_grow 96 = .ok (.dup2, 1) := by decide +kernel
theorem dX7_grow_97 : decode cX7_grow 97 = .ok (.iaload, 1) := by decide +kernel
theorem dX7_grow_98 : decode cX7_grow 98 = .ok (.aload_n 0, 1) := by decide +kernel
theorem dX7_grow_99 : decode cX7_grow 99 = .ok (.getfield 98, 3) := by decide +kernel
theorem dX7_grow_102 : decode cX7_grow 102 = .ok (.iload_n 1, 1) := by decide +kernel
theorem dX7_grow_103 : decode cX7_grow 103 = .ok (.baload, 1) := by decide +kernel
theorem dX7_grow_104 : decode cX7_grow 104 = .ok (.ifCond .eq 7, 3) := by decide +kernel
theorem dX7_grow_107 : decode cX7_grow 107 = .ok (.iconst 1, 1) := by decide +kernel
theorem dX7_grow_108 : decode cX7_grow 108 = .ok (.goto 4, 3) := by decide +kernel
theorem dX7_grow_111 : decode cX7_grow 111 = .ok (.iconst 0, 1) := by decide +kernel
theorem dX7_grow_112 : decode cX7_grow 112 = .ok (.iadd, 1) := by decide +kernel
theorem dX7_grow_113 : decode cX7_grow 113 = .ok (.iastore, 1) := by decide +kernel
theorem dX7_grow_114 : decode cX7_grow 114 = .ok (.iinc 1 1, 3) := by decide +kernel
theorem dX7_grow_117 : decode cX7_grow 117 = .ok (.goto (-115), 3) := by decide +kernel
theorem dX7_grow_120 : decode cX7_grow 120 = .ok (.return_, 1) := by decide +kernel
theorem dX7_send_0 : decode cX7_send 0 = .ok (.aload_n 0, 1) := by decide +kernel
theorem dX7_send_1 : decode cX7_send 1 = .ok (.getfield 38, 3) := by decide +kernel
theorem dX7_send_4 : decode cX7_send 4 = .ok (.iload_n 1, 1) := by decide +kernel
theorem dX7_send_5 : decode cX7_send 5 = .ok (.dup2, 1) := by decide +kernel
theorem dX7_send_6 : decode cX7_send 6 = .ok (.iaload, 1) := by decide +kernel
theorem dX7_send_7 : decode cX7_send 7 = .ok (.dup_x2, 1) := by decide +kernel
theorem dX7_send_8 : decode cX7_send 8 = .ok (.iconst 1, 1) := by decide +kernel
theorem dX7_send_9 : decode cX7_send 9 = .ok (.iadd, 1) := by decide +kernel
theorem dX7_send_10 : decode cX7_send 10 = .ok (.iastore, 1) := by decide +kernel
theorem dX7_send_11 : decode cX7_send 11 = .ok (.istore 5, 2) := by decide +kernel
theorem dX7_send_13 : decode cX7_send 13 = .ok (.sipush 1200, 3) := by decide +kernel
theorem dX7_send_16 : decode cX7_send 16 = .ok (.iload_n 1, 1) := by decide +kernel
theorem dX7_send_17 : decode cX7_send 17 = .ok (.imul, 1) := by decide +kernel
theorem dX7_send_18 : decode cX7_send 18 = .ok (.iload 5, 2) := by decide +kernel
theorem dX7_send_20 : decode cX7_send 20 = .ok (.iadd, 1) := by decide +kernel
theorem dX7_send_21 : decode cX7_send 21 = .ok (.istore 6, 2) := by decide +kernel
theorem dX7_send_23 : decode cX7_send 23 = .ok (.aload_n 0, 1) := by decide +kernel
theorem dX7_send_24 : decode cX7_send 24 = .ok (.getfield 62, 3) := by decide +kernel
theorem dX7_send_27 : decode cX7_send 27 = .ok (.iload 6, 2) := by decide +kernel
theorem dX7_send_29 : decode cX7_send 29 = .ok (.iload_n 3, 1) := by decide +kernel
theorem dX7_send_30 : decode cX7_send 30 = .ok (.iastore, 1) := by decide +kernel
theorem dX7_send_31 : decode cX7_send 31 = .ok (.aload_n 0, 1) := by decide +kernel
theorem dX7_send_32 : decode cX7_send 32 = .ok (.getfield 65, 3) := by decide +kernel
theorem dX7_send_35 : decode cX7_send 35 = .ok (.iload 6, 2) := by decide +kernel
theorem dX7_send_37 : decode cX7_send 37 = .ok (.iload 4, 2) := by decide +kernel
theorem dX7_send_39 : decode cX7_send 39 = .ok (.iastore, 1) := by decide +kernel
theorem dX7_send_40 : decode cX7_send 40 = .ok (.aload_n 0, 1) := by decide +kernel
theorem dX7_send_41 : decode cX7_send 41 = .ok (.getfield 68, 3) := by decide +kernel
theorem dX7_send_44 : decode cX7_send 44 = .ok (.iload 6, 2) := by decide +kernel
theorem dX7_send_46 : decode cX7_send 46 = .ok (.iload_n 2, 1) := by decide +kernel
theorem dX7_send_47 : decode cX7_send 47 = .ok (.iastore, 1) := by decide +kernel
theorem dX7_send_48 : decode cX7_send 48 = .ok (.aload_n 0, 1) := by decide +kernel
theorem dX7_send_49 : decode cX7_send 49 = .ok (.getfield 71, 3) := by decide +kernel
theorem dX7_send_52 : decode cX7_send 52 = .ok (.iload 6, 2) := by decide +kernel
theorem dX7_send_54 : decode cX7_send 54 = .ok (.aload_n 0, 1) := by decide +kernel
theorem dX7_send_55 : decode cX7_send 55 = .ok (.getfield 7, 3) := by decide +kernel
theorem dX7_send_58 : decode cX7_send 58 = .ok (.iload_n 3, 1) := by decide +kernel
theorem dX7_send_59 : decode cX7_send 59 = .ok (.iaload, 1) := by decide +kernel
theorem dX7_send_60 : decode cX7_send 60 = .ok (.iconst 3, 1) := by decide +kernel
theorem dX7_send_61 : decode cX7_send 61 = .ok (.if_icmp .ne 7, 3) := by decide +kernel
theorem dX7_send_64 : decode cX7_send 64 = .ok (.iconst 0, 1) := by decide +kernel
theorem dX7_send_65 : decode cX7_send 65 = .ok (.goto 25, 3) := by decide +kernel
theorem dX7_send_68 : decode cX7_send 68 = .ok (.aload_n 0, 1) := by decide +kernel
theorem dX7_send_69 : decode cX7_send 69 = .ok (.getfield 86, 3) := by decide +kernel
theorem dX7_send_72 : decode cX7_send 72 = .ok (.iload_n 3, 1) := by decide +kernel
theorem dX7_send_73 : decode cX7_send 73 = .ok (.iaload, 1) := by decide +kernel
theorem dX7_send_74 : decode cX7_send 74 = .ok (.aload_n 0, 1) := by decide +kernel
theorem dX7_send_75 : decode cX7_send 75 = .ok (.getfield 7, 3) := by decide +kernel
theorem dX7_send_78 : decode cX7_send 78 = .ok (.iload_n 3, 1) := by decide +kernel
theorem dX7_send_79 : decode cX7_send 79 = .ok (.iaload, 1) := by decide +kernel
theorem dX7_send_80 : decode cX7_send 80 = .ok (.iconst 1, 1) := by decide +kernel
theorem dX7_send_81 : decode cX7_send 81 = .ok (.if_icmp .ne 7, 3) := by decide +kernel
theorem dX7_send_84 : decode cX7_send 84 = .ok (.iconst 3, 1) := by decide +kernel
theorem dX7_send_85 : decode cX7_send 85 = .ok (.goto 4, 3) := by decide +kernel
theorem dX7_send_88 : decode cX7_send 88 = .ok (.iconst 0, 1) := by decide +kernel
theorem dX7_send_89 : decode cX7_send 89 = .ok (.iadd, 1) := by decide +kernel
theorem dX7_send_90 : decode cX7_send 90 = .ok (.iastore, 1) := by decide +kernel
theorem dX7_send_91 : decode cX7_send 91 = .ok (.aload_n 0, 1) := by decide +kernel
theorem dX7_send_92 : decode cX7_send 92 = .ok (.getfield 74, 3) := by decide +kernel
theorem dX7_send_95 : decode cX7_send 95 = .ok (.iload 6, 2) := by decide +kernel
theorem dX7_send_97 : decode cX7_send 97 = .ok (.aload_n 0, 1) := by decide +kernel
theorem dX7_send_98 : decode cX7_send 98 = .ok (.getfield 89, 3) := by decide +kernel
theorem dX7_send_101 : decode cX7_send 101 = .ok (.iload_n 3, 1) := by decide +kernel
theorem dX7_send_102 : decode cX7_send 102 = .ok (.iaload, 1) := by decide +kernel
theorem dX7_send_103 : decode cX7_send 103 = .ok (.iastore, 1) := by decide +kernel
theorem dX7_send_104 : decode cX7_send 104 = .ok (.aload_n 0, 1) := by decide +kernel
theorem dX7_send_105 : decode cX7_send 105 = .ok (.getfield 80, 3) := by decide +kernel
theorem dX7_send_108 : decode cX7_send 108 = .ok (.iload 6, 2) := by decide +kernel
theorem dX7_send_110 : decode cX7_send 110 = .ok (.iconst 0, 1) := by decide +kernel
theorem dX7_send_111 : decode cX7_send 111 = .ok (.iastore, 1) := by decide +kernel
theorem dX7_send_112 : decode cX7_send 112 = .ok (.aload_n 0, 1) := by decide +kernel
theorem dX7_send_113 : decode cX7_send 113 = .ok (.getfield 77, 3) := by decide +kernel
theorem dX7_send_116 : decode cX7_send 116 = .ok (.iload 6, 2) := by decide +kernel
theorem dX7_send_118 : decode cX7_send 118 = .ok (.iload_n 2, 1) := by decide +kernel
theorem dX7_send_119 : decode cX7_send 119 = .ok (.aload_n 0, 1) := by decide +kernel
theorem dX7_send_120 : decode cX7_send 120 = .ok (.getfield 13, 3) := by decide +kernel
theorem dX7_send_123 : decode cX7_send 123 = .ok (.bipush 7, 2) := by decide +kernel
theorem dX7_send_125 : decode cX7_send 125 = .ok (.iload_n 3, 1) := by decide +kernel
theorem dX7_send_126 : decode cX7_send 126 = .ok (.imul, 1) := by decide +kernel
theorem dX7_send_127 : decode cX7_send 127 = .ok (.iload 4, 2) := by decide +kernel
theorem dX7_send_129 : decode cX7_send 129 = .ok (.iadd, 1) := by decide +kernel
theorem dX7_send_130 : decode cX7_send 130 = .ok (.iaload, 1) := by decide +kernel
theorem dX7_send_131 : decode cX7_send 131 = .ok (.iadd, 1) := by decide +kernel
theorem dX7_send_132 : decode cX7_send 132 = .ok (.iastore, 1) := by decide +kernel
theorem dX7_send_133 : decode cX7_send 133 = .ok (.iload 5, 2) := by decide +kernel
theorem dX7_send_135 : decode cX7_send 135 = .ok (.iconst 5, 1) := by decide +kernel
theorem dX7_send_136 : decode cX7_send 136 = .ok (.if_icmp .ge 20, 3) := by decide +kernel
theorem dX7_send_139 : decode cX7_send 139 = .ok (.aload_n 0, 1) := by decide +kernel
theorem dX7_send_140 : decode cX7_send 140 = .ok (.getfield 135, 3) := by decide +kernel
theorem dX7_send_143 : decode cX7_send 143 = .ok (.iload 5, 2) := by decide +kernel
theorem dX7_send_145 : decode cX7_send 145 = .ok (.ishr, 1) := by decide +kernel
theorem dX7_send_146 : decode cX7_send 146 = .ok (.iconst 1, 1) := by decide +kernel
theorem dX7_send_147 : decode cX7_send 147 = .ok (.iand, 1) := by decide +kernel
theorem dX7_send_148 : decode cX7_send 148 = .ok (.iconst 1, 1) := by decide +kernel
theorem dX7_send_149 : decode cX7_send 149 = .ok (.if_icmp .ne 7, 3) := by decide +kernel
theorem dX7_send_152 : decode cX7_send 152 = .ok (.iconst 1, 1) := by decide +kernel
theorem dX7_send_153 : decode cX7_send 153 = .ok (.goto 4, 3) := by decide +kernel
theorem dX7_send_156 : decode cX7_send 156 = .ok (.iconst 0, 1) := by decide +kernel
theorem dX7_send_157 : decode cX7_send 157 = .ok (.istore 7, 2) := by decide +kernel
theorem dX7_send_159 : decode cX7_send 159 = .ok (.iconst 0, 1) := by decide +kernel
theorem dX7_send_160 : decode cX7_send 160 = .ok (.istore 8, 2) := by decide +kernel
theorem dX7_send_162 : decode cX7_send 162 = .ok (.iload 8, 2) := by decide +kernel
theorem dX7_send_164 : decode cX7_send 164 = .ok (.bipush 6, 2) := by decide +kernel
theorem dX7_send_166 : decode cX7_send 166 = .ok (.if_icmp .ge 23, 3) := by decide +kernel
theorem dX7_send_169 : decode cX7_send 169 = .ok (.aload_n 0, 1) := by decide +kernel
theorem dX7_send_170 : decode cX7_send 170 = .ok (.getfield 83, 3) := by decide +kernel
theorem dX7_send_173 : decode cX7_send 173 = .ok (.bipush 6, 2) := by decide +kernel
theorem dX7_send_175 : decode cX7_send 175 = .ok (.iload 6, 2) := by decide +kernel
theorem dX7_send_177 : decode cX7_send 177 = .ok (.imul, 1) := by decide +kernel
theorem dX7_send_178 : decode cX7_send 178 = .ok (.iload 8, 2) := by decide +kernel
theorem dX7_send_180 : decode cX7_send 180 = .ok (.iadd, 1) := by decide +kernel
theorem dX7_send_181 : decode cX7_send 181 = .ok (.iconst 0, 1) := by decide +kernel
theorem dX7_send_182 : decode cX7_send 182 = .ok (.iastore, 1) := by decide +kernel
theorem dX7_send_183 : decode cX7_send 183 = .ok (.iinc 8 1, 3) := by decide +kernel
theorem dX7_send_186 : decode cX7_send 186 = .ok (.goto (-24), 3) := by decide +kernel
theorem dX7_send_189 : decode cX7_send 189 = .ok (.iconst 0, 1) := by decide +kernel
theorem dX7_send_190 : decode cX7_send 190 = .ok (.istore 8, 2) := by decide +kernel
theorem dX7_send_192 : decode cX7_send 192 = .ok (.iload 8, 2) := by decide +kernel
theorem dX7_send_194 : decode cX7_send 194 = .ok (.aload_n 0, 1) := by decide +kernel
theorem dX7_send_195 : decode cX7_send 195 = .ok (.getfield 117, 3) := by decide +kernel
theorem dX7_send_198 : decode cX7_send 198 = .ok (.if_icmp .ge 135, 3) := by decide +kernel
theorem dX7_send_201 : decode cX7_send 201 = .ok (.aload_n 0, 1) := by decide +kernel
theorem dX7_send_202 : decode cX7_send 202 = .ok (.getfield 31, 3) := by decide +kernel
theorem dX7_send_205 : decode cX7_send 205 = .ok (.iload 8, 2) := by decide +kernel
theorem dX7_send_207 : decode cX7_send 207 = .ok (.baload, 1) := by decide +kernel
theorem dX7_send_208 : decode cX7_send 208 = .ok (.ifCond .ne 119, 3) := by decide +kernel
theorem dX7_send_211 : decode cX7_send 211 = .ok (.aload_n 0, 1) := by decide +kernel
theorem dX7_send_212 : decode cX7_send 212 = .ok (.getfield 19, 3) := by decide +kernel
theorem dX7_send_215 : decode cX7_send 215 = .ok (.iload 8, 2) := by decide +kernel
theorem dX7_send_217 : decode cX7_send 217 = .ok (.iaload, 1) := by decide +kernel
theorem dX7_send_218 : decode cX7_send 218 = .ok (.iconst 3, 1) := by decide +kernel
theorem dX7_send_219 : decode cX7_send 219 = .ok (.if_icmp .le 108, 3) := by decide +kernel
theorem dX7_send_222 : decode cX7_send 222 = .ok (.aload_n 0, 1) := by decide +kernel
theorem dX7_send_223 : decode cX7_send 223 = .ok (.getfield 25, 3) := by decide +kernel
theorem dX7_send_226 : decode cX7_send 226 = .ok (.iload 8, 2) := by decide +kernel
theorem dX7_send_228 : decode cX7_send 228 = .ok (.iaload, 1) := by decide +kernel
theorem dX7_send_229 : decode cX7_send 229 = .ok (.iload 5, 2) := by decide +kernel
theorem dX7_send_231 : decode cX7_send 231 = .ok (.if_icmp .ne 96, 3) := by decide +kernel
theorem dX7_send_234 : decode cX7_send 234 = .ok (.iload 7, 2) := by decide +kernel
theorem dX7_send_236 : decode cX7_send 236 = .ok (.ifCond .ne 14, 3) := by decide +kernel
theorem dX7_send_239 : decode cX7_send 239 = .ok (.aload_n 0, 1) := by decide +kernel
theorem dX7_send_240 : decode cX7_send 240 = .ok (.getfield 19, 3) := by decide +kernel
theorem dX7_send_243 : decode cX7_send 243 = .ok (.iload 8, 2) := by decide +kernel
theorem dX7_send_245 : decode cX7_send 245 = .ok (.iaload, 1) := by decide +kernel
theorem dX7_send_246 : decode cX7_send 246 = .ok (.iconst 4, 1) := by decide +kernel
theorem dX7_send_247 : decode cX7_send 247 = .ok (.if_icmp .ne 7, 3) := by decide +kernel
theorem dX7_send_250 : decode cX7_send 250 = .ok (.iconst 1, 1) := by decide +kernel
theorem dX7_send_251 : decode cX7_send 251 = .ok (.goto 4, 3) := by decide +kernel
theorem dX7_send_254 : decode cX7_send 254 = .ok (.iconst 0, 1) := by decide +kernel
theorem dX7_send_255 : decode cX7_send 255 = .ok (.istore 7, 2) := by decide +kernel
theorem dX7_send_257 : decode cX7_send 257 = .ok (.aload_n 0, 1) := by decide +kernel
theorem dX7_send_258 : decode cX7_send 258 = .ok (.getfield 77, 3) := by decide +kernel
theorem dX7_send_261 : decode cX7_send 261 = .ok (.iload 6, 2) := by decide +kernel
theorem dX7_send_263 : decode cX7_send 263 = .ok (.dup2, 1) := by decide +kernel
theorem dX7_send_264 : decode cX7_send 264 = .ok (.iaload, 1) := by decide +kernel
theorem dX7_send_265 : decode cX7_send 265 = .ok (.aload_n 0, 1) := by decide +kernel
theorem dX7_send_266 : decode cX7_send 266 = .ok (.getfield 19, 3) := by decide +kernel
theorem dX7_send_269 : decode cX7_send 269 = .ok (.iload 8, 2) := by decide +kernel
theorem dX7_send_271 : decode cX7_send 271 = .ok (.iaload, 1) := by decide +kernel
theorem dX7_send_272 : decode cX7_send 272 = .ok (.bipush 6, 2) := by decide +kernel
theorem dX7_send_274 : decode cX7_send 274 = .ok (.if_icmp .ne 13, 3) := by decide +kernel
theorem dX7_send_277 : decode cX7_send 277 = .ok (.aload_n 0, 1) := by decide +kernel
theorem dX7_send_278 : decode cX7_send 278 = .ok (.getfield 28, 3) := by decide +kernel
theorem dX7_send_281 : decode cX7_send 281 = .ok (.iload 8, 2) := by decide +kernel
theorem dX7_send_283 : decode cX7_send 283 = .ok (.iaload, 1) := by decide +kernel
theorem dX7_send_284 : decode cX7_send 284 = .ok (.goto 4, 3) := by decide +kernel
theorem dX7_send_287 : decode cX7_send 287 = .ok (.iconst 0, 1) := by decide +kernel
theorem dX7_send_288 : decode cX7_send 288 = .ok (.iadd, 1) := by decide +kernel
theorem dX7_send_289 : decode cX7_send 289 = .ok (.iastore, 1) := by decide +kernel
theorem dX7_send_290 : decode cX7_send 290 = .ok (.aload_n 0, 1) := by decide +kernel
theorem dX7_send_291 : decode cX7_send 291 = .ok (.getfield 83, 3) := by decide +kernel
theorem dX7_send_294 : decode cX7_send 294 = .ok (.bipush 6, 2) := by decide +kernel
theorem dX7_send_296 : decode cX7_send 296 = .ok (.iload 6, 2) := by decide +kernel
theorem dX7_send_298 : decode cX7_send 298 = .ok (.imul, 1) := by decide +kernel
theorem dX7_send_299 : decode cX7_send 299 = .ok (.aload_n 0, 1) := by decide +kernel
theorem dX7_send_300 : decode cX7_send 300 = .ok (.getfield 28, 3) := by decide +kernel
theorem dX7_send_303 : decode cX7_send 303 = .ok (.iload 8, 2) := by decide +kernel
theorem dX7_send_305 : decode cX7_send 305 = .ok (.iaload, 1) := by decide +kernel
theorem dX7_send_306 : decode cX7_send 306 = .ok (.iadd, 1) := by decide +kernel
theorem dX7_send_307 : decode cX7_send 307 = .ok (.dup2, 1) := by decide +kernel
theorem dX7_send_308 : decode cX7_send 308 = .ok (.iaload, 1) := by decide +kernel
theorem dX7_send_309 : decode cX7_send 309 = .ok (.aload_n 0, 1) := by decide +kernel
theorem dX7_send_310 : decode cX7_send 310 = .ok (.getfield 19, 3) := by decide +kernel
theorem dX7_send_313 : decode cX7_send 313 = .ok (.iload 8, 2) := by decide +kernel
theorem dX7_send_315 : decode cX7_send 315 = .ok (.iaload, 1) := by decide +kernel
theorem dX7_send_316 : decode cX7_send 316 = .ok (.iconst 5, 1) := by decide +kernel
theorem dX7_send_317 : decode cX7_send 317 = .ok (.if_icmp .ne 7, 3) := by decide +kernel
theorem dX7_send_320 : decode cX7_send 320 = .ok (.iconst 1, 1) := by decide +kernel
theorem dX7_send_321 : decode cX7_send 321 = .ok (.goto 4, 3) := by decide +kernel
theorem dX7_send_324 : decode cX7_send 324 = .ok (.iconst 0, 1) := by decide +kernel
theorem dX7_send_325 : decode cX7_send 325 = .ok (.iadd, 1) := by decide +kernel
theorem dX7_send_326 : decode cX7_send 326 = .ok (.iastore, 1) := by decide +kernel
theorem dX7_send_327 : decode cX7_send 327 = .ok (.iinc 8 1, 3) := by decide +kernel
theorem dX7_send_330 : decode cX7_send 330 = .ok (.goto (-138), 3) := by decide +kernel
theorem dX7_send_333 : decode cX7_send 333 = .ok (.iload 7, 2) := by decide +kernel
theorem dX7_send_335 : decode cX7_send 335 = .ok (.ifCond .eq 21, 3) := by decide +kernel
theorem dX7_send_338 : decode cX7_send 338 = .ok (.aload_n 0, 1) := by decide +kernel
theorem dX7_send_339 : decode cX7_send 339 = .ok (.getfield 77, 3) := by decide +kernel
theorem dX7_send_342 : decode cX7_send 342 = .ok (.iload 6, 2) := by decide +kernel
theorem dX7_send_344 : decode cX7_send 344 = .ok (.iconst (-1), 1) := by decide +kernel
theorem dX7_send_345 : decode cX7_send 345 = .ok (.iastore, 1) := by decide +kernel
theorem dX7_send_346 : decode cX7_send 346 = .ok (.aload_n 0, 1) := by decide +kernel
theorem dX7_send_347 : decode cX7_send 347 = .ok (.getfield 41, 3) := by decide +kernel
theorem dX7_send_350 : decode cX7_send 350 = .ok (.iload_n 1, 1) := by decide +kernel
