theorem dX6_delay_11 : decode cX6_delay 11 = .ok (.aload_n 0, 1) := by decide +kernel
theorem dX6_delay_12 : decode cX6_delay 12 = .ok (.getfield 23, 3) := by decide +kernel
theorem dX6_delay_15 : decode cX6_delay 15 = .ok (.iload_n 2, 1) := by decide +kernel
theorem dX6_delay_16 : decode cX6_delay 16 = .ok (.invokevirtual 46, 3) := by decide +kernel
theorem dX6_delay_19 : decode cX6_delay 19 = .ok (.ifCond .eq 8, 3) := by decide +kernel
theorem dX6_delay_22 : decode cX6_delay 22 = .ok (.iload_n 1, 1) := by decide +kernel
theorem dX6_delay_23 : decode cX6_delay 23 = .ok (.iload_n 2, 1) := by decide +kernel
theorem dX6_delay_24 : decode cX6_delay 24 = .ok (.if_icmp .ne 6, 3) := by decide +kernel
theorem dX6_delay_27 : decode cX6_delay 27 = .ok (.bipush (-2), 2) := by decide +kernel
theorem dX6_delay_29 : decode cX6_delay 29 = .ok (.ireturn, 1) := by decide +kernel
theorem dX6_delay_30 : decode cX6_delay 30 = .ok (.iload_n 3, 1) := by decide +kernel
theorem dX6_delay_31 : decode cX6_delay 31 = .ok (.invokestatic 54, 3) := by decide +kernel
theorem dX6_delay_34 : decode cX6_delay 34 = .ok (.ifCond .ne 6, 3) := by decide +kernel
theorem dX6_delay_37 : decode cX6_delay 37 = .ok (.bipush (-3), 2) := by decide +kernel
theorem dX6_delay_39 : decode cX6_delay 39 = .ok (.ireturn, 1) := by decide +kernel
theorem dX6_delay_40 : decode cX6_delay 40 = .ok (.aload_n 0, 1) := by decide +kernel
theorem dX6_delay_41 : decode cX6_delay 41 = .ok (.getfield 23, 3) := by decide +kernel
theorem dX6_delay_44 : decode cX6_delay 44 = .ok (.getfield 57, 3) := by decide +kernel
theorem dX6_delay_47 : decode cX6_delay 47 = .ok (.iload_n 1, 1) := by decide +kernel
theorem dX6_delay_48 : decode cX6_delay 48 = .ok (.iload_n 2, 1) := by decide +kernel
theorem dX6_delay_49 : decode cX6_delay 49 = .ok (.invokestatic 60, 3) := by decide +kernel
theorem dX6_delay_52 : decode cX6_delay 52 = .ok (.iaload, 1) := by decide +kernel
theorem dX6_delay_53 : decode cX6_delay 53 = .ok (.istore 4, 2) := by decide +kernel
theorem dX6_delay_55 : decode cX6_delay 55 = .ok (.aload_n 0, 1) := by decide +kernel
theorem dX6_delay_56 : decode cX6_delay 56 = .ok (.getfield 23, 3) := by decide +kernel
theorem dX6_delay_59 : decode cX6_delay 59 = .ok (.getfield 57, 3) := by decide +kernel
theorem dX6_delay_62 : decode cX6_delay 62 = .ok (.iload_n 1, 1) := by decide +kernel
theorem dX6_delay_63 : decode cX6_delay 63 = .ok (.iload_n 2, 1) := by decide +kernel
theorem dX6_delay_64 : decode cX6_delay 64 = .ok (.invokestatic 60, 3) := by decide +kernel
theorem dX6_delay_67 : decode cX6_delay 67 = .ok (.iload_n 3, 1) := by decide +kernel
theorem dX6_delay_68 : decode cX6_delay 68 = .ok (.iastore, 1) := by decide +kernel
theorem dX6_delay_69 : decode cX6_delay 69 = .ok (.iload 4, 2) := by decide +kernel
theorem dX6_delay_71 : decode cX6_delay 71 = .ok (.ireturn, 1) := by decide +kernel
set_option maxRecDepth 20000 in
theorem ggX6_tell_X2_has : GoodIn wsX6_tell wsX2_has := goodIn_r _ [7, 8, 24, 25, 26, 27] (by decide +kernel) (by decide +kernel)
set_option maxRecDepth 20000 in
theorem gX6_tell_X2_has : GoodIn wsX6_tell (wsV RX6 46 RX2 yX2_has wsX2_has) := goodIn_app (goodIn_of _ (by decide +kernel)) ggX6_tell_X2_has
set_option maxRecDepth 20000 in
theorem ggX6_tell_X6_isRumour : GoodIn wsX6_tell wsX6_isRumour := goodIn_r _ [12] (by decide +kernel) (by decide +kernel)
set_option maxRecDepth 20000 in
theorem gX6_tell_X6_isRumour : GoodIn wsX6_tell (va_wsS RX6 63 yX6_isRumour wsX6_isRumour) := goodIn_app (goodIn_of _ (by decide +kernel)) ggX6_tell_X6_isRumour
set_option maxRecDepth 20000 in
theorem ggX6_tell_J6_bitCount_0f7a4 : GoodIn wsX6_tell wsJ6_bitCount_0f7a4 := goodIn_r _ [16, 17, 18, 19] (by decide +kernel) (by decide +kernel)
set_option maxRecDepth 20000 in
theorem gX6_tell_J6_bitCount_0f7a4 : GoodIn wsX6_tell (va_wsS RX6 69 yJ6_bitCount_0f7a4 wsJ6_bitCount_0f7a4) := goodIn_app (goodIn_of _ (by decide +kernel)) ggX6_tell_J6_bitCount_0f7a4
theorem dX6_tell_0 : decode cX6_tell 0 = .ok (.aload_n 0, 1) := by decide +kernel
theorem dX6_tell_1 : decode cX6_tell 1 = .ok (.getfield 23, 3) := by decide +kernel
theorem dX6_tell_4 : decode cX6_tell 4 = .ok (.iload_n 1, 1) := by decide +kernel
theorem dX6_tell_5 : decode cX6_tell 5 = .ok (.invokevirtual 46, 3) := by decide +kernel
theorem dX6_tell_8 : decode cX6_tell 8 = .ok (.ifCond .eq 10, 3) := by decide +kernel
theorem dX6_tell_11 : decode cX6_tell 11 = .ok (.iload_n 2, 1) := by decide +kernel
theorem dX6_tell_12 : decode cX6_tell 12 = .ok (.invokestatic 63, 3) := by decide +kernel
theorem dX6_tell_15 : decode cX6_tell 15 = .ok (.ifCond .ne 6, 3) := by decide +kernel
theorem dX6_tell_18 : decode cX6_tell 18 = .ok (.bipush (-2), 2) := by decide +kernel
theorem dX6_tell_20 : decode cX6_tell 20 = .ok (.ireturn, 1) := by decide +kernel
theorem dX6_tell_21 : decode cX6_tell 21 = .ok (.aload_n 0, 1) := by decide +kernel
theorem dX6_tell_22 : decode cX6_tell 22 = .ok (.getfield 23, 3) := by decide +kernel
theorem dX6_tell_25 : decode cX6_tell 25 = .ok (.getfield 66, 3) := by decide +kernel
theorem dX6_tell_28 : decode cX6_tell 28 = .ok (.iload_n 1, 1) := by decide +kernel
theorem dX6_tell_29 : decode cX6_tell 29 = .ok (.dup2, 1) := by decide +kernel
theorem dX6_tell_30 : decode cX6_tell 30 = .ok (.iaload, 1) := by decide +kernel
theorem dX6_tell_31 : decode cX6_tell 31 = .ok (.iconst 1, 1) := by decide +kernel
theorem dX6_tell_32 : decode cX6_tell 32 = .ok (.iload_n 2, 1) := by decide +kernel
theorem dX6_tell_33 : decode cX6_tell 33 = .ok (.ishl, 1) := by decide +kernel
theorem dX6_tell_34 : decode cX6_tell 34 = .ok (.ior, 1) := by decide +kernel
theorem dX6_tell_35 : decode cX6_tell 35 = .ok (.iastore, 1) := by decide +kernel
theorem dX6_tell_36 : decode cX6_tell 36 = .ok (.aload_n 0, 1) := by decide +kernel
theorem dX6_tell_37 : decode cX6_tell 37 = .ok (.getfield 23, 3) := by decide +kernel
theorem dX6_tell_40 : decode cX6_tell 40 = .ok (.getfield 66, 3) := by decide +kernel
theorem dX6_tell_43 : decode cX6_tell 43 = .ok (.iload_n 1, 1) := by decide +kernel
theorem dX6_tell_44 : decode cX6_tell 44 = .ok (.iaload, 1) := by decide +kernel
theorem dX6_tell_45 : decode cX6_tell 45 = .ok (.invokestatic 69, 3) := by decide +kernel
theorem dX6_tell_48 : decode cX6_tell 48 = .ok (.ireturn, 1) := by decide +kernel
set_option maxRecDepth 20000 in
theorem ggX6_event_X6_namesNode : GoodIn wsX6_event wsX6_namesNode := goodIn_r _ [6] (by decide +kernel) (by decide +kernel)
set_option maxRecDepth 20000 in
theorem gX6_event_X6_namesNode : GoodIn wsX6_event (va_wsS RX6 75 yX6_namesNode wsX6_namesNode) := goodIn_app (goodIn_of _ (by decide +kernel)) ggX6_event_X6_namesNode
set_option maxRecDepth 20000 in
theorem ggX6_event_X2_has : GoodIn wsX6_event wsX2_has := goodIn_r _ [11, 12, 55, 56, 57, 58] (by decide +kernel) (by decide +kernel)
set_option maxRecDepth 20000 in
theorem gX6_event_X2_has : GoodIn wsX6_event (wsV RX6 46 RX2 yX2_has wsX2_has) := goodIn_app (goodIn_of _ (by decide +kernel)) ggX6_event_X2_has
set_option maxRecDepth 20000 in
theorem ggX6_event_X6_isTimed : GoodIn wsX6_event wsX6_isTimed := goodIn_r _ [15] (by decide +kernel) (by decide +kernel)
set_option maxRecDepth 20000 in
theorem gX6_event_X6_isTimed : GoodIn wsX6_event (va_wsS RX6 78 yX6_isTimed wsX6_isTimed) := goodIn_app (goodIn_of _ (by decide +kernel)) ggX6_event_X6_isTimed
set_option maxRecDepth 20000 in
theorem ggX6_event_X6_isTurn : GoodIn wsX6_event wsX6_isTurn := goodIn_r _ [18] (by decide +kernel) (by decide +kernel)
set_option maxRecDepth 20000 in
theorem gX6_event_X6_isTurn : GoodIn wsX6_event (va_wsS RX6 81 yX6_isTurn wsX6_isTurn) := goodIn_app (goodIn_of _ (by decide +kernel)) ggX6_event_X6_isTurn
set_option maxRecDepth 20000 in
theorem ggX6_event_X2_hasAllOf : GoodIn wsX6_event wsX2_hasAllOf := goodIn_r _ [22, 12, 55, 56, 57, 58] (by decide +kernel) (by decide +kernel)
set_option maxRecDepth 20000 in
theorem gX6_event_X2_hasAllOf : GoodIn wsX6_event (wsV RX6 84 RX2 yX2_hasAllOf wsX2_hasAllOf) := goodIn_app (goodIn_of _ (by decide +kernel)) ggX6_event_X2_hasAllOf
set_option maxRecDepth 20000 in
theorem ggX6_event_X6_namesLetter : GoodIn wsX6_event wsX6_namesLetter := goodIn_r _ [25] (by decide +kernel) (by decide +kernel)
set_option maxRecDepth 20000 in
theorem gX6_event_X6_namesLetter : GoodIn wsX6_event (va_wsS RX6 87 yX6_namesLetter wsX6_namesLetter) := goodIn_app (goodIn_of _ (by decide +kernel)) ggX6_event_X6_namesLetter
set_option maxRecDepth 20000 in
theorem ggX6_event_X6_isLetter : GoodIn wsX6_event wsX6_isLetter := goodIn_r _ [28] (by decide +kernel) (by decide +kernel)
set_option maxRecDepth 20000 in
theorem gX6_event_X6_isLetter : GoodIn wsX6_event (va_wsS RX6 90 yX6_isLetter wsX6_isLetter) := goodIn_app (goodIn_of _ (by decide +kernel)) ggX6_event_X6_isLetter
set_option maxRecDepth 20000 in
theorem ggX6_event_X6_hasWait : GoodIn wsX6_event wsX6_hasWait := goodIn_r _ [31] (by decide +kernel) (by decide +kernel)
set_option maxRecDepth 20000 in
theorem gX6_event_X6_hasWait : GoodIn wsX6_event (va_wsS RX6 93 yX6_hasWait wsX6_hasWait) := goodIn_app (goodIn_of _ (by decide +kernel)) ggX6_event_X6_hasWait
set_option maxRecDepth 20000 in
theorem ggX6_event_X6_isWait : GoodIn wsX6_event wsX6_isWait := goodIn_r _ [34] (by decide +kernel) (by decide +kernel)
set_option maxRecDepth 20000 in
theorem gX6_event_X6_isWait : GoodIn wsX6_event (va_wsS RX6 54 yX6_isWait wsX6_isWait) := goodIn_app (goodIn_of _ (by decide +kernel)) ggX6_event_X6_isWait
set_option maxRecDepth 20000 in
theorem ggX6_event_X5_add : GoodIn wsX6_event wsX5_add := goodIn_r _ [39, 40, 41, 42, 43, 44, 45, 46, 47, 48, 38, 49, 50, 24, 5, 25, 27, 28, 59, 60, 61, 62, 63, 64, 65] (by decide +kernel) (by decide +kernel)
set_option maxRecDepth 20000 in
theorem gX6_event_X5_add : GoodIn wsX6_event (wsV RX6 96 RX5 yX5_add wsX5_add) := goodIn_app (goodIn_of _ (by decide +kernel)) ggX6_event_X5_add
theorem dX6_event_0 : decode cX6_event 0 = .ok (.iload_n 1, 1) := by decide +kernel
theorem dX6_event_1 : decode cX6_event 1 = .ok (.ifCond .lt 27, 3) := by decide +kernel
theorem dX6_event_4 : decode cX6_event 4 = .ok (.iload_n 1, 1) := by decide +kernel
theorem dX6_event_5 : decode cX6_event 5 = .ok (.bipush 6, 2) := by decide +kernel
theorem dX6_event_7 : decode cX6_event 7 = .ok (.if_icmp .gt 21, 3) := by decide +kernel
theorem dX6_event_10 : decode cX6_event 10 = .ok (.iload_n 1, 1) := by decide +kernel
theorem dX6_event_11 : decode cX6_event 11 = .ok (.invokestatic 75, 3) := by decide +kernel
theorem dX6_event_14 : decode cX6_event 14 = .ok (.ifCond .eq 17, 3) := by decide +kernel
theorem dX6_event_17 : decode cX6_event 17 = .ok (.aload_n 0, 1) := by decide +kernel
theorem dX6_event_18 : decode cX6_event 18 = .ok (.getfield 23, 3) := by decide +kernel
theorem dX6_event_21 : decode cX6_event 21 = .ok (.iload_n 3, 1) := by decide +kernel
theorem dX6_event_22 : decode cX6_event 22 = .ok (.invokevirtual 46, 3) := by decide +kernel
theorem dX6_event_25 : decode cX6_event 25 = .ok (.ifCond .ne 6, 3) := by decide +kernel
theorem dX6_event_28 : decode cX6_event 28 = .ok (.bipush (-2), 2) := by decide +kernel
theorem dX6_event_30 : decode cX6_event 30 = .ok (.ireturn, 1) := by decide +kernel
theorem dX6_event_31 : decode cX6_event 31 = .ok (.iload_n 1, 1) := by decide +kernel
theorem dX6_event_32 : decode cX6_event 32 = .ok (.invokestatic 78, 3) := by decide +kernel
theorem dX6_event_35 : decode cX6_event 35 = .ok (.ifCond .eq 10, 3) := by decide +kernel
theorem dX6_event_38 : decode cX6_event 38 = .ok (.iload_n 2, 1) := by decide +kernel
theorem dX6_event_39 : decode cX6_event 39 = .ok (.invokestatic 81, 3) := by decide +kernel
theorem dX6_event_42 : decode cX6_event 42 = .ok (.ifCond .eq 18, 3) := by decide +kernel
theorem dX6_event_45 : decode cX6_event 45 = .ok (.iload_n 1, 1) := by decide +kernel
theorem dX6_event_46 : decode cX6_event 46 = .ok (.ifCond .ne 17, 3) := by decide +kernel
theorem dX6_event_49 : decode cX6_event 49 = .ok (.aload_n 0, 1) := by decide +kernel
theorem dX6_event_50 : decode cX6_event 50 = .ok (.getfield 23, 3) := by decide +kernel
theorem dX6_event_53 : decode cX6_event 53 = .ok (.iload_n 3, 1) := by decide +kernel
theorem dX6_event_54 : decode cX6_event 54 = .ok (.invokevirtual 84, 3) := by decide +kernel
theorem dX6_event_57 : decode cX6_event 57 = .ok (.ifCond .ne 6, 3) := by decide +kernel
theorem dX6_event_60 : decode cX6_event 60 = .ok (.bipush (-3), 2) := by decide +kernel
theorem dX6_event_62 : decode cX6_event 62 = .ok (.ireturn, 1) := by decide +kernel
theorem dX6_event_63 : decode cX6_event 63 = .ok (.iload_n 1, 1) := by decide +kernel
theorem dX6_event_64 : decode cX6_event 64 = .ok (.invokestatic 87, 3) := by decide +kernel
theorem dX6_event_67 : decode cX6_event 67 = .ok (.ifCond .eq 10, 3) := by decide +kernel
theorem dX6_event_70 : decode cX6_event 70 = .ok (.iload_n 3, 1) := by decide +kernel
theorem dX6_event_71 : decode cX6_event 71 = .ok (.invokestatic 90, 3) := by decide +kernel
theorem dX6_event_74 : decode cX6_event 74 = .ok (.ifCond .eq 18, 3) := by decide +kernel
theorem dX6_event_77 : decode cX6_event 77 = .ok (.iload_n 1, 1) := by decide +kernel
theorem dX6_event_78 : decode cX6_event 78 = .ok (.invokestatic 93, 3) := by decide +kernel
theorem dX6_event_81 : decode cX6_event 81 = .ok (.ifCond .eq 14, 3) := by decide +kernel
theorem dX6_event_84 : decode cX6_event 84 = .ok (.iload 4, 2) := by decide +kernel
theorem dX6_event_86 : decode cX6_event 86 = .ok (.invokestatic 54, 3) := by decide +kernel
theorem dX6_event_89 : decode cX6_event 89 = .ok (.ifCond .ne 6, 3) := by decide +kernel
theorem dX6_event_92 : decode cX6_event 92 = .ok (.bipush (-3), 2) := by decide +kernel
theorem dX6_event_94 : decode cX6_event 94 = .ok (.ireturn, 1) := by decide +kernel
theorem dX6_event_95 : decode cX6_event 95 = .ok (.aload_n 0, 1) := by decide +kernel
theorem dX6_event_96 : decode cX6_event 96 = .ok (.getfield 30, 3) := by decide +kernel
theorem dX6_event_99 : decode cX6_event 99 = .ok (.iload_n 1, 1) := by decide +kernel
theorem dX6_event_100 : decode cX6_event 100 = .ok (.iload_n 1, 1) := by decide +kernel
theorem dX6_event_101 : decode cX6_event 101 = .ok (.invokestatic 78, 3) := by decide +kernel
theorem dX6_event_104 : decode cX6_event 104 = .ok (.ifCond .eq 7, 3) := by decide +kernel
theorem dX6_event_107 : decode cX6_event 107 = .ok (.iload_n 2, 1) := by decide +kernel
theorem dX6_event_108 : decode cX6_event 108 = .ok (.goto 4, 3) := by decide +kernel
theorem dX6_event_111 : decode cX6_event 111 = .ok (.iconst 0, 1) := by decide +kernel
theorem dX6_event_112 : decode cX6_event 112 = .ok (.iload_n 1, 1) := by decide +kernel
theorem dX6_event_113 : decode cX6_event 113 = .ok (.iconst 1, 1) := by decide +kernel
theorem dX6_event_114 : decode cX6_event 114 = .ok (.if_icmp .ne 7, 3) := by decide +kernel
theorem dX6_event_117 : decode cX6_event 117 = .ok (.iconst 0, 1) := by decide +kernel
theorem dX6_event_118 : decode cX6_event 118 = .ok (.goto 4, 3) := by decide +kernel
theorem dX6_event_121 : decode cX6_event 121 = .ok (.iload_n 3, 1) := by decide +kernel
theorem dX6_event_122 : decode cX6_event 122 = .ok (.iload_n 1, 1) := by decide +kernel
theorem dX6_event_123 : decode cX6_event 123 = .ok (.invokestatic 93, 3) := by decide +kernel
theorem dX6_event_126 : decode cX6_event 126 = .ok (.ifCond .eq 8, 3) := by decide +kernel
theorem dX6_event_129 : decode cX6_event 129 = .ok (.iload 4, 2) := by decide +kernel
theorem dX6_event_131 : decode cX6_event 131 = .ok (.goto 4, 3) := by decide +kernel
theorem dX6_event_134 : decode cX6_event 134 = .ok (.iconst 0, 1) := by decide +kernel
theorem dX6_event_135 : decode cX6_event 135 = .ok (.invokevirtual 96, 3) := by decide +kernel
theorem dX6_event_138 : decode cX6_event 138 = .ok (.ireturn, 1) := by decide +kernel
set_option maxRecDepth 20000 in
theorem ggX6_drop_X5_has : GoodIn wsX6_drop wsX5_has := goodIn_r _ [7, 8, 33, 34, 35, 36, 37, 38, 39] (by decide +kernel) (by decide +kernel)
set_option maxRecDepth 20000 in
theorem gX6_drop_X5_has : GoodIn wsX6_drop (wsV RX6 100 RX5 yX5_has wsX5_has) := goodIn_app (goodIn_of _ (by decide +kernel)) ggX6_drop_X5_has
set_option maxRecDepth 20000 in
theorem ggX6_drop_X5_remove : GoodIn wsX6_drop wsX5_remove := goodIn_r _ [12, 8, 13, 14, 15, 16, 17, 18, 4, 5, 6, 7, 19, 20, 21, 22, 23, 24, 25, 26, 27, 28, 33, 34, 35, 36, 37, 38, 39] (by decide +kernel) (by decide +kernel)
set_option maxRecDepth 20000 in
theorem gX6_drop_X5_remove : GoodIn wsX6_drop (wsV RX6 101 RX5 yX5_remove wsX5_remove) := goodIn_app (goodIn_of _ (by decide +kernel)) ggX6_drop_X5_remove
theorem dX6_drop_0 : decode cX6_drop 0 = .ok (.aload_n 0, 1) := by decide +kernel
theorem dX6_drop_1 : decode cX6_drop 1 = .ok (.getfield 30, 3) := by decide +kernel
theorem dX6_drop_4 : decode cX6_drop 4 = .ok (.iload_n 1, 1) := by decide +kernel
theorem dX6_drop_5 : decode cX6_drop 5 = .ok (.invokevirtual 100, 3) := by decide +kernel
theorem dX6_drop_8 : decode cX6_drop 8 = .ok (.ifCond .ne 6, 3) := by decide +kernel
theorem dX6_drop_11 : decode cX6_drop 11 = .ok (.bipush (-2), 2) := by decide +kernel
theorem dX6_drop_13 : decode cX6_drop 13 = .ok (.ireturn, 1) := by decide +kernel
theorem dX6_drop_14 : decode cX6_drop 14 = .ok (.aload_n 0, 1) := by decide +kernel
theorem dX6_drop_15 : decode cX6_drop 15 = .ok (.getfield 30, 3) := by decide +kernel
theorem dX6_drop_18 : decode cX6_drop 18 = .ok (.iload_n 1, 1) := by decide +kernel
theorem dX6_drop_19 : decode cX6_drop 19 = .ok (.invokevirtual 101, 3) := by decide +kernel
theorem dX6_drop_22 : decode cX6_drop 22 = .ok (.aload_n 0, 1) := by decide +kernel
theorem dX6_drop_23 : decode cX6_drop 23 = .ok (.getfield 30, 3) := by decide +kernel
theorem dX6_drop_26 : decode cX6_drop 26 = .ok (.getfield 104, 3) := by decide +kernel
theorem dX6_drop_29 : decode cX6_drop 29 = .ok (.ireturn, 1) := by decide +kernel
set_option maxRecDepth 20000 in
theorem ggX6_told_X5_has : GoodIn wsX6_told wsX5_has := goodIn_r _ [10, 11, 16, 17, 18, 19, 20, 21, 22] (by decide +kernel) (by decide +kernel)
set_option maxRecDepth 20000 in
theorem gX6_told_X5_has : GoodIn wsX6_told (wsV RX6 100 RX5 yX5_has wsX5_has) := goodIn_app (goodIn_of _ (by decide +kernel)) ggX6_told_X5_has
theorem dX6_told_0 : decode cX6_told 0 = .ok (.aload_n 0, 1) := by decide +kernel
theorem dX6_told_1 : decode cX6_told 1 = .ok (.getfield 30, 3) := by decide +kernel
theorem dX6_told_4 : decode cX6_told 4 = .ok (.iload_n 1, 1) := by decide +kernel
theorem dX6_told_5 : decode cX6_told 5 = .ok (.invokevirtual 100, 3) := by decide +kernel
theorem dX6_told_8 : decode cX6_told 8 = .ok (.ifCond .ne 6, 3) := by decide +kernel
theorem dX6_told_11 : decode cX6_told 11 = .ok (.bipush (-2), 2) := by decide +kernel
theorem dX6_told_13 : decode cX6_told 13 = .ok (.ireturn, 1) := by decide +kernel
theorem dX6_told_14 : decode cX6_told 14 = .ok (.iload_n 2, 1) := by decide +kernel
theorem dX6_told_15 : decode cX6_told 15 = .ok (.tableswitch 69 0 3 #[29, 39, 49, 59], 29) := by decide +kernel
theorem dX6_told_44 : decode cX6_told 44 = .ok (.aload_n 0, 1) := by decide +kernel
theorem dX6_told_45 : decode cX6_told 45 = .ok (.getfield 30, 3) := by decide +kernel
theorem dX6_told_48 : decode cX6_told 48 = .ok (.getfield 108, 3) := by decide +kernel
theorem dX6_told_51 : decode cX6_told 51 = .ok (.iload_n 1, 1) := by decide +kernel
theorem dX6_told_52 : decode cX6_told 52 = .ok (.iaload, 1) := by decide +kernel
theorem dX6_told_53 : decode cX6_told 53 = .ok (.ireturn, 1) := by decide +kernel
theorem dX6_told_54 : decode cX6_told 54 = .ok (.aload_n 0, 1) := by decide +kernel
theorem dX6_told_55 : decode cX6_told 55 = .ok (.getfield 30, 3) := by decide +kernel
theorem dX6_told_58 : decode cX6_told 58 = .ok (.getfield 111, 3) := by decide +kernel
theorem dX6_told_61 : decode cX6_told 61 = .ok (.iload_n 1, 1) := by decide +kernel
theorem dX6_told_62 : decode cX6_told 62 = .ok (.iaload, 1) := by decide +kernel
theorem dX6_told_63 : decode cX6_told 63 = .ok (.ireturn, 1) := by decide +kernel
theorem dX6_told_64 : decode cX6_told 64 = .ok (.aload_n 0, 1) := by decide +kernel
theorem dX6_told_65 : decode cX6_told 65 = .ok (.getfield 30, 3) := by decide +kernel
theorem dX6_told_68 : decode cX6_told 68 = .ok (.getfield 114, 3) := by decide +kernel
theorem dX6_told_71 : decode cX6_told 71 = .ok (.iload_n 1, 1) := by decide +kernel
theorem dX6_told_72 : decode cX6_told 72 = .ok (.iaload, 1) := by decide +kernel
theorem dX6_told_73 : decode cX6_told 73 = .ok (.ireturn, 1) := by decide +kernel
theorem dX6_told_74 : decode cX6_told 74 = .ok (.aload_n 0, 1) := by decide +kernel
theorem dX6_told_75 : decode cX6_told 75 = .ok (.getfield 30, 3) := by decide +kernel
theorem dX6_told_78 : decode cX6_told 78 = .ok (.getfield 117, 3) := by decide +kernel
theorem dX6_told_81 : decode cX6_told 81 = .ok (.iload_n 1, 1) := by decide +kernel
theorem dX6_told_82 : decode cX6_told 82 = .ok (.iaload, 1) := by decide +kernel
theorem dX6_told_83 : decode cX6_told 83 = .ok (.ireturn, 1) := by decide +kernel
theorem dX6_told_84 : decode cX6_told 84 = .ok (.bipush (-2), 2) := by decide +kernel
theorem dX6_told_86 : decode cX6_told 86 = .ok (.ireturn, 1) := by decide +kernel
set_option maxRecDepth 20000 in
theorem ggX6_play_X4_run : GoodIn wsX6_play wsX4_run := goodIn_r _ [7, 8, 9, 10, 11, 12, 13, 14, 6, 15, 16, 17, 18, 19, 20, 21, 22, 23, 24, 25, 26, 27, 28, 29, 30, 31, 32, 33, 34, 35, 36, 37, 38, 39, 40, 41, 42, 43, 44, 45, 46, 47, 48, 49, 50, 51, 52, 53, 54, 55, 56, 57, 58, 59, 60, 61, 62, 63, 64, 65, 66, 67, 68, 69, 70, 71, 72, 73, 74, 75, 76, 77, 78, 79, 80, 81, 82, 83, 84, 85, 86, 87, 88, 89, 90, 91, 92, 93, 94, 95, 96, 97, 98, 99, 100, 101, 102, 103, 104, 105, 106, 107, 108, 109, 110, 111, 112, 113, 114, 115, 116, 117, 118, 119, 120, 121, 122, 123, 124, 125, 126, 127, 128, 129, 130, 131, 132, 133, 134, 135, 136, 137, 138, 139, 140, 141, 142, 143, 144, 145, 146, 147, 148, 149, 150, 151, 152, 153, 154, 155, 156, 157, 158, 159, 160, 161, 162, 163, 164, 165, 166, 167, 168, 169, 170, 171, 172, 173, 174, 175, 176, 177, 178, 179, 180, 181, 182, 183, 184, 185, 186, 187, 188, 189, 190, 191, 192, 193, 194, 195, 196, 197, 198, 199, 200, 201, 202, 203, 204, 205, 206, 207, 208, 209, 210, 211, 212, 213, 214, 215, 216, 217, 218, 219, 220, 221, 222, 223, 224, 225, 226, 227, 228, 229, 230, 231, 232, 233, 234, 235, 236, 237, 238, 239, 240, 241, 242, 243, 244, 253, 254, 255, 256, 257, 258, 259, 260, 261, 262, 263, 264, 265, 266, 267, 268, 269, 270, 271, 272, 273, 274, 275, 276, 277, 278, 279, 280, 281, 282, 283, 284, 285, 286, 287, 288, 289, 290, 291, 292, 293, 294, 295, 296, 297] (by decide +kernel) (by decide +kernel)
set_option maxRecDepth 20000 in
theorem gX6_play_X4_run : GoodIn wsX6_play (wsV RX6 120 RX4 yX4_run wsX4_run) := goodIn_app (goodIn_of _ (by decide +kernel)) ggX6_play_X4_run
set_option maxRecDepth 20000 in
theorem ggX6_play_X3_greatestHeight : GoodIn wsX6_play wsX3_greatestHeight := goodIn_r _ [248, 50, 51, 52, 133, 134, 18, 135, 280, 281, 282, 283, 284, 285, 286, 287, 288, 289, 290] (by decide +kernel) (by decide +kernel)
set_option maxRecDepth 20000 in
theorem gX6_play_X3_greatestHeight : GoodIn wsX6_play (wsV RX6 128 RX3 yX3_greatestHeight wsX3_greatestHeight) := goodIn_app (goodIn_of _ (by decide +kernel)) ggX6_play_X3_greatestHeight
theorem dX6_play_0 : decode cX6_play 0 = .ok (.iload_n 1, 1) := by decide +kernel
theorem dX6_play_1 : decode cX6_play 1 = .ok (.iconst 1, 1) := by decide +kernel
theorem dX6_play_2 : decode cX6_play 2 = .ok (.if_icmp .lt 9, 3) := by decide +kernel
theorem dX6_play_5 : decode cX6_play 5 = .ok (.iload_n 1, 1) := by decide +kernel
theorem dX6_play_6 : decode cX6_play 6 = .ok (.bipush 40, 2) := by decide +kernel
theorem dX6_play_8 : decode cX6_play 8 = .ok (.if_icmp .le 6, 3) := by decide +kernel
theorem dX6_play_11 : decode cX6_play 11 = .ok (.bipush (-3), 2) := by decide +kernel
theorem dX6_play_13 : decode cX6_play 13 = .ok (.ireturn, 1) := by decide +kernel
theorem dX6_play_14 : decode cX6_play 14 = .ok (.aload_n 0, 1) := by decide +kernel
theorem dX6_play_15 : decode cX6_play 15 = .ok (.getfield 39, 3) := by decide +kernel
theorem dX6_play_18 : decode cX6_play 18 = .ok (.iload_n 1, 1) := by decide +kernel
theorem dX6_play_19 : decode cX6_play 19 = .ok (.iconst 0, 1) := by decide +kernel
theorem dX6_play_20 : decode cX6_play 20 = .ok (.invokevirtual 120, 3) := by decide +kernel
theorem dX6_play_23 : decode cX6_play 23 = .ok (.pop, 1) := by decide +kernel
theorem dX6_play_24 : decode cX6_play 24 = .ok (.aload_n 0, 1) := by decide +kernel
theorem dX6_play_25 : decode cX6_play 25 = .ok (.getfield 39, 3) := by decide +kernel
theorem dX6_play_28 : decode cX6_play 28 = .ok (.getfield 124, 3) := by decide +kernel
theorem dX6_play_31 : decode cX6_play 31 = .ok (.invokevirtual 128, 3) := by decide +kernel
theorem dX6_play_34 : decode cX6_play 34 = .ok (.ireturn, 1) := by decide +kernel
set_option maxRecDepth 20000 in
theorem ggX6_height_X4_hasTurn : GoodIn wsX6_height wsX4_hasTurn := goodIn_r _ [8, 9, 24, 25, 26, 27, 28, 29, 30, 31, 32, 33, 34, 35, 36] (by decide +kernel) (by decide +kernel)
set_option maxRecDepth 20000 in
theorem gX6_height_X4_hasTurn : GoodIn wsX6_height (wsV RX6 134 RX4 yX4_hasTurn wsX4_hasTurn) := goodIn_app (goodIn_of _ (by decide +kernel)) ggX6_height_X4_hasTurn
set_option maxRecDepth 20000 in
theorem ggX6_height_X2_has : GoodIn wsX6_height wsX2_has := goodIn_r _ [14, 15, 37, 38, 39, 40] (by decide +kernel) (by decide +kernel)
set_option maxRecDepth 20000 in
theorem gX6_height_X2_has : GoodIn wsX6_height (wsV RX6 46 RX2 yX2_has wsX2_has) := goodIn_app (goodIn_of _ (by decide +kernel)) ggX6_height_X2_has
set_option maxRecDepth 20000 in
theorem ggX6_height_X6_place : GoodIn wsX6_height wsX6_place := goodIn_r _ [19] (by decide +kernel) (by decide +kernel)
set_option maxRecDepth 20000 in
theorem gX6_height_X6_place : GoodIn wsX6_height (va_wsS RX6 140 yX6_place wsX6_place) := goodIn_app (goodIn_of _ (by decide +kernel)) ggX6_height_X6_place
theorem dX6_height_0 : decode cX6_height 0 = .ok (.aload_n 0, 1) := by decide +kernel
theorem dX6_height_1 : decode cX6_height 1 = .ok (.getfield 39, 3) := by decide +kernel
theorem dX6_height_4 : decode cX6_height 4 = .ok (.iload_n 1, 1) := by decide +kernel
theorem dX6_height_5 : decode cX6_height 5 = .ok (.invokevirtual 134, 3) := by decide +kernel
theorem dX6_height_8 : decode cX6_height 8 = .ok (.ifCond .eq 14, 3) := by decide +kernel
theorem dX6_height_11 : decode cX6_height 11 = .ok (.aload_n 0, 1) := by decide +kernel
theorem dX6_height_12 : decode cX6_height 12 = .ok (.getfield 23, 3) := by decide +kernel
theorem dX6_height_15 : decode cX6_height 15 = .ok (.iload_n 2, 1) := by decide +kernel
theorem dX6_height_16 : decode cX6_height 16 = .ok (.invokevirtual 46, 3) := by decide +kernel
theorem dX6_height_19 : decode cX6_height 19 = .ok (.ifCond .ne 6, 3) := by decide +kernel
theorem dX6_height_22 : decode cX6_height 22 = .ok (.bipush (-2), 2) := by decide +kernel
theorem dX6_height_24 : decode cX6_height 24 = .ok (.ireturn, 1) := by decide +kernel
theorem dX6_height_25 : decode cX6_height 25 = .ok (.aload_n 0, 1) := by decide +kernel
theorem dX6_height_26 : decode cX6_height 26 = .ok (.getfield 39, 3) := by decide +kernel
theorem dX6_height_29 : decode cX6_height 29 = .ok (.getfield 137, 3) := by decide +kernel
theorem dX6_height_32 : decode cX6_height 32 = .ok (.iload_n 1, 1) := by decide +kernel
theorem dX6_height_33 : decode cX6_height 33 = .ok (.iload_n 2, 1) := by decide +kernel
theorem dX6_height_34 : decode cX6_height 34 = .ok (.invokestatic 140, 3) := by decide +kernel
theorem dX6_height_37 : decode cX6_height 37 = .ok (.iaload, 1) := by decide +kernel
theorem dX6_height_38 : decode cX6_height 38 = .ok (.ireturn, 1) := by decide +kernel
set_option maxRecDepth 20000 in
theorem ggX6_holds_X4_hasTurn : GoodIn wsX6_holds wsX4_hasTurn := goodIn_r _ [7, 8, 13, 14, 15, 16, 17, 18, 19, 20, 21, 22, 23, 24, 25] (by decide +kernel) (by decide +kernel)
set_option maxRecDepth 20000 in
theorem gX6_holds_X4_hasTurn : GoodIn wsX6_holds (wsV RX6 134 RX4 yX4_hasTurn wsX4_hasTurn) := goodIn_app (goodIn_of _ (by decide +kernel)) ggX6_holds_X4_hasTurn
theorem dX6_holds_0 : decode cX6_holds 0 = .ok (.aload_n 0, 1) := by decide +kernel
theorem dX6_holds_1 : decode cX6_holds 1 = .ok (.getfield 39, 3) := by decide +kernel
theorem dX6_holds_4 : decode cX6_holds 4 = .ok (.iload_n 1, 1) := by decide +kernel
theorem dX6_holds_5 : decode cX6_holds 5 = .ok (.invokevirtual 134, 3) := by decide +kernel
theorem dX6_holds_8 : decode cX6_holds 8 = .ok (.ifCond .ne 6, 3) := by decide +kernel
theorem dX6_holds_11 : decode cX6_holds 11 = .ok (.bipush (-2), 2) := by decide +kernel
theorem dX6_holds_13 : decode cX6_holds 13 = .ok (.ireturn, 1) := by decide +kernel
theorem dX6_holds_14 : decode cX6_holds 14 = .ok (.aload_n 0, 1) := by decide +kernel
theorem dX6_holds_15 : decode cX6_holds 15 = .ok (.getfield 39, 3) := by decide +kernel
theorem dX6_holds_18 : decode cX6_holds 18 = .ok (.getfield 143, 3) := by decide +kernel
theorem dX6_holds_21 : decode cX6_holds 21 = .ok (.iload_n 1, 1) := by decide +kernel
theorem dX6_holds_22 : decode cX6_holds 22 = .ok (.baload, 1) := by decide +kernel
theorem dX6_holds_23 : decode cX6_holds 23 = .ok (.ifCond .eq 7, 3) := by decide +kernel
theorem dX6_holds_26 : decode cX6_holds 26 = .ok (.iconst 1, 1) := by decide +kernel
theorem dX6_holds_27 : decode cX6_holds 27 = .ok (.goto 4, 3) := by decide +kernel
theorem dX6_holds_30 : decode cX6_holds 30 = .ok (.iconst 0, 1) := by decide +kernel
theorem dX6_holds_31 : decode cX6_holds 31 = .ok (.ireturn, 1) := by decide +kernel
theorem dX6_fails_0 : decode cX6_fails 0 = .ok (.aload_n 0, 1) := by decide +kernel
theorem dX6_fails_1 : decode cX6_fails 1 = .ok (.getfield 39, 3) := by decide +kernel
theorem dX6_fails_4 : decode cX6_fails 4 = .ok (.getfield 147, 3) := by decide +kernel
theorem dX6_fails_7 : decode cX6_fails 7 = .ok (.ifCond .ne 8, 3) := by decide +kernel
theorem dX6_fails_10 : decode cX6_fails 10 = .ok (.bipush (-4), 2) := by decide +kernel
theorem dX6_fails_12 : decode cX6_fails 12 = .ok (.goto 10, 3) := by decide +kernel
theorem dX6_fails_15 : decode cX6_fails 15 = .ok (.aload_n 0, 1) := by decide +kernel
theorem dX6_fails_16 : decode cX6_fails 16 = .ok (.getfield 39, 3) := by decide +kernel
theorem dX6_fails_19 : decode cX6_fails 19 = .ok (.getfield 149, 3) := by decide +kernel
theorem dX6_fails_22 : decode cX6_fails 22 = .ok (.ireturn, 1) := by decide +kernel
set_option maxRecDepth 20000 in
theorem ggX6_letter_X1_has : GoodIn wsX6_letter wsX1_has := goodIn_r _ [14, 15, 33, 34, 35, 36, 37, 38, 39, 40, 41] (by decide +kernel) (by decide +kernel)
set_option maxRecDepth 20000 in
theorem gX6_letter_X1_has : GoodIn wsX6_letter (wsV RX6 156 RX1 yX1_has wsX1_has) := goodIn_app (goodIn_of _ (by decide +kernel)) ggX6_letter_X1_has
theorem dX6_letter_0 : decode cX6_letter 0 = .ok (.aload_n 0, 1) := by decide +kernel
theorem dX6_letter_1 : decode cX6_letter 1 = .ok (.getfield 39, 3) := by decide +kernel
theorem dX6_letter_4 : decode cX6_letter 4 = .ok (.getfield 152, 3) := by decide +kernel
theorem dX6_letter_7 : decode cX6_letter 7 = .ok (.astore_n 3, 1) := by decide +kernel
theorem dX6_letter_8 : decode cX6_letter 8 = .ok (.aload_n 3, 1) := by decide +kernel
theorem dX6_letter_9 : decode cX6_letter 9 = .ok (.iload_n 1, 1) := by decide +kernel
theorem dX6_letter_10 : decode cX6_letter 10 = .ok (.invokevirtual 156, 3) := by decide +kernel
theorem dX6_letter_13 : decode cX6_letter 13 = .ok (.ifCond .ne 6, 3) := by decide +kernel
theorem dX6_letter_16 : decode cX6_letter 16 = .ok (.bipush (-2), 2) := by decide +kernel
theorem dX6_letter_18 : decode cX6_letter 18 = .ok (.ireturn, 1) := by decide +kernel
theorem dX6_letter_19 : decode cX6_letter 19 = .ok (.iload_n 2, 1) := by decide +kernel
theorem dX6_letter_20 : decode cX6_letter 20 = .ok (.tableswitch 93 0 6 #[44, 51, 58, 65, 72, 79, 86], 44) := by decide +kernel
theorem dX6_letter_64 : decode cX6_letter 64 = .ok (.aload_n 3, 1) := by decide +kernel
theorem dX6_letter_65 : decode cX6_letter 65 = .ok (.getfield 159, 3) := by decide +kernel
theorem dX6_letter_68 : decode cX6_letter 68 = .ok (.iload_n 1, 1) := by decide +kernel
theorem dX6_letter_69 : decode cX6_letter 69 = .ok (.iaload, 1) := by decide +kernel
theorem dX6_letter_70 : decode cX6_letter 70 = .ok (.ireturn, 1) := by decide +kernel
theorem dX6_letter_71 : decode cX6_letter 71 = .ok (.aload_n 3, 1) := by decide +kernel
theorem dX6_letter_72 : decode cX6_letter 72 = .ok (.getfield 162, 3) := by decide +kernel
theorem dX6_letter_75 : decode cX6_letter 75 = .ok (.iload_n 1, 1) := by decide +kernel
theorem dX6_letter_76 : decode cX6_letter 76 = .ok (.iaload, 1) := by decide +kernel
theorem dX6_letter_77 : decode cX6_letter 77 = .ok (.ireturn, 1) := by decide +kernel
theorem dX6_letter_78 : decode cX6_letter 78 = .ok (.aload_n 3, 1) := by decide +kernel
theorem dX6_letter_79 : decode cX6_letter 79 = .ok (.getfield 165, 3) := by decide +kernel
theorem dX6_letter_82 : decode cX6_letter 82 = .ok (.iload_n 1, 1) := by decide +kernel
theorem dX6_letter_83 : decode cX6_letter 83 = .ok (.iaload, 1) := by decide +kernel
theorem dX6_letter_84 : decode cX6_letter 84 = .ok (.ireturn, 1) := by decide +kernel
theorem dX6_letter_85 : decode cX6_letter 85 = .ok (.aload_n 3, 1) := by decide +kernel
theorem dX6_letter_86 : decode cX6_letter 86 = .ok (.getfield 166, 3) := by decide +kernel
theorem dX6_letter_89 : decode cX6_letter 89 = .ok (.iload_n 1, 1) := by decide +kernel
theorem dX6_letter_90 : decode cX6_letter 90 = .ok (.iaload, 1) := by decide +kernel
theorem dX6_letter_91 : decode cX6_letter 91 = .ok (.ireturn, 1) := by decide +kernel
theorem dX6_letter_92 : decode cX6_letter 92 = .ok (.aload_n 3, 1) := by decide +kernel
theorem dX6_letter_93 : decode cX6_letter 93 = .ok (.getfield 167, 3) := by decide +kernel
theorem dX6_letter_96 : decode cX6_letter 96 = .ok (.iload_n 1, 1) := by decide +kernel
theorem dX6_letter_97 : decode cX6_letter 97 = .ok (.iaload, 1) := by decide +kernel
theorem dX6_letter_98 : decode cX6_letter 98 = .ok (.ireturn, 1) := by decide +kernel
theorem dX6_letter_99 : decode cX6_letter 99 = .ok (.aload_n 3, 1) := by decide +kernel
theorem dX6_letter_100 : decode cX6_letter 100 = .ok (.getfield 168, 3) := by decide +kernel
theorem dX6_letter_103 : decode cX6_letter 103 = .ok (.iload_n 1, 1) := by decide +kernel
theorem dX6_letter_104 : decode cX6_letter 104 = .ok (.iaload, 1) := by decide +kernel
theorem dX6_letter_105 : decode cX6_letter 105 = .ok (.ireturn, 1) := by decide +kernel
theorem dX6_letter_106 : decode cX6_letter 106 = .ok (.aload_n 3, 1) := by decide +kernel
theorem dX6_letter_107 : decode cX6_letter 107 = .ok (.getfield 171, 3) := by decide +kernel
theorem dX6_letter_110 : decode cX6_letter 110 = .ok (.iload_n 1, 1) := by decide +kernel
theorem dX6_letter_111 : decode cX6_letter 111 = .ok (.iaload, 1) := by decide +kernel
theorem dX6_letter_112 : decode cX6_letter 112 = .ok (.ireturn, 1) := by decide +kernel
theorem dX6_letter_113 : decode cX6_letter 113 = .ok (.bipush (-2), 2) := by decide +kernel
theorem dX6_letter_115 : decode cX6_letter 115 = .ok (.ireturn, 1) := by decide +kernel
set_option maxRecDepth 20000 in
theorem ggX6_reached_X6_isRumour : GoodIn wsX6_reached wsX6_isRumour := goodIn_r _ [7] (by decide +kernel) (by decide +kernel)
set_option maxRecDepth 20000 in
theorem gX6_reached_X6_isRumour : GoodIn wsX6_reached (va_wsS RX6 63 yX6_isRumour wsX6_isRumour) := goodIn_app (goodIn_of _ (by decide +kernel)) ggX6_reached_X6_isRumour
set_option maxRecDepth 20000 in
theorem ggX6_reached_X3_thatKnow : GoodIn wsX6_reached wsX3_thatKnow := goodIn_r _ [12, 13, 14, 15, 33, 34, 35, 36, 37, 38, 39, 40, 41, 42, 43] (by decide +kernel) (by decide +kernel)
set_option maxRecDepth 20000 in
theorem gX6_reached_X3_thatKnow : GoodIn wsX6_reached (wsV RX6 174 RX3 yX3_thatKnow wsX3_thatKnow) := goodIn_app (goodIn_of _ (by decide +kernel)) ggX6_reached_X3_thatKnow
theorem dX6_reached_0 : decode cX6_reached 0 = .ok (.iload_n 1, 1) := by decide +kernel
theorem dX6_reached_1 : decode cX6_reached 1 = .ok (.invokestatic 63, 3) := by decide +kernel
theorem dX6_reached_4 : decode cX6_reached 4 = .ok (.ifCond .ne 6, 3) := by decide +kernel
theorem dX6_reached_7 : decode cX6_reached 7 = .ok (.bipush (-2), 2) := by decide +kernel
theorem dX6_reached_9 : decode cX6_reached 9 = .ok (.ireturn, 1) := by decide +kernel
theorem dX6_reached_10 : decode cX6_reached 10 = .ok (.aload_n 0, 1) := by decide +kernel
theorem dX6_reached_11 : decode cX6_reached 11 = .ok (.getfield 39, 3) := by decide +kernel
theorem dX6_reached_14 : decode cX6_reached 14 = .ok (.getfield 147, 3) := by decide +kernel
theorem dX6_reached_17 : decode cX6_reached 17 = .ok (.ifCond .ne 8, 3) := by decide +kernel
theorem dX6_reached_20 : decode cX6_reached 20 = .ok (.bipush (-4), 2) := by decide +kernel
theorem dX6_reached_22 : decode cX6_reached 22 = .ok (.goto 14, 3) := by decide +kernel
theorem dX6_reached_25 : decode cX6_reached 25 = .ok (.aload_n 0, 1) := by decide +kernel
theorem dX6_reached_26 : decode cX6_reached 26 = .ok (.getfield 39, 3) := by decide +kernel
theorem dX6_reached_29 : decode cX6_reached 29 = .ok (.getfield 124, 3) := by decide +kernel
theorem dX6_reached_32 : decode cX6_reached 32 = .ok (.iload_n 1, 1) := by decide +kernel
theorem dX6_reached_33 : decode cX6_reached 33 = .ok (.invokevirtual 174, 3) := by decide +kernel
theorem dX6_reached_36 : decode cX6_reached 36 = .ok (.ireturn, 1) := by decide +kernel
set_option maxRecDepth 20000 in
theorem ggX6_bytes_X2_has : GoodIn wsX6_bytes wsX2_has := goodIn_r _ [9, 10, 43, 44, 45, 46] (by decide +kernel) (by decide +kernel)
set_option maxRecDepth 20000 in
theorem gX6_bytes_X2_has : GoodIn wsX6_bytes (wsV RX6 46 RX2 yX2_has wsX2_has) := goodIn_app (goodIn_of _ (by decide +kernel)) ggX6_bytes_X2_has
set_option maxRecDepth 20000 in
theorem ggX6_bytes_X1_bytesFrom : GoodIn wsX6_bytes wsX1_bytesFrom := goodIn_r _ [15, 16, 17, 18, 19, 20, 21, 22, 23, 24, 25, 47, 48, 49, 50, 51, 52, 53, 54, 55] (by decide +kernel) (by decide +kernel)
set_option maxRecDepth 20000 in
theorem gX6_bytes_X1_bytesFrom : GoodIn wsX6_bytes (wsV RX6 177 RX1 yX1_bytesFrom wsX1_bytesFrom) := goodIn_app (goodIn_of _ (by decide +kernel)) ggX6_bytes_X1_bytesFrom
theorem dX6_bytes_0 : decode cX6_bytes 0 = .ok (.aload_n 0, 1) := by decide +kernel
theorem dX6_bytes_1 : decode cX6_bytes 1 = .ok (.getfield 23, 3) := by decide +kernel
theorem dX6_bytes_4 : decode cX6_bytes 4 = .ok (.iload_n 1, 1) := by decide +kernel
theorem dX6_bytes_5 : decode cX6_bytes 5 = .ok (.invokevirtual 46, 3) := by decide +kernel
theorem dX6_bytes_8 : decode cX6_bytes 8 = .ok (.ifCond .ne 6, 3) := by decide +kernel
theorem dX6_bytes_11 : decode cX6_bytes 11 = .ok (.bipush (-2), 2) := by decide +kernel
theorem dX6_bytes_13 : decode cX6_bytes 13 = .ok (.ireturn, 1) := by decide +kernel
theorem dX6_bytes_14 : decode cX6_bytes 14 = .ok (.aload_n 0, 1) := by decide +kernel
theorem dX6_bytes_15 : decode cX6_bytes 15 = .ok (.getfield 39, 3) := by decide +kernel
theorem dX6_bytes_18 : decode cX6_bytes 18 = .ok (.getfield 147, 3) := by decide +kernel
theorem dX6_bytes_21 : decode cX6_bytes 21 = .ok (.ifCond .ne 8, 3) := by decide +kernel
theorem dX6_bytes_24 : decode cX6_bytes 24 = .ok (.bipush (-4), 2) := by decide +kernel
theorem dX6_bytes_26 : decode cX6_bytes 26 = .ok (.goto 14, 3) := by decide +kernel
theorem dX6_bytes_29 : decode cX6_bytes 29 = .ok (.aload_n 0, 1) := by decide +kernel
theorem dX6_bytes_30 : decode cX6_bytes 30 = .ok (.getfield 39, 3) := by decide +kernel
theorem dX6_bytes_33 : decode cX6_bytes 33 = .ok (.getfield 152, 3) := by decide +kernel
theorem dX6_bytes_36 : decode cX6_bytes 36 = .ok (.iload_n 1, 1) := by decide +kernel
theorem dX6_bytes_37 : decode cX6_bytes 37 = .ok (.invokevirtual 177, 3) := by decide +kernel
theorem dX6_bytes_40 : decode cX6_bytes 40 = .ok (.ireturn, 1) := by decide +kernel
set_option maxRecDepth 20000 in
theorem ggX6_shrink_X4_run : GoodIn wsX6_shrink wsX4_run := goodIn_r _ [11, 12, 13, 14, 15, 16, 17, 18, 10, 19, 20, 21, 22, 23, 24, 25, 26, 27, 28, 29, 30, 31, 32, 33, 34, 35, 36, 37, 38, 39, 40, 41, 42, 43, 44, 45, 46, 47, 48, 49, 50, 51, 52, 53, 54, 55, 56, 57, 58, 59, 60, 61, 62, 63, 64, 65, 66, 67, 68, 69, 70, 71, 72, 73, 74, 75, 76, 77, 78, 79, 80, 81, 82, 83, 84, 85, 86, 87, 88, 89, 90, 91, 92, 93, 94, 95, 96, 97, 98, 99, 100, 101, 102, 103, 104, 105, 106, 107, 108, 109, 110, 111, 112, 113, 114, 115, 116, 117, 118, 119, 120, 121, 122, 123, 124, 125, 126, 127, 128, 129, 130, 131, 132, 133, 134, 135, 136, 137, 138, 139, 140, 141, 142, 143, 144, 145, 146, 147, 148, 149, 150, 151, 152, 153, 154, 155, 156, 157, 158, 159, 160, 161, 162, 163, 164, 165, 166, 167, 168, 169, 170, 171, 172, 173, 174, 175, 176, 177, 178, 179, 180, 181, 182, 183, 184, 185, 186, 187, 188, 189, 190, 191, 192, 193, 194, 195, 196, 197, 198, 199, 200, 201, 202, 203, 204, 205, 206, 207, 208, 209, 210, 211, 212, 213, 214, 215, 216, 217, 218, 219, 220, 221, 222, 223, 224, 225, 226, 227, 228, 229, 230, 231, 232, 233, 234, 235, 236, 237, 238, 239, 240, 241, 242, 243, 244, 245, 246, 247, 248, 271, 272, 273, 274, 275, 276, 277, 278, 279, 280, 281, 282, 283, 291, 292, 293, 294, 295, 296, 297, 298, 299, 300, 301, 302, 303, 304, 305, 306, 307, 308, 309, 310, 311, 312, 313, 314, 315, 284, 285, 286, 287, 288, 289, 290] (by decide +kernel) (by decide +kernel)
set_option maxRecDepth 20000 in
theorem gX6_shrink_X4_run : GoodIn wsX6_shrink (wsV RX6 120 RX4 yX4_run wsX4_run) := goodIn_app (goodIn_of _ (by decide +kernel)) ggX6_shrink_X4_run
set_option maxRecDepth 20000 in
theorem ggX6_shrink_X5_removeLeftOut : GoodIn wsX6_shrink wsX5_removeLeftOut := goodIn_r _ [252, 211, 75, 253, 254, 255, 73, 256, 76, 77, 216, 221, 257, 258, 259, 260, 261, 262, 263, 264, 200, 265, 79, 266, 201, 202, 284, 285, 286, 287, 288, 289, 290] (by decide +kernel) (by decide +kernel)
set_option maxRecDepth 20000 in
theorem gX6_shrink_X5_removeLeftOut : GoodIn wsX6_shrink (wsV RX6 183 RX5 yX5_removeLeftOut wsX5_removeLeftOut) := goodIn_app (goodIn_of _ (by decide +kernel)) ggX6_shrink_X5_removeLeftOut
theorem dX6_shrink_0 : decode cX6_shrink 0 = .ok (.aload_n 0, 1) := by decide +kernel
theorem dX6_shrink_1 : decode cX6_shrink 1 = .ok (.getfield 39, 3) := by decide +kernel
theorem dX6_shrink_4 : decode cX6_shrink 4 = .ok (.getfield 147, 3) := by decide +kernel
theorem dX6_shrink_7 : decode cX6_shrink 7 = .ok (.istore_n 1, 1) := by decide +kernel
theorem dX6_shrink_8 : decode cX6_shrink 8 = .ok (.iload_n 1, 1) := by decide +kernel
theorem dX6_shrink_9 : decode cX6_shrink 9 = .ok (.ifCond .eq 15, 3) := by decide +kernel
theorem dX6_shrink_12 : decode cX6_shrink 12 = .ok (.aload_n 0, 1) := by decide +kernel
theorem dX6_shrink_13 : decode cX6_shrink 13 = .ok (.getfield 43, 3) := by decide +kernel
theorem dX6_shrink_16 : decode cX6_shrink 16 = .ok (.iload_n 1, 1) := by decide +kernel
theorem dX6_shrink_17 : decode cX6_shrink 17 = .ok (.iconst 0, 1) := by decide +kernel
theorem dX6_shrink_18 : decode cX6_shrink 18 = .ok (.invokevirtual 120, 3) := by decide +kernel
theorem dX6_shrink_21 : decode cX6_shrink 21 = .ok (.ifCond .ne 6, 3) := by decide +kernel
theorem dX6_shrink_24 : decode cX6_shrink 24 = .ok (.bipush (-4), 2) := by decide +kernel
theorem dX6_shrink_26 : decode cX6_shrink 26 = .ok (.ireturn, 1) := by decide +kernel
theorem dX6_shrink_27 : decode cX6_shrink 27 = .ok (.aload_n 0, 1) := by decide +kernel
theorem dX6_shrink_28 : decode cX6_shrink 28 = .ok (.getfield 30, 3) := by decide +kernel
theorem dX6_shrink_31 : decode cX6_shrink 31 = .ok (.getfield 104, 3) := by decide +kernel
theorem dX6_shrink_34 : decode cX6_shrink 34 = .ok (.iconst 1, 1) := by decide +kernel
theorem dX6_shrink_35 : decode cX6_shrink 35 = .ok (.isub, 1) := by decide +kernel
theorem dX6_shrink_36 : decode cX6_shrink 36 = .ok (.istore_n 2, 1) := by decide +kernel
theorem dX6_shrink_37 : decode cX6_shrink 37 = .ok (.iload_n 2, 1) := by decide +kernel
theorem dX6_shrink_38 : decode cX6_shrink 38 = .ok (.ifCond .lt 37, 3) := by decide +kernel
theorem dX6_shrink_41 : decode cX6_shrink 41 = .ok (.aload_n 0, 1) := by decide +kernel
theorem dX6_shrink_42 : decode cX6_shrink 42 = .ok (.getfield 30, 3) := by decide +kernel
theorem dX6_shrink_45 : decode cX6_shrink 45 = .ok (.getfield 180, 3) := by decide +kernel
theorem dX6_shrink_48 : decode cX6_shrink 48 = .ok (.iload_n 2, 1) := by decide +kernel
theorem dX6_shrink_49 : decode cX6_shrink 49 = .ok (.iconst 1, 1) := by decide +kernel
theorem dX6_shrink_50 : decode cX6_shrink 50 = .ok (.bastore, 1) := by decide +kernel
theorem dX6_shrink_51 : decode cX6_shrink 51 = .ok (.aload_n 0, 1) := by decide +kernel
theorem dX6_shrink_52 : decode cX6_shrink 52 = .ok (.getfield 30, 3) := by decide +kernel
theorem dX6_shrink_55 : decode cX6_shrink 55 = .ok (.getfield 180, 3) := by decide +kernel
theorem dX6_shrink_58 : decode cX6_shrink 58 = .ok (.iload_n 2, 1) := by decide +kernel
theorem dX6_shrink_59 : decode cX6_shrink 59 = .ok (.aload_n 0, 1) := by decide +kernel
theorem dX6_shrink_60 : decode cX6_shrink 60 = .ok (.getfield 43, 3) := by decide +kernel
theorem dX6_shrink_63 : decode cX6_shrink 63 = .ok (.iload_n 1, 1) := by decide +kernel
theorem dX6_shrink_64 : decode cX6_shrink 64 = .ok (.iconst 0, 1) := by decide +kernel
theorem dX6_shrink_65 : decode cX6_shrink 65 = .ok (.invokevirtual 120, 3) := by decide +kernel
theorem dX6_shrink_68 : decode cX6_shrink 68 = .ok (.bastore, 1) := by decide +kernel
theorem dX6_shrink_69 : decode cX6_shrink 69 = .ok (.iinc 2 (-1), 3) := by decide +kernel
theorem dX6_shrink_72 : decode cX6_shrink 72 = .ok (.goto (-35), 3) := by decide +kernel
theorem dX6_shrink_75 : decode cX6_shrink 75 = .ok (.aload_n 0, 1) := by decide +kernel
theorem dX6_shrink_76 : decode cX6_shrink 76 = .ok (.getfield 30, 3) := by decide +kernel
theorem dX6_shrink_79 : decode cX6_shrink 79 = .ok (.invokevirtual 183, 3) := by decide +kernel
theorem dX6_shrink_82 : decode cX6_shrink 82 = .ok (.aload_n 0, 1) := by decide +kernel
theorem dX6_shrink_83 : decode cX6_shrink 83 = .ok (.getfield 39, 3) := by decide +kernel
theorem dX6_shrink_86 : decode cX6_shrink 86 = .ok (.iload_n 1, 1) := by decide +kernel
theorem dX6_shrink_87 : decode cX6_shrink 87 = .ok (.iconst 0, 1) := by decide +kernel
theorem dX6_shrink_88 : decode cX6_shrink 88 = .ok (.invokevirtual 120, 3) := by decide +kernel
theorem dX6_shrink_91 : decode cX6_shrink 91 = .ok (.pop, 1) := by decide +kernel
theorem dX6_shrink_92 : decode cX6_shrink 92 = .ok (.aload_n 0, 1) := by decide +kernel
theorem dX6_shrink_93 : decode cX6_shrink 93 = .ok (.getfield 30, 3) := by decide +kernel
theorem dX6_shrink_96 : decode cX6_shrink 96 = .ok (.getfield 104, 3) := by decide +kernel
theorem dX6_shrink_99 : decode cX6_shrink 99 = .ok (.ireturn, 1) := by decide +kernel
set_option maxRecDepth 20000 in
theorem ggX6_minimal_X4_run : GoodIn wsX6_minimal wsX4_run := goodIn_r _ [11, 12, 13, 14, 15, 16, 17, 18, 10, 19, 20, 21, 22, 23, 24, 25, 26, 27, 28, 29, 30, 31, 32, 33, 34, 35, 36, 37, 38, 39, 40, 41, 42, 43, 44, 45, 46, 47, 48, 49, 50, 51, 52, 53, 54, 55, 56, 57, 58, 59, 60, 61, 62, 63, 64, 65, 66, 67, 68, 69, 70, 71, 72, 73, 74, 75, 76, 77, 78, 79, 80, 81, 82, 83, 84, 85, 86, 87, 88, 89, 90, 91, 92, 93, 94, 95, 96, 97, 98, 99, 100, 101, 102, 103, 104, 105, 106, 107, 108, 109, 110, 111, 112, 113, 114, 115, 116, 117, 118, 119, 120, 121, 122, 123, 124, 125, 126, 127, 128, 129, 130, 131, 132, 133, 134, 135, 136, 137, 138, 139, 140, 141, 142, 143, 144, 145, 146, 147, 148, 149, 150, 151, 152, 153, 154, 155, 156, 157, 158, 159, 160, 161, 162, 163, 164, 165, 166, 167, 168, 169, 170, 171, 172, 173, 174, 175, 176, 177, 178, 179, 180, 181, 182, 183, 184, 185, 186, 187, 188, 189, 190, 191, 192, 193, 194, 195, 196, 197, 198, 199, 200, 201, 202, 203, 204, 205, 206, 207, 208, 209, 210, 211, 212, 213, 214, 215, 216, 217, 218, 219, 220, 221, 222, 223, 224, 225, 226, 227, 228, 229, 230, 231, 232, 233, 234, 235, 236, 237, 238, 239, 240, 241, 242, 243, 244, 245, 246, 247, 248, 253, 254, 255, 256, 257, 258, 259, 260, 261, 262, 263, 264, 265, 273, 274, 275, 276, 277, 278, 279, 280, 281, 282, 283, 284, 285, 286, 287, 288, 289, 290, 291, 292, 293, 294, 295, 296, 297, 266, 267, 268, 269, 270, 271, 272] (by decide +kernel) (by decide +kernel)
set_option maxRecDepth 20000 in
theorem gX6_minimal_X4_run : GoodIn wsX6_minimal (wsV RX6 120 RX4 yX4_run wsX4_run) := goodIn_app (goodIn_of _ (by decide +kernel)) ggX6_minimal_X4_run
theorem dX6_minimal_0 : decode cX6_minimal 0 = .ok (.aload_n 0, 1) := by decide +kernel
theorem dX6_minimal_1 : decode cX6_minimal 1 = .ok (.getfield 39, 3) := by decide +kernel
theorem dX6_minimal_4 : decode cX6_minimal 4 = .ok (.getfield 147, 3) := by decide +kernel
theorem dX6_minimal_7 : decode cX6_minimal 7 = .ok (.istore_n 1, 1) := by decide +kernel
theorem dX6_minimal_8 : decode cX6_minimal 8 = .ok (.iload_n 1, 1) := by decide +kernel
theorem dX6_minimal_9 : decode cX6_minimal 9 = .ok (.ifCond .ne 6, 3) := by decide +kernel
theorem dX6_minimal_12 : decode cX6_minimal 12 = .ok (.bipush (-4), 2) := by decide +kernel
theorem dX6_minimal_14 : decode cX6_minimal 14 = .ok (.ireturn, 1) := by decide +kernel
theorem dX6_minimal_15 : decode cX6_minimal 15 = .ok (.aload_n 0, 1) := by decide +kernel
theorem dX6_minimal_16 : decode cX6_minimal 16 = .ok (.getfield 43, 3) := by decide +kernel
theorem dX6_minimal_19 : decode cX6_minimal 19 = .ok (.iload_n 1, 1) := by decide +kernel
theorem dX6_minimal_20 : decode cX6_minimal 20 = .ok (.iconst 0, 1) := by decide +kernel
theorem dX6_minimal_21 : decode cX6_minimal 21 = .ok (.invokevirtual 120, 3) := by decide +kernel
theorem dX6_minimal_24 : decode cX6_minimal 24 = .ok (.istore_n 2, 1) := by decide +kernel
theorem dX6_minimal_25 : decode cX6_minimal 25 = .ok (.iconst 0, 1) := by decide +kernel
theorem dX6_minimal_26 : decode cX6_minimal 26 = .ok (.istore_n 3, 1) := by decide +kernel
theorem dX6_minimal_27 : decode cX6_minimal 27 = .ok (.iload_n 3, 1) := by decide +kernel
theorem dX6_minimal_28 : decode cX6_minimal 28 = .ok (.aload_n 0, 1) := by decide +kernel
theorem dX6_minimal_29 : decode cX6_minimal 29 = .ok (.getfield 30, 3) := by decide +kernel
theorem dX6_minimal_32 : decode cX6_minimal 32 = .ok (.getfield 104, 3) := by decide +kernel
theorem dX6_minimal_35 : decode cX6_minimal 35 = .ok (.if_icmp .ge 51, 3) := by decide +kernel
theorem dX6_minimal_38 : decode cX6_minimal 38 = .ok (.iload_n 2, 1) := by decide +kernel
theorem dX6_minimal_39 : decode cX6_minimal 39 = .ok (.ifCond .eq 47, 3) := by decide +kernel
theorem dX6_minimal_42 : decode cX6_minimal 42 = .ok (.aload_n 0, 1) := by decide +kernel
theorem dX6_minimal_43 : decode cX6_minimal 43 = .ok (.getfield 30, 3) := by decide +kernel
theorem dX6_minimal_46 : decode cX6_minimal 46 = .ok (.getfield 180, 3) := by decide +kernel
theorem dX6_minimal_49 : decode cX6_minimal 49 = .ok (.iload_n 3, 1) := by decide +kernel
theorem dX6_minimal_50 : decode cX6_minimal 50 = .ok (.iconst 1, 1) := by decide +kernel
theorem dX6_minimal_51 : decode cX6_minimal 51 = .ok (.bastore, 1) := by decide +kernel
theorem dX6_minimal_52 : decode cX6_minimal 52 = .ok (.aload_n 0, 1) := by decide +kernel
theorem dX6_minimal_53 : decode cX6_minimal 53 = .ok (.getfield 43, 3) := by decide +kernel
theorem dX6_minimal_56 : decode cX6_minimal 56 = .ok (.iload_n 1, 1) := by decide +kernel
theorem dX6_minimal_57 : decode cX6_minimal 57 = .ok (.iconst 0, 1) := by decide +kernel
theorem dX6_minimal_58 : decode cX6_minimal 58 = .ok (.invokevirtual 120, 3) := by decide +kernel
theorem dX6_minimal_61 : decode cX6_minimal 61 = .ok (.ifCond .ne 7, 3) := by decide +kernel
theorem dX6_minimal_64 : decode cX6_minimal 64 = .ok (.iconst 1, 1) := by decide +kernel
theorem dX6_minimal_65 : decode cX6_minimal 65 = .ok (.goto 4, 3) := by decide +kernel
theorem dX6_minimal_68 : decode cX6_minimal 68 = .ok (.iconst 0, 1) := by decide +kernel
theorem dX6_minimal_69 : decode cX6_minimal 69 = .ok (.istore_n 2, 1) := by decide +kernel
theorem dX6_minimal_70 : decode cX6_minimal 70 = .ok (.aload_n 0, 1) := by decide +kernel
theorem dX6_minimal_71 : decode cX6_minimal 71 = .ok (.getfield 30, 3) := by decide +kernel
theorem dX6_minimal_74 : decode cX6_minimal 74 = .ok (.getfield 180, 3) := by decide +kernel
theorem dX6_minimal_77 : decode cX6_minimal 77 = .ok (.iload_n 3, 1) := by decide +kernel
theorem dX6_minimal_78 : decode cX6_minimal 78 = .ok (.iconst 0, 1) := by decide +kernel
theorem dX6_minimal_79 : decode cX6_minimal 79 = .ok (.bastore, 1) := by decide +kernel
theorem dX6_minimal_80 : decode cX6_minimal 80 = .ok (.iinc 3 1, 3) := by decide +kernel
theorem dX6_minimal_83 : decode cX6_minimal 83 = .ok (.goto (-56), 3) := by decide +kernel
theorem dX6_minimal_86 : decode cX6_minimal 86 = .ok (.iload_n 2, 1) := by decide +kernel
theorem dX6_minimal_87 : decode cX6_minimal 87 = .ok (.ifCond .eq 7, 3) := by decide +kernel
theorem dX6_minimal_90 : decode cX6_minimal 90 = .ok (.iconst 1, 1) := by decide +kernel
theorem dX6_minimal_91 : decode cX6_minimal 91 = .ok (.goto 4, 3) := by decide +kernel
theorem dX6_minimal_94 : decode cX6_minimal 94 = .ok (.iconst 0, 1) := by decide +kernel
theorem dX6_minimal_95 : decode cX6_minimal 95 = .ok (.ireturn, 1) := by decide +kernel
set_option maxRecDepth 20000 in
theorem ggX6_sets_X4_run : GoodIn wsX6_sets wsX4_run := goodIn_r _ [8, 9, 10, 11, 12, 13, 14, 15, 7, 16, 17, 18, 19, 20, 21, 22, 23, 24, 25, 26, 27, 28, 29, 30, 31, 32, 33, 34, 35, 36, 37, 38, 39, 40, 41, 42, 43, 44, 45, 46, 47, 48, 49, 50, 51, 52, 53, 54, 55, 56, 57, 58, 59, 60, 61, 62, 63, 64, 65, 66, 67, 68, 69, 70, 71, 72, 73, 74, 75, 76, 77, 78, 79, 80, 81, 82, 83, 84, 85, 86, 87, 88, 89, 90, 91, 92, 93, 94, 95, 96, 97, 98, 99, 100, 101, 102, 103, 104, 105, 106, 107, 108, 109, 110, 111, 112, 113, 114, 115, 116, 117, 118, 119, 120, 121, 122, 123, 124, 125, 126, 127, 128, 129, 130, 131, 132, 133, 134, 135, 136, 137, 138, 139, 140, 141, 142, 143, 144, 145, 146, 147, 148, 149, 150, 151, 152, 153, 154, 155, 156, 157, 158, 159, 160, 161, 162, 163, 164, 165, 166, 167, 168, 169, 170, 171, 172, 173, 174, 175, 176, 177, 178, 179, 180, 181, 182, 183, 184, 185, 186, 187, 188, 189, 190, 191, 192, 193, 194, 195, 196, 197, 198, 199, 200, 201, 202, 203, 204, 205, 206, 207, 208, 209, 210, 211, 212, 213, 214, 215, 216, 217, 218, 219, 220, 221, 222, 223, 224, 225, 226, 227, 228, 229, 230, 231, 232, 233, 234, 235, 236, 237, 238, 239, 240, 241, 242, 243, 244, 245, 250, 251, 252, 253, 254, 255, 256, 257, 258, 259, 260, 261, 262, 263, 264, 265, 266, 267, 268, 269, 270, 271, 272, 273, 274, 275, 276, 277, 278, 279, 280, 281, 282, 283, 284, 285, 286, 287, 288, 289, 290, 291, 292, 293, 294] (by decide +kernel) (by decide +kernel)
set_option maxRecDepth 20000 in
theorem gX6_sets_X4_run : GoodIn wsX6_sets (wsV RX6 120 RX4 yX4_run wsX4_run) := goodIn_app (goodIn_of _ (by decide +kernel)) ggX6_sets_X4_run
theorem dX6_sets_0 : decode cX6_sets 0 = .ok (.iload_n 1, 1) := by decide +kernel
theorem dX6_sets_1 : decode cX6_sets 1 = .ok (.ifCond .lt 8, 3) := by decide +kernel
theorem dX6_sets_4 : decode cX6_sets 4 = .ok (.iload_n 1, 1) := by decide +kernel
theorem dX6_sets_5 : decode cX6_sets 5 = .ok (.iconst 5, 1) := by decide +kernel
theorem dX6_sets_6 : decode cX6_sets 6 = .ok (.if_icmp .le 6, 3) := by decide +kernel
theorem dX6_sets_9 : decode cX6_sets 9 = .ok (.bipush (-3), 2) := by decide +kernel
theorem dX6_sets_11 : decode cX6_sets 11 = .ok (.ireturn, 1) := by decide +kernel
theorem dX6_sets_12 : decode cX6_sets 12 = .ok (.aload_n 0, 1) := by decide +kernel
theorem dX6_sets_13 : decode cX6_sets 13 = .ok (.getfield 39, 3) := by decide +kernel
theorem dX6_sets_16 : decode cX6_sets 16 = .ok (.getfield 147, 3) := by decide +kernel
theorem dX6_sets_19 : decode cX6_sets 19 = .ok (.ifCond .ne 6, 3) := by decide +kernel
theorem dX6_sets_22 : decode cX6_sets 22 = .ok (.bipush (-4), 2) := by decide +kernel
theorem dX6_sets_24 : decode cX6_sets 24 = .ok (.ireturn, 1) := by decide +kernel
theorem dX6_sets_25 : decode cX6_sets 25 = .ok (.iconst 0, 1) := by decide +kernel
theorem dX6_sets_26 : decode cX6_sets 26 = .ok (.istore_n 2, 1) := by decide +kernel
theorem dX6_sets_27 : decode cX6_sets 27 = .ok (.iconst 0, 1) := by decide +kernel
theorem dX6_sets_28 : decode cX6_sets 28 = .ok (.istore_n 3, 1) := by decide +kernel
theorem dX6_sets_29 : decode cX6_sets 29 = .ok (.iload_n 3, 1) := by decide +kernel
theorem dX6_sets_30 : decode cX6_sets 30 = .ok (.iconst 1, 1) := by decide +kernel
theorem dX6_sets_31 : decode cX6_sets 31 = .ok (.iload_n 1, 1) := by decide +kernel
theorem dX6_sets_32 : decode cX6_sets 32 = .ok (.ishl, 1) := by decide +kernel
theorem dX6_sets_33 : decode cX6_sets 33 = .ok (.if_icmp .ge 30, 3) := by decide +kernel
theorem dX6_sets_36 : decode cX6_sets 36 = .ok (.aload_n 0, 1) := by decide +kernel
theorem dX6_sets_37 : decode cX6_sets 37 = .ok (.getfield 43, 3) := by decide +kernel
theorem dX6_sets_40 : decode cX6_sets 40 = .ok (.aload_n 0, 1) := by decide +kernel
theorem dX6_sets_41 : decode cX6_sets 41 = .ok (.getfield 39, 3) := by decide +kernel
theorem dX6_sets_44 : decode cX6_sets 44 = .ok (.getfield 147, 3) := by decide +kernel
theorem dX6_sets_47 : decode cX6_sets 47 = .ok (.iload_n 3, 1) := by decide +kernel
theorem dX6_sets_48 : decode cX6_sets 48 = .ok (.invokevirtual 120, 3) := by decide +kernel
theorem dX6_sets_51 : decode cX6_sets 51 = .ok (.ifCond .eq 6, 3) := by decide +kernel
theorem dX6_sets_54 : decode cX6_sets 54 = .ok (.iinc 2 1, 3) := by decide +kernel
theorem dX6_sets_57 : decode cX6_sets 57 = .ok (.iinc 3 1, 3) := by decide +kernel
theorem dX6_sets_60 : decode cX6_sets 60 = .ok (.goto (-31), 3) := by decide +kernel
theorem dX6_sets_63 : decode cX6_sets 63 = .ok (.iload_n 2, 1) := by decide +kernel
theorem dX6_sets_64 : decode cX6_sets 64 = .ok (.ireturn, 1) := by decide +kernel
theorem dX6_count_0 : decode cX6_count 0 = .ok (.iload_n 1, 1) := by decide +kernel
theorem dX6_count_1 : decode cX6_count 1 = .ok (.tableswitch 105 0 6 #[43, 51, 59, 67, 78, 89, 97], 43) := by decide +kernel
theorem dX6_count_44 : decode cX6_count 44 = .ok (.aload_n 0, 1) := by decide +kernel
theorem dX6_count_45 : decode cX6_count 45 = .ok (.getfield 23, 3) := by decide +kernel
theorem dX6_count_48 : decode cX6_count 48 = .ok (.getfield 186, 3) := by decide +kernel
theorem dX6_count_51 : decode cX6_count 51 = .ok (.ireturn, 1) := by decide +kernel
theorem dX6_count_52 : decode cX6_count 52 = .ok (.aload_n 0, 1) := by decide +kernel
theorem dX6_count_53 : decode cX6_count 53 = .ok (.getfield 30, 3) := by decide +kernel
theorem dX6_count_56 : decode cX6_count 56 = .ok (.getfield 104, 3) := by decide +kernel
theorem dX6_count_59 : decode cX6_count 59 = .ok (.ireturn, 1) := by decide +kernel
theorem dX6_count_60 : decode cX6_count 60 = .ok (.aload_n 0, 1) := by decide +kernel
theorem dX6_count_61 : decode cX6_count 61 = .ok (.getfield 39, 3) := by decide +kernel
theorem dX6_count_64 : decode cX6_count 64 = .ok (.getfield 147, 3) := by decide +kernel
theorem dX6_count_67 : decode cX6_count 67 = .ok (.ireturn, 1) := by decide +kernel
theorem dX6_count_68 : decode cX6_count 68 = .ok (.aload_n 0, 1) := by decide +kernel
theorem dX6_count_69 : decode cX6_count 69 = .ok (.getfield 39, 3) := by decide +kernel
theorem dX6_count_72 : decode cX6_count 72 = .ok (.getfield 152, 3) := by decide +kernel
theorem dX6_count_75 : decode cX6_count 75 = .ok (.getfield 187, 3) := by decide +kernel
theorem dX6_count_78 : decode cX6_count 78 = .ok (.ireturn, 1) := by decide +kernel
theorem dX6_count_79 : decode cX6_count 79 = .ok (.aload_n 0, 1) := by decide +kernel
theorem dX6_count_80 : decode cX6_count 80 = .ok (.getfield 39, 3) := by decide +kernel
theorem dX6_count_83 : decode cX6_count 83 = .ok (.getfield 152, 3) := by decide +kernel
theorem dX6_count_86 : decode cX6_count 86 = .ok (.getfield 188, 3) := by decide +kernel
theorem dX6_count_89 : decode cX6_count 89 = .ok (.ireturn, 1) := by decide +kernel
theorem dX6_count_90 : decode cX6_count 90 = .ok (.aload_n 0, 1) := by decide +kernel
theorem dX6_count_91 : decode cX6_count 91 = .ok (.getfield 39, 3) := by decide +kernel
theorem dX6_count_94 : decode cX6_count 94 = .ok (.getfield 191, 3) := by decide +kernel
theorem dX6_count_97 : decode cX6_count 97 = .ok (.ireturn, 1) := by decide +kernel
theorem dX6_count_98 : decode cX6_count 98 = .ok (.aload_n 0, 1) := by decide +kernel
theorem dX6_count_99 : decode cX6_count 99 = .ok (.getfield 39, 3) := by decide +kernel
theorem dX6_count_102 : decode cX6_count 102 = .ok (.getfield 194, 3) := by decide +kernel
theorem dX6_count_105 : decode cX6_count 105 = .ok (.ireturn, 1) := by decide +kernel
theorem dX6_count_106 : decode cX6_count 106 = .ok (.bipush (-2), 2) := by decide +kernel
theorem dX6_count_108 : decode cX6_count 108 = .ok (.ireturn, 1) := by decide +kernel
theorem dX6_isWait_0 : decode cX6_isWait 0 = .ok (.iload_n 0, 1) := by decide +kernel
theorem dX6_isWait_1 : decode cX6_isWait 1 = .ok (.iconst 1, 1) := by decide +kernel
theorem dX6_isWait_2 : decode cX6_isWait 2 = .ok (.if_icmp .lt 12, 3) := by decide +kernel
theorem dX6_isWait_5 : decode cX6_isWait 5 = .ok (.iload_n 0, 1) := by decide +kernel
theorem dX6_isWait_6 : decode cX6_isWait 6 = .ok (.iconst 5, 1) := by decide +kernel
theorem dX6_isWait_7 : decode cX6_isWait 7 = .ok (.if_icmp .gt 7, 3) := by decide +kernel
theorem dX6_isWait_10 : decode cX6_isWait 10 = .ok (.iconst 1, 1) := by decide +kernel
theorem dX6_isWait_11 : decode cX6_isWait 11 = .ok (.goto 4, 3) := by decide +kernel
theorem dX6_isWait_14 : decode cX6_isWait 14 = .ok (.iconst 0, 1) := by decide +kernel
theorem dX6_isWait_15 : decode cX6_isWait 15 = .ok (.ireturn, 1) := by decide +kernel
theorem dX6_isRumour_0 : decode cX6_isRumour 0 = .ok (.iload_n 0, 1) := by decide +kernel
theorem dX6_isRumour_1 : decode cX6_isRumour 1 = .ok (.ifCond .lt 13, 3) := by decide +kernel
theorem dX6_isRumour_4 : decode cX6_isRumour 4 = .ok (.iload_n 0, 1) := by decide +kernel
theorem dX6_isRumour_5 : decode cX6_isRumour 5 = .ok (.bipush 8, 2) := by decide +kernel
theorem dX6_isRumour_7 : decode cX6_isRumour 7 = .ok (.if_icmp .ge 7, 3) := by decide +kernel
theorem dX6_isRumour_10 : decode cX6_isRumour 10 = .ok (.iconst 1, 1) := by decide +kernel
theorem dX6_isRumour_11 : decode cX6_isRumour 11 = .ok (.goto 4, 3) := by decide +kernel
theorem dX6_isRumour_14 : decode cX6_isRumour 14 = .ok (.iconst 0, 1) := by decide +kernel
theorem dX6_isRumour_15 : decode cX6_isRumour 15 = .ok (.ireturn, 1) := by decide +kernel
theorem dX6_isTurn_0 : decode cX6_isTurn 0 = .ok (.iload_n 0, 1) := by decide +kernel
theorem dX6_isTurn_1 : decode cX6_isTurn 1 = .ok (.ifCond .lt 13, 3) := by decide +kernel
theorem dX6_isTurn_4 : decode cX6_isTurn 4 = .ok (.iload_n 0, 1) := by decide +kernel
theorem dX6_isTurn_5 : decode cX6_isTurn 5 = .ok (.bipush 40, 2) := by decide +kernel
theorem dX6_isTurn_7 : decode cX6_isTurn 7 = .ok (.if_icmp .ge 7, 3) := by decide +kernel
theorem dX6_isTurn_10 : decode cX6_isTurn 10 = .ok (.iconst 1, 1) := by decide +kernel
theorem dX6_isTurn_11 : decode cX6_isTurn 11 = .ok (.goto 4, 3) := by decide +kernel
theorem dX6_isTurn_14 : decode cX6_isTurn 14 = .ok (.iconst 0, 1) := by decide +kernel
theorem dX6_isTurn_15 : decode cX6_isTurn 15 = .ok (.ireturn, 1) := by decide +kernel
theorem dX6_isLetter_0 : decode cX6_isLetter 0 = .ok (.iload_n 0, 1) := by decide +kernel
theorem dX6_isLetter_1 : decode cX6_isLetter 1 = .ok (.ifCond .lt 14, 3) := by decide +kernel
theorem dX6_isLetter_4 : decode cX6_isLetter 4 = .ok (.iload_n 0, 1) := by decide +kernel
theorem dX6_isLetter_5 : decode cX6_isLetter 5 = .ok (.sipush 1200, 3) := by decide +kernel
theorem dX6_isLetter_8 : decode cX6_isLetter 8 = .ok (.if_icmp .ge 7, 3) := by decide +kernel
theorem dX6_isLetter_11 : decode cX6_isLetter 11 = .ok (.iconst 1, 1) := by decide +kernel
theorem dX6_isLetter_12 : decode cX6_isLetter 12 = .ok (.goto 4, 3) := by decide +kernel
theorem dX6_isLetter_15 : decode cX6_isLetter 15 = .ok (.iconst 0, 1) := by decide +kernel
theorem dX6_isLetter_16 : decode cX6_isLetter 16 = .ok (.ireturn, 1) := by decide +kernel
theorem dX6_isTimed_0 : decode cX6_isTimed 0 = .ok (.iload_n 0, 1) := by decide +kernel
theorem dX6_isTimed_1 : decode cX6_isTimed 1 = .ok (.iconst 3, 1) := by decide +kernel
theorem dX6_isTimed_2 : decode cX6_isTimed 2 = .ok (.if_icmp .gt 7, 3) := by decide +kernel
theorem dX6_isTimed_5 : decode cX6_isTimed 5 = .ok (.iconst 1, 1) := by decide +kernel
theorem dX6_isTimed_6 : decode cX6_isTimed 6 = .ok (.goto 4, 3) := by decide +kernel
theorem dX6_isTimed_9 : decode cX6_isTimed 9 = .ok (.iconst 0, 1) := by decide +kernel
theorem dX6_isTimed_10 : decode cX6_isTimed 10 = .ok (.ireturn, 1) := by decide +kernel
theorem dX6_namesNode_0 : decode cX6_namesNode 0 = .ok (.iload_n 0, 1) := by decide +kernel
theorem dX6_namesNode_1 : decode cX6_namesNode 1 = .ok (.iconst 2, 1) := by decide +kernel
theorem dX6_namesNode_2 : decode cX6_namesNode 2 = .ok (.if_icmp .eq 8, 3) := by decide +kernel
theorem dX6_namesNode_5 : decode cX6_namesNode 5 = .ok (.iload_n 0, 1) := by decide +kernel
theorem dX6_namesNode_6 : decode cX6_namesNode 6 = .ok (.iconst 3, 1) := by decide +kernel
theorem dX6_namesNode_7 : decode cX6_namesNode 7 = .ok (.if_icmp .ne 7, 3) := by decide +kernel
theorem dX6_namesNode_10 : decode cX6_namesNode 10 = .ok (.iconst 1, 1) := by decide +kernel
theorem dX6_namesNode_11 : decode cX6_namesNode 11 = .ok (.goto 4, 3) := by decide +kernel
theorem dX6_namesNode_14 : decode cX6_namesNode 14 = .ok (.iconst 0, 1) := by decide +kernel
theorem dX6_namesNode_15 : decode cX6_namesNode 15 = .ok (.ireturn, 1) := by decide +kernel
theorem dX6_namesLetter_0 : decode cX6_namesLetter 0 = .ok (.iload_n 0, 1) := by decide +kernel
theorem dX6_namesLetter_1 : decode cX6_namesLetter 1 = .ok (.iconst 4, 1) := by decide +kernel
theorem dX6_namesLetter_2 : decode cX6_namesLetter 2 = .ok (.if_icmp .lt 7, 3) := by decide +kernel
theorem dX6_namesLetter_5 : decode cX6_namesLetter 5 = .ok (.iconst 1, 1) := by decide +kernel
theorem dX6_namesLetter_6 : decode cX6_namesLetter 6 = .ok (.goto 4, 3) := by decide +kernel
theorem dX6_namesLetter_9 : decode cX6_namesLetter 9 = .ok (.iconst 0, 1) := by decide +kernel
theorem dX6_namesLetter_10 : decode cX6_namesLetter 10 = .ok (.ireturn, 1) := by decide +kernel
theorem dX6_hasWait_0 : decode cX6_hasWait 0 = .ok (.iload_n 0, 1) := by decide +kernel
theorem dX6_hasWait_1 : decode cX6_hasWait 1 = .ok (.iconst 5, 1) := by decide +kernel
theorem dX6_hasWait_2 : decode cX6_hasWait 2 = .ok (.if_icmp .eq 9, 3) := by decide +kernel
theorem dX6_hasWait_5 : decode cX6_hasWait 5 = .ok (.iload_n 0, 1) := by decide +kernel
theorem dX6_hasWait_6 : decode cX6_hasWait 6 = .ok (.bipush 6, 2) := by decide +kernel
theorem dX6_hasWait_8 : decode cX6_hasWait 8 = .ok (.if_icmp .ne 7, 3) := by decide +kernel
theorem dX6_hasWait_11 : decode cX6_hasWait 11 = .ok (.iconst 1, 1) := by decide +kernel
theorem dX6_hasWait_12 : decode cX6_hasWait 12 = .ok (.goto 4, 3) := by decide +kernel
theorem dX6_hasWait_15 : decode cX6_hasWait 15 = .ok (.iconst 0, 1) := by decide +kernel
theorem dX6_hasWait_16 : decode cX6_hasWait 16 = .ok (.ireturn, 1) := by decide +kernel
theorem dX6_pair_0 : decode cX6_pair 0 = .ok (.iload_n 0, 1) := by decide +kernel
theorem dX6_pair_1 : decode cX6_pair 1 = .ok (.bipush 6, 2) := by decide +kernel
theorem dX6_pair_3 : decode cX6_pair 3 = .ok (.imul, 1) := by decide +kernel
theorem dX6_pair_4 : decode cX6_pair 4 = .ok (.iload_n 1, 1) := by decide +kernel
theorem dX6_pair_5 : decode cX6_pair 5 = .ok (.iadd, 1) := by decide +kernel
theorem dX6_pair_6 : decode cX6_pair 6 = .ok (.ireturn, 1) := by decide +kernel
theorem dX6_place_0 : decode cX6_place 0 = .ok (.iload_n 0, 1) := by decide +kernel
theorem dX6_place_1 : decode cX6_place 1 = .ok (.bipush 6, 2) := by decide +kernel
theorem dX6_place_3 : decode cX6_place 3 = .ok (.imul, 1) := by decide +kernel
theorem dX6_place_4 : decode cX6_place 4 = .ok (.iload_n 1, 1) := by decide +kernel
theorem dX6_place_5 : decode cX6_place 5 = .ok (.iadd, 1) := by decide +kernel
theorem dX6_place_6 : decode cX6_place 6 = .ok (.ireturn, 1) := by decide +kernel
theorem dX7_init_0 : decode cX7_init 0 = .ok (.aload_n 0, 1) := by decide +kernel
theorem dX7_init_1 : decode cX7_init 1 = .ok (.invokespecial 1, 3) := by decide +kernel
theorem dX7_init_4 : decode cX7_init 4 = .ok (.aload_n 0, 1) := by decide +kernel
theorem dX7_init_5 : decode cX7_init 5 = .ok (.bipush 7, 2) := by decide +kernel
theorem dX7_init_7 : decode cX7_init 7 = .ok (.newarray .int, 2) := by decide +kernel
theorem dX7_init_9 : decode cX7_init 9 = .ok (.putfield 7, 3) := by decide +kernel
theorem dX7_init_12 : decode cX7_init 12 = .ok (.aload_n 0, 1) := by decide +kernel
theorem dX7_init_13 : decode cX7_init 13 = .ok (.bipush 49, 2) := by decide +kernel
theorem dX7_init_15 : decode cX7_init 15 = .ok (.newarray .int, 2) := by decide +kernel
theorem dX7_init_17 : decode cX7_init 17 = .ok (.putfield 13, 3) := by decide +kernel
theorem dX7_init_20 : decode cX7_init 20 = .ok (.aload_n 0, 1) := by decide +kernel
theorem dX7_init_21 : decode cX7_init 21 = .ok (.bipush 7, 2) := by decide +kernel
theorem dX7_init_23 : decode cX7_init 23 = .ok (.newarray .int, 2) := by decide +kernel
theorem dX7_init_25 : decode cX7_init 25 = .ok (.putfield 16, 3) := by decide +kernel
theorem dX7_init_28 : decode cX7_init 28 = .ok (.aload_n 0, 1) := by decide +kernel
theorem dX7_init_29 : decode cX7_init 29 = .ok (.bipush 20, 2) := by decide +kernel
theorem dX7_init_31 : decode cX7_init 31 = .ok (.newarray .int, 2) := by decide +kernel
theorem dX7_init_33 : decode cX7_init 33 = .ok (.putfield 19, 3) := by decide +kernel
theorem dX7_init_36 : decode cX7_init 36 = .ok (.aload_n 0, 1) := by decide +kernel
theorem dX7_init_37 : decode cX7_init 37 = .ok (.bipush 20, 2) := by decide +kernel
theorem dX7_init_39 : decode cX7_init 39 = .ok (.newarray .int, 2) := by decide +kernel
theorem dX7_init_41 : decode cX7_init 41 = .ok (.putfield 22, 3) := by decide +kernel
theorem dX7_init_44 : decode cX7_init 44 = .ok (.aload_n 0, 1) := by decide +kernel
theorem dX7_init_45 : decode cX7_init 45 = .ok (.bipush 20, 2) := by decide +kernel
theorem dX7_init_47 : decode cX7_init 47 = .ok (.newarray .int, 2) := by decide +kernel
theorem dX7_init_49 : decode cX7_init 49 = .ok (.putfield 25, 3) := by decide +kernel
theorem dX7_init_52 : decode cX7_init 52 = .ok (.aload_n 0, 1) := by decide +kernel
theorem dX7_init_53 : decode cX7_init 53 = .ok (.bipush 20, 2) := by decide +kernel
theorem dX7_init_55 : decode cX7_init 55 = .ok (.newarray .int, 2) := by decide +kernel
theorem dX7_init_57 : decode cX7_init 57 = .ok (.putfield 28, 3) := by decide +kernel
theorem dX7_init_60 : decode cX7_init 60 = .ok (.aload_n 0, 1) := by decide +kernel
theorem dX7_init_61 : decode cX7_init 61 = .ok (.bipush 20, 2) := by decide +kernel
theorem dX7_init_63 : decode cX7_init 63 = .ok (.newarray .boolean, 2) := by decide +kernel
theorem dX7_init_65 : decode cX7_init 65 = .ok (.putfield 31, 3) := by decide +kernel
theorem dX7_init_68 : decode cX7_init 68 = .ok (.aload_n 0, 1) := by decide +kernel
theorem dX7_init_69 : decode cX7_init 69 = .ok (.iconst 2, 1) := by decide +kernel
theorem dX7_init_70 : decode cX7_init 70 = .ok (.newarray .int, 2) := by decide +kernel
theorem dX7_init_72 : decode cX7_init 72 = .ok (.putfield 35, 3) := by decide +kernel
theorem dX7_init_75 : decode cX7_init 75 = .ok (.aload_n 0, 1) := by decide +kernel
theorem dX7_init_76 : decode cX7_init 76 = .ok (.iconst 2, 1) := by decide +kernel
theorem dX7_init_77 : decode cX7_init 77 = .ok (.newarray .int, 2) := by decide +kernel
theorem dX7_init_79 : decode cX7_init 79 = .ok (.putfield 38, 3) := by decide +kernel
theorem dX7_init_82 : decode cX7_init 82 = .ok (.aload_n 0, 1) := by decide +kernel
theorem dX7_init_83 : decode cX7_init 83 = .ok (.iconst 2, 1) := by decide +kernel
theorem dX7_init_84 : decode cX7_init 84 = .ok (.newarray .int, 2) := by decide +kernel
theorem dX7_init_86 : decode cX7_init 86 = .ok (.putfield 41, 3) := by decide +kernel
theorem dX7_init_89 : decode cX7_init 89 = .ok (.aload_n 0, 1) := by decide +kernel
theorem dX7_init_90 : decode cX7_init 90 = .ok (.iconst 2, 1) := by decide +kernel
theorem dX7_init_91 : decode cX7_init 91 = .ok (.newarray .int, 2) := by decide +kernel
theorem dX7_init_93 : decode cX7_init 93 = .ok (.putfield 44, 3) := by decide +kernel
theorem dX7_init_96 : decode cX7_init 96 = .ok (.aload_n 0, 1) := by decide +kernel
theorem dX7_init_97 : decode cX7_init 97 = .ok (.iconst 2, 1) := by decide +kernel
theorem dX7_init_98 : decode cX7_init 98 = .ok (.newarray .int, 2) := by decide +kernel
theorem dX7_init_100 : decode cX7_init 100 = .ok (.putfield 47, 3) := by decide +kernel
theorem dX7_init_103 : decode cX7_init 103 = .ok (.aload_n 0, 1) := by decide +kernel
theorem dX7_init_104 : decode cX7_init 104 = .ok (.iconst 2, 1) := by decide +kernel
theorem dX7_init_105 : decode cX7_init 105 = .ok (.newarray .int, 2) := by decide +kernel
theorem dX7_init_107 : decode cX7_init 107 = .ok (.putfield 50, 3) := by decide +kernel
theorem dX7_init_110 : decode cX7_init 110 = .ok (.aload_n 0, 1) := by decide +kernel
theorem dX7_init_111 : decode cX7_init 111 = .ok (.sipush 840, 3) := by decide +kernel
theorem dX7_init_114 : decode cX7_init 114 = .ok (.newarray .int, 2) := by decide +kernel
theorem dX7_init_116 : decode cX7_init 116 = .ok (.putfield 53, 3) := by decide +kernel
theorem dX7_init_119 : decode cX7_init 119 = .ok (.aload_n 0, 1) := by decide +kernel
theorem dX7_init_120 : decode cX7_init 120 = .ok (.bipush 120, 2) := by decide +kernel
theorem dX7_init_122 : decode cX7_init 122 = .ok (.newarray .boolean, 2) := by decide +kernel
theorem dX7_init_124 : decode cX7_init 124 = .ok (.putfield 56, 3) := by decide +kernel
theorem dX7_init_127 : decode cX7_init 127 = .ok (.aload_n 0, 1) := by decide +kernel
theorem dX7_init_128 : decode cX7_init 128 = .ok (.bipush 14, 2) := by decide +kernel
theorem dX7_init_130 : decode cX7_init 130 = .ok (.newarray .int, 2) := by decide +kernel
theorem dX7_init_132 : decode cX7_init 132 = .ok (.putfield 59, 3) := by decide +kernel
theorem dX7_init_135 : decode cX7_init 135 = .ok (.aload_n 0, 1) := by decide +kernel
theorem dX7_init_136 : decode cX7_init 136 = .ok (.sipush 2400, 3) := by decide +kernel
theorem dX7_init_139 : decode cX7_init 139 = .ok (.newarray .int, 2) := by decide +kernel
theorem dX7_init_141 : decode cX7_init 141 = .ok (.putfield 62, 3) := by decide +kernel
theorem dX7_init_144 : decode cX7_init 144 = .ok (.aload_n 0, 1) := by decide +kernel
theorem dX7_init_145 : decode cX7_init 145 = .ok (.sipush 2400, 3) := by decide +kernel
theorem dX7_init_148 : decode cX7_init 148 = .ok (.newarray .int, 2) := by decide +kernel
theorem dX7_init_150 : decode cX7_init 150 = .ok (.putfield 65, 3) := by decide +kernel
theorem dX7_init_153 : decode cX7_init 153 = .ok (.aload_n 0, 1) := by decide +kernel
theorem dX7_init_154 : decode cX7_init 154 = .ok (.sipush 2400, 3) := by decide +kernel
theorem dX7_init_157 : decode cX7_init 157 = .ok (.newarray .int, 2) := by decide +kernel
theorem dX7_init_159 : decode cX7_init 159 = .ok (.putfield 68, 3) := by decide +kernel
theorem dX7_init_162 : decode cX7_init 162 = .ok (.aload_n 0, 1) := by decide +kernel
theorem dX7_init_163 : decode cX7_init 163 = .ok (.sipush 2400, 3) := by decide +kernel
theorem dX7_init_166 : decode cX7_init 166 = .ok (.newarray .int, 2) := by decide +kernel
theorem dX7_init_168 : decode cX7_init 168 = .ok (.putfield 71, 3) := by decide +kernel
theorem dX7_init_171 : decode cX7_init 171 = .ok (.aload_n 0, 1) := by decide +kernel
theorem dX7_init_172 : decode cX7_init 172 = .ok (.sipush 2400, 3) := by decide +kernel
theorem dX7_init_175 : decode cX7_init 175 = .ok (.newarray .int, 2) := by decide +kernel
theorem dX7_init_177 : decode cX7_init 177 = .ok (.putfield 74, 3) := by decide +kernel
theorem dX7_init_180 : decode cX7_init 180 = .ok (.aload_n 0, 1) := by decide +kernel
theorem dX7_init_181 : decode cX7_init 181 = .ok (.sipush 2400, 3) := by decide +kernel
theorem dX7_init_184 : decode cX7_init 184 = .ok (.newarray .int, 2) := by decide +kernel
theorem dX7_init_186 : decode cX7_init 186 = .ok (.putfield 77, 3) := by decide +kernel
theorem dX7_init_189 : decode cX7_init 189 = .ok (.aload_n 0, 1) := by decide +kernel
theorem dX7_init_190 : decode cX7_init 190 = .ok (.sipush 2400, 3) := by decide +kernel
theorem dX7_init_193 : decode cX7_init 193 = .ok (.newarray .int, 2) := by decide +kernel
theorem dX7_init_195 : decode cX7_init 195 = .ok (.putfield 80, 3) := by decide +kernel
theorem dX7_init_198 : decode cX7_init 198 = .ok (.aload_n 0, 1) := by decide +kernel
theorem dX7_init_199 : decode cX7_init 199 = .ok (.sipush 14400, 3) := by decide +kernel
theorem dX7_init_202 : decode cX7_init 202 = .ok (.newarray .int, 2) := by decide +kernel
theorem dX7_init_204 : decode cX7_init 204 = .ok (.putfield 83, 3) := by decide +kernel
theorem dX7_init_207 : decode cX7_init 207 = .ok (.aload_n 0, 1) := by decide +kernel
theorem dX7_init_208 : decode cX7_init 208 = .ok (.bipush 7, 2) := by decide +kernel
theorem dX7_init_210 : decode cX7_init 210 = .ok (.newarray .int, 2) := by decide +kernel
theorem dX7_init_212 : decode cX7_init 212 = .ok (.putfield 86, 3) := by decide +kernel
theorem dX7_init_215 : decode cX7_init 215 = .ok (.aload_n 0, 1) := by decide +kernel
theorem dX7_init_216 : decode cX7_init 216 = .ok (.bipush 7, 2) := by decide +kernel
theorem dX7_init_218 : decode cX7_init 218 = .ok (.newarray .int, 2) := by decide +kernel
theorem dX7_init_220 : decode cX7_init 220 = .ok (.putfield 89, 3) := by decide +kernel
theorem dX7_init_223 : decode cX7_init 223 = .ok (.aload_n 0, 1) := by decide +kernel
theorem dX7_init_224 : decode cX7_init 224 = .ok (.bipush 49, 2) := by decide +kernel
theorem dX7_init_226 : decode cX7_init 226 = .ok (.newarray .int, 2) := by decide +kernel
theorem dX7_init_228 : decode cX7_init 228 = .ok (.putfield 92, 3) := by decide +kernel
theorem dX7_init_231 : decode cX7_init 231 = .ok (.aload_n 0, 1) := by decide +kernel
theorem dX7_init_232 : decode cX7_init 232 = .ok (.bipush 7, 2) := by decide +kernel
theorem dX7_init_234 : decode cX7_init 234 = .ok (.newarray .boolean, 2) := by decide +kernel
theorem dX7_init_236 : decode cX7_init 236 = .ok (.putfield 95, 3) := by decide +kernel
theorem dX7_init_239 : decode cX7_init 239 = .ok (.aload_n 0, 1) := by decide +kernel
theorem dX7_init_240 : decode cX7_init 240 = .ok (.bipush 7, 2) := by decide +kernel
theorem dX7_init_242 : decode cX7_init 242 = .ok (.newarray .boolean, 2) := by decide +kernel
theorem dX7_init_244 : decode cX7_init 244 = .ok (.putfield 98, 3) := by decide +kernel
theorem dX7_init_247 : decode cX7_init 247 = .ok (.aload_n 0, 1) := by decide +kernel
theorem dX7_init_248 : decode cX7_init 248 = .ok (.iload_n 1, 1) := by decide +kernel
theorem dX7_init_249 : decode cX7_init 249 = .ok (.iconst 2, 1) := by decide +kernel
theorem dX7_init_250 : decode cX7_init 250 = .ok (.if_icmp .ge 7, 3) := by decide +kernel
theorem dX7_init_253 : decode cX7_init 253 = .ok (.iconst 2, 1) := by decide +kernel
theorem dX7_init_254 : decode cX7_init 254 = .ok (.goto 15, 3) := by decide +kernel
theorem dX7_init_257 : decode cX7_init 257 = .ok (.iload_n 1, 1) := by decide +kernel
theorem dX7_init_258 : decode cX7_init 258 = .ok (.bipush 6, 2) := by decide +kernel
theorem dX7_init_260 : decode cX7_init 260 = .ok (.if_icmp .le 8, 3) := by decide +kernel
theorem dX7_init_263 : decode cX7_init 263 = .ok (.bipush 6, 2) := by decide +kernel
theorem dX7_init_265 : decode cX7_init 265 = .ok (.goto 4, 3) := by decide +kernel
theorem dX7_init_268 : decode cX7_init 268 = .ok (.iload_n 1, 1) := by decide +kernel
theorem dX7_init_269 : decode cX7_init 269 = .ok (.putfield 101, 3) := by decide +kernel
theorem dX7_init_272 : decode cX7_init 272 = .ok (.iconst 0, 1) := by decide +kernel
theorem dX7_init_273 : decode cX7_init 273 = .ok (.istore_n 2, 1) := by decide +kernel
theorem dX7_init_274 : decode cX7_init 274 = .ok (.iload_n 2, 1) := by decide +kernel
theorem dX7_init_275 : decode cX7_init 275 = .ok (.bipush 49, 2) := by decide +kernel
theorem dX7_init_277 : decode cX7_init 277 = .ok (.if_icmp .ge 16, 3) := by decide +kernel
theorem dX7_init_280 : decode cX7_init 280 = .ok (.aload_n 0, 1) := by decide +kernel
theorem dX7_init_281 : decode cX7_init 281 = .ok (.getfield 13, 3) := by decide +kernel
theorem dX7_init_284 : decode cX7_init 284 = .ok (.iload_n 2, 1) := by decide +kernel
theorem dX7_init_285 : decode cX7_init 285 = .ok (.iconst 1, 1) := by decide +kernel
theorem dX7_init_286 : decode cX7_init 286 = .ok (.iastore, 1) := by decide +kernel
theorem dX7_init_287 : decode cX7_init 287 = .ok (.iinc 2 1, 3) := by decide +kernel
theorem dX7_init_290 : decode cX7_init 290 = .ok (.goto (-16), 3) := by decide +kernel
theorem dX7_init_293 : decode cX7_init 293 = .ok (.return_, 1) := by decide +kernel
theorem dX7_in_0 : decode cX7_in 0 = .ok (.iload_n 0, 1) := by decide +kernel
theorem dX7_in_1 : decode cX7_in 1 = .ok (.iload_n 1, 1) := by decide +kernel
theorem dX7_in_2 : decode cX7_in 2 = .ok (.if_icmp .lt 12, 3) := by decide +kernel
theorem dX7_in_5 : decode cX7_in 5 = .ok (.iload_n 0, 1) := by decide +kernel
theorem dX7_in_6 : decode cX7_in 6 = .ok (.iload_n 2, 1) := by decide +kernel
theorem dX7_in_7 : decode cX7_in 7 = .ok (.if_icmp .gt 7, 3) := by decide +kernel
theorem dX7_in_10 : decode cX7_in 10 = .ok (.iconst 1, 1) := by decide +kernel
theorem dX7_in_11 : decode cX7_in 11 = .ok (.goto 4, 3) := by decide +kernel
theorem dX7_in_14 : decode cX7_in 14 = .ok (.iconst 0, 1) := by decide +kernel
theorem dX7_in_15 : decode cX7_in 15 = .ok (.ireturn, 1) := by decide +kernel
set_option maxRecDepth 20000 in
theorem ggX7_isNode_X7_in : GoodIn wsX7_isNode wsX7_in := goodIn_r _ [5] (by decide +kernel) (by decide +kernel)
set_option maxRecDepth 20000 in
theorem gX7_isNode_X7_in : GoodIn wsX7_isNode (va_wsS RX7 105 yX7_in wsX7_in) := goodIn_app (goodIn_of _ (by decide +kernel)) ggX7_isNode_X7_in
theorem dX7_isNode_0 : decode cX7_isNode 0 = .ok (.iload_n 1, 1) := by decide +kernel
theorem dX7_isNode_1 : decode cX7_isNode 1 = .ok (.iconst 0, 1) := by decide +kernel
theorem dX7_isNode_2 : decode cX7_isNode 2 = .ok (.aload_n 0, 1) := by decide +kernel
theorem dX7_isNode_3 : decode cX7_isNode 3 = .ok (.getfield 101, 3) := by decide +kernel
theorem dX7_isNode_6 : decode cX7_isNode 6 = .ok (.iconst 1, 1) := by decide +kernel
theorem dX7_isNode_7 : decode cX7_isNode 7 = .ok (.isub, 1) := by decide +kernel
theorem dX7_isNode_8 : decode cX7_isNode 8 = .ok (.invokestatic 105, 3) := by decide +kernel
theorem dX7_isNode_11 : decode cX7_isNode 11 = .ok (.ireturn, 1) := by decide +kernel
set_option maxRecDepth 20000 in
theorem ggX7_behaviour_X7_isNode : GoodIn wsX7_behaviour wsX7_isNode := goodIn_r _ [6, 7, 8, 9, 5, 10, 11, 12, 13, 14, 15, 16, 17, 18, 19, 20, 21, 22, 23, 24, 25, 26, 27, 28, 29, 30, 31, 32, 33, 34, 35, 36, 37, 38, 39, 40, 41, 42, 43, 44] (by decide +kernel) (by decide +kernel)
set_option maxRecDepth 20000 in
theorem gX7_behaviour_X7_isNode : GoodIn wsX7_behaviour (wsV RX7 109 RX7 yX7_isNode wsX7_isNode) := goodIn_app (goodIn_of _ (by decide +kernel)) ggX7_behaviour_X7_isNode
set_option maxRecDepth 20000 in
theorem ggX7_behaviour_X7_in : GoodIn wsX7_behaviour wsX7_in := goodIn_r _ [10] (by decide +kernel) (by decide +kernel)
set_option maxRecDepth 20000 in
theorem gX7_behaviour_X7_in : GoodIn wsX7_behaviour (va_wsS RX7 105 yX7_in wsX7_in) := goodIn_app (goodIn_of _ (by decide +kernel)) ggX7_behaviour_X7_in
theorem dX7_behaviour_0 : decode cX7_behaviour 0 = .ok (.aload_n 0, 1) := by decide +kernel
theorem dX7_behaviour_1 : decode cX7_behaviour 1 = .ok (.iload_n 1, 1) := by decide +kernel
theorem dX7_behaviour_2 : decode cX7_behaviour 2 = .ok (.invokevirtual 109, 3) := by decide +kernel
theorem dX7_behaviour_5 : decode cX7_behaviour 5 = .ok (.ifCond .ne 6, 3) := by decide +kernel
theorem dX7_behaviour_8 : decode cX7_behaviour 8 = .ok (.bipush (-2), 2) := by decide +kernel
theorem dX7_behaviour_10 : decode cX7_behaviour 10 = .ok (.ireturn, 1) := by decide +kernel
theorem dX7_behaviour_11 : decode cX7_behaviour 11 = .ok (.iload_n 2, 1) := by decide +kernel
theorem dX7_behaviour_12 : decode cX7_behaviour 12 = .ok (.iconst 0, 1) := by decide +kernel
theorem dX7_behaviour_13 : decode cX7_behaviour 13 = .ok (.iconst 3, 1) := by decide +kernel
theorem dX7_behaviour_14 : decode cX7_behaviour 14 = .ok (.invokestatic 105, 3) := by decide +kernel
theorem dX7_behaviour_17 : decode cX7_behaviour 17 = .ok (.ifCond .ne 6, 3) := by decide +kernel
