theorem dX0_init_0 : decode cX0_init 0 = .ok (.aload_n 0, 1) := by decide +kernel
theorem dX0_init_1 : decode cX0_init 1 = .ok (.invokespecial 3, 3) := by decide +kernel
theorem dX0_init_4 : decode cX0_init 4 = .ok (.aload_n 0, 1) := by decide +kernel
theorem dX0_init_5 : decode cX0_init 5 = .ok (.sipush 1220, 3) := by decide +kernel
theorem dX0_init_8 : decode cX0_init 8 = .ok (.newarray .int, 2) := by decide +kernel
theorem dX0_init_10 : decode cX0_init 10 = .ok (.putfield 9, 3) := by decide +kernel
theorem dX0_init_13 : decode cX0_init 13 = .ok (.aload_n 0, 1) := by decide +kernel
theorem dX0_init_14 : decode cX0_init 14 = .ok (.sipush 1220, 3) := by decide +kernel
theorem dX0_init_17 : decode cX0_init 17 = .ok (.newarray .int, 2) := by decide +kernel
theorem dX0_init_19 : decode cX0_init 19 = .ok (.putfield 15, 3) := by decide +kernel
theorem dX0_init_22 : decode cX0_init 22 = .ok (.aload_n 0, 1) := by decide +kernel
theorem dX0_init_23 : decode cX0_init 23 = .ok (.bipush 40, 2) := by decide +kernel
theorem dX0_init_25 : decode cX0_init 25 = .ok (.newarray .int, 2) := by decide +kernel
theorem dX0_init_27 : decode cX0_init 27 = .ok (.putfield 18, 3) := by decide +kernel
theorem dX0_init_30 : decode cX0_init 30 = .ok (.aload_n 0, 1) := by decide +kernel
theorem dX0_init_31 : decode cX0_init 31 = .ok (.bipush 40, 2) := by decide +kernel
theorem dX0_init_33 : decode cX0_init 33 = .ok (.newarray .int, 2) := by decide +kernel
theorem dX0_init_35 : decode cX0_init 35 = .ok (.putfield 21, 3) := by decide +kernel
theorem dX0_init_38 : decode cX0_init 38 = .ok (.return_, 1) := by decide +kernel
set_option maxRecDepth 20000 in
theorem ggX0_clear_J7_fill_53178 : GoodIn wsX0_clear wsJ7_fill_53178 := goodIn_r _ [7] (by decide +kernel) (by decide +kernel)
set_option maxRecDepth 20000 in
theorem gX0_clear_J7_fill_53178 : GoodIn wsX0_clear (va_wsS RX0 28 yJ7_fill_53178 wsJ7_fill_53178) := goodIn_app (goodIn_of _ (by decide +kernel)) ggX0_clear_J7_fill_53178
theorem dX0_clear_0 : decode cX0_clear 0 = .ok (.aload_n 0, 1) := by decide +kernel
theorem dX0_clear_1 : decode cX0_clear 1 = .ok (.iconst 0, 1) := by decide +kernel
theorem dX0_clear_2 : decode cX0_clear 2 = .ok (.putfield 24, 3) := by decide +kernel
theorem dX0_clear_5 : decode cX0_clear 5 = .ok (.aload_n 0, 1) := by decide +kernel
theorem dX0_clear_6 : decode cX0_clear 6 = .ok (.getfield 18, 3) := by decide +kernel
theorem dX0_clear_9 : decode cX0_clear 9 = .ok (.iconst (-1), 1) := by decide +kernel
theorem dX0_clear_10 : decode cX0_clear 10 = .ok (.invokestatic 28, 3) := by decide +kernel
theorem dX0_clear_13 : decode cX0_clear 13 = .ok (.aload_n 0, 1) := by decide +kernel
theorem dX0_clear_14 : decode cX0_clear 14 = .ok (.getfield 21, 3) := by decide +kernel
theorem dX0_clear_17 : decode cX0_clear 17 = .ok (.iconst (-1), 1) := by decide +kernel
theorem dX0_clear_18 : decode cX0_clear 18 = .ok (.invokestatic 28, 3) := by decide +kernel
theorem dX0_clear_21 : decode cX0_clear 21 = .ok (.return_, 1) := by decide +kernel
theorem dX0_add_0 : decode cX0_add 0 = .ok (.iload_n 2, 1) := by decide +kernel
theorem dX0_add_1 : decode cX0_add 1 = .ok (.ifCond .lt 19, 3) := by decide +kernel
theorem dX0_add_4 : decode cX0_add 4 = .ok (.iload_n 2, 1) := by decide +kernel
theorem dX0_add_5 : decode cX0_add 5 = .ok (.bipush 40, 2) := by decide +kernel
theorem dX0_add_7 : decode cX0_add 7 = .ok (.if_icmp .ge 13, 3) := by decide +kernel
theorem dX0_add_10 : decode cX0_add 10 = .ok (.aload_n 0, 1) := by decide +kernel
theorem dX0_add_11 : decode cX0_add 11 = .ok (.getfield 24, 3) := by decide +kernel
theorem dX0_add_14 : decode cX0_add 14 = .ok (.sipush 1220, 3) := by decide +kernel
theorem dX0_add_17 : decode cX0_add 17 = .ok (.if_icmp .lt 4, 3) := by decide +kernel
theorem dX0_add_20 : decode cX0_add 20 = .ok (.return_, 1) := by decide +kernel
theorem dX0_add_21 : decode cX0_add 21 = .ok (.aload_n 0, 1) := by decide +kernel
theorem dX0_add_22 : decode cX0_add 22 = .ok (.getfield 9, 3) := by decide +kernel
theorem dX0_add_25 : decode cX0_add 25 = .ok (.aload_n 0, 1) := by decide +kernel
theorem dX0_add_26 : decode cX0_add 26 = .ok (.getfield 24, 3) := by decide +kernel
theorem dX0_add_29 : decode cX0_add 29 = .ok (.iload_n 1, 1) := by decide +kernel
theorem dX0_add_30 : decode cX0_add 30 = .ok (.iastore, 1) := by decide +kernel
theorem dX0_add_31 : decode cX0_add 31 = .ok (.aload_n 0, 1) := by decide +kernel
theorem dX0_add_32 : decode cX0_add 32 = .ok (.getfield 15, 3) := by decide +kernel
theorem dX0_add_35 : decode cX0_add 35 = .ok (.aload_n 0, 1) := by decide +kernel
theorem dX0_add_36 : decode cX0_add 36 = .ok (.getfield 24, 3) := by decide +kernel
theorem dX0_add_39 : decode cX0_add 39 = .ok (.iconst (-1), 1) := by decide +kernel
theorem dX0_add_40 : decode cX0_add 40 = .ok (.iastore, 1) := by decide +kernel
theorem dX0_add_41 : decode cX0_add 41 = .ok (.aload_n 0, 1) := by decide +kernel
theorem dX0_add_42 : decode cX0_add 42 = .ok (.getfield 21, 3) := by decide +kernel
theorem dX0_add_45 : decode cX0_add 45 = .ok (.iload_n 2, 1) := by decide +kernel
theorem dX0_add_46 : decode cX0_add 46 = .ok (.iaload, 1) := by decide +kernel
theorem dX0_add_47 : decode cX0_add 47 = .ok (.iconst (-1), 1) := by decide +kernel
theorem dX0_add_48 : decode cX0_add 48 = .ok (.if_icmp .ne 16, 3) := by decide +kernel
theorem dX0_add_51 : decode cX0_add 51 = .ok (.aload_n 0, 1) := by decide +kernel
theorem dX0_add_52 : decode cX0_add 52 = .ok (.getfield 18, 3) := by decide +kernel
theorem dX0_add_55 : decode cX0_add 55 = .ok (.iload_n 2, 1) := by decide +kernel
theorem dX0_add_56 : decode cX0_add 56 = .ok (.aload_n 0, 1) := by decide +kernel
theorem dX0_add_57 : decode cX0_add 57 = .ok (.getfield 24, 3) := by decide +kernel
theorem dX0_add_60 : decode cX0_add 60 = .ok (.iastore, 1) := by decide +kernel
theorem dX0_add_61 : decode cX0_add 61 = .ok (.goto 18, 3) := by decide +kernel
theorem dX0_add_64 : decode cX0_add 64 = .ok (.aload_n 0, 1) := by decide +kernel
theorem dX0_add_65 : decode cX0_add 65 = .ok (.getfield 15, 3) := by decide +kernel
theorem dX0_add_68 : decode cX0_add 68 = .ok (.aload_n 0, 1) := by decide +kernel
theorem dX0_add_69 : decode cX0_add 69 = .ok (.getfield 21, 3) := by decide +kernel
theorem dX0_add_72 : decode cX0_add 72 = .ok (.iload_n 2, 1) := by decide +kernel
theorem dX0_add_73 : decode cX0_add 73 = .ok (.iaload, 1) := by decide +kernel
theorem dX0_add_74 : decode cX0_add 74 = .ok (.aload_n 0, 1) := by decide +kernel
theorem dX0_add_75 : decode cX0_add 75 = .ok (.getfield 24, 3) := by decide +kernel
theorem dX0_add_78 : decode cX0_add 78 = .ok (.iastore, 1) := by decide +kernel
theorem dX0_add_79 : decode cX0_add 79 = .ok (.aload_n 0, 1) := by decide +kernel
theorem dX0_add_80 : decode cX0_add 80 = .ok (.getfield 21, 3) := by decide +kernel
theorem dX0_add_83 : decode cX0_add 83 = .ok (.iload_n 2, 1) := by decide +kernel
theorem dX0_add_84 : decode cX0_add 84 = .ok (.aload_n 0, 1) := by decide +kernel
theorem dX0_add_85 : decode cX0_add 85 = .ok (.getfield 24, 3) := by decide +kernel
theorem dX0_add_88 : decode cX0_add 88 = .ok (.iastore, 1) := by decide +kernel
theorem dX0_add_89 : decode cX0_add 89 = .ok (.aload_n 0, 1) := by decide +kernel
theorem dX0_add_90 : decode cX0_add 90 = .ok (.dup, 1) := by decide +kernel
theorem dX0_add_91 : decode cX0_add 91 = .ok (.getfield 24, 3) := by decide +kernel
theorem dX0_add_94 : decode cX0_add 94 = .ok (.iconst 1, 1) := by decide +kernel
theorem dX0_add_95 : decode cX0_add 95 = .ok (.iadd, 1) := by decide +kernel
theorem dX0_add_96 : decode cX0_add 96 = .ok (.putfield 24, 3) := by decide +kernel
theorem dX0_add_99 : decode cX0_add 99 = .ok (.return_, 1) := by decide +kernel
set_option maxRecDepth 20000 in
theorem ggX0_firstAt_X6_isTurn : GoodIn wsX0_firstAt wsX6_isTurn := goodIn_r _ [4] (by decide +kernel) (by decide +kernel)
set_option maxRecDepth 20000 in
theorem gX0_firstAt_X6_isTurn_n34 : GoodIn wsX0_firstAt (wsX6_isTurn) := ggX0_firstAt_X6_isTurn
theorem dX0_firstAt_0 : decode cX0_firstAt 0 = .ok (.iload_n 1, 1) := by decide +kernel
theorem dX0_firstAt_1 : decode cX0_firstAt 1 = .ok (.invokestatic 34, 3) := by decide +kernel
theorem dX0_firstAt_4 : decode cX0_firstAt 4 = .ok (.ifCond .eq 12, 3) := by decide +kernel
theorem dX0_firstAt_7 : decode cX0_firstAt 7 = .ok (.aload_n 0, 1) := by decide +kernel
theorem dX0_firstAt_8 : decode cX0_firstAt 8 = .ok (.getfield 18, 3) := by decide +kernel
theorem dX0_firstAt_11 : decode cX0_firstAt 11 = .ok (.iload_n 1, 1) := by decide +kernel
theorem dX0_firstAt_12 : decode cX0_firstAt 12 = .ok (.iaload, 1) := by decide +kernel
theorem dX0_firstAt_13 : decode cX0_firstAt 13 = .ok (.goto 4, 3) := by decide +kernel
theorem dX0_firstAt_16 : decode cX0_firstAt 16 = .ok (.iconst (-1), 1) := by decide +kernel
theorem dX0_firstAt_17 : decode cX0_firstAt 17 = .ok (.ireturn, 1) := by decide +kernel
theorem dX0_has_0 : decode cX0_has 0 = .ok (.iload_n 1, 1) := by decide +kernel
theorem dX0_has_1 : decode cX0_has 1 = .ok (.ifCond .lt 15, 3) := by decide +kernel
theorem dX0_has_4 : decode cX0_has 4 = .ok (.iload_n 1, 1) := by decide +kernel
theorem dX0_has_5 : decode cX0_has 5 = .ok (.aload_n 0, 1) := by decide +kernel
theorem dX0_has_6 : decode cX0_has 6 = .ok (.getfield 24, 3) := by decide +kernel
theorem dX0_has_9 : decode cX0_has 9 = .ok (.if_icmp .ge 7, 3) := by decide +kernel
theorem dX0_has_12 : decode cX0_has 12 = .ok (.iconst 1, 1) := by decide +kernel
theorem dX0_has_13 : decode cX0_has 13 = .ok (.goto 4, 3) := by decide +kernel
theorem dX0_has_16 : decode cX0_has 16 = .ok (.iconst 0, 1) := by decide +kernel
theorem dX0_has_17 : decode cX0_has 17 = .ok (.ireturn, 1) := by decide +kernel
set_option maxRecDepth 20000 in
theorem ggX0_behind_X0_has : GoodIn wsX0_behind wsX0_has := goodIn_r _ [6, 7, 8, 9, 10, 11, 12] (by decide +kernel) (by decide +kernel)
set_option maxRecDepth 20000 in
theorem gX0_behind_X0_has : GoodIn wsX0_behind (wsV RX0 38 RX0 yX0_has wsX0_has) := goodIn_app (goodIn_of _ (by decide +kernel)) ggX0_behind_X0_has
theorem dX0_behind_0 : decode cX0_behind 0 = .ok (.aload_n 0, 1) := by decide +kernel
theorem dX0_behind_1 : decode cX0_behind 1 = .ok (.iload_n 1, 1) := by decide +kernel
theorem dX0_behind_2 : decode cX0_behind 2 = .ok (.invokevirtual 38, 3) := by decide +kernel
theorem dX0_behind_5 : decode cX0_behind 5 = .ok (.ifCond .eq 12, 3) := by decide +kernel
theorem dX0_behind_8 : decode cX0_behind 8 = .ok (.aload_n 0, 1) := by decide +kernel
theorem dX0_behind_9 : decode cX0_behind 9 = .ok (.getfield 15, 3) := by decide +kernel
theorem dX0_behind_12 : decode cX0_behind 12 = .ok (.iload_n 1, 1) := by decide +kernel
theorem dX0_behind_13 : decode cX0_behind 13 = .ok (.iaload, 1) := by decide +kernel
theorem dX0_behind_14 : decode cX0_behind 14 = .ok (.goto 4, 3) := by decide +kernel
theorem dX0_behind_17 : decode cX0_behind 17 = .ok (.iconst (-1), 1) := by decide +kernel
theorem dX0_behind_18 : decode cX0_behind 18 = .ok (.ireturn, 1) := by decide +kernel
set_option maxRecDepth 20000 in
theorem ggX0_letterOf_X0_has : GoodIn wsX0_letterOf wsX0_has := goodIn_r _ [6, 7, 8, 9, 10, 11, 12] (by decide +kernel) (by decide +kernel)
set_option maxRecDepth 20000 in
theorem gX0_letterOf_X0_has : GoodIn wsX0_letterOf (wsV RX0 38 RX0 yX0_has wsX0_has) := goodIn_app (goodIn_of _ (by decide +kernel)) ggX0_letterOf_X0_has
theorem dX0_letterOf_0 : decode cX0_letterOf 0 = .ok (.aload_n 0, 1) := by decide +kernel
theorem dX0_letterOf_1 : decode cX0_letterOf 1 = .ok (.iload_n 1, 1) := by decide +kernel
theorem dX0_letterOf_2 : decode cX0_letterOf 2 = .ok (.invokevirtual 38, 3) := by decide +kernel
theorem dX0_letterOf_5 : decode cX0_letterOf 5 = .ok (.ifCond .eq 12, 3) := by decide +kernel
theorem dX0_letterOf_8 : decode cX0_letterOf 8 = .ok (.aload_n 0, 1) := by decide +kernel
theorem dX0_letterOf_9 : decode cX0_letterOf 9 = .ok (.getfield 9, 3) := by decide +kernel
theorem dX0_letterOf_12 : decode cX0_letterOf 12 = .ok (.iload_n 1, 1) := by decide +kernel
theorem dX0_letterOf_13 : decode cX0_letterOf 13 = .ok (.iaload, 1) := by decide +kernel
theorem dX0_letterOf_14 : decode cX0_letterOf 14 = .ok (.goto 4, 3) := by decide +kernel
theorem dX0_letterOf_17 : decode cX0_letterOf 17 = .ok (.iconst (-1), 1) := by decide +kernel
theorem dX0_letterOf_18 : decode cX0_letterOf 18 = .ok (.ireturn, 1) := by decide +kernel
theorem dX1_init_0 : decode cX1_init 0 = .ok (.aload_n 0, 1) := by decide +kernel
theorem dX1_init_1 : decode cX1_init 1 = .ok (.invokespecial 3, 3) := by decide +kernel
theorem dX1_init_4 : decode cX1_init 4 = .ok (.aload_n 0, 1) := by decide +kernel
theorem dX1_init_5 : decode cX1_init 5 = .ok (.sipush 1200, 3) := by decide +kernel
theorem dX1_init_8 : decode cX1_init 8 = .ok (.newarray .int, 2) := by decide +kernel
theorem dX1_init_10 : decode cX1_init 10 = .ok (.putfield 9, 3) := by decide +kernel
theorem dX1_init_13 : decode cX1_init 13 = .ok (.aload_n 0, 1) := by decide +kernel
theorem dX1_init_14 : decode cX1_init 14 = .ok (.sipush 1200, 3) := by decide +kernel
theorem dX1_init_17 : decode cX1_init 17 = .ok (.newarray .int, 2) := by decide +kernel
theorem dX1_init_19 : decode cX1_init 19 = .ok (.putfield 15, 3) := by decide +kernel
theorem dX1_init_22 : decode cX1_init 22 = .ok (.aload_n 0, 1) := by decide +kernel
theorem dX1_init_23 : decode cX1_init 23 = .ok (.sipush 1200, 3) := by decide +kernel
theorem dX1_init_26 : decode cX1_init 26 = .ok (.newarray .int, 2) := by decide +kernel
theorem dX1_init_28 : decode cX1_init 28 = .ok (.putfield 18, 3) := by decide +kernel
theorem dX1_init_31 : decode cX1_init 31 = .ok (.aload_n 0, 1) := by decide +kernel
theorem dX1_init_32 : decode cX1_init 32 = .ok (.sipush 1200, 3) := by decide +kernel
theorem dX1_init_35 : decode cX1_init 35 = .ok (.newarray .int, 2) := by decide +kernel
theorem dX1_init_37 : decode cX1_init 37 = .ok (.putfield 21, 3) := by decide +kernel
theorem dX1_init_40 : decode cX1_init 40 = .ok (.aload_n 0, 1) := by decide +kernel
theorem dX1_init_41 : decode cX1_init 41 = .ok (.sipush 1200, 3) := by decide +kernel
theorem dX1_init_44 : decode cX1_init 44 = .ok (.newarray .int, 2) := by decide +kernel
theorem dX1_init_46 : decode cX1_init 46 = .ok (.putfield 24, 3) := by decide +kernel
theorem dX1_init_49 : decode cX1_init 49 = .ok (.aload_n 0, 1) := by decide +kernel
theorem dX1_init_50 : decode cX1_init 50 = .ok (.sipush 1200, 3) := by decide +kernel
theorem dX1_init_53 : decode cX1_init 53 = .ok (.newarray .int, 2) := by decide +kernel
theorem dX1_init_55 : decode cX1_init 55 = .ok (.putfield 27, 3) := by decide +kernel
theorem dX1_init_58 : decode cX1_init 58 = .ok (.aload_n 0, 1) := by decide +kernel
theorem dX1_init_59 : decode cX1_init 59 = .ok (.sipush 1200, 3) := by decide +kernel
theorem dX1_init_62 : decode cX1_init 62 = .ok (.newarray .int, 2) := by decide +kernel
theorem dX1_init_64 : decode cX1_init 64 = .ok (.putfield 30, 3) := by decide +kernel
theorem dX1_init_67 : decode cX1_init 67 = .ok (.return_, 1) := by decide +kernel
theorem dX1_has_0 : decode cX1_has 0 = .ok (.iload_n 1, 1) := by decide +kernel
theorem dX1_has_1 : decode cX1_has 1 = .ok (.ifCond .lt 15, 3) := by decide +kernel
theorem dX1_has_4 : decode cX1_has 4 = .ok (.iload_n 1, 1) := by decide +kernel
theorem dX1_has_5 : decode cX1_has 5 = .ok (.aload_n 0, 1) := by decide +kernel
theorem dX1_has_6 : decode cX1_has 6 = .ok (.getfield 33, 3) := by decide +kernel
theorem dX1_has_9 : decode cX1_has 9 = .ok (.if_icmp .ge 7, 3) := by decide +kernel
theorem dX1_has_12 : decode cX1_has 12 = .ok (.iconst 1, 1) := by decide +kernel
theorem dX1_has_13 : decode cX1_has 13 = .ok (.goto 4, 3) := by decide +kernel
theorem dX1_has_16 : decode cX1_has 16 = .ok (.iconst 0, 1) := by decide +kernel
theorem dX1_has_17 : decode cX1_has 17 = .ok (.ireturn, 1) := by decide +kernel
theorem dX1_clear_0 : decode cX1_clear 0 = .ok (.aload_n 0, 1) := by decide +kernel
theorem dX1_clear_1 : decode cX1_clear 1 = .ok (.iconst 0, 1) := by decide +kernel
theorem dX1_clear_2 : decode cX1_clear 2 = .ok (.putfield 33, 3) := by decide +kernel
theorem dX1_clear_5 : decode cX1_clear 5 = .ok (.aload_n 0, 1) := by decide +kernel
theorem dX1_clear_6 : decode cX1_clear 6 = .ok (.iconst 0, 1) := by decide +kernel
theorem dX1_clear_7 : decode cX1_clear 7 = .ok (.putfield 37, 3) := by decide +kernel
theorem dX1_clear_10 : decode cX1_clear 10 = .ok (.return_, 1) := by decide +kernel
theorem dX1_add_0 : decode cX1_add 0 = .ok (.aload_n 0, 1) := by decide +kernel
theorem dX1_add_1 : decode cX1_add 1 = .ok (.getfield 33, 3) := by decide +kernel
theorem dX1_add_4 : decode cX1_add 4 = .ok (.sipush 1200, 3) := by decide +kernel
theorem dX1_add_7 : decode cX1_add 7 = .ok (.if_icmp .lt 5, 3) := by decide +kernel
theorem dX1_add_10 : decode cX1_add 10 = .ok (.iconst (-1), 1) := by decide +kernel
theorem dX1_add_11 : decode cX1_add 11 = .ok (.ireturn, 1) := by decide +kernel
theorem dX1_add_12 : decode cX1_add 12 = .ok (.aload_n 0, 1) := by decide +kernel
theorem dX1_add_13 : decode cX1_add 13 = .ok (.getfield 9, 3) := by decide +kernel
theorem dX1_add_16 : decode cX1_add 16 = .ok (.aload_n 0, 1) := by decide +kernel
theorem dX1_add_17 : decode cX1_add 17 = .ok (.getfield 33, 3) := by decide +kernel
theorem dX1_add_20 : decode cX1_add 20 = .ok (.iload_n 1, 1) := by decide +kernel
theorem dX1_add_21 : decode cX1_add 21 = .ok (.iastore, 1) := by decide +kernel
theorem dX1_add_22 : decode cX1_add 22 = .ok (.aload_n 0, 1) := by decide +kernel
theorem dX1_add_23 : decode cX1_add 23 = .ok (.getfield 15, 3) := by decide +kernel
theorem dX1_add_26 : decode cX1_add 26 = .ok (.aload_n 0, 1) := by decide +kernel
theorem dX1_add_27 : decode cX1_add 27 = .ok (.getfield 33, 3) := by decide +kernel
theorem dX1_add_30 : decode cX1_add 30 = .ok (.iload_n 2, 1) := by decide +kernel
theorem dX1_add_31 : decode cX1_add 31 = .ok (.iastore, 1) := by decide +kernel
theorem dX1_add_32 : decode cX1_add 32 = .ok (.aload_n 0, 1) := by decide +kernel
theorem dX1_add_33 : decode cX1_add 33 = .ok (.getfield 18, 3) := by decide +kernel
theorem dX1_add_36 : decode cX1_add 36 = .ok (.aload_n 0, 1) := by decide +kernel
theorem dX1_add_37 : decode cX1_add 37 = .ok (.getfield 33, 3) := by decide +kernel
theorem dX1_add_40 : decode cX1_add 40 = .ok (.iload_n 3, 1) := by decide +kernel
theorem dX1_add_41 : decode cX1_add 41 = .ok (.iastore, 1) := by decide +kernel
theorem dX1_add_42 : decode cX1_add 42 = .ok (.aload_n 0, 1) := by decide +kernel
theorem dX1_add_43 : decode cX1_add 43 = .ok (.getfield 21, 3) := by decide +kernel
theorem dX1_add_46 : decode cX1_add 46 = .ok (.aload_n 0, 1) := by decide +kernel
theorem dX1_add_47 : decode cX1_add 47 = .ok (.getfield 33, 3) := by decide +kernel
theorem dX1_add_50 : decode cX1_add 50 = .ok (.iload 4, 2) := by decide +kernel
theorem dX1_add_52 : decode cX1_add 52 = .ok (.iastore, 1) := by decide +kernel
theorem dX1_add_53 : decode cX1_add 53 = .ok (.aload_n 0, 1) := by decide +kernel
theorem dX1_add_54 : decode cX1_add 54 = .ok (.getfield 24, 3) := by decide +kernel
theorem dX1_add_57 : decode cX1_add 57 = .ok (.aload_n 0, 1) := by decide +kernel
theorem dX1_add_58 : decode cX1_add 58 = .ok (.getfield 33, 3) := by decide +kernel
theorem dX1_add_61 : decode cX1_add 61 = .ok (.iload 5, 2) := by decide +kernel
theorem dX1_add_63 : decode cX1_add 63 = .ok (.iastore, 1) := by decide +kernel
theorem dX1_add_64 : decode cX1_add 64 = .ok (.aload_n 0, 1) := by decide +kernel
theorem dX1_add_65 : decode cX1_add 65 = .ok (.getfield 27, 3) := by decide +kernel
theorem dX1_add_68 : decode cX1_add 68 = .ok (.aload_n 0, 1) := by decide +kernel
theorem dX1_add_69 : decode cX1_add 69 = .ok (.getfield 33, 3) := by decide +kernel
theorem dX1_add_72 : decode cX1_add 72 = .ok (.iconst (-1), 1) := by decide +kernel
theorem dX1_add_73 : decode cX1_add 73 = .ok (.iastore, 1) := by decide +kernel
theorem dX1_add_74 : decode cX1_add 74 = .ok (.aload_n 0, 1) := by decide +kernel
theorem dX1_add_75 : decode cX1_add 75 = .ok (.getfield 30, 3) := by decide +kernel
theorem dX1_add_78 : decode cX1_add 78 = .ok (.aload_n 0, 1) := by decide +kernel
theorem dX1_add_79 : decode cX1_add 79 = .ok (.getfield 33, 3) := by decide +kernel
theorem dX1_add_82 : decode cX1_add 82 = .ok (.iconst 0, 1) := by decide +kernel
theorem dX1_add_83 : decode cX1_add 83 = .ok (.iastore, 1) := by decide +kernel
theorem dX1_add_84 : decode cX1_add 84 = .ok (.aload_n 0, 1) := by decide +kernel
theorem dX1_add_85 : decode cX1_add 85 = .ok (.dup, 1) := by decide +kernel
theorem dX1_add_86 : decode cX1_add 86 = .ok (.getfield 33, 3) := by decide +kernel
theorem dX1_add_89 : decode cX1_add 89 = .ok (.dup_x1, 1) := by decide +kernel
theorem dX1_add_90 : decode cX1_add 90 = .ok (.iconst 1, 1) := by decide +kernel
theorem dX1_add_91 : decode cX1_add 91 = .ok (.iadd, 1) := by decide +kernel
theorem dX1_add_92 : decode cX1_add 92 = .ok (.putfield 33, 3) := by decide +kernel
theorem dX1_add_95 : decode cX1_add 95 = .ok (.ireturn, 1) := by decide +kernel
set_option maxRecDepth 20000 in
theorem ggX1_bytesFrom_J6_bitCount_0f7a4 : GoodIn wsX1_bytesFrom wsJ6_bitCount_0f7a4 := goodIn_r _ [7, 8, 9, 10] (by decide +kernel) (by decide +kernel)
set_option maxRecDepth 20000 in
theorem gX1_bytesFrom_J6_bitCount_0f7a4 : GoodIn wsX1_bytesFrom (va_wsS RX1 40 yJ6_bitCount_0f7a4 wsJ6_bitCount_0f7a4) := goodIn_app (goodIn_of _ (by decide +kernel)) ggX1_bytesFrom_J6_bitCount_0f7a4
theorem dX1_bytesFrom_0 : decode cX1_bytesFrom 0 = .ok (.iconst 0, 1) := by decide +kernel
theorem dX1_bytesFrom_1 : decode cX1_bytesFrom 1 = .ok (.istore_n 2, 1) := by decide +kernel
theorem dX1_bytesFrom_2 : decode cX1_bytesFrom 2 = .ok (.iconst 0, 1) := by decide +kernel
theorem dX1_bytesFrom_3 : decode cX1_bytesFrom 3 = .ok (.istore_n 3, 1) := by decide +kernel
theorem dX1_bytesFrom_4 : decode cX1_bytesFrom 4 = .ok (.iload_n 3, 1) := by decide +kernel
theorem dX1_bytesFrom_5 : decode cX1_bytesFrom 5 = .ok (.aload_n 0, 1) := by decide +kernel
theorem dX1_bytesFrom_6 : decode cX1_bytesFrom 6 = .ok (.getfield 33, 3) := by decide +kernel
theorem dX1_bytesFrom_9 : decode cX1_bytesFrom 9 = .ok (.if_icmp .ge 33, 3) := by decide +kernel
theorem dX1_bytesFrom_12 : decode cX1_bytesFrom 12 = .ok (.aload_n 0, 1) := by decide +kernel
theorem dX1_bytesFrom_13 : decode cX1_bytesFrom 13 = .ok (.getfield 9, 3) := by decide +kernel
theorem dX1_bytesFrom_16 : decode cX1_bytesFrom 16 = .ok (.iload_n 3, 1) := by decide +kernel
theorem dX1_bytesFrom_17 : decode cX1_bytesFrom 17 = .ok (.iaload, 1) := by decide +kernel
theorem dX1_bytesFrom_18 : decode cX1_bytesFrom 18 = .ok (.iload_n 1, 1) := by decide +kernel
theorem dX1_bytesFrom_19 : decode cX1_bytesFrom 19 = .ok (.if_icmp .ne 17, 3) := by decide +kernel
theorem dX1_bytesFrom_22 : decode cX1_bytesFrom 22 = .ok (.iload_n 2, 1) := by decide +kernel
theorem dX1_bytesFrom_23 : decode cX1_bytesFrom 23 = .ok (.iconst 4, 1) := by decide +kernel
theorem dX1_bytesFrom_24 : decode cX1_bytesFrom 24 = .ok (.aload_n 0, 1) := by decide +kernel
theorem dX1_bytesFrom_25 : decode cX1_bytesFrom 25 = .ok (.getfield 24, 3) := by decide +kernel
theorem dX1_bytesFrom_28 : decode cX1_bytesFrom 28 = .ok (.iload_n 3, 1) := by decide +kernel
theorem dX1_bytesFrom_29 : decode cX1_bytesFrom 29 = .ok (.iaload, 1) := by decide +kernel
theorem dX1_bytesFrom_30 : decode cX1_bytesFrom 30 = .ok (.invokestatic 40, 3) := by decide +kernel
theorem dX1_bytesFrom_33 : decode cX1_bytesFrom 33 = .ok (.iadd, 1) := by decide +kernel
theorem dX1_bytesFrom_34 : decode cX1_bytesFrom 34 = .ok (.iadd, 1) := by decide +kernel
theorem dX1_bytesFrom_35 : decode cX1_bytesFrom 35 = .ok (.istore_n 2, 1) := by decide +kernel
theorem dX1_bytesFrom_36 : decode cX1_bytesFrom 36 = .ok (.iinc 3 1, 3) := by decide +kernel
theorem dX1_bytesFrom_39 : decode cX1_bytesFrom 39 = .ok (.goto (-35), 3) := by decide +kernel
theorem dX1_bytesFrom_42 : decode cX1_bytesFrom 42 = .ok (.iload_n 2, 1) := by decide +kernel
theorem dX1_bytesFrom_43 : decode cX1_bytesFrom 43 = .ok (.ireturn, 1) := by decide +kernel
set_option maxRecDepth 20000 in
theorem ggX2_init_J7_fill_53178 : GoodIn wsX2_init wsJ7_fill_53178 := goodIn_r _ [12] (by decide +kernel) (by decide +kernel)
set_option maxRecDepth 20000 in
theorem gX2_init_J7_fill_53178 : GoodIn wsX2_init (va_wsS RX2 25 yJ7_fill_53178 wsJ7_fill_53178) := goodIn_app (goodIn_of _ (by decide +kernel)) ggX2_init_J7_fill_53178
theorem dX2_init_0 : decode cX2_init 0 = .ok (.aload_n 0, 1) := by decide +kernel
theorem dX2_init_1 : decode cX2_init 1 = .ok (.invokespecial 3, 3) := by decide +kernel
theorem dX2_init_4 : decode cX2_init 4 = .ok (.aload_n 0, 1) := by decide +kernel
theorem dX2_init_5 : decode cX2_init 5 = .ok (.bipush 6, 2) := by decide +kernel
theorem dX2_init_7 : decode cX2_init 7 = .ok (.newarray .int, 2) := by decide +kernel
theorem dX2_init_9 : decode cX2_init 9 = .ok (.putfield 9, 3) := by decide +kernel
theorem dX2_init_12 : decode cX2_init 12 = .ok (.aload_n 0, 1) := by decide +kernel
theorem dX2_init_13 : decode cX2_init 13 = .ok (.bipush 36, 2) := by decide +kernel
theorem dX2_init_15 : decode cX2_init 15 = .ok (.newarray .int, 2) := by decide +kernel
theorem dX2_init_17 : decode cX2_init 17 = .ok (.putfield 15, 3) := by decide +kernel
theorem dX2_init_20 : decode cX2_init 20 = .ok (.aload_n 0, 1) := by decide +kernel
theorem dX2_init_21 : decode cX2_init 21 = .ok (.bipush 6, 2) := by decide +kernel
theorem dX2_init_23 : decode cX2_init 23 = .ok (.newarray .int, 2) := by decide +kernel
theorem dX2_init_25 : decode cX2_init 25 = .ok (.putfield 18, 3) := by decide +kernel
theorem dX2_init_28 : decode cX2_init 28 = .ok (.aload_n 0, 1) := by decide +kernel
theorem dX2_init_29 : decode cX2_init 29 = .ok (.iload_n 1, 1) := by decide +kernel
theorem dX2_init_30 : decode cX2_init 30 = .ok (.putfield 21, 3) := by decide +kernel
theorem dX2_init_33 : decode cX2_init 33 = .ok (.aload_n 0, 1) := by decide +kernel
theorem dX2_init_34 : decode cX2_init 34 = .ok (.getfield 15, 3) := by decide +kernel
theorem dX2_init_37 : decode cX2_init 37 = .ok (.iconst 1, 1) := by decide +kernel
theorem dX2_init_38 : decode cX2_init 38 = .ok (.invokestatic 25, 3) := by decide +kernel
theorem dX2_init_41 : decode cX2_init 41 = .ok (.return_, 1) := by decide +kernel
theorem dX2_has_0 : decode cX2_has 0 = .ok (.iload_n 1, 1) := by decide +kernel
theorem dX2_has_1 : decode cX2_has 1 = .ok (.ifCond .lt 15, 3) := by decide +kernel
theorem dX2_has_4 : decode cX2_has 4 = .ok (.iload_n 1, 1) := by decide +kernel
theorem dX2_has_5 : decode cX2_has 5 = .ok (.aload_n 0, 1) := by decide +kernel
theorem dX2_has_6 : decode cX2_has 6 = .ok (.getfield 21, 3) := by decide +kernel
theorem dX2_has_9 : decode cX2_has 9 = .ok (.if_icmp .ge 7, 3) := by decide +kernel
theorem dX2_has_12 : decode cX2_has 12 = .ok (.iconst 1, 1) := by decide +kernel
theorem dX2_has_13 : decode cX2_has 13 = .ok (.goto 4, 3) := by decide +kernel
theorem dX2_has_16 : decode cX2_has 16 = .ok (.iconst 0, 1) := by decide +kernel
theorem dX2_has_17 : decode cX2_has 17 = .ok (.ireturn, 1) := by decide +kernel
theorem dX2_hasAllOf_0 : decode cX2_hasAllOf 0 = .ok (.iload_n 1, 1) := by decide +kernel
theorem dX2_hasAllOf_1 : decode cX2_hasAllOf 1 = .ok (.iconst 1, 1) := by decide +kernel
theorem dX2_hasAllOf_2 : decode cX2_hasAllOf 2 = .ok (.aload_n 0, 1) := by decide +kernel
theorem dX2_hasAllOf_3 : decode cX2_hasAllOf 3 = .ok (.getfield 21, 3) := by decide +kernel
theorem dX2_hasAllOf_6 : decode cX2_hasAllOf 6 = .ok (.ishl, 1) := by decide +kernel
theorem dX2_hasAllOf_7 : decode cX2_hasAllOf 7 = .ok (.ineg, 1) := by decide +kernel
theorem dX2_hasAllOf_8 : decode cX2_hasAllOf 8 = .ok (.iand, 1) := by decide +kernel
theorem dX2_hasAllOf_9 : decode cX2_hasAllOf 9 = .ok (.ifCond .ne 7, 3) := by decide +kernel
theorem dX2_hasAllOf_12 : decode cX2_hasAllOf 12 = .ok (.iconst 1, 1) := by decide +kernel
theorem dX2_hasAllOf_13 : decode cX2_hasAllOf 13 = .ok (.goto 4, 3) := by decide +kernel
theorem dX2_hasAllOf_16 : decode cX2_hasAllOf 16 = .ok (.iconst 0, 1) := by decide +kernel
theorem dX2_hasAllOf_17 : decode cX2_hasAllOf 17 = .ok (.ireturn, 1) := by decide +kernel
theorem dX2_isMoreThanHalf_0 : decode cX2_isMoreThanHalf 0 = .ok (.iconst 2, 1) := by decide +kernel
theorem dX2_isMoreThanHalf_1 : decode cX2_isMoreThanHalf 1 = .ok (.iload_n 1, 1) := by decide +kernel
theorem dX2_isMoreThanHalf_2 : decode cX2_isMoreThanHalf 2 = .ok (.imul, 1) := by decide +kernel
theorem dX2_isMoreThanHalf_3 : decode cX2_isMoreThanHalf 3 = .ok (.aload_n 0, 1) := by decide +kernel
theorem dX2_isMoreThanHalf_4 : decode cX2_isMoreThanHalf 4 = .ok (.getfield 21, 3) := by decide +kernel
theorem dX2_isMoreThanHalf_7 : decode cX2_isMoreThanHalf 7 = .ok (.if_icmp .le 7, 3) := by decide +kernel
theorem dX2_isMoreThanHalf_10 : decode cX2_isMoreThanHalf 10 = .ok (.iconst 1, 1) := by decide +kernel
theorem dX2_isMoreThanHalf_11 : decode cX2_isMoreThanHalf 11 = .ok (.goto 4, 3) := by decide +kernel
theorem dX2_isMoreThanHalf_14 : decode cX2_isMoreThanHalf 14 = .ok (.iconst 0, 1) := by decide +kernel
theorem dX2_isMoreThanHalf_15 : decode cX2_isMoreThanHalf 15 = .ok (.ireturn, 1) := by decide +kernel
theorem dX2_heightSaid_0 : decode cX2_heightSaid 0 = .ok (.aload_n 0, 1) := by decide +kernel
theorem dX2_heightSaid_1 : decode cX2_heightSaid 1 = .ok (.getfield 9, 3) := by decide +kernel
theorem dX2_heightSaid_4 : decode cX2_heightSaid 4 = .ok (.iload_n 1, 1) := by decide +kernel
theorem dX2_heightSaid_5 : decode cX2_heightSaid 5 = .ok (.iaload, 1) := by decide +kernel
theorem dX2_heightSaid_6 : decode cX2_heightSaid 6 = .ok (.lookupswitch 32 #[(1, 26), (3, 30)], 26) := by decide +kernel
theorem dX2_heightSaid_32 : decode cX2_heightSaid 32 = .ok (.iload_n 2, 1) := by decide +kernel
theorem dX2_heightSaid_33 : decode cX2_heightSaid 33 = .ok (.iconst 3, 1) := by decide +kernel
theorem dX2_heightSaid_34 : decode cX2_heightSaid 34 = .ok (.iadd, 1) := by decide +kernel
theorem dX2_heightSaid_35 : decode cX2_heightSaid 35 = .ok (.ireturn, 1) := by decide +kernel
theorem dX2_heightSaid_36 : decode cX2_heightSaid 36 = .ok (.iconst 0, 1) := by decide +kernel
theorem dX2_heightSaid_37 : decode cX2_heightSaid 37 = .ok (.ireturn, 1) := by decide +kernel
theorem dX2_heightSaid_38 : decode cX2_heightSaid 38 = .ok (.iload_n 2, 1) := by decide +kernel
theorem dX2_heightSaid_39 : decode cX2_heightSaid 39 = .ok (.ireturn, 1) := by decide +kernel
theorem dX3_init_0 : decode cX3_init 0 = .ok (.aload_n 0, 1) := by decide +kernel
theorem dX3_init_1 : decode cX3_init 1 = .ok (.invokespecial 3, 3) := by decide +kernel
theorem dX3_init_4 : decode cX3_init 4 = .ok (.aload_n 0, 1) := by decide +kernel
theorem dX3_init_5 : decode cX3_init 5 = .ok (.bipush 6, 2) := by decide +kernel
theorem dX3_init_7 : decode cX3_init 7 = .ok (.newarray .int, 2) := by decide +kernel
theorem dX3_init_9 : decode cX3_init 9 = .ok (.putfield 9, 3) := by decide +kernel
theorem dX3_init_12 : decode cX3_init 12 = .ok (.aload_n 0, 1) := by decide +kernel
theorem dX3_init_13 : decode cX3_init 13 = .ok (.bipush 6, 2) := by decide +kernel
theorem dX3_init_15 : decode cX3_init 15 = .ok (.newarray .int, 2) := by decide +kernel
theorem dX3_init_17 : decode cX3_init 17 = .ok (.putfield 15, 3) := by decide +kernel
theorem dX3_init_20 : decode cX3_init 20 = .ok (.aload_n 0, 1) := by decide +kernel
theorem dX3_init_21 : decode cX3_init 21 = .ok (.bipush 6, 2) := by decide +kernel
theorem dX3_init_23 : decode cX3_init 23 = .ok (.newarray .boolean, 2) := by decide +kernel
theorem dX3_init_25 : decode cX3_init 25 = .ok (.putfield 18, 3) := by decide +kernel
theorem dX3_init_28 : decode cX3_init 28 = .ok (.aload_n 0, 1) := by decide +kernel
theorem dX3_init_29 : decode cX3_init 29 = .ok (.bipush 6, 2) := by decide +kernel
theorem dX3_init_31 : decode cX3_init 31 = .ok (.newarray .boolean, 2) := by decide +kernel
theorem dX3_init_33 : decode cX3_init 33 = .ok (.putfield 22, 3) := by decide +kernel
theorem dX3_init_36 : decode cX3_init 36 = .ok (.aload_n 0, 1) := by decide +kernel
theorem dX3_init_37 : decode cX3_init 37 = .ok (.bipush 36, 2) := by decide +kernel
theorem dX3_init_39 : decode cX3_init 39 = .ok (.newarray .int, 2) := by decide +kernel
theorem dX3_init_41 : decode cX3_init 41 = .ok (.putfield 25, 3) := by decide +kernel
theorem dX3_init_44 : decode cX3_init 44 = .ok (.aload_n 0, 1) := by decide +kernel
theorem dX3_init_45 : decode cX3_init 45 = .ok (.aload_n 1, 1) := by decide +kernel
theorem dX3_init_46 : decode cX3_init 46 = .ok (.putfield 28, 3) := by decide +kernel
theorem dX3_init_49 : decode cX3_init 49 = .ok (.return_, 1) := by decide +kernel
set_option maxRecDepth 20000 in
theorem ggX3_begin_J7_fill_53178 : GoodIn wsX3_begin wsJ7_fill_53178 := goodIn_r _ [12] (by decide +kernel) (by decide +kernel)
set_option maxRecDepth 20000 in
theorem gX3_begin_J7_fill_53178 : GoodIn wsX3_begin (va_wsS RX3 32 yJ7_fill_53178 wsJ7_fill_53178) := goodIn_app (goodIn_of _ (by decide +kernel)) ggX3_begin_J7_fill_53178
theorem dX3_begin_0 : decode cX3_begin 0 = .ok (.aload_n 0, 1) := by decide +kernel
theorem dX3_begin_1 : decode cX3_begin 1 = .ok (.getfield 25, 3) := by decide +kernel
theorem dX3_begin_4 : decode cX3_begin 4 = .ok (.iconst 0, 1) := by decide +kernel
theorem dX3_begin_5 : decode cX3_begin 5 = .ok (.invokestatic 32, 3) := by decide +kernel
theorem dX3_begin_8 : decode cX3_begin 8 = .ok (.iconst 0, 1) := by decide +kernel
theorem dX3_begin_9 : decode cX3_begin 9 = .ok (.istore_n 1, 1) := by decide +kernel
theorem dX3_begin_10 : decode cX3_begin 10 = .ok (.iload_n 1, 1) := by decide +kernel
theorem dX3_begin_11 : decode cX3_begin 11 = .ok (.aload_n 0, 1) := by decide +kernel
theorem dX3_begin_12 : decode cX3_begin 12 = .ok (.getfield 28, 3) := by decide +kernel
theorem dX3_begin_15 : decode cX3_begin 15 = .ok (.getfield 38, 3) := by decide +kernel
theorem dX3_begin_18 : decode cX3_begin 18 = .ok (.if_icmp .ge 38, 3) := by decide +kernel
theorem dX3_begin_21 : decode cX3_begin 21 = .ok (.aload_n 0, 1) := by decide +kernel
theorem dX3_begin_22 : decode cX3_begin 22 = .ok (.getfield 9, 3) := by decide +kernel
theorem dX3_begin_25 : decode cX3_begin 25 = .ok (.iload_n 1, 1) := by decide +kernel
theorem dX3_begin_26 : decode cX3_begin 26 = .ok (.iconst 0, 1) := by decide +kernel
theorem dX3_begin_27 : decode cX3_begin 27 = .ok (.iastore, 1) := by decide +kernel
theorem dX3_begin_28 : decode cX3_begin 28 = .ok (.aload_n 0, 1) := by decide +kernel
theorem dX3_begin_29 : decode cX3_begin 29 = .ok (.getfield 15, 3) := by decide +kernel
theorem dX3_begin_32 : decode cX3_begin 32 = .ok (.iload_n 1, 1) := by decide +kernel
theorem dX3_begin_33 : decode cX3_begin 33 = .ok (.aload_n 0, 1) := by decide +kernel
theorem dX3_begin_34 : decode cX3_begin 34 = .ok (.getfield 28, 3) := by decide +kernel
theorem dX3_begin_37 : decode cX3_begin 37 = .ok (.getfield 44, 3) := by decide +kernel
theorem dX3_begin_40 : decode cX3_begin 40 = .ok (.iload_n 1, 1) := by decide +kernel
theorem dX3_begin_41 : decode cX3_begin 41 = .ok (.iaload, 1) := by decide +kernel
theorem dX3_begin_42 : decode cX3_begin 42 = .ok (.iastore, 1) := by decide +kernel
theorem dX3_begin_43 : decode cX3_begin 43 = .ok (.aload_n 0, 1) := by decide +kernel
theorem dX3_begin_44 : decode cX3_begin 44 = .ok (.getfield 18, 3) := by decide +kernel
theorem dX3_begin_47 : decode cX3_begin 47 = .ok (.iload_n 1, 1) := by decide +kernel
theorem dX3_begin_48 : decode cX3_begin 48 = .ok (.iconst 1, 1) := by decide +kernel
theorem dX3_begin_49 : decode cX3_begin 49 = .ok (.bastore, 1) := by decide +kernel
theorem dX3_begin_50 : decode cX3_begin 50 = .ok (.iinc 1 1, 3) := by decide +kernel
theorem dX3_begin_53 : decode cX3_begin 53 = .ok (.goto (-43), 3) := by decide +kernel
theorem dX3_begin_56 : decode cX3_begin 56 = .ok (.aload_n 0, 1) := by decide +kernel
theorem dX3_begin_57 : decode cX3_begin 57 = .ok (.iconst 0, 1) := by decide +kernel
theorem dX3_begin_58 : decode cX3_begin 58 = .ok (.putfield 47, 3) := by decide +kernel
theorem dX3_begin_61 : decode cX3_begin 61 = .ok (.return_, 1) := by decide +kernel
set_option maxRecDepth 20000 in
theorem ggX3_meet_X2_has : GoodIn wsX3_meet wsX2_has := goodIn_r _ [8, 9, 27, 28, 29, 30] (by decide +kernel) (by decide +kernel)
set_option maxRecDepth 20000 in
theorem gX3_meet_X2_has : GoodIn wsX3_meet (wsV RX3 50 RX2 yX2_has wsX2_has) := goodIn_app (goodIn_of _ (by decide +kernel)) ggX3_meet_X2_has
set_option maxRecDepth 20000 in
theorem ggX3_meet_X3_forgetShown : GoodIn wsX3_meet wsX3_forgetShown := goodIn_r _ [14, 2, 15, 16, 17, 18, 19, 20, 21, 22, 23, 24, 25, 26, 27, 28, 29, 30] (by decide +kernel) (by decide +kernel)
set_option maxRecDepth 20000 in
theorem gX3_meet_X3_forgetShown : GoodIn wsX3_meet (wsV RX3 54 RX3 yX3_forgetShown wsX3_forgetShown) := goodIn_app (goodIn_of _ (by decide +kernel)) ggX3_meet_X3_forgetShown
theorem dX3_meet_0 : decode cX3_meet 0 = .ok (.iload_n 1, 1) := by decide +kernel
theorem dX3_meet_1 : decode cX3_meet 1 = .ok (.ifCond .ne 11, 3) := by decide +kernel
theorem dX3_meet_4 : decode cX3_meet 4 = .ok (.aload_n 0, 1) := by decide +kernel
theorem dX3_meet_5 : decode cX3_meet 5 = .ok (.iload_n 2, 1) := by decide +kernel
theorem dX3_meet_6 : decode cX3_meet 6 = .ok (.putfield 47, 3) := by decide +kernel
theorem dX3_meet_9 : decode cX3_meet 9 = .ok (.goto 79, 3) := by decide +kernel
theorem dX3_meet_12 : decode cX3_meet 12 = .ok (.iload_n 1, 1) := by decide +kernel
theorem dX3_meet_13 : decode cX3_meet 13 = .ok (.iconst 1, 1) := by decide +kernel
theorem dX3_meet_14 : decode cX3_meet 14 = .ok (.if_icmp .ne 11, 3) := by decide +kernel
theorem dX3_meet_17 : decode cX3_meet 17 = .ok (.aload_n 0, 1) := by decide +kernel
theorem dX3_meet_18 : decode cX3_meet 18 = .ok (.iconst 0, 1) := by decide +kernel
theorem dX3_meet_19 : decode cX3_meet 19 = .ok (.putfield 47, 3) := by decide +kernel
theorem dX3_meet_22 : decode cX3_meet 22 = .ok (.goto 66, 3) := by decide +kernel
theorem dX3_meet_25 : decode cX3_meet 25 = .ok (.iload_n 1, 1) := by decide +kernel
theorem dX3_meet_26 : decode cX3_meet 26 = .ok (.iconst 2, 1) := by decide +kernel
theorem dX3_meet_27 : decode cX3_meet 27 = .ok (.if_icmp .ne 24, 3) := by decide +kernel
theorem dX3_meet_30 : decode cX3_meet 30 = .ok (.aload_n 0, 1) := by decide +kernel
theorem dX3_meet_31 : decode cX3_meet 31 = .ok (.getfield 28, 3) := by decide +kernel
theorem dX3_meet_34 : decode cX3_meet 34 = .ok (.iload_n 2, 1) := by decide +kernel
theorem dX3_meet_35 : decode cX3_meet 35 = .ok (.invokevirtual 50, 3) := by decide +kernel
theorem dX3_meet_38 : decode cX3_meet 38 = .ok (.ifCond .eq 13, 3) := by decide +kernel
theorem dX3_meet_41 : decode cX3_meet 41 = .ok (.aload_n 0, 1) := by decide +kernel
theorem dX3_meet_42 : decode cX3_meet 42 = .ok (.getfield 18, 3) := by decide +kernel
theorem dX3_meet_45 : decode cX3_meet 45 = .ok (.iload_n 2, 1) := by decide +kernel
theorem dX3_meet_46 : decode cX3_meet 46 = .ok (.iconst 0, 1) := by decide +kernel
theorem dX3_meet_47 : decode cX3_meet 47 = .ok (.bastore, 1) := by decide +kernel
theorem dX3_meet_48 : decode cX3_meet 48 = .ok (.goto 40, 3) := by decide +kernel
theorem dX3_meet_51 : decode cX3_meet 51 = .ok (.iload_n 1, 1) := by decide +kernel
theorem dX3_meet_52 : decode cX3_meet 52 = .ok (.iconst 3, 1) := by decide +kernel
theorem dX3_meet_53 : decode cX3_meet 53 = .ok (.if_icmp .ne 35, 3) := by decide +kernel
theorem dX3_meet_56 : decode cX3_meet 56 = .ok (.aload_n 0, 1) := by decide +kernel
theorem dX3_meet_57 : decode cX3_meet 57 = .ok (.getfield 28, 3) := by decide +kernel
theorem dX3_meet_60 : decode cX3_meet 60 = .ok (.iload_n 2, 1) := by decide +kernel
theorem dX3_meet_61 : decode cX3_meet 61 = .ok (.invokevirtual 50, 3) := by decide +kernel
theorem dX3_meet_64 : decode cX3_meet 64 = .ok (.ifCond .eq 24, 3) := by decide +kernel
theorem dX3_meet_67 : decode cX3_meet 67 = .ok (.aload_n 0, 1) := by decide +kernel
theorem dX3_meet_68 : decode cX3_meet 68 = .ok (.getfield 18, 3) := by decide +kernel
theorem dX3_meet_71 : decode cX3_meet 71 = .ok (.iload_n 2, 1) := by decide +kernel
theorem dX3_meet_72 : decode cX3_meet 72 = .ok (.baload, 1) := by decide +kernel
theorem dX3_meet_73 : decode cX3_meet 73 = .ok (.ifCond .ne 15, 3) := by decide +kernel
theorem dX3_meet_76 : decode cX3_meet 76 = .ok (.aload_n 0, 1) := by decide +kernel
theorem dX3_meet_77 : decode cX3_meet 77 = .ok (.getfield 18, 3) := by decide +kernel
theorem dX3_meet_80 : decode cX3_meet 80 = .ok (.iload_n 2, 1) := by decide +kernel
theorem dX3_meet_81 : decode cX3_meet 81 = .ok (.iconst 1, 1) := by decide +kernel
theorem dX3_meet_82 : decode cX3_meet 82 = .ok (.bastore, 1) := by decide +kernel
theorem dX3_meet_83 : decode cX3_meet 83 = .ok (.aload_n 0, 1) := by decide +kernel
theorem dX3_meet_84 : decode cX3_meet 84 = .ok (.iload_n 2, 1) := by decide +kernel
theorem dX3_meet_85 : decode cX3_meet 85 = .ok (.invokevirtual 54, 3) := by decide +kernel
theorem dX3_meet_88 : decode cX3_meet 88 = .ok (.return_, 1) := by decide +kernel
set_option maxRecDepth 20000 in
theorem ggX3_forgetShown_X6_pair : GoodIn wsX3_forgetShown wsX6_pair := goodIn_r _ [6] (by decide +kernel) (by decide +kernel)
set_option maxRecDepth 20000 in
theorem gX3_forgetShown_X6_pair_n58 : GoodIn wsX3_forgetShown (wsX6_pair) := ggX3_forgetShown_X6_pair
theorem dX3_forgetShown_0 : decode cX3_forgetShown 0 = .ok (.iconst 0, 1) := by decide +kernel
theorem dX3_forgetShown_1 : decode cX3_forgetShown 1 = .ok (.istore_n 2, 1) := by decide +kernel
theorem dX3_forgetShown_2 : decode cX3_forgetShown 2 = .ok (.iload_n 2, 1) := by decide +kernel
theorem dX3_forgetShown_3 : decode cX3_forgetShown 3 = .ok (.aload_n 0, 1) := by decide +kernel
theorem dX3_forgetShown_4 : decode cX3_forgetShown 4 = .ok (.getfield 28, 3) := by decide +kernel
theorem dX3_forgetShown_7 : decode cX3_forgetShown 7 = .ok (.getfield 38, 3) := by decide +kernel
theorem dX3_forgetShown_10 : decode cX3_forgetShown 10 = .ok (.if_icmp .ge 20, 3) := by decide +kernel
theorem dX3_forgetShown_13 : decode cX3_forgetShown 13 = .ok (.aload_n 0, 1) := by decide +kernel
theorem dX3_forgetShown_14 : decode cX3_forgetShown 14 = .ok (.getfield 25, 3) := by decide +kernel
theorem dX3_forgetShown_17 : decode cX3_forgetShown 17 = .ok (.iload_n 1, 1) := by decide +kernel
theorem dX3_forgetShown_18 : decode cX3_forgetShown 18 = .ok (.iload_n 2, 1) := by decide +kernel
theorem dX3_forgetShown_19 : decode cX3_forgetShown 19 = .ok (.invokestatic 58, 3) := by decide +kernel
theorem dX3_forgetShown_22 : decode cX3_forgetShown 22 = .ok (.iconst 0, 1) := by decide +kernel
theorem dX3_forgetShown_23 : decode cX3_forgetShown 23 = .ok (.iastore, 1) := by decide +kernel
theorem dX3_forgetShown_24 : decode cX3_forgetShown 24 = .ok (.iinc 2 1, 3) := by decide +kernel
theorem dX3_forgetShown_27 : decode cX3_forgetShown 27 = .ok (.goto (-25), 3) := by decide +kernel
theorem dX3_forgetShown_30 : decode cX3_forgetShown 30 = .ok (.return_, 1) := by decide +kernel
theorem dX3_canReach_0 : decode cX3_canReach 0 = .ok (.aload_n 0, 1) := by decide +kernel
theorem dX3_canReach_1 : decode cX3_canReach 1 = .ok (.getfield 18, 3) := by decide +kernel
theorem dX3_canReach_4 : decode cX3_canReach 4 = .ok (.iload_n 2, 1) := by decide +kernel
theorem dX3_canReach_5 : decode cX3_canReach 5 = .ok (.baload, 1) := by decide +kernel
theorem dX3_canReach_6 : decode cX3_canReach 6 = .ok (.ifCond .eq 26, 3) := by decide +kernel
theorem dX3_canReach_9 : decode cX3_canReach 9 = .ok (.aload_n 0, 1) := by decide +kernel
theorem dX3_canReach_10 : decode cX3_canReach 10 = .ok (.getfield 47, 3) := by decide +kernel
theorem dX3_canReach_13 : decode cX3_canReach 13 = .ok (.iload_n 1, 1) := by decide +kernel
theorem dX3_canReach_14 : decode cX3_canReach 14 = .ok (.ishr, 1) := by decide +kernel
theorem dX3_canReach_15 : decode cX3_canReach 15 = .ok (.iconst 1, 1) := by decide +kernel
theorem dX3_canReach_16 : decode cX3_canReach 16 = .ok (.iand, 1) := by decide +kernel
theorem dX3_canReach_17 : decode cX3_canReach 17 = .ok (.aload_n 0, 1) := by decide +kernel
theorem dX3_canReach_18 : decode cX3_canReach 18 = .ok (.getfield 47, 3) := by decide +kernel
theorem dX3_canReach_21 : decode cX3_canReach 21 = .ok (.iload_n 2, 1) := by decide +kernel
theorem dX3_canReach_22 : decode cX3_canReach 22 = .ok (.ishr, 1) := by decide +kernel
theorem dX3_canReach_23 : decode cX3_canReach 23 = .ok (.iconst 1, 1) := by decide +kernel
theorem dX3_canReach_24 : decode cX3_canReach 24 = .ok (.iand, 1) := by decide +kernel
theorem dX3_canReach_25 : decode cX3_canReach 25 = .ok (.if_icmp .ne 7, 3) := by decide +kernel
theorem dX3_canReach_28 : decode cX3_canReach 28 = .ok (.iconst 1, 1) := by decide +kernel
theorem dX3_canReach_29 : decode cX3_canReach 29 = .ok (.goto 4, 3) := by decide +kernel
theorem dX3_canReach_32 : decode cX3_canReach 32 = .ok (.iconst 0, 1) := by decide +kernel
theorem dX3_canReach_33 : decode cX3_canReach 33 = .ok (.ireturn, 1) := by decide +kernel
set_option maxRecDepth 20000 in
theorem ggX3_takeIn_X6_pair : GoodIn wsX3_takeIn wsX6_pair := goodIn_r _ [9] (by decide +kernel) (by decide +kernel)
set_option maxRecDepth 20000 in
theorem gX3_takeIn_X6_pair_n58 : GoodIn wsX3_takeIn (wsX6_pair) := ggX3_takeIn_X6_pair
theorem dX3_takeIn_0 : decode cX3_takeIn 0 = .ok (.iload_n 2, 1) := by decide +kernel
theorem dX3_takeIn_1 : decode cX3_takeIn 1 = .ok (.iload_n 1, 1) := by decide +kernel
theorem dX3_takeIn_2 : decode cX3_takeIn 2 = .ok (.invokestatic 58, 3) := by decide +kernel
theorem dX3_takeIn_5 : decode cX3_takeIn 5 = .ok (.istore 5, 2) := by decide +kernel
theorem dX3_takeIn_7 : decode cX3_takeIn 7 = .ok (.aload_n 0, 1) := by decide +kernel
theorem dX3_takeIn_8 : decode cX3_takeIn 8 = .ok (.getfield 25, 3) := by decide +kernel
theorem dX3_takeIn_11 : decode cX3_takeIn 11 = .ok (.iload 5, 2) := by decide +kernel
theorem dX3_takeIn_13 : decode cX3_takeIn 13 = .ok (.aload_n 0, 1) := by decide +kernel
theorem dX3_takeIn_14 : decode cX3_takeIn 14 = .ok (.getfield 25, 3) := by decide +kernel
theorem dX3_takeIn_17 : decode cX3_takeIn 17 = .ok (.iload 5, 2) := by decide +kernel
theorem dX3_takeIn_19 : decode cX3_takeIn 19 = .ok (.iaload, 1) := by decide +kernel
theorem dX3_takeIn_20 : decode cX3_takeIn 20 = .ok (.iload_n 3, 1) := by decide +kernel
theorem dX3_takeIn_21 : decode cX3_takeIn 21 = .ok (.invokestatic 62, 3) := by decide +kernel
theorem dX3_takeIn_24 : decode cX3_takeIn 24 = .ok (.iastore, 1) := by decide +kernel
theorem dX3_takeIn_25 : decode cX3_takeIn 25 = .ok (.aload_n 0, 1) := by decide +kernel
theorem dX3_takeIn_26 : decode cX3_takeIn 26 = .ok (.getfield 15, 3) := by decide +kernel
theorem dX3_takeIn_29 : decode cX3_takeIn 29 = .ok (.iload_n 2, 1) := by decide +kernel
theorem dX3_takeIn_30 : decode cX3_takeIn 30 = .ok (.dup2, 1) := by decide +kernel
theorem dX3_takeIn_31 : decode cX3_takeIn 31 = .ok (.iaload, 1) := by decide +kernel
theorem dX3_takeIn_32 : decode cX3_takeIn 32 = .ok (.iload 4, 2) := by decide +kernel
theorem dX3_takeIn_34 : decode cX3_takeIn 34 = .ok (.ior, 1) := by decide +kernel
theorem dX3_takeIn_35 : decode cX3_takeIn 35 = .ok (.iastore, 1) := by decide +kernel
theorem dX3_takeIn_36 : decode cX3_takeIn 36 = .ok (.return_, 1) := by decide +kernel
set_option maxRecDepth 20000 in
theorem ggX3_grow_X3_thatShowedEnoughTo : GoodIn wsX3_grow wsX3_thatShowedEnoughTo := goodIn_r _ [10, 1, 2, 11, 5, 12, 13, 14, 21, 22, 23, 24, 25, 26, 27, 28, 29, 30, 31] (by decide +kernel) (by decide +kernel)
set_option maxRecDepth 20000 in
theorem gX3_grow_X3_thatShowedEnoughTo : GoodIn wsX3_grow (wsV RX3 67 RX3 yX3_thatShowedEnoughTo wsX3_thatShowedEnoughTo) := goodIn_app (goodIn_of _ (by decide +kernel)) ggX3_grow_X3_thatShowedEnoughTo
set_option maxRecDepth 20000 in
theorem ggX3_grow_X2_isMoreThanHalf : GoodIn wsX3_grow wsX2_isMoreThanHalf := goodIn_r _ [19, 20, 28, 29, 30, 31] (by decide +kernel) (by decide +kernel)
set_option maxRecDepth 20000 in
theorem gX3_grow_X2_isMoreThanHalf : GoodIn wsX3_grow (wsV RX3 71 RX2 yX2_isMoreThanHalf wsX2_isMoreThanHalf) := goodIn_app (goodIn_of _ (by decide +kernel)) ggX3_grow_X2_isMoreThanHalf
theorem dX3_grow_0 : decode cX3_grow 0 = .ok (.iconst 0, 1) := by decide +kernel
theorem dX3_grow_1 : decode cX3_grow 1 = .ok (.istore_n 1, 1) := by decide +kernel
theorem dX3_grow_2 : decode cX3_grow 2 = .ok (.iload_n 1, 1) := by decide +kernel
theorem dX3_grow_3 : decode cX3_grow 3 = .ok (.aload_n 0, 1) := by decide +kernel
theorem dX3_grow_4 : decode cX3_grow 4 = .ok (.getfield 28, 3) := by decide +kernel
theorem dX3_grow_7 : decode cX3_grow 7 = .ok (.getfield 38, 3) := by decide +kernel
theorem dX3_grow_10 : decode cX3_grow 10 = .ok (.if_icmp .ge 63, 3) := by decide +kernel
theorem dX3_grow_13 : decode cX3_grow 13 = .ok (.aload_n 0, 1) := by decide +kernel
theorem dX3_grow_14 : decode cX3_grow 14 = .ok (.getfield 22, 3) := by decide +kernel
theorem dX3_grow_17 : decode cX3_grow 17 = .ok (.iload_n 1, 1) := by decide +kernel
theorem dX3_grow_18 : decode cX3_grow 18 = .ok (.aload_n 0, 1) := by decide +kernel
theorem dX3_grow_19 : decode cX3_grow 19 = .ok (.getfield 18, 3) := by decide +kernel
theorem dX3_grow_22 : decode cX3_grow 22 = .ok (.iload_n 1, 1) := by decide +kernel
theorem dX3_grow_23 : decode cX3_grow 23 = .ok (.baload, 1) := by decide +kernel
theorem dX3_grow_24 : decode cX3_grow 24 = .ok (.ifCond .eq 22, 3) := by decide +kernel
theorem dX3_grow_27 : decode cX3_grow 27 = .ok (.aload_n 0, 1) := by decide +kernel
theorem dX3_grow_28 : decode cX3_grow 28 = .ok (.getfield 28, 3) := by decide +kernel
theorem dX3_grow_31 : decode cX3_grow 31 = .ok (.aload_n 0, 1) := by decide +kernel
theorem dX3_grow_32 : decode cX3_grow 32 = .ok (.iload_n 1, 1) := by decide +kernel
theorem dX3_grow_33 : decode cX3_grow 33 = .ok (.invokevirtual 67, 3) := by decide +kernel
theorem dX3_grow_36 : decode cX3_grow 36 = .ok (.invokevirtual 71, 3) := by decide +kernel
theorem dX3_grow_39 : decode cX3_grow 39 = .ok (.ifCond .eq 7, 3) := by decide +kernel
theorem dX3_grow_42 : decode cX3_grow 42 = .ok (.iconst 1, 1) := by decide +kernel
theorem dX3_grow_43 : decode cX3_grow 43 = .ok (.goto 4, 3) := by decide +kernel
theorem dX3_grow_46 : decode cX3_grow 46 = .ok (.iconst 0, 1) := by decide +kernel
theorem dX3_grow_47 : decode cX3_grow 47 = .ok (.bastore, 1) := by decide +kernel
theorem dX3_grow_48 : decode cX3_grow 48 = .ok (.aload_n 0, 1) := by decide +kernel
theorem dX3_grow_49 : decode cX3_grow 49 = .ok (.getfield 22, 3) := by decide +kernel
theorem dX3_grow_52 : decode cX3_grow 52 = .ok (.iload_n 1, 1) := by decide +kernel
theorem dX3_grow_53 : decode cX3_grow 53 = .ok (.baload, 1) := by decide +kernel
theorem dX3_grow_54 : decode cX3_grow 54 = .ok (.ifCond .eq 13, 3) := by decide +kernel
theorem dX3_grow_57 : decode cX3_grow 57 = .ok (.aload_n 0, 1) := by decide +kernel
theorem dX3_grow_58 : decode cX3_grow 58 = .ok (.getfield 9, 3) := by decide +kernel
theorem dX3_grow_61 : decode cX3_grow 61 = .ok (.iload_n 1, 1) := by decide +kernel
theorem dX3_grow_62 : decode cX3_grow 62 = .ok (.dup2, 1) := by decide +kernel
theorem dX3_grow_63 : decode cX3_grow 63 = .ok (.iaload, 1) := by decide +kernel
theorem dX3_grow_64 : decode cX3_grow 64 = .ok (.iconst 1, 1) := by decide +kernel
theorem dX3_grow_65 : decode cX3_grow 65 = .ok (.iadd, 1) := by decide +kernel
theorem dX3_grow_66 : decode cX3_grow 66 = .ok (.iastore, 1) := by decide +kernel
theorem dX3_grow_67 : decode cX3_grow 67 = .ok (.iinc 1 1, 3) := by decide +kernel
theorem dX3_grow_70 : decode cX3_grow 70 = .ok (.goto (-68), 3) := by decide +kernel
theorem dX3_grow_73 : decode cX3_grow 73 = .ok (.return_, 1) := by decide +kernel
set_option maxRecDepth 20000 in
theorem ggX3_thatShowedEnoughTo_X6_pair : GoodIn wsX3_thatShowedEnoughTo wsX6_pair := goodIn_r _ [7] (by decide +kernel) (by decide +kernel)
set_option maxRecDepth 20000 in
theorem gX3_thatShowedEnoughTo_X6_pair_n58 : GoodIn wsX3_thatShowedEnoughTo (wsX6_pair) := ggX3_thatShowedEnoughTo_X6_pair
theorem dX3_thatShowedEnoughTo_0 : decode cX3_thatShowedEnoughTo 0 = .ok (.iconst 0, 1) := by decide +kernel
theorem dX3_thatShowedEnoughTo_1 : decode cX3_thatShowedEnoughTo 1 = .ok (.istore_n 2, 1) := by decide +kernel
theorem dX3_thatShowedEnoughTo_2 : decode cX3_thatShowedEnoughTo 2 = .ok (.iconst 0, 1) := by decide +kernel
theorem dX3_thatShowedEnoughTo_3 : decode cX3_thatShowedEnoughTo 3 = .ok (.istore_n 3, 1) := by decide +kernel
theorem dX3_thatShowedEnoughTo_4 : decode cX3_thatShowedEnoughTo 4 = .ok (.iload_n 3, 1) := by decide +kernel
theorem dX3_thatShowedEnoughTo_5 : decode cX3_thatShowedEnoughTo 5 = .ok (.aload_n 0, 1) := by decide +kernel
theorem dX3_thatShowedEnoughTo_6 : decode cX3_thatShowedEnoughTo 6 = .ok (.getfield 28, 3) := by decide +kernel
theorem dX3_thatShowedEnoughTo_9 : decode cX3_thatShowedEnoughTo 9 = .ok (.getfield 38, 3) := by decide +kernel
theorem dX3_thatShowedEnoughTo_12 : decode cX3_thatShowedEnoughTo 12 = .ok (.if_icmp .ge 36, 3) := by decide +kernel
theorem dX3_thatShowedEnoughTo_15 : decode cX3_thatShowedEnoughTo 15 = .ok (.iload_n 3, 1) := by decide +kernel
theorem dX3_thatShowedEnoughTo_16 : decode cX3_thatShowedEnoughTo 16 = .ok (.iload_n 1, 1) := by decide +kernel
theorem dX3_thatShowedEnoughTo_17 : decode cX3_thatShowedEnoughTo 17 = .ok (.if_icmp .eq 22, 3) := by decide +kernel
theorem dX3_thatShowedEnoughTo_20 : decode cX3_thatShowedEnoughTo 20 = .ok (.aload_n 0, 1) := by decide +kernel
theorem dX3_thatShowedEnoughTo_21 : decode cX3_thatShowedEnoughTo 21 = .ok (.getfield 25, 3) := by decide +kernel
theorem dX3_thatShowedEnoughTo_24 : decode cX3_thatShowedEnoughTo 24 = .ok (.iload_n 1, 1) := by decide +kernel
theorem dX3_thatShowedEnoughTo_25 : decode cX3_thatShowedEnoughTo 25 = .ok (.iload_n 3, 1) := by decide +kernel
theorem dX3_thatShowedEnoughTo_26 : decode cX3_thatShowedEnoughTo 26 = .ok (.invokestatic 58, 3) := by decide +kernel
theorem dX3_thatShowedEnoughTo_29 : decode cX3_thatShowedEnoughTo 29 = .ok (.iaload, 1) := by decide +kernel
theorem dX3_thatShowedEnoughTo_30 : decode cX3_thatShowedEnoughTo 30 = .ok (.aload_n 0, 1) := by decide +kernel
theorem dX3_thatShowedEnoughTo_31 : decode cX3_thatShowedEnoughTo 31 = .ok (.getfield 9, 3) := by decide +kernel
theorem dX3_thatShowedEnoughTo_34 : decode cX3_thatShowedEnoughTo 34 = .ok (.iload_n 1, 1) := by decide +kernel
theorem dX3_thatShowedEnoughTo_35 : decode cX3_thatShowedEnoughTo 35 = .ok (.iaload, 1) := by decide +kernel
theorem dX3_thatShowedEnoughTo_36 : decode cX3_thatShowedEnoughTo 36 = .ok (.if_icmp .lt 6, 3) := by decide +kernel
theorem dX3_thatShowedEnoughTo_39 : decode cX3_thatShowedEnoughTo 39 = .ok (.iinc 2 1, 3) := by decide +kernel
theorem dX3_thatShowedEnoughTo_42 : decode cX3_thatShowedEnoughTo 42 = .ok (.iinc 3 1, 3) := by decide +kernel
theorem dX3_thatShowedEnoughTo_45 : decode cX3_thatShowedEnoughTo 45 = .ok (.goto (-41), 3) := by decide +kernel
theorem dX3_thatShowedEnoughTo_48 : decode cX3_thatShowedEnoughTo 48 = .ok (.iload_n 2, 1) := by decide +kernel
theorem dX3_thatShowedEnoughTo_49 : decode cX3_thatShowedEnoughTo 49 = .ok (.ireturn, 1) := by decide +kernel
set_option maxRecDepth 20000 in
theorem ggX3_keepTheRule_X3_noLowerThan : GoodIn wsX3_keepTheRule wsX3_noLowerThan := goodIn_r _ [13, 1, 2, 4, 20, 21, 22, 23, 24, 25, 26, 27, 28, 29, 30] (by decide +kernel) (by decide +kernel)
set_option maxRecDepth 20000 in
theorem gX3_keepTheRule_X3_noLowerThan : GoodIn wsX3_keepTheRule (wsV RX3 77 RX3 yX3_noLowerThan wsX3_noLowerThan) := goodIn_app (goodIn_of _ (by decide +kernel)) ggX3_keepTheRule_X3_noLowerThan
set_option maxRecDepth 20000 in
theorem ggX3_keepTheRule_X2_isMoreThanHalf : GoodIn wsX3_keepTheRule wsX2_isMoreThanHalf := goodIn_r _ [18, 19, 27, 28, 29, 30] (by decide +kernel) (by decide +kernel)
set_option maxRecDepth 20000 in
theorem gX3_keepTheRule_X2_isMoreThanHalf : GoodIn wsX3_keepTheRule (wsV RX3 71 RX2 yX2_isMoreThanHalf wsX2_isMoreThanHalf) := goodIn_app (goodIn_of _ (by decide +kernel)) ggX3_keepTheRule_X2_isMoreThanHalf
theorem dX3_keepTheRule_0 : decode cX3_keepTheRule 0 = .ok (.iconst 0, 1) := by decide +kernel
theorem dX3_keepTheRule_1 : decode cX3_keepTheRule 1 = .ok (.istore_n 1, 1) := by decide +kernel
theorem dX3_keepTheRule_2 : decode cX3_keepTheRule 2 = .ok (.iconst 0, 1) := by decide +kernel
theorem dX3_keepTheRule_3 : decode cX3_keepTheRule 3 = .ok (.istore_n 2, 1) := by decide +kernel
theorem dX3_keepTheRule_4 : decode cX3_keepTheRule 4 = .ok (.iload_n 2, 1) := by decide +kernel
theorem dX3_keepTheRule_5 : decode cX3_keepTheRule 5 = .ok (.aload_n 0, 1) := by decide +kernel
theorem dX3_keepTheRule_6 : decode cX3_keepTheRule 6 = .ok (.getfield 28, 3) := by decide +kernel
theorem dX3_keepTheRule_9 : decode cX3_keepTheRule 9 = .ok (.getfield 38, 3) := by decide +kernel
theorem dX3_keepTheRule_12 : decode cX3_keepTheRule 12 = .ok (.if_icmp .ge 32, 3) := by decide +kernel
theorem dX3_keepTheRule_15 : decode cX3_keepTheRule 15 = .ok (.aload_n 0, 1) := by decide +kernel
theorem dX3_keepTheRule_16 : decode cX3_keepTheRule 16 = .ok (.getfield 28, 3) := by decide +kernel
theorem dX3_keepTheRule_19 : decode cX3_keepTheRule 19 = .ok (.getfield 74, 3) := by decide +kernel
theorem dX3_keepTheRule_22 : decode cX3_keepTheRule 22 = .ok (.iload_n 2, 1) := by decide +kernel
theorem dX3_keepTheRule_23 : decode cX3_keepTheRule 23 = .ok (.iaload, 1) := by decide +kernel
theorem dX3_keepTheRule_24 : decode cX3_keepTheRule 24 = .ok (.ifCond .ne 14, 3) := by decide +kernel
theorem dX3_keepTheRule_27 : decode cX3_keepTheRule 27 = .ok (.iload_n 1, 1) := by decide +kernel
theorem dX3_keepTheRule_28 : decode cX3_keepTheRule 28 = .ok (.aload_n 0, 1) := by decide +kernel
theorem dX3_keepTheRule_29 : decode cX3_keepTheRule 29 = .ok (.getfield 9, 3) := by decide +kernel
theorem dX3_keepTheRule_32 : decode cX3_keepTheRule 32 = .ok (.iload_n 2, 1) := by decide +kernel
theorem dX3_keepTheRule_33 : decode cX3_keepTheRule 33 = .ok (.iaload, 1) := by decide +kernel
theorem dX3_keepTheRule_34 : decode cX3_keepTheRule 34 = .ok (.invokestatic 62, 3) := by decide +kernel
theorem dX3_keepTheRule_37 : decode cX3_keepTheRule 37 = .ok (.istore_n 1, 1) := by decide +kernel
theorem dX3_keepTheRule_38 : decode cX3_keepTheRule 38 = .ok (.iinc 2 1, 3) := by decide +kernel
theorem dX3_keepTheRule_41 : decode cX3_keepTheRule 41 = .ok (.goto (-37), 3) := by decide +kernel
theorem dX3_keepTheRule_44 : decode cX3_keepTheRule 44 = .ok (.iload_n 1, 1) := by decide +kernel
theorem dX3_keepTheRule_45 : decode cX3_keepTheRule 45 = .ok (.ifCond .eq 20, 3) := by decide +kernel
theorem dX3_keepTheRule_48 : decode cX3_keepTheRule 48 = .ok (.aload_n 0, 1) := by decide +kernel
theorem dX3_keepTheRule_49 : decode cX3_keepTheRule 49 = .ok (.getfield 28, 3) := by decide +kernel
theorem dX3_keepTheRule_52 : decode cX3_keepTheRule 52 = .ok (.aload_n 0, 1) := by decide +kernel
theorem dX3_keepTheRule_53 : decode cX3_keepTheRule 53 = .ok (.iload_n 1, 1) := by decide +kernel
theorem dX3_keepTheRule_54 : decode cX3_keepTheRule 54 = .ok (.iconst 1, 1) := by decide +kernel
theorem dX3_keepTheRule_55 : decode cX3_keepTheRule 55 = .ok (.isub, 1) := by decide +kernel
theorem dX3_keepTheRule_56 : decode cX3_keepTheRule 56 = .ok (.invokevirtual 77, 3) := by decide +kernel
theorem dX3_keepTheRule_59 : decode cX3_keepTheRule 59 = .ok (.invokevirtual 71, 3) := by decide +kernel
theorem dX3_keepTheRule_62 : decode cX3_keepTheRule 62 = .ok (.ifCond .eq 7, 3) := by decide +kernel
theorem dX3_keepTheRule_65 : decode cX3_keepTheRule 65 = .ok (.iconst 1, 1) := by decide +kernel
theorem dX3_keepTheRule_66 : decode cX3_keepTheRule 66 = .ok (.goto 4, 3) := by decide +kernel
theorem dX3_keepTheRule_69 : decode cX3_keepTheRule 69 = .ok (.iconst 0, 1) := by decide +kernel
theorem dX3_keepTheRule_70 : decode cX3_keepTheRule 70 = .ok (.ireturn, 1) := by decide +kernel
theorem dX3_noLowerThan_0 : decode cX3_noLowerThan 0 = .ok (.iconst 0, 1) := by decide +kernel
theorem dX3_noLowerThan_1 : decode cX3_noLowerThan 1 = .ok (.istore_n 2, 1) := by decide +kernel
theorem dX3_noLowerThan_2 : decode cX3_noLowerThan 2 = .ok (.iconst 0, 1) := by decide +kernel
theorem dX3_noLowerThan_3 : decode cX3_noLowerThan 3 = .ok (.istore_n 3, 1) := by decide +kernel
theorem dX3_noLowerThan_4 : decode cX3_noLowerThan 4 = .ok (.iload_n 3, 1) := by decide +kernel
theorem dX3_noLowerThan_5 : decode cX3_noLowerThan 5 = .ok (.aload_n 0, 1) := by decide +kernel
theorem dX3_noLowerThan_6 : decode cX3_noLowerThan 6 = .ok (.getfield 28, 3) := by decide +kernel
theorem dX3_noLowerThan_9 : decode cX3_noLowerThan 9 = .ok (.getfield 38, 3) := by decide +kernel
theorem dX3_noLowerThan_12 : decode cX3_noLowerThan 12 = .ok (.if_icmp .ge 22, 3) := by decide +kernel
theorem dX3_noLowerThan_15 : decode cX3_noLowerThan 15 = .ok (.aload_n 0, 1) := by decide +kernel
theorem dX3_noLowerThan_16 : decode cX3_noLowerThan 16 = .ok (.getfield 9, 3) := by decide +kernel
theorem dX3_noLowerThan_19 : decode cX3_noLowerThan 19 = .ok (.iload_n 3, 1) := by decide +kernel
theorem dX3_noLowerThan_20 : decode cX3_noLowerThan 20 = .ok (.iaload, 1) := by decide +kernel
theorem dX3_noLowerThan_21 : decode cX3_noLowerThan 21 = .ok (.iload_n 1, 1) := by decide +kernel
theorem dX3_noLowerThan_22 : decode cX3_noLowerThan 22 = .ok (.if_icmp .lt 6, 3) := by decide +kernel
theorem dX3_noLowerThan_25 : decode cX3_noLowerThan 25 = .ok (.iinc 2 1, 3) := by decide +kernel
theorem dX3_noLowerThan_28 : decode cX3_noLowerThan 28 = .ok (.iinc 3 1, 3) := by decide +kernel
theorem dX3_noLowerThan_31 : decode cX3_noLowerThan 31 = .ok (.goto (-27), 3) := by decide +kernel
theorem dX3_noLowerThan_34 : decode cX3_noLowerThan 34 = .ok (.iload_n 2, 1) := by decide +kernel
theorem dX3_noLowerThan_35 : decode cX3_noLowerThan 35 = .ok (.ireturn, 1) := by decide +kernel
theorem dX3_greatestHeight_0 : decode cX3_greatestHeight 0 = .ok (.iconst 0, 1) := by decide +kernel
theorem dX3_greatestHeight_1 : decode cX3_greatestHeight 1 = .ok (.istore_n 1, 1) := by decide +kernel
theorem dX3_greatestHeight_2 : decode cX3_greatestHeight 2 = .ok (.iconst 0, 1) := by decide +kernel
theorem dX3_greatestHeight_3 : decode cX3_greatestHeight 3 = .ok (.istore_n 2, 1) := by decide +kernel
theorem dX3_greatestHeight_4 : decode cX3_greatestHeight 4 = .ok (.iload_n 2, 1) := by decide +kernel
theorem dX3_greatestHeight_5 : decode cX3_greatestHeight 5 = .ok (.aload_n 0, 1) := by decide +kernel
theorem dX3_greatestHeight_6 : decode cX3_greatestHeight 6 = .ok (.getfield 28, 3) := by decide +kernel
theorem dX3_greatestHeight_9 : decode cX3_greatestHeight 9 = .ok (.getfield 38, 3) := by decide +kernel
theorem dX3_greatestHeight_12 : decode cX3_greatestHeight 12 = .ok (.if_icmp .ge 20, 3) := by decide +kernel
theorem dX3_greatestHeight_15 : decode cX3_greatestHeight 15 = .ok (.iload_n 1, 1) := by decide +kernel
theorem dX3_greatestHeight_16 : decode cX3_greatestHeight 16 = .ok (.aload_n 0, 1) := by decide +kernel
theorem dX3_greatestHeight_17 : decode cX3_greatestHeight 17 = .ok (.getfield 9, 3) := by decide +kernel
theorem dX3_greatestHeight_20 : decode cX3_greatestHeight 20 = .ok (.iload_n 2, 1) := by decide +kernel
theorem dX3_greatestHeight_21 : decode cX3_greatestHeight 21 = .ok (.iaload, 1) := by decide +kernel
theorem dX3_greatestHeight_22 : decode cX3_greatestHeight 22 = .ok (.invokestatic 62, 3) := by decide +kernel
theorem dX3_greatestHeight_25 : decode cX3_greatestHeight 25 = .ok (.istore_n 1, 1) := by decide +kernel
theorem dX3_greatestHeight_26 : decode cX3_greatestHeight 26 = .ok (.iinc 2 1, 3) := by decide +kernel
theorem dX3_greatestHeight_29 : decode cX3_greatestHeight 29 = .ok (.goto (-25), 3) := by decide +kernel
theorem dX3_greatestHeight_32 : decode cX3_greatestHeight 32 = .ok (.iload_n 1, 1) := by decide +kernel
theorem dX3_greatestHeight_33 : decode cX3_greatestHeight 33 = .ok (.ireturn, 1) := by decide +kernel
theorem dX3_thatKnow_0 : decode cX3_thatKnow 0 = .ok (.iconst 0, 1) := by decide +kernel
theorem dX3_thatKnow_1 : decode cX3_thatKnow 1 = .ok (.istore_n 2, 1) := by decide +kernel
theorem dX3_thatKnow_2 : decode cX3_thatKnow 2 = .ok (.iconst 0, 1) := by decide +kernel
theorem dX3_thatKnow_3 : decode cX3_thatKnow 3 = .ok (.istore_n 3, 1) := by decide +kernel
theorem dX3_thatKnow_4 : decode cX3_thatKnow 4 = .ok (.iload_n 3, 1) := by decide +kernel
theorem dX3_thatKnow_5 : decode cX3_thatKnow 5 = .ok (.aload_n 0, 1) := by decide +kernel
theorem dX3_thatKnow_6 : decode cX3_thatKnow 6 = .ok (.getfield 28, 3) := by decide +kernel
theorem dX3_thatKnow_9 : decode cX3_thatKnow 9 = .ok (.getfield 38, 3) := by decide +kernel
theorem dX3_thatKnow_12 : decode cX3_thatKnow 12 = .ok (.if_icmp .ge 22, 3) := by decide +kernel
theorem dX3_thatKnow_15 : decode cX3_thatKnow 15 = .ok (.iload_n 2, 1) := by decide +kernel
theorem dX3_thatKnow_16 : decode cX3_thatKnow 16 = .ok (.aload_n 0, 1) := by decide +kernel
theorem dX3_thatKnow_17 : decode cX3_thatKnow 17 = .ok (.getfield 15, 3) := by decide +kernel
theorem dX3_thatKnow_20 : decode cX3_thatKnow 20 = .ok (.iload_n 3, 1) := by decide +kernel
theorem dX3_thatKnow_21 : decode cX3_thatKnow 21 = .ok (.iaload, 1) := by decide +kernel
theorem dX3_thatKnow_22 : decode cX3_thatKnow 22 = .ok (.iload_n 1, 1) := by decide +kernel
theorem dX3_thatKnow_23 : decode cX3_thatKnow 23 = .ok (.ishr, 1) := by decide +kernel
theorem dX3_thatKnow_24 : decode cX3_thatKnow 24 = .ok (.iconst 1, 1) := by decide +kernel
theorem dX3_thatKnow_25 : decode cX3_thatKnow 25 = .ok (.iand, 1) := by decide +kernel
theorem dX3_thatKnow_26 : decode cX3_thatKnow 26 = .ok (.iadd, 1) := by decide +kernel
theorem dX3_thatKnow_27 : decode cX3_thatKnow 27 = .ok (.istore_n 2, 1) := by decide +kernel
theorem dX3_thatKnow_28 : decode cX3_thatKnow 28 = .ok (.iinc 3 1, 3) := by decide +kernel
theorem dX3_thatKnow_31 : decode cX3_thatKnow 31 = .ok (.goto (-27), 3) := by decide +kernel
theorem dX3_thatKnow_34 : decode cX3_thatKnow 34 = .ok (.iload_n 2, 1) := by decide +kernel
theorem dX3_thatKnow_35 : decode cX3_thatKnow 35 = .ok (.ireturn, 1) := by decide +kernel
set_option maxRecDepth 20000 in
theorem ggX4_init_X0_init : GoodIn wsX4_init wsX0_init := goodIn_r _ [25, 26, 2, 3, 12, 27, 28, 29, 30, 51, 52, 53, 54, 55] (by decide +kernel) (by decide +kernel)
set_option maxRecDepth 20000 in
theorem gX4_init_X0_init_n11 : GoodIn wsX4_init (wsX0_init) := ggX4_init_X0_init
set_option maxRecDepth 20000 in
theorem ggX4_init_X1_init : GoodIn wsX4_init wsX1_init := goodIn_r _ [32, 33, 2, 3, 12, 34, 35, 36, 37, 38, 39, 40, 69, 70, 71, 72, 73, 74, 75, 76, 77] (by decide +kernel) (by decide +kernel)
set_option maxRecDepth 20000 in
theorem gX4_init_X1_init_n20 : GoodIn wsX4_init (wsX1_init) := ggX4_init_X1_init
set_option maxRecDepth 20000 in
theorem ggX4_init_X3_init : GoodIn wsX4_init wsX3_init := goodIn_r _ [43, 44, 2, 3, 12, 45, 46, 14, 47, 48, 49, 50, 78, 79, 80, 81, 82, 83, 84] (by decide +kernel) (by decide +kernel)
set_option maxRecDepth 20000 in
theorem gX4_init_X3_init : GoodIn wsX4_init (wsX3_init) := ggX4_init_X3_init
theorem dX4_init_0 : decode cX4_init 0 = .ok (.aload_n 0, 1) := by decide +kernel
theorem dX4_init_1 : decode cX4_init 1 = .ok (.invokespecial 3, 3) := by decide +kernel
theorem dX4_init_4 : decode cX4_init 4 = .ok (.aload_n 0, 1) := by decide +kernel
theorem dX4_init_5 : decode cX4_init 5 = .ok (.new 9, 3) := by decide +kernel
theorem dX4_init_8 : decode cX4_init 8 = .ok (.dup, 1) := by decide +kernel
theorem dX4_init_9 : decode cX4_init 9 = .ok (.invokespecial 11, 3) := by decide +kernel
theorem dX4_init_12 : decode cX4_init 12 = .ok (.putfield 12, 3) := by decide +kernel
theorem dX4_init_15 : decode cX4_init 15 = .ok (.aload_n 0, 1) := by decide +kernel
theorem dX4_init_16 : decode cX4_init 16 = .ok (.new 18, 3) := by decide +kernel
theorem dX4_init_19 : decode cX4_init 19 = .ok (.dup, 1) := by decide +kernel
theorem dX4_init_20 : decode cX4_init 20 = .ok (.invokespecial 20, 3) := by decide +kernel
theorem dX4_init_23 : decode cX4_init 23 = .ok (.putfield 21, 3) := by decide +kernel
theorem dX4_init_26 : decode cX4_init 26 = .ok (.aload_n 0, 1) := by decide +kernel
theorem dX4_init_27 : decode cX4_init 27 = .ok (.sipush 240, 3) := by decide +kernel
theorem dX4_init_30 : decode cX4_init 30 = .ok (.newarray .int, 2) := by decide +kernel
theorem dX4_init_32 : decode cX4_init 32 = .ok (.putfield 25, 3) := by decide +kernel
theorem dX4_init_35 : decode cX4_init 35 = .ok (.aload_n 0, 1) := by decide +kernel
theorem dX4_init_36 : decode cX4_init 36 = .ok (.bipush 40, 2) := by decide +kernel
theorem dX4_init_38 : decode cX4_init 38 = .ok (.newarray .boolean, 2) := by decide +kernel
theorem dX4_init_40 : decode cX4_init 40 = .ok (.putfield 29, 3) := by decide +kernel
theorem dX4_init_43 : decode cX4_init 43 = .ok (.aload_n 0, 1) := by decide +kernel
theorem dX4_init_44 : decode cX4_init 44 = .ok (.iconst (-1), 1) := by decide +kernel
theorem dX4_init_45 : decode cX4_init 45 = .ok (.putfield 33, 3) := by decide +kernel
theorem dX4_init_48 : decode cX4_init 48 = .ok (.aload_n 0, 1) := by decide +kernel
theorem dX4_init_49 : decode cX4_init 49 = .ok (.aload_n 1, 1) := by decide +kernel
theorem dX4_init_50 : decode cX4_init 50 = .ok (.putfield 37, 3) := by decide +kernel
theorem dX4_init_53 : decode cX4_init 53 = .ok (.aload_n 0, 1) := by decide +kernel
theorem dX4_init_54 : decode cX4_init 54 = .ok (.aload_n 2, 1) := by decide +kernel
theorem dX4_init_55 : decode cX4_init 55 = .ok (.putfield 41, 3) := by decide +kernel
theorem dX4_init_58 : decode cX4_init 58 = .ok (.aload_n 0, 1) := by decide +kernel
theorem dX4_init_59 : decode cX4_init 59 = .ok (.iload_n 3, 1) := by decide +kernel
theorem dX4_init_60 : decode cX4_init 60 = .ok (.putfield 45, 3) := by decide +kernel
theorem dX4_init_63 : decode cX4_init 63 = .ok (.aload_n 0, 1) := by decide +kernel
theorem dX4_init_64 : decode cX4_init 64 = .ok (.new 49, 3) := by decide +kernel
theorem dX4_init_67 : decode cX4_init 67 = .ok (.dup, 1) := by decide +kernel
theorem dX4_init_68 : decode cX4_init 68 = .ok (.aload_n 1, 1) := by decide +kernel
theorem dX4_init_69 : decode cX4_init 69 = .ok (.invokespecial 51, 3) := by decide +kernel
theorem dX4_init_72 : decode cX4_init 72 = .ok (.putfield 54, 3) := by decide +kernel
theorem dX4_init_75 : decode cX4_init 75 = .ok (.return_, 1) := by decide +kernel
theorem dX4_hasTurn_0 : decode cX4_hasTurn 0 = .ok (.iload_n 1, 1) := by decide +kernel
theorem dX4_hasTurn_1 : decode cX4_hasTurn 1 = .ok (.ifCond .lt 15, 3) := by decide +kernel
theorem dX4_hasTurn_4 : decode cX4_hasTurn 4 = .ok (.iload_n 1, 1) := by decide +kernel
theorem dX4_hasTurn_5 : decode cX4_hasTurn 5 = .ok (.aload_n 0, 1) := by decide +kernel
theorem dX4_hasTurn_6 : decode cX4_hasTurn 6 = .ok (.getfield 58, 3) := by decide +kernel
theorem dX4_hasTurn_9 : decode cX4_hasTurn 9 = .ok (.if_icmp .ge 7, 3) := by decide +kernel
theorem dX4_hasTurn_12 : decode cX4_hasTurn 12 = .ok (.iconst 1, 1) := by decide +kernel
theorem dX4_hasTurn_13 : decode cX4_hasTurn 13 = .ok (.goto 4, 3) := by decide +kernel
theorem dX4_hasTurn_16 : decode cX4_hasTurn 16 = .ok (.iconst 0, 1) := by decide +kernel
theorem dX4_hasTurn_17 : decode cX4_hasTurn 17 = .ok (.ireturn, 1) := by decide +kernel
set_option maxRecDepth 20000 in
theorem ggX4_run_X4_begin : GoodIn wsX4_run wsX4_begin := goodIn_r _ [9, 10, 11, 12, 13, 1, 14, 4, 15, 16, 17, 18, 2, 19, 20, 21, 22, 23, 24, 25, 26, 27, 28, 29, 30, 31, 32, 33, 34, 35, 36, 37, 38, 39, 40, 41, 42, 43, 44, 45, 46, 47, 48, 49, 50, 51, 239, 240, 241, 242, 243, 244, 245, 246, 247, 248, 249, 250, 251, 252, 253, 254, 255, 256, 257, 258, 259, 260, 261, 262, 263, 264, 265, 266, 267, 268, 269, 270, 271, 272, 273, 274, 275, 276] (by decide +kernel) (by decide +kernel)
set_option maxRecDepth 20000 in
theorem gX4_run_X4_begin : GoodIn wsX4_run (wsV RX4 61 RX4 yX4_begin wsX4_begin) := goodIn_app (goodIn_of _ (by decide +kernel)) ggX4_run_X4_begin
set_option maxRecDepth 20000 in
theorem ggX4_run_X4_meetEvents : GoodIn wsX4_run wsX4_meetEvents := goodIn_r _ [55, 56, 57, 2, 58, 59, 60, 61, 62, 63, 64, 65, 66, 67, 68, 69, 70, 71, 72, 73, 41, 74, 50, 44, 49, 75, 76, 77, 78, 79, 80, 81, 82, 83, 84, 45, 43, 85, 86, 239, 240, 241, 242, 243, 244, 245, 246, 247, 248, 249, 250, 251, 277, 278, 279, 280, 281, 282, 283, 266, 267, 268, 269, 270, 271, 272, 273, 274, 275, 276] (by decide +kernel) (by decide +kernel)
set_option maxRecDepth 20000 in
theorem gX4_run_X4_meetEvents : GoodIn wsX4_run (wsV RX4 65 RX4 yX4_meetEvents wsX4_meetEvents) := goodIn_app (goodIn_of _ (by decide +kernel)) ggX4_run_X4_meetEvents
set_option maxRecDepth 20000 in
theorem ggX4_run_X4_takeInComings : GoodIn wsX4_run wsX4_takeInComings := goodIn_r _ [90, 18, 91, 92, 93, 29, 94, 32, 95, 69, 96, 97, 98, 99, 100, 101, 102, 103, 104, 105, 31, 106, 107, 108, 8, 109, 17, 110, 111, 2, 16, 112, 113, 114, 15, 115, 116, 117, 22, 118, 24, 119, 120, 121, 41, 122, 49, 50, 123, 124, 125, 126, 43, 127, 128, 12, 129, 47, 85, 86, 130, 131, 132, 133, 134, 239, 240, 241, 242, 243, 244, 245, 246, 247, 248, 249, 250, 251, 261, 262, 263, 264, 265, 252, 253, 254, 255, 256, 257, 258, 259, 260, 266, 267, 268, 269, 270, 271, 272] (by decide +kernel) (by decide +kernel)
set_option maxRecDepth 20000 in
theorem gX4_run_X4_takeInComings : GoodIn wsX4_run (wsV RX4 69 RX4 yX4_takeInComings wsX4_takeInComings) := goodIn_app (goodIn_of _ (by decide +kernel)) ggX4_run_X4_takeInComings
set_option maxRecDepth 20000 in
theorem ggX4_run_X3_grow : GoodIn wsX4_run wsX3_grow := goodIn_r _ [138, 44, 45, 139, 49, 46, 140, 141, 142, 41, 143, 43, 85, 69, 86, 144, 145, 146, 78, 147, 80, 266, 267, 268, 269, 270, 271, 272, 273, 274, 275, 276] (by decide +kernel) (by decide +kernel)
set_option maxRecDepth 20000 in
theorem gX4_run_X3_grow : GoodIn wsX4_run (wsV RX4 72 RX3 yX3_grow wsX3_grow) := goodIn_app (goodIn_of _ (by decide +kernel)) ggX4_run_X3_grow
set_option maxRecDepth 20000 in
theorem ggX4_run_X4_sendLetters : GoodIn wsX4_run wsX4_sendLetters := goodIn_r _ [151, 152, 153, 2, 154, 155, 156, 157, 158, 159, 8, 160, 161, 17, 162, 163, 164, 165, 166, 78, 167, 168, 169, 170, 171, 22, 172, 24, 173, 174, 175, 176, 177, 178, 179, 85, 69, 86, 180, 181, 182, 183, 56, 184, 185, 18, 115, 116, 117, 118, 186, 187, 188, 63, 189, 190, 191, 192, 193, 194, 195, 196, 14, 197, 198, 199, 200, 201, 202, 203, 204, 205, 65, 66, 206, 207, 208, 209, 210, 211, 212, 213, 214, 29, 215, 31, 101, 134, 33, 32, 216, 217, 218, 219, 57, 220, 221, 239, 240, 241, 242, 243, 244, 245, 246, 247, 248, 249, 250, 251, 273, 274, 275, 276, 266, 267, 268, 269, 270, 271, 272, 252, 253, 254, 255, 256, 257, 258, 259, 260, 277, 278, 279, 280, 281, 282, 283, 261, 262, 263, 264, 265] (by decide +kernel) (by decide +kernel)
set_option maxRecDepth 20000 in
theorem gX4_run_X4_sendLetters : GoodIn wsX4_run (wsV RX4 75 RX4 yX4_sendLetters wsX4_sendLetters) := goodIn_app (goodIn_of _ (by decide +kernel)) ggX4_run_X4_sendLetters
set_option maxRecDepth 20000 in
theorem ggX4_run_X4_keepRecord : GoodIn wsX4_run wsX4_keepRecord := goodIn_r _ [225, 152, 153, 226, 2, 161, 227, 4, 228, 69, 229, 230, 231, 232, 41, 233, 44, 45, 234, 46, 127, 128, 12, 129, 235, 236, 237, 238, 144, 145, 146, 78, 147, 80, 239, 240, 241, 242, 243, 244, 245, 246, 247, 248, 249, 250, 251, 273, 274, 275, 276, 266, 267, 268, 269, 270, 271, 272] (by decide +kernel) (by decide +kernel)
set_option maxRecDepth 20000 in
theorem gX4_run_X4_keepRecord : GoodIn wsX4_run (wsV RX4 78 RX4 yX4_keepRecord wsX4_keepRecord) := goodIn_app (goodIn_of _ (by decide +kernel)) ggX4_run_X4_keepRecord
theorem dX4_run_0 : decode cX4_run 0 = .ok (.aload_n 0, 1) := by decide +kernel
theorem dX4_run_1 : decode cX4_run 1 = .ok (.iload_n 1, 1) := by decide +kernel
theorem dX4_run_2 : decode cX4_run 2 = .ok (.iload_n 2, 1) := by decide +kernel
theorem dX4_run_3 : decode cX4_run 3 = .ok (.invokevirtual 61, 3) := by decide +kernel
theorem dX4_run_6 : decode cX4_run 6 = .ok (.iconst 0, 1) := by decide +kernel
theorem dX4_run_7 : decode cX4_run 7 = .ok (.istore_n 3, 1) := by decide +kernel
theorem dX4_run_8 : decode cX4_run 8 = .ok (.iload_n 3, 1) := by decide +kernel
theorem dX4_run_9 : decode cX4_run 9 = .ok (.aload_n 0, 1) := by decide +kernel
theorem dX4_run_10 : decode cX4_run 10 = .ok (.getfield 58, 3) := by decide +kernel
theorem dX4_run_13 : decode cX4_run 13 = .ok (.if_icmp .ge 54, 3) := by decide +kernel
theorem dX4_run_16 : decode cX4_run 16 = .ok (.aload_n 0, 1) := by decide +kernel
theorem dX4_run_17 : decode cX4_run 17 = .ok (.iload_n 3, 1) := by decide +kernel
theorem dX4_run_18 : decode cX4_run 18 = .ok (.invokevirtual 65, 3) := by decide +kernel
theorem dX4_run_21 : decode cX4_run 21 = .ok (.aload_n 0, 1) := by decide +kernel
theorem dX4_run_22 : decode cX4_run 22 = .ok (.iload_n 3, 1) := by decide +kernel
theorem dX4_run_23 : decode cX4_run 23 = .ok (.invokevirtual 69, 3) := by decide +kernel
theorem dX4_run_26 : decode cX4_run 26 = .ok (.aload_n 0, 1) := by decide +kernel
theorem dX4_run_27 : decode cX4_run 27 = .ok (.getfield 54, 3) := by decide +kernel
theorem dX4_run_30 : decode cX4_run 30 = .ok (.invokevirtual 72, 3) := by decide +kernel
theorem dX4_run_33 : decode cX4_run 33 = .ok (.aload_n 0, 1) := by decide +kernel
theorem dX4_run_34 : decode cX4_run 34 = .ok (.iload_n 3, 1) := by decide +kernel
theorem dX4_run_35 : decode cX4_run 35 = .ok (.invokevirtual 75, 3) := by decide +kernel
theorem dX4_run_38 : decode cX4_run 38 = .ok (.aload_n 0, 1) := by decide +kernel
theorem dX4_run_39 : decode cX4_run 39 = .ok (.iload_n 3, 1) := by decide +kernel
theorem dX4_run_40 : decode cX4_run 40 = .ok (.invokevirtual 78, 3) := by decide +kernel
theorem dX4_run_43 : decode cX4_run 43 = .ok (.aload_n 0, 1) := by decide +kernel
theorem dX4_run_44 : decode cX4_run 44 = .ok (.getfield 45, 3) := by decide +kernel
theorem dX4_run_47 : decode cX4_run 47 = .ok (.ifCond .eq 14, 3) := by decide +kernel
theorem dX4_run_50 : decode cX4_run 50 = .ok (.aload_n 0, 1) := by decide +kernel
theorem dX4_run_51 : decode cX4_run 51 = .ok (.getfield 33, 3) := by decide +kernel
theorem dX4_run_54 : decode cX4_run 54 = .ok (.iconst (-1), 1) := by decide +kernel
theorem dX4_run_55 : decode cX4_run 55 = .ok (.if_icmp .eq 6, 3) := by decide +kernel
theorem dX4_run_58 : decode cX4_run 58 = .ok (.goto 9, 3) := by decide +kernel
theorem dX4_run_61 : decode cX4_run 61 = .ok (.iinc 3 1, 3) := by decide +kernel
theorem dX4_run_64 : decode cX4_run 64 = .ok (.goto (-56), 3) := by decide +kernel
theorem dX4_run_67 : decode cX4_run 67 = .ok (.aload_n 0, 1) := by decide +kernel
theorem dX4_run_68 : decode cX4_run 68 = .ok (.getfield 33, 3) := by decide +kernel
theorem dX4_run_71 : decode cX4_run 71 = .ok (.iconst (-1), 1) := by decide +kernel
theorem dX4_run_72 : decode cX4_run 72 = .ok (.if_icmp .eq 7, 3) := by decide +kernel
theorem dX4_run_75 : decode cX4_run 75 = .ok (.iconst 1, 1) := by decide +kernel
theorem dX4_run_76 : decode cX4_run 76 = .ok (.goto 4, 3) := by decide +kernel
theorem dX4_run_79 : decode cX4_run 79 = .ok (.iconst 0, 1) := by decide +kernel
theorem dX4_run_80 : decode cX4_run 80 = .ok (.ireturn, 1) := by decide +kernel
set_option maxRecDepth 20000 in
theorem ggX4_begin_X1_clear : GoodIn wsX4_begin wsX1_clear := goodIn_r _ [17, 18, 19, 59, 60, 61, 62, 63, 64, 65, 66, 67] (by decide +kernel) (by decide +kernel)
set_option maxRecDepth 20000 in
theorem gX4_begin_X1_clear : GoodIn wsX4_begin (wsV RX4 96 RX1 yX1_clear wsX1_clear) := goodIn_app (goodIn_of _ (by decide +kernel)) ggX4_begin_X1_clear
set_option maxRecDepth 20000 in
theorem ggX4_begin_X0_clear : GoodIn wsX4_begin wsX0_clear := goodIn_r _ [24, 25, 26, 27, 28, 29, 30, 31, 68, 69, 70, 71, 72] (by decide +kernel) (by decide +kernel)
set_option maxRecDepth 20000 in
theorem gX4_begin_X0_clear : GoodIn wsX4_begin (wsV RX4 99 RX0 yX0_clear wsX0_clear) := goodIn_app (goodIn_of _ (by decide +kernel)) ggX4_begin_X0_clear
set_option maxRecDepth 20000 in
theorem ggX4_begin_X3_begin : GoodIn wsX4_begin wsX3_begin := goodIn_r _ [36, 37, 38, 39, 40, 41, 42, 43, 44, 45, 29, 30, 31, 73, 74, 75, 76, 77, 78, 79, 80, 81, 82, 83] (by decide +kernel) (by decide +kernel)
set_option maxRecDepth 20000 in
theorem gX4_begin_X3_begin : GoodIn wsX4_begin (wsV RX4 100 RX3 yX3_begin wsX3_begin) := goodIn_app (goodIn_of _ (by decide +kernel)) ggX4_begin_X3_begin
theorem dX4_begin_0 : decode cX4_begin 0 = .ok (.aload_n 0, 1) := by decide +kernel
theorem dX4_begin_1 : decode cX4_begin 1 = .ok (.iload_n 1, 1) := by decide +kernel
theorem dX4_begin_2 : decode cX4_begin 2 = .ok (.bipush 40, 2) := by decide +kernel
theorem dX4_begin_4 : decode cX4_begin 4 = .ok (.invokestatic 81, 3) := by decide +kernel
theorem dX4_begin_7 : decode cX4_begin 7 = .ok (.putfield 58, 3) := by decide +kernel
theorem dX4_begin_10 : decode cX4_begin 10 = .ok (.aload_n 0, 1) := by decide +kernel
theorem dX4_begin_11 : decode cX4_begin 11 = .ok (.iload_n 2, 1) := by decide +kernel
theorem dX4_begin_12 : decode cX4_begin 12 = .ok (.putfield 87, 3) := by decide +kernel
theorem dX4_begin_15 : decode cX4_begin 15 = .ok (.aload_n 0, 1) := by decide +kernel
theorem dX4_begin_16 : decode cX4_begin 16 = .ok (.iconst (-1), 1) := by decide +kernel
theorem dX4_begin_17 : decode cX4_begin 17 = .ok (.putfield 33, 3) := by decide +kernel
theorem dX4_begin_20 : decode cX4_begin 20 = .ok (.aload_n 0, 1) := by decide +kernel
theorem dX4_begin_21 : decode cX4_begin 21 = .ok (.iconst 0, 1) := by decide +kernel
theorem dX4_begin_22 : decode cX4_begin 22 = .ok (.putfield 90, 3) := by decide +kernel
theorem dX4_begin_25 : decode cX4_begin 25 = .ok (.aload_n 0, 1) := by decide +kernel
theorem dX4_begin_26 : decode cX4_begin 26 = .ok (.iconst 0, 1) := by decide +kernel
theorem dX4_begin_27 : decode cX4_begin 27 = .ok (.putfield 93, 3) := by decide +kernel
theorem dX4_begin_30 : decode cX4_begin 30 = .ok (.aload_n 0, 1) := by decide +kernel
theorem dX4_begin_31 : decode cX4_begin 31 = .ok (.getfield 21, 3) := by decide +kernel
theorem dX4_begin_34 : decode cX4_begin 34 = .ok (.invokevirtual 96, 3) := by decide +kernel
theorem dX4_begin_37 : decode cX4_begin 37 = .ok (.aload_n 0, 1) := by decide +kernel
