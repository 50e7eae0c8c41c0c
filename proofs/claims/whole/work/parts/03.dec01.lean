theorem dX4_begin_38 : decode cX4_begin 38 = .ok (.getfield 12, 3) := by decide +kernel
theorem dX4_begin_41 : decode cX4_begin 41 = .ok (.invokevirtual 99, 3) := by decide +kernel
theorem dX4_begin_44 : decode cX4_begin 44 = .ok (.aload_n 0, 1) := by decide +kernel
theorem dX4_begin_45 : decode cX4_begin 45 = .ok (.getfield 54, 3) := by decide +kernel
theorem dX4_begin_48 : decode cX4_begin 48 = .ok (.invokevirtual 100, 3) := by decide +kernel
theorem dX4_begin_51 : decode cX4_begin 51 = .ok (.return_, 1) := by decide +kernel
set_option maxRecDepth 20000 in
theorem ggX4_meetEvents_X5_happensAt : GoodIn wsX4_meetEvents wsX5_happensAt := goodIn_r _ [10, 11, 12, 13, 14, 15, 16, 52, 53, 54, 55, 56, 57, 58] (by decide +kernel) (by decide +kernel)
set_option maxRecDepth 20000 in
theorem gX4_meetEvents_X5_happensAt : GoodIn wsX4_meetEvents (wsV RX4 107 RX5 yX5_happensAt wsX5_happensAt) := goodIn_app (goodIn_of _ (by decide +kernel)) ggX4_meetEvents_X5_happensAt
set_option maxRecDepth 20000 in
theorem ggX4_meetEvents_X3_meet : GoodIn wsX4_meetEvents wsX3_meet := goodIn_r _ [21, 22, 23, 24, 25, 26, 27, 28, 29, 30, 31, 32, 33, 20, 34, 35, 36, 37, 15, 38, 59, 60, 61, 62, 63, 64, 65, 66, 67, 68, 69] (by decide +kernel) (by decide +kernel)
set_option maxRecDepth 20000 in
theorem gX4_meetEvents_X3_meet : GoodIn wsX4_meetEvents (wsV RX4 117 RX3 yX3_meet wsX3_meet) := goodIn_app (goodIn_of _ (by decide +kernel)) ggX4_meetEvents_X3_meet
theorem dX4_meetEvents_0 : decode cX4_meetEvents 0 = .ok (.iconst 0, 1) := by decide +kernel
theorem dX4_meetEvents_1 : decode cX4_meetEvents 1 = .ok (.istore_n 2, 1) := by decide +kernel
theorem dX4_meetEvents_2 : decode cX4_meetEvents 2 = .ok (.iload_n 2, 1) := by decide +kernel
theorem dX4_meetEvents_3 : decode cX4_meetEvents 3 = .ok (.aload_n 0, 1) := by decide +kernel
theorem dX4_meetEvents_4 : decode cX4_meetEvents 4 = .ok (.getfield 41, 3) := by decide +kernel
theorem dX4_meetEvents_7 : decode cX4_meetEvents 7 = .ok (.getfield 102, 3) := by decide +kernel
theorem dX4_meetEvents_10 : decode cX4_meetEvents 10 = .ok (.if_icmp .ge 46, 3) := by decide +kernel
theorem dX4_meetEvents_13 : decode cX4_meetEvents 13 = .ok (.aload_n 0, 1) := by decide +kernel
theorem dX4_meetEvents_14 : decode cX4_meetEvents 14 = .ok (.getfield 41, 3) := by decide +kernel
theorem dX4_meetEvents_17 : decode cX4_meetEvents 17 = .ok (.iload_n 2, 1) := by decide +kernel
theorem dX4_meetEvents_18 : decode cX4_meetEvents 18 = .ok (.iload_n 1, 1) := by decide +kernel
theorem dX4_meetEvents_19 : decode cX4_meetEvents 19 = .ok (.invokevirtual 107, 3) := by decide +kernel
theorem dX4_meetEvents_22 : decode cX4_meetEvents 22 = .ok (.ifCond .eq 28, 3) := by decide +kernel
theorem dX4_meetEvents_25 : decode cX4_meetEvents 25 = .ok (.aload_n 0, 1) := by decide +kernel
theorem dX4_meetEvents_26 : decode cX4_meetEvents 26 = .ok (.getfield 54, 3) := by decide +kernel
theorem dX4_meetEvents_29 : decode cX4_meetEvents 29 = .ok (.aload_n 0, 1) := by decide +kernel
theorem dX4_meetEvents_30 : decode cX4_meetEvents 30 = .ok (.getfield 41, 3) := by decide +kernel
theorem dX4_meetEvents_33 : decode cX4_meetEvents 33 = .ok (.getfield 111, 3) := by decide +kernel
theorem dX4_meetEvents_36 : decode cX4_meetEvents 36 = .ok (.iload_n 2, 1) := by decide +kernel
theorem dX4_meetEvents_37 : decode cX4_meetEvents 37 = .ok (.iaload, 1) := by decide +kernel
theorem dX4_meetEvents_38 : decode cX4_meetEvents 38 = .ok (.aload_n 0, 1) := by decide +kernel
theorem dX4_meetEvents_39 : decode cX4_meetEvents 39 = .ok (.getfield 41, 3) := by decide +kernel
theorem dX4_meetEvents_42 : decode cX4_meetEvents 42 = .ok (.getfield 114, 3) := by decide +kernel
theorem dX4_meetEvents_45 : decode cX4_meetEvents 45 = .ok (.iload_n 2, 1) := by decide +kernel
theorem dX4_meetEvents_46 : decode cX4_meetEvents 46 = .ok (.iaload, 1) := by decide +kernel
theorem dX4_meetEvents_47 : decode cX4_meetEvents 47 = .ok (.invokevirtual 117, 3) := by decide +kernel
theorem dX4_meetEvents_50 : decode cX4_meetEvents 50 = .ok (.iinc 2 1, 3) := by decide +kernel
theorem dX4_meetEvents_53 : decode cX4_meetEvents 53 = .ok (.goto (-51), 3) := by decide +kernel
theorem dX4_meetEvents_56 : decode cX4_meetEvents 56 = .ok (.return_, 1) := by decide +kernel
set_option maxRecDepth 20000 in
theorem ggX4_takeInComings_X0_firstAt : GoodIn wsX4_takeInComings wsX0_firstAt := goodIn_r _ [6, 7, 8, 9, 10, 78, 79, 80, 81, 82] (by decide +kernel) (by decide +kernel)
set_option maxRecDepth 20000 in
theorem gX4_takeInComings_X0_firstAt : GoodIn wsX4_takeInComings (wsV RX4 120 RX0 yX0_firstAt wsX0_firstAt) := goodIn_app (goodIn_of _ (by decide +kernel)) ggX4_takeInComings_X0_firstAt
set_option maxRecDepth 20000 in
theorem ggX4_takeInComings_X0_letterOf : GoodIn wsX4_takeInComings wsX0_letterOf := goodIn_r _ [14, 15, 16, 17, 18, 5, 19, 20, 78, 79, 80, 81, 82] (by decide +kernel) (by decide +kernel)
set_option maxRecDepth 20000 in
theorem gX4_takeInComings_X0_letterOf : GoodIn wsX4_takeInComings (wsV RX4 124 RX0 yX0_letterOf wsX0_letterOf) := goodIn_app (goodIn_of _ (by decide +kernel)) ggX4_takeInComings_X0_letterOf
set_option maxRecDepth 20000 in
theorem ggX4_takeInComings_X4_takeIn : GoodIn wsX4_takeInComings wsX4_takeIn := goodIn_r _ [25, 26, 27, 28, 29, 30, 31, 32, 33, 34, 35, 36, 37, 38, 39, 40, 41, 42, 43, 44, 45, 46, 47, 48, 49, 50, 51, 52, 53, 54, 55, 56, 57, 58, 9, 59, 65, 66, 67, 68, 69, 70, 71, 72, 73, 74, 75, 76, 77, 83, 84, 85, 86, 87, 88, 89, 90, 91, 92, 93, 94, 95, 96, 97, 98] (by decide +kernel) (by decide +kernel)
set_option maxRecDepth 20000 in
theorem gX4_takeInComings_X4_takeIn : GoodIn wsX4_takeInComings (wsV RX4 127 RX4 yX4_takeIn wsX4_takeIn) := goodIn_app (goodIn_of _ (by decide +kernel)) ggX4_takeInComings_X4_takeIn
set_option maxRecDepth 20000 in
theorem ggX4_takeInComings_X0_behind : GoodIn wsX4_takeInComings wsX0_behind := goodIn_r _ [63, 64, 16, 17, 18, 5, 19, 20, 78, 79, 80, 81, 82] (by decide +kernel) (by decide +kernel)
set_option maxRecDepth 20000 in
theorem gX4_takeInComings_X0_behind : GoodIn wsX4_takeInComings (wsV RX4 130 RX0 yX0_behind wsX0_behind) := goodIn_app (goodIn_of _ (by decide +kernel)) ggX4_takeInComings_X0_behind
theorem dX4_takeInComings_0 : decode cX4_takeInComings 0 = .ok (.aload_n 0, 1) := by decide +kernel
theorem dX4_takeInComings_1 : decode cX4_takeInComings 1 = .ok (.getfield 12, 3) := by decide +kernel
theorem dX4_takeInComings_4 : decode cX4_takeInComings 4 = .ok (.iload_n 1, 1) := by decide +kernel
theorem dX4_takeInComings_5 : decode cX4_takeInComings 5 = .ok (.invokevirtual 120, 3) := by decide +kernel
theorem dX4_takeInComings_8 : decode cX4_takeInComings 8 = .ok (.istore_n 2, 1) := by decide +kernel
theorem dX4_takeInComings_9 : decode cX4_takeInComings 9 = .ok (.iconst 0, 1) := by decide +kernel
theorem dX4_takeInComings_10 : decode cX4_takeInComings 10 = .ok (.istore_n 3, 1) := by decide +kernel
theorem dX4_takeInComings_11 : decode cX4_takeInComings 11 = .ok (.iload_n 3, 1) := by decide +kernel
theorem dX4_takeInComings_12 : decode cX4_takeInComings 12 = .ok (.sipush 1220, 3) := by decide +kernel
theorem dX4_takeInComings_15 : decode cX4_takeInComings 15 = .ok (.if_icmp .ge 35, 3) := by decide +kernel
theorem dX4_takeInComings_18 : decode cX4_takeInComings 18 = .ok (.iload_n 2, 1) := by decide +kernel
theorem dX4_takeInComings_19 : decode cX4_takeInComings 19 = .ok (.iconst (-1), 1) := by decide +kernel
theorem dX4_takeInComings_20 : decode cX4_takeInComings 20 = .ok (.if_icmp .eq 30, 3) := by decide +kernel
theorem dX4_takeInComings_23 : decode cX4_takeInComings 23 = .ok (.aload_n 0, 1) := by decide +kernel
theorem dX4_takeInComings_24 : decode cX4_takeInComings 24 = .ok (.aload_n 0, 1) := by decide +kernel
theorem dX4_takeInComings_25 : decode cX4_takeInComings 25 = .ok (.getfield 12, 3) := by decide +kernel
theorem dX4_takeInComings_28 : decode cX4_takeInComings 28 = .ok (.iload_n 2, 1) := by decide +kernel
theorem dX4_takeInComings_29 : decode cX4_takeInComings 29 = .ok (.invokevirtual 124, 3) := by decide +kernel
theorem dX4_takeInComings_32 : decode cX4_takeInComings 32 = .ok (.invokevirtual 127, 3) := by decide +kernel
theorem dX4_takeInComings_35 : decode cX4_takeInComings 35 = .ok (.aload_n 0, 1) := by decide +kernel
theorem dX4_takeInComings_36 : decode cX4_takeInComings 36 = .ok (.getfield 12, 3) := by decide +kernel
theorem dX4_takeInComings_39 : decode cX4_takeInComings 39 = .ok (.iload_n 2, 1) := by decide +kernel
theorem dX4_takeInComings_40 : decode cX4_takeInComings 40 = .ok (.invokevirtual 130, 3) := by decide +kernel
theorem dX4_takeInComings_43 : decode cX4_takeInComings 43 = .ok (.istore_n 2, 1) := by decide +kernel
theorem dX4_takeInComings_44 : decode cX4_takeInComings 44 = .ok (.iinc 3 1, 3) := by decide +kernel
theorem dX4_takeInComings_47 : decode cX4_takeInComings 47 = .ok (.goto (-36), 3) := by decide +kernel
theorem dX4_takeInComings_50 : decode cX4_takeInComings 50 = .ok (.return_, 1) := by decide +kernel
set_option maxRecDepth 20000 in
theorem ggX4_takeIn_X1_has : GoodIn wsX4_takeIn wsX1_has := goodIn_r _ [14, 15, 49, 50, 51, 52, 53, 54, 55, 56, 57] (by decide +kernel) (by decide +kernel)
set_option maxRecDepth 20000 in
theorem gX4_takeIn_X1_has : GoodIn wsX4_takeIn (wsV RX4 133 RX1 yX1_has wsX1_has) := goodIn_app (goodIn_of _ (by decide +kernel)) ggX4_takeIn_X1_has
set_option maxRecDepth 20000 in
theorem ggX4_takeIn_X3_canReach : GoodIn wsX4_takeIn wsX3_canReach := goodIn_r _ [20, 21, 22, 58, 59, 60, 61, 62, 63, 64] (by decide +kernel) (by decide +kernel)
set_option maxRecDepth 20000 in
theorem gX4_takeIn_X3_canReach : GoodIn wsX4_takeIn (wsV RX4 143 RX3 yX3_canReach wsX3_canReach) := goodIn_app (goodIn_of _ (by decide +kernel)) ggX4_takeIn_X3_canReach
set_option maxRecDepth 20000 in
theorem ggX4_takeIn_X3_takeIn : GoodIn wsX4_takeIn wsX3_takeIn := goodIn_r _ [26, 27, 28, 29, 30, 31, 32, 33, 34, 35, 58, 59, 60, 61, 62, 63, 64] (by decide +kernel) (by decide +kernel)
set_option maxRecDepth 20000 in
theorem gX4_takeIn_X3_takeIn : GoodIn wsX4_takeIn (wsV RX4 150 RX3 yX3_takeIn wsX3_takeIn) := goodIn_app (goodIn_of _ (by decide +kernel)) ggX4_takeIn_X3_takeIn
theorem dX4_takeIn_0 : decode cX4_takeIn 0 = .ok (.aload_n 0, 1) := by decide +kernel
theorem dX4_takeIn_1 : decode cX4_takeIn 1 = .ok (.getfield 21, 3) := by decide +kernel
theorem dX4_takeIn_4 : decode cX4_takeIn 4 = .ok (.iload_n 1, 1) := by decide +kernel
theorem dX4_takeIn_5 : decode cX4_takeIn 5 = .ok (.invokevirtual 133, 3) := by decide +kernel
theorem dX4_takeIn_8 : decode cX4_takeIn 8 = .ok (.ifCond .ne 4, 3) := by decide +kernel
theorem dX4_takeIn_11 : decode cX4_takeIn 11 = .ok (.return_, 1) := by decide +kernel
theorem dX4_takeIn_12 : decode cX4_takeIn 12 = .ok (.aload_n 0, 1) := by decide +kernel
theorem dX4_takeIn_13 : decode cX4_takeIn 13 = .ok (.getfield 21, 3) := by decide +kernel
theorem dX4_takeIn_16 : decode cX4_takeIn 16 = .ok (.getfield 137, 3) := by decide +kernel
theorem dX4_takeIn_19 : decode cX4_takeIn 19 = .ok (.iload_n 1, 1) := by decide +kernel
theorem dX4_takeIn_20 : decode cX4_takeIn 20 = .ok (.iaload, 1) := by decide +kernel
theorem dX4_takeIn_21 : decode cX4_takeIn 21 = .ok (.istore_n 2, 1) := by decide +kernel
theorem dX4_takeIn_22 : decode cX4_takeIn 22 = .ok (.aload_n 0, 1) := by decide +kernel
theorem dX4_takeIn_23 : decode cX4_takeIn 23 = .ok (.getfield 21, 3) := by decide +kernel
theorem dX4_takeIn_26 : decode cX4_takeIn 26 = .ok (.getfield 140, 3) := by decide +kernel
theorem dX4_takeIn_29 : decode cX4_takeIn 29 = .ok (.iload_n 1, 1) := by decide +kernel
theorem dX4_takeIn_30 : decode cX4_takeIn 30 = .ok (.iaload, 1) := by decide +kernel
theorem dX4_takeIn_31 : decode cX4_takeIn 31 = .ok (.istore_n 3, 1) := by decide +kernel
theorem dX4_takeIn_32 : decode cX4_takeIn 32 = .ok (.aload_n 0, 1) := by decide +kernel
theorem dX4_takeIn_33 : decode cX4_takeIn 33 = .ok (.getfield 54, 3) := by decide +kernel
theorem dX4_takeIn_36 : decode cX4_takeIn 36 = .ok (.iload_n 2, 1) := by decide +kernel
theorem dX4_takeIn_37 : decode cX4_takeIn 37 = .ok (.iload_n 3, 1) := by decide +kernel
theorem dX4_takeIn_38 : decode cX4_takeIn 38 = .ok (.invokevirtual 143, 3) := by decide +kernel
theorem dX4_takeIn_41 : decode cX4_takeIn 41 = .ok (.ifCond .ne 14, 3) := by decide +kernel
theorem dX4_takeIn_44 : decode cX4_takeIn 44 = .ok (.aload_n 0, 1) := by decide +kernel
theorem dX4_takeIn_45 : decode cX4_takeIn 45 = .ok (.dup, 1) := by decide +kernel
theorem dX4_takeIn_46 : decode cX4_takeIn 46 = .ok (.getfield 93, 3) := by decide +kernel
theorem dX4_takeIn_49 : decode cX4_takeIn 49 = .ok (.iconst 1, 1) := by decide +kernel
theorem dX4_takeIn_50 : decode cX4_takeIn 50 = .ok (.iadd, 1) := by decide +kernel
theorem dX4_takeIn_51 : decode cX4_takeIn 51 = .ok (.putfield 93, 3) := by decide +kernel
theorem dX4_takeIn_54 : decode cX4_takeIn 54 = .ok (.return_, 1) := by decide +kernel
theorem dX4_takeIn_55 : decode cX4_takeIn 55 = .ok (.aload_n 0, 1) := by decide +kernel
theorem dX4_takeIn_56 : decode cX4_takeIn 56 = .ok (.getfield 54, 3) := by decide +kernel
theorem dX4_takeIn_59 : decode cX4_takeIn 59 = .ok (.iload_n 2, 1) := by decide +kernel
theorem dX4_takeIn_60 : decode cX4_takeIn 60 = .ok (.iload_n 3, 1) := by decide +kernel
theorem dX4_takeIn_61 : decode cX4_takeIn 61 = .ok (.aload_n 0, 1) := by decide +kernel
theorem dX4_takeIn_62 : decode cX4_takeIn 62 = .ok (.getfield 21, 3) := by decide +kernel
theorem dX4_takeIn_65 : decode cX4_takeIn 65 = .ok (.getfield 146, 3) := by decide +kernel
theorem dX4_takeIn_68 : decode cX4_takeIn 68 = .ok (.iload_n 1, 1) := by decide +kernel
theorem dX4_takeIn_69 : decode cX4_takeIn 69 = .ok (.iaload, 1) := by decide +kernel
theorem dX4_takeIn_70 : decode cX4_takeIn 70 = .ok (.aload_n 0, 1) := by decide +kernel
theorem dX4_takeIn_71 : decode cX4_takeIn 71 = .ok (.getfield 21, 3) := by decide +kernel
theorem dX4_takeIn_74 : decode cX4_takeIn 74 = .ok (.getfield 147, 3) := by decide +kernel
theorem dX4_takeIn_77 : decode cX4_takeIn 77 = .ok (.iload_n 1, 1) := by decide +kernel
theorem dX4_takeIn_78 : decode cX4_takeIn 78 = .ok (.iaload, 1) := by decide +kernel
theorem dX4_takeIn_79 : decode cX4_takeIn 79 = .ok (.invokevirtual 150, 3) := by decide +kernel
theorem dX4_takeIn_82 : decode cX4_takeIn 82 = .ok (.aload_n 0, 1) := by decide +kernel
theorem dX4_takeIn_83 : decode cX4_takeIn 83 = .ok (.getfield 21, 3) := by decide +kernel
theorem dX4_takeIn_86 : decode cX4_takeIn 86 = .ok (.getfield 153, 3) := by decide +kernel
theorem dX4_takeIn_89 : decode cX4_takeIn 89 = .ok (.iload_n 1, 1) := by decide +kernel
theorem dX4_takeIn_90 : decode cX4_takeIn 90 = .ok (.dup2, 1) := by decide +kernel
theorem dX4_takeIn_91 : decode cX4_takeIn 91 = .ok (.iaload, 1) := by decide +kernel
theorem dX4_takeIn_92 : decode cX4_takeIn 92 = .ok (.iconst 1, 1) := by decide +kernel
theorem dX4_takeIn_93 : decode cX4_takeIn 93 = .ok (.iadd, 1) := by decide +kernel
theorem dX4_takeIn_94 : decode cX4_takeIn 94 = .ok (.iastore, 1) := by decide +kernel
theorem dX4_takeIn_95 : decode cX4_takeIn 95 = .ok (.aload_n 0, 1) := by decide +kernel
theorem dX4_takeIn_96 : decode cX4_takeIn 96 = .ok (.dup, 1) := by decide +kernel
theorem dX4_takeIn_97 : decode cX4_takeIn 97 = .ok (.getfield 90, 3) := by decide +kernel
theorem dX4_takeIn_100 : decode cX4_takeIn 100 = .ok (.iconst 1, 1) := by decide +kernel
theorem dX4_takeIn_101 : decode cX4_takeIn 101 = .ok (.iadd, 1) := by decide +kernel
theorem dX4_takeIn_102 : decode cX4_takeIn 102 = .ok (.putfield 90, 3) := by decide +kernel
theorem dX4_takeIn_105 : decode cX4_takeIn 105 = .ok (.return_, 1) := by decide +kernel
set_option maxRecDepth 20000 in
theorem ggX4_sendLetters_X4_sendFrom : GoodIn wsX4_sendLetters wsX4_sendFrom := goodIn_r _ [11, 1, 3, 12, 2, 13, 14, 15, 16, 17, 18, 19, 20, 21, 22, 23, 24, 25, 26, 27, 28, 29, 30, 31, 32, 33, 34, 35, 36, 37, 38, 39, 40, 10, 41, 42, 43, 44, 45, 46, 47, 48, 49, 50, 51, 52, 53, 54, 55, 56, 57, 58, 59, 60, 61, 62, 63, 64, 65, 66, 67, 68, 69, 70, 71, 72, 73, 74, 75, 76, 77, 78, 79, 80, 81, 82, 83, 84, 85, 86, 87, 88, 89, 90, 91, 92, 93, 94, 95, 96, 97, 98, 99, 100, 101, 102, 103, 104, 105, 106, 107, 108, 109, 114, 115, 116, 117, 118, 119, 120, 110, 111, 112, 113, 121, 122, 123, 124, 125, 126, 127, 128, 129, 130, 131, 132, 133, 134, 135, 136, 137, 138, 139, 140, 141] (by decide +kernel) (by decide +kernel)
set_option maxRecDepth 20000 in
theorem gX4_sendLetters_X4_sendFrom : GoodIn wsX4_sendLetters (wsV RX4 168 RX4 yX4_sendFrom wsX4_sendFrom) := goodIn_app (goodIn_of _ (by decide +kernel)) ggX4_sendLetters_X4_sendFrom
theorem dX4_sendLetters_0 : decode cX4_sendLetters 0 = .ok (.iload_n 1, 1) := by decide +kernel
theorem dX4_sendLetters_1 : decode cX4_sendLetters 1 = .ok (.iconst 4, 1) := by decide +kernel
theorem dX4_sendLetters_2 : decode cX4_sendLetters 2 = .ok (.irem, 1) := by decide +kernel
theorem dX4_sendLetters_3 : decode cX4_sendLetters 3 = .ok (.ifCond .ne 7, 3) := by decide +kernel
theorem dX4_sendLetters_6 : decode cX4_sendLetters 6 = .ok (.iconst 1, 1) := by decide +kernel
theorem dX4_sendLetters_7 : decode cX4_sendLetters 7 = .ok (.goto 4, 3) := by decide +kernel
theorem dX4_sendLetters_10 : decode cX4_sendLetters 10 = .ok (.iconst 0, 1) := by decide +kernel
theorem dX4_sendLetters_11 : decode cX4_sendLetters 11 = .ok (.istore_n 2, 1) := by decide +kernel
theorem dX4_sendLetters_12 : decode cX4_sendLetters 12 = .ok (.iconst 0, 1) := by decide +kernel
theorem dX4_sendLetters_13 : decode cX4_sendLetters 13 = .ok (.istore_n 3, 1) := by decide +kernel
theorem dX4_sendLetters_14 : decode cX4_sendLetters 14 = .ok (.iload_n 3, 1) := by decide +kernel
theorem dX4_sendLetters_15 : decode cX4_sendLetters 15 = .ok (.aload_n 0, 1) := by decide +kernel
theorem dX4_sendLetters_16 : decode cX4_sendLetters 16 = .ok (.getfield 37, 3) := by decide +kernel
theorem dX4_sendLetters_19 : decode cX4_sendLetters 19 = .ok (.getfield 156, 3) := by decide +kernel
theorem dX4_sendLetters_22 : decode cX4_sendLetters 22 = .ok (.if_icmp .ge 68, 3) := by decide +kernel
theorem dX4_sendLetters_25 : decode cX4_sendLetters 25 = .ok (.aload_n 0, 1) := by decide +kernel
theorem dX4_sendLetters_26 : decode cX4_sendLetters 26 = .ok (.getfield 54, 3) := by decide +kernel
theorem dX4_sendLetters_29 : decode cX4_sendLetters 29 = .ok (.getfield 159, 3) := by decide +kernel
theorem dX4_sendLetters_32 : decode cX4_sendLetters 32 = .ok (.iload_n 3, 1) := by decide +kernel
theorem dX4_sendLetters_33 : decode cX4_sendLetters 33 = .ok (.baload, 1) := by decide +kernel
theorem dX4_sendLetters_34 : decode cX4_sendLetters 34 = .ok (.ifCond .eq 20, 3) := by decide +kernel
theorem dX4_sendLetters_37 : decode cX4_sendLetters 37 = .ok (.aload_n 0, 1) := by decide +kernel
theorem dX4_sendLetters_38 : decode cX4_sendLetters 38 = .ok (.getfield 37, 3) := by decide +kernel
theorem dX4_sendLetters_41 : decode cX4_sendLetters 41 = .ok (.getfield 162, 3) := by decide +kernel
theorem dX4_sendLetters_44 : decode cX4_sendLetters 44 = .ok (.iload_n 3, 1) := by decide +kernel
theorem dX4_sendLetters_45 : decode cX4_sendLetters 45 = .ok (.iaload, 1) := by decide +kernel
theorem dX4_sendLetters_46 : decode cX4_sendLetters 46 = .ok (.iconst 2, 1) := by decide +kernel
theorem dX4_sendLetters_47 : decode cX4_sendLetters 47 = .ok (.if_icmp .eq 7, 3) := by decide +kernel
theorem dX4_sendLetters_50 : decode cX4_sendLetters 50 = .ok (.iconst 1, 1) := by decide +kernel
theorem dX4_sendLetters_51 : decode cX4_sendLetters 51 = .ok (.goto 4, 3) := by decide +kernel
theorem dX4_sendLetters_54 : decode cX4_sendLetters 54 = .ok (.iconst 0, 1) := by decide +kernel
theorem dX4_sendLetters_55 : decode cX4_sendLetters 55 = .ok (.istore 4, 2) := by decide +kernel
theorem dX4_sendLetters_57 : decode cX4_sendLetters 57 = .ok (.iload 4, 2) := by decide +kernel
theorem dX4_sendLetters_59 : decode cX4_sendLetters 59 = .ok (.ifCond .eq 25, 3) := by decide +kernel
theorem dX4_sendLetters_62 : decode cX4_sendLetters 62 = .ok (.iload_n 2, 1) := by decide +kernel
theorem dX4_sendLetters_63 : decode cX4_sendLetters 63 = .ok (.ifCond .ne 15, 3) := by decide +kernel
theorem dX4_sendLetters_66 : decode cX4_sendLetters 66 = .ok (.aload_n 0, 1) := by decide +kernel
theorem dX4_sendLetters_67 : decode cX4_sendLetters 67 = .ok (.getfield 54, 3) := by decide +kernel
theorem dX4_sendLetters_70 : decode cX4_sendLetters 70 = .ok (.getfield 165, 3) := by decide +kernel
theorem dX4_sendLetters_73 : decode cX4_sendLetters 73 = .ok (.iload_n 3, 1) := by decide +kernel
theorem dX4_sendLetters_74 : decode cX4_sendLetters 74 = .ok (.baload, 1) := by decide +kernel
theorem dX4_sendLetters_75 : decode cX4_sendLetters 75 = .ok (.ifCond .eq 9, 3) := by decide +kernel
theorem dX4_sendLetters_78 : decode cX4_sendLetters 78 = .ok (.aload_n 0, 1) := by decide +kernel
theorem dX4_sendLetters_79 : decode cX4_sendLetters 79 = .ok (.iload_n 3, 1) := by decide +kernel
theorem dX4_sendLetters_80 : decode cX4_sendLetters 80 = .ok (.iload_n 1, 1) := by decide +kernel
theorem dX4_sendLetters_81 : decode cX4_sendLetters 81 = .ok (.invokevirtual 168, 3) := by decide +kernel
theorem dX4_sendLetters_84 : decode cX4_sendLetters 84 = .ok (.iinc 3 1, 3) := by decide +kernel
theorem dX4_sendLetters_87 : decode cX4_sendLetters 87 = .ok (.goto (-73), 3) := by decide +kernel
theorem dX4_sendLetters_90 : decode cX4_sendLetters 90 = .ok (.return_, 1) := by decide +kernel
set_option maxRecDepth 20000 in
theorem ggX4_sendFrom_X2_heightSaid : GoodIn wsX4_sendFrom wsX2_heightSaid := goodIn_r _ [12, 13, 110, 111, 112, 113] (by decide +kernel) (by decide +kernel)
set_option maxRecDepth 20000 in
theorem gX4_sendFrom_X2_heightSaid : GoodIn wsX4_sendFrom (wsV RX4 172 RX2 yX2_heightSaid wsX2_heightSaid) := goodIn_app (goodIn_of _ (by decide +kernel)) ggX4_sendFrom_X2_heightSaid
set_option maxRecDepth 20000 in
theorem ggX4_sendFrom_X1_add : GoodIn wsX4_sendFrom wsX1_add := goodIn_r _ [18, 19, 20, 21, 22, 23, 24, 25, 26, 114, 115, 116, 117, 118, 119, 120, 121, 122] (by decide +kernel) (by decide +kernel)
set_option maxRecDepth 20000 in
theorem gX4_sendFrom_X1_add : GoodIn wsX4_sendFrom (wsV RX4 178 RX1 yX1_add wsX1_add) := goodIn_app (goodIn_of _ (by decide +kernel)) ggX4_sendFrom_X1_add
set_option maxRecDepth 20000 in
theorem ggX4_sendFrom_X6_pair : GoodIn wsX4_sendFrom wsX6_pair := goodIn_r _ [29] (by decide +kernel) (by decide +kernel)
set_option maxRecDepth 20000 in
theorem gX4_sendFrom_X6_pair_n185 : GoodIn wsX4_sendFrom (wsX6_pair) := ggX4_sendFrom_X6_pair
set_option maxRecDepth 20000 in
theorem ggX4_sendFrom_X4_post : GoodIn wsX4_sendFrom wsX4_post := goodIn_r _ [34, 5, 35, 36, 37, 38, 39, 40, 41, 17, 42, 19, 43, 44, 45, 46, 47, 48, 49, 28, 50, 51, 52, 53, 33, 54, 55, 56, 57, 58, 59, 60, 61, 62, 63, 64, 65, 66, 67, 68, 69, 70, 71, 72, 73, 74, 75, 76, 77, 78, 79, 80, 81, 82, 83, 84, 85, 86, 87, 88, 89, 90, 91, 92, 93, 94, 95, 96, 97, 98, 99, 100, 101, 102, 114, 115, 116, 117, 118, 119, 120, 121, 122, 123, 124, 125, 126, 127, 128, 129, 130, 131, 132, 133, 134] (by decide +kernel) (by decide +kernel)
set_option maxRecDepth 20000 in
theorem gX4_sendFrom_X4_post : GoodIn wsX4_sendFrom (wsV RX4 188 RX4 yX4_post wsX4_post) := goodIn_app (goodIn_of _ (by decide +kernel)) ggX4_sendFrom_X4_post
theorem dX4_sendFrom_0 : decode cX4_sendFrom 0 = .ok (.aload_n 0, 1) := by decide +kernel
theorem dX4_sendFrom_1 : decode cX4_sendFrom 1 = .ok (.getfield 37, 3) := by decide +kernel
theorem dX4_sendFrom_4 : decode cX4_sendFrom 4 = .ok (.iload_n 1, 1) := by decide +kernel
theorem dX4_sendFrom_5 : decode cX4_sendFrom 5 = .ok (.aload_n 0, 1) := by decide +kernel
theorem dX4_sendFrom_6 : decode cX4_sendFrom 6 = .ok (.getfield 54, 3) := by decide +kernel
theorem dX4_sendFrom_9 : decode cX4_sendFrom 9 = .ok (.getfield 171, 3) := by decide +kernel
theorem dX4_sendFrom_12 : decode cX4_sendFrom 12 = .ok (.iload_n 1, 1) := by decide +kernel
theorem dX4_sendFrom_13 : decode cX4_sendFrom 13 = .ok (.iaload, 1) := by decide +kernel
theorem dX4_sendFrom_14 : decode cX4_sendFrom 14 = .ok (.invokevirtual 172, 3) := by decide +kernel
theorem dX4_sendFrom_17 : decode cX4_sendFrom 17 = .ok (.istore_n 3, 1) := by decide +kernel
theorem dX4_sendFrom_18 : decode cX4_sendFrom 18 = .ok (.iconst 0, 1) := by decide +kernel
theorem dX4_sendFrom_19 : decode cX4_sendFrom 19 = .ok (.istore 4, 2) := by decide +kernel
theorem dX4_sendFrom_21 : decode cX4_sendFrom 21 = .ok (.iload 4, 2) := by decide +kernel
theorem dX4_sendFrom_23 : decode cX4_sendFrom 23 = .ok (.aload_n 0, 1) := by decide +kernel
theorem dX4_sendFrom_24 : decode cX4_sendFrom 24 = .ok (.getfield 37, 3) := by decide +kernel
theorem dX4_sendFrom_27 : decode cX4_sendFrom 27 = .ok (.getfield 156, 3) := by decide +kernel
theorem dX4_sendFrom_30 : decode cX4_sendFrom 30 = .ok (.if_icmp .ge 60, 3) := by decide +kernel
theorem dX4_sendFrom_33 : decode cX4_sendFrom 33 = .ok (.iload 4, 2) := by decide +kernel
theorem dX4_sendFrom_35 : decode cX4_sendFrom 35 = .ok (.iload_n 1, 1) := by decide +kernel
theorem dX4_sendFrom_36 : decode cX4_sendFrom 36 = .ok (.if_icmp .eq 48, 3) := by decide +kernel
theorem dX4_sendFrom_39 : decode cX4_sendFrom 39 = .ok (.aload_n 0, 1) := by decide +kernel
theorem dX4_sendFrom_40 : decode cX4_sendFrom 40 = .ok (.getfield 21, 3) := by decide +kernel
theorem dX4_sendFrom_43 : decode cX4_sendFrom 43 = .ok (.iload_n 1, 1) := by decide +kernel
theorem dX4_sendFrom_44 : decode cX4_sendFrom 44 = .ok (.iload 4, 2) := by decide +kernel
theorem dX4_sendFrom_46 : decode cX4_sendFrom 46 = .ok (.iload_n 2, 1) := by decide +kernel
theorem dX4_sendFrom_47 : decode cX4_sendFrom 47 = .ok (.iload_n 3, 1) := by decide +kernel
theorem dX4_sendFrom_48 : decode cX4_sendFrom 48 = .ok (.aload_n 0, 1) := by decide +kernel
theorem dX4_sendFrom_49 : decode cX4_sendFrom 49 = .ok (.getfield 54, 3) := by decide +kernel
theorem dX4_sendFrom_52 : decode cX4_sendFrom 52 = .ok (.getfield 175, 3) := by decide +kernel
theorem dX4_sendFrom_55 : decode cX4_sendFrom 55 = .ok (.iload_n 1, 1) := by decide +kernel
theorem dX4_sendFrom_56 : decode cX4_sendFrom 56 = .ok (.iaload, 1) := by decide +kernel
theorem dX4_sendFrom_57 : decode cX4_sendFrom 57 = .ok (.invokevirtual 178, 3) := by decide +kernel
theorem dX4_sendFrom_60 : decode cX4_sendFrom 60 = .ok (.istore 5, 2) := by decide +kernel
theorem dX4_sendFrom_62 : decode cX4_sendFrom 62 = .ok (.aload_n 0, 1) := by decide +kernel
theorem dX4_sendFrom_63 : decode cX4_sendFrom 63 = .ok (.iload 5, 2) := by decide +kernel
theorem dX4_sendFrom_65 : decode cX4_sendFrom 65 = .ok (.iload_n 2, 1) := by decide +kernel
theorem dX4_sendFrom_66 : decode cX4_sendFrom 66 = .ok (.aload_n 0, 1) := by decide +kernel
theorem dX4_sendFrom_67 : decode cX4_sendFrom 67 = .ok (.getfield 37, 3) := by decide +kernel
theorem dX4_sendFrom_70 : decode cX4_sendFrom 70 = .ok (.getfield 182, 3) := by decide +kernel
theorem dX4_sendFrom_73 : decode cX4_sendFrom 73 = .ok (.iload_n 1, 1) := by decide +kernel
theorem dX4_sendFrom_74 : decode cX4_sendFrom 74 = .ok (.iload 4, 2) := by decide +kernel
theorem dX4_sendFrom_76 : decode cX4_sendFrom 76 = .ok (.invokestatic 185, 3) := by decide +kernel
theorem dX4_sendFrom_79 : decode cX4_sendFrom 79 = .ok (.iaload, 1) := by decide +kernel
theorem dX4_sendFrom_80 : decode cX4_sendFrom 80 = .ok (.iadd, 1) := by decide +kernel
theorem dX4_sendFrom_81 : decode cX4_sendFrom 81 = .ok (.invokevirtual 188, 3) := by decide +kernel
theorem dX4_sendFrom_84 : decode cX4_sendFrom 84 = .ok (.iinc 4 1, 3) := by decide +kernel
theorem dX4_sendFrom_87 : decode cX4_sendFrom 87 = .ok (.goto (-66), 3) := by decide +kernel
theorem dX4_sendFrom_90 : decode cX4_sendFrom 90 = .ok (.return_, 1) := by decide +kernel
set_option maxRecDepth 20000 in
theorem ggX4_post_X1_has : GoodIn wsX4_post wsX1_has := goodIn_r _ [10, 11, 74, 75, 76, 77, 78, 79, 80, 81, 82] (by decide +kernel) (by decide +kernel)
set_option maxRecDepth 20000 in
theorem gX4_post_X1_has : GoodIn wsX4_post (wsV RX4 133 RX1 yX1_has wsX1_has) := goodIn_app (goodIn_of _ (by decide +kernel)) ggX4_post_X1_has
set_option maxRecDepth 20000 in
theorem ggX4_post_X5_names : GoodIn wsX4_post wsX5_names := goodIn_r _ [16, 17, 18, 19, 20, 83, 84, 85, 86, 87, 88, 89] (by decide +kernel) (by decide +kernel)
set_option maxRecDepth 20000 in
theorem gX4_post_X5_names : GoodIn wsX4_post (wsV RX4 191 RX5 yX5_names wsX5_names) := goodIn_app (goodIn_of _ (by decide +kernel)) ggX4_post_X5_names
set_option maxRecDepth 20000 in
theorem ggX4_post_X4_isAlsoLost : GoodIn wsX4_post wsX4_isAlsoLost := goodIn_r _ [25, 26, 61, 62, 63, 64, 65, 66, 67, 68, 69, 70, 71, 72, 73] (by decide +kernel) (by decide +kernel)
set_option maxRecDepth 20000 in
theorem gX4_post_X4_isAlsoLost : GoodIn wsX4_post (wsV RX4 194 RX4 yX4_isAlsoLost wsX4_isAlsoLost) := goodIn_app (goodIn_of _ (by decide +kernel)) ggX4_post_X4_isAlsoLost
set_option maxRecDepth 20000 in
theorem ggX4_post_X5_loses : GoodIn wsX4_post wsX5_loses := goodIn_r _ [30, 31, 32, 33, 34, 15, 35, 36, 37, 38, 83, 84, 85, 86, 87, 88, 89] (by decide +kernel) (by decide +kernel)
set_option maxRecDepth 20000 in
theorem gX4_post_X5_loses : GoodIn wsX4_post (wsV RX4 197 RX5 yX5_loses wsX5_loses) := goodIn_app (goodIn_of _ (by decide +kernel)) ggX4_post_X5_loses
set_option maxRecDepth 20000 in
theorem ggX4_post_X5_lateness : GoodIn wsX4_post wsX5_lateness := goodIn_r _ [42, 31, 43, 32, 33, 34, 15, 35, 36, 37, 38, 83, 84, 85, 86, 87, 88, 89] (by decide +kernel) (by decide +kernel)
set_option maxRecDepth 20000 in
theorem gX4_post_X5_lateness : GoodIn wsX4_post (wsV RX4 203 RX5 yX5_lateness wsX5_lateness) := goodIn_app (goodIn_of _ (by decide +kernel)) ggX4_post_X5_lateness
set_option maxRecDepth 20000 in
theorem ggX4_post_X0_add : GoodIn wsX4_post wsX0_add := goodIn_r _ [48, 49, 50, 51, 52, 53, 90, 91, 92, 93, 94] (by decide +kernel) (by decide +kernel)
set_option maxRecDepth 20000 in
theorem gX4_post_X0_add : GoodIn wsX4_post (wsV RX4 209 RX0 yX0_add wsX0_add) := goodIn_app (goodIn_of _ (by decide +kernel)) ggX4_post_X0_add
set_option maxRecDepth 20000 in
theorem ggX4_post_X4_postDoubles : GoodIn wsX4_post wsX4_postDoubles := goodIn_r _ [57, 2, 58, 5, 59, 60, 33, 34, 15, 35, 36, 37, 38, 44, 45, 46, 47, 48, 49, 50, 51, 52, 53, 61, 62, 63, 64, 65, 66, 67, 68, 69, 70, 71, 72, 73, 83, 84, 85, 86, 87, 88, 89, 90, 91, 92, 93, 94] (by decide +kernel) (by decide +kernel)
set_option maxRecDepth 20000 in
theorem gX4_post_X4_postDoubles : GoodIn wsX4_post (wsV RX4 211 RX4 yX4_postDoubles wsX4_postDoubles) := goodIn_app (goodIn_of _ (by decide +kernel)) ggX4_post_X4_postDoubles
theorem dX4_post_0 : decode cX4_post 0 = .ok (.aload_n 0, 1) := by decide +kernel
theorem dX4_post_1 : decode cX4_post 1 = .ok (.getfield 21, 3) := by decide +kernel
theorem dX4_post_4 : decode cX4_post 4 = .ok (.iload_n 1, 1) := by decide +kernel
theorem dX4_post_5 : decode cX4_post 5 = .ok (.invokevirtual 133, 3) := by decide +kernel
theorem dX4_post_8 : decode cX4_post 8 = .ok (.ifCond .ne 4, 3) := by decide +kernel
theorem dX4_post_11 : decode cX4_post 11 = .ok (.return_, 1) := by decide +kernel
theorem dX4_post_12 : decode cX4_post 12 = .ok (.aload_n 0, 1) := by decide +kernel
theorem dX4_post_13 : decode cX4_post 13 = .ok (.getfield 41, 3) := by decide +kernel
theorem dX4_post_16 : decode cX4_post 16 = .ok (.iload_n 1, 1) := by decide +kernel
theorem dX4_post_17 : decode cX4_post 17 = .ok (.invokevirtual 191, 3) := by decide +kernel
theorem dX4_post_20 : decode cX4_post 20 = .ok (.istore_n 3, 1) := by decide +kernel
theorem dX4_post_21 : decode cX4_post 21 = .ok (.aload_n 0, 1) := by decide +kernel
theorem dX4_post_22 : decode cX4_post 22 = .ok (.iload_n 1, 1) := by decide +kernel
theorem dX4_post_23 : decode cX4_post 23 = .ok (.invokevirtual 194, 3) := by decide +kernel
theorem dX4_post_26 : decode cX4_post 26 = .ok (.ifCond .ne 18, 3) := by decide +kernel
theorem dX4_post_29 : decode cX4_post 29 = .ok (.iload_n 3, 1) := by decide +kernel
theorem dX4_post_30 : decode cX4_post 30 = .ok (.ifCond .eq 28, 3) := by decide +kernel
theorem dX4_post_33 : decode cX4_post 33 = .ok (.aload_n 0, 1) := by decide +kernel
theorem dX4_post_34 : decode cX4_post 34 = .ok (.getfield 41, 3) := by decide +kernel
theorem dX4_post_37 : decode cX4_post 37 = .ok (.iload_n 1, 1) := by decide +kernel
theorem dX4_post_38 : decode cX4_post 38 = .ok (.invokevirtual 197, 3) := by decide +kernel
theorem dX4_post_41 : decode cX4_post 41 = .ok (.ifCond .eq 17, 3) := by decide +kernel
theorem dX4_post_44 : decode cX4_post 44 = .ok (.aload_n 0, 1) := by decide +kernel
theorem dX4_post_45 : decode cX4_post 45 = .ok (.getfield 21, 3) := by decide +kernel
theorem dX4_post_48 : decode cX4_post 48 = .ok (.dup, 1) := by decide +kernel
theorem dX4_post_49 : decode cX4_post 49 = .ok (.getfield 200, 3) := by decide +kernel
theorem dX4_post_52 : decode cX4_post 52 = .ok (.iconst 1, 1) := by decide +kernel
theorem dX4_post_53 : decode cX4_post 53 = .ok (.iadd, 1) := by decide +kernel
theorem dX4_post_54 : decode cX4_post 54 = .ok (.putfield 200, 3) := by decide +kernel
theorem dX4_post_57 : decode cX4_post 57 = .ok (.return_, 1) := by decide +kernel
theorem dX4_post_58 : decode cX4_post 58 = .ok (.iload_n 3, 1) := by decide +kernel
theorem dX4_post_59 : decode cX4_post 59 = .ok (.ifCond .eq 16, 3) := by decide +kernel
theorem dX4_post_62 : decode cX4_post 62 = .ok (.iload_n 2, 1) := by decide +kernel
theorem dX4_post_63 : decode cX4_post 63 = .ok (.aload_n 0, 1) := by decide +kernel
theorem dX4_post_64 : decode cX4_post 64 = .ok (.getfield 41, 3) := by decide +kernel
theorem dX4_post_67 : decode cX4_post 67 = .ok (.iload_n 1, 1) := by decide +kernel
theorem dX4_post_68 : decode cX4_post 68 = .ok (.invokevirtual 203, 3) := by decide +kernel
theorem dX4_post_71 : decode cX4_post 71 = .ok (.iadd, 1) := by decide +kernel
theorem dX4_post_72 : decode cX4_post 72 = .ok (.goto 4, 3) := by decide +kernel
theorem dX4_post_75 : decode cX4_post 75 = .ok (.iload_n 2, 1) := by decide +kernel
theorem dX4_post_76 : decode cX4_post 76 = .ok (.istore 4, 2) := by decide +kernel
theorem dX4_post_78 : decode cX4_post 78 = .ok (.aload_n 0, 1) := by decide +kernel
theorem dX4_post_79 : decode cX4_post 79 = .ok (.getfield 21, 3) := by decide +kernel
theorem dX4_post_82 : decode cX4_post 82 = .ok (.getfield 206, 3) := by decide +kernel
theorem dX4_post_85 : decode cX4_post 85 = .ok (.iload_n 1, 1) := by decide +kernel
theorem dX4_post_86 : decode cX4_post 86 = .ok (.iload 4, 2) := by decide +kernel
theorem dX4_post_88 : decode cX4_post 88 = .ok (.iastore, 1) := by decide +kernel
theorem dX4_post_89 : decode cX4_post 89 = .ok (.aload_n 0, 1) := by decide +kernel
theorem dX4_post_90 : decode cX4_post 90 = .ok (.getfield 12, 3) := by decide +kernel
theorem dX4_post_93 : decode cX4_post 93 = .ok (.iload_n 1, 1) := by decide +kernel
theorem dX4_post_94 : decode cX4_post 94 = .ok (.iload 4, 2) := by decide +kernel
theorem dX4_post_96 : decode cX4_post 96 = .ok (.invokevirtual 209, 3) := by decide +kernel
theorem dX4_post_99 : decode cX4_post 99 = .ok (.iload_n 3, 1) := by decide +kernel
theorem dX4_post_100 : decode cX4_post 100 = .ok (.ifCond .eq 10, 3) := by decide +kernel
theorem dX4_post_103 : decode cX4_post 103 = .ok (.aload_n 0, 1) := by decide +kernel
theorem dX4_post_104 : decode cX4_post 104 = .ok (.iload_n 1, 1) := by decide +kernel
theorem dX4_post_105 : decode cX4_post 105 = .ok (.iload 4, 2) := by decide +kernel
theorem dX4_post_107 : decode cX4_post 107 = .ok (.invokevirtual 211, 3) := by decide +kernel
theorem dX4_post_110 : decode cX4_post 110 = .ok (.return_, 1) := by decide +kernel
theorem dX4_isAlsoLost_0 : decode cX4_isAlsoLost 0 = .ok (.iload_n 1, 1) := by decide +kernel
theorem dX4_isAlsoLost_1 : decode cX4_isAlsoLost 1 = .ok (.iconst 5, 1) := by decide +kernel
theorem dX4_isAlsoLost_2 : decode cX4_isAlsoLost 2 = .ok (.if_icmp .ge 18, 3) := by decide +kernel
theorem dX4_isAlsoLost_5 : decode cX4_isAlsoLost 5 = .ok (.aload_n 0, 1) := by decide +kernel
theorem dX4_isAlsoLost_6 : decode cX4_isAlsoLost 6 = .ok (.getfield 87, 3) := by decide +kernel
theorem dX4_isAlsoLost_9 : decode cX4_isAlsoLost 9 = .ok (.iload_n 1, 1) := by decide +kernel
theorem dX4_isAlsoLost_10 : decode cX4_isAlsoLost 10 = .ok (.ishr, 1) := by decide +kernel
theorem dX4_isAlsoLost_11 : decode cX4_isAlsoLost 11 = .ok (.iconst 1, 1) := by decide +kernel
theorem dX4_isAlsoLost_12 : decode cX4_isAlsoLost 12 = .ok (.iand, 1) := by decide +kernel
theorem dX4_isAlsoLost_13 : decode cX4_isAlsoLost 13 = .ok (.ifCond .eq 7, 3) := by decide +kernel
theorem dX4_isAlsoLost_16 : decode cX4_isAlsoLost 16 = .ok (.iconst 1, 1) := by decide +kernel
theorem dX4_isAlsoLost_17 : decode cX4_isAlsoLost 17 = .ok (.goto 4, 3) := by decide +kernel
theorem dX4_isAlsoLost_20 : decode cX4_isAlsoLost 20 = .ok (.iconst 0, 1) := by decide +kernel
theorem dX4_isAlsoLost_21 : decode cX4_isAlsoLost 21 = .ok (.ireturn, 1) := by decide +kernel
set_option maxRecDepth 20000 in
theorem ggX4_postDoubles_X5_does : GoodIn wsX4_postDoubles wsX5_does := goodIn_r _ [9, 10, 11, 12, 36, 37, 38, 39, 40, 41, 42] (by decide +kernel) (by decide +kernel)
set_option maxRecDepth 20000 in
theorem gX4_postDoubles_X5_does : GoodIn wsX4_postDoubles (wsV RX4 214 RX5 yX5_does wsX5_does) := goodIn_app (goodIn_of _ (by decide +kernel)) ggX4_postDoubles_X5_does
set_option maxRecDepth 20000 in
theorem ggX4_postDoubles_X0_add : GoodIn wsX4_postDoubles wsX0_add := goodIn_r _ [17, 18, 19, 20, 21, 22, 43, 44, 45, 46, 47] (by decide +kernel) (by decide +kernel)
set_option maxRecDepth 20000 in
theorem gX4_postDoubles_X0_add : GoodIn wsX4_postDoubles (wsV RX4 209 RX0 yX0_add wsX0_add) := goodIn_app (goodIn_of _ (by decide +kernel)) ggX4_postDoubles_X0_add
theorem dX4_postDoubles_0 : decode cX4_postDoubles 0 = .ok (.iconst 0, 1) := by decide +kernel
theorem dX4_postDoubles_1 : decode cX4_postDoubles 1 = .ok (.istore_n 3, 1) := by decide +kernel
theorem dX4_postDoubles_2 : decode cX4_postDoubles 2 = .ok (.iload_n 3, 1) := by decide +kernel
theorem dX4_postDoubles_3 : decode cX4_postDoubles 3 = .ok (.aload_n 0, 1) := by decide +kernel
theorem dX4_postDoubles_4 : decode cX4_postDoubles 4 = .ok (.getfield 41, 3) := by decide +kernel
theorem dX4_postDoubles_7 : decode cX4_postDoubles 7 = .ok (.getfield 102, 3) := by decide +kernel
theorem dX4_postDoubles_10 : decode cX4_postDoubles 10 = .ok (.if_icmp .ge 41, 3) := by decide +kernel
theorem dX4_postDoubles_13 : decode cX4_postDoubles 13 = .ok (.aload_n 0, 1) := by decide +kernel
theorem dX4_postDoubles_14 : decode cX4_postDoubles 14 = .ok (.getfield 41, 3) := by decide +kernel
theorem dX4_postDoubles_17 : decode cX4_postDoubles 17 = .ok (.iload_n 3, 1) := by decide +kernel
theorem dX4_postDoubles_18 : decode cX4_postDoubles 18 = .ok (.iconst 5, 1) := by decide +kernel
theorem dX4_postDoubles_19 : decode cX4_postDoubles 19 = .ok (.iload_n 1, 1) := by decide +kernel
theorem dX4_postDoubles_20 : decode cX4_postDoubles 20 = .ok (.invokevirtual 214, 3) := by decide +kernel
theorem dX4_postDoubles_23 : decode cX4_postDoubles 23 = .ok (.ifCond .eq 22, 3) := by decide +kernel
theorem dX4_postDoubles_26 : decode cX4_postDoubles 26 = .ok (.aload_n 0, 1) := by decide +kernel
theorem dX4_postDoubles_27 : decode cX4_postDoubles 27 = .ok (.getfield 12, 3) := by decide +kernel
theorem dX4_postDoubles_30 : decode cX4_postDoubles 30 = .ok (.iload_n 1, 1) := by decide +kernel
theorem dX4_postDoubles_31 : decode cX4_postDoubles 31 = .ok (.iload_n 2, 1) := by decide +kernel
theorem dX4_postDoubles_32 : decode cX4_postDoubles 32 = .ok (.aload_n 0, 1) := by decide +kernel
theorem dX4_postDoubles_33 : decode cX4_postDoubles 33 = .ok (.getfield 41, 3) := by decide +kernel
theorem dX4_postDoubles_36 : decode cX4_postDoubles 36 = .ok (.getfield 218, 3) := by decide +kernel
theorem dX4_postDoubles_39 : decode cX4_postDoubles 39 = .ok (.iload_n 3, 1) := by decide +kernel
theorem dX4_postDoubles_40 : decode cX4_postDoubles 40 = .ok (.iaload, 1) := by decide +kernel
theorem dX4_postDoubles_41 : decode cX4_postDoubles 41 = .ok (.iadd, 1) := by decide +kernel
theorem dX4_postDoubles_42 : decode cX4_postDoubles 42 = .ok (.invokevirtual 209, 3) := by decide +kernel
theorem dX4_postDoubles_45 : decode cX4_postDoubles 45 = .ok (.iinc 3 1, 3) := by decide +kernel
theorem dX4_postDoubles_48 : decode cX4_postDoubles 48 = .ok (.goto (-46), 3) := by decide +kernel
theorem dX4_postDoubles_51 : decode cX4_postDoubles 51 = .ok (.return_, 1) := by decide +kernel
set_option maxRecDepth 20000 in
theorem ggX4_keepRecord_X6_place : GoodIn wsX4_keepRecord wsX6_place := goodIn_r _ [10] (by decide +kernel) (by decide +kernel)
set_option maxRecDepth 20000 in
theorem gX4_keepRecord_X6_place_n221 : GoodIn wsX4_keepRecord (wsX6_place) := ggX4_keepRecord_X6_place
set_option maxRecDepth 20000 in
theorem ggX4_keepRecord_X3_keepTheRule : GoodIn wsX4_keepRecord wsX3_keepTheRule := goodIn_r _ [15, 16, 17, 18, 19, 20, 21, 22, 23, 24, 25, 26, 14, 27, 28, 29, 30, 31, 32, 33, 51, 52, 53, 54, 55, 56, 57, 47, 48, 49, 50] (by decide +kernel) (by decide +kernel)
set_option maxRecDepth 20000 in
theorem gX4_keepRecord_X3_keepTheRule : GoodIn wsX4_keepRecord (wsV RX4 224 RX3 yX3_keepTheRule wsX3_keepTheRule) := goodIn_app (goodIn_of _ (by decide +kernel)) ggX4_keepRecord_X3_keepTheRule
theorem dX4_keepRecord_0 : decode cX4_keepRecord 0 = .ok (.iconst 0, 1) := by decide +kernel
theorem dX4_keepRecord_1 : decode cX4_keepRecord 1 = .ok (.istore_n 2, 1) := by decide +kernel
theorem dX4_keepRecord_2 : decode cX4_keepRecord 2 = .ok (.iload_n 2, 1) := by decide +kernel
theorem dX4_keepRecord_3 : decode cX4_keepRecord 3 = .ok (.aload_n 0, 1) := by decide +kernel
theorem dX4_keepRecord_4 : decode cX4_keepRecord 4 = .ok (.getfield 37, 3) := by decide +kernel
theorem dX4_keepRecord_7 : decode cX4_keepRecord 7 = .ok (.getfield 156, 3) := by decide +kernel
theorem dX4_keepRecord_10 : decode cX4_keepRecord 10 = .ok (.if_icmp .ge 28, 3) := by decide +kernel
theorem dX4_keepRecord_13 : decode cX4_keepRecord 13 = .ok (.aload_n 0, 1) := by decide +kernel
theorem dX4_keepRecord_14 : decode cX4_keepRecord 14 = .ok (.getfield 25, 3) := by decide +kernel
theorem dX4_keepRecord_17 : decode cX4_keepRecord 17 = .ok (.iload_n 1, 1) := by decide +kernel
theorem dX4_keepRecord_18 : decode cX4_keepRecord 18 = .ok (.iload_n 2, 1) := by decide +kernel
theorem dX4_keepRecord_19 : decode cX4_keepRecord 19 = .ok (.invokestatic 221, 3) := by decide +kernel
theorem dX4_keepRecord_22 : decode cX4_keepRecord 22 = .ok (.aload_n 0, 1) := by decide +kernel
theorem dX4_keepRecord_23 : decode cX4_keepRecord 23 = .ok (.getfield 54, 3) := by decide +kernel
theorem dX4_keepRecord_26 : decode cX4_keepRecord 26 = .ok (.getfield 171, 3) := by decide +kernel
theorem dX4_keepRecord_29 : decode cX4_keepRecord 29 = .ok (.iload_n 2, 1) := by decide +kernel
theorem dX4_keepRecord_30 : decode cX4_keepRecord 30 = .ok (.iaload, 1) := by decide +kernel
theorem dX4_keepRecord_31 : decode cX4_keepRecord 31 = .ok (.iastore, 1) := by decide +kernel
theorem dX4_keepRecord_32 : decode cX4_keepRecord 32 = .ok (.iinc 2 1, 3) := by decide +kernel
theorem dX4_keepRecord_35 : decode cX4_keepRecord 35 = .ok (.goto (-33), 3) := by decide +kernel
theorem dX4_keepRecord_38 : decode cX4_keepRecord 38 = .ok (.aload_n 0, 1) := by decide +kernel
theorem dX4_keepRecord_39 : decode cX4_keepRecord 39 = .ok (.getfield 29, 3) := by decide +kernel
theorem dX4_keepRecord_42 : decode cX4_keepRecord 42 = .ok (.iload_n 1, 1) := by decide +kernel
theorem dX4_keepRecord_43 : decode cX4_keepRecord 43 = .ok (.aload_n 0, 1) := by decide +kernel
theorem dX4_keepRecord_44 : decode cX4_keepRecord 44 = .ok (.getfield 54, 3) := by decide +kernel
theorem dX4_keepRecord_47 : decode cX4_keepRecord 47 = .ok (.invokevirtual 224, 3) := by decide +kernel
theorem dX4_keepRecord_50 : decode cX4_keepRecord 50 = .ok (.bastore, 1) := by decide +kernel
theorem dX4_keepRecord_51 : decode cX4_keepRecord 51 = .ok (.aload_n 0, 1) := by decide +kernel
theorem dX4_keepRecord_52 : decode cX4_keepRecord 52 = .ok (.getfield 29, 3) := by decide +kernel
theorem dX4_keepRecord_55 : decode cX4_keepRecord 55 = .ok (.iload_n 1, 1) := by decide +kernel
theorem dX4_keepRecord_56 : decode cX4_keepRecord 56 = .ok (.baload, 1) := by decide +kernel
theorem dX4_keepRecord_57 : decode cX4_keepRecord 57 = .ok (.ifCond .ne 16, 3) := by decide +kernel
theorem dX4_keepRecord_60 : decode cX4_keepRecord 60 = .ok (.aload_n 0, 1) := by decide +kernel
theorem dX4_keepRecord_61 : decode cX4_keepRecord 61 = .ok (.getfield 33, 3) := by decide +kernel
theorem dX4_keepRecord_64 : decode cX4_keepRecord 64 = .ok (.iconst (-1), 1) := by decide +kernel
theorem dX4_keepRecord_65 : decode cX4_keepRecord 65 = .ok (.if_icmp .ne 8, 3) := by decide +kernel
theorem dX4_keepRecord_68 : decode cX4_keepRecord 68 = .ok (.aload_n 0, 1) := by decide +kernel
theorem dX4_keepRecord_69 : decode cX4_keepRecord 69 = .ok (.iload_n 1, 1) := by decide +kernel
theorem dX4_keepRecord_70 : decode cX4_keepRecord 70 = .ok (.putfield 33, 3) := by decide +kernel
theorem dX4_keepRecord_73 : decode cX4_keepRecord 73 = .ok (.return_, 1) := by decide +kernel
theorem dX5_init_0 : decode cX5_init 0 = .ok (.aload_n 0, 1) := by decide +kernel
theorem dX5_init_1 : decode cX5_init 1 = .ok (.invokespecial 3, 3) := by decide +kernel
theorem dX5_init_4 : decode cX5_init 4 = .ok (.aload_n 0, 1) := by decide +kernel
theorem dX5_init_5 : decode cX5_init 5 = .ok (.bipush 20, 2) := by decide +kernel
theorem dX5_init_7 : decode cX5_init 7 = .ok (.newarray .int, 2) := by decide +kernel
theorem dX5_init_9 : decode cX5_init 9 = .ok (.putfield 9, 3) := by decide +kernel
theorem dX5_init_12 : decode cX5_init 12 = .ok (.aload_n 0, 1) := by decide +kernel
theorem dX5_init_13 : decode cX5_init 13 = .ok (.bipush 20, 2) := by decide +kernel
theorem dX5_init_15 : decode cX5_init 15 = .ok (.newarray .int, 2) := by decide +kernel
theorem dX5_init_17 : decode cX5_init 17 = .ok (.putfield 15, 3) := by decide +kernel
theorem dX5_init_20 : decode cX5_init 20 = .ok (.aload_n 0, 1) := by decide +kernel
theorem dX5_init_21 : decode cX5_init 21 = .ok (.bipush 20, 2) := by decide +kernel
theorem dX5_init_23 : decode cX5_init 23 = .ok (.newarray .int, 2) := by decide +kernel
theorem dX5_init_25 : decode cX5_init 25 = .ok (.putfield 18, 3) := by decide +kernel
theorem dX5_init_28 : decode cX5_init 28 = .ok (.aload_n 0, 1) := by decide +kernel
theorem dX5_init_29 : decode cX5_init 29 = .ok (.bipush 20, 2) := by decide +kernel
theorem dX5_init_31 : decode cX5_init 31 = .ok (.newarray .int, 2) := by decide +kernel
theorem dX5_init_33 : decode cX5_init 33 = .ok (.putfield 21, 3) := by decide +kernel
theorem dX5_init_36 : decode cX5_init 36 = .ok (.aload_n 0, 1) := by decide +kernel
theorem dX5_init_37 : decode cX5_init 37 = .ok (.bipush 20, 2) := by decide +kernel
theorem dX5_init_39 : decode cX5_init 39 = .ok (.newarray .boolean, 2) := by decide +kernel
theorem dX5_init_41 : decode cX5_init 41 = .ok (.putfield 24, 3) := by decide +kernel
theorem dX5_init_44 : decode cX5_init 44 = .ok (.aload_n 0, 1) := by decide +kernel
theorem dX5_init_45 : decode cX5_init 45 = .ok (.sipush 1200, 3) := by decide +kernel
theorem dX5_init_48 : decode cX5_init 48 = .ok (.newarray .int, 2) := by decide +kernel
theorem dX5_init_50 : decode cX5_init 50 = .ok (.putfield 28, 3) := by decide +kernel
theorem dX5_init_53 : decode cX5_init 53 = .ok (.return_, 1) := by decide +kernel
theorem dX5_has_0 : decode cX5_has 0 = .ok (.iload_n 1, 1) := by decide +kernel
theorem dX5_has_1 : decode cX5_has 1 = .ok (.ifCond .lt 15, 3) := by decide +kernel
theorem dX5_has_4 : decode cX5_has 4 = .ok (.iload_n 1, 1) := by decide +kernel
theorem dX5_has_5 : decode cX5_has 5 = .ok (.aload_n 0, 1) := by decide +kernel
theorem dX5_has_6 : decode cX5_has 6 = .ok (.getfield 31, 3) := by decide +kernel
theorem dX5_has_9 : decode cX5_has 9 = .ok (.if_icmp .ge 7, 3) := by decide +kernel
theorem dX5_has_12 : decode cX5_has 12 = .ok (.iconst 1, 1) := by decide +kernel
theorem dX5_has_13 : decode cX5_has 13 = .ok (.goto 4, 3) := by decide +kernel
theorem dX5_has_16 : decode cX5_has 16 = .ok (.iconst 0, 1) := by decide +kernel
theorem dX5_has_17 : decode cX5_has 17 = .ok (.ireturn, 1) := by decide +kernel
set_option maxRecDepth 20000 in
theorem ggX5_add_X5_countNaming : GoodIn wsX5_add wsX5_countNaming := goodIn_r _ [11, 2, 4, 12, 13, 14, 15, 16, 17, 18, 19, 20, 21, 22, 23, 24] (by decide +kernel) (by decide +kernel)
set_option maxRecDepth 20000 in
theorem gX5_add_X5_countNaming : GoodIn wsX5_add (wsV RX5 35 RX5 yX5_countNaming wsX5_countNaming) := goodIn_app (goodIn_of _ (by decide +kernel)) ggX5_add_X5_countNaming
theorem dX5_add_0 : decode cX5_add 0 = .ok (.aload_n 0, 1) := by decide +kernel
theorem dX5_add_1 : decode cX5_add 1 = .ok (.getfield 31, 3) := by decide +kernel
theorem dX5_add_4 : decode cX5_add 4 = .ok (.bipush 20, 2) := by decide +kernel
theorem dX5_add_6 : decode cX5_add 6 = .ok (.if_icmp .lt 6, 3) := by decide +kernel
theorem dX5_add_9 : decode cX5_add 9 = .ok (.bipush (-5), 2) := by decide +kernel
theorem dX5_add_11 : decode cX5_add 11 = .ok (.ireturn, 1) := by decide +kernel
theorem dX5_add_12 : decode cX5_add 12 = .ok (.aload_n 0, 1) := by decide +kernel
theorem dX5_add_13 : decode cX5_add 13 = .ok (.getfield 9, 3) := by decide +kernel
theorem dX5_add_16 : decode cX5_add 16 = .ok (.aload_n 0, 1) := by decide +kernel
theorem dX5_add_17 : decode cX5_add 17 = .ok (.getfield 31, 3) := by decide +kernel
theorem dX5_add_20 : decode cX5_add 20 = .ok (.iload_n 1, 1) := by decide +kernel
theorem dX5_add_21 : decode cX5_add 21 = .ok (.iastore, 1) := by decide +kernel
theorem dX5_add_22 : decode cX5_add 22 = .ok (.aload_n 0, 1) := by decide +kernel
theorem dX5_add_23 : decode cX5_add 23 = .ok (.getfield 15, 3) := by decide +kernel
theorem dX5_add_26 : decode cX5_add 26 = .ok (.aload_n 0, 1) := by decide +kernel
theorem dX5_add_27 : decode cX5_add 27 = .ok (.getfield 31, 3) := by decide +kernel
theorem dX5_add_30 : decode cX5_add 30 = .ok (.iload_n 2, 1) := by decide +kernel
theorem dX5_add_31 : decode cX5_add 31 = .ok (.iastore, 1) := by decide +kernel
theorem dX5_add_32 : decode cX5_add 32 = .ok (.aload_n 0, 1) := by decide +kernel
theorem dX5_add_33 : decode cX5_add 33 = .ok (.getfield 18, 3) := by decide +kernel
theorem dX5_add_36 : decode cX5_add 36 = .ok (.aload_n 0, 1) := by decide +kernel
theorem dX5_add_37 : decode cX5_add 37 = .ok (.getfield 31, 3) := by decide +kernel
theorem dX5_add_40 : decode cX5_add 40 = .ok (.iload_n 3, 1) := by decide +kernel
theorem dX5_add_41 : decode cX5_add 41 = .ok (.iastore, 1) := by decide +kernel
theorem dX5_add_42 : decode cX5_add 42 = .ok (.aload_n 0, 1) := by decide +kernel
theorem dX5_add_43 : decode cX5_add 43 = .ok (.getfield 21, 3) := by decide +kernel
theorem dX5_add_46 : decode cX5_add 46 = .ok (.aload_n 0, 1) := by decide +kernel
theorem dX5_add_47 : decode cX5_add 47 = .ok (.getfield 31, 3) := by decide +kernel
theorem dX5_add_50 : decode cX5_add 50 = .ok (.iload 4, 2) := by decide +kernel
theorem dX5_add_52 : decode cX5_add 52 = .ok (.iastore, 1) := by decide +kernel
theorem dX5_add_53 : decode cX5_add 53 = .ok (.aload_n 0, 1) := by decide +kernel
theorem dX5_add_54 : decode cX5_add 54 = .ok (.getfield 24, 3) := by decide +kernel
theorem dX5_add_57 : decode cX5_add 57 = .ok (.aload_n 0, 1) := by decide +kernel
theorem dX5_add_58 : decode cX5_add 58 = .ok (.getfield 31, 3) := by decide +kernel
theorem dX5_add_61 : decode cX5_add 61 = .ok (.iconst 0, 1) := by decide +kernel
theorem dX5_add_62 : decode cX5_add 62 = .ok (.bastore, 1) := by decide +kernel
theorem dX5_add_63 : decode cX5_add 63 = .ok (.aload_n 0, 1) := by decide +kernel
theorem dX5_add_64 : decode cX5_add 64 = .ok (.aload_n 0, 1) := by decide +kernel
theorem dX5_add_65 : decode cX5_add 65 = .ok (.getfield 31, 3) := by decide +kernel
theorem dX5_add_68 : decode cX5_add 68 = .ok (.iconst 1, 1) := by decide +kernel
theorem dX5_add_69 : decode cX5_add 69 = .ok (.invokevirtual 35, 3) := by decide +kernel
theorem dX5_add_72 : decode cX5_add 72 = .ok (.aload_n 0, 1) := by decide +kernel
theorem dX5_add_73 : decode cX5_add 73 = .ok (.dup, 1) := by decide +kernel
theorem dX5_add_74 : decode cX5_add 74 = .ok (.getfield 31, 3) := by decide +kernel
theorem dX5_add_77 : decode cX5_add 77 = .ok (.dup_x1, 1) := by decide +kernel
theorem dX5_add_78 : decode cX5_add 78 = .ok (.iconst 1, 1) := by decide +kernel
theorem dX5_add_79 : decode cX5_add 79 = .ok (.iadd, 1) := by decide +kernel
theorem dX5_add_80 : decode cX5_add 80 = .ok (.putfield 31, 3) := by decide +kernel
theorem dX5_add_83 : decode cX5_add 83 = .ok (.ireturn, 1) := by decide +kernel
set_option maxRecDepth 20000 in
theorem ggX5_remove_X5_has : GoodIn wsX5_remove wsX5_has := goodIn_r _ [11, 1, 22, 23, 24, 25, 26, 27, 28] (by decide +kernel) (by decide +kernel)
set_option maxRecDepth 20000 in
theorem gX5_remove_X5_has : GoodIn wsX5_remove (wsV RX5 39 RX5 yX5_has wsX5_has) := goodIn_app (goodIn_of _ (by decide +kernel)) ggX5_remove_X5_has
set_option maxRecDepth 20000 in
theorem ggX5_remove_X5_countNaming : GoodIn wsX5_remove wsX5_countNaming := goodIn_r _ [15, 2, 4, 16, 17, 18, 19, 20, 21, 22, 23, 24, 25, 26, 27, 28] (by decide +kernel) (by decide +kernel)
set_option maxRecDepth 20000 in
theorem gX5_remove_X5_countNaming : GoodIn wsX5_remove (wsV RX5 35 RX5 yX5_countNaming wsX5_countNaming) := goodIn_app (goodIn_of _ (by decide +kernel)) ggX5_remove_X5_countNaming
theorem dX5_remove_0 : decode cX5_remove 0 = .ok (.aload_n 0, 1) := by decide +kernel
theorem dX5_remove_1 : decode cX5_remove 1 = .ok (.iload_n 1, 1) := by decide +kernel
theorem dX5_remove_2 : decode cX5_remove 2 = .ok (.invokevirtual 39, 3) := by decide +kernel
theorem dX5_remove_5 : decode cX5_remove 5 = .ok (.ifCond .ne 4, 3) := by decide +kernel
theorem dX5_remove_8 : decode cX5_remove 8 = .ok (.return_, 1) := by decide +kernel
theorem dX5_remove_9 : decode cX5_remove 9 = .ok (.aload_n 0, 1) := by decide +kernel
theorem dX5_remove_10 : decode cX5_remove 10 = .ok (.iload_n 1, 1) := by decide +kernel
theorem dX5_remove_11 : decode cX5_remove 11 = .ok (.iconst (-1), 1) := by decide +kernel
theorem dX5_remove_12 : decode cX5_remove 12 = .ok (.invokevirtual 35, 3) := by decide +kernel
theorem dX5_remove_15 : decode cX5_remove 15 = .ok (.aload_n 0, 1) := by decide +kernel
theorem dX5_remove_16 : decode cX5_remove 16 = .ok (.dup, 1) := by decide +kernel
theorem dX5_remove_17 : decode cX5_remove 17 = .ok (.getfield 31, 3) := by decide +kernel
theorem dX5_remove_20 : decode cX5_remove 20 = .ok (.iconst 1, 1) := by decide +kernel
theorem dX5_remove_21 : decode cX5_remove 21 = .ok (.isub, 1) := by decide +kernel
theorem dX5_remove_22 : decode cX5_remove 22 = .ok (.putfield 31, 3) := by decide +kernel
theorem dX5_remove_25 : decode cX5_remove 25 = .ok (.iload_n 1, 1) := by decide +kernel
theorem dX5_remove_26 : decode cX5_remove 26 = .ok (.istore_n 2, 1) := by decide +kernel
theorem dX5_remove_27 : decode cX5_remove 27 = .ok (.iload_n 2, 1) := by decide +kernel
theorem dX5_remove_28 : decode cX5_remove 28 = .ok (.aload_n 0, 1) := by decide +kernel
theorem dX5_remove_29 : decode cX5_remove 29 = .ok (.getfield 31, 3) := by decide +kernel
theorem dX5_remove_32 : decode cX5_remove 32 = .ok (.if_icmp .ge 79, 3) := by decide +kernel
theorem dX5_remove_35 : decode cX5_remove 35 = .ok (.aload_n 0, 1) := by decide +kernel
theorem dX5_remove_36 : decode cX5_remove 36 = .ok (.getfield 9, 3) := by decide +kernel
theorem dX5_remove_39 : decode cX5_remove 39 = .ok (.iload_n 2, 1) := by decide +kernel
theorem dX5_remove_40 : decode cX5_remove 40 = .ok (.aload_n 0, 1) := by decide +kernel
theorem dX5_remove_41 : decode cX5_remove 41 = .ok (.getfield 9, 3) := by decide +kernel
theorem dX5_remove_44 : decode cX5_remove 44 = .ok (.iload_n 2, 1) := by decide +kernel
theorem dX5_remove_45 : decode cX5_remove 45 = .ok (.iconst 1, 1) := by decide +kernel
theorem dX5_remove_46 : decode cX5_remove 46 = .ok (.iadd, 1) := by decide +kernel
theorem dX5_remove_47 : decode cX5_remove 47 = .ok (.iaload, 1) := by decide +kernel
theorem dX5_remove_48 : decode cX5_remove 48 = .ok (.iastore, 1) := by decide +kernel
theorem dX5_remove_49 : decode cX5_remove 49 = .ok (.aload_n 0, 1) := by decide +kernel
theorem dX5_remove_50 : decode cX5_remove 50 = .ok (.getfield 15, 3) := by decide +kernel
theorem dX5_remove_53 : decode cX5_remove 53 = .ok (.iload_n 2, 1) := by decide +kernel
theorem dX5_remove_54 : decode cX5_remove 54 = .ok (.aload_n 0, 1) := by decide +kernel
theorem dX5_remove_55 : decode cX5_remove 55 = .ok (.getfield 15, 3) := by decide +kernel
theorem dX5_remove_58 : decode cX5_remove 58 = .ok (.iload_n 2, 1) := by decide +kernel
theorem dX5_remove_59 : decode cX5_remove 59 = .ok (.iconst 1, 1) := by decide +kernel
theorem dX5_remove_60 : decode cX5_remove 60 = .ok (.iadd, 1) := by decide +kernel
theorem dX5_remove_61 : decode cX5_remove 61 = .ok (.iaload, 1) := by decide +kernel
theorem dX5_remove_62 : decode cX5_remove 62 = .ok (.iastore, 1) := by decide +kernel
theorem dX5_remove_63 : decode cX5_remove 63 = .ok (.aload_n 0, 1) := by decide +kernel
theorem dX5_remove_64 : decode cX5_remove 64 = .ok (.getfield 18, 3) := by decide +kernel
theorem dX5_remove_67 : decode cX5_remove 67 = .ok (.iload_n 2, 1) := by decide +kernel
theorem dX5_remove_68 : decode cX5_remove 68 = .ok (.aload_n 0, 1) := by decide +kernel
theorem dX5_remove_69 : decode cX5_remove 69 = .ok (.getfield 18, 3) := by decide +kernel
theorem dX5_remove_72 : decode cX5_remove 72 = .ok (.iload_n 2, 1) := by decide +kernel
theorem dX5_remove_73 : decode cX5_remove 73 = .ok (.iconst 1, 1) := by decide +kernel
theorem dX5_remove_74 : decode cX5_remove 74 = .ok (.iadd, 1) := by decide +kernel
theorem dX5_remove_75 : decode cX5_remove 75 = .ok (.iaload, 1) := by decide +kernel
theorem dX5_remove_76 : decode cX5_remove 76 = .ok (.iastore, 1) := by decide +kernel
theorem dX5_remove_77 : decode cX5_remove 77 = .ok (.aload_n 0, 1) := by decide +kernel
theorem dX5_remove_78 : decode cX5_remove 78 = .ok (.getfield 21, 3) := by decide +kernel
theorem dX5_remove_81 : decode cX5_remove 81 = .ok (.iload_n 2, 1) := by decide +kernel
theorem dX5_remove_82 : decode cX5_remove 82 = .ok (.aload_n 0, 1) := by decide +kernel
theorem dX5_remove_83 : decode cX5_remove 83 = .ok (.getfield 21, 3) := by decide +kernel
theorem dX5_remove_86 : decode cX5_remove 86 = .ok (.iload_n 2, 1) := by decide +kernel
theorem dX5_remove_87 : decode cX5_remove 87 = .ok (.iconst 1, 1) := by decide +kernel
theorem dX5_remove_88 : decode cX5_remove 88 = .ok (.iadd, 1) := by decide +kernel
theorem dX5_remove_89 : decode cX5_remove 89 = .ok (.iaload, 1) := by decide +kernel
theorem dX5_remove_90 : decode cX5_remove 90 = .ok (.iastore, 1) := by decide +kernel
theorem dX5_remove_91 : decode cX5_remove 91 = .ok (.aload_n 0, 1) := by decide +kernel
theorem dX5_remove_92 : decode cX5_remove 92 = .ok (.getfield 24, 3) := by decide +kernel
theorem dX5_remove_95 : decode cX5_remove 95 = .ok (.iload_n 2, 1) := by decide +kernel
theorem dX5_remove_96 : decode cX5_remove 96 = .ok (.aload_n 0, 1) := by decide +kernel
theorem dX5_remove_97 : decode cX5_remove 97 = .ok (.getfield 24, 3) := by decide +kernel
theorem dX5_remove_100 : decode cX5_remove 100 = .ok (.iload_n 2, 1) := by decide +kernel
theorem dX5_remove_101 : decode cX5_remove 101 = .ok (.iconst 1, 1) := by decide +kernel
theorem dX5_remove_102 : decode cX5_remove 102 = .ok (.iadd, 1) := by decide +kernel
theorem dX5_remove_103 : decode cX5_remove 103 = .ok (.baload, 1) := by decide +kernel
theorem dX5_remove_104 : decode cX5_remove 104 = .ok (.bastore, 1) := by decide +kernel
theorem dX5_remove_105 : decode cX5_remove 105 = .ok (.iinc 2 1, 3) := by decide +kernel
theorem dX5_remove_108 : decode cX5_remove 108 = .ok (.goto (-81), 3) := by decide +kernel
theorem dX5_remove_111 : decode cX5_remove 111 = .ok (.return_, 1) := by decide +kernel
set_option maxRecDepth 20000 in
theorem ggX5_removeLeftOut_X5_remove : GoodIn wsX5_removeLeftOut wsX5_remove := goodIn_r _ [7, 1, 8, 9, 10, 11, 2, 12, 13, 14, 6, 15, 16, 17, 18, 19, 20, 21, 22, 23, 24, 25, 26, 27, 28, 29, 30, 31, 32] (by decide +kernel) (by decide +kernel)
set_option maxRecDepth 20000 in
theorem gX5_removeLeftOut_X5_remove : GoodIn wsX5_removeLeftOut (wsV RX5 43 RX5 yX5_remove wsX5_remove) := goodIn_app (goodIn_of _ (by decide +kernel)) ggX5_removeLeftOut_X5_remove
theorem dX5_removeLeftOut_0 : decode cX5_removeLeftOut 0 = .ok (.aload_n 0, 1) := by decide +kernel
theorem dX5_removeLeftOut_1 : decode cX5_removeLeftOut 1 = .ok (.getfield 31, 3) := by decide +kernel
theorem dX5_removeLeftOut_4 : decode cX5_removeLeftOut 4 = .ok (.iconst 1, 1) := by decide +kernel
theorem dX5_removeLeftOut_5 : decode cX5_removeLeftOut 5 = .ok (.isub, 1) := by decide +kernel
theorem dX5_removeLeftOut_6 : decode cX5_removeLeftOut 6 = .ok (.istore_n 1, 1) := by decide +kernel
theorem dX5_removeLeftOut_7 : decode cX5_removeLeftOut 7 = .ok (.iload_n 1, 1) := by decide +kernel
theorem dX5_removeLeftOut_8 : decode cX5_removeLeftOut 8 = .ok (.ifCond .lt 23, 3) := by decide +kernel
theorem dX5_removeLeftOut_11 : decode cX5_removeLeftOut 11 = .ok (.aload_n 0, 1) := by decide +kernel
theorem dX5_removeLeftOut_12 : decode cX5_removeLeftOut 12 = .ok (.getfield 24, 3) := by decide +kernel
theorem dX5_removeLeftOut_15 : decode cX5_removeLeftOut 15 = .ok (.iload_n 1, 1) := by decide +kernel
theorem dX5_removeLeftOut_16 : decode cX5_removeLeftOut 16 = .ok (.baload, 1) := by decide +kernel
theorem dX5_removeLeftOut_17 : decode cX5_removeLeftOut 17 = .ok (.ifCond .eq 8, 3) := by decide +kernel
theorem dX5_removeLeftOut_20 : decode cX5_removeLeftOut 20 = .ok (.aload_n 0, 1) := by decide +kernel
theorem dX5_removeLeftOut_21 : decode cX5_removeLeftOut 21 = .ok (.iload_n 1, 1) := by decide +kernel
theorem dX5_removeLeftOut_22 : decode cX5_removeLeftOut 22 = .ok (.invokevirtual 43, 3) := by decide +kernel
theorem dX5_removeLeftOut_25 : decode cX5_removeLeftOut 25 = .ok (.iinc 1 (-1), 3) := by decide +kernel
theorem dX5_removeLeftOut_28 : decode cX5_removeLeftOut 28 = .ok (.goto (-21), 3) := by decide +kernel
theorem dX5_removeLeftOut_31 : decode cX5_removeLeftOut 31 = .ok (.return_, 1) := by decide +kernel
set_option maxRecDepth 20000 in
theorem ggX5_countNaming_X6_namesLetter : GoodIn wsX5_countNaming wsX6_namesLetter := goodIn_r _ [6] (by decide +kernel) (by decide +kernel)
set_option maxRecDepth 20000 in
theorem gX5_countNaming_X6_namesLetter_n47 : GoodIn wsX5_countNaming (wsX6_namesLetter) := ggX5_countNaming_X6_namesLetter
set_option maxRecDepth 20000 in
theorem ggX5_countNaming_X6_isLetter : GoodIn wsX5_countNaming wsX6_isLetter := goodIn_r _ [8] (by decide +kernel) (by decide +kernel)
set_option maxRecDepth 20000 in
theorem gX5_countNaming_X6_isLetter_n50 : GoodIn wsX5_countNaming (wsX6_isLetter) := ggX5_countNaming_X6_isLetter
theorem dX5_countNaming_0 : decode cX5_countNaming 0 = .ok (.aload_n 0, 1) := by decide +kernel
theorem dX5_countNaming_1 : decode cX5_countNaming 1 = .ok (.getfield 9, 3) := by decide +kernel
theorem dX5_countNaming_4 : decode cX5_countNaming 4 = .ok (.iload_n 1, 1) := by decide +kernel
theorem dX5_countNaming_5 : decode cX5_countNaming 5 = .ok (.iaload, 1) := by decide +kernel
theorem dX5_countNaming_6 : decode cX5_countNaming 6 = .ok (.invokestatic 47, 3) := by decide +kernel
theorem dX5_countNaming_9 : decode cX5_countNaming 9 = .ok (.ifCond .eq 30, 3) := by decide +kernel
theorem dX5_countNaming_12 : decode cX5_countNaming 12 = .ok (.aload_n 0, 1) := by decide +kernel
theorem dX5_countNaming_13 : decode cX5_countNaming 13 = .ok (.getfield 18, 3) := by decide +kernel
theorem dX5_countNaming_16 : decode cX5_countNaming 16 = .ok (.iload_n 1, 1) := by decide +kernel
theorem dX5_countNaming_17 : decode cX5_countNaming 17 = .ok (.iaload, 1) := by decide +kernel
theorem dX5_countNaming_18 : decode cX5_countNaming 18 = .ok (.invokestatic 50, 3) := by decide +kernel
theorem dX5_countNaming_21 : decode cX5_countNaming 21 = .ok (.ifCond .eq 18, 3) := by decide +kernel
theorem dX5_countNaming_24 : decode cX5_countNaming 24 = .ok (.aload_n 0, 1) := by decide +kernel
theorem dX5_countNaming_25 : decode cX5_countNaming 25 = .ok (.getfield 28, 3) := by decide +kernel
theorem dX5_countNaming_28 : decode cX5_countNaming 28 = .ok (.aload_n 0, 1) := by decide +kernel
theorem dX5_countNaming_29 : decode cX5_countNaming 29 = .ok (.getfield 18, 3) := by decide +kernel
theorem dX5_countNaming_32 : decode cX5_countNaming 32 = .ok (.iload_n 1, 1) := by decide +kernel
theorem dX5_countNaming_33 : decode cX5_countNaming 33 = .ok (.iaload, 1) := by decide +kernel
theorem dX5_countNaming_34 : decode cX5_countNaming 34 = .ok (.dup2, 1) := by decide +kernel
theorem dX5_countNaming_35 : decode cX5_countNaming 35 = .ok (.iaload, 1) := by decide +kernel
theorem dX5_countNaming_36 : decode cX5_countNaming 36 = .ok (.iload_n 2, 1) := by decide +kernel
theorem dX5_countNaming_37 : decode cX5_countNaming 37 = .ok (.iadd, 1) := by decide +kernel
theorem dX5_countNaming_38 : decode cX5_countNaming 38 = .ok (.iastore, 1) := by decide +kernel
theorem dX5_countNaming_39 : decode cX5_countNaming 39 = .ok (.return_, 1) := by decide +kernel
set_option maxRecDepth 20000 in
theorem ggX5_names_X6_isLetter : GoodIn wsX5_names wsX6_isLetter := goodIn_r _ [4] (by decide +kernel) (by decide +kernel)
set_option maxRecDepth 20000 in
theorem gX5_names_X6_isLetter_n50 : GoodIn wsX5_names (wsX6_isLetter) := ggX5_names_X6_isLetter
theorem dX5_names_0 : decode cX5_names 0 = .ok (.iload_n 1, 1) := by decide +kernel
theorem dX5_names_1 : decode cX5_names 1 = .ok (.invokestatic 50, 3) := by decide +kernel
theorem dX5_names_4 : decode cX5_names 4 = .ok (.ifCond .eq 16, 3) := by decide +kernel
theorem dX5_names_7 : decode cX5_names 7 = .ok (.aload_n 0, 1) := by decide +kernel
theorem dX5_names_8 : decode cX5_names 8 = .ok (.getfield 28, 3) := by decide +kernel
theorem dX5_names_11 : decode cX5_names 11 = .ok (.iload_n 1, 1) := by decide +kernel
theorem dX5_names_12 : decode cX5_names 12 = .ok (.iaload, 1) := by decide +kernel
theorem dX5_names_13 : decode cX5_names 13 = .ok (.ifCond .le 7, 3) := by decide +kernel
theorem dX5_names_16 : decode cX5_names 16 = .ok (.iconst 1, 1) := by decide +kernel
theorem dX5_names_17 : decode cX5_names 17 = .ok (.goto 4, 3) := by decide +kernel
theorem dX5_names_20 : decode cX5_names 20 = .ok (.iconst 0, 1) := by decide +kernel
theorem dX5_names_21 : decode cX5_names 21 = .ok (.ireturn, 1) := by decide +kernel
set_option maxRecDepth 20000 in
theorem ggX5_happensAt_X6_isTimed : GoodIn wsX5_happensAt wsX6_isTimed := goodIn_r _ [6] (by decide +kernel) (by decide +kernel)
set_option maxRecDepth 20000 in
theorem gX5_happensAt_X6_isTimed_n53 : GoodIn wsX5_happensAt (wsX6_isTimed) := ggX5_happensAt_X6_isTimed
theorem dX5_happensAt_0 : decode cX5_happensAt 0 = .ok (.aload_n 0, 1) := by decide +kernel
theorem dX5_happensAt_1 : decode cX5_happensAt 1 = .ok (.getfield 24, 3) := by decide +kernel
theorem dX5_happensAt_4 : decode cX5_happensAt 4 = .ok (.iload_n 1, 1) := by decide +kernel
theorem dX5_happensAt_5 : decode cX5_happensAt 5 = .ok (.baload, 1) := by decide +kernel
theorem dX5_happensAt_6 : decode cX5_happensAt 6 = .ok (.ifCond .ne 29, 3) := by decide +kernel
theorem dX5_happensAt_9 : decode cX5_happensAt 9 = .ok (.aload_n 0, 1) := by decide +kernel
theorem dX5_happensAt_10 : decode cX5_happensAt 10 = .ok (.getfield 9, 3) := by decide +kernel
theorem dX5_happensAt_13 : decode cX5_happensAt 13 = .ok (.iload_n 1, 1) := by decide +kernel
theorem dX5_happensAt_14 : decode cX5_happensAt 14 = .ok (.iaload, 1) := by decide +kernel
theorem dX5_happensAt_15 : decode cX5_happensAt 15 = .ok (.invokestatic 53, 3) := by decide +kernel
theorem dX5_happensAt_18 : decode cX5_happensAt 18 = .ok (.ifCond .eq 17, 3) := by decide +kernel
theorem dX5_happensAt_21 : decode cX5_happensAt 21 = .ok (.aload_n 0, 1) := by decide +kernel
theorem dX5_happensAt_22 : decode cX5_happensAt 22 = .ok (.getfield 15, 3) := by decide +kernel
theorem dX5_happensAt_25 : decode cX5_happensAt 25 = .ok (.iload_n 1, 1) := by decide +kernel
theorem dX5_happensAt_26 : decode cX5_happensAt 26 = .ok (.iaload, 1) := by decide +kernel
theorem dX5_happensAt_27 : decode cX5_happensAt 27 = .ok (.iload_n 2, 1) := by decide +kernel
theorem dX5_happensAt_28 : decode cX5_happensAt 28 = .ok (.if_icmp .ne 7, 3) := by decide +kernel
theorem dX5_happensAt_31 : decode cX5_happensAt 31 = .ok (.iconst 1, 1) := by decide +kernel
theorem dX5_happensAt_32 : decode cX5_happensAt 32 = .ok (.goto 4, 3) := by decide +kernel
theorem dX5_happensAt_35 : decode cX5_happensAt 35 = .ok (.iconst 0, 1) := by decide +kernel
theorem dX5_happensAt_36 : decode cX5_happensAt 36 = .ok (.ireturn, 1) := by decide +kernel
theorem dX5_does_0 : decode cX5_does 0 = .ok (.aload_n 0, 1) := by decide +kernel
theorem dX5_does_1 : decode cX5_does 1 = .ok (.getfield 24, 3) := by decide +kernel
theorem dX5_does_4 : decode cX5_does 4 = .ok (.iload_n 1, 1) := by decide +kernel
theorem dX5_does_5 : decode cX5_does 5 = .ok (.baload, 1) := by decide +kernel
theorem dX5_does_6 : decode cX5_does 6 = .ok (.ifCond .ne 27, 3) := by decide +kernel
theorem dX5_does_9 : decode cX5_does 9 = .ok (.aload_n 0, 1) := by decide +kernel
theorem dX5_does_10 : decode cX5_does 10 = .ok (.getfield 9, 3) := by decide +kernel
theorem dX5_does_13 : decode cX5_does 13 = .ok (.iload_n 1, 1) := by decide +kernel
theorem dX5_does_14 : decode cX5_does 14 = .ok (.iaload, 1) := by decide +kernel
theorem dX5_does_15 : decode cX5_does 15 = .ok (.iload_n 2, 1) := by decide +kernel
theorem dX5_does_16 : decode cX5_does 16 = .ok (.if_icmp .ne 17, 3) := by decide +kernel
theorem dX5_does_19 : decode cX5_does 19 = .ok (.aload_n 0, 1) := by decide +kernel
theorem dX5_does_20 : decode cX5_does 20 = .ok (.getfield 18, 3) := by decide +kernel
theorem dX5_does_23 : decode cX5_does 23 = .ok (.iload_n 1, 1) := by decide +kernel
theorem dX5_does_24 : decode cX5_does 24 = .ok (.iaload, 1) := by decide +kernel
theorem dX5_does_25 : decode cX5_does 25 = .ok (.iload_n 3, 1) := by decide +kernel
theorem dX5_does_26 : decode cX5_does 26 = .ok (.if_icmp .ne 7, 3) := by decide +kernel
theorem dX5_does_29 : decode cX5_does 29 = .ok (.iconst 1, 1) := by decide +kernel
theorem dX5_does_30 : decode cX5_does 30 = .ok (.goto 4, 3) := by decide +kernel
theorem dX5_does_33 : decode cX5_does 33 = .ok (.iconst 0, 1) := by decide +kernel
theorem dX5_does_34 : decode cX5_does 34 = .ok (.ireturn, 1) := by decide +kernel
set_option maxRecDepth 20000 in
theorem ggX5_loses_X5_does : GoodIn wsX5_loses wsX5_does := goodIn_r _ [6, 7, 8, 9, 10, 11, 12, 13, 14, 15, 16] (by decide +kernel) (by decide +kernel)
set_option maxRecDepth 20000 in
theorem gX5_loses_X5_does : GoodIn wsX5_loses (wsV RX5 56 RX5 yX5_does wsX5_does) := goodIn_app (goodIn_of _ (by decide +kernel)) ggX5_loses_X5_does
theorem dX5_loses_0 : decode cX5_loses 0 = .ok (.iconst 0, 1) := by decide +kernel
theorem dX5_loses_1 : decode cX5_loses 1 = .ok (.istore_n 2, 1) := by decide +kernel
theorem dX5_loses_2 : decode cX5_loses 2 = .ok (.iload_n 2, 1) := by decide +kernel
theorem dX5_loses_3 : decode cX5_loses 3 = .ok (.aload_n 0, 1) := by decide +kernel
theorem dX5_loses_4 : decode cX5_loses 4 = .ok (.getfield 31, 3) := by decide +kernel
theorem dX5_loses_7 : decode cX5_loses 7 = .ok (.if_icmp .ge 21, 3) := by decide +kernel
theorem dX5_loses_10 : decode cX5_loses 10 = .ok (.aload_n 0, 1) := by decide +kernel
theorem dX5_loses_11 : decode cX5_loses 11 = .ok (.iload_n 2, 1) := by decide +kernel
theorem dX5_loses_12 : decode cX5_loses 12 = .ok (.iconst 4, 1) := by decide +kernel
theorem dX5_loses_13 : decode cX5_loses 13 = .ok (.iload_n 1, 1) := by decide +kernel
theorem dX5_loses_14 : decode cX5_loses 14 = .ok (.invokevirtual 56, 3) := by decide +kernel
theorem dX5_loses_17 : decode cX5_loses 17 = .ok (.ifCond .eq 5, 3) := by decide +kernel
theorem dX5_loses_20 : decode cX5_loses 20 = .ok (.iconst 1, 1) := by decide +kernel
theorem dX5_loses_21 : decode cX5_loses 21 = .ok (.ireturn, 1) := by decide +kernel
theorem dX5_loses_22 : decode cX5_loses 22 = .ok (.iinc 2 1, 3) := by decide +kernel
theorem dX5_loses_25 : decode cX5_loses 25 = .ok (.goto (-23), 3) := by decide +kernel
theorem dX5_loses_28 : decode cX5_loses 28 = .ok (.iconst 0, 1) := by decide +kernel
theorem dX5_loses_29 : decode cX5_loses 29 = .ok (.ireturn, 1) := by decide +kernel
set_option maxRecDepth 20000 in
theorem ggX5_lateness_X5_does : GoodIn wsX5_lateness wsX5_does := goodIn_r _ [7, 8, 9, 10, 11, 12, 13, 14, 15, 16, 17] (by decide +kernel) (by decide +kernel)
set_option maxRecDepth 20000 in
theorem gX5_lateness_X5_does : GoodIn wsX5_lateness (wsV RX5 56 RX5 yX5_does wsX5_does) := goodIn_app (goodIn_of _ (by decide +kernel)) ggX5_lateness_X5_does
theorem dX5_lateness_0 : decode cX5_lateness 0 = .ok (.iconst 0, 1) := by decide +kernel
theorem dX5_lateness_1 : decode cX5_lateness 1 = .ok (.istore_n 2, 1) := by decide +kernel
theorem dX5_lateness_2 : decode cX5_lateness 2 = .ok (.iconst 0, 1) := by decide +kernel
theorem dX5_lateness_3 : decode cX5_lateness 3 = .ok (.istore_n 3, 1) := by decide +kernel
theorem dX5_lateness_4 : decode cX5_lateness 4 = .ok (.iload_n 3, 1) := by decide +kernel
theorem dX5_lateness_5 : decode cX5_lateness 5 = .ok (.aload_n 0, 1) := by decide +kernel
theorem dX5_lateness_6 : decode cX5_lateness 6 = .ok (.getfield 31, 3) := by decide +kernel
theorem dX5_lateness_9 : decode cX5_lateness 9 = .ok (.if_icmp .ge 29, 3) := by decide +kernel
theorem dX5_lateness_12 : decode cX5_lateness 12 = .ok (.aload_n 0, 1) := by decide +kernel
theorem dX5_lateness_13 : decode cX5_lateness 13 = .ok (.iload_n 3, 1) := by decide +kernel
theorem dX5_lateness_14 : decode cX5_lateness 14 = .ok (.bipush 6, 2) := by decide +kernel
theorem dX5_lateness_16 : decode cX5_lateness 16 = .ok (.iload_n 1, 1) := by decide +kernel
theorem dX5_lateness_17 : decode cX5_lateness 17 = .ok (.invokevirtual 56, 3) := by decide +kernel
theorem dX5_lateness_20 : decode cX5_lateness 20 = .ok (.ifCond .eq 12, 3) := by decide +kernel
theorem dX5_lateness_23 : decode cX5_lateness 23 = .ok (.iload_n 2, 1) := by decide +kernel
theorem dX5_lateness_24 : decode cX5_lateness 24 = .ok (.aload_n 0, 1) := by decide +kernel
theorem dX5_lateness_25 : decode cX5_lateness 25 = .ok (.getfield 21, 3) := by decide +kernel
theorem dX5_lateness_28 : decode cX5_lateness 28 = .ok (.iload_n 3, 1) := by decide +kernel
theorem dX5_lateness_29 : decode cX5_lateness 29 = .ok (.iaload, 1) := by decide +kernel
theorem dX5_lateness_30 : decode cX5_lateness 30 = .ok (.iadd, 1) := by decide +kernel
theorem dX5_lateness_31 : decode cX5_lateness 31 = .ok (.istore_n 2, 1) := by decide +kernel
theorem dX5_lateness_32 : decode cX5_lateness 32 = .ok (.iinc 3 1, 3) := by decide +kernel
theorem dX5_lateness_35 : decode cX5_lateness 35 = .ok (.goto (-31), 3) := by decide +kernel
theorem dX5_lateness_38 : decode cX5_lateness 38 = .ok (.iload_n 2, 1) := by decide +kernel
theorem dX5_lateness_39 : decode cX5_lateness 39 = .ok (.ireturn, 1) := by decide +kernel
set_option maxRecDepth 20000 in
theorem ggX6_init_X2_init : GoodIn wsX6_init wsX2_init := goodIn_r _ [26, 27, 2, 3, 28, 29, 30, 31, 32, 33, 34, 35, 36, 96, 97, 98, 99] (by decide +kernel) (by decide +kernel)
set_option maxRecDepth 20000 in
theorem gX6_init_X2_init : GoodIn wsX6_init (wsX2_init) := ggX6_init_X2_init
set_option maxRecDepth 20000 in
theorem ggX6_init_X5_init : GoodIn wsX6_init wsX5_init := goodIn_r _ [38, 39, 2, 3, 28, 40, 41, 42, 43, 44, 45, 46, 104, 105, 106, 107, 108, 109, 110] (by decide +kernel) (by decide +kernel)
set_option maxRecDepth 20000 in
theorem gX6_init_X5_init_n29 : GoodIn wsX6_init (wsX5_init) := ggX6_init_X5_init
set_option maxRecDepth 20000 in
theorem ggX6_init_X4_init : GoodIn wsX6_init wsX4_init := goodIn_r _ [49, 50, 2, 3, 51, 52, 53, 54, 55, 56, 57, 58, 28, 59, 44, 60, 61, 62, 63, 64, 65, 66, 67, 68, 69, 70, 71, 72, 73, 74, 75, 76, 77, 78, 79, 80, 81, 82, 83, 84, 85, 86, 87, 88, 89, 90, 91, 92, 93, 94, 95, 124, 125, 126, 127, 128, 111, 112, 113, 114, 115, 116, 117, 118, 119, 120, 121, 122, 123, 129, 130, 131, 132, 133, 134, 135, 136, 137, 138, 139, 140, 141, 142, 143, 144] (by decide +kernel) (by decide +kernel)
set_option maxRecDepth 20000 in
theorem gX6_init_X4_init : GoodIn wsX6_init (wsX4_init) := ggX6_init_X4_init
theorem dX6_init_0 : decode cX6_init 0 = .ok (.aload_n 0, 1) := by decide +kernel
theorem dX6_init_1 : decode cX6_init 1 = .ok (.invokespecial 3, 3) := by decide +kernel
theorem dX6_init_4 : decode cX6_init 4 = .ok (.aload_n 0, 1) := by decide +kernel
theorem dX6_init_5 : decode cX6_init 5 = .ok (.new 9, 3) := by decide +kernel
theorem dX6_init_8 : decode cX6_init 8 = .ok (.dup, 1) := by decide +kernel
theorem dX6_init_9 : decode cX6_init 9 = .ok (.iconst 2, 1) := by decide +kernel
theorem dX6_init_10 : decode cX6_init 10 = .ok (.bipush 6, 2) := by decide +kernel
theorem dX6_init_12 : decode cX6_init 12 = .ok (.iload_n 1, 1) := by decide +kernel
theorem dX6_init_13 : decode cX6_init 13 = .ok (.invokestatic 11, 3) := by decide +kernel
theorem dX6_init_16 : decode cX6_init 16 = .ok (.invokestatic 17, 3) := by decide +kernel
theorem dX6_init_19 : decode cX6_init 19 = .ok (.invokespecial 20, 3) := by decide +kernel
theorem dX6_init_22 : decode cX6_init 22 = .ok (.putfield 23, 3) := by decide +kernel
theorem dX6_init_25 : decode cX6_init 25 = .ok (.aload_n 0, 1) := by decide +kernel
theorem dX6_init_26 : decode cX6_init 26 = .ok (.new 27, 3) := by decide +kernel
theorem dX6_init_29 : decode cX6_init 29 = .ok (.dup, 1) := by decide +kernel
theorem dX6_init_30 : decode cX6_init 30 = .ok (.invokespecial 29, 3) := by decide +kernel
theorem dX6_init_33 : decode cX6_init 33 = .ok (.putfield 30, 3) := by decide +kernel
theorem dX6_init_36 : decode cX6_init 36 = .ok (.aload_n 0, 1) := by decide +kernel
theorem dX6_init_37 : decode cX6_init 37 = .ok (.new 34, 3) := by decide +kernel
theorem dX6_init_40 : decode cX6_init 40 = .ok (.dup, 1) := by decide +kernel
theorem dX6_init_41 : decode cX6_init 41 = .ok (.aload_n 0, 1) := by decide +kernel
theorem dX6_init_42 : decode cX6_init 42 = .ok (.getfield 23, 3) := by decide +kernel
theorem dX6_init_45 : decode cX6_init 45 = .ok (.aload_n 0, 1) := by decide +kernel
theorem dX6_init_46 : decode cX6_init 46 = .ok (.getfield 30, 3) := by decide +kernel
theorem dX6_init_49 : decode cX6_init 49 = .ok (.iconst 0, 1) := by decide +kernel
theorem dX6_init_50 : decode cX6_init 50 = .ok (.invokespecial 36, 3) := by decide +kernel
theorem dX6_init_53 : decode cX6_init 53 = .ok (.putfield 39, 3) := by decide +kernel
theorem dX6_init_56 : decode cX6_init 56 = .ok (.aload_n 0, 1) := by decide +kernel
theorem dX6_init_57 : decode cX6_init 57 = .ok (.new 34, 3) := by decide +kernel
theorem dX6_init_60 : decode cX6_init 60 = .ok (.dup, 1) := by decide +kernel
theorem dX6_init_61 : decode cX6_init 61 = .ok (.aload_n 0, 1) := by decide +kernel
theorem dX6_init_62 : decode cX6_init 62 = .ok (.getfield 23, 3) := by decide +kernel
theorem dX6_init_65 : decode cX6_init 65 = .ok (.aload_n 0, 1) := by decide +kernel
theorem dX6_init_66 : decode cX6_init 66 = .ok (.getfield 30, 3) := by decide +kernel
theorem dX6_init_69 : decode cX6_init 69 = .ok (.iconst 1, 1) := by decide +kernel
theorem dX6_init_70 : decode cX6_init 70 = .ok (.invokespecial 36, 3) := by decide +kernel
theorem dX6_init_73 : decode cX6_init 73 = .ok (.putfield 43, 3) := by decide +kernel
theorem dX6_init_76 : decode cX6_init 76 = .ok (.return_, 1) := by decide +kernel
set_option maxRecDepth 20000 in
theorem ggX6_behaviour_X2_has : GoodIn wsX6_behaviour wsX2_has := goodIn_r _ [7, 8, 13, 14, 15, 16] (by decide +kernel) (by decide +kernel)
set_option maxRecDepth 20000 in
theorem gX6_behaviour_X2_has : GoodIn wsX6_behaviour (wsV RX6 46 RX2 yX2_has wsX2_has) := goodIn_app (goodIn_of _ (by decide +kernel)) ggX6_behaviour_X2_has
theorem dX6_behaviour_0 : decode cX6_behaviour 0 = .ok (.aload_n 0, 1) := by decide +kernel
theorem dX6_behaviour_1 : decode cX6_behaviour 1 = .ok (.getfield 23, 3) := by decide +kernel
theorem dX6_behaviour_4 : decode cX6_behaviour 4 = .ok (.iload_n 1, 1) := by decide +kernel
theorem dX6_behaviour_5 : decode cX6_behaviour 5 = .ok (.invokevirtual 46, 3) := by decide +kernel
theorem dX6_behaviour_8 : decode cX6_behaviour 8 = .ok (.ifCond .ne 6, 3) := by decide +kernel
theorem dX6_behaviour_11 : decode cX6_behaviour 11 = .ok (.bipush (-2), 2) := by decide +kernel
theorem dX6_behaviour_13 : decode cX6_behaviour 13 = .ok (.ireturn, 1) := by decide +kernel
theorem dX6_behaviour_14 : decode cX6_behaviour 14 = .ok (.iload_n 2, 1) := by decide +kernel
theorem dX6_behaviour_15 : decode cX6_behaviour 15 = .ok (.ifCond .lt 8, 3) := by decide +kernel
theorem dX6_behaviour_18 : decode cX6_behaviour 18 = .ok (.iload_n 2, 1) := by decide +kernel
theorem dX6_behaviour_19 : decode cX6_behaviour 19 = .ok (.iconst 3, 1) := by decide +kernel
theorem dX6_behaviour_20 : decode cX6_behaviour 20 = .ok (.if_icmp .le 6, 3) := by decide +kernel
theorem dX6_behaviour_23 : decode cX6_behaviour 23 = .ok (.bipush (-3), 2) := by decide +kernel
theorem dX6_behaviour_25 : decode cX6_behaviour 25 = .ok (.ireturn, 1) := by decide +kernel
theorem dX6_behaviour_26 : decode cX6_behaviour 26 = .ok (.aload_n 0, 1) := by decide +kernel
theorem dX6_behaviour_27 : decode cX6_behaviour 27 = .ok (.getfield 23, 3) := by decide +kernel
theorem dX6_behaviour_30 : decode cX6_behaviour 30 = .ok (.getfield 50, 3) := by decide +kernel
theorem dX6_behaviour_33 : decode cX6_behaviour 33 = .ok (.iload_n 1, 1) := by decide +kernel
theorem dX6_behaviour_34 : decode cX6_behaviour 34 = .ok (.iaload, 1) := by decide +kernel
theorem dX6_behaviour_35 : decode cX6_behaviour 35 = .ok (.istore_n 3, 1) := by decide +kernel
theorem dX6_behaviour_36 : decode cX6_behaviour 36 = .ok (.aload_n 0, 1) := by decide +kernel
theorem dX6_behaviour_37 : decode cX6_behaviour 37 = .ok (.getfield 23, 3) := by decide +kernel
theorem dX6_behaviour_40 : decode cX6_behaviour 40 = .ok (.getfield 50, 3) := by decide +kernel
theorem dX6_behaviour_43 : decode cX6_behaviour 43 = .ok (.iload_n 1, 1) := by decide +kernel
theorem dX6_behaviour_44 : decode cX6_behaviour 44 = .ok (.iload_n 2, 1) := by decide +kernel
theorem dX6_behaviour_45 : decode cX6_behaviour 45 = .ok (.iastore, 1) := by decide +kernel
theorem dX6_behaviour_46 : decode cX6_behaviour 46 = .ok (.iload_n 3, 1) := by decide +kernel
theorem dX6_behaviour_47 : decode cX6_behaviour 47 = .ok (.ireturn, 1) := by decide +kernel
set_option maxRecDepth 20000 in
theorem ggX6_delay_X2_has : GoodIn wsX6_delay wsX2_has := goodIn_r _ [7, 8, 20, 21, 22, 23] (by decide +kernel) (by decide +kernel)
set_option maxRecDepth 20000 in
theorem gX6_delay_X2_has : GoodIn wsX6_delay (wsV RX6 46 RX2 yX2_has wsX2_has) := goodIn_app (goodIn_of _ (by decide +kernel)) ggX6_delay_X2_has
set_option maxRecDepth 20000 in
theorem ggX6_delay_X6_isWait : GoodIn wsX6_delay wsX6_isWait := goodIn_r _ [12] (by decide +kernel) (by decide +kernel)
set_option maxRecDepth 20000 in
theorem gX6_delay_X6_isWait : GoodIn wsX6_delay (va_wsS RX6 54 yX6_isWait wsX6_isWait) := goodIn_app (goodIn_of _ (by decide +kernel)) ggX6_delay_X6_isWait
set_option maxRecDepth 20000 in
theorem ggX6_delay_X6_pair : GoodIn wsX6_delay wsX6_pair := goodIn_r _ [15] (by decide +kernel) (by decide +kernel)
set_option maxRecDepth 20000 in
theorem gX6_delay_X6_pair : GoodIn wsX6_delay (va_wsS RX6 60 yX6_pair wsX6_pair) := goodIn_app (goodIn_of _ (by decide +kernel)) ggX6_delay_X6_pair
theorem dX6_delay_0 : decode cX6_delay 0 = .ok (.aload_n 0, 1) := by decide +kernel
theorem dX6_delay_1 : decode cX6_delay 1 = .ok (.getfield 23, 3) := by decide +kernel
theorem dX6_delay_4 : decode cX6_delay 4 = .ok (.iload_n 1, 1) := by decide +kernel
theorem dX6_delay_5 : decode cX6_delay 5 = .ok (.invokevirtual 46, 3) := by decide +kernel
theorem dX6_delay_8 : decode cX6_delay 8 = .ok (.ifCond .eq 19, 3) := by decide +kernel
