theorem dX1_drawn_31 : decode cX1_drawn 31 = .ok (.aload_n 0, 1) := by decide +kernel
theorem dX1_drawn_32 : decode cX1_drawn 32 = .ok (.getfield 39, 3) := by decide +kernel
theorem dX1_drawn_35 : decode cX1_drawn 35 = .ok (.bipush 16, 2) := by decide +kernel
theorem dX1_drawn_37 : decode cX1_drawn 37 = .ok (.iushr, 1) := by decide +kernel
theorem dX1_drawn_38 : decode cX1_drawn 38 = .ok (.iload_n 2, 1) := by decide +kernel
theorem dX1_drawn_39 : decode cX1_drawn 39 = .ok (.irem, 1) := by decide +kernel
theorem dX1_drawn_40 : decode cX1_drawn 40 = .ok (.istore_n 3, 1) := by decide +kernel
theorem dX1_drawn_41 : decode cX1_drawn 41 = .ok (.iconst 0, 1) := by decide +kernel
theorem dX1_drawn_42 : decode cX1_drawn 42 = .ok (.istore 4, 2) := by decide +kernel
theorem dX1_drawn_44 : decode cX1_drawn 44 = .ok (.iconst 0, 1) := by decide +kernel
theorem dX1_drawn_45 : decode cX1_drawn 45 = .ok (.istore 5, 2) := by decide +kernel
theorem dX1_drawn_47 : decode cX1_drawn 47 = .ok (.iload 5, 2) := by decide +kernel
theorem dX1_drawn_49 : decode cX1_drawn 49 = .ok (.iconst 4, 1) := by decide +kernel
theorem dX1_drawn_50 : decode cX1_drawn 50 = .ok (.if_icmp .ge 33, 3) := by decide +kernel
theorem dX1_drawn_53 : decode cX1_drawn 53 = .ok (.iload 4, 2) := by decide +kernel
theorem dX1_drawn_55 : decode cX1_drawn 55 = .ok (.aload_n 0, 1) := by decide +kernel
theorem dX1_drawn_56 : decode cX1_drawn 56 = .ok (.getfield 12, 3) := by decide +kernel
theorem dX1_drawn_59 : decode cX1_drawn 59 = .ok (.iload_n 1, 1) := by decide +kernel
theorem dX1_drawn_60 : decode cX1_drawn 60 = .ok (.iload 5, 2) := by decide +kernel
theorem dX1_drawn_62 : decode cX1_drawn 62 = .ok (.invokevirtual 60, 3) := by decide +kernel
theorem dX1_drawn_65 : decode cX1_drawn 65 = .ok (.iadd, 1) := by decide +kernel
theorem dX1_drawn_66 : decode cX1_drawn 66 = .ok (.istore 4, 2) := by decide +kernel
theorem dX1_drawn_68 : decode cX1_drawn 68 = .ok (.iload 4, 2) := by decide +kernel
theorem dX1_drawn_70 : decode cX1_drawn 70 = .ok (.iload_n 3, 1) := by decide +kernel
theorem dX1_drawn_71 : decode cX1_drawn 71 = .ok (.if_icmp .le 6, 3) := by decide +kernel
theorem dX1_drawn_74 : decode cX1_drawn 74 = .ok (.iload 5, 2) := by decide +kernel
theorem dX1_drawn_76 : decode cX1_drawn 76 = .ok (.ireturn, 1) := by decide +kernel
theorem dX1_drawn_77 : decode cX1_drawn 77 = .ok (.iinc 5 1, 3) := by decide +kernel
theorem dX1_drawn_80 : decode cX1_drawn 80 = .ok (.goto (-33), 3) := by decide +kernel
theorem dX1_drawn_83 : decode cX1_drawn 83 = .ok (.bipush (-9), 2) := by decide +kernel
theorem dX1_drawn_85 : decode cX1_drawn 85 = .ok (.ireturn, 1) := by decide +kernel
set_option maxRecDepth 20000 in
theorem ggX1_seenOnBoard_X4_of : GoodIn wsX1_seenOnBoard wsX4_of := goodIn_r _ [5, 6, 25] (by decide +kernel) (by decide +kernel)
set_option maxRecDepth 20000 in
theorem gX1_seenOnBoard_X4_of_n60 : GoodIn wsX1_seenOnBoard (wsX4_of) := ggX1_seenOnBoard_X4_of
set_option maxRecDepth 20000 in
theorem ggX1_seenOnBoard_X1_isBetter : GoodIn wsX1_seenOnBoard wsX1_isBetter := goodIn_r _ [11, 1, 12, 13, 14, 10, 15, 16, 2, 3, 4, 5, 6, 17, 18, 19, 20, 21, 22, 23, 24, 25] (by decide +kernel) (by decide +kernel)
set_option maxRecDepth 20000 in
theorem gX1_seenOnBoard_X1_isBetter : GoodIn wsX1_seenOnBoard (wsV RX1 64 RX1 yX1_isBetter wsX1_isBetter) := goodIn_app (goodIn_of _ (by decide +kernel)) ggX1_seenOnBoard_X1_isBetter
theorem dX1_seenOnBoard_0 : decode cX1_seenOnBoard 0 = .ok (.bipush (-9), 2) := by decide +kernel
theorem dX1_seenOnBoard_2 : decode cX1_seenOnBoard 2 = .ok (.istore_n 2, 1) := by decide +kernel
theorem dX1_seenOnBoard_3 : decode cX1_seenOnBoard 3 = .ok (.iconst 0, 1) := by decide +kernel
theorem dX1_seenOnBoard_4 : decode cX1_seenOnBoard 4 = .ok (.istore_n 3, 1) := by decide +kernel
theorem dX1_seenOnBoard_5 : decode cX1_seenOnBoard 5 = .ok (.iload_n 3, 1) := by decide +kernel
theorem dX1_seenOnBoard_6 : decode cX1_seenOnBoard 6 = .ok (.iconst 4, 1) := by decide +kernel
theorem dX1_seenOnBoard_7 : decode cX1_seenOnBoard 7 = .ok (.if_icmp .ge 39, 3) := by decide +kernel
theorem dX1_seenOnBoard_10 : decode cX1_seenOnBoard 10 = .ok (.aload_n 0, 1) := by decide +kernel
theorem dX1_seenOnBoard_11 : decode cX1_seenOnBoard 11 = .ok (.getfield 12, 3) := by decide +kernel
theorem dX1_seenOnBoard_14 : decode cX1_seenOnBoard 14 = .ok (.iload_n 1, 1) := by decide +kernel
theorem dX1_seenOnBoard_15 : decode cX1_seenOnBoard 15 = .ok (.iload_n 3, 1) := by decide +kernel
theorem dX1_seenOnBoard_16 : decode cX1_seenOnBoard 16 = .ok (.invokevirtual 60, 3) := by decide +kernel
theorem dX1_seenOnBoard_19 : decode cX1_seenOnBoard 19 = .ok (.ifCond .le 21, 3) := by decide +kernel
theorem dX1_seenOnBoard_22 : decode cX1_seenOnBoard 22 = .ok (.iload_n 2, 1) := by decide +kernel
theorem dX1_seenOnBoard_23 : decode cX1_seenOnBoard 23 = .ok (.bipush (-9), 2) := by decide +kernel
theorem dX1_seenOnBoard_25 : decode cX1_seenOnBoard 25 = .ok (.if_icmp .eq 13, 3) := by decide +kernel
theorem dX1_seenOnBoard_28 : decode cX1_seenOnBoard 28 = .ok (.aload_n 0, 1) := by decide +kernel
theorem dX1_seenOnBoard_29 : decode cX1_seenOnBoard 29 = .ok (.iload_n 1, 1) := by decide +kernel
theorem dX1_seenOnBoard_30 : decode cX1_seenOnBoard 30 = .ok (.iload_n 3, 1) := by decide +kernel
theorem dX1_seenOnBoard_31 : decode cX1_seenOnBoard 31 = .ok (.iload_n 2, 1) := by decide +kernel
theorem dX1_seenOnBoard_32 : decode cX1_seenOnBoard 32 = .ok (.invokevirtual 64, 3) := by decide +kernel
theorem dX1_seenOnBoard_35 : decode cX1_seenOnBoard 35 = .ok (.ifCond .eq 5, 3) := by decide +kernel
theorem dX1_seenOnBoard_38 : decode cX1_seenOnBoard 38 = .ok (.iload_n 3, 1) := by decide +kernel
theorem dX1_seenOnBoard_39 : decode cX1_seenOnBoard 39 = .ok (.istore_n 2, 1) := by decide +kernel
theorem dX1_seenOnBoard_40 : decode cX1_seenOnBoard 40 = .ok (.iinc 3 1, 3) := by decide +kernel
theorem dX1_seenOnBoard_43 : decode cX1_seenOnBoard 43 = .ok (.goto (-38), 3) := by decide +kernel
theorem dX1_seenOnBoard_46 : decode cX1_seenOnBoard 46 = .ok (.iload_n 2, 1) := by decide +kernel
theorem dX1_seenOnBoard_47 : decode cX1_seenOnBoard 47 = .ok (.ireturn, 1) := by decide +kernel
set_option maxRecDepth 20000 in
theorem ggX1_isBetter_X1_bringersOf : GoodIn wsX1_isBetter wsX1_bringersOf := goodIn_r _ [6, 7, 13, 14, 15, 16, 17, 18, 19, 20] (by decide +kernel) (by decide +kernel)
set_option maxRecDepth 20000 in
theorem gX1_isBetter_X1_bringersOf : GoodIn wsX1_isBetter (wsV RX1 68 RX1 yX1_bringersOf wsX1_bringersOf) := goodIn_app (goodIn_of _ (by decide +kernel)) ggX1_isBetter_X1_bringersOf
set_option maxRecDepth 20000 in
theorem ggX1_isBetter_X4_of : GoodIn wsX1_isBetter wsX4_of := goodIn_r _ [11, 12, 21] (by decide +kernel) (by decide +kernel)
set_option maxRecDepth 20000 in
theorem gX1_isBetter_X4_of_n60 : GoodIn wsX1_isBetter (wsX4_of) := ggX1_isBetter_X4_of
theorem dX1_isBetter_0 : decode cX1_isBetter 0 = .ok (.aload_n 0, 1) := by decide +kernel
theorem dX1_isBetter_1 : decode cX1_isBetter 1 = .ok (.iload_n 3, 1) := by decide +kernel
theorem dX1_isBetter_2 : decode cX1_isBetter 2 = .ok (.invokevirtual 68, 3) := by decide +kernel
theorem dX1_isBetter_5 : decode cX1_isBetter 5 = .ok (.aload_n 0, 1) := by decide +kernel
theorem dX1_isBetter_6 : decode cX1_isBetter 6 = .ok (.iload_n 2, 1) := by decide +kernel
theorem dX1_isBetter_7 : decode cX1_isBetter 7 = .ok (.invokevirtual 68, 3) := by decide +kernel
theorem dX1_isBetter_10 : decode cX1_isBetter 10 = .ok (.isub, 1) := by decide +kernel
theorem dX1_isBetter_11 : decode cX1_isBetter 11 = .ok (.istore 4, 2) := by decide +kernel
theorem dX1_isBetter_13 : decode cX1_isBetter 13 = .ok (.iload 4, 2) := by decide +kernel
theorem dX1_isBetter_15 : decode cX1_isBetter 15 = .ok (.ifCond .gt 29, 3) := by decide +kernel
theorem dX1_isBetter_18 : decode cX1_isBetter 18 = .ok (.iload 4, 2) := by decide +kernel
theorem dX1_isBetter_20 : decode cX1_isBetter 20 = .ok (.ifCond .ne 28, 3) := by decide +kernel
theorem dX1_isBetter_23 : decode cX1_isBetter 23 = .ok (.aload_n 0, 1) := by decide +kernel
theorem dX1_isBetter_24 : decode cX1_isBetter 24 = .ok (.getfield 12, 3) := by decide +kernel
theorem dX1_isBetter_27 : decode cX1_isBetter 27 = .ok (.iload_n 1, 1) := by decide +kernel
theorem dX1_isBetter_28 : decode cX1_isBetter 28 = .ok (.iload_n 2, 1) := by decide +kernel
theorem dX1_isBetter_29 : decode cX1_isBetter 29 = .ok (.invokevirtual 60, 3) := by decide +kernel
theorem dX1_isBetter_32 : decode cX1_isBetter 32 = .ok (.aload_n 0, 1) := by decide +kernel
theorem dX1_isBetter_33 : decode cX1_isBetter 33 = .ok (.getfield 12, 3) := by decide +kernel
theorem dX1_isBetter_36 : decode cX1_isBetter 36 = .ok (.iload_n 1, 1) := by decide +kernel
theorem dX1_isBetter_37 : decode cX1_isBetter 37 = .ok (.iload_n 3, 1) := by decide +kernel
theorem dX1_isBetter_38 : decode cX1_isBetter 38 = .ok (.invokevirtual 60, 3) := by decide +kernel
theorem dX1_isBetter_41 : decode cX1_isBetter 41 = .ok (.if_icmp .le 7, 3) := by decide +kernel
theorem dX1_isBetter_44 : decode cX1_isBetter 44 = .ok (.iconst 1, 1) := by decide +kernel
theorem dX1_isBetter_45 : decode cX1_isBetter 45 = .ok (.goto 4, 3) := by decide +kernel
theorem dX1_isBetter_48 : decode cX1_isBetter 48 = .ok (.iconst 0, 1) := by decide +kernel
theorem dX1_isBetter_49 : decode cX1_isBetter 49 = .ok (.ireturn, 1) := by decide +kernel
set_option maxRecDepth 20000 in
theorem ggX1_feed_X1_fullest : GoodIn wsX1_feed wsX1_fullest := goodIn_r _ [7, 1, 8, 9, 10, 11, 12, 13, 14, 15] (by decide +kernel) (by decide +kernel)
set_option maxRecDepth 20000 in
theorem gX1_feed_X1_fullest : GoodIn wsX1_feed (wsV RX1 71 RX1 yX1_fullest wsX1_fullest) := goodIn_app (goodIn_of _ (by decide +kernel)) ggX1_feed_X1_fullest
theorem dX1_feed_0 : decode cX1_feed 0 = .ok (.iconst 0, 1) := by decide +kernel
theorem dX1_feed_1 : decode cX1_feed 1 = .ok (.istore 4, 2) := by decide +kernel
theorem dX1_feed_3 : decode cX1_feed 3 = .ok (.iload 4, 2) := by decide +kernel
theorem dX1_feed_5 : decode cX1_feed 5 = .ok (.iload_n 2, 1) := by decide +kernel
theorem dX1_feed_6 : decode cX1_feed 6 = .ok (.if_icmp .ge 52, 3) := by decide +kernel
theorem dX1_feed_9 : decode cX1_feed 9 = .ok (.aload_n 0, 1) := by decide +kernel
theorem dX1_feed_10 : decode cX1_feed 10 = .ok (.iload_n 3, 1) := by decide +kernel
theorem dX1_feed_11 : decode cX1_feed 11 = .ok (.invokevirtual 71, 3) := by decide +kernel
theorem dX1_feed_14 : decode cX1_feed 14 = .ok (.istore 5, 2) := by decide +kernel
theorem dX1_feed_16 : decode cX1_feed 16 = .ok (.iload 5, 2) := by decide +kernel
theorem dX1_feed_18 : decode cX1_feed 18 = .ok (.bipush (-9), 2) := by decide +kernel
theorem dX1_feed_20 : decode cX1_feed 20 = .ok (.if_icmp .ne 6, 3) := by decide +kernel
theorem dX1_feed_23 : decode cX1_feed 23 = .ok (.iload 4, 2) := by decide +kernel
theorem dX1_feed_25 : decode cX1_feed 25 = .ok (.ireturn, 1) := by decide +kernel
theorem dX1_feed_26 : decode cX1_feed 26 = .ok (.aload_n 0, 1) := by decide +kernel
theorem dX1_feed_27 : decode cX1_feed 27 = .ok (.getfield 22, 3) := by decide +kernel
theorem dX1_feed_30 : decode cX1_feed 30 = .ok (.iload 5, 2) := by decide +kernel
theorem dX1_feed_32 : decode cX1_feed 32 = .ok (.dup2, 1) := by decide +kernel
theorem dX1_feed_33 : decode cX1_feed 33 = .ok (.iaload, 1) := by decide +kernel
theorem dX1_feed_34 : decode cX1_feed 34 = .ok (.iconst 1, 1) := by decide +kernel
theorem dX1_feed_35 : decode cX1_feed 35 = .ok (.isub, 1) := by decide +kernel
theorem dX1_feed_36 : decode cX1_feed 36 = .ok (.iastore, 1) := by decide +kernel
theorem dX1_feed_37 : decode cX1_feed 37 = .ok (.aload_n 0, 1) := by decide +kernel
theorem dX1_feed_38 : decode cX1_feed 38 = .ok (.getfield 25, 3) := by decide +kernel
theorem dX1_feed_41 : decode cX1_feed 41 = .ok (.iload_n 1, 1) := by decide +kernel
theorem dX1_feed_42 : decode cX1_feed 42 = .ok (.iconst 4, 1) := by decide +kernel
theorem dX1_feed_43 : decode cX1_feed 43 = .ok (.imul, 1) := by decide +kernel
theorem dX1_feed_44 : decode cX1_feed 44 = .ok (.iload 5, 2) := by decide +kernel
theorem dX1_feed_46 : decode cX1_feed 46 = .ok (.iadd, 1) := by decide +kernel
theorem dX1_feed_47 : decode cX1_feed 47 = .ok (.dup2, 1) := by decide +kernel
theorem dX1_feed_48 : decode cX1_feed 48 = .ok (.iaload, 1) := by decide +kernel
theorem dX1_feed_49 : decode cX1_feed 49 = .ok (.iconst 1, 1) := by decide +kernel
theorem dX1_feed_50 : decode cX1_feed 50 = .ok (.iadd, 1) := by decide +kernel
theorem dX1_feed_51 : decode cX1_feed 51 = .ok (.iastore, 1) := by decide +kernel
theorem dX1_feed_52 : decode cX1_feed 52 = .ok (.iinc 4 1, 3) := by decide +kernel
theorem dX1_feed_55 : decode cX1_feed 55 = .ok (.goto (-52), 3) := by decide +kernel
theorem dX1_feed_58 : decode cX1_feed 58 = .ok (.iload_n 2, 1) := by decide +kernel
theorem dX1_feed_59 : decode cX1_feed 59 = .ok (.ireturn, 1) := by decide +kernel
theorem dX1_fullest_0 : decode cX1_fullest 0 = .ok (.bipush (-9), 2) := by decide +kernel
theorem dX1_fullest_2 : decode cX1_fullest 2 = .ok (.istore_n 2, 1) := by decide +kernel
theorem dX1_fullest_3 : decode cX1_fullest 3 = .ok (.iconst 0, 1) := by decide +kernel
theorem dX1_fullest_4 : decode cX1_fullest 4 = .ok (.istore_n 3, 1) := by decide +kernel
theorem dX1_fullest_5 : decode cX1_fullest 5 = .ok (.iconst 0, 1) := by decide +kernel
theorem dX1_fullest_6 : decode cX1_fullest 6 = .ok (.istore 4, 2) := by decide +kernel
theorem dX1_fullest_8 : decode cX1_fullest 8 = .ok (.iload 4, 2) := by decide +kernel
theorem dX1_fullest_10 : decode cX1_fullest 10 = .ok (.iconst 4, 1) := by decide +kernel
theorem dX1_fullest_11 : decode cX1_fullest 11 = .ok (.if_icmp .ge 40, 3) := by decide +kernel
theorem dX1_fullest_14 : decode cX1_fullest 14 = .ok (.iload_n 1, 1) := by decide +kernel
theorem dX1_fullest_15 : decode cX1_fullest 15 = .ok (.iload 4, 2) := by decide +kernel
theorem dX1_fullest_17 : decode cX1_fullest 17 = .ok (.ishr, 1) := by decide +kernel
theorem dX1_fullest_18 : decode cX1_fullest 18 = .ok (.iconst 1, 1) := by decide +kernel
theorem dX1_fullest_19 : decode cX1_fullest 19 = .ok (.iand, 1) := by decide +kernel
theorem dX1_fullest_20 : decode cX1_fullest 20 = .ok (.ifCond .ne 25, 3) := by decide +kernel
theorem dX1_fullest_23 : decode cX1_fullest 23 = .ok (.aload_n 0, 1) := by decide +kernel
theorem dX1_fullest_24 : decode cX1_fullest 24 = .ok (.getfield 22, 3) := by decide +kernel
theorem dX1_fullest_27 : decode cX1_fullest 27 = .ok (.iload 4, 2) := by decide +kernel
theorem dX1_fullest_29 : decode cX1_fullest 29 = .ok (.iaload, 1) := by decide +kernel
theorem dX1_fullest_30 : decode cX1_fullest 30 = .ok (.iload_n 3, 1) := by decide +kernel
theorem dX1_fullest_31 : decode cX1_fullest 31 = .ok (.if_icmp .le 14, 3) := by decide +kernel
theorem dX1_fullest_34 : decode cX1_fullest 34 = .ok (.iload 4, 2) := by decide +kernel
theorem dX1_fullest_36 : decode cX1_fullest 36 = .ok (.istore_n 2, 1) := by decide +kernel
theorem dX1_fullest_37 : decode cX1_fullest 37 = .ok (.aload_n 0, 1) := by decide +kernel
theorem dX1_fullest_38 : decode cX1_fullest 38 = .ok (.getfield 22, 3) := by decide +kernel
theorem dX1_fullest_41 : decode cX1_fullest 41 = .ok (.iload 4, 2) := by decide +kernel
theorem dX1_fullest_43 : decode cX1_fullest 43 = .ok (.iaload, 1) := by decide +kernel
theorem dX1_fullest_44 : decode cX1_fullest 44 = .ok (.istore_n 3, 1) := by decide +kernel
theorem dX1_fullest_45 : decode cX1_fullest 45 = .ok (.iinc 4 1, 3) := by decide +kernel
theorem dX1_fullest_48 : decode cX1_fullest 48 = .ok (.goto (-40), 3) := by decide +kernel
theorem dX1_fullest_51 : decode cX1_fullest 51 = .ok (.iload_n 2, 1) := by decide +kernel
theorem dX1_fullest_52 : decode cX1_fullest 52 = .ok (.ireturn, 1) := by decide +kernel
theorem dX1_spoonsOf_0 : decode cX1_spoonsOf 0 = .ok (.aload_n 0, 1) := by decide +kernel
theorem dX1_spoonsOf_1 : decode cX1_spoonsOf 1 = .ok (.getfield 25, 3) := by decide +kernel
theorem dX1_spoonsOf_4 : decode cX1_spoonsOf 4 = .ok (.iload_n 1, 1) := by decide +kernel
theorem dX1_spoonsOf_5 : decode cX1_spoonsOf 5 = .ok (.iconst 4, 1) := by decide +kernel
theorem dX1_spoonsOf_6 : decode cX1_spoonsOf 6 = .ok (.imul, 1) := by decide +kernel
theorem dX1_spoonsOf_7 : decode cX1_spoonsOf 7 = .ok (.iload_n 2, 1) := by decide +kernel
theorem dX1_spoonsOf_8 : decode cX1_spoonsOf 8 = .ok (.iadd, 1) := by decide +kernel
theorem dX1_spoonsOf_9 : decode cX1_spoonsOf 9 = .ok (.iaload, 1) := by decide +kernel
theorem dX1_spoonsOf_10 : decode cX1_spoonsOf 10 = .ok (.ireturn, 1) := by decide +kernel
set_option maxRecDepth 20000 in
theorem ggX1_allSpoonsOf_X1_spoonsOf : GoodIn wsX1_allSpoonsOf wsX1_spoonsOf := goodIn_r _ [5, 6, 7, 8, 9, 10, 11, 12, 13, 14] (by decide +kernel) (by decide +kernel)
set_option maxRecDepth 20000 in
theorem gX1_allSpoonsOf_X1_spoonsOf : GoodIn wsX1_allSpoonsOf (wsV RX1 74 RX1 yX1_spoonsOf wsX1_spoonsOf) := goodIn_app (goodIn_of _ (by decide +kernel)) ggX1_allSpoonsOf_X1_spoonsOf
theorem dX1_allSpoonsOf_0 : decode cX1_allSpoonsOf 0 = .ok (.iconst 0, 1) := by decide +kernel
theorem dX1_allSpoonsOf_1 : decode cX1_allSpoonsOf 1 = .ok (.istore_n 2, 1) := by decide +kernel
theorem dX1_allSpoonsOf_2 : decode cX1_allSpoonsOf 2 = .ok (.iconst 0, 1) := by decide +kernel
theorem dX1_allSpoonsOf_3 : decode cX1_allSpoonsOf 3 = .ok (.istore_n 3, 1) := by decide +kernel
theorem dX1_allSpoonsOf_4 : decode cX1_allSpoonsOf 4 = .ok (.iload_n 3, 1) := by decide +kernel
theorem dX1_allSpoonsOf_5 : decode cX1_allSpoonsOf 5 = .ok (.iconst 4, 1) := by decide +kernel
theorem dX1_allSpoonsOf_6 : decode cX1_allSpoonsOf 6 = .ok (.if_icmp .ge 18, 3) := by decide +kernel
theorem dX1_allSpoonsOf_9 : decode cX1_allSpoonsOf 9 = .ok (.iload_n 2, 1) := by decide +kernel
theorem dX1_allSpoonsOf_10 : decode cX1_allSpoonsOf 10 = .ok (.aload_n 0, 1) := by decide +kernel
theorem dX1_allSpoonsOf_11 : decode cX1_allSpoonsOf 11 = .ok (.iload_n 1, 1) := by decide +kernel
theorem dX1_allSpoonsOf_12 : decode cX1_allSpoonsOf 12 = .ok (.iload_n 3, 1) := by decide +kernel
theorem dX1_allSpoonsOf_13 : decode cX1_allSpoonsOf 13 = .ok (.invokevirtual 74, 3) := by decide +kernel
theorem dX1_allSpoonsOf_16 : decode cX1_allSpoonsOf 16 = .ok (.iadd, 1) := by decide +kernel
theorem dX1_allSpoonsOf_17 : decode cX1_allSpoonsOf 17 = .ok (.istore_n 2, 1) := by decide +kernel
theorem dX1_allSpoonsOf_18 : decode cX1_allSpoonsOf 18 = .ok (.iinc 3 1, 3) := by decide +kernel
theorem dX1_allSpoonsOf_21 : decode cX1_allSpoonsOf 21 = .ok (.goto (-17), 3) := by decide +kernel
theorem dX1_allSpoonsOf_24 : decode cX1_allSpoonsOf 24 = .ok (.iload_n 2, 1) := by decide +kernel
theorem dX1_allSpoonsOf_25 : decode cX1_allSpoonsOf 25 = .ok (.ireturn, 1) := by decide +kernel
theorem dX1_bringersOf_0 : decode cX1_bringersOf 0 = .ok (.iconst 0, 1) := by decide +kernel
theorem dX1_bringersOf_1 : decode cX1_bringersOf 1 = .ok (.istore_n 2, 1) := by decide +kernel
theorem dX1_bringersOf_2 : decode cX1_bringersOf 2 = .ok (.iconst 0, 1) := by decide +kernel
theorem dX1_bringersOf_3 : decode cX1_bringersOf 3 = .ok (.istore_n 3, 1) := by decide +kernel
theorem dX1_bringersOf_4 : decode cX1_bringersOf 4 = .ok (.iload_n 3, 1) := by decide +kernel
theorem dX1_bringersOf_5 : decode cX1_bringersOf 5 = .ok (.bipush 6, 2) := by decide +kernel
theorem dX1_bringersOf_7 : decode cX1_bringersOf 7 = .ok (.if_icmp .ge 22, 3) := by decide +kernel
theorem dX1_bringersOf_10 : decode cX1_bringersOf 10 = .ok (.aload_n 0, 1) := by decide +kernel
theorem dX1_bringersOf_11 : decode cX1_bringersOf 11 = .ok (.getfield 18, 3) := by decide +kernel
theorem dX1_bringersOf_14 : decode cX1_bringersOf 14 = .ok (.iload_n 3, 1) := by decide +kernel
theorem dX1_bringersOf_15 : decode cX1_bringersOf 15 = .ok (.iaload, 1) := by decide +kernel
theorem dX1_bringersOf_16 : decode cX1_bringersOf 16 = .ok (.iload_n 1, 1) := by decide +kernel
theorem dX1_bringersOf_17 : decode cX1_bringersOf 17 = .ok (.if_icmp .ne 6, 3) := by decide +kernel
theorem dX1_bringersOf_20 : decode cX1_bringersOf 20 = .ok (.iinc 2 1, 3) := by decide +kernel
theorem dX1_bringersOf_23 : decode cX1_bringersOf 23 = .ok (.iinc 3 1, 3) := by decide +kernel
theorem dX1_bringersOf_26 : decode cX1_bringersOf 26 = .ok (.goto (-22), 3) := by decide +kernel
theorem dX1_bringersOf_29 : decode cX1_bringersOf 29 = .ok (.iload_n 2, 1) := by decide +kernel
theorem dX1_bringersOf_30 : decode cX1_bringersOf 30 = .ok (.ireturn, 1) := by decide +kernel
set_option maxRecDepth 20000 in
theorem ggX1_bringers_X1_bringersOf : GoodIn wsX1_bringers wsX1_bringersOf := goodIn_r _ [5, 6, 7, 8, 9, 10, 11, 12, 13, 14] (by decide +kernel) (by decide +kernel)
set_option maxRecDepth 20000 in
theorem gX1_bringers_X1_bringersOf : GoodIn wsX1_bringers (wsV RX1 68 RX1 yX1_bringersOf wsX1_bringersOf) := goodIn_app (goodIn_of _ (by decide +kernel)) ggX1_bringers_X1_bringersOf
theorem dX1_bringers_0 : decode cX1_bringers 0 = .ok (.iconst 0, 1) := by decide +kernel
theorem dX1_bringers_1 : decode cX1_bringers 1 = .ok (.istore_n 1, 1) := by decide +kernel
theorem dX1_bringers_2 : decode cX1_bringers 2 = .ok (.iconst 0, 1) := by decide +kernel
theorem dX1_bringers_3 : decode cX1_bringers 3 = .ok (.istore_n 2, 1) := by decide +kernel
theorem dX1_bringers_4 : decode cX1_bringers 4 = .ok (.iload_n 2, 1) := by decide +kernel
theorem dX1_bringers_5 : decode cX1_bringers 5 = .ok (.iconst 4, 1) := by decide +kernel
theorem dX1_bringers_6 : decode cX1_bringers 6 = .ok (.if_icmp .ge 17, 3) := by decide +kernel
theorem dX1_bringers_9 : decode cX1_bringers 9 = .ok (.iload_n 1, 1) := by decide +kernel
theorem dX1_bringers_10 : decode cX1_bringers 10 = .ok (.aload_n 0, 1) := by decide +kernel
theorem dX1_bringers_11 : decode cX1_bringers 11 = .ok (.iload_n 2, 1) := by decide +kernel
theorem dX1_bringers_12 : decode cX1_bringers 12 = .ok (.invokevirtual 68, 3) := by decide +kernel
theorem dX1_bringers_15 : decode cX1_bringers 15 = .ok (.iadd, 1) := by decide +kernel
theorem dX1_bringers_16 : decode cX1_bringers 16 = .ok (.istore_n 1, 1) := by decide +kernel
theorem dX1_bringers_17 : decode cX1_bringers 17 = .ok (.iinc 2 1, 3) := by decide +kernel
theorem dX1_bringers_20 : decode cX1_bringers 20 = .ok (.goto (-16), 3) := by decide +kernel
theorem dX1_bringers_23 : decode cX1_bringers 23 = .ok (.iload_n 1, 1) := by decide +kernel
theorem dX1_bringers_24 : decode cX1_bringers 24 = .ok (.ireturn, 1) := by decide +kernel
theorem dX1_spoonsLeft_0 : decode cX1_spoonsLeft 0 = .ok (.iconst 0, 1) := by decide +kernel
theorem dX1_spoonsLeft_1 : decode cX1_spoonsLeft 1 = .ok (.istore_n 1, 1) := by decide +kernel
theorem dX1_spoonsLeft_2 : decode cX1_spoonsLeft 2 = .ok (.iconst 0, 1) := by decide +kernel
theorem dX1_spoonsLeft_3 : decode cX1_spoonsLeft 3 = .ok (.istore_n 2, 1) := by decide +kernel
theorem dX1_spoonsLeft_4 : decode cX1_spoonsLeft 4 = .ok (.iload_n 2, 1) := by decide +kernel
theorem dX1_spoonsLeft_5 : decode cX1_spoonsLeft 5 = .ok (.iconst 4, 1) := by decide +kernel
theorem dX1_spoonsLeft_6 : decode cX1_spoonsLeft 6 = .ok (.if_icmp .ge 18, 3) := by decide +kernel
theorem dX1_spoonsLeft_9 : decode cX1_spoonsLeft 9 = .ok (.iload_n 1, 1) := by decide +kernel
theorem dX1_spoonsLeft_10 : decode cX1_spoonsLeft 10 = .ok (.aload_n 0, 1) := by decide +kernel
theorem dX1_spoonsLeft_11 : decode cX1_spoonsLeft 11 = .ok (.getfield 22, 3) := by decide +kernel
theorem dX1_spoonsLeft_14 : decode cX1_spoonsLeft 14 = .ok (.iload_n 2, 1) := by decide +kernel
theorem dX1_spoonsLeft_15 : decode cX1_spoonsLeft 15 = .ok (.iaload, 1) := by decide +kernel
theorem dX1_spoonsLeft_16 : decode cX1_spoonsLeft 16 = .ok (.iadd, 1) := by decide +kernel
theorem dX1_spoonsLeft_17 : decode cX1_spoonsLeft 17 = .ok (.istore_n 1, 1) := by decide +kernel
theorem dX1_spoonsLeft_18 : decode cX1_spoonsLeft 18 = .ok (.iinc 2 1, 3) := by decide +kernel
theorem dX1_spoonsLeft_21 : decode cX1_spoonsLeft 21 = .ok (.goto (-17), 3) := by decide +kernel
theorem dX1_spoonsLeft_24 : decode cX1_spoonsLeft 24 = .ok (.iload_n 1, 1) := by decide +kernel
theorem dX1_spoonsLeft_25 : decode cX1_spoonsLeft 25 = .ok (.ireturn, 1) := by decide +kernel
theorem dX1_toldHealths_0 : decode cX1_toldHealths 0 = .ok (.iconst 0, 1) := by decide +kernel
theorem dX1_toldHealths_1 : decode cX1_toldHealths 1 = .ok (.istore_n 1, 1) := by decide +kernel
theorem dX1_toldHealths_2 : decode cX1_toldHealths 2 = .ok (.iconst 0, 1) := by decide +kernel
theorem dX1_toldHealths_3 : decode cX1_toldHealths 3 = .ok (.istore_n 2, 1) := by decide +kernel
theorem dX1_toldHealths_4 : decode cX1_toldHealths 4 = .ok (.iload_n 2, 1) := by decide +kernel
theorem dX1_toldHealths_5 : decode cX1_toldHealths 5 = .ok (.bipush 6, 2) := by decide +kernel
theorem dX1_toldHealths_7 : decode cX1_toldHealths 7 = .ok (.if_icmp .ge 21, 3) := by decide +kernel
theorem dX1_toldHealths_10 : decode cX1_toldHealths 10 = .ok (.aload_n 0, 1) := by decide +kernel
theorem dX1_toldHealths_11 : decode cX1_toldHealths 11 = .ok (.getfield 28, 3) := by decide +kernel
theorem dX1_toldHealths_14 : decode cX1_toldHealths 14 = .ok (.iload_n 2, 1) := by decide +kernel
theorem dX1_toldHealths_15 : decode cX1_toldHealths 15 = .ok (.iaload, 1) := by decide +kernel
theorem dX1_toldHealths_16 : decode cX1_toldHealths 16 = .ok (.ifCond .eq 6, 3) := by decide +kernel
theorem dX1_toldHealths_19 : decode cX1_toldHealths 19 = .ok (.iinc 1 1, 3) := by decide +kernel
theorem dX1_toldHealths_22 : decode cX1_toldHealths 22 = .ok (.iinc 2 1, 3) := by decide +kernel
theorem dX1_toldHealths_25 : decode cX1_toldHealths 25 = .ok (.goto (-21), 3) := by decide +kernel
theorem dX1_toldHealths_28 : decode cX1_toldHealths 28 = .ok (.iload_n 1, 1) := by decide +kernel
theorem dX1_toldHealths_29 : decode cX1_toldHealths 29 = .ok (.ireturn, 1) := by decide +kernel
set_option maxRecDepth 20000 in
theorem ggX2_init_X3_init : GoodIn wsX2_init wsX3_init := goodIn_r _ [21, 22, 2, 3, 23, 24, 25, 26, 10, 27, 28, 29, 30, 31, 32, 33, 34, 35, 36, 55, 48, 49, 50, 51, 52, 53, 54] (by decide +kernel) (by decide +kernel)
set_option maxRecDepth 20000 in
theorem gX2_init_X3_init_n17 : GoodIn wsX2_init (wsX3_init) := ggX2_init_X3_init
theorem dX2_init_0 : decode cX2_init 0 = .ok (.aload_n 0, 1) := by decide +kernel
theorem dX2_init_1 : decode cX2_init 1 = .ok (.invokespecial 3, 3) := by decide +kernel
theorem dX2_init_4 : decode cX2_init 4 = .ok (.aload_n 0, 1) := by decide +kernel
theorem dX2_init_5 : decode cX2_init 5 = .ok (.sipush 300, 3) := by decide +kernel
theorem dX2_init_8 : decode cX2_init 8 = .ok (.newarray .byte, 2) := by decide +kernel
theorem dX2_init_10 : decode cX2_init 10 = .ok (.putfield 9, 3) := by decide +kernel
theorem dX2_init_13 : decode cX2_init 13 = .ok (.aload_n 0, 1) := by decide +kernel
theorem dX2_init_14 : decode cX2_init 14 = .ok (.new 15, 3) := by decide +kernel
theorem dX2_init_17 : decode cX2_init 17 = .ok (.dup, 1) := by decide +kernel
theorem dX2_init_18 : decode cX2_init 18 = .ok (.invokespecial 17, 3) := by decide +kernel
theorem dX2_init_21 : decode cX2_init 21 = .ok (.putfield 18, 3) := by decide +kernel
theorem dX2_init_24 : decode cX2_init 24 = .ok (.aload_n 0, 1) := by decide +kernel
theorem dX2_init_25 : decode cX2_init 25 = .ok (.iconst 5, 1) := by decide +kernel
theorem dX2_init_26 : decode cX2_init 26 = .ok (.newarray .int, 2) := by decide +kernel
theorem dX2_init_28 : decode cX2_init 28 = .ok (.putfield 22, 3) := by decide +kernel
theorem dX2_init_31 : decode cX2_init 31 = .ok (.aload_n 0, 1) := by decide +kernel
theorem dX2_init_32 : decode cX2_init 32 = .ok (.iconst 0, 1) := by decide +kernel
theorem dX2_init_33 : decode cX2_init 33 = .ok (.putfield 26, 3) := by decide +kernel
theorem dX2_init_36 : decode cX2_init 36 = .ok (.aload_n 0, 1) := by decide +kernel
theorem dX2_init_37 : decode cX2_init 37 = .ok (.iconst 0, 1) := by decide +kernel
theorem dX2_init_38 : decode cX2_init 38 = .ok (.putfield 30, 3) := by decide +kernel
theorem dX2_init_41 : decode cX2_init 41 = .ok (.aload_n 0, 1) := by decide +kernel
theorem dX2_init_42 : decode cX2_init 42 = .ok (.iconst 0, 1) := by decide +kernel
theorem dX2_init_43 : decode cX2_init 43 = .ok (.putfield 33, 3) := by decide +kernel
theorem dX2_init_46 : decode cX2_init 46 = .ok (.aload_n 0, 1) := by decide +kernel
theorem dX2_init_47 : decode cX2_init 47 = .ok (.iconst 0, 1) := by decide +kernel
theorem dX2_init_48 : decode cX2_init 48 = .ok (.putfield 36, 3) := by decide +kernel
theorem dX2_init_51 : decode cX2_init 51 = .ok (.aload_n 0, 1) := by decide +kernel
theorem dX2_init_52 : decode cX2_init 52 = .ok (.iconst 0, 1) := by decide +kernel
theorem dX2_init_53 : decode cX2_init 53 = .ok (.putfield 39, 3) := by decide +kernel
theorem dX2_init_56 : decode cX2_init 56 = .ok (.aload_n 0, 1) := by decide +kernel
theorem dX2_init_57 : decode cX2_init 57 = .ok (.iconst 0, 1) := by decide +kernel
theorem dX2_init_58 : decode cX2_init 58 = .ok (.putfield 42, 3) := by decide +kernel
theorem dX2_init_61 : decode cX2_init 61 = .ok (.aload_n 0, 1) := by decide +kernel
theorem dX2_init_62 : decode cX2_init 62 = .ok (.iconst 0, 1) := by decide +kernel
theorem dX2_init_63 : decode cX2_init 63 = .ok (.putfield 45, 3) := by decide +kernel
theorem dX2_init_66 : decode cX2_init 66 = .ok (.aload_n 0, 1) := by decide +kernel
theorem dX2_init_67 : decode cX2_init 67 = .ok (.iconst 0, 1) := by decide +kernel
theorem dX2_init_68 : decode cX2_init 68 = .ok (.putfield 48, 3) := by decide +kernel
theorem dX2_init_71 : decode cX2_init 71 = .ok (.return_, 1) := by decide +kernel
theorem dX2_add_0 : decode cX2_add 0 = .ok (.bipush 8, 2) := by decide +kernel
theorem dX2_add_2 : decode cX2_add 2 = .ok (.iload_n 3, 1) := by decide +kernel
theorem dX2_add_3 : decode cX2_add 3 = .ok (.iconst 1, 1) := by decide +kernel
theorem dX2_add_4 : decode cX2_add 4 = .ok (.isub, 1) := by decide +kernel
theorem dX2_add_5 : decode cX2_add 5 = .ok (.imul, 1) := by decide +kernel
theorem dX2_add_6 : decode cX2_add 6 = .ok (.istore 4, 2) := by decide +kernel
theorem dX2_add_8 : decode cX2_add 8 = .ok (.iload 4, 2) := by decide +kernel
theorem dX2_add_10 : decode cX2_add 10 = .ok (.ifCond .lt 44, 3) := by decide +kernel
theorem dX2_add_13 : decode cX2_add 13 = .ok (.aload_n 0, 1) := by decide +kernel
theorem dX2_add_14 : decode cX2_add 14 = .ok (.getfield 26, 3) := by decide +kernel
theorem dX2_add_17 : decode cX2_add 17 = .ok (.sipush 300, 3) := by decide +kernel
theorem dX2_add_20 : decode cX2_add 20 = .ok (.if_icmp .ge 34, 3) := by decide +kernel
theorem dX2_add_23 : decode cX2_add 23 = .ok (.aload_n 0, 1) := by decide +kernel
theorem dX2_add_24 : decode cX2_add 24 = .ok (.getfield 9, 3) := by decide +kernel
theorem dX2_add_27 : decode cX2_add 27 = .ok (.aload_n 0, 1) := by decide +kernel
theorem dX2_add_28 : decode cX2_add 28 = .ok (.getfield 26, 3) := by decide +kernel
theorem dX2_add_31 : decode cX2_add 31 = .ok (.lload_n 1, 1) := by decide +kernel
theorem dX2_add_32 : decode cX2_add 32 = .ok (.iload 4, 2) := by decide +kernel
theorem dX2_add_34 : decode cX2_add 34 = .ok (.lshr, 1) := by decide +kernel
theorem dX2_add_35 : decode cX2_add 35 = .ok (.l2i, 1) := by decide +kernel
theorem dX2_add_36 : decode cX2_add 36 = .ok (.i2b, 1) := by decide +kernel
theorem dX2_add_37 : decode cX2_add 37 = .ok (.bastore, 1) := by decide +kernel
theorem dX2_add_38 : decode cX2_add 38 = .ok (.aload_n 0, 1) := by decide +kernel
theorem dX2_add_39 : decode cX2_add 39 = .ok (.dup, 1) := by decide +kernel
theorem dX2_add_40 : decode cX2_add 40 = .ok (.getfield 26, 3) := by decide +kernel
theorem dX2_add_43 : decode cX2_add 43 = .ok (.iconst 1, 1) := by decide +kernel
theorem dX2_add_44 : decode cX2_add 44 = .ok (.iadd, 1) := by decide +kernel
theorem dX2_add_45 : decode cX2_add 45 = .ok (.putfield 26, 3) := by decide +kernel
theorem dX2_add_48 : decode cX2_add 48 = .ok (.iinc 4 (-8), 3) := by decide +kernel
theorem dX2_add_51 : decode cX2_add 51 = .ok (.goto (-43), 3) := by decide +kernel
theorem dX2_add_54 : decode cX2_add 54 = .ok (.return_, 1) := by decide +kernel
set_option maxRecDepth 20000 in
theorem ggX2_read_X3_empty : GoodIn wsX2_read wsX3_empty := goodIn_r _ [10, 11, 12, 13, 14, 15, 16, 17, 18, 19, 20, 21, 22, 147, 148, 149, 150, 151, 152, 153, 154] (by decide +kernel) (by decide +kernel)
set_option maxRecDepth 20000 in
theorem gX2_read_X3_empty_n51 : GoodIn wsX2_read (wsX3_empty) := ggX2_read_X3_empty
set_option maxRecDepth 20000 in
theorem ggX2_read_X2_next : GoodIn wsX2_read wsX2_next := goodIn_r _ [27, 2, 28, 29, 6, 5, 30, 31, 26, 32, 33, 34, 35, 36, 37, 38, 39, 40, 41, 42, 43, 44, 45, 46, 47, 48, 49, 50, 51, 52, 53, 54, 55, 56, 57, 58, 59, 60, 61, 62, 63, 64, 65, 66, 67, 68, 69, 70, 71, 72, 73, 74, 75, 76, 77, 78, 79, 80, 81, 82, 83, 84, 85, 86, 87, 88, 89, 90, 91, 92, 93, 94, 95, 96, 97, 98, 99, 100, 101, 136, 137, 138, 139, 140, 141, 142, 143, 144, 145, 146] (by decide +kernel) (by decide +kernel)
set_option maxRecDepth 20000 in
theorem gX2_read_X2_next : GoodIn wsX2_read (wsV RX2 54 RX2 yX2_next wsX2_next) := goodIn_app (goodIn_of _ (by decide +kernel)) ggX2_read_X2_next
set_option maxRecDepth 20000 in
theorem ggX2_read_X2_canStand : GoodIn wsX2_read wsX2_canStand := goodIn_r _ [105, 3, 106, 107, 108, 109, 110, 26, 111, 5, 1, 4, 112, 113, 114, 115, 116, 117, 118, 97, 119, 120, 121, 122, 123, 124, 125, 126, 127, 8, 128, 129, 14, 11, 12, 130, 19, 131, 132, 22, 133, 134, 135, 13, 136, 137, 138, 139, 140, 141, 142, 143, 144, 145, 146, 147, 148, 149, 150, 151, 152, 153, 154] (by decide +kernel) (by decide +kernel)
set_option maxRecDepth 20000 in
theorem gX2_read_X2_canStand : GoodIn wsX2_read (wsV RX2 57 RX2 yX2_canStand wsX2_canStand) := goodIn_app (goodIn_of _ (by decide +kernel)) ggX2_read_X2_canStand
theorem dX2_read_0 : decode cX2_read 0 = .ok (.aload_n 0, 1) := by decide +kernel
theorem dX2_read_1 : decode cX2_read 1 = .ok (.getfield 18, 3) := by decide +kernel
theorem dX2_read_4 : decode cX2_read 4 = .ok (.invokevirtual 51, 3) := by decide +kernel
theorem dX2_read_7 : decode cX2_read 7 = .ok (.aload_n 0, 1) := by decide +kernel
theorem dX2_read_8 : decode cX2_read 8 = .ok (.iconst 0, 1) := by decide +kernel
theorem dX2_read_9 : decode cX2_read 9 = .ok (.putfield 30, 3) := by decide +kernel
theorem dX2_read_12 : decode cX2_read 12 = .ok (.aload_n 0, 1) := by decide +kernel
theorem dX2_read_13 : decode cX2_read 13 = .ok (.iconst 0, 1) := by decide +kernel
theorem dX2_read_14 : decode cX2_read 14 = .ok (.putfield 42, 3) := by decide +kernel
theorem dX2_read_17 : decode cX2_read 17 = .ok (.aload_n 0, 1) := by decide +kernel
theorem dX2_read_18 : decode cX2_read 18 = .ok (.iconst 0, 1) := by decide +kernel
theorem dX2_read_19 : decode cX2_read 19 = .ok (.putfield 48, 3) := by decide +kernel
theorem dX2_read_22 : decode cX2_read 22 = .ok (.iconst 0, 1) := by decide +kernel
theorem dX2_read_23 : decode cX2_read 23 = .ok (.istore_n 1, 1) := by decide +kernel
theorem dX2_read_24 : decode cX2_read 24 = .ok (.iconst 0, 1) := by decide +kernel
theorem dX2_read_25 : decode cX2_read 25 = .ok (.istore_n 2, 1) := by decide +kernel
theorem dX2_read_26 : decode cX2_read 26 = .ok (.iload_n 2, 1) := by decide +kernel
theorem dX2_read_27 : decode cX2_read 27 = .ok (.sipush 300, 3) := by decide +kernel
theorem dX2_read_30 : decode cX2_read 30 = .ok (.if_icmp .gt 55, 3) := by decide +kernel
theorem dX2_read_33 : decode cX2_read 33 = .ok (.aload_n 0, 1) := by decide +kernel
theorem dX2_read_34 : decode cX2_read 34 = .ok (.invokevirtual 54, 3) := by decide +kernel
theorem dX2_read_37 : decode cX2_read 37 = .ok (.aload_n 0, 1) := by decide +kernel
theorem dX2_read_38 : decode cX2_read 38 = .ok (.getfield 36, 3) := by decide +kernel
theorem dX2_read_41 : decode cX2_read 41 = .ok (.ifCond .ne 12, 3) := by decide +kernel
theorem dX2_read_44 : decode cX2_read 44 = .ok (.aload_n 0, 1) := by decide +kernel
theorem dX2_read_45 : decode cX2_read 45 = .ok (.getfield 42, 3) := by decide +kernel
theorem dX2_read_48 : decode cX2_read 48 = .ok (.ifCond .ne 5, 3) := by decide +kernel
theorem dX2_read_51 : decode cX2_read 51 = .ok (.iload_n 1, 1) := by decide +kernel
theorem dX2_read_52 : decode cX2_read 52 = .ok (.ireturn, 1) := by decide +kernel
theorem dX2_read_53 : decode cX2_read 53 = .ok (.aload_n 0, 1) := by decide +kernel
theorem dX2_read_54 : decode cX2_read 54 = .ok (.invokevirtual 57, 3) := by decide +kernel
theorem dX2_read_57 : decode cX2_read 57 = .ok (.ifCond .ne 11, 3) := by decide +kernel
theorem dX2_read_60 : decode cX2_read 60 = .ok (.bipush (-10), 2) := by decide +kernel
theorem dX2_read_62 : decode cX2_read 62 = .ok (.aload_n 0, 1) := by decide +kernel
theorem dX2_read_63 : decode cX2_read 63 = .ok (.getfield 33, 3) := by decide +kernel
theorem dX2_read_66 : decode cX2_read 66 = .ok (.isub, 1) := by decide +kernel
theorem dX2_read_67 : decode cX2_read 67 = .ok (.ireturn, 1) := by decide +kernel
theorem dX2_read_68 : decode cX2_read 68 = .ok (.aload_n 0, 1) := by decide +kernel
theorem dX2_read_69 : decode cX2_read 69 = .ok (.getfield 36, 3) := by decide +kernel
theorem dX2_read_72 : decode cX2_read 72 = .ok (.iconst 3, 1) := by decide +kernel
theorem dX2_read_73 : decode cX2_read 73 = .ok (.if_icmp .ne 6, 3) := by decide +kernel
theorem dX2_read_76 : decode cX2_read 76 = .ok (.iinc 1 1, 3) := by decide +kernel
theorem dX2_read_79 : decode cX2_read 79 = .ok (.iinc 2 1, 3) := by decide +kernel
theorem dX2_read_82 : decode cX2_read 82 = .ok (.goto (-56), 3) := by decide +kernel
theorem dX2_read_85 : decode cX2_read 85 = .ok (.bipush (-10), 2) := by decide +kernel
theorem dX2_read_87 : decode cX2_read 87 = .ok (.aload_n 0, 1) := by decide +kernel
theorem dX2_read_88 : decode cX2_read 88 = .ok (.getfield 33, 3) := by decide +kernel
theorem dX2_read_91 : decode cX2_read 91 = .ok (.isub, 1) := by decide +kernel
theorem dX2_read_92 : decode cX2_read 92 = .ok (.ireturn, 1) := by decide +kernel
set_option maxRecDepth 20000 in
theorem ggX2_canStand_X2_beginItem : GoodIn wsX2_canStand wsX2_beginItem := goodIn_r _ [8, 9, 10, 11, 1, 2, 44, 45, 46, 47, 48, 49, 50, 51, 52, 53, 54, 55, 56, 57, 58, 59, 60, 61] (by decide +kernel) (by decide +kernel)
set_option maxRecDepth 20000 in
theorem gX2_canStand_X2_beginItem : GoodIn wsX2_canStand (wsV RX2 61 RX2 yX2_beginItem wsX2_beginItem) := goodIn_app (goodIn_of _ (by decide +kernel)) ggX2_canStand_X2_beginItem
set_option maxRecDepth 20000 in
theorem ggX2_canStand_X2_numbersOf : GoodIn wsX2_canStand wsX2_numbersOf := goodIn_r _ [14] (by decide +kernel) (by decide +kernel)
set_option maxRecDepth 20000 in
theorem gX2_canStand_X2_numbersOf : GoodIn wsX2_canStand (va_wsS RX2 64 yX2_numbersOf wsX2_numbersOf) := goodIn_app (goodIn_of _ (by decide +kernel)) ggX2_canStand_X2_numbersOf
set_option maxRecDepth 20000 in
theorem ggX2_canStand_X2_takeNumber : GoodIn wsX2_canStand wsX2_takeNumber := goodIn_r _ [18, 1, 2, 9, 19, 3, 20, 21, 22, 7, 23, 10, 44, 45, 46, 47, 48, 49, 50, 51, 52, 53, 54, 55, 56, 57, 58, 59, 60, 61] (by decide +kernel) (by decide +kernel)
set_option maxRecDepth 20000 in
theorem gX2_canStand_X2_takeNumber : GoodIn wsX2_canStand (wsV RX2 68 RX2 yX2_takeNumber wsX2_takeNumber) := goodIn_app (goodIn_of _ (by decide +kernel)) ggX2_canStand_X2_takeNumber
set_option maxRecDepth 20000 in
theorem ggX2_canStand_X2_endItem : GoodIn wsX2_canStand wsX2_endItem := goodIn_r _ [27, 9, 1, 10, 3, 28, 29, 30, 31, 32, 33, 34, 35, 36, 37, 38, 39, 40, 41, 42, 43, 44, 45, 46, 47, 48, 49, 50, 51, 52, 53, 54, 55, 56, 57, 58, 59, 60, 61, 62] (by decide +kernel) (by decide +kernel)
set_option maxRecDepth 20000 in
theorem gX2_canStand_X2_endItem : GoodIn wsX2_canStand (wsV RX2 71 RX2 yX2_endItem wsX2_endItem) := goodIn_app (goodIn_of _ (by decide +kernel)) ggX2_canStand_X2_endItem
theorem dX2_canStand_0 : decode cX2_canStand 0 = .ok (.aload_n 0, 1) := by decide +kernel
theorem dX2_canStand_1 : decode cX2_canStand 1 = .ok (.getfield 42, 3) := by decide +kernel
theorem dX2_canStand_4 : decode cX2_canStand 4 = .ok (.ifCond .ne 8, 3) := by decide +kernel
theorem dX2_canStand_7 : decode cX2_canStand 7 = .ok (.aload_n 0, 1) := by decide +kernel
theorem dX2_canStand_8 : decode cX2_canStand 8 = .ok (.invokevirtual 61, 3) := by decide +kernel
theorem dX2_canStand_11 : decode cX2_canStand 11 = .ok (.ireturn, 1) := by decide +kernel
theorem dX2_canStand_12 : decode cX2_canStand 12 = .ok (.aload_n 0, 1) := by decide +kernel
theorem dX2_canStand_13 : decode cX2_canStand 13 = .ok (.getfield 45, 3) := by decide +kernel
theorem dX2_canStand_16 : decode cX2_canStand 16 = .ok (.aload_n 0, 1) := by decide +kernel
theorem dX2_canStand_17 : decode cX2_canStand 17 = .ok (.getfield 42, 3) := by decide +kernel
theorem dX2_canStand_20 : decode cX2_canStand 20 = .ok (.invokestatic 64, 3) := by decide +kernel
theorem dX2_canStand_23 : decode cX2_canStand 23 = .ok (.if_icmp .ge 20, 3) := by decide +kernel
theorem dX2_canStand_26 : decode cX2_canStand 26 = .ok (.aload_n 0, 1) := by decide +kernel
theorem dX2_canStand_27 : decode cX2_canStand 27 = .ok (.getfield 45, 3) := by decide +kernel
theorem dX2_canStand_30 : decode cX2_canStand 30 = .ok (.aload_n 0, 1) := by decide +kernel
theorem dX2_canStand_31 : decode cX2_canStand 31 = .ok (.getfield 22, 3) := by decide +kernel
theorem dX2_canStand_34 : decode cX2_canStand 34 = .ok (.arraylength, 1) := by decide +kernel
theorem dX2_canStand_35 : decode cX2_canStand 35 = .ok (.if_icmp .ge 8, 3) := by decide +kernel
theorem dX2_canStand_38 : decode cX2_canStand 38 = .ok (.aload_n 0, 1) := by decide +kernel
theorem dX2_canStand_39 : decode cX2_canStand 39 = .ok (.invokevirtual 68, 3) := by decide +kernel
theorem dX2_canStand_42 : decode cX2_canStand 42 = .ok (.ireturn, 1) := by decide +kernel
theorem dX2_canStand_43 : decode cX2_canStand 43 = .ok (.aload_n 0, 1) := by decide +kernel
theorem dX2_canStand_44 : decode cX2_canStand 44 = .ok (.invokevirtual 71, 3) := by decide +kernel
theorem dX2_canStand_47 : decode cX2_canStand 47 = .ok (.ireturn, 1) := by decide +kernel
theorem dX2_beginItem_0 : decode cX2_beginItem 0 = .ok (.aload_n 0, 1) := by decide +kernel
theorem dX2_beginItem_1 : decode cX2_beginItem 1 = .ok (.getfield 36, 3) := by decide +kernel
theorem dX2_beginItem_4 : decode cX2_beginItem 4 = .ok (.bipush 6, 2) := by decide +kernel
theorem dX2_beginItem_6 : decode cX2_beginItem 6 = .ok (.if_icmp .eq 21, 3) := by decide +kernel
theorem dX2_beginItem_9 : decode cX2_beginItem 9 = .ok (.aload_n 0, 1) := by decide +kernel
theorem dX2_beginItem_10 : decode cX2_beginItem 10 = .ok (.getfield 36, 3) := by decide +kernel
theorem dX2_beginItem_13 : decode cX2_beginItem 13 = .ok (.bipush 7, 2) := by decide +kernel
theorem dX2_beginItem_15 : decode cX2_beginItem 15 = .ok (.if_icmp .eq 12, 3) := by decide +kernel
theorem dX2_beginItem_18 : decode cX2_beginItem 18 = .ok (.aload_n 0, 1) := by decide +kernel
theorem dX2_beginItem_19 : decode cX2_beginItem 19 = .ok (.getfield 36, 3) := by decide +kernel
theorem dX2_beginItem_22 : decode cX2_beginItem 22 = .ok (.bipush 8, 2) := by decide +kernel
theorem dX2_beginItem_24 : decode cX2_beginItem 24 = .ok (.if_icmp .ne 7, 3) := by decide +kernel
theorem dX2_beginItem_27 : decode cX2_beginItem 27 = .ok (.iconst 1, 1) := by decide +kernel
theorem dX2_beginItem_28 : decode cX2_beginItem 28 = .ok (.goto 4, 3) := by decide +kernel
theorem dX2_beginItem_31 : decode cX2_beginItem 31 = .ok (.iconst 0, 1) := by decide +kernel
theorem dX2_beginItem_32 : decode cX2_beginItem 32 = .ok (.istore_n 1, 1) := by decide +kernel
theorem dX2_beginItem_33 : decode cX2_beginItem 33 = .ok (.aload_n 0, 1) := by decide +kernel
theorem dX2_beginItem_34 : decode cX2_beginItem 34 = .ok (.getfield 36, 3) := by decide +kernel
theorem dX2_beginItem_37 : decode cX2_beginItem 37 = .ok (.iconst 4, 1) := by decide +kernel
theorem dX2_beginItem_38 : decode cX2_beginItem 38 = .ok (.if_icmp .ne 15, 3) := by decide +kernel
theorem dX2_beginItem_41 : decode cX2_beginItem 41 = .ok (.aload_n 0, 1) := by decide +kernel
theorem dX2_beginItem_42 : decode cX2_beginItem 42 = .ok (.getfield 18, 3) := by decide +kernel
theorem dX2_beginItem_45 : decode cX2_beginItem 45 = .ok (.getfield 74, 3) := by decide +kernel
theorem dX2_beginItem_48 : decode cX2_beginItem 48 = .ok (.bipush 6, 2) := by decide +kernel
theorem dX2_beginItem_50 : decode cX2_beginItem 50 = .ok (.if_icmp .lt 29, 3) := by decide +kernel
theorem dX2_beginItem_53 : decode cX2_beginItem 53 = .ok (.aload_n 0, 1) := by decide +kernel
theorem dX2_beginItem_54 : decode cX2_beginItem 54 = .ok (.getfield 36, 3) := by decide +kernel
theorem dX2_beginItem_57 : decode cX2_beginItem 57 = .ok (.iconst 5, 1) := by decide +kernel
theorem dX2_beginItem_58 : decode cX2_beginItem 58 = .ok (.if_icmp .eq 21, 3) := by decide +kernel
theorem dX2_beginItem_61 : decode cX2_beginItem 61 = .ok (.iload_n 1, 1) := by decide +kernel
theorem dX2_beginItem_62 : decode cX2_beginItem 62 = .ok (.ifCond .eq 47, 3) := by decide +kernel
theorem dX2_beginItem_65 : decode cX2_beginItem 65 = .ok (.aload_n 0, 1) := by decide +kernel
theorem dX2_beginItem_66 : decode cX2_beginItem 66 = .ok (.getfield 48, 3) := by decide +kernel
theorem dX2_beginItem_69 : decode cX2_beginItem 69 = .ok (.aload_n 0, 1) := by decide +kernel
theorem dX2_beginItem_70 : decode cX2_beginItem 70 = .ok (.getfield 36, 3) := by decide +kernel
theorem dX2_beginItem_73 : decode cX2_beginItem 73 = .ok (.ishr, 1) := by decide +kernel
theorem dX2_beginItem_74 : decode cX2_beginItem 74 = .ok (.iconst 1, 1) := by decide +kernel
theorem dX2_beginItem_75 : decode cX2_beginItem 75 = .ok (.iand, 1) := by decide +kernel
theorem dX2_beginItem_76 : decode cX2_beginItem 76 = .ok (.ifCond .ne 33, 3) := by decide +kernel
theorem dX2_beginItem_79 : decode cX2_beginItem 79 = .ok (.aload_n 0, 1) := by decide +kernel
theorem dX2_beginItem_80 : decode cX2_beginItem 80 = .ok (.dup, 1) := by decide +kernel
theorem dX2_beginItem_81 : decode cX2_beginItem 81 = .ok (.getfield 48, 3) := by decide +kernel
theorem dX2_beginItem_84 : decode cX2_beginItem 84 = .ok (.iconst 1, 1) := by decide +kernel
theorem dX2_beginItem_85 : decode cX2_beginItem 85 = .ok (.aload_n 0, 1) := by decide +kernel
theorem dX2_beginItem_86 : decode cX2_beginItem 86 = .ok (.getfield 36, 3) := by decide +kernel
theorem dX2_beginItem_89 : decode cX2_beginItem 89 = .ok (.ishl, 1) := by decide +kernel
theorem dX2_beginItem_90 : decode cX2_beginItem 90 = .ok (.ior, 1) := by decide +kernel
theorem dX2_beginItem_91 : decode cX2_beginItem 91 = .ok (.putfield 48, 3) := by decide +kernel
theorem dX2_beginItem_94 : decode cX2_beginItem 94 = .ok (.aload_n 0, 1) := by decide +kernel
theorem dX2_beginItem_95 : decode cX2_beginItem 95 = .ok (.aload_n 0, 1) := by decide +kernel
theorem dX2_beginItem_96 : decode cX2_beginItem 96 = .ok (.getfield 36, 3) := by decide +kernel
theorem dX2_beginItem_99 : decode cX2_beginItem 99 = .ok (.putfield 42, 3) := by decide +kernel
theorem dX2_beginItem_102 : decode cX2_beginItem 102 = .ok (.aload_n 0, 1) := by decide +kernel
theorem dX2_beginItem_103 : decode cX2_beginItem 103 = .ok (.iconst 0, 1) := by decide +kernel
theorem dX2_beginItem_104 : decode cX2_beginItem 104 = .ok (.putfield 45, 3) := by decide +kernel
theorem dX2_beginItem_107 : decode cX2_beginItem 107 = .ok (.iconst 1, 1) := by decide +kernel
theorem dX2_beginItem_108 : decode cX2_beginItem 108 = .ok (.ireturn, 1) := by decide +kernel
theorem dX2_beginItem_109 : decode cX2_beginItem 109 = .ok (.iconst 0, 1) := by decide +kernel
theorem dX2_beginItem_110 : decode cX2_beginItem 110 = .ok (.ireturn, 1) := by decide +kernel
set_option maxRecDepth 20000 in
theorem ggX2_takeNumber_X2_greatestNumber : GoodIn wsX2_takeNumber wsX2_greatestNumber := goodIn_r _ [10, 1, 2, 11, 12, 13, 14, 15, 16, 17, 18, 19, 20, 21, 22, 23, 24, 25, 26, 27, 28, 29] (by decide +kernel) (by decide +kernel)
set_option maxRecDepth 20000 in
theorem gX2_takeNumber_X2_greatestNumber : GoodIn wsX2_takeNumber (wsV RX2 77 RX2 yX2_greatestNumber wsX2_greatestNumber) := goodIn_app (goodIn_of _ (by decide +kernel)) ggX2_takeNumber_X2_greatestNumber
theorem dX2_takeNumber_0 : decode cX2_takeNumber 0 = .ok (.aload_n 0, 1) := by decide +kernel
theorem dX2_takeNumber_1 : decode cX2_takeNumber 1 = .ok (.getfield 42, 3) := by decide +kernel
theorem dX2_takeNumber_4 : decode cX2_takeNumber 4 = .ok (.iconst 4, 1) := by decide +kernel
theorem dX2_takeNumber_5 : decode cX2_takeNumber 5 = .ok (.if_icmp .ne 15, 3) := by decide +kernel
theorem dX2_takeNumber_8 : decode cX2_takeNumber 8 = .ok (.aload_n 0, 1) := by decide +kernel
theorem dX2_takeNumber_9 : decode cX2_takeNumber 9 = .ok (.getfield 45, 3) := by decide +kernel
theorem dX2_takeNumber_12 : decode cX2_takeNumber 12 = .ok (.iconst 4, 1) := by decide +kernel
theorem dX2_takeNumber_13 : decode cX2_takeNumber 13 = .ok (.if_icmp .ne 7, 3) := by decide +kernel
theorem dX2_takeNumber_16 : decode cX2_takeNumber 16 = .ok (.iconst 1, 1) := by decide +kernel
theorem dX2_takeNumber_17 : decode cX2_takeNumber 17 = .ok (.goto 4, 3) := by decide +kernel
theorem dX2_takeNumber_20 : decode cX2_takeNumber 20 = .ok (.iconst 0, 1) := by decide +kernel
theorem dX2_takeNumber_21 : decode cX2_takeNumber 21 = .ok (.istore_n 1, 1) := by decide +kernel
theorem dX2_takeNumber_22 : decode cX2_takeNumber 22 = .ok (.aload_n 0, 1) := by decide +kernel
theorem dX2_takeNumber_23 : decode cX2_takeNumber 23 = .ok (.getfield 36, 3) := by decide +kernel
theorem dX2_takeNumber_26 : decode cX2_takeNumber 26 = .ok (.iconst 2, 1) := by decide +kernel
theorem dX2_takeNumber_27 : decode cX2_takeNumber 27 = .ok (.if_icmp .ne 22, 3) := by decide +kernel
theorem dX2_takeNumber_30 : decode cX2_takeNumber 30 = .ok (.aload_n 0, 1) := by decide +kernel
theorem dX2_takeNumber_31 : decode cX2_takeNumber 31 = .ok (.getfield 39, 3) := by decide +kernel
theorem dX2_takeNumber_34 : decode cX2_takeNumber 34 = .ok (.iload_n 1, 1) := by decide +kernel
theorem dX2_takeNumber_35 : decode cX2_takeNumber 35 = .ok (.if_icmp .lt 14, 3) := by decide +kernel
theorem dX2_takeNumber_38 : decode cX2_takeNumber 38 = .ok (.aload_n 0, 1) := by decide +kernel
theorem dX2_takeNumber_39 : decode cX2_takeNumber 39 = .ok (.getfield 39, 3) := by decide +kernel
theorem dX2_takeNumber_42 : decode cX2_takeNumber 42 = .ok (.aload_n 0, 1) := by decide +kernel
theorem dX2_takeNumber_43 : decode cX2_takeNumber 43 = .ok (.invokevirtual 77, 3) := by decide +kernel
theorem dX2_takeNumber_46 : decode cX2_takeNumber 46 = .ok (.if_icmp .le 5, 3) := by decide +kernel
theorem dX2_takeNumber_49 : decode cX2_takeNumber 49 = .ok (.iconst 0, 1) := by decide +kernel
theorem dX2_takeNumber_50 : decode cX2_takeNumber 50 = .ok (.ireturn, 1) := by decide +kernel
theorem dX2_takeNumber_51 : decode cX2_takeNumber 51 = .ok (.aload_n 0, 1) := by decide +kernel
theorem dX2_takeNumber_52 : decode cX2_takeNumber 52 = .ok (.getfield 22, 3) := by decide +kernel
theorem dX2_takeNumber_55 : decode cX2_takeNumber 55 = .ok (.aload_n 0, 1) := by decide +kernel
theorem dX2_takeNumber_56 : decode cX2_takeNumber 56 = .ok (.getfield 45, 3) := by decide +kernel
theorem dX2_takeNumber_59 : decode cX2_takeNumber 59 = .ok (.aload_n 0, 1) := by decide +kernel
theorem dX2_takeNumber_60 : decode cX2_takeNumber 60 = .ok (.getfield 39, 3) := by decide +kernel
theorem dX2_takeNumber_63 : decode cX2_takeNumber 63 = .ok (.iastore, 1) := by decide +kernel
theorem dX2_takeNumber_64 : decode cX2_takeNumber 64 = .ok (.aload_n 0, 1) := by decide +kernel
theorem dX2_takeNumber_65 : decode cX2_takeNumber 65 = .ok (.dup, 1) := by decide +kernel
theorem dX2_takeNumber_66 : decode cX2_takeNumber 66 = .ok (.getfield 45, 3) := by decide +kernel
theorem dX2_takeNumber_69 : decode cX2_takeNumber 69 = .ok (.iconst 1, 1) := by decide +kernel
theorem dX2_takeNumber_70 : decode cX2_takeNumber 70 = .ok (.iadd, 1) := by decide +kernel
theorem dX2_takeNumber_71 : decode cX2_takeNumber 71 = .ok (.putfield 45, 3) := by decide +kernel
theorem dX2_takeNumber_74 : decode cX2_takeNumber 74 = .ok (.iconst 1, 1) := by decide +kernel
theorem dX2_takeNumber_75 : decode cX2_takeNumber 75 = .ok (.ireturn, 1) := by decide +kernel
set_option maxRecDepth 20000 in
theorem ggX2_endItem_X3_addHouse : GoodIn wsX2_endItem wsX3_addHouse := goodIn_r _ [8, 9, 10, 11, 12, 13, 14, 15, 16, 32, 33, 34, 35, 36, 37, 38, 39] (by decide +kernel) (by decide +kernel)
set_option maxRecDepth 20000 in
theorem gX2_endItem_X3_addHouse_n81 : GoodIn wsX2_endItem (wsX3_addHouse) := ggX2_endItem_X3_addHouse
set_option maxRecDepth 20000 in
theorem ggX2_endItem_X3_bar : GoodIn wsX2_endItem wsX3_bar := goodIn_r _ [19, 20, 32, 33, 34, 35, 36, 37, 38] (by decide +kernel) (by decide +kernel)
set_option maxRecDepth 20000 in
theorem gX2_endItem_X3_bar_n85 : GoodIn wsX2_endItem (wsX3_bar) := ggX2_endItem_X3_bar
theorem dX2_endItem_0 : decode cX2_endItem 0 = .ok (.aload_n 0, 1) := by decide +kernel
theorem dX2_endItem_1 : decode cX2_endItem 1 = .ok (.getfield 36, 3) := by decide +kernel
theorem dX2_endItem_4 : decode cX2_endItem 4 = .ok (.iconst 3, 1) := by decide +kernel
theorem dX2_endItem_5 : decode cX2_endItem 5 = .ok (.if_icmp .eq 5, 3) := by decide +kernel
theorem dX2_endItem_8 : decode cX2_endItem 8 = .ok (.iconst 0, 1) := by decide +kernel
theorem dX2_endItem_9 : decode cX2_endItem 9 = .ok (.ireturn, 1) := by decide +kernel
theorem dX2_endItem_10 : decode cX2_endItem 10 = .ok (.aload_n 0, 1) := by decide +kernel
theorem dX2_endItem_11 : decode cX2_endItem 11 = .ok (.getfield 42, 3) := by decide +kernel
theorem dX2_endItem_14 : decode cX2_endItem 14 = .ok (.tableswitch 98 4 7 #[30, 44, 66, 82], 30) := by decide +kernel
theorem dX2_endItem_44 : decode cX2_endItem 44 = .ok (.aload_n 0, 1) := by decide +kernel
theorem dX2_endItem_45 : decode cX2_endItem 45 = .ok (.getfield 18, 3) := by decide +kernel
theorem dX2_endItem_48 : decode cX2_endItem 48 = .ok (.aload_n 0, 1) := by decide +kernel
theorem dX2_endItem_49 : decode cX2_endItem 49 = .ok (.getfield 22, 3) := by decide +kernel
theorem dX2_endItem_52 : decode cX2_endItem 52 = .ok (.invokevirtual 81, 3) := by decide +kernel
theorem dX2_endItem_55 : decode cX2_endItem 55 = .ok (.goto 70, 3) := by decide +kernel
theorem dX2_endItem_58 : decode cX2_endItem 58 = .ok (.aload_n 0, 1) := by decide +kernel
theorem dX2_endItem_59 : decode cX2_endItem 59 = .ok (.getfield 18, 3) := by decide +kernel
theorem dX2_endItem_62 : decode cX2_endItem 62 = .ok (.aload_n 0, 1) := by decide +kernel
theorem dX2_endItem_63 : decode cX2_endItem 63 = .ok (.getfield 22, 3) := by decide +kernel
theorem dX2_endItem_66 : decode cX2_endItem 66 = .ok (.iconst 0, 1) := by decide +kernel
theorem dX2_endItem_67 : decode cX2_endItem 67 = .ok (.iaload, 1) := by decide +kernel
theorem dX2_endItem_68 : decode cX2_endItem 68 = .ok (.aload_n 0, 1) := by decide +kernel
theorem dX2_endItem_69 : decode cX2_endItem 69 = .ok (.getfield 22, 3) := by decide +kernel
theorem dX2_endItem_72 : decode cX2_endItem 72 = .ok (.iconst 1, 1) := by decide +kernel
theorem dX2_endItem_73 : decode cX2_endItem 73 = .ok (.iaload, 1) := by decide +kernel
theorem dX2_endItem_74 : decode cX2_endItem 74 = .ok (.invokevirtual 85, 3) := by decide +kernel
theorem dX2_endItem_77 : decode cX2_endItem 77 = .ok (.goto 48, 3) := by decide +kernel
theorem dX2_endItem_80 : decode cX2_endItem 80 = .ok (.aload_n 0, 1) := by decide +kernel
theorem dX2_endItem_81 : decode cX2_endItem 81 = .ok (.getfield 18, 3) := by decide +kernel
theorem dX2_endItem_84 : decode cX2_endItem 84 = .ok (.aload_n 0, 1) := by decide +kernel
theorem dX2_endItem_85 : decode cX2_endItem 85 = .ok (.getfield 22, 3) := by decide +kernel
theorem dX2_endItem_88 : decode cX2_endItem 88 = .ok (.iconst 0, 1) := by decide +kernel
theorem dX2_endItem_89 : decode cX2_endItem 89 = .ok (.iaload, 1) := by decide +kernel
theorem dX2_endItem_90 : decode cX2_endItem 90 = .ok (.putfield 89, 3) := by decide +kernel
theorem dX2_endItem_93 : decode cX2_endItem 93 = .ok (.goto 32, 3) := by decide +kernel
theorem dX2_endItem_96 : decode cX2_endItem 96 = .ok (.aload_n 0, 1) := by decide +kernel
theorem dX2_endItem_97 : decode cX2_endItem 97 = .ok (.getfield 18, 3) := by decide +kernel
theorem dX2_endItem_100 : decode cX2_endItem 100 = .ok (.aload_n 0, 1) := by decide +kernel
theorem dX2_endItem_101 : decode cX2_endItem 101 = .ok (.getfield 22, 3) := by decide +kernel
theorem dX2_endItem_104 : decode cX2_endItem 104 = .ok (.iconst 0, 1) := by decide +kernel
theorem dX2_endItem_105 : decode cX2_endItem 105 = .ok (.iaload, 1) := by decide +kernel
theorem dX2_endItem_106 : decode cX2_endItem 106 = .ok (.putfield 92, 3) := by decide +kernel
theorem dX2_endItem_109 : decode cX2_endItem 109 = .ok (.goto 16, 3) := by decide +kernel
theorem dX2_endItem_112 : decode cX2_endItem 112 = .ok (.aload_n 0, 1) := by decide +kernel
theorem dX2_endItem_113 : decode cX2_endItem 113 = .ok (.getfield 18, 3) := by decide +kernel
theorem dX2_endItem_116 : decode cX2_endItem 116 = .ok (.aload_n 0, 1) := by decide +kernel
theorem dX2_endItem_117 : decode cX2_endItem 117 = .ok (.getfield 22, 3) := by decide +kernel
theorem dX2_endItem_120 : decode cX2_endItem 120 = .ok (.iconst 0, 1) := by decide +kernel
theorem dX2_endItem_121 : decode cX2_endItem 121 = .ok (.iaload, 1) := by decide +kernel
theorem dX2_endItem_122 : decode cX2_endItem 122 = .ok (.putfield 95, 3) := by decide +kernel
theorem dX2_endItem_125 : decode cX2_endItem 125 = .ok (.aload_n 0, 1) := by decide +kernel
theorem dX2_endItem_126 : decode cX2_endItem 126 = .ok (.iconst 0, 1) := by decide +kernel
theorem dX2_endItem_127 : decode cX2_endItem 127 = .ok (.putfield 42, 3) := by decide +kernel
theorem dX2_endItem_130 : decode cX2_endItem 130 = .ok (.iconst 1, 1) := by decide +kernel
theorem dX2_endItem_131 : decode cX2_endItem 131 = .ok (.ireturn, 1) := by decide +kernel
theorem dX2_numbersOf_0 : decode cX2_numbersOf 0 = .ok (.iload_n 0, 1) := by decide +kernel
theorem dX2_numbersOf_1 : decode cX2_numbersOf 1 = .ok (.lookupswitch 31 #[(4, 27), (5, 29)], 27) := by decide +kernel
theorem dX2_numbersOf_28 : decode cX2_numbersOf 28 = .ok (.iconst 5, 1) := by decide +kernel
theorem dX2_numbersOf_29 : decode cX2_numbersOf 29 = .ok (.ireturn, 1) := by decide +kernel
theorem dX2_numbersOf_30 : decode cX2_numbersOf 30 = .ok (.iconst 2, 1) := by decide +kernel
theorem dX2_numbersOf_31 : decode cX2_numbersOf 31 = .ok (.ireturn, 1) := by decide +kernel
theorem dX2_numbersOf_32 : decode cX2_numbersOf 32 = .ok (.iconst 1, 1) := by decide +kernel
theorem dX2_numbersOf_33 : decode cX2_numbersOf 33 = .ok (.ireturn, 1) := by decide +kernel
theorem dX2_greatestNumber_0 : decode cX2_greatestNumber 0 = .ok (.aload_n 0, 1) := by decide +kernel
theorem dX2_greatestNumber_1 : decode cX2_greatestNumber 1 = .ok (.getfield 42, 3) := by decide +kernel
theorem dX2_greatestNumber_4 : decode cX2_greatestNumber 4 = .ok (.lookupswitch 51 #[(5, 28), (6, 49)], 28) := by decide +kernel
theorem dX2_greatestNumber_32 : decode cX2_greatestNumber 32 = .ok (.aload_n 0, 1) := by decide +kernel
theorem dX2_greatestNumber_33 : decode cX2_greatestNumber 33 = .ok (.getfield 45, 3) := by decide +kernel
theorem dX2_greatestNumber_36 : decode cX2_greatestNumber 36 = .ok (.ifCond .ne 15, 3) := by decide +kernel
theorem dX2_greatestNumber_39 : decode cX2_greatestNumber 39 = .ok (.aload_n 0, 1) := by decide +kernel
theorem dX2_greatestNumber_40 : decode cX2_greatestNumber 40 = .ok (.getfield 18, 3) := by decide +kernel
theorem dX2_greatestNumber_43 : decode cX2_greatestNumber 43 = .ok (.getfield 74, 3) := by decide +kernel
theorem dX2_greatestNumber_46 : decode cX2_greatestNumber 46 = .ok (.iconst 1, 1) := by decide +kernel
theorem dX2_greatestNumber_47 : decode cX2_greatestNumber 47 = .ok (.isub, 1) := by decide +kernel
theorem dX2_greatestNumber_48 : decode cX2_greatestNumber 48 = .ok (.goto 4, 3) := by decide +kernel
theorem dX2_greatestNumber_51 : decode cX2_greatestNumber 51 = .ok (.iconst 3, 1) := by decide +kernel
theorem dX2_greatestNumber_52 : decode cX2_greatestNumber 52 = .ok (.ireturn, 1) := by decide +kernel
theorem dX2_greatestNumber_53 : decode cX2_greatestNumber 53 = .ok (.iconst 2, 1) := by decide +kernel
theorem dX2_greatestNumber_54 : decode cX2_greatestNumber 54 = .ok (.ireturn, 1) := by decide +kernel
theorem dX2_greatestNumber_55 : decode cX2_greatestNumber 55 = .ok (.bipush 9, 2) := by decide +kernel
theorem dX2_greatestNumber_57 : decode cX2_greatestNumber 57 = .ok (.ireturn, 1) := by decide +kernel
set_option maxRecDepth 20000 in
theorem ggX2_next_X2_isLetter : GoodIn wsX2_next wsX2_isLetter := goodIn_r _ [9] (by decide +kernel) (by decide +kernel)
set_option maxRecDepth 20000 in
theorem gX2_next_X2_isLetter : GoodIn wsX2_next (va_wsS RX2 98 yX2_isLetter wsX2_isLetter) := goodIn_app (goodIn_of _ (by decide +kernel)) ggX2_next_X2_isLetter
set_option maxRecDepth 20000 in
theorem ggX2_next_X2_nextWord : GoodIn wsX2_next wsX2_nextWord := goodIn_r _ [13, 1, 2, 3, 5, 6, 7, 8, 9, 14, 15, 16, 17, 4, 18, 19, 20, 21, 22, 23, 24, 25, 26, 27, 28, 29, 30, 31, 32, 33, 34, 35, 36, 37, 38, 39, 40, 41, 42, 43, 44, 45, 46, 47, 48, 49, 50, 51, 52, 53, 54, 55, 56, 57, 58, 59, 60, 61, 62, 63, 64, 65, 66, 79, 80, 81, 82, 83, 84, 85, 86, 87, 88, 89] (by decide +kernel) (by decide +kernel)
set_option maxRecDepth 20000 in
theorem gX2_next_X2_nextWord : GoodIn wsX2_next (wsV RX2 102 RX2 yX2_nextWord wsX2_nextWord) := goodIn_app (goodIn_of _ (by decide +kernel)) ggX2_next_X2_nextWord
set_option maxRecDepth 20000 in
theorem ggX2_next_X2_isDigit : GoodIn wsX2_next wsX2_isDigit := goodIn_r _ [69] (by decide +kernel) (by decide +kernel)
set_option maxRecDepth 20000 in
theorem gX2_next_X2_isDigit : GoodIn wsX2_next (va_wsS RX2 105 yX2_isDigit wsX2_isDigit) := goodIn_app (goodIn_of _ (by decide +kernel)) ggX2_next_X2_isDigit
set_option maxRecDepth 20000 in
theorem ggX2_next_X2_nextNumber : GoodIn wsX2_next wsX2_nextNumber := goodIn_r _ [73, 74, 1, 2, 3, 75, 76, 77, 78, 4, 5, 67, 68, 8, 69, 79, 80, 81, 82, 83, 84, 85, 86, 87, 88, 89] (by decide +kernel) (by decide +kernel)
set_option maxRecDepth 20000 in
theorem gX2_next_X2_nextNumber : GoodIn wsX2_next (wsV RX2 108 RX2 yX2_nextNumber wsX2_nextNumber) := goodIn_app (goodIn_of _ (by decide +kernel)) ggX2_next_X2_nextNumber
theorem dX2_next_0 : decode cX2_next 0 = .ok (.aload_n 0, 1) := by decide +kernel
theorem dX2_next_1 : decode cX2_next 1 = .ok (.getfield 30, 3) := by decide +kernel
theorem dX2_next_4 : decode cX2_next 4 = .ok (.aload_n 0, 1) := by decide +kernel
theorem dX2_next_5 : decode cX2_next 5 = .ok (.getfield 26, 3) := by decide +kernel
theorem dX2_next_8 : decode cX2_next 8 = .ok (.if_icmp .ge 30, 3) := by decide +kernel
theorem dX2_next_11 : decode cX2_next 11 = .ok (.aload_n 0, 1) := by decide +kernel
theorem dX2_next_12 : decode cX2_next 12 = .ok (.getfield 9, 3) := by decide +kernel
theorem dX2_next_15 : decode cX2_next 15 = .ok (.aload_n 0, 1) := by decide +kernel
theorem dX2_next_16 : decode cX2_next 16 = .ok (.getfield 30, 3) := by decide +kernel
theorem dX2_next_19 : decode cX2_next 19 = .ok (.baload, 1) := by decide +kernel
theorem dX2_next_20 : decode cX2_next 20 = .ok (.bipush 32, 2) := by decide +kernel
theorem dX2_next_22 : decode cX2_next 22 = .ok (.if_icmp .ne 16, 3) := by decide +kernel
theorem dX2_next_25 : decode cX2_next 25 = .ok (.aload_n 0, 1) := by decide +kernel
theorem dX2_next_26 : decode cX2_next 26 = .ok (.dup, 1) := by decide +kernel
theorem dX2_next_27 : decode cX2_next 27 = .ok (.getfield 30, 3) := by decide +kernel
theorem dX2_next_30 : decode cX2_next 30 = .ok (.iconst 1, 1) := by decide +kernel
theorem dX2_next_31 : decode cX2_next 31 = .ok (.iadd, 1) := by decide +kernel
theorem dX2_next_32 : decode cX2_next 32 = .ok (.putfield 30, 3) := by decide +kernel
theorem dX2_next_35 : decode cX2_next 35 = .ok (.goto (-35), 3) := by decide +kernel
theorem dX2_next_38 : decode cX2_next 38 = .ok (.aload_n 0, 1) := by decide +kernel
theorem dX2_next_39 : decode cX2_next 39 = .ok (.aload_n 0, 1) := by decide +kernel
theorem dX2_next_40 : decode cX2_next 40 = .ok (.getfield 30, 3) := by decide +kernel
theorem dX2_next_43 : decode cX2_next 43 = .ok (.putfield 33, 3) := by decide +kernel
theorem dX2_next_46 : decode cX2_next 46 = .ok (.aload_n 0, 1) := by decide +kernel
theorem dX2_next_47 : decode cX2_next 47 = .ok (.getfield 30, 3) := by decide +kernel
theorem dX2_next_50 : decode cX2_next 50 = .ok (.aload_n 0, 1) := by decide +kernel
theorem dX2_next_51 : decode cX2_next 51 = .ok (.getfield 26, 3) := by decide +kernel
