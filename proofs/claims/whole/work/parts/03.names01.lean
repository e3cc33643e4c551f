theorem dX0_init_0 : decode cX0_init 0 = .ok (.aload_n 0, 1) := by decide +kernel
theorem dX0_init_1 : decode cX0_init 1 = .ok (.invokespecial 3, 3) := by decide +kernel
theorem dX0_init_4 : decode cX0_init 4 = .ok (.aload_n 0, 1) := by decide +kernel
theorem dX0_init_5 : decode cX0_init 5 = .ok (.bipush 7, 2) := by decide +kernel
theorem dX0_init_7 : decode cX0_init 7 = .ok (.newarray .long, 2) := by decide +kernel
theorem dX0_init_9 : decode cX0_init 9 = .ok (.putfield 9, 3) := by decide +kernel
theorem dX0_init_12 : decode cX0_init 12 = .ok (.aload_n 0, 1) := by decide +kernel
theorem dX0_init_13 : decode cX0_init 13 = .ok (.bipush 96, 2) := by decide +kernel
theorem dX0_init_15 : decode cX0_init 15 = .ok (.newarray .long, 2) := by decide +kernel
theorem dX0_init_17 : decode cX0_init 17 = .ok (.putfield 15, 3) := by decide +kernel
theorem dX0_init_20 : decode cX0_init 20 = .ok (.aload_n 0, 1) := by decide +kernel
theorem dX0_init_21 : decode cX0_init 21 = .ok (.bipush 112, 2) := by decide +kernel
theorem dX0_init_23 : decode cX0_init 23 = .ok (.newarray .long, 2) := by decide +kernel
theorem dX0_init_25 : decode cX0_init 25 = .ok (.putfield 18, 3) := by decide +kernel
theorem dX0_init_28 : decode cX0_init 28 = .ok (.aload_n 0, 1) := by decide +kernel
theorem dX0_init_29 : decode cX0_init 29 = .ok (.bipush 6, 2) := by decide +kernel
theorem dX0_init_31 : decode cX0_init 31 = .ok (.newarray .int, 2) := by decide +kernel
theorem dX0_init_33 : decode cX0_init 33 = .ok (.putfield 21, 3) := by decide +kernel
theorem dX0_init_36 : decode cX0_init 36 = .ok (.aload_n 0, 1) := by decide +kernel
theorem dX0_init_37 : decode cX0_init 37 = .ok (.iconst 0, 1) := by decide +kernel
theorem dX0_init_38 : decode cX0_init 38 = .ok (.putfield 25, 3) := by decide +kernel
theorem dX0_init_41 : decode cX0_init 41 = .ok (.aload_n 0, 1) := by decide +kernel
theorem dX0_init_42 : decode cX0_init 42 = .ok (.iconst 1, 1) := by decide +kernel
theorem dX0_init_43 : decode cX0_init 43 = .ok (.putfield 29, 3) := by decide +kernel
theorem dX0_init_46 : decode cX0_init 46 = .ok (.return_, 1) := by decide +kernel
set_option maxRecDepth 20000 in
theorem ggX0_countBringers_X4_together : GoodIn wsX0_countBringers wsX4_together := goodIn_r _ [5, 6, 7, 8, 3, 9, 10, 22] (by decide +kernel) (by decide +kernel)
set_option maxRecDepth 20000 in
theorem gX0_countBringers_X4_together_n32 : GoodIn wsX0_countBringers (wsX4_together) := ggX0_countBringers_X4_together
set_option maxRecDepth 20000 in
theorem ggX0_countBringers_X4_of : GoodIn wsX0_countBringers wsX4_of := goodIn_r _ [9, 10, 22] (by decide +kernel) (by decide +kernel)
set_option maxRecDepth 20000 in
theorem gX0_countBringers_X4_of_n38 : GoodIn wsX0_countBringers (wsX4_of) := ggX0_countBringers_X4_of
set_option maxRecDepth 20000 in
theorem ggX0_countBringers_X0_addBringer : GoodIn wsX0_countBringers wsX0_addBringer := goodIn_r _ [15, 1, 16, 17, 18, 19, 20, 21] (by decide +kernel) (by decide +kernel)
set_option maxRecDepth 20000 in
theorem gX0_countBringers_X0_addBringer : GoodIn wsX0_countBringers (wsV RX0 42 RX0 yX0_addBringer wsX0_addBringer) := goodIn_app (goodIn_of _ (by decide +kernel)) ggX0_countBringers_X0_addBringer
theorem dX0_countBringers_0 : decode cX0_countBringers 0 = .ok (.iconst 0, 1) := by decide +kernel
theorem dX0_countBringers_1 : decode cX0_countBringers 1 = .ok (.istore_n 3, 1) := by decide +kernel
theorem dX0_countBringers_2 : decode cX0_countBringers 2 = .ok (.iload_n 3, 1) := by decide +kernel
theorem dX0_countBringers_3 : decode cX0_countBringers 3 = .ok (.aload_n 0, 1) := by decide +kernel
theorem dX0_countBringers_4 : decode cX0_countBringers 4 = .ok (.getfield 9, 3) := by decide +kernel
theorem dX0_countBringers_7 : decode cX0_countBringers 7 = .ok (.arraylength, 1) := by decide +kernel
theorem dX0_countBringers_8 : decode cX0_countBringers 8 = .ok (.if_icmp .ge 24, 3) := by decide +kernel
theorem dX0_countBringers_11 : decode cX0_countBringers 11 = .ok (.aload_n 0, 1) := by decide +kernel
theorem dX0_countBringers_12 : decode cX0_countBringers 12 = .ok (.getfield 9, 3) := by decide +kernel
theorem dX0_countBringers_15 : decode cX0_countBringers 15 = .ok (.iload_n 3, 1) := by decide +kernel
theorem dX0_countBringers_16 : decode cX0_countBringers 16 = .ok (.iload_n 3, 1) := by decide +kernel
theorem dX0_countBringers_17 : decode cX0_countBringers 17 = .ok (.ifCond .ne 7, 3) := by decide +kernel
theorem dX0_countBringers_20 : decode cX0_countBringers 20 = .ok (.lconst 1, 1) := by decide +kernel
theorem dX0_countBringers_21 : decode cX0_countBringers 21 = .ok (.goto 4, 3) := by decide +kernel
theorem dX0_countBringers_24 : decode cX0_countBringers 24 = .ok (.lconst 0, 1) := by decide +kernel
theorem dX0_countBringers_25 : decode cX0_countBringers 25 = .ok (.lastore, 1) := by decide +kernel
theorem dX0_countBringers_26 : decode cX0_countBringers 26 = .ok (.iinc 3 1, 3) := by decide +kernel
theorem dX0_countBringers_29 : decode cX0_countBringers 29 = .ok (.goto (-27), 3) := by decide +kernel
theorem dX0_countBringers_32 : decode cX0_countBringers 32 = .ok (.iconst 0, 1) := by decide +kernel
theorem dX0_countBringers_33 : decode cX0_countBringers 33 = .ok (.istore_n 3, 1) := by decide +kernel
theorem dX0_countBringers_34 : decode cX0_countBringers 34 = .ok (.iload_n 3, 1) := by decide +kernel
theorem dX0_countBringers_35 : decode cX0_countBringers 35 = .ok (.bipush 6, 2) := by decide +kernel
theorem dX0_countBringers_37 : decode cX0_countBringers 37 = .ok (.if_icmp .ge 40, 3) := by decide +kernel
theorem dX0_countBringers_40 : decode cX0_countBringers 40 = .ok (.aload_n 1, 1) := by decide +kernel
theorem dX0_countBringers_41 : decode cX0_countBringers 41 = .ok (.iload_n 3, 1) := by decide +kernel
theorem dX0_countBringers_42 : decode cX0_countBringers 42 = .ok (.invokevirtual 32, 3) := by decide +kernel
theorem dX0_countBringers_45 : decode cX0_countBringers 45 = .ok (.istore 4, 2) := by decide +kernel
theorem dX0_countBringers_47 : decode cX0_countBringers 47 = .ok (.iload 4, 2) := by decide +kernel
theorem dX0_countBringers_49 : decode cX0_countBringers 49 = .ok (.ifCond .le 22, 3) := by decide +kernel
theorem dX0_countBringers_52 : decode cX0_countBringers 52 = .ok (.aload_n 0, 1) := by decide +kernel
theorem dX0_countBringers_53 : decode cX0_countBringers 53 = .ok (.aload_n 1, 1) := by decide +kernel
theorem dX0_countBringers_54 : decode cX0_countBringers 54 = .ok (.iload_n 3, 1) := by decide +kernel
theorem dX0_countBringers_55 : decode cX0_countBringers 55 = .ok (.iload_n 2, 1) := by decide +kernel
theorem dX0_countBringers_56 : decode cX0_countBringers 56 = .ok (.invokevirtual 38, 3) := by decide +kernel
theorem dX0_countBringers_59 : decode cX0_countBringers 59 = .ok (.iload 4, 2) := by decide +kernel
theorem dX0_countBringers_61 : decode cX0_countBringers 61 = .ok (.aload_n 1, 1) := by decide +kernel
theorem dX0_countBringers_62 : decode cX0_countBringers 62 = .ok (.iload_n 3, 1) := by decide +kernel
theorem dX0_countBringers_63 : decode cX0_countBringers 63 = .ok (.iload_n 2, 1) := by decide +kernel
theorem dX0_countBringers_64 : decode cX0_countBringers 64 = .ok (.invokevirtual 38, 3) := by decide +kernel
theorem dX0_countBringers_67 : decode cX0_countBringers 67 = .ok (.isub, 1) := by decide +kernel
theorem dX0_countBringers_68 : decode cX0_countBringers 68 = .ok (.invokevirtual 42, 3) := by decide +kernel
theorem dX0_countBringers_71 : decode cX0_countBringers 71 = .ok (.iinc 3 1, 3) := by decide +kernel
theorem dX0_countBringers_74 : decode cX0_countBringers 74 = .ok (.goto (-40), 3) := by decide +kernel
theorem dX0_countBringers_77 : decode cX0_countBringers 77 = .ok (.return_, 1) := by decide +kernel
theorem dX0_addBringer_0 : decode cX0_addBringer 0 = .ok (.bipush 6, 2) := by decide +kernel
theorem dX0_addBringer_2 : decode cX0_addBringer 2 = .ok (.istore_n 3, 1) := by decide +kernel
theorem dX0_addBringer_3 : decode cX0_addBringer 3 = .ok (.iload_n 3, 1) := by decide +kernel
theorem dX0_addBringer_4 : decode cX0_addBringer 4 = .ok (.ifCond .le 36, 3) := by decide +kernel
theorem dX0_addBringer_7 : decode cX0_addBringer 7 = .ok (.aload_n 0, 1) := by decide +kernel
theorem dX0_addBringer_8 : decode cX0_addBringer 8 = .ok (.getfield 9, 3) := by decide +kernel
theorem dX0_addBringer_11 : decode cX0_addBringer 11 = .ok (.iload_n 3, 1) := by decide +kernel
theorem dX0_addBringer_12 : decode cX0_addBringer 12 = .ok (.aload_n 0, 1) := by decide +kernel
theorem dX0_addBringer_13 : decode cX0_addBringer 13 = .ok (.getfield 9, 3) := by decide +kernel
theorem dX0_addBringer_16 : decode cX0_addBringer 16 = .ok (.iload_n 3, 1) := by decide +kernel
theorem dX0_addBringer_17 : decode cX0_addBringer 17 = .ok (.laload, 1) := by decide +kernel
theorem dX0_addBringer_18 : decode cX0_addBringer 18 = .ok (.iload_n 2, 1) := by decide +kernel
theorem dX0_addBringer_19 : decode cX0_addBringer 19 = .ok (.i2l, 1) := by decide +kernel
theorem dX0_addBringer_20 : decode cX0_addBringer 20 = .ok (.lmul, 1) := by decide +kernel
theorem dX0_addBringer_21 : decode cX0_addBringer 21 = .ok (.aload_n 0, 1) := by decide +kernel
theorem dX0_addBringer_22 : decode cX0_addBringer 22 = .ok (.getfield 9, 3) := by decide +kernel
theorem dX0_addBringer_25 : decode cX0_addBringer 25 = .ok (.iload_n 3, 1) := by decide +kernel
theorem dX0_addBringer_26 : decode cX0_addBringer 26 = .ok (.iconst 1, 1) := by decide +kernel
theorem dX0_addBringer_27 : decode cX0_addBringer 27 = .ok (.isub, 1) := by decide +kernel
theorem dX0_addBringer_28 : decode cX0_addBringer 28 = .ok (.laload, 1) := by decide +kernel
theorem dX0_addBringer_29 : decode cX0_addBringer 29 = .ok (.iload_n 1, 1) := by decide +kernel
theorem dX0_addBringer_30 : decode cX0_addBringer 30 = .ok (.i2l, 1) := by decide +kernel
theorem dX0_addBringer_31 : decode cX0_addBringer 31 = .ok (.lmul, 1) := by decide +kernel
theorem dX0_addBringer_32 : decode cX0_addBringer 32 = .ok (.ladd, 1) := by decide +kernel
theorem dX0_addBringer_33 : decode cX0_addBringer 33 = .ok (.lastore, 1) := by decide +kernel
theorem dX0_addBringer_34 : decode cX0_addBringer 34 = .ok (.iinc 3 (-1), 3) := by decide +kernel
theorem dX0_addBringer_37 : decode cX0_addBringer 37 = .ok (.goto (-34), 3) := by decide +kernel
theorem dX0_addBringer_40 : decode cX0_addBringer 40 = .ok (.aload_n 0, 1) := by decide +kernel
theorem dX0_addBringer_41 : decode cX0_addBringer 41 = .ok (.getfield 9, 3) := by decide +kernel
theorem dX0_addBringer_44 : decode cX0_addBringer 44 = .ok (.iconst 0, 1) := by decide +kernel
theorem dX0_addBringer_45 : decode cX0_addBringer 45 = .ok (.dup2, 1) := by decide +kernel
theorem dX0_addBringer_46 : decode cX0_addBringer 46 = .ok (.laload, 1) := by decide +kernel
theorem dX0_addBringer_47 : decode cX0_addBringer 47 = .ok (.iload_n 2, 1) := by decide +kernel
theorem dX0_addBringer_48 : decode cX0_addBringer 48 = .ok (.i2l, 1) := by decide +kernel
theorem dX0_addBringer_49 : decode cX0_addBringer 49 = .ok (.lmul, 1) := by decide +kernel
theorem dX0_addBringer_50 : decode cX0_addBringer 50 = .ok (.lastore, 1) := by decide +kernel
theorem dX0_addBringer_51 : decode cX0_addBringer 51 = .ok (.return_, 1) := by decide +kernel
theorem dX0_waysFrom_0 : decode cX0_waysFrom 0 = .ok (.lconst 0, 1) := by decide +kernel
theorem dX0_waysFrom_1 : decode cX0_waysFrom 1 = .ok (.lstore_n 2, 1) := by decide +kernel
theorem dX0_waysFrom_2 : decode cX0_waysFrom 2 = .ok (.iload_n 1, 1) := by decide +kernel
theorem dX0_waysFrom_3 : decode cX0_waysFrom 3 = .ok (.istore 4, 2) := by decide +kernel
theorem dX0_waysFrom_5 : decode cX0_waysFrom 5 = .ok (.iload 4, 2) := by decide +kernel
theorem dX0_waysFrom_7 : decode cX0_waysFrom 7 = .ok (.bipush 6, 2) := by decide +kernel
theorem dX0_waysFrom_9 : decode cX0_waysFrom 9 = .ok (.if_icmp .gt 19, 3) := by decide +kernel
theorem dX0_waysFrom_12 : decode cX0_waysFrom 12 = .ok (.lload_n 2, 1) := by decide +kernel
theorem dX0_waysFrom_13 : decode cX0_waysFrom 13 = .ok (.aload_n 0, 1) := by decide +kernel
theorem dX0_waysFrom_14 : decode cX0_waysFrom 14 = .ok (.getfield 9, 3) := by decide +kernel
theorem dX0_waysFrom_17 : decode cX0_waysFrom 17 = .ok (.iload 4, 2) := by decide +kernel
theorem dX0_waysFrom_19 : decode cX0_waysFrom 19 = .ok (.laload, 1) := by decide +kernel
theorem dX0_waysFrom_20 : decode cX0_waysFrom 20 = .ok (.ladd, 1) := by decide +kernel
theorem dX0_waysFrom_21 : decode cX0_waysFrom 21 = .ok (.lstore_n 2, 1) := by decide +kernel
theorem dX0_waysFrom_22 : decode cX0_waysFrom 22 = .ok (.iinc 4 1, 3) := by decide +kernel
theorem dX0_waysFrom_25 : decode cX0_waysFrom 25 = .ok (.goto (-20), 3) := by decide +kernel
theorem dX0_waysFrom_28 : decode cX0_waysFrom 28 = .ok (.lload_n 2, 1) := by decide +kernel
theorem dX0_waysFrom_29 : decode cX0_waysFrom 29 = .ok (.lreturn, 1) := by decide +kernel
set_option maxRecDepth 20000 in
theorem ggX0_leaveAllFree_X0_prepare : GoodIn wsX0_leaveAllFree wsX0_prepare := goodIn_r _ [5, 6, 7, 8, 9, 4, 10, 11, 12, 13, 14, 15, 16, 17, 18, 19, 25, 26, 27, 28, 29, 30, 31] (by decide +kernel) (by decide +kernel)
set_option maxRecDepth 20000 in
theorem gX0_leaveAllFree_X0_prepare : GoodIn wsX0_leaveAllFree (wsV RX0 46 RX0 yX0_prepare wsX0_prepare) := goodIn_app (goodIn_of _ (by decide +kernel)) ggX0_leaveAllFree_X0_prepare
set_option maxRecDepth 20000 in
theorem ggX0_leaveAllFree_X0_decide : GoodIn wsX0_leaveAllFree wsX0_decide := goodIn_r _ [23, 24, 7, 6, 25, 26, 27, 28, 29, 30] (by decide +kernel) (by decide +kernel)
set_option maxRecDepth 20000 in
theorem gX0_leaveAllFree_X0_decide : GoodIn wsX0_leaveAllFree (wsV RX0 50 RX0 yX0_decide wsX0_decide) := goodIn_app (goodIn_of _ (by decide +kernel)) ggX0_leaveAllFree_X0_decide
theorem dX0_leaveAllFree_0 : decode cX0_leaveAllFree 0 = .ok (.aload_n 0, 1) := by decide +kernel
theorem dX0_leaveAllFree_1 : decode cX0_leaveAllFree 1 = .ok (.aload_n 1, 1) := by decide +kernel
theorem dX0_leaveAllFree_2 : decode cX0_leaveAllFree 2 = .ok (.invokevirtual 46, 3) := by decide +kernel
theorem dX0_leaveAllFree_5 : decode cX0_leaveAllFree 5 = .ok (.iconst 0, 1) := by decide +kernel
theorem dX0_leaveAllFree_6 : decode cX0_leaveAllFree 6 = .ok (.istore_n 2, 1) := by decide +kernel
theorem dX0_leaveAllFree_7 : decode cX0_leaveAllFree 7 = .ok (.iload_n 2, 1) := by decide +kernel
theorem dX0_leaveAllFree_8 : decode cX0_leaveAllFree 8 = .ok (.bipush 6, 2) := by decide +kernel
theorem dX0_leaveAllFree_10 : decode cX0_leaveAllFree 10 = .ok (.if_icmp .ge 16, 3) := by decide +kernel
theorem dX0_leaveAllFree_13 : decode cX0_leaveAllFree 13 = .ok (.aload_n 0, 1) := by decide +kernel
theorem dX0_leaveAllFree_14 : decode cX0_leaveAllFree 14 = .ok (.iload_n 2, 1) := by decide +kernel
theorem dX0_leaveAllFree_15 : decode cX0_leaveAllFree 15 = .ok (.bipush 9, 2) := by decide +kernel
theorem dX0_leaveAllFree_17 : decode cX0_leaveAllFree 17 = .ok (.invokevirtual 50, 3) := by decide +kernel
theorem dX0_leaveAllFree_20 : decode cX0_leaveAllFree 20 = .ok (.iinc 2 1, 3) := by decide +kernel
theorem dX0_leaveAllFree_23 : decode cX0_leaveAllFree 23 = .ok (.goto (-16), 3) := by decide +kernel
theorem dX0_leaveAllFree_26 : decode cX0_leaveAllFree 26 = .ok (.return_, 1) := by decide +kernel
set_option maxRecDepth 20000 in
theorem ggX0_fewestTold_X0_prepare : GoodIn wsX0_fewestTold wsX0_prepare := goodIn_r _ [7, 8, 9, 10, 11, 6, 12, 13, 14, 15, 16, 17, 18, 19, 20, 21, 49, 50, 51, 52, 53, 54, 55] (by decide +kernel) (by decide +kernel)
set_option maxRecDepth 20000 in
theorem gX0_fewestTold_X0_prepare : GoodIn wsX0_fewestTold (wsV RX0 46 RX0 yX0_prepare wsX0_prepare) := goodIn_app (goodIn_of _ (by decide +kernel)) ggX0_fewestTold_X0_prepare
set_option maxRecDepth 20000 in
theorem ggX0_fewestTold_X0_tell : GoodIn wsX0_fewestTold wsX0_tell := goodIn_r _ [24, 25, 26, 27, 6, 28, 2, 1, 29, 30, 31, 32, 8, 33, 34, 35, 36, 37, 38, 39, 40, 41, 42, 43, 44, 45, 46, 47, 48, 9, 22, 23, 18, 14, 19, 20, 21, 49, 50, 51, 52, 53, 54, 55] (by decide +kernel) (by decide +kernel)
set_option maxRecDepth 20000 in
theorem gX0_fewestTold_X0_tell : GoodIn wsX0_fewestTold (va_wsS RX0 53 yX0_tell wsX0_tell) := goodIn_app (goodIn_of _ (by decide +kernel)) ggX0_fewestTold_X0_tell
theorem dX0_fewestTold_0 : decode cX0_fewestTold 0 = .ok (.aload_n 0, 1) := by decide +kernel
theorem dX0_fewestTold_1 : decode cX0_fewestTold 1 = .ok (.iload_n 2, 1) := by decide +kernel
theorem dX0_fewestTold_2 : decode cX0_fewestTold 2 = .ok (.putfield 25, 3) := by decide +kernel
theorem dX0_fewestTold_5 : decode cX0_fewestTold 5 = .ok (.aload_n 0, 1) := by decide +kernel
theorem dX0_fewestTold_6 : decode cX0_fewestTold 6 = .ok (.iload_n 3, 1) := by decide +kernel
theorem dX0_fewestTold_7 : decode cX0_fewestTold 7 = .ok (.putfield 29, 3) := by decide +kernel
theorem dX0_fewestTold_10 : decode cX0_fewestTold 10 = .ok (.aload_n 0, 1) := by decide +kernel
theorem dX0_fewestTold_11 : decode cX0_fewestTold 11 = .ok (.aload_n 1, 1) := by decide +kernel
theorem dX0_fewestTold_12 : decode cX0_fewestTold 12 = .ok (.invokevirtual 46, 3) := by decide +kernel
theorem dX0_fewestTold_15 : decode cX0_fewestTold 15 = .ok (.iconst 0, 1) := by decide +kernel
theorem dX0_fewestTold_16 : decode cX0_fewestTold 16 = .ok (.istore 4, 2) := by decide +kernel
theorem dX0_fewestTold_18 : decode cX0_fewestTold 18 = .ok (.iload 4, 2) := by decide +kernel
theorem dX0_fewestTold_20 : decode cX0_fewestTold 20 = .ok (.iconst 4, 1) := by decide +kernel
theorem dX0_fewestTold_21 : decode cX0_fewestTold 21 = .ok (.if_icmp .gt 24, 3) := by decide +kernel
theorem dX0_fewestTold_24 : decode cX0_fewestTold 24 = .ok (.aload_n 0, 1) := by decide +kernel
theorem dX0_fewestTold_25 : decode cX0_fewestTold 25 = .ok (.aload_n 1, 1) := by decide +kernel
theorem dX0_fewestTold_26 : decode cX0_fewestTold 26 = .ok (.iconst 0, 1) := by decide +kernel
theorem dX0_fewestTold_27 : decode cX0_fewestTold 27 = .ok (.iload 4, 2) := by decide +kernel
theorem dX0_fewestTold_29 : decode cX0_fewestTold 29 = .ok (.iconst 0, 1) := by decide +kernel
theorem dX0_fewestTold_30 : decode cX0_fewestTold 30 = .ok (.invokestatic 53, 3) := by decide +kernel
theorem dX0_fewestTold_33 : decode cX0_fewestTold 33 = .ok (.ifCond .eq 6, 3) := by decide +kernel
theorem dX0_fewestTold_36 : decode cX0_fewestTold 36 = .ok (.iload 4, 2) := by decide +kernel
theorem dX0_fewestTold_38 : decode cX0_fewestTold 38 = .ok (.ireturn, 1) := by decide +kernel
theorem dX0_fewestTold_39 : decode cX0_fewestTold 39 = .ok (.iinc 4 1, 3) := by decide +kernel
theorem dX0_fewestTold_42 : decode cX0_fewestTold 42 = .ok (.goto (-24), 3) := by decide +kernel
theorem dX0_fewestTold_45 : decode cX0_fewestTold 45 = .ok (.bipush (-9), 2) := by decide +kernel
theorem dX0_fewestTold_47 : decode cX0_fewestTold 47 = .ok (.ireturn, 1) := by decide +kernel
set_option maxRecDepth 20000 in
theorem ggX0_tell_X0_isLikely : GoodIn wsX0_tell wsX0_isLikely := goodIn_r _ [5, 6, 7, 8, 9, 10, 4, 11, 12, 13, 14, 15, 16, 17, 18, 19, 20, 21, 22, 23, 37, 38, 39, 40, 41, 42] (by decide +kernel) (by decide +kernel)
set_option maxRecDepth 20000 in
theorem gX0_tell_X0_isLikely : GoodIn wsX0_tell (wsV RX0 57 RX0 yX0_isLikely wsX0_isLikely) := goodIn_app (goodIn_of _ (by decide +kernel)) ggX0_tell_X0_isLikely
set_option maxRecDepth 20000 in
theorem ggX0_tell_X0_decide : GoodIn wsX0_tell wsX0_decide := goodIn_r _ [27, 28, 29, 12, 37, 38, 39, 40, 41, 42] (by decide +kernel) (by decide +kernel)
set_option maxRecDepth 20000 in
theorem gX0_tell_X0_decide : GoodIn wsX0_tell (wsV RX0 50 RX0 yX0_decide wsX0_decide) := goodIn_app (goodIn_of _ (by decide +kernel)) ggX0_tell_X0_decide
set_option maxRecDepth 20000 in
theorem ggX0_tell_X0_tell : GoodIn wsX0_tell wsX0_tell := goodIn_r _ [0, 1, 2, 3, 4, 5, 6, 7, 8, 9, 10, 11, 12, 13, 14, 15, 16, 17, 18, 19, 20, 21, 22, 23, 24, 25, 26, 27, 28, 29, 30, 31, 32, 33, 34, 35, 36, 37, 38, 39, 40, 41, 42, 43] (by decide +kernel) (by decide +kernel)
set_option maxRecDepth 20000 in
theorem gX0_tell_X0_tell : GoodIn wsX0_tell (va_wsS RX0 53 yX0_tell wsX0_tell) := goodIn_app (goodIn_of _ (by decide +kernel)) ggX0_tell_X0_tell
set_option maxRecDepth 20000 in
theorem ggX0_tell_X4_of : GoodIn wsX0_tell wsX4_of := goodIn_r _ [35, 36, 43] (by decide +kernel) (by decide +kernel)
set_option maxRecDepth 20000 in
theorem gX0_tell_X4_of_n38 : GoodIn wsX0_tell (wsX4_of) := ggX0_tell_X4_of
theorem dX0_tell_0 : decode cX0_tell 0 = .ok (.iload_n 2, 1) := by decide +kernel
theorem dX0_tell_1 : decode cX0_tell 1 = .ok (.bipush 6, 2) := by decide +kernel
theorem dX0_tell_3 : decode cX0_tell 3 = .ok (.if_icmp .lt 20, 3) := by decide +kernel
theorem dX0_tell_6 : decode cX0_tell 6 = .ok (.iload_n 3, 1) := by decide +kernel
theorem dX0_tell_7 : decode cX0_tell 7 = .ok (.ifCond .ne 14, 3) := by decide +kernel
theorem dX0_tell_10 : decode cX0_tell 10 = .ok (.aload_n 0, 1) := by decide +kernel
theorem dX0_tell_11 : decode cX0_tell 11 = .ok (.invokevirtual 57, 3) := by decide +kernel
theorem dX0_tell_14 : decode cX0_tell 14 = .ok (.ifCond .eq 7, 3) := by decide +kernel
theorem dX0_tell_17 : decode cX0_tell 17 = .ok (.iconst 1, 1) := by decide +kernel
theorem dX0_tell_18 : decode cX0_tell 18 = .ok (.goto 4, 3) := by decide +kernel
theorem dX0_tell_21 : decode cX0_tell 21 = .ok (.iconst 0, 1) := by decide +kernel
theorem dX0_tell_22 : decode cX0_tell 22 = .ok (.ireturn, 1) := by decide +kernel
theorem dX0_tell_23 : decode cX0_tell 23 = .ok (.iload_n 3, 1) := by decide +kernel
theorem dX0_tell_24 : decode cX0_tell 24 = .ok (.bipush 6, 2) := by decide +kernel
theorem dX0_tell_26 : decode cX0_tell 26 = .ok (.iload_n 2, 1) := by decide +kernel
theorem dX0_tell_27 : decode cX0_tell 27 = .ok (.isub, 1) := by decide +kernel
theorem dX0_tell_28 : decode cX0_tell 28 = .ok (.if_icmp .le 5, 3) := by decide +kernel
theorem dX0_tell_31 : decode cX0_tell 31 = .ok (.iconst 0, 1) := by decide +kernel
theorem dX0_tell_32 : decode cX0_tell 32 = .ok (.ireturn, 1) := by decide +kernel
theorem dX0_tell_33 : decode cX0_tell 33 = .ok (.aload_n 0, 1) := by decide +kernel
theorem dX0_tell_34 : decode cX0_tell 34 = .ok (.iload_n 2, 1) := by decide +kernel
theorem dX0_tell_35 : decode cX0_tell 35 = .ok (.bipush 9, 2) := by decide +kernel
theorem dX0_tell_37 : decode cX0_tell 37 = .ok (.invokevirtual 50, 3) := by decide +kernel
theorem dX0_tell_40 : decode cX0_tell 40 = .ok (.aload_n 0, 1) := by decide +kernel
theorem dX0_tell_41 : decode cX0_tell 41 = .ok (.aload_n 1, 1) := by decide +kernel
theorem dX0_tell_42 : decode cX0_tell 42 = .ok (.iload_n 2, 1) := by decide +kernel
theorem dX0_tell_43 : decode cX0_tell 43 = .ok (.iconst 1, 1) := by decide +kernel
theorem dX0_tell_44 : decode cX0_tell 44 = .ok (.iadd, 1) := by decide +kernel
theorem dX0_tell_45 : decode cX0_tell 45 = .ok (.iload_n 3, 1) := by decide +kernel
theorem dX0_tell_46 : decode cX0_tell 46 = .ok (.iload 4, 2) := by decide +kernel
theorem dX0_tell_48 : decode cX0_tell 48 = .ok (.invokestatic 53, 3) := by decide +kernel
theorem dX0_tell_51 : decode cX0_tell 51 = .ok (.ifCond .eq 5, 3) := by decide +kernel
theorem dX0_tell_54 : decode cX0_tell 54 = .ok (.iconst 1, 1) := by decide +kernel
theorem dX0_tell_55 : decode cX0_tell 55 = .ok (.ireturn, 1) := by decide +kernel
theorem dX0_tell_56 : decode cX0_tell 56 = .ok (.iconst 0, 1) := by decide +kernel
theorem dX0_tell_57 : decode cX0_tell 57 = .ok (.istore 5, 2) := by decide +kernel
theorem dX0_tell_59 : decode cX0_tell 59 = .ok (.iload 5, 2) := by decide +kernel
theorem dX0_tell_61 : decode cX0_tell 61 = .ok (.iconst 4, 1) := by decide +kernel
theorem dX0_tell_62 : decode cX0_tell 62 = .ok (.if_icmp .ge 63, 3) := by decide +kernel
theorem dX0_tell_65 : decode cX0_tell 65 = .ok (.iload_n 3, 1) := by decide +kernel
theorem dX0_tell_66 : decode cX0_tell 66 = .ok (.ifCond .le 59, 3) := by decide +kernel
theorem dX0_tell_69 : decode cX0_tell 69 = .ok (.aload_n 1, 1) := by decide +kernel
theorem dX0_tell_70 : decode cX0_tell 70 = .ok (.iload_n 2, 1) := by decide +kernel
theorem dX0_tell_71 : decode cX0_tell 71 = .ok (.iload 5, 2) := by decide +kernel
theorem dX0_tell_73 : decode cX0_tell 73 = .ok (.invokevirtual 38, 3) := by decide +kernel
theorem dX0_tell_76 : decode cX0_tell 76 = .ok (.ifCond .le 43, 3) := by decide +kernel
theorem dX0_tell_79 : decode cX0_tell 79 = .ok (.iload 4, 2) := by decide +kernel
theorem dX0_tell_81 : decode cX0_tell 81 = .ok (.iload 5, 2) := by decide +kernel
theorem dX0_tell_83 : decode cX0_tell 83 = .ok (.ishr, 1) := by decide +kernel
theorem dX0_tell_84 : decode cX0_tell 84 = .ok (.iconst 1, 1) := by decide +kernel
theorem dX0_tell_85 : decode cX0_tell 85 = .ok (.iand, 1) := by decide +kernel
theorem dX0_tell_86 : decode cX0_tell 86 = .ok (.ifCond .ne 33, 3) := by decide +kernel
theorem dX0_tell_89 : decode cX0_tell 89 = .ok (.aload_n 0, 1) := by decide +kernel
theorem dX0_tell_90 : decode cX0_tell 90 = .ok (.iload_n 2, 1) := by decide +kernel
theorem dX0_tell_91 : decode cX0_tell 91 = .ok (.iload 5, 2) := by decide +kernel
theorem dX0_tell_93 : decode cX0_tell 93 = .ok (.invokevirtual 50, 3) := by decide +kernel
theorem dX0_tell_96 : decode cX0_tell 96 = .ok (.aload_n 0, 1) := by decide +kernel
theorem dX0_tell_97 : decode cX0_tell 97 = .ok (.aload_n 1, 1) := by decide +kernel
theorem dX0_tell_98 : decode cX0_tell 98 = .ok (.iload_n 2, 1) := by decide +kernel
theorem dX0_tell_99 : decode cX0_tell 99 = .ok (.iconst 1, 1) := by decide +kernel
theorem dX0_tell_100 : decode cX0_tell 100 = .ok (.iadd, 1) := by decide +kernel
theorem dX0_tell_101 : decode cX0_tell 101 = .ok (.iload_n 3, 1) := by decide +kernel
theorem dX0_tell_102 : decode cX0_tell 102 = .ok (.iconst 1, 1) := by decide +kernel
theorem dX0_tell_103 : decode cX0_tell 103 = .ok (.isub, 1) := by decide +kernel
theorem dX0_tell_104 : decode cX0_tell 104 = .ok (.iload 4, 2) := by decide +kernel
theorem dX0_tell_106 : decode cX0_tell 106 = .ok (.iconst 1, 1) := by decide +kernel
theorem dX0_tell_107 : decode cX0_tell 107 = .ok (.iload 5, 2) := by decide +kernel
theorem dX0_tell_109 : decode cX0_tell 109 = .ok (.ishl, 1) := by decide +kernel
theorem dX0_tell_110 : decode cX0_tell 110 = .ok (.ior, 1) := by decide +kernel
theorem dX0_tell_111 : decode cX0_tell 111 = .ok (.invokestatic 53, 3) := by decide +kernel
theorem dX0_tell_114 : decode cX0_tell 114 = .ok (.ifCond .eq 5, 3) := by decide +kernel
theorem dX0_tell_117 : decode cX0_tell 117 = .ok (.iconst 1, 1) := by decide +kernel
theorem dX0_tell_118 : decode cX0_tell 118 = .ok (.ireturn, 1) := by decide +kernel
theorem dX0_tell_119 : decode cX0_tell 119 = .ok (.iinc 5 1, 3) := by decide +kernel
theorem dX0_tell_122 : decode cX0_tell 122 = .ok (.goto (-63), 3) := by decide +kernel
theorem dX0_tell_125 : decode cX0_tell 125 = .ok (.iconst 0, 1) := by decide +kernel
theorem dX0_tell_126 : decode cX0_tell 126 = .ok (.ireturn, 1) := by decide +kernel
set_option maxRecDepth 20000 in
theorem ggX0_isLikely_X0_waysToAll : GoodIn wsX0_isLikely wsX0_waysToAll := goodIn_r _ [7, 8, 9, 10, 11, 12, 13, 14, 15, 20, 21, 22, 23, 24, 25] (by decide +kernel) (by decide +kernel)
set_option maxRecDepth 20000 in
theorem gX0_isLikely_X0_waysToAll : GoodIn wsX0_isLikely (wsV RX0 61 RX0 yX0_waysToAll wsX0_waysToAll) := goodIn_app (goodIn_of _ (by decide +kernel)) ggX0_isLikely_X0_waysToAll
set_option maxRecDepth 20000 in
theorem ggX0_isLikely_X0_waysInAll : GoodIn wsX0_isLikely wsX0_waysInAll := goodIn_r _ [19, 8, 20, 21, 22, 23, 24, 25] (by decide +kernel) (by decide +kernel)
set_option maxRecDepth 20000 in
theorem gX0_isLikely_X0_waysInAll : GoodIn wsX0_isLikely (wsV RX0 65 RX0 yX0_waysInAll wsX0_waysInAll) := goodIn_app (goodIn_of _ (by decide +kernel)) ggX0_isLikely_X0_waysInAll
theorem dX0_isLikely_0 : decode cX0_isLikely 0 = .ok (.aload_n 0, 1) := by decide +kernel
theorem dX0_isLikely_1 : decode cX0_isLikely 1 = .ok (.invokevirtual 61, 3) := by decide +kernel
theorem dX0_isLikely_4 : decode cX0_isLikely 4 = .ok (.aload_n 0, 1) := by decide +kernel
theorem dX0_isLikely_5 : decode cX0_isLikely 5 = .ok (.getfield 29, 3) := by decide +kernel
theorem dX0_isLikely_8 : decode cX0_isLikely 8 = .ok (.i2l, 1) := by decide +kernel
theorem dX0_isLikely_9 : decode cX0_isLikely 9 = .ok (.lmul, 1) := by decide +kernel
theorem dX0_isLikely_10 : decode cX0_isLikely 10 = .ok (.aload_n 0, 1) := by decide +kernel
theorem dX0_isLikely_11 : decode cX0_isLikely 11 = .ok (.invokevirtual 65, 3) := by decide +kernel
theorem dX0_isLikely_14 : decode cX0_isLikely 14 = .ok (.aload_n 0, 1) := by decide +kernel
theorem dX0_isLikely_15 : decode cX0_isLikely 15 = .ok (.getfield 25, 3) := by decide +kernel
theorem dX0_isLikely_18 : decode cX0_isLikely 18 = .ok (.i2l, 1) := by decide +kernel
theorem dX0_isLikely_19 : decode cX0_isLikely 19 = .ok (.lmul, 1) := by decide +kernel
theorem dX0_isLikely_20 : decode cX0_isLikely 20 = .ok (.lcmp, 1) := by decide +kernel
theorem dX0_isLikely_21 : decode cX0_isLikely 21 = .ok (.ifCond .lt 7, 3) := by decide +kernel
theorem dX0_isLikely_24 : decode cX0_isLikely 24 = .ok (.iconst 1, 1) := by decide +kernel
theorem dX0_isLikely_25 : decode cX0_isLikely 25 = .ok (.goto 4, 3) := by decide +kernel
theorem dX0_isLikely_28 : decode cX0_isLikely 28 = .ok (.iconst 0, 1) := by decide +kernel
theorem dX0_isLikely_29 : decode cX0_isLikely 29 = .ok (.ireturn, 1) := by decide +kernel
set_option maxRecDepth 20000 in
theorem ggX0_prepare_X0_waysAvoiding : GoodIn wsX0_prepare wsX0_waysAvoiding := goodIn_r _ [6, 7, 8, 9, 10, 11, 12, 13, 14, 15, 22] (by decide +kernel) (by decide +kernel)
set_option maxRecDepth 20000 in
theorem gX0_prepare_X0_waysAvoiding : GoodIn wsX0_prepare (va_wsS RX0 68 yX0_waysAvoiding wsX0_waysAvoiding) := goodIn_app (goodIn_of _ (by decide +kernel)) ggX0_prepare_X0_waysAvoiding
theorem dX0_prepare_0 : decode cX0_prepare 0 = .ok (.iconst 0, 1) := by decide +kernel
theorem dX0_prepare_1 : decode cX0_prepare 1 = .ok (.istore_n 2, 1) := by decide +kernel
theorem dX0_prepare_2 : decode cX0_prepare 2 = .ok (.iload_n 2, 1) := by decide +kernel
theorem dX0_prepare_3 : decode cX0_prepare 3 = .ok (.bipush 16, 2) := by decide +kernel
theorem dX0_prepare_5 : decode cX0_prepare 5 = .ok (.if_icmp .ge 16, 3) := by decide +kernel
theorem dX0_prepare_8 : decode cX0_prepare 8 = .ok (.aload_n 0, 1) := by decide +kernel
theorem dX0_prepare_9 : decode cX0_prepare 9 = .ok (.getfield 18, 3) := by decide +kernel
theorem dX0_prepare_12 : decode cX0_prepare 12 = .ok (.iload_n 2, 1) := by decide +kernel
theorem dX0_prepare_13 : decode cX0_prepare 13 = .ok (.lconst 1, 1) := by decide +kernel
theorem dX0_prepare_14 : decode cX0_prepare 14 = .ok (.lastore, 1) := by decide +kernel
theorem dX0_prepare_15 : decode cX0_prepare 15 = .ok (.iinc 2 1, 3) := by decide +kernel
theorem dX0_prepare_18 : decode cX0_prepare 18 = .ok (.goto (-16), 3) := by decide +kernel
theorem dX0_prepare_21 : decode cX0_prepare 21 = .ok (.iconst 0, 1) := by decide +kernel
theorem dX0_prepare_22 : decode cX0_prepare 22 = .ok (.istore_n 2, 1) := by decide +kernel
theorem dX0_prepare_23 : decode cX0_prepare 23 = .ok (.iload_n 2, 1) := by decide +kernel
theorem dX0_prepare_24 : decode cX0_prepare 24 = .ok (.bipush 6, 2) := by decide +kernel
theorem dX0_prepare_26 : decode cX0_prepare 26 = .ok (.if_icmp .ge 40, 3) := by decide +kernel
theorem dX0_prepare_29 : decode cX0_prepare 29 = .ok (.iconst 0, 1) := by decide +kernel
theorem dX0_prepare_30 : decode cX0_prepare 30 = .ok (.istore_n 3, 1) := by decide +kernel
theorem dX0_prepare_31 : decode cX0_prepare 31 = .ok (.iload_n 3, 1) := by decide +kernel
theorem dX0_prepare_32 : decode cX0_prepare 32 = .ok (.bipush 16, 2) := by decide +kernel
theorem dX0_prepare_34 : decode cX0_prepare 34 = .ok (.if_icmp .ge 26, 3) := by decide +kernel
theorem dX0_prepare_37 : decode cX0_prepare 37 = .ok (.aload_n 0, 1) := by decide +kernel
theorem dX0_prepare_38 : decode cX0_prepare 38 = .ok (.getfield 15, 3) := by decide +kernel
theorem dX0_prepare_41 : decode cX0_prepare 41 = .ok (.iload_n 2, 1) := by decide +kernel
theorem dX0_prepare_42 : decode cX0_prepare 42 = .ok (.bipush 16, 2) := by decide +kernel
theorem dX0_prepare_44 : decode cX0_prepare 44 = .ok (.imul, 1) := by decide +kernel
theorem dX0_prepare_45 : decode cX0_prepare 45 = .ok (.iload_n 3, 1) := by decide +kernel
theorem dX0_prepare_46 : decode cX0_prepare 46 = .ok (.iadd, 1) := by decide +kernel
theorem dX0_prepare_47 : decode cX0_prepare 47 = .ok (.aload_n 1, 1) := by decide +kernel
theorem dX0_prepare_48 : decode cX0_prepare 48 = .ok (.iload_n 2, 1) := by decide +kernel
theorem dX0_prepare_49 : decode cX0_prepare 49 = .ok (.iload_n 3, 1) := by decide +kernel
theorem dX0_prepare_50 : decode cX0_prepare 50 = .ok (.invokestatic 68, 3) := by decide +kernel
theorem dX0_prepare_53 : decode cX0_prepare 53 = .ok (.lastore, 1) := by decide +kernel
theorem dX0_prepare_54 : decode cX0_prepare 54 = .ok (.iinc 3 1, 3) := by decide +kernel
theorem dX0_prepare_57 : decode cX0_prepare 57 = .ok (.goto (-26), 3) := by decide +kernel
theorem dX0_prepare_60 : decode cX0_prepare 60 = .ok (.iinc 2 1, 3) := by decide +kernel
theorem dX0_prepare_63 : decode cX0_prepare 63 = .ok (.goto (-40), 3) := by decide +kernel
theorem dX0_prepare_66 : decode cX0_prepare 66 = .ok (.return_, 1) := by decide +kernel
set_option maxRecDepth 20000 in
theorem ggX0_waysAvoiding_X4_together : GoodIn wsX0_waysAvoiding wsX4_together := goodIn_r _ [4, 5, 6, 7, 2, 8, 9, 10] (by decide +kernel) (by decide +kernel)
set_option maxRecDepth 20000 in
theorem gX0_waysAvoiding_X4_together_n32 : GoodIn wsX0_waysAvoiding (wsX4_together) := ggX0_waysAvoiding_X4_together
set_option maxRecDepth 20000 in
theorem ggX0_waysAvoiding_X4_of : GoodIn wsX0_waysAvoiding wsX4_of := goodIn_r _ [8, 9, 10] (by decide +kernel) (by decide +kernel)
set_option maxRecDepth 20000 in
theorem gX0_waysAvoiding_X4_of_n38 : GoodIn wsX0_waysAvoiding (wsX4_of) := ggX0_waysAvoiding_X4_of
theorem dX0_waysAvoiding_0 : decode cX0_waysAvoiding 0 = .ok (.aload_n 0, 1) := by decide +kernel
theorem dX0_waysAvoiding_1 : decode cX0_waysAvoiding 1 = .ok (.iload_n 1, 1) := by decide +kernel
theorem dX0_waysAvoiding_2 : decode cX0_waysAvoiding 2 = .ok (.invokevirtual 32, 3) := by decide +kernel
theorem dX0_waysAvoiding_5 : decode cX0_waysAvoiding 5 = .ok (.ifCond .ne 5, 3) := by decide +kernel
theorem dX0_waysAvoiding_8 : decode cX0_waysAvoiding 8 = .ok (.lconst 1, 1) := by decide +kernel
theorem dX0_waysAvoiding_9 : decode cX0_waysAvoiding 9 = .ok (.lreturn, 1) := by decide +kernel
theorem dX0_waysAvoiding_10 : decode cX0_waysAvoiding 10 = .ok (.lconst 0, 1) := by decide +kernel
theorem dX0_waysAvoiding_11 : decode cX0_waysAvoiding 11 = .ok (.lstore_n 3, 1) := by decide +kernel
theorem dX0_waysAvoiding_12 : decode cX0_waysAvoiding 12 = .ok (.iconst 0, 1) := by decide +kernel
theorem dX0_waysAvoiding_13 : decode cX0_waysAvoiding 13 = .ok (.istore 5, 2) := by decide +kernel
theorem dX0_waysAvoiding_15 : decode cX0_waysAvoiding 15 = .ok (.iload 5, 2) := by decide +kernel
theorem dX0_waysAvoiding_17 : decode cX0_waysAvoiding 17 = .ok (.iconst 4, 1) := by decide +kernel
theorem dX0_waysAvoiding_18 : decode cX0_waysAvoiding 18 = .ok (.if_icmp .ge 29, 3) := by decide +kernel
theorem dX0_waysAvoiding_21 : decode cX0_waysAvoiding 21 = .ok (.iload_n 2, 1) := by decide +kernel
theorem dX0_waysAvoiding_22 : decode cX0_waysAvoiding 22 = .ok (.iload 5, 2) := by decide +kernel
theorem dX0_waysAvoiding_24 : decode cX0_waysAvoiding 24 = .ok (.ishr, 1) := by decide +kernel
theorem dX0_waysAvoiding_25 : decode cX0_waysAvoiding 25 = .ok (.iconst 1, 1) := by decide +kernel
theorem dX0_waysAvoiding_26 : decode cX0_waysAvoiding 26 = .ok (.iand, 1) := by decide +kernel
theorem dX0_waysAvoiding_27 : decode cX0_waysAvoiding 27 = .ok (.ifCond .ne 14, 3) := by decide +kernel
theorem dX0_waysAvoiding_30 : decode cX0_waysAvoiding 30 = .ok (.lload_n 3, 1) := by decide +kernel
theorem dX0_waysAvoiding_31 : decode cX0_waysAvoiding 31 = .ok (.aload_n 0, 1) := by decide +kernel
theorem dX0_waysAvoiding_32 : decode cX0_waysAvoiding 32 = .ok (.iload_n 1, 1) := by decide +kernel
theorem dX0_waysAvoiding_33 : decode cX0_waysAvoiding 33 = .ok (.iload 5, 2) := by decide +kernel
theorem dX0_waysAvoiding_35 : decode cX0_waysAvoiding 35 = .ok (.invokevirtual 38, 3) := by decide +kernel
theorem dX0_waysAvoiding_38 : decode cX0_waysAvoiding 38 = .ok (.i2l, 1) := by decide +kernel
theorem dX0_waysAvoiding_39 : decode cX0_waysAvoiding 39 = .ok (.ladd, 1) := by decide +kernel
theorem dX0_waysAvoiding_40 : decode cX0_waysAvoiding 40 = .ok (.lstore_n 3, 1) := by decide +kernel
theorem dX0_waysAvoiding_41 : decode cX0_waysAvoiding 41 = .ok (.iinc 5 1, 3) := by decide +kernel
theorem dX0_waysAvoiding_44 : decode cX0_waysAvoiding 44 = .ok (.goto (-29), 3) := by decide +kernel
theorem dX0_waysAvoiding_47 : decode cX0_waysAvoiding 47 = .ok (.lload_n 3, 1) := by decide +kernel
theorem dX0_waysAvoiding_48 : decode cX0_waysAvoiding 48 = .ok (.lreturn, 1) := by decide +kernel
theorem dX0_decide_0 : decode cX0_decide 0 = .ok (.aload_n 0, 1) := by decide +kernel
theorem dX0_decide_1 : decode cX0_decide 1 = .ok (.getfield 21, 3) := by decide +kernel
theorem dX0_decide_4 : decode cX0_decide 4 = .ok (.iload_n 1, 1) := by decide +kernel
theorem dX0_decide_5 : decode cX0_decide 5 = .ok (.iload_n 2, 1) := by decide +kernel
theorem dX0_decide_6 : decode cX0_decide 6 = .ok (.iastore, 1) := by decide +kernel
theorem dX0_decide_7 : decode cX0_decide 7 = .ok (.iconst 0, 1) := by decide +kernel
theorem dX0_decide_8 : decode cX0_decide 8 = .ok (.istore_n 3, 1) := by decide +kernel
theorem dX0_decide_9 : decode cX0_decide 9 = .ok (.iload_n 3, 1) := by decide +kernel
theorem dX0_decide_10 : decode cX0_decide 10 = .ok (.bipush 16, 2) := by decide +kernel
theorem dX0_decide_12 : decode cX0_decide 12 = .ok (.if_icmp .ge 79, 3) := by decide +kernel
theorem dX0_decide_15 : decode cX0_decide 15 = .ok (.aload_n 0, 1) := by decide +kernel
theorem dX0_decide_16 : decode cX0_decide 16 = .ok (.getfield 15, 3) := by decide +kernel
theorem dX0_decide_19 : decode cX0_decide 19 = .ok (.iload_n 1, 1) := by decide +kernel
theorem dX0_decide_20 : decode cX0_decide 20 = .ok (.bipush 16, 2) := by decide +kernel
theorem dX0_decide_22 : decode cX0_decide 22 = .ok (.imul, 1) := by decide +kernel
theorem dX0_decide_23 : decode cX0_decide 23 = .ok (.iload_n 3, 1) := by decide +kernel
theorem dX0_decide_24 : decode cX0_decide 24 = .ok (.iadd, 1) := by decide +kernel
theorem dX0_decide_25 : decode cX0_decide 25 = .ok (.laload, 1) := by decide +kernel
theorem dX0_decide_26 : decode cX0_decide 26 = .ok (.lstore 4, 2) := by decide +kernel
theorem dX0_decide_28 : decode cX0_decide 28 = .ok (.iload_n 2, 1) := by decide +kernel
theorem dX0_decide_29 : decode cX0_decide 29 = .ok (.bipush 9, 2) := by decide +kernel
theorem dX0_decide_31 : decode cX0_decide 31 = .ok (.if_icmp .eq 27, 3) := by decide +kernel
theorem dX0_decide_34 : decode cX0_decide 34 = .ok (.iload_n 3, 1) := by decide +kernel
theorem dX0_decide_35 : decode cX0_decide 35 = .ok (.iload_n 2, 1) := by decide +kernel
theorem dX0_decide_36 : decode cX0_decide 36 = .ok (.ishr, 1) := by decide +kernel
theorem dX0_decide_37 : decode cX0_decide 37 = .ok (.iconst 1, 1) := by decide +kernel
theorem dX0_decide_38 : decode cX0_decide 38 = .ok (.iand, 1) := by decide +kernel
theorem dX0_decide_39 : decode cX0_decide 39 = .ok (.iconst 1, 1) := by decide +kernel
theorem dX0_decide_40 : decode cX0_decide 40 = .ok (.if_icmp .ne 7, 3) := by decide +kernel
theorem dX0_decide_43 : decode cX0_decide 43 = .ok (.lconst 0, 1) := by decide +kernel
theorem dX0_decide_44 : decode cX0_decide 44 = .ok (.goto 12, 3) := by decide +kernel
theorem dX0_decide_47 : decode cX0_decide 47 = .ok (.aload_n 0, 1) := by decide +kernel
theorem dX0_decide_48 : decode cX0_decide 48 = .ok (.getfield 15, 3) := by decide +kernel
theorem dX0_decide_51 : decode cX0_decide 51 = .ok (.iload_n 1, 1) := by decide +kernel
theorem dX0_decide_52 : decode cX0_decide 52 = .ok (.bipush 16, 2) := by decide +kernel
theorem dX0_decide_54 : decode cX0_decide 54 = .ok (.imul, 1) := by decide +kernel
theorem dX0_decide_55 : decode cX0_decide 55 = .ok (.laload, 1) := by decide +kernel
theorem dX0_decide_56 : decode cX0_decide 56 = .ok (.lstore 4, 2) := by decide +kernel
theorem dX0_decide_58 : decode cX0_decide 58 = .ok (.aload_n 0, 1) := by decide +kernel
theorem dX0_decide_59 : decode cX0_decide 59 = .ok (.getfield 18, 3) := by decide +kernel
theorem dX0_decide_62 : decode cX0_decide 62 = .ok (.iload_n 1, 1) := by decide +kernel
theorem dX0_decide_63 : decode cX0_decide 63 = .ok (.iconst 1, 1) := by decide +kernel
theorem dX0_decide_64 : decode cX0_decide 64 = .ok (.iadd, 1) := by decide +kernel
theorem dX0_decide_65 : decode cX0_decide 65 = .ok (.bipush 16, 2) := by decide +kernel
theorem dX0_decide_67 : decode cX0_decide 67 = .ok (.imul, 1) := by decide +kernel
theorem dX0_decide_68 : decode cX0_decide 68 = .ok (.iload_n 3, 1) := by decide +kernel
theorem dX0_decide_69 : decode cX0_decide 69 = .ok (.iadd, 1) := by decide +kernel
theorem dX0_decide_70 : decode cX0_decide 70 = .ok (.aload_n 0, 1) := by decide +kernel
theorem dX0_decide_71 : decode cX0_decide 71 = .ok (.getfield 18, 3) := by decide +kernel
theorem dX0_decide_74 : decode cX0_decide 74 = .ok (.iload_n 1, 1) := by decide +kernel
theorem dX0_decide_75 : decode cX0_decide 75 = .ok (.bipush 16, 2) := by decide +kernel
theorem dX0_decide_77 : decode cX0_decide 77 = .ok (.imul, 1) := by decide +kernel
theorem dX0_decide_78 : decode cX0_decide 78 = .ok (.iload_n 3, 1) := by decide +kernel
theorem dX0_decide_79 : decode cX0_decide 79 = .ok (.iadd, 1) := by decide +kernel
theorem dX0_decide_80 : decode cX0_decide 80 = .ok (.laload, 1) := by decide +kernel
theorem dX0_decide_81 : decode cX0_decide 81 = .ok (.lload 4, 2) := by decide +kernel
theorem dX0_decide_83 : decode cX0_decide 83 = .ok (.lmul, 1) := by decide +kernel
theorem dX0_decide_84 : decode cX0_decide 84 = .ok (.lastore, 1) := by decide +kernel
theorem dX0_decide_85 : decode cX0_decide 85 = .ok (.iinc 3 1, 3) := by decide +kernel
theorem dX0_decide_88 : decode cX0_decide 88 = .ok (.goto (-79), 3) := by decide +kernel
theorem dX0_decide_91 : decode cX0_decide 91 = .ok (.return_, 1) := by decide +kernel
theorem dX0_waysInAll_0 : decode cX0_waysInAll 0 = .ok (.aload_n 0, 1) := by decide +kernel
theorem dX0_waysInAll_1 : decode cX0_waysInAll 1 = .ok (.getfield 18, 3) := by decide +kernel
theorem dX0_waysInAll_4 : decode cX0_waysInAll 4 = .ok (.bipush 96, 2) := by decide +kernel
theorem dX0_waysInAll_6 : decode cX0_waysInAll 6 = .ok (.laload, 1) := by decide +kernel
theorem dX0_waysInAll_7 : decode cX0_waysInAll 7 = .ok (.lreturn, 1) := by decide +kernel
set_option maxRecDepth 20000 in
theorem ggX0_waysToAll_J6_bitCount_0f7a4 : GoodIn wsX0_waysToAll wsJ6_bitCount_0f7a4 := goodIn_r _ [5, 6, 7, 8] (by decide +kernel) (by decide +kernel)
set_option maxRecDepth 20000 in
theorem gX0_waysToAll_J6_bitCount_0f7a4 : GoodIn wsX0_waysToAll (va_wsS RX0 72 yJ6_bitCount_0f7a4 wsJ6_bitCount_0f7a4) := goodIn_app (goodIn_of _ (by decide +kernel)) ggX0_waysToAll_J6_bitCount_0f7a4
theorem dX0_waysToAll_0 : decode cX0_waysToAll 0 = .ok (.lconst 0, 1) := by decide +kernel
theorem dX0_waysToAll_1 : decode cX0_waysToAll 1 = .ok (.lstore_n 1, 1) := by decide +kernel
theorem dX0_waysToAll_2 : decode cX0_waysToAll 2 = .ok (.iconst 0, 1) := by decide +kernel
theorem dX0_waysToAll_3 : decode cX0_waysToAll 3 = .ok (.istore_n 3, 1) := by decide +kernel
theorem dX0_waysToAll_4 : decode cX0_waysToAll 4 = .ok (.iload_n 3, 1) := by decide +kernel
theorem dX0_waysToAll_5 : decode cX0_waysToAll 5 = .ok (.bipush 16, 2) := by decide +kernel
theorem dX0_waysToAll_7 : decode cX0_waysToAll 7 = .ok (.if_icmp .ge 40, 3) := by decide +kernel
theorem dX0_waysToAll_10 : decode cX0_waysToAll 10 = .ok (.aload_n 0, 1) := by decide +kernel
theorem dX0_waysToAll_11 : decode cX0_waysToAll 11 = .ok (.getfield 18, 3) := by decide +kernel
theorem dX0_waysToAll_14 : decode cX0_waysToAll 14 = .ok (.bipush 96, 2) := by decide +kernel
theorem dX0_waysToAll_16 : decode cX0_waysToAll 16 = .ok (.iload_n 3, 1) := by decide +kernel
theorem dX0_waysToAll_17 : decode cX0_waysToAll 17 = .ok (.iadd, 1) := by decide +kernel
theorem dX0_waysToAll_18 : decode cX0_waysToAll 18 = .ok (.laload, 1) := by decide +kernel
theorem dX0_waysToAll_19 : decode cX0_waysToAll 19 = .ok (.lstore 4, 2) := by decide +kernel
theorem dX0_waysToAll_21 : decode cX0_waysToAll 21 = .ok (.lload_n 1, 1) := by decide +kernel
theorem dX0_waysToAll_22 : decode cX0_waysToAll 22 = .ok (.iload_n 3, 1) := by decide +kernel
theorem dX0_waysToAll_23 : decode cX0_waysToAll 23 = .ok (.invokestatic 72, 3) := by decide +kernel
theorem dX0_waysToAll_26 : decode cX0_waysToAll 26 = .ok (.iconst 2, 1) := by decide +kernel
theorem dX0_waysToAll_27 : decode cX0_waysToAll 27 = .ok (.irem, 1) := by decide +kernel
theorem dX0_waysToAll_28 : decode cX0_waysToAll 28 = .ok (.ifCond .ne 8, 3) := by decide +kernel
theorem dX0_waysToAll_31 : decode cX0_waysToAll 31 = .ok (.lload 4, 2) := by decide +kernel
theorem dX0_waysToAll_33 : decode cX0_waysToAll 33 = .ok (.goto 6, 3) := by decide +kernel
theorem dX0_waysToAll_36 : decode cX0_waysToAll 36 = .ok (.lload 4, 2) := by decide +kernel
theorem dX0_waysToAll_38 : decode cX0_waysToAll 38 = .ok (.lneg, 1) := by decide +kernel
theorem dX0_waysToAll_39 : decode cX0_waysToAll 39 = .ok (.ladd, 1) := by decide +kernel
theorem dX0_waysToAll_40 : decode cX0_waysToAll 40 = .ok (.lstore_n 1, 1) := by decide +kernel
theorem dX0_waysToAll_41 : decode cX0_waysToAll 41 = .ok (.iinc 3 1, 3) := by decide +kernel
theorem dX0_waysToAll_44 : decode cX0_waysToAll 44 = .ok (.goto (-40), 3) := by decide +kernel
theorem dX0_waysToAll_47 : decode cX0_waysToAll 47 = .ok (.lload_n 1, 1) := by decide +kernel
theorem dX0_waysToAll_48 : decode cX0_waysToAll 48 = .ok (.lreturn, 1) := by decide +kernel
set_option maxRecDepth 20000 in
theorem ggX1_init_X4_init : GoodIn wsX1_init wsX4_init := goodIn_r _ [17, 18, 2, 3, 8, 19, 25] (by decide +kernel) (by decide +kernel)
set_option maxRecDepth 20000 in
theorem gX1_init_X4_init_n11 : GoodIn wsX1_init (wsX4_init) := ggX1_init_X4_init
set_option maxRecDepth 20000 in
theorem ggX1_init_X1_clearTable : GoodIn wsX1_init wsX1_clearTable := goodIn_r _ [24, 9, 12, 10, 11, 13, 26, 27, 28, 29, 30, 31, 32, 33] (by decide +kernel) (by decide +kernel)
set_option maxRecDepth 20000 in
theorem gX1_init_X1_clearTable : GoodIn wsX1_init (wsV RX1 42 RX1 yX1_clearTable wsX1_clearTable) := goodIn_app (goodIn_of _ (by decide +kernel)) ggX1_init_X1_clearTable
theorem dX1_init_0 : decode cX1_init 0 = .ok (.aload_n 0, 1) := by decide +kernel
theorem dX1_init_1 : decode cX1_init 1 = .ok (.invokespecial 3, 3) := by decide +kernel
theorem dX1_init_4 : decode cX1_init 4 = .ok (.aload_n 0, 1) := by decide +kernel
theorem dX1_init_5 : decode cX1_init 5 = .ok (.new 9, 3) := by decide +kernel
theorem dX1_init_8 : decode cX1_init 8 = .ok (.dup, 1) := by decide +kernel
theorem dX1_init_9 : decode cX1_init 9 = .ok (.invokespecial 11, 3) := by decide +kernel
theorem dX1_init_12 : decode cX1_init 12 = .ok (.putfield 12, 3) := by decide +kernel
theorem dX1_init_15 : decode cX1_init 15 = .ok (.aload_n 0, 1) := by decide +kernel
theorem dX1_init_16 : decode cX1_init 16 = .ok (.bipush 6, 2) := by decide +kernel
theorem dX1_init_18 : decode cX1_init 18 = .ok (.newarray .int, 2) := by decide +kernel
theorem dX1_init_20 : decode cX1_init 20 = .ok (.putfield 18, 3) := by decide +kernel
theorem dX1_init_23 : decode cX1_init 23 = .ok (.aload_n 0, 1) := by decide +kernel
theorem dX1_init_24 : decode cX1_init 24 = .ok (.iconst 4, 1) := by decide +kernel
theorem dX1_init_25 : decode cX1_init 25 = .ok (.newarray .int, 2) := by decide +kernel
theorem dX1_init_27 : decode cX1_init 27 = .ok (.putfield 22, 3) := by decide +kernel
theorem dX1_init_30 : decode cX1_init 30 = .ok (.aload_n 0, 1) := by decide +kernel
theorem dX1_init_31 : decode cX1_init 31 = .ok (.bipush 24, 2) := by decide +kernel
theorem dX1_init_33 : decode cX1_init 33 = .ok (.newarray .int, 2) := by decide +kernel
theorem dX1_init_35 : decode cX1_init 35 = .ok (.putfield 25, 3) := by decide +kernel
theorem dX1_init_38 : decode cX1_init 38 = .ok (.aload_n 0, 1) := by decide +kernel
theorem dX1_init_39 : decode cX1_init 39 = .ok (.bipush 6, 2) := by decide +kernel
theorem dX1_init_41 : decode cX1_init 41 = .ok (.newarray .int, 2) := by decide +kernel
theorem dX1_init_43 : decode cX1_init 43 = .ok (.putfield 28, 3) := by decide +kernel
theorem dX1_init_46 : decode cX1_init 46 = .ok (.aload_n 0, 1) := by decide +kernel
theorem dX1_init_47 : decode cX1_init 47 = .ok (.iconst 0, 1) := by decide +kernel
theorem dX1_init_48 : decode cX1_init 48 = .ok (.putfield 31, 3) := by decide +kernel
theorem dX1_init_51 : decode cX1_init 51 = .ok (.aload_n 0, 1) := by decide +kernel
theorem dX1_init_52 : decode cX1_init 52 = .ok (.iconst 0, 1) := by decide +kernel
theorem dX1_init_53 : decode cX1_init 53 = .ok (.putfield 35, 3) := by decide +kernel
theorem dX1_init_56 : decode cX1_init 56 = .ok (.aload_n 0, 1) := by decide +kernel
theorem dX1_init_57 : decode cX1_init 57 = .ok (.iconst 0, 1) := by decide +kernel
theorem dX1_init_58 : decode cX1_init 58 = .ok (.putfield 39, 3) := by decide +kernel
theorem dX1_init_61 : decode cX1_init 61 = .ok (.aload_n 0, 1) := by decide +kernel
theorem dX1_init_62 : decode cX1_init 62 = .ok (.invokevirtual 42, 3) := by decide +kernel
theorem dX1_init_65 : decode cX1_init 65 = .ok (.return_, 1) := by decide +kernel
set_option maxRecDepth 20000 in
theorem ggX1_begin_X4_copyFrom : GoodIn wsX1_begin wsX4_copyFrom := goodIn_r _ [6, 7, 8, 9, 10, 11, 30] (by decide +kernel) (by decide +kernel)
set_option maxRecDepth 20000 in
theorem gX1_begin_X4_copyFrom_n45 : GoodIn wsX1_begin (wsX4_copyFrom) := ggX1_begin_X4_copyFrom
set_option maxRecDepth 20000 in
theorem ggX1_begin_X1_clearTable : GoodIn wsX1_begin wsX1_clearTable := goodIn_r _ [16, 17, 18, 19, 20, 21, 22, 23, 24, 25, 26, 27, 28, 29] (by decide +kernel) (by decide +kernel)
set_option maxRecDepth 20000 in
theorem gX1_begin_X1_clearTable : GoodIn wsX1_begin (wsV RX1 42 RX1 yX1_clearTable wsX1_clearTable) := goodIn_app (goodIn_of _ (by decide +kernel)) ggX1_begin_X1_clearTable
theorem dX1_begin_0 : decode cX1_begin 0 = .ok (.aload_n 0, 1) := by decide +kernel
theorem dX1_begin_1 : decode cX1_begin 1 = .ok (.getfield 12, 3) := by decide +kernel
theorem dX1_begin_4 : decode cX1_begin 4 = .ok (.aload_n 1, 1) := by decide +kernel
theorem dX1_begin_5 : decode cX1_begin 5 = .ok (.invokevirtual 45, 3) := by decide +kernel
theorem dX1_begin_8 : decode cX1_begin 8 = .ok (.aload_n 0, 1) := by decide +kernel
theorem dX1_begin_9 : decode cX1_begin 9 = .ok (.invokevirtual 42, 3) := by decide +kernel
theorem dX1_begin_12 : decode cX1_begin 12 = .ok (.aload_n 0, 1) := by decide +kernel
theorem dX1_begin_13 : decode cX1_begin 13 = .ok (.iconst 0, 1) := by decide +kernel
theorem dX1_begin_14 : decode cX1_begin 14 = .ok (.putfield 35, 3) := by decide +kernel
theorem dX1_begin_17 : decode cX1_begin 17 = .ok (.return_, 1) := by decide +kernel
theorem dX1_clearTable_0 : decode cX1_clearTable 0 = .ok (.iconst 0, 1) := by decide +kernel
theorem dX1_clearTable_1 : decode cX1_clearTable 1 = .ok (.istore_n 1, 1) := by decide +kernel
theorem dX1_clearTable_2 : decode cX1_clearTable 2 = .ok (.iload_n 1, 1) := by decide +kernel
theorem dX1_clearTable_3 : decode cX1_clearTable 3 = .ok (.bipush 6, 2) := by decide +kernel
theorem dX1_clearTable_5 : decode cX1_clearTable 5 = .ok (.if_icmp .ge 24, 3) := by decide +kernel
theorem dX1_clearTable_8 : decode cX1_clearTable 8 = .ok (.aload_n 0, 1) := by decide +kernel
theorem dX1_clearTable_9 : decode cX1_clearTable 9 = .ok (.getfield 18, 3) := by decide +kernel
theorem dX1_clearTable_12 : decode cX1_clearTable 12 = .ok (.iload_n 1, 1) := by decide +kernel
theorem dX1_clearTable_13 : decode cX1_clearTable 13 = .ok (.bipush (-9), 2) := by decide +kernel
theorem dX1_clearTable_15 : decode cX1_clearTable 15 = .ok (.iastore, 1) := by decide +kernel
theorem dX1_clearTable_16 : decode cX1_clearTable 16 = .ok (.aload_n 0, 1) := by decide +kernel
theorem dX1_clearTable_17 : decode cX1_clearTable 17 = .ok (.getfield 28, 3) := by decide +kernel
theorem dX1_clearTable_20 : decode cX1_clearTable 20 = .ok (.iload_n 1, 1) := by decide +kernel
theorem dX1_clearTable_21 : decode cX1_clearTable 21 = .ok (.iconst 0, 1) := by decide +kernel
theorem dX1_clearTable_22 : decode cX1_clearTable 22 = .ok (.iastore, 1) := by decide +kernel
theorem dX1_clearTable_23 : decode cX1_clearTable 23 = .ok (.iinc 1 1, 3) := by decide +kernel
theorem dX1_clearTable_26 : decode cX1_clearTable 26 = .ok (.goto (-24), 3) := by decide +kernel
theorem dX1_clearTable_29 : decode cX1_clearTable 29 = .ok (.iconst 0, 1) := by decide +kernel
theorem dX1_clearTable_30 : decode cX1_clearTable 30 = .ok (.istore_n 1, 1) := by decide +kernel
theorem dX1_clearTable_31 : decode cX1_clearTable 31 = .ok (.iload_n 1, 1) := by decide +kernel
theorem dX1_clearTable_32 : decode cX1_clearTable 32 = .ok (.iconst 4, 1) := by decide +kernel
theorem dX1_clearTable_33 : decode cX1_clearTable 33 = .ok (.if_icmp .ge 16, 3) := by decide +kernel
theorem dX1_clearTable_36 : decode cX1_clearTable 36 = .ok (.aload_n 0, 1) := by decide +kernel
theorem dX1_clearTable_37 : decode cX1_clearTable 37 = .ok (.getfield 22, 3) := by decide +kernel
theorem dX1_clearTable_40 : decode cX1_clearTable 40 = .ok (.iload_n 1, 1) := by decide +kernel
theorem dX1_clearTable_41 : decode cX1_clearTable 41 = .ok (.iconst 0, 1) := by decide +kernel
theorem dX1_clearTable_42 : decode cX1_clearTable 42 = .ok (.iastore, 1) := by decide +kernel
theorem dX1_clearTable_43 : decode cX1_clearTable 43 = .ok (.iinc 1 1, 3) := by decide +kernel
theorem dX1_clearTable_46 : decode cX1_clearTable 46 = .ok (.goto (-15), 3) := by decide +kernel
theorem dX1_clearTable_49 : decode cX1_clearTable 49 = .ok (.iconst 0, 1) := by decide +kernel
theorem dX1_clearTable_50 : decode cX1_clearTable 50 = .ok (.istore_n 1, 1) := by decide +kernel
theorem dX1_clearTable_51 : decode cX1_clearTable 51 = .ok (.iload_n 1, 1) := by decide +kernel
theorem dX1_clearTable_52 : decode cX1_clearTable 52 = .ok (.aload_n 0, 1) := by decide +kernel
theorem dX1_clearTable_53 : decode cX1_clearTable 53 = .ok (.getfield 25, 3) := by decide +kernel
theorem dX1_clearTable_56 : decode cX1_clearTable 56 = .ok (.arraylength, 1) := by decide +kernel
theorem dX1_clearTable_57 : decode cX1_clearTable 57 = .ok (.if_icmp .ge 16, 3) := by decide +kernel
theorem dX1_clearTable_60 : decode cX1_clearTable 60 = .ok (.aload_n 0, 1) := by decide +kernel
theorem dX1_clearTable_61 : decode cX1_clearTable 61 = .ok (.getfield 25, 3) := by decide +kernel
theorem dX1_clearTable_64 : decode cX1_clearTable 64 = .ok (.iload_n 1, 1) := by decide +kernel
theorem dX1_clearTable_65 : decode cX1_clearTable 65 = .ok (.iconst 0, 1) := by decide +kernel
theorem dX1_clearTable_66 : decode cX1_clearTable 66 = .ok (.iastore, 1) := by decide +kernel
theorem dX1_clearTable_67 : decode cX1_clearTable 67 = .ok (.iinc 1 1, 3) := by decide +kernel
theorem dX1_clearTable_70 : decode cX1_clearTable 70 = .ok (.goto (-19), 3) := by decide +kernel
theorem dX1_clearTable_73 : decode cX1_clearTable 73 = .ok (.aload_n 0, 1) := by decide +kernel
theorem dX1_clearTable_74 : decode cX1_clearTable 74 = .ok (.iconst 0, 1) := by decide +kernel
theorem dX1_clearTable_75 : decode cX1_clearTable 75 = .ok (.putfield 31, 3) := by decide +kernel
theorem dX1_clearTable_78 : decode cX1_clearTable 78 = .ok (.return_, 1) := by decide +kernel
set_option maxRecDepth 20000 in
theorem ggX1_copyFrom_X4_copyFrom : GoodIn wsX1_copyFrom wsX4_copyFrom := goodIn_r _ [16, 17, 18, 4, 5, 6, 27] (by decide +kernel) (by decide +kernel)
set_option maxRecDepth 20000 in
theorem gX1_copyFrom_X4_copyFrom_n45 : GoodIn wsX1_copyFrom (wsX4_copyFrom) := ggX1_copyFrom_X4_copyFrom
theorem dX1_copyFrom_0 : decode cX1_copyFrom 0 = .ok (.aload_n 0, 1) := by decide +kernel
theorem dX1_copyFrom_1 : decode cX1_copyFrom 1 = .ok (.getfield 12, 3) := by decide +kernel
theorem dX1_copyFrom_4 : decode cX1_copyFrom 4 = .ok (.aload_n 1, 1) := by decide +kernel
theorem dX1_copyFrom_5 : decode cX1_copyFrom 5 = .ok (.getfield 12, 3) := by decide +kernel
theorem dX1_copyFrom_8 : decode cX1_copyFrom 8 = .ok (.invokevirtual 45, 3) := by decide +kernel
theorem dX1_copyFrom_11 : decode cX1_copyFrom 11 = .ok (.aload_n 1, 1) := by decide +kernel
theorem dX1_copyFrom_12 : decode cX1_copyFrom 12 = .ok (.getfield 18, 3) := by decide +kernel
theorem dX1_copyFrom_15 : decode cX1_copyFrom 15 = .ok (.iconst 0, 1) := by decide +kernel
theorem dX1_copyFrom_16 : decode cX1_copyFrom 16 = .ok (.aload_n 0, 1) := by decide +kernel
theorem dX1_copyFrom_17 : decode cX1_copyFrom 17 = .ok (.getfield 18, 3) := by decide +kernel
theorem dX1_copyFrom_20 : decode cX1_copyFrom 20 = .ok (.iconst 0, 1) := by decide +kernel
theorem dX1_copyFrom_21 : decode cX1_copyFrom 21 = .ok (.bipush 6, 2) := by decide +kernel
theorem dX1_copyFrom_23 : decode cX1_copyFrom 23 = .ok (.invokestatic 49, 3) := by decide +kernel
theorem dX1_copyFrom_26 : decode cX1_copyFrom 26 = .ok (.aload_n 1, 1) := by decide +kernel
theorem dX1_copyFrom_27 : decode cX1_copyFrom 27 = .ok (.getfield 22, 3) := by decide +kernel
theorem dX1_copyFrom_30 : decode cX1_copyFrom 30 = .ok (.iconst 0, 1) := by decide +kernel
theorem dX1_copyFrom_31 : decode cX1_copyFrom 31 = .ok (.aload_n 0, 1) := by decide +kernel
theorem dX1_copyFrom_32 : decode cX1_copyFrom 32 = .ok (.getfield 22, 3) := by decide +kernel
theorem dX1_copyFrom_35 : decode cX1_copyFrom 35 = .ok (.iconst 0, 1) := by decide +kernel
theorem dX1_copyFrom_36 : decode cX1_copyFrom 36 = .ok (.iconst 4, 1) := by decide +kernel
theorem dX1_copyFrom_37 : decode cX1_copyFrom 37 = .ok (.invokestatic 49, 3) := by decide +kernel
theorem dX1_copyFrom_40 : decode cX1_copyFrom 40 = .ok (.aload_n 1, 1) := by decide +kernel
theorem dX1_copyFrom_41 : decode cX1_copyFrom 41 = .ok (.getfield 25, 3) := by decide +kernel
theorem dX1_copyFrom_44 : decode cX1_copyFrom 44 = .ok (.iconst 0, 1) := by decide +kernel
theorem dX1_copyFrom_45 : decode cX1_copyFrom 45 = .ok (.aload_n 0, 1) := by decide +kernel
theorem dX1_copyFrom_46 : decode cX1_copyFrom 46 = .ok (.getfield 25, 3) := by decide +kernel
theorem dX1_copyFrom_49 : decode cX1_copyFrom 49 = .ok (.iconst 0, 1) := by decide +kernel
theorem dX1_copyFrom_50 : decode cX1_copyFrom 50 = .ok (.aload_n 0, 1) := by decide +kernel
theorem dX1_copyFrom_51 : decode cX1_copyFrom 51 = .ok (.getfield 25, 3) := by decide +kernel
theorem dX1_copyFrom_54 : decode cX1_copyFrom 54 = .ok (.arraylength, 1) := by decide +kernel
theorem dX1_copyFrom_55 : decode cX1_copyFrom 55 = .ok (.invokestatic 49, 3) := by decide +kernel
theorem dX1_copyFrom_58 : decode cX1_copyFrom 58 = .ok (.aload_n 1, 1) := by decide +kernel
theorem dX1_copyFrom_59 : decode cX1_copyFrom 59 = .ok (.getfield 28, 3) := by decide +kernel
theorem dX1_copyFrom_62 : decode cX1_copyFrom 62 = .ok (.iconst 0, 1) := by decide +kernel
theorem dX1_copyFrom_63 : decode cX1_copyFrom 63 = .ok (.aload_n 0, 1) := by decide +kernel
theorem dX1_copyFrom_64 : decode cX1_copyFrom 64 = .ok (.getfield 28, 3) := by decide +kernel
theorem dX1_copyFrom_67 : decode cX1_copyFrom 67 = .ok (.iconst 0, 1) := by decide +kernel
theorem dX1_copyFrom_68 : decode cX1_copyFrom 68 = .ok (.bipush 6, 2) := by decide +kernel
theorem dX1_copyFrom_70 : decode cX1_copyFrom 70 = .ok (.invokestatic 49, 3) := by decide +kernel
theorem dX1_copyFrom_73 : decode cX1_copyFrom 73 = .ok (.aload_n 0, 1) := by decide +kernel
theorem dX1_copyFrom_74 : decode cX1_copyFrom 74 = .ok (.aload_n 1, 1) := by decide +kernel
theorem dX1_copyFrom_75 : decode cX1_copyFrom 75 = .ok (.getfield 31, 3) := by decide +kernel
theorem dX1_copyFrom_78 : decode cX1_copyFrom 78 = .ok (.putfield 31, 3) := by decide +kernel
theorem dX1_copyFrom_81 : decode cX1_copyFrom 81 = .ok (.aload_n 0, 1) := by decide +kernel
theorem dX1_copyFrom_82 : decode cX1_copyFrom 82 = .ok (.aload_n 1, 1) := by decide +kernel
theorem dX1_copyFrom_83 : decode cX1_copyFrom 83 = .ok (.getfield 35, 3) := by decide +kernel
theorem dX1_copyFrom_86 : decode cX1_copyFrom 86 = .ok (.putfield 35, 3) := by decide +kernel
theorem dX1_copyFrom_89 : decode cX1_copyFrom 89 = .ok (.aload_n 0, 1) := by decide +kernel
theorem dX1_copyFrom_90 : decode cX1_copyFrom 90 = .ok (.aload_n 1, 1) := by decide +kernel
theorem dX1_copyFrom_91 : decode cX1_copyFrom 91 = .ok (.getfield 39, 3) := by decide +kernel
theorem dX1_copyFrom_94 : decode cX1_copyFrom 94 = .ok (.putfield 39, 3) := by decide +kernel
theorem dX1_copyFrom_97 : decode cX1_copyFrom 97 = .ok (.return_, 1) := by decide +kernel
theorem dX1_carry_0 : decode cX1_carry 0 = .ok (.aload_n 0, 1) := by decide +kernel
theorem dX1_carry_1 : decode cX1_carry 1 = .ok (.getfield 18, 3) := by decide +kernel
theorem dX1_carry_4 : decode cX1_carry 4 = .ok (.iload_n 1, 1) := by decide +kernel
theorem dX1_carry_5 : decode cX1_carry 5 = .ok (.iload_n 2, 1) := by decide +kernel
theorem dX1_carry_6 : decode cX1_carry 6 = .ok (.iastore, 1) := by decide +kernel
theorem dX1_carry_7 : decode cX1_carry 7 = .ok (.aload_n 0, 1) := by decide +kernel
theorem dX1_carry_8 : decode cX1_carry 8 = .ok (.getfield 22, 3) := by decide +kernel
theorem dX1_carry_11 : decode cX1_carry 11 = .ok (.iload_n 2, 1) := by decide +kernel
theorem dX1_carry_12 : decode cX1_carry 12 = .ok (.dup2, 1) := by decide +kernel
theorem dX1_carry_13 : decode cX1_carry 13 = .ok (.iaload, 1) := by decide +kernel
theorem dX1_carry_14 : decode cX1_carry 14 = .ok (.iload_n 3, 1) := by decide +kernel
theorem dX1_carry_15 : decode cX1_carry 15 = .ok (.iadd, 1) := by decide +kernel
theorem dX1_carry_16 : decode cX1_carry 16 = .ok (.iastore, 1) := by decide +kernel
theorem dX1_carry_17 : decode cX1_carry 17 = .ok (.return_, 1) := by decide +kernel
set_option maxRecDepth 20000 in
theorem ggX1_drawn_X4_together : GoodIn wsX1_drawn wsX4_together := goodIn_r _ [7, 8, 9, 10, 5, 11, 12, 21] (by decide +kernel) (by decide +kernel)
set_option maxRecDepth 20000 in
theorem gX1_drawn_X4_together_n55 : GoodIn wsX1_drawn (wsX4_together) := ggX1_drawn_X4_together
set_option maxRecDepth 20000 in
theorem ggX1_drawn_X4_of : GoodIn wsX1_drawn wsX4_of := goodIn_r _ [11, 12, 21] (by decide +kernel) (by decide +kernel)
set_option maxRecDepth 20000 in
theorem gX1_drawn_X4_of_n60 : GoodIn wsX1_drawn (wsX4_of) := ggX1_drawn_X4_of
theorem dX1_drawn_0 : decode cX1_drawn 0 = .ok (.aload_n 0, 1) := by decide +kernel
theorem dX1_drawn_1 : decode cX1_drawn 1 = .ok (.getfield 12, 3) := by decide +kernel
theorem dX1_drawn_4 : decode cX1_drawn 4 = .ok (.iload_n 1, 1) := by decide +kernel
theorem dX1_drawn_5 : decode cX1_drawn 5 = .ok (.invokevirtual 55, 3) := by decide +kernel
theorem dX1_drawn_8 : decode cX1_drawn 8 = .ok (.istore_n 2, 1) := by decide +kernel
theorem dX1_drawn_9 : decode cX1_drawn 9 = .ok (.iload_n 2, 1) := by decide +kernel
theorem dX1_drawn_10 : decode cX1_drawn 10 = .ok (.ifCond .ne 6, 3) := by decide +kernel
theorem dX1_drawn_13 : decode cX1_drawn 13 = .ok (.bipush (-9), 2) := by decide +kernel
theorem dX1_drawn_15 : decode cX1_drawn 15 = .ok (.ireturn, 1) := by decide +kernel
theorem dX1_drawn_16 : decode cX1_drawn 16 = .ok (.aload_n 0, 1) := by decide +kernel
theorem dX1_drawn_17 : decode cX1_drawn 17 = .ok (.aload_n 0, 1) := by decide +kernel
theorem dX1_drawn_18 : decode cX1_drawn 18 = .ok (.getfield 39, 3) := by decide +kernel
theorem dX1_drawn_21 : decode cX1_drawn 21 = .ok (.ldc 59, 2) := by decide +kernel
theorem dX1_drawn_23 : decode cX1_drawn 23 = .ok (.imul, 1) := by decide +kernel
theorem dX1_drawn_24 : decode cX1_drawn 24 = .ok (.sipush 12345, 3) := by decide +kernel
theorem dX1_drawn_27 : decode cX1_drawn 27 = .ok (.iadd, 1) := by decide +kernel
theorem dX1_drawn_28 : decode cX1_drawn 28 = .ok (.putfield 39, 3) := by decide +kernel
