theorem dX0_init_0 : decode cX0_init 0 = .ok (.aload_n 0, 1) := by decide +kernel
theorem dX0_init_1 : decode cX0_init 1 = .ok (.invokespecial 3, 3) := by decide +kernel
theorem dX0_init_4 : decode cX0_init 4 = .ok (.aload_n 0, 1) := by decide +kernel
theorem dX0_init_5 : decode cX0_init 5 = .ok (.bipush 70, 2) := by decide +kernel
theorem dX0_init_7 : decode cX0_init 7 = .ok (.newarray .int, 2) := by decide +kernel
theorem dX0_init_9 : decode cX0_init 9 = .ok (.putfield 9, 3) := by decide +kernel
theorem dX0_init_12 : decode cX0_init 12 = .ok (.return_, 1) := by decide +kernel
set_option maxRecDepth 20000 in
theorem ggX0_gather_J6_bitCount_0f7a4 : GoodIn wsX0_gather wsJ6_bitCount_0f7a4 := goodIn_r _ [6, 7, 8, 9] (by decide +kernel) (by decide +kernel)
set_option maxRecDepth 20000 in
theorem gX0_gather_J6_bitCount_0f7a4 : GoodIn wsX0_gather (va_wsS RX0 19 yJ6_bitCount_0f7a4 wsJ6_bitCount_0f7a4) := goodIn_app (goodIn_of _ (by decide +kernel)) ggX0_gather_J6_bitCount_0f7a4
set_option maxRecDepth 20000 in
theorem ggX0_gather_X4_allow : GoodIn wsX0_gather wsX4_allow := goodIn_r _ [14, 15, 16, 17, 13, 18, 19, 20, 21, 22, 23, 4, 5, 6, 7, 8, 9, 26, 27, 28, 29] (by decide +kernel) (by decide +kernel)
set_option maxRecDepth 20000 in
theorem gX0_gather_X4_allow : GoodIn wsX0_gather (wsV RX0 25 RX4 yX4_allow wsX4_allow) := goodIn_app (goodIn_of _ (by decide +kernel)) ggX0_gather_X4_allow
theorem dX0_gather_0 : decode cX0_gather 0 = .ok (.aload_n 0, 1) := by decide +kernel
theorem dX0_gather_1 : decode cX0_gather 1 = .ok (.iconst 0, 1) := by decide +kernel
theorem dX0_gather_2 : decode cX0_gather 2 = .ok (.putfield 15, 3) := by decide +kernel
theorem dX0_gather_5 : decode cX0_gather 5 = .ok (.iconst 1, 1) := by decide +kernel
theorem dX0_gather_6 : decode cX0_gather 6 = .ok (.istore_n 3, 1) := by decide +kernel
theorem dX0_gather_7 : decode cX0_gather 7 = .ok (.iload_n 3, 1) := by decide +kernel
theorem dX0_gather_8 : decode cX0_gather 8 = .ok (.sipush 255, 3) := by decide +kernel
theorem dX0_gather_11 : decode cX0_gather 11 = .ok (.if_icmp .gt 54, 3) := by decide +kernel
theorem dX0_gather_14 : decode cX0_gather 14 = .ok (.iload_n 3, 1) := by decide +kernel
theorem dX0_gather_15 : decode cX0_gather 15 = .ok (.invokestatic 19, 3) := by decide +kernel
theorem dX0_gather_18 : decode cX0_gather 18 = .ok (.iload_n 2, 1) := by decide +kernel
theorem dX0_gather_19 : decode cX0_gather 19 = .ok (.if_icmp .ne 40, 3) := by decide +kernel
theorem dX0_gather_22 : decode cX0_gather 22 = .ok (.aload_n 1, 1) := by decide +kernel
theorem dX0_gather_23 : decode cX0_gather 23 = .ok (.iload_n 3, 1) := by decide +kernel
theorem dX0_gather_24 : decode cX0_gather 24 = .ok (.invokevirtual 25, 3) := by decide +kernel
theorem dX0_gather_27 : decode cX0_gather 27 = .ok (.ifCond .eq 32, 3) := by decide +kernel
theorem dX0_gather_30 : decode cX0_gather 30 = .ok (.aload_n 0, 1) := by decide +kernel
theorem dX0_gather_31 : decode cX0_gather 31 = .ok (.getfield 15, 3) := by decide +kernel
theorem dX0_gather_34 : decode cX0_gather 34 = .ok (.bipush 70, 2) := by decide +kernel
theorem dX0_gather_36 : decode cX0_gather 36 = .ok (.if_icmp .ge 23, 3) := by decide +kernel
theorem dX0_gather_39 : decode cX0_gather 39 = .ok (.aload_n 0, 1) := by decide +kernel
theorem dX0_gather_40 : decode cX0_gather 40 = .ok (.getfield 9, 3) := by decide +kernel
theorem dX0_gather_43 : decode cX0_gather 43 = .ok (.aload_n 0, 1) := by decide +kernel
theorem dX0_gather_44 : decode cX0_gather 44 = .ok (.getfield 15, 3) := by decide +kernel
theorem dX0_gather_47 : decode cX0_gather 47 = .ok (.iload_n 3, 1) := by decide +kernel
theorem dX0_gather_48 : decode cX0_gather 48 = .ok (.iastore, 1) := by decide +kernel
theorem dX0_gather_49 : decode cX0_gather 49 = .ok (.aload_n 0, 1) := by decide +kernel
theorem dX0_gather_50 : decode cX0_gather 50 = .ok (.dup, 1) := by decide +kernel
theorem dX0_gather_51 : decode cX0_gather 51 = .ok (.getfield 15, 3) := by decide +kernel
theorem dX0_gather_54 : decode cX0_gather 54 = .ok (.iconst 1, 1) := by decide +kernel
theorem dX0_gather_55 : decode cX0_gather 55 = .ok (.iadd, 1) := by decide +kernel
theorem dX0_gather_56 : decode cX0_gather 56 = .ok (.putfield 15, 3) := by decide +kernel
theorem dX0_gather_59 : decode cX0_gather 59 = .ok (.iinc 3 1, 3) := by decide +kernel
theorem dX0_gather_62 : decode cX0_gather 62 = .ok (.goto (-55), 3) := by decide +kernel
theorem dX0_gather_65 : decode cX0_gather 65 = .ok (.return_, 1) := by decide +kernel
set_option maxRecDepth 20000 in
theorem ggX0_keepThoseThatHold_X2_seekBreach : GoodIn wsX0_keepThoseThatHold wsX2_seekBreach := goodIn_r _ [8, 9, 10, 11, 12, 13, 14, 15, 16, 17, 7, 18, 19, 20, 21, 22, 23, 24, 25, 26, 27, 28, 29, 30, 31, 32, 33, 36, 37, 38, 39, 40, 41, 42, 43, 44] (by decide +kernel) (by decide +kernel)
set_option maxRecDepth 20000 in
theorem gX0_keepThoseThatHold_X2_seekBreach : GoodIn wsX0_keepThoseThatHold (wsV RX0 31 RX2 yX2_seekBreach wsX2_seekBreach) := goodIn_app (goodIn_of _ (by decide +kernel)) ggX0_keepThoseThatHold_X2_seekBreach
theorem dX0_keepThoseThatHold_0 : decode cX0_keepThoseThatHold 0 = .ok (.iconst 0, 1) := by decide +kernel
theorem dX0_keepThoseThatHold_1 : decode cX0_keepThoseThatHold 1 = .ok (.istore_n 3, 1) := by decide +kernel
theorem dX0_keepThoseThatHold_2 : decode cX0_keepThoseThatHold 2 = .ok (.iconst 0, 1) := by decide +kernel
theorem dX0_keepThoseThatHold_3 : decode cX0_keepThoseThatHold 3 = .ok (.istore 4, 2) := by decide +kernel
theorem dX0_keepThoseThatHold_5 : decode cX0_keepThoseThatHold 5 = .ok (.iload 4, 2) := by decide +kernel
theorem dX0_keepThoseThatHold_7 : decode cX0_keepThoseThatHold 7 = .ok (.aload_n 0, 1) := by decide +kernel
theorem dX0_keepThoseThatHold_8 : decode cX0_keepThoseThatHold 8 = .ok (.getfield 15, 3) := by decide +kernel
theorem dX0_keepThoseThatHold_11 : decode cX0_keepThoseThatHold 11 = .ok (.if_icmp .ge 46, 3) := by decide +kernel
theorem dX0_keepThoseThatHold_14 : decode cX0_keepThoseThatHold 14 = .ok (.aload_n 1, 1) := by decide +kernel
theorem dX0_keepThoseThatHold_15 : decode cX0_keepThoseThatHold 15 = .ok (.iload_n 2, 1) := by decide +kernel
theorem dX0_keepThoseThatHold_16 : decode cX0_keepThoseThatHold 16 = .ok (.aload_n 0, 1) := by decide +kernel
theorem dX0_keepThoseThatHold_17 : decode cX0_keepThoseThatHold 17 = .ok (.getfield 9, 3) := by decide +kernel
theorem dX0_keepThoseThatHold_20 : decode cX0_keepThoseThatHold 20 = .ok (.iload 4, 2) := by decide +kernel
theorem dX0_keepThoseThatHold_22 : decode cX0_keepThoseThatHold 22 = .ok (.iaload, 1) := by decide +kernel
theorem dX0_keepThoseThatHold_23 : decode cX0_keepThoseThatHold 23 = .ok (.invokevirtual 31, 3) := by decide +kernel
theorem dX0_keepThoseThatHold_26 : decode cX0_keepThoseThatHold 26 = .ok (.aload_n 1, 1) := by decide +kernel
theorem dX0_keepThoseThatHold_27 : decode cX0_keepThoseThatHold 27 = .ok (.getfield 37, 3) := by decide +kernel
theorem dX0_keepThoseThatHold_30 : decode cX0_keepThoseThatHold 30 = .ok (.bipush (-6), 2) := by decide +kernel
theorem dX0_keepThoseThatHold_32 : decode cX0_keepThoseThatHold 32 = .ok (.if_icmp .ne 19, 3) := by decide +kernel
theorem dX0_keepThoseThatHold_35 : decode cX0_keepThoseThatHold 35 = .ok (.aload_n 0, 1) := by decide +kernel
theorem dX0_keepThoseThatHold_36 : decode cX0_keepThoseThatHold 36 = .ok (.getfield 9, 3) := by decide +kernel
theorem dX0_keepThoseThatHold_39 : decode cX0_keepThoseThatHold 39 = .ok (.iload_n 3, 1) := by decide +kernel
theorem dX0_keepThoseThatHold_40 : decode cX0_keepThoseThatHold 40 = .ok (.aload_n 0, 1) := by decide +kernel
theorem dX0_keepThoseThatHold_41 : decode cX0_keepThoseThatHold 41 = .ok (.getfield 9, 3) := by decide +kernel
theorem dX0_keepThoseThatHold_44 : decode cX0_keepThoseThatHold 44 = .ok (.iload 4, 2) := by decide +kernel
theorem dX0_keepThoseThatHold_46 : decode cX0_keepThoseThatHold 46 = .ok (.iaload, 1) := by decide +kernel
theorem dX0_keepThoseThatHold_47 : decode cX0_keepThoseThatHold 47 = .ok (.iastore, 1) := by decide +kernel
theorem dX0_keepThoseThatHold_48 : decode cX0_keepThoseThatHold 48 = .ok (.iinc 3 1, 3) := by decide +kernel
theorem dX0_keepThoseThatHold_51 : decode cX0_keepThoseThatHold 51 = .ok (.iinc 4 1, 3) := by decide +kernel
theorem dX0_keepThoseThatHold_54 : decode cX0_keepThoseThatHold 54 = .ok (.goto (-49), 3) := by decide +kernel
theorem dX0_keepThoseThatHold_57 : decode cX0_keepThoseThatHold 57 = .ok (.aload_n 0, 1) := by decide +kernel
theorem dX0_keepThoseThatHold_58 : decode cX0_keepThoseThatHold 58 = .ok (.iload_n 3, 1) := by decide +kernel
theorem dX0_keepThoseThatHold_59 : decode cX0_keepThoseThatHold 59 = .ok (.putfield 15, 3) := by decide +kernel
theorem dX0_keepThoseThatHold_62 : decode cX0_keepThoseThatHold 62 = .ok (.return_, 1) := by decide +kernel
theorem dX0_at_0 : decode cX0_at 0 = .ok (.iload_n 1, 1) := by decide +kernel
theorem dX0_at_1 : decode cX0_at 1 = .ok (.ifCond .lt 26, 3) := by decide +kernel
theorem dX0_at_4 : decode cX0_at 4 = .ok (.iload_n 1, 1) := by decide +kernel
theorem dX0_at_5 : decode cX0_at 5 = .ok (.aload_n 0, 1) := by decide +kernel
theorem dX0_at_6 : decode cX0_at 6 = .ok (.getfield 15, 3) := by decide +kernel
theorem dX0_at_9 : decode cX0_at 9 = .ok (.if_icmp .ge 18, 3) := by decide +kernel
theorem dX0_at_12 : decode cX0_at 12 = .ok (.iload_n 1, 1) := by decide +kernel
theorem dX0_at_13 : decode cX0_at 13 = .ok (.bipush 70, 2) := by decide +kernel
theorem dX0_at_15 : decode cX0_at 15 = .ok (.if_icmp .ge 12, 3) := by decide +kernel
theorem dX0_at_18 : decode cX0_at 18 = .ok (.aload_n 0, 1) := by decide +kernel
theorem dX0_at_19 : decode cX0_at 19 = .ok (.getfield 9, 3) := by decide +kernel
theorem dX0_at_22 : decode cX0_at 22 = .ok (.iload_n 1, 1) := by decide +kernel
theorem dX0_at_23 : decode cX0_at 23 = .ok (.iaload, 1) := by decide +kernel
theorem dX0_at_24 : decode cX0_at 24 = .ok (.goto 5, 3) := by decide +kernel
theorem dX0_at_27 : decode cX0_at 27 = .ok (.bipush (-6), 2) := by decide +kernel
theorem dX0_at_29 : decode cX0_at 29 = .ok (.ireturn, 1) := by decide +kernel
set_option maxRecDepth 20000 in
theorem ggX0_ofMostWorth_X3_worthOf : GoodIn wsX0_ofMostWorth wsX3_worthOf := goodIn_r _ [7, 8, 9, 10, 11, 12, 13, 14, 15, 16, 17, 18, 19, 22, 23, 24, 25, 26, 27] (by decide +kernel) (by decide +kernel)
set_option maxRecDepth 20000 in
theorem gX0_ofMostWorth_X3_worthOf : GoodIn wsX0_ofMostWorth (wsV RX0 40 RX3 yX3_worthOf wsX3_worthOf) := goodIn_app (goodIn_of _ (by decide +kernel)) ggX0_ofMostWorth_X3_worthOf
theorem dX0_ofMostWorth_0 : decode cX0_ofMostWorth 0 = .ok (.iconst 0, 1) := by decide +kernel
theorem dX0_ofMostWorth_1 : decode cX0_ofMostWorth 1 = .ok (.istore_n 2, 1) := by decide +kernel
theorem dX0_ofMostWorth_2 : decode cX0_ofMostWorth 2 = .ok (.iconst (-1), 1) := by decide +kernel
theorem dX0_ofMostWorth_3 : decode cX0_ofMostWorth 3 = .ok (.istore_n 3, 1) := by decide +kernel
theorem dX0_ofMostWorth_4 : decode cX0_ofMostWorth 4 = .ok (.iconst 0, 1) := by decide +kernel
theorem dX0_ofMostWorth_5 : decode cX0_ofMostWorth 5 = .ok (.istore 4, 2) := by decide +kernel
theorem dX0_ofMostWorth_7 : decode cX0_ofMostWorth 7 = .ok (.iload 4, 2) := by decide +kernel
theorem dX0_ofMostWorth_9 : decode cX0_ofMostWorth 9 = .ok (.aload_n 0, 1) := by decide +kernel
theorem dX0_ofMostWorth_10 : decode cX0_ofMostWorth 10 = .ok (.getfield 15, 3) := by decide +kernel
theorem dX0_ofMostWorth_13 : decode cX0_ofMostWorth 13 = .ok (.if_icmp .ge 39, 3) := by decide +kernel
theorem dX0_ofMostWorth_16 : decode cX0_ofMostWorth 16 = .ok (.aload_n 1, 1) := by decide +kernel
theorem dX0_ofMostWorth_17 : decode cX0_ofMostWorth 17 = .ok (.aload_n 0, 1) := by decide +kernel
theorem dX0_ofMostWorth_18 : decode cX0_ofMostWorth 18 = .ok (.getfield 9, 3) := by decide +kernel
theorem dX0_ofMostWorth_21 : decode cX0_ofMostWorth 21 = .ok (.iload 4, 2) := by decide +kernel
theorem dX0_ofMostWorth_23 : decode cX0_ofMostWorth 23 = .ok (.iaload, 1) := by decide +kernel
theorem dX0_ofMostWorth_24 : decode cX0_ofMostWorth 24 = .ok (.invokevirtual 40, 3) := by decide +kernel
theorem dX0_ofMostWorth_27 : decode cX0_ofMostWorth 27 = .ok (.istore 5, 2) := by decide +kernel
theorem dX0_ofMostWorth_29 : decode cX0_ofMostWorth 29 = .ok (.iload 5, 2) := by decide +kernel
theorem dX0_ofMostWorth_31 : decode cX0_ofMostWorth 31 = .ok (.iload_n 3, 1) := by decide +kernel
theorem dX0_ofMostWorth_32 : decode cX0_ofMostWorth 32 = .ok (.if_icmp .le 14, 3) := by decide +kernel
theorem dX0_ofMostWorth_35 : decode cX0_ofMostWorth 35 = .ok (.iload 5, 2) := by decide +kernel
theorem dX0_ofMostWorth_37 : decode cX0_ofMostWorth 37 = .ok (.istore_n 3, 1) := by decide +kernel
theorem dX0_ofMostWorth_38 : decode cX0_ofMostWorth 38 = .ok (.aload_n 0, 1) := by decide +kernel
theorem dX0_ofMostWorth_39 : decode cX0_ofMostWorth 39 = .ok (.getfield 9, 3) := by decide +kernel
theorem dX0_ofMostWorth_42 : decode cX0_ofMostWorth 42 = .ok (.iload 4, 2) := by decide +kernel
theorem dX0_ofMostWorth_44 : decode cX0_ofMostWorth 44 = .ok (.iaload, 1) := by decide +kernel
theorem dX0_ofMostWorth_45 : decode cX0_ofMostWorth 45 = .ok (.istore_n 2, 1) := by decide +kernel
theorem dX0_ofMostWorth_46 : decode cX0_ofMostWorth 46 = .ok (.iinc 4 1, 3) := by decide +kernel
theorem dX0_ofMostWorth_49 : decode cX0_ofMostWorth 49 = .ok (.goto (-42), 3) := by decide +kernel
theorem dX0_ofMostWorth_52 : decode cX0_ofMostWorth 52 = .ok (.iload_n 2, 1) := by decide +kernel
theorem dX0_ofMostWorth_53 : decode cX0_ofMostWorth 53 = .ok (.ireturn, 1) := by decide +kernel
set_option maxRecDepth 20000 in
theorem ggX0_leastWronged_X3_wronged : GoodIn wsX0_leastWronged wsX3_wronged := goodIn_r _ [7, 8, 9, 10, 13, 14, 15, 16] (by decide +kernel) (by decide +kernel)
set_option maxRecDepth 20000 in
theorem gX0_leastWronged_X3_wronged : GoodIn wsX0_leastWronged (wsV RX0 45 RX3 yX3_wronged wsX3_wronged) := goodIn_app (goodIn_of _ (by decide +kernel)) ggX0_leastWronged_X3_wronged
theorem dX0_leastWronged_0 : decode cX0_leastWronged 0 = .ok (.bipush (-6), 2) := by decide +kernel
theorem dX0_leastWronged_2 : decode cX0_leastWronged 2 = .ok (.istore_n 2, 1) := by decide +kernel
theorem dX0_leastWronged_3 : decode cX0_leastWronged 3 = .ok (.iconst 0, 1) := by decide +kernel
theorem dX0_leastWronged_4 : decode cX0_leastWronged 4 = .ok (.istore_n 3, 1) := by decide +kernel
theorem dX0_leastWronged_5 : decode cX0_leastWronged 5 = .ok (.iconst 0, 1) := by decide +kernel
theorem dX0_leastWronged_6 : decode cX0_leastWronged 6 = .ok (.istore 4, 2) := by decide +kernel
theorem dX0_leastWronged_8 : decode cX0_leastWronged 8 = .ok (.iload 4, 2) := by decide +kernel
theorem dX0_leastWronged_10 : decode cX0_leastWronged 10 = .ok (.aload_n 0, 1) := by decide +kernel
theorem dX0_leastWronged_11 : decode cX0_leastWronged 11 = .ok (.getfield 15, 3) := by decide +kernel
theorem dX0_leastWronged_14 : decode cX0_leastWronged 14 = .ok (.if_icmp .ge 45, 3) := by decide +kernel
theorem dX0_leastWronged_17 : decode cX0_leastWronged 17 = .ok (.aload_n 1, 1) := by decide +kernel
theorem dX0_leastWronged_18 : decode cX0_leastWronged 18 = .ok (.aload_n 0, 1) := by decide +kernel
theorem dX0_leastWronged_19 : decode cX0_leastWronged 19 = .ok (.getfield 9, 3) := by decide +kernel
theorem dX0_leastWronged_22 : decode cX0_leastWronged 22 = .ok (.iload 4, 2) := by decide +kernel
theorem dX0_leastWronged_24 : decode cX0_leastWronged 24 = .ok (.iaload, 1) := by decide +kernel
theorem dX0_leastWronged_25 : decode cX0_leastWronged 25 = .ok (.invokevirtual 45, 3) := by decide +kernel
theorem dX0_leastWronged_28 : decode cX0_leastWronged 28 = .ok (.istore 5, 2) := by decide +kernel
theorem dX0_leastWronged_30 : decode cX0_leastWronged 30 = .ok (.iload_n 2, 1) := by decide +kernel
theorem dX0_leastWronged_31 : decode cX0_leastWronged 31 = .ok (.bipush (-6), 2) := by decide +kernel
theorem dX0_leastWronged_33 : decode cX0_leastWronged 33 = .ok (.if_icmp .eq 9, 3) := by decide +kernel
theorem dX0_leastWronged_36 : decode cX0_leastWronged 36 = .ok (.iload 5, 2) := by decide +kernel
theorem dX0_leastWronged_38 : decode cX0_leastWronged 38 = .ok (.iload_n 3, 1) := by decide +kernel
theorem dX0_leastWronged_39 : decode cX0_leastWronged 39 = .ok (.if_icmp .ge 14, 3) := by decide +kernel
theorem dX0_leastWronged_42 : decode cX0_leastWronged 42 = .ok (.iload 5, 2) := by decide +kernel
theorem dX0_leastWronged_44 : decode cX0_leastWronged 44 = .ok (.istore_n 3, 1) := by decide +kernel
theorem dX0_leastWronged_45 : decode cX0_leastWronged 45 = .ok (.aload_n 0, 1) := by decide +kernel
theorem dX0_leastWronged_46 : decode cX0_leastWronged 46 = .ok (.getfield 9, 3) := by decide +kernel
theorem dX0_leastWronged_49 : decode cX0_leastWronged 49 = .ok (.iload 4, 2) := by decide +kernel
theorem dX0_leastWronged_51 : decode cX0_leastWronged 51 = .ok (.iaload, 1) := by decide +kernel
theorem dX0_leastWronged_52 : decode cX0_leastWronged 52 = .ok (.istore_n 2, 1) := by decide +kernel
theorem dX0_leastWronged_53 : decode cX0_leastWronged 53 = .ok (.iinc 4 1, 3) := by decide +kernel
theorem dX0_leastWronged_56 : decode cX0_leastWronged 56 = .ok (.goto (-48), 3) := by decide +kernel
theorem dX0_leastWronged_59 : decode cX0_leastWronged 59 = .ok (.iload_n 2, 1) := by decide +kernel
theorem dX0_leastWronged_60 : decode cX0_leastWronged 60 = .ok (.ireturn, 1) := by decide +kernel
set_option maxRecDepth 20000 in
theorem ggX0_closestTo_J6_bitCount_0f7a4 : GoodIn wsX0_closestTo wsJ6_bitCount_0f7a4 := goodIn_r _ [6, 7, 8, 9] (by decide +kernel) (by decide +kernel)
set_option maxRecDepth 20000 in
theorem gX0_closestTo_J6_bitCount_0f7a4 : GoodIn wsX0_closestTo (va_wsS RX0 19 yJ6_bitCount_0f7a4 wsJ6_bitCount_0f7a4) := goodIn_app (goodIn_of _ (by decide +kernel)) ggX0_closestTo_J6_bitCount_0f7a4
theorem dX0_closestTo_0 : decode cX0_closestTo 0 = .ok (.bipush (-6), 2) := by decide +kernel
theorem dX0_closestTo_2 : decode cX0_closestTo 2 = .ok (.istore_n 2, 1) := by decide +kernel
theorem dX0_closestTo_3 : decode cX0_closestTo 3 = .ok (.iconst 0, 1) := by decide +kernel
theorem dX0_closestTo_4 : decode cX0_closestTo 4 = .ok (.istore_n 3, 1) := by decide +kernel
theorem dX0_closestTo_5 : decode cX0_closestTo 5 = .ok (.iconst 0, 1) := by decide +kernel
theorem dX0_closestTo_6 : decode cX0_closestTo 6 = .ok (.istore 4, 2) := by decide +kernel
theorem dX0_closestTo_8 : decode cX0_closestTo 8 = .ok (.iload 4, 2) := by decide +kernel
theorem dX0_closestTo_10 : decode cX0_closestTo 10 = .ok (.aload_n 0, 1) := by decide +kernel
theorem dX0_closestTo_11 : decode cX0_closestTo 11 = .ok (.getfield 15, 3) := by decide +kernel
theorem dX0_closestTo_14 : decode cX0_closestTo 14 = .ok (.if_icmp .ge 48, 3) := by decide +kernel
theorem dX0_closestTo_17 : decode cX0_closestTo 17 = .ok (.aload_n 0, 1) := by decide +kernel
theorem dX0_closestTo_18 : decode cX0_closestTo 18 = .ok (.getfield 9, 3) := by decide +kernel
theorem dX0_closestTo_21 : decode cX0_closestTo 21 = .ok (.iload 4, 2) := by decide +kernel
theorem dX0_closestTo_23 : decode cX0_closestTo 23 = .ok (.iaload, 1) := by decide +kernel
theorem dX0_closestTo_24 : decode cX0_closestTo 24 = .ok (.iload_n 1, 1) := by decide +kernel
theorem dX0_closestTo_25 : decode cX0_closestTo 25 = .ok (.iconst (-1), 1) := by decide +kernel
theorem dX0_closestTo_26 : decode cX0_closestTo 26 = .ok (.ixor, 1) := by decide +kernel
theorem dX0_closestTo_27 : decode cX0_closestTo 27 = .ok (.iand, 1) := by decide +kernel
theorem dX0_closestTo_28 : decode cX0_closestTo 28 = .ok (.invokestatic 19, 3) := by decide +kernel
theorem dX0_closestTo_31 : decode cX0_closestTo 31 = .ok (.istore 5, 2) := by decide +kernel
theorem dX0_closestTo_33 : decode cX0_closestTo 33 = .ok (.iload_n 2, 1) := by decide +kernel
theorem dX0_closestTo_34 : decode cX0_closestTo 34 = .ok (.bipush (-6), 2) := by decide +kernel
theorem dX0_closestTo_36 : decode cX0_closestTo 36 = .ok (.if_icmp .eq 9, 3) := by decide +kernel
theorem dX0_closestTo_39 : decode cX0_closestTo 39 = .ok (.iload 5, 2) := by decide +kernel
theorem dX0_closestTo_41 : decode cX0_closestTo 41 = .ok (.iload_n 3, 1) := by decide +kernel
theorem dX0_closestTo_42 : decode cX0_closestTo 42 = .ok (.if_icmp .ge 14, 3) := by decide +kernel
theorem dX0_closestTo_45 : decode cX0_closestTo 45 = .ok (.iload 5, 2) := by decide +kernel
theorem dX0_closestTo_47 : decode cX0_closestTo 47 = .ok (.istore_n 3, 1) := by decide +kernel
theorem dX0_closestTo_48 : decode cX0_closestTo 48 = .ok (.aload_n 0, 1) := by decide +kernel
theorem dX0_closestTo_49 : decode cX0_closestTo 49 = .ok (.getfield 9, 3) := by decide +kernel
theorem dX0_closestTo_52 : decode cX0_closestTo 52 = .ok (.iload 4, 2) := by decide +kernel
theorem dX0_closestTo_54 : decode cX0_closestTo 54 = .ok (.iaload, 1) := by decide +kernel
theorem dX0_closestTo_55 : decode cX0_closestTo 55 = .ok (.istore_n 2, 1) := by decide +kernel
theorem dX0_closestTo_56 : decode cX0_closestTo 56 = .ok (.iinc 4 1, 3) := by decide +kernel
theorem dX0_closestTo_59 : decode cX0_closestTo 59 = .ok (.goto (-51), 3) := by decide +kernel
theorem dX0_closestTo_62 : decode cX0_closestTo 62 = .ok (.iload_n 2, 1) := by decide +kernel
theorem dX0_closestTo_63 : decode cX0_closestTo 63 = .ok (.ireturn, 1) := by decide +kernel
theorem dX1_init_0 : decode cX1_init 0 = .ok (.aload_n 0, 1) := by decide +kernel
theorem dX1_init_1 : decode cX1_init 1 = .ok (.invokespecial 3, 3) := by decide +kernel
theorem dX1_init_4 : decode cX1_init 4 = .ok (.aload_n 0, 1) := by decide +kernel
theorem dX1_init_5 : decode cX1_init 5 = .ok (.bipush 7, 2) := by decide +kernel
theorem dX1_init_7 : decode cX1_init 7 = .ok (.newarray .long, 2) := by decide +kernel
theorem dX1_init_9 : decode cX1_init 9 = .ok (.putfield 9, 3) := by decide +kernel
theorem dX1_init_12 : decode cX1_init 12 = .ok (.return_, 1) := by decide +kernel
theorem dX1_begin_0 : decode cX1_begin 0 = .ok (.iconst 0, 1) := by decide +kernel
theorem dX1_begin_1 : decode cX1_begin 1 = .ok (.istore_n 2, 1) := by decide +kernel
theorem dX1_begin_2 : decode cX1_begin 2 = .ok (.iload_n 2, 1) := by decide +kernel
theorem dX1_begin_3 : decode cX1_begin 3 = .ok (.bipush 6, 2) := by decide +kernel
theorem dX1_begin_5 : decode cX1_begin 5 = .ok (.if_icmp .gt 17, 3) := by decide +kernel
theorem dX1_begin_8 : decode cX1_begin 8 = .ok (.aload_n 0, 1) := by decide +kernel
theorem dX1_begin_9 : decode cX1_begin 9 = .ok (.getfield 9, 3) := by decide +kernel
theorem dX1_begin_12 : decode cX1_begin 12 = .ok (.iload_n 2, 1) := by decide +kernel
theorem dX1_begin_13 : decode cX1_begin 13 = .ok (.iload_n 1, 1) := by decide +kernel
theorem dX1_begin_14 : decode cX1_begin 14 = .ok (.i2l, 1) := by decide +kernel
theorem dX1_begin_15 : decode cX1_begin 15 = .ok (.lastore, 1) := by decide +kernel
theorem dX1_begin_16 : decode cX1_begin 16 = .ok (.iinc 2 1, 3) := by decide +kernel
theorem dX1_begin_19 : decode cX1_begin 19 = .ok (.goto (-17), 3) := by decide +kernel
theorem dX1_begin_22 : decode cX1_begin 22 = .ok (.aload_n 0, 1) := by decide +kernel
theorem dX1_begin_23 : decode cX1_begin 23 = .ok (.lconst 1, 1) := by decide +kernel
theorem dX1_begin_24 : decode cX1_begin 24 = .ok (.putfield 15, 3) := by decide +kernel
theorem dX1_begin_27 : decode cX1_begin 27 = .ok (.return_, 1) := by decide +kernel
theorem dX1_widen_0 : decode cX1_widen 0 = .ok (.iconst 0, 1) := by decide +kernel
theorem dX1_widen_1 : decode cX1_widen 1 = .ok (.istore_n 2, 1) := by decide +kernel
theorem dX1_widen_2 : decode cX1_widen 2 = .ok (.iload_n 2, 1) := by decide +kernel
theorem dX1_widen_3 : decode cX1_widen 3 = .ok (.bipush 6, 2) := by decide +kernel
theorem dX1_widen_5 : decode cX1_widen 5 = .ok (.if_icmp .gt 20, 3) := by decide +kernel
theorem dX1_widen_8 : decode cX1_widen 8 = .ok (.aload_n 0, 1) := by decide +kernel
theorem dX1_widen_9 : decode cX1_widen 9 = .ok (.getfield 9, 3) := by decide +kernel
theorem dX1_widen_12 : decode cX1_widen 12 = .ok (.iload_n 2, 1) := by decide +kernel
theorem dX1_widen_13 : decode cX1_widen 13 = .ok (.dup2, 1) := by decide +kernel
theorem dX1_widen_14 : decode cX1_widen 14 = .ok (.laload, 1) := by decide +kernel
theorem dX1_widen_15 : decode cX1_widen 15 = .ok (.iload_n 1, 1) := by decide +kernel
theorem dX1_widen_16 : decode cX1_widen 16 = .ok (.i2l, 1) := by decide +kernel
theorem dX1_widen_17 : decode cX1_widen 17 = .ok (.lmul, 1) := by decide +kernel
theorem dX1_widen_18 : decode cX1_widen 18 = .ok (.lastore, 1) := by decide +kernel
theorem dX1_widen_19 : decode cX1_widen 19 = .ok (.iinc 2 1, 3) := by decide +kernel
theorem dX1_widen_22 : decode cX1_widen 22 = .ok (.goto (-20), 3) := by decide +kernel
theorem dX1_widen_25 : decode cX1_widen 25 = .ok (.aload_n 0, 1) := by decide +kernel
theorem dX1_widen_26 : decode cX1_widen 26 = .ok (.dup, 1) := by decide +kernel
theorem dX1_widen_27 : decode cX1_widen 27 = .ok (.getfield 15, 3) := by decide +kernel
theorem dX1_widen_30 : decode cX1_widen 30 = .ok (.iload_n 1, 1) := by decide +kernel
theorem dX1_widen_31 : decode cX1_widen 31 = .ok (.i2l, 1) := by decide +kernel
theorem dX1_widen_32 : decode cX1_widen 32 = .ok (.lmul, 1) := by decide +kernel
theorem dX1_widen_33 : decode cX1_widen 33 = .ok (.putfield 15, 3) := by decide +kernel
theorem dX1_widen_36 : decode cX1_widen 36 = .ok (.return_, 1) := by decide +kernel
set_option maxRecDepth 20000 in
theorem ggX1_sumOf_X3_tells : GoodIn wsX1_sumOf wsX3_tells := goodIn_r _ [8, 9, 10, 11, 12, 13] (by decide +kernel) (by decide +kernel)
set_option maxRecDepth 20000 in
theorem gX1_sumOf_X3_tells : GoodIn wsX1_sumOf (wsV RX1 25 RX3 yX3_tells wsX3_tells) := goodIn_app (goodIn_of _ (by decide +kernel)) ggX1_sumOf_X3_tells
theorem dX1_sumOf_0 : decode cX1_sumOf 0 = .ok (.lconst 0, 1) := by decide +kernel
theorem dX1_sumOf_1 : decode cX1_sumOf 1 = .ok (.lstore_n 3, 1) := by decide +kernel
theorem dX1_sumOf_2 : decode cX1_sumOf 2 = .ok (.iconst 0, 1) := by decide +kernel
theorem dX1_sumOf_3 : decode cX1_sumOf 3 = .ok (.istore 5, 2) := by decide +kernel
theorem dX1_sumOf_5 : decode cX1_sumOf 5 = .ok (.iload 5, 2) := by decide +kernel
theorem dX1_sumOf_7 : decode cX1_sumOf 7 = .ok (.aload_n 1, 1) := by decide +kernel
theorem dX1_sumOf_8 : decode cX1_sumOf 8 = .ok (.getfield 19, 3) := by decide +kernel
theorem dX1_sumOf_11 : decode cX1_sumOf 11 = .ok (.if_icmp .ge 38, 3) := by decide +kernel
theorem dX1_sumOf_14 : decode cX1_sumOf 14 = .ok (.aload_n 1, 1) := by decide +kernel
theorem dX1_sumOf_15 : decode cX1_sumOf 15 = .ok (.iload 5, 2) := by decide +kernel
theorem dX1_sumOf_17 : decode cX1_sumOf 17 = .ok (.iload_n 2, 1) := by decide +kernel
theorem dX1_sumOf_18 : decode cX1_sumOf 18 = .ok (.invokevirtual 25, 3) := by decide +kernel
theorem dX1_sumOf_21 : decode cX1_sumOf 21 = .ok (.ifCond .eq 22, 3) := by decide +kernel
theorem dX1_sumOf_24 : decode cX1_sumOf 24 = .ok (.lload_n 3, 1) := by decide +kernel
theorem dX1_sumOf_25 : decode cX1_sumOf 25 = .ok (.aload_n 0, 1) := by decide +kernel
theorem dX1_sumOf_26 : decode cX1_sumOf 26 = .ok (.getfield 9, 3) := by decide +kernel
theorem dX1_sumOf_29 : decode cX1_sumOf 29 = .ok (.iload 5, 2) := by decide +kernel
theorem dX1_sumOf_31 : decode cX1_sumOf 31 = .ok (.laload, 1) := by decide +kernel
theorem dX1_sumOf_32 : decode cX1_sumOf 32 = .ok (.aload_n 1, 1) := by decide +kernel
theorem dX1_sumOf_33 : decode cX1_sumOf 33 = .ok (.getfield 29, 3) := by decide +kernel
theorem dX1_sumOf_36 : decode cX1_sumOf 36 = .ok (.iload 5, 2) := by decide +kernel
theorem dX1_sumOf_38 : decode cX1_sumOf 38 = .ok (.iaload, 1) := by decide +kernel
theorem dX1_sumOf_39 : decode cX1_sumOf 39 = .ok (.i2l, 1) := by decide +kernel
theorem dX1_sumOf_40 : decode cX1_sumOf 40 = .ok (.lmul, 1) := by decide +kernel
theorem dX1_sumOf_41 : decode cX1_sumOf 41 = .ok (.ladd, 1) := by decide +kernel
theorem dX1_sumOf_42 : decode cX1_sumOf 42 = .ok (.lstore_n 3, 1) := by decide +kernel
theorem dX1_sumOf_43 : decode cX1_sumOf 43 = .ok (.iinc 5 1, 3) := by decide +kernel
theorem dX1_sumOf_46 : decode cX1_sumOf 46 = .ok (.goto (-41), 3) := by decide +kernel
theorem dX1_sumOf_49 : decode cX1_sumOf 49 = .ok (.lload_n 3, 1) := by decide +kernel
theorem dX1_sumOf_50 : decode cX1_sumOf 50 = .ok (.lreturn, 1) := by decide +kernel
set_option maxRecDepth 20000 in
theorem ggX1_lowest_X1_commonDivisor : GoodIn wsX1_lowest wsX1_commonDivisor := goodIn_r _ [6] (by decide +kernel) (by decide +kernel)
set_option maxRecDepth 20000 in
theorem gX1_lowest_X1_commonDivisor : GoodIn wsX1_lowest (va_wsS RX1 33 yX1_commonDivisor wsX1_commonDivisor) := goodIn_app (goodIn_of _ (by decide +kernel)) ggX1_lowest_X1_commonDivisor
theorem dX1_lowest_0 : decode cX1_lowest 0 = .ok (.iload_n 1, 1) := by decide +kernel
theorem dX1_lowest_1 : decode cX1_lowest 1 = .ok (.ifCond .lt 9, 3) := by decide +kernel
theorem dX1_lowest_4 : decode cX1_lowest 4 = .ok (.iload_n 1, 1) := by decide +kernel
theorem dX1_lowest_5 : decode cX1_lowest 5 = .ok (.bipush 6, 2) := by decide +kernel
theorem dX1_lowest_7 : decode cX1_lowest 7 = .ok (.if_icmp .le 5, 3) := by decide +kernel
theorem dX1_lowest_10 : decode cX1_lowest 10 = .ok (.lconst 0, 1) := by decide +kernel
theorem dX1_lowest_11 : decode cX1_lowest 11 = .ok (.lreturn, 1) := by decide +kernel
theorem dX1_lowest_12 : decode cX1_lowest 12 = .ok (.iload_n 2, 1) := by decide +kernel
theorem dX1_lowest_13 : decode cX1_lowest 13 = .ok (.ifCond .ne 12, 3) := by decide +kernel
theorem dX1_lowest_16 : decode cX1_lowest 16 = .ok (.aload_n 0, 1) := by decide +kernel
theorem dX1_lowest_17 : decode cX1_lowest 17 = .ok (.getfield 9, 3) := by decide +kernel
theorem dX1_lowest_20 : decode cX1_lowest 20 = .ok (.iload_n 1, 1) := by decide +kernel
theorem dX1_lowest_21 : decode cX1_lowest 21 = .ok (.laload, 1) := by decide +kernel
theorem dX1_lowest_22 : decode cX1_lowest 22 = .ok (.goto 7, 3) := by decide +kernel
theorem dX1_lowest_25 : decode cX1_lowest 25 = .ok (.aload_n 0, 1) := by decide +kernel
theorem dX1_lowest_26 : decode cX1_lowest 26 = .ok (.getfield 15, 3) := by decide +kernel
theorem dX1_lowest_29 : decode cX1_lowest 29 = .ok (.lstore_n 3, 1) := by decide +kernel
theorem dX1_lowest_30 : decode cX1_lowest 30 = .ok (.aload_n 0, 1) := by decide +kernel
theorem dX1_lowest_31 : decode cX1_lowest 31 = .ok (.getfield 15, 3) := by decide +kernel
theorem dX1_lowest_34 : decode cX1_lowest 34 = .ok (.aload_n 0, 1) := by decide +kernel
theorem dX1_lowest_35 : decode cX1_lowest 35 = .ok (.getfield 9, 3) := by decide +kernel
theorem dX1_lowest_38 : decode cX1_lowest 38 = .ok (.iload_n 1, 1) := by decide +kernel
theorem dX1_lowest_39 : decode cX1_lowest 39 = .ok (.laload, 1) := by decide +kernel
theorem dX1_lowest_40 : decode cX1_lowest 40 = .ok (.invokestatic 33, 3) := by decide +kernel
theorem dX1_lowest_43 : decode cX1_lowest 43 = .ok (.lstore 5, 2) := by decide +kernel
theorem dX1_lowest_45 : decode cX1_lowest 45 = .ok (.lload 5, 2) := by decide +kernel
theorem dX1_lowest_47 : decode cX1_lowest 47 = .ok (.lconst 0, 1) := by decide +kernel
theorem dX1_lowest_48 : decode cX1_lowest 48 = .ok (.lcmp, 1) := by decide +kernel
theorem dX1_lowest_49 : decode cX1_lowest 49 = .ok (.ifCond .ne 7, 3) := by decide +kernel
theorem dX1_lowest_52 : decode cX1_lowest 52 = .ok (.lload_n 3, 1) := by decide +kernel
theorem dX1_lowest_53 : decode cX1_lowest 53 = .ok (.goto 7, 3) := by decide +kernel
theorem dX1_lowest_56 : decode cX1_lowest 56 = .ok (.lload_n 3, 1) := by decide +kernel
theorem dX1_lowest_57 : decode cX1_lowest 57 = .ok (.lload 5, 2) := by decide +kernel
theorem dX1_lowest_59 : decode cX1_lowest 59 = .ok (.ldiv, 1) := by decide +kernel
theorem dX1_lowest_60 : decode cX1_lowest 60 = .ok (.lreturn, 1) := by decide +kernel
theorem dX1_commonDivisor_0 : decode cX1_commonDivisor 0 = .ok (.iconst 0, 1) := by decide +kernel
theorem dX1_commonDivisor_1 : decode cX1_commonDivisor 1 = .ok (.istore 4, 2) := by decide +kernel
theorem dX1_commonDivisor_3 : decode cX1_commonDivisor 3 = .ok (.iload 4, 2) := by decide +kernel
theorem dX1_commonDivisor_5 : decode cX1_commonDivisor 5 = .ok (.bipush 100, 2) := by decide +kernel
theorem dX1_commonDivisor_7 : decode cX1_commonDivisor 7 = .ok (.if_icmp .ge 25, 3) := by decide +kernel
theorem dX1_commonDivisor_10 : decode cX1_commonDivisor 10 = .ok (.lload_n 2, 1) := by decide +kernel
theorem dX1_commonDivisor_11 : decode cX1_commonDivisor 11 = .ok (.lconst 0, 1) := by decide +kernel
theorem dX1_commonDivisor_12 : decode cX1_commonDivisor 12 = .ok (.lcmp, 1) := by decide +kernel
theorem dX1_commonDivisor_13 : decode cX1_commonDivisor 13 = .ok (.ifCond .eq 19, 3) := by decide +kernel
theorem dX1_commonDivisor_16 : decode cX1_commonDivisor 16 = .ok (.lload_n 0, 1) := by decide +kernel
theorem dX1_commonDivisor_17 : decode cX1_commonDivisor 17 = .ok (.lload_n 2, 1) := by decide +kernel
theorem dX1_commonDivisor_18 : decode cX1_commonDivisor 18 = .ok (.lrem, 1) := by decide +kernel
theorem dX1_commonDivisor_19 : decode cX1_commonDivisor 19 = .ok (.lstore 5, 2) := by decide +kernel
theorem dX1_commonDivisor_21 : decode cX1_commonDivisor 21 = .ok (.lload_n 2, 1) := by decide +kernel
theorem dX1_commonDivisor_22 : decode cX1_commonDivisor 22 = .ok (.lstore_n 0, 1) := by decide +kernel
theorem dX1_commonDivisor_23 : decode cX1_commonDivisor 23 = .ok (.lload 5, 2) := by decide +kernel
theorem dX1_commonDivisor_25 : decode cX1_commonDivisor 25 = .ok (.lstore_n 2, 1) := by decide +kernel
theorem dX1_commonDivisor_26 : decode cX1_commonDivisor 26 = .ok (.iinc 4 1, 3) := by decide +kernel
theorem dX1_commonDivisor_29 : decode cX1_commonDivisor 29 = .ok (.goto (-26), 3) := by decide +kernel
theorem dX1_commonDivisor_32 : decode cX1_commonDivisor 32 = .ok (.lload_n 0, 1) := by decide +kernel
theorem dX1_commonDivisor_33 : decode cX1_commonDivisor 33 = .ok (.lreturn, 1) := by decide +kernel
theorem dX2_init_0 : decode cX2_init 0 = .ok (.aload_n 0, 1) := by decide +kernel
theorem dX2_init_1 : decode cX2_init 1 = .ok (.invokespecial 3, 3) := by decide +kernel
theorem dX2_init_4 : decode cX2_init 4 = .ok (.aload_n 0, 1) := by decide +kernel
theorem dX2_init_5 : decode cX2_init 5 = .ok (.bipush 64, 2) := by decide +kernel
theorem dX2_init_7 : decode cX2_init 7 = .ok (.newarray .int, 2) := by decide +kernel
theorem dX2_init_9 : decode cX2_init 9 = .ok (.putfield 9, 3) := by decide +kernel
theorem dX2_init_12 : decode cX2_init 12 = .ok (.aload_n 0, 1) := by decide +kernel
theorem dX2_init_13 : decode cX2_init 13 = .ok (.bipush 64, 2) := by decide +kernel
theorem dX2_init_15 : decode cX2_init 15 = .ok (.newarray .int, 2) := by decide +kernel
theorem dX2_init_17 : decode cX2_init 17 = .ok (.putfield 15, 3) := by decide +kernel
theorem dX2_init_20 : decode cX2_init 20 = .ok (.aload_n 0, 1) := by decide +kernel
theorem dX2_init_21 : decode cX2_init 21 = .ok (.bipush 64, 2) := by decide +kernel
theorem dX2_init_23 : decode cX2_init 23 = .ok (.newarray .int, 2) := by decide +kernel
theorem dX2_init_25 : decode cX2_init 25 = .ok (.putfield 18, 3) := by decide +kernel
theorem dX2_init_28 : decode cX2_init 28 = .ok (.aload_n 0, 1) := by decide +kernel
theorem dX2_init_29 : decode cX2_init 29 = .ok (.bipush 64, 2) := by decide +kernel
theorem dX2_init_31 : decode cX2_init 31 = .ok (.newarray .int, 2) := by decide +kernel
theorem dX2_init_33 : decode cX2_init 33 = .ok (.putfield 21, 3) := by decide +kernel
theorem dX2_init_36 : decode cX2_init 36 = .ok (.aload_n 0, 1) := by decide +kernel
theorem dX2_init_37 : decode cX2_init 37 = .ok (.bipush 64, 2) := by decide +kernel
theorem dX2_init_39 : decode cX2_init 39 = .ok (.newarray .int, 2) := by decide +kernel
theorem dX2_init_41 : decode cX2_init 41 = .ok (.putfield 24, 3) := by decide +kernel
theorem dX2_init_44 : decode cX2_init 44 = .ok (.aload_n 0, 1) := by decide +kernel
theorem dX2_init_45 : decode cX2_init 45 = .ok (.bipush 6, 2) := by decide +kernel
theorem dX2_init_47 : decode cX2_init 47 = .ok (.newarray .int, 2) := by decide +kernel
theorem dX2_init_49 : decode cX2_init 49 = .ok (.putfield 27, 3) := by decide +kernel
theorem dX2_init_52 : decode cX2_init 52 = .ok (.return_, 1) := by decide +kernel
set_option maxRecDepth 20000 in
theorem ggX2_gather_X3_total : GoodIn wsX2_gather wsX3_total := goodIn_r _ [18, 19, 20, 32, 33, 34, 35] (by decide +kernel) (by decide +kernel)
set_option maxRecDepth 20000 in
theorem gX2_gather_X3_total : GoodIn wsX2_gather (wsV RX2 30 RX3 yX3_total wsX3_total) := goodIn_app (goodIn_of _ (by decide +kernel)) ggX2_gather_X3_total
set_option maxRecDepth 20000 in
theorem ggX2_gather_X2_lowestHeap : GoodIn wsX2_gather wsX2_lowestHeap := goodIn_r _ [24, 25, 26, 27, 28, 29, 30, 31] (by decide +kernel) (by decide +kernel)
set_option maxRecDepth 20000 in
theorem gX2_gather_X2_lowestHeap : GoodIn wsX2_gather (va_wsS RX2 48 yX2_lowestHeap wsX2_lowestHeap) := goodIn_app (goodIn_of _ (by decide +kernel)) ggX2_gather_X2_lowestHeap
set_option maxRecDepth 20000 in
theorem ggX2_gather_J6_bitCount_0f7a4 : GoodIn wsX2_gather wsJ6_bitCount_0f7a4 := goodIn_r _ [28, 29, 30, 31] (by decide +kernel) (by decide +kernel)
set_option maxRecDepth 20000 in
theorem gX2_gather_J6_bitCount_0f7a4 : GoodIn wsX2_gather (va_wsS RX2 53 yJ6_bitCount_0f7a4 wsJ6_bitCount_0f7a4) := goodIn_app (goodIn_of _ (by decide +kernel)) ggX2_gather_J6_bitCount_0f7a4
theorem dX2_gather_0 : decode cX2_gather 0 = .ok (.aload_n 1, 1) := by decide +kernel
theorem dX2_gather_1 : decode cX2_gather 1 = .ok (.invokevirtual 30, 3) := by decide +kernel
theorem dX2_gather_4 : decode cX2_gather 4 = .ok (.istore_n 3, 1) := by decide +kernel
theorem dX2_gather_5 : decode cX2_gather 5 = .ok (.aload_n 0, 1) := by decide +kernel
theorem dX2_gather_6 : decode cX2_gather 6 = .ok (.iconst 1, 1) := by decide +kernel
theorem dX2_gather_7 : decode cX2_gather 7 = .ok (.aload_n 1, 1) := by decide +kernel
theorem dX2_gather_8 : decode cX2_gather 8 = .ok (.getfield 36, 3) := by decide +kernel
theorem dX2_gather_11 : decode cX2_gather 11 = .ok (.bipush 6, 2) := by decide +kernel
theorem dX2_gather_13 : decode cX2_gather 13 = .ok (.invokestatic 40, 3) := by decide +kernel
theorem dX2_gather_16 : decode cX2_gather 16 = .ok (.ishl, 1) := by decide +kernel
theorem dX2_gather_17 : decode cX2_gather 17 = .ok (.putfield 46, 3) := by decide +kernel
theorem dX2_gather_20 : decode cX2_gather 20 = .ok (.aload_n 0, 1) := by decide +kernel
theorem dX2_gather_21 : decode cX2_gather 21 = .ok (.getfield 9, 3) := by decide +kernel
theorem dX2_gather_24 : decode cX2_gather 24 = .ok (.iconst 0, 1) := by decide +kernel
theorem dX2_gather_25 : decode cX2_gather 25 = .ok (.sipush 255, 3) := by decide +kernel
theorem dX2_gather_28 : decode cX2_gather 28 = .ok (.iastore, 1) := by decide +kernel
theorem dX2_gather_29 : decode cX2_gather 29 = .ok (.iconst 0, 1) := by decide +kernel
theorem dX2_gather_30 : decode cX2_gather 30 = .ok (.istore 4, 2) := by decide +kernel
theorem dX2_gather_32 : decode cX2_gather 32 = .ok (.iload 4, 2) := by decide +kernel
theorem dX2_gather_34 : decode cX2_gather 34 = .ok (.bipush 6, 2) := by decide +kernel
theorem dX2_gather_36 : decode cX2_gather 36 = .ok (.if_icmp .ge 23, 3) := by decide +kernel
theorem dX2_gather_39 : decode cX2_gather 39 = .ok (.aload_n 0, 1) := by decide +kernel
theorem dX2_gather_40 : decode cX2_gather 40 = .ok (.getfield 27, 3) := by decide +kernel
theorem dX2_gather_43 : decode cX2_gather 43 = .ok (.iload 4, 2) := by decide +kernel
theorem dX2_gather_45 : decode cX2_gather 45 = .ok (.aload_n 1, 1) := by decide +kernel
theorem dX2_gather_46 : decode cX2_gather 46 = .ok (.getfield 47, 3) := by decide +kernel
theorem dX2_gather_49 : decode cX2_gather 49 = .ok (.iload 4, 2) := by decide +kernel
theorem dX2_gather_51 : decode cX2_gather 51 = .ok (.iaload, 1) := by decide +kernel
theorem dX2_gather_52 : decode cX2_gather 52 = .ok (.iastore, 1) := by decide +kernel
theorem dX2_gather_53 : decode cX2_gather 53 = .ok (.iinc 4 1, 3) := by decide +kernel
theorem dX2_gather_56 : decode cX2_gather 56 = .ok (.goto (-24), 3) := by decide +kernel
theorem dX2_gather_59 : decode cX2_gather 59 = .ok (.iconst 1, 1) := by decide +kernel
theorem dX2_gather_60 : decode cX2_gather 60 = .ok (.istore 4, 2) := by decide +kernel
theorem dX2_gather_62 : decode cX2_gather 62 = .ok (.iload 4, 2) := by decide +kernel
theorem dX2_gather_64 : decode cX2_gather 64 = .ok (.aload_n 0, 1) := by decide +kernel
theorem dX2_gather_65 : decode cX2_gather 65 = .ok (.getfield 46, 3) := by decide +kernel
theorem dX2_gather_68 : decode cX2_gather 68 = .ok (.if_icmp .ge 134, 3) := by decide +kernel
theorem dX2_gather_71 : decode cX2_gather 71 = .ok (.iload 4, 2) := by decide +kernel
theorem dX2_gather_73 : decode cX2_gather 73 = .ok (.iload 4, 2) := by decide +kernel
theorem dX2_gather_75 : decode cX2_gather 75 = .ok (.iconst 1, 1) := by decide +kernel
theorem dX2_gather_76 : decode cX2_gather 76 = .ok (.isub, 1) := by decide +kernel
theorem dX2_gather_77 : decode cX2_gather 77 = .ok (.iand, 1) := by decide +kernel
theorem dX2_gather_78 : decode cX2_gather 78 = .ok (.istore 5, 2) := by decide +kernel
theorem dX2_gather_80 : decode cX2_gather 80 = .ok (.iload 4, 2) := by decide +kernel
theorem dX2_gather_82 : decode cX2_gather 82 = .ok (.invokestatic 48, 3) := by decide +kernel
theorem dX2_gather_85 : decode cX2_gather 85 = .ok (.istore 6, 2) := by decide +kernel
theorem dX2_gather_87 : decode cX2_gather 87 = .ok (.aload_n 0, 1) := by decide +kernel
theorem dX2_gather_88 : decode cX2_gather 88 = .ok (.getfield 9, 3) := by decide +kernel
theorem dX2_gather_91 : decode cX2_gather 91 = .ok (.iload 4, 2) := by decide +kernel
theorem dX2_gather_93 : decode cX2_gather 93 = .ok (.aload_n 0, 1) := by decide +kernel
theorem dX2_gather_94 : decode cX2_gather 94 = .ok (.getfield 9, 3) := by decide +kernel
theorem dX2_gather_97 : decode cX2_gather 97 = .ok (.iload 5, 2) := by decide +kernel
theorem dX2_gather_99 : decode cX2_gather 99 = .ok (.iaload, 1) := by decide +kernel
theorem dX2_gather_100 : decode cX2_gather 100 = .ok (.aload_n 1, 1) := by decide +kernel
theorem dX2_gather_101 : decode cX2_gather 101 = .ok (.getfield 47, 3) := by decide +kernel
theorem dX2_gather_104 : decode cX2_gather 104 = .ok (.iload 6, 2) := by decide +kernel
theorem dX2_gather_106 : decode cX2_gather 106 = .ok (.iaload, 1) := by decide +kernel
theorem dX2_gather_107 : decode cX2_gather 107 = .ok (.iand, 1) := by decide +kernel
theorem dX2_gather_108 : decode cX2_gather 108 = .ok (.iastore, 1) := by decide +kernel
theorem dX2_gather_109 : decode cX2_gather 109 = .ok (.aload_n 0, 1) := by decide +kernel
theorem dX2_gather_110 : decode cX2_gather 110 = .ok (.getfield 15, 3) := by decide +kernel
theorem dX2_gather_113 : decode cX2_gather 113 = .ok (.iload 4, 2) := by decide +kernel
theorem dX2_gather_115 : decode cX2_gather 115 = .ok (.aload_n 0, 1) := by decide +kernel
theorem dX2_gather_116 : decode cX2_gather 116 = .ok (.getfield 15, 3) := by decide +kernel
theorem dX2_gather_119 : decode cX2_gather 119 = .ok (.iload 5, 2) := by decide +kernel
theorem dX2_gather_121 : decode cX2_gather 121 = .ok (.iaload, 1) := by decide +kernel
theorem dX2_gather_122 : decode cX2_gather 122 = .ok (.aload_n 1, 1) := by decide +kernel
theorem dX2_gather_123 : decode cX2_gather 123 = .ok (.getfield 47, 3) := by decide +kernel
theorem dX2_gather_126 : decode cX2_gather 126 = .ok (.iload 6, 2) := by decide +kernel
theorem dX2_gather_128 : decode cX2_gather 128 = .ok (.iaload, 1) := by decide +kernel
theorem dX2_gather_129 : decode cX2_gather 129 = .ok (.ior, 1) := by decide +kernel
theorem dX2_gather_130 : decode cX2_gather 130 = .ok (.iastore, 1) := by decide +kernel
theorem dX2_gather_131 : decode cX2_gather 131 = .ok (.aload_n 0, 1) := by decide +kernel
theorem dX2_gather_132 : decode cX2_gather 132 = .ok (.getfield 18, 3) := by decide +kernel
theorem dX2_gather_135 : decode cX2_gather 135 = .ok (.iload 4, 2) := by decide +kernel
theorem dX2_gather_137 : decode cX2_gather 137 = .ok (.aload_n 0, 1) := by decide +kernel
theorem dX2_gather_138 : decode cX2_gather 138 = .ok (.getfield 18, 3) := by decide +kernel
theorem dX2_gather_141 : decode cX2_gather 141 = .ok (.iload 5, 2) := by decide +kernel
theorem dX2_gather_143 : decode cX2_gather 143 = .ok (.iaload, 1) := by decide +kernel
theorem dX2_gather_144 : decode cX2_gather 144 = .ok (.aload_n 1, 1) := by decide +kernel
theorem dX2_gather_145 : decode cX2_gather 145 = .ok (.getfield 52, 3) := by decide +kernel
theorem dX2_gather_148 : decode cX2_gather 148 = .ok (.iload 6, 2) := by decide +kernel
theorem dX2_gather_150 : decode cX2_gather 150 = .ok (.iaload, 1) := by decide +kernel
theorem dX2_gather_151 : decode cX2_gather 151 = .ok (.iadd, 1) := by decide +kernel
theorem dX2_gather_152 : decode cX2_gather 152 = .ok (.iastore, 1) := by decide +kernel
theorem dX2_gather_153 : decode cX2_gather 153 = .ok (.iload_n 3, 1) := by decide +kernel
theorem dX2_gather_154 : decode cX2_gather 154 = .ok (.ifCond .le 17, 3) := by decide +kernel
theorem dX2_gather_157 : decode cX2_gather 157 = .ok (.aload_n 0, 1) := by decide +kernel
theorem dX2_gather_158 : decode cX2_gather 158 = .ok (.getfield 18, 3) := by decide +kernel
theorem dX2_gather_161 : decode cX2_gather 161 = .ok (.iload 4, 2) := by decide +kernel
theorem dX2_gather_163 : decode cX2_gather 163 = .ok (.iaload, 1) := by decide +kernel
theorem dX2_gather_164 : decode cX2_gather 164 = .ok (.iload_n 2, 1) := by decide +kernel
theorem dX2_gather_165 : decode cX2_gather 165 = .ok (.imul, 1) := by decide +kernel
theorem dX2_gather_166 : decode cX2_gather 166 = .ok (.iload_n 3, 1) := by decide +kernel
theorem dX2_gather_167 : decode cX2_gather 167 = .ok (.idiv, 1) := by decide +kernel
theorem dX2_gather_168 : decode cX2_gather 168 = .ok (.goto 4, 3) := by decide +kernel
theorem dX2_gather_171 : decode cX2_gather 171 = .ok (.iconst 0, 1) := by decide +kernel
theorem dX2_gather_172 : decode cX2_gather 172 = .ok (.istore 7, 2) := by decide +kernel
theorem dX2_gather_174 : decode cX2_gather 174 = .ok (.aload_n 0, 1) := by decide +kernel
theorem dX2_gather_175 : decode cX2_gather 175 = .ok (.getfield 21, 3) := by decide +kernel
theorem dX2_gather_178 : decode cX2_gather 178 = .ok (.iload 4, 2) := by decide +kernel
theorem dX2_gather_180 : decode cX2_gather 180 = .ok (.aload_n 0, 1) := by decide +kernel
theorem dX2_gather_181 : decode cX2_gather 181 = .ok (.getfield 9, 3) := by decide +kernel
theorem dX2_gather_184 : decode cX2_gather 184 = .ok (.iload 4, 2) := by decide +kernel
theorem dX2_gather_186 : decode cX2_gather 186 = .ok (.iaload, 1) := by decide +kernel
theorem dX2_gather_187 : decode cX2_gather 187 = .ok (.invokestatic 53, 3) := by decide +kernel
theorem dX2_gather_190 : decode cX2_gather 190 = .ok (.iload 7, 2) := by decide +kernel
theorem dX2_gather_192 : decode cX2_gather 192 = .ok (.invokestatic 40, 3) := by decide +kernel
theorem dX2_gather_195 : decode cX2_gather 195 = .ok (.iastore, 1) := by decide +kernel
theorem dX2_gather_196 : decode cX2_gather 196 = .ok (.iinc 4 1, 3) := by decide +kernel
theorem dX2_gather_199 : decode cX2_gather 199 = .ok (.goto (-137), 3) := by decide +kernel
theorem dX2_gather_202 : decode cX2_gather 202 = .ok (.return_, 1) := by decide +kernel
set_option maxRecDepth 20000 in
theorem ggX2_seekBreach_X2_countMostHad : GoodIn wsX2_seekBreach wsX2_countMostHad := goodIn_r _ [11, 3, 12, 5, 13, 14, 15, 16, 17, 18, 10, 19, 20, 21, 22, 23, 24, 25, 26, 27, 28, 29, 30, 31, 32, 33, 34, 35] (by decide +kernel) (by decide +kernel)
set_option maxRecDepth 20000 in
theorem gX2_seekBreach_X2_countMostHad : GoodIn wsX2_seekBreach (wsV RX2 64 RX2 yX2_countMostHad wsX2_countMostHad) := goodIn_app (goodIn_of _ (by decide +kernel)) ggX2_seekBreach_X2_countMostHad
set_option maxRecDepth 20000 in
theorem ggX2_seekBreach_J6_bitCount_0f7a4 : GoodIn wsX2_seekBreach wsJ6_bitCount_0f7a4 := goodIn_r _ [23, 24, 25, 26] (by decide +kernel) (by decide +kernel)
set_option maxRecDepth 20000 in
theorem gX2_seekBreach_J6_bitCount_0f7a4 : GoodIn wsX2_seekBreach (va_wsS RX2 53 yJ6_bitCount_0f7a4 wsJ6_bitCount_0f7a4) := goodIn_app (goodIn_of _ (by decide +kernel)) ggX2_seekBreach_J6_bitCount_0f7a4
theorem dX2_seekBreach_0 : decode cX2_seekBreach 0 = .ok (.aload_n 0, 1) := by decide +kernel
theorem dX2_seekBreach_1 : decode cX2_seekBreach 1 = .ok (.bipush (-6), 2) := by decide +kernel
theorem dX2_seekBreach_3 : decode cX2_seekBreach 3 = .ok (.putfield 58, 3) := by decide +kernel
theorem dX2_seekBreach_6 : decode cX2_seekBreach 6 = .ok (.aload_n 0, 1) := by decide +kernel
theorem dX2_seekBreach_7 : decode cX2_seekBreach 7 = .ok (.bipush (-6), 2) := by decide +kernel
theorem dX2_seekBreach_9 : decode cX2_seekBreach 9 = .ok (.putfield 61, 3) := by decide +kernel
theorem dX2_seekBreach_12 : decode cX2_seekBreach 12 = .ok (.iload_n 1, 1) := by decide +kernel
theorem dX2_seekBreach_13 : decode cX2_seekBreach 13 = .ok (.iconst 1, 1) := by decide +kernel
theorem dX2_seekBreach_14 : decode cX2_seekBreach 14 = .ok (.if_icmp .eq 8, 3) := by decide +kernel
theorem dX2_seekBreach_17 : decode cX2_seekBreach 17 = .ok (.aload_n 0, 1) := by decide +kernel
theorem dX2_seekBreach_18 : decode cX2_seekBreach 18 = .ok (.iload_n 2, 1) := by decide +kernel
theorem dX2_seekBreach_19 : decode cX2_seekBreach 19 = .ok (.invokevirtual 64, 3) := by decide +kernel
theorem dX2_seekBreach_22 : decode cX2_seekBreach 22 = .ok (.iconst 1, 1) := by decide +kernel
theorem dX2_seekBreach_23 : decode cX2_seekBreach 23 = .ok (.istore_n 3, 1) := by decide +kernel
theorem dX2_seekBreach_24 : decode cX2_seekBreach 24 = .ok (.iload_n 3, 1) := by decide +kernel
theorem dX2_seekBreach_25 : decode cX2_seekBreach 25 = .ok (.aload_n 0, 1) := by decide +kernel
theorem dX2_seekBreach_26 : decode cX2_seekBreach 26 = .ok (.getfield 46, 3) := by decide +kernel
theorem dX2_seekBreach_29 : decode cX2_seekBreach 29 = .ok (.if_icmp .ge 113, 3) := by decide +kernel
theorem dX2_seekBreach_32 : decode cX2_seekBreach 32 = .ok (.iload_n 1, 1) := by decide +kernel
theorem dX2_seekBreach_33 : decode cX2_seekBreach 33 = .ok (.iconst 1, 1) := by decide +kernel
theorem dX2_seekBreach_34 : decode cX2_seekBreach 34 = .ok (.if_icmp .ne 17, 3) := by decide +kernel
theorem dX2_seekBreach_37 : decode cX2_seekBreach 37 = .ok (.aload_n 0, 1) := by decide +kernel
theorem dX2_seekBreach_38 : decode cX2_seekBreach 38 = .ok (.getfield 15, 3) := by decide +kernel
theorem dX2_seekBreach_41 : decode cX2_seekBreach 41 = .ok (.iload_n 3, 1) := by decide +kernel
theorem dX2_seekBreach_42 : decode cX2_seekBreach 42 = .ok (.iaload, 1) := by decide +kernel
theorem dX2_seekBreach_43 : decode cX2_seekBreach 43 = .ok (.iload_n 2, 1) := by decide +kernel
theorem dX2_seekBreach_44 : decode cX2_seekBreach 44 = .ok (.iand, 1) := by decide +kernel
theorem dX2_seekBreach_45 : decode cX2_seekBreach 45 = .ok (.invokestatic 53, 3) := by decide +kernel
theorem dX2_seekBreach_48 : decode cX2_seekBreach 48 = .ok (.goto 9, 3) := by decide +kernel
theorem dX2_seekBreach_51 : decode cX2_seekBreach 51 = .ok (.aload_n 0, 1) := by decide +kernel
theorem dX2_seekBreach_52 : decode cX2_seekBreach 52 = .ok (.getfield 24, 3) := by decide +kernel
theorem dX2_seekBreach_55 : decode cX2_seekBreach 55 = .ok (.iload_n 3, 1) := by decide +kernel
theorem dX2_seekBreach_56 : decode cX2_seekBreach 56 = .ok (.iaload, 1) := by decide +kernel
theorem dX2_seekBreach_57 : decode cX2_seekBreach 57 = .ok (.istore 4, 2) := by decide +kernel
theorem dX2_seekBreach_59 : decode cX2_seekBreach 59 = .ok (.iload_n 1, 1) := by decide +kernel
theorem dX2_seekBreach_60 : decode cX2_seekBreach 60 = .ok (.ifCond .ne 8, 3) := by decide +kernel
theorem dX2_seekBreach_63 : decode cX2_seekBreach 63 = .ok (.iload 4, 2) := by decide +kernel
theorem dX2_seekBreach_65 : decode cX2_seekBreach 65 = .ok (.ifCond .ne 7, 3) := by decide +kernel
theorem dX2_seekBreach_68 : decode cX2_seekBreach 68 = .ok (.iconst 1, 1) := by decide +kernel
theorem dX2_seekBreach_69 : decode cX2_seekBreach 69 = .ok (.goto 4, 3) := by decide +kernel
theorem dX2_seekBreach_72 : decode cX2_seekBreach 72 = .ok (.iconst 0, 1) := by decide +kernel
theorem dX2_seekBreach_73 : decode cX2_seekBreach 73 = .ok (.istore 5, 2) := by decide +kernel
theorem dX2_seekBreach_75 : decode cX2_seekBreach 75 = .ok (.iload 5, 2) := by decide +kernel
theorem dX2_seekBreach_77 : decode cX2_seekBreach 77 = .ok (.ifCond .eq 18, 3) := by decide +kernel
theorem dX2_seekBreach_80 : decode cX2_seekBreach 80 = .ok (.iload 4, 2) := by decide +kernel
theorem dX2_seekBreach_82 : decode cX2_seekBreach 82 = .ok (.aload_n 0, 1) := by decide +kernel
theorem dX2_seekBreach_83 : decode cX2_seekBreach 83 = .ok (.getfield 21, 3) := by decide +kernel
theorem dX2_seekBreach_86 : decode cX2_seekBreach 86 = .ok (.iload_n 3, 1) := by decide +kernel
theorem dX2_seekBreach_87 : decode cX2_seekBreach 87 = .ok (.iaload, 1) := by decide +kernel
theorem dX2_seekBreach_88 : decode cX2_seekBreach 88 = .ok (.if_icmp .ge 7, 3) := by decide +kernel
theorem dX2_seekBreach_91 : decode cX2_seekBreach 91 = .ok (.iconst 1, 1) := by decide +kernel
theorem dX2_seekBreach_92 : decode cX2_seekBreach 92 = .ok (.goto 4, 3) := by decide +kernel
theorem dX2_seekBreach_95 : decode cX2_seekBreach 95 = .ok (.iconst 0, 1) := by decide +kernel
theorem dX2_seekBreach_96 : decode cX2_seekBreach 96 = .ok (.istore 6, 2) := by decide +kernel
theorem dX2_seekBreach_98 : decode cX2_seekBreach 98 = .ok (.iload 6, 2) := by decide +kernel
theorem dX2_seekBreach_100 : decode cX2_seekBreach 100 = .ok (.ifCond .eq 36, 3) := by decide +kernel
theorem dX2_seekBreach_103 : decode cX2_seekBreach 103 = .ok (.aload_n 0, 1) := by decide +kernel
theorem dX2_seekBreach_104 : decode cX2_seekBreach 104 = .ok (.getfield 58, 3) := by decide +kernel
theorem dX2_seekBreach_107 : decode cX2_seekBreach 107 = .ok (.bipush (-6), 2) := by decide +kernel
theorem dX2_seekBreach_109 : decode cX2_seekBreach 109 = .ok (.if_icmp .eq 14, 3) := by decide +kernel
theorem dX2_seekBreach_112 : decode cX2_seekBreach 112 = .ok (.iload 4, 2) := by decide +kernel
theorem dX2_seekBreach_114 : decode cX2_seekBreach 114 = .ok (.iconst 1, 1) := by decide +kernel
theorem dX2_seekBreach_115 : decode cX2_seekBreach 115 = .ok (.iadd, 1) := by decide +kernel
theorem dX2_seekBreach_116 : decode cX2_seekBreach 116 = .ok (.aload_n 0, 1) := by decide +kernel
theorem dX2_seekBreach_117 : decode cX2_seekBreach 117 = .ok (.getfield 58, 3) := by decide +kernel
theorem dX2_seekBreach_120 : decode cX2_seekBreach 120 = .ok (.if_icmp .ge 16, 3) := by decide +kernel
theorem dX2_seekBreach_123 : decode cX2_seekBreach 123 = .ok (.aload_n 0, 1) := by decide +kernel
theorem dX2_seekBreach_124 : decode cX2_seekBreach 124 = .ok (.iload 4, 2) := by decide +kernel
theorem dX2_seekBreach_126 : decode cX2_seekBreach 126 = .ok (.iconst 1, 1) := by decide +kernel
theorem dX2_seekBreach_127 : decode cX2_seekBreach 127 = .ok (.iadd, 1) := by decide +kernel
theorem dX2_seekBreach_128 : decode cX2_seekBreach 128 = .ok (.putfield 58, 3) := by decide +kernel
theorem dX2_seekBreach_131 : decode cX2_seekBreach 131 = .ok (.aload_n 0, 1) := by decide +kernel
theorem dX2_seekBreach_132 : decode cX2_seekBreach 132 = .ok (.iload_n 3, 1) := by decide +kernel
theorem dX2_seekBreach_133 : decode cX2_seekBreach 133 = .ok (.putfield 61, 3) := by decide +kernel
theorem dX2_seekBreach_136 : decode cX2_seekBreach 136 = .ok (.iinc 3 1, 3) := by decide +kernel
theorem dX2_seekBreach_139 : decode cX2_seekBreach 139 = .ok (.goto (-115), 3) := by decide +kernel
theorem dX2_seekBreach_142 : decode cX2_seekBreach 142 = .ok (.return_, 1) := by decide +kernel
set_option maxRecDepth 20000 in
theorem ggX2_lowestHeap_J6_bitCount_0f7a4 : GoodIn wsX2_lowestHeap wsJ6_bitCount_0f7a4 := goodIn_r _ [4, 5, 6, 7] (by decide +kernel) (by decide +kernel)
set_option maxRecDepth 20000 in
theorem gX2_lowestHeap_J6_bitCount_0f7a4 : GoodIn wsX2_lowestHeap (va_wsS RX2 53 yJ6_bitCount_0f7a4 wsJ6_bitCount_0f7a4) := goodIn_app (goodIn_of _ (by decide +kernel)) ggX2_lowestHeap_J6_bitCount_0f7a4
theorem dX2_lowestHeap_0 : decode cX2_lowestHeap 0 = .ok (.iload_n 0, 1) := by decide +kernel
theorem dX2_lowestHeap_1 : decode cX2_lowestHeap 1 = .ok (.iload_n 0, 1) := by decide +kernel
theorem dX2_lowestHeap_2 : decode cX2_lowestHeap 2 = .ok (.ineg, 1) := by decide +kernel
theorem dX2_lowestHeap_3 : decode cX2_lowestHeap 3 = .ok (.iand, 1) := by decide +kernel
theorem dX2_lowestHeap_4 : decode cX2_lowestHeap 4 = .ok (.iconst 1, 1) := by decide +kernel
theorem dX2_lowestHeap_5 : decode cX2_lowestHeap 5 = .ok (.isub, 1) := by decide +kernel
theorem dX2_lowestHeap_6 : decode cX2_lowestHeap 6 = .ok (.invokestatic 53, 3) := by decide +kernel
theorem dX2_lowestHeap_9 : decode cX2_lowestHeap 9 = .ok (.ireturn, 1) := by decide +kernel
set_option maxRecDepth 20000 in
theorem ggX2_countMostHad_X2_lowestHeap : GoodIn wsX2_countMostHad wsX2_lowestHeap := goodIn_r _ [11, 12, 13, 14, 15, 16, 17, 18] (by decide +kernel) (by decide +kernel)
set_option maxRecDepth 20000 in
theorem gX2_countMostHad_X2_lowestHeap : GoodIn wsX2_countMostHad (va_wsS RX2 48 yX2_lowestHeap wsX2_lowestHeap) := goodIn_app (goodIn_of _ (by decide +kernel)) ggX2_countMostHad_X2_lowestHeap
set_option maxRecDepth 20000 in
theorem ggX2_countMostHad_J6_bitCount_0f7a4 : GoodIn wsX2_countMostHad wsJ6_bitCount_0f7a4 := goodIn_r _ [15, 16, 17, 18] (by decide +kernel) (by decide +kernel)
set_option maxRecDepth 20000 in
theorem gX2_countMostHad_J6_bitCount_0f7a4 : GoodIn wsX2_countMostHad (va_wsS RX2 53 yJ6_bitCount_0f7a4 wsJ6_bitCount_0f7a4) := goodIn_app (goodIn_of _ (by decide +kernel)) ggX2_countMostHad_J6_bitCount_0f7a4
theorem dX2_countMostHad_0 : decode cX2_countMostHad 0 = .ok (.iconst 1, 1) := by decide +kernel
theorem dX2_countMostHad_1 : decode cX2_countMostHad 1 = .ok (.istore_n 2, 1) := by decide +kernel
theorem dX2_countMostHad_2 : decode cX2_countMostHad 2 = .ok (.iload_n 2, 1) := by decide +kernel
theorem dX2_countMostHad_3 : decode cX2_countMostHad 3 = .ok (.aload_n 0, 1) := by decide +kernel
theorem dX2_countMostHad_4 : decode cX2_countMostHad 4 = .ok (.getfield 46, 3) := by decide +kernel
theorem dX2_countMostHad_7 : decode cX2_countMostHad 7 = .ok (.if_icmp .ge 44, 3) := by decide +kernel
theorem dX2_countMostHad_10 : decode cX2_countMostHad 10 = .ok (.aload_n 0, 1) := by decide +kernel
theorem dX2_countMostHad_11 : decode cX2_countMostHad 11 = .ok (.getfield 27, 3) := by decide +kernel
theorem dX2_countMostHad_14 : decode cX2_countMostHad 14 = .ok (.iload_n 2, 1) := by decide +kernel
theorem dX2_countMostHad_15 : decode cX2_countMostHad 15 = .ok (.invokestatic 48, 3) := by decide +kernel
theorem dX2_countMostHad_18 : decode cX2_countMostHad 18 = .ok (.iaload, 1) := by decide +kernel
theorem dX2_countMostHad_19 : decode cX2_countMostHad 19 = .ok (.iload_n 1, 1) := by decide +kernel
theorem dX2_countMostHad_20 : decode cX2_countMostHad 20 = .ok (.iand, 1) := by decide +kernel
theorem dX2_countMostHad_21 : decode cX2_countMostHad 21 = .ok (.invokestatic 53, 3) := by decide +kernel
theorem dX2_countMostHad_24 : decode cX2_countMostHad 24 = .ok (.istore_n 3, 1) := by decide +kernel
theorem dX2_countMostHad_25 : decode cX2_countMostHad 25 = .ok (.aload_n 0, 1) := by decide +kernel
theorem dX2_countMostHad_26 : decode cX2_countMostHad 26 = .ok (.getfield 24, 3) := by decide +kernel
theorem dX2_countMostHad_29 : decode cX2_countMostHad 29 = .ok (.iload_n 2, 1) := by decide +kernel
theorem dX2_countMostHad_30 : decode cX2_countMostHad 30 = .ok (.aload_n 0, 1) := by decide +kernel
theorem dX2_countMostHad_31 : decode cX2_countMostHad 31 = .ok (.getfield 24, 3) := by decide +kernel
theorem dX2_countMostHad_34 : decode cX2_countMostHad 34 = .ok (.iload_n 2, 1) := by decide +kernel
theorem dX2_countMostHad_35 : decode cX2_countMostHad 35 = .ok (.iload_n 2, 1) := by decide +kernel
theorem dX2_countMostHad_36 : decode cX2_countMostHad 36 = .ok (.iconst 1, 1) := by decide +kernel
theorem dX2_countMostHad_37 : decode cX2_countMostHad 37 = .ok (.isub, 1) := by decide +kernel
theorem dX2_countMostHad_38 : decode cX2_countMostHad 38 = .ok (.iand, 1) := by decide +kernel
theorem dX2_countMostHad_39 : decode cX2_countMostHad 39 = .ok (.iaload, 1) := by decide +kernel
theorem dX2_countMostHad_40 : decode cX2_countMostHad 40 = .ok (.iload_n 3, 1) := by decide +kernel
theorem dX2_countMostHad_41 : decode cX2_countMostHad 41 = .ok (.invokestatic 68, 3) := by decide +kernel
theorem dX2_countMostHad_44 : decode cX2_countMostHad 44 = .ok (.iastore, 1) := by decide +kernel
theorem dX2_countMostHad_45 : decode cX2_countMostHad 45 = .ok (.iinc 2 1, 3) := by decide +kernel
theorem dX2_countMostHad_48 : decode cX2_countMostHad 48 = .ok (.goto (-46), 3) := by decide +kernel
theorem dX2_countMostHad_51 : decode cX2_countMostHad 51 = .ok (.return_, 1) := by decide +kernel
theorem dX3_init_0 : decode cX3_init 0 = .ok (.aload_n 0, 1) := by decide +kernel
theorem dX3_init_1 : decode cX3_init 1 = .ok (.invokespecial 3, 3) := by decide +kernel
theorem dX3_init_4 : decode cX3_init 4 = .ok (.aload_n 0, 1) := by decide +kernel
theorem dX3_init_5 : decode cX3_init 5 = .ok (.bipush 7, 2) := by decide +kernel
theorem dX3_init_7 : decode cX3_init 7 = .ok (.newarray .int, 2) := by decide +kernel
theorem dX3_init_9 : decode cX3_init 9 = .ok (.putfield 9, 3) := by decide +kernel
theorem dX3_init_12 : decode cX3_init 12 = .ok (.aload_n 0, 1) := by decide +kernel
theorem dX3_init_13 : decode cX3_init 13 = .ok (.bipush 7, 2) := by decide +kernel
theorem dX3_init_15 : decode cX3_init 15 = .ok (.newarray .int, 2) := by decide +kernel
theorem dX3_init_17 : decode cX3_init 17 = .ok (.putfield 15, 3) := by decide +kernel
theorem dX3_init_20 : decode cX3_init 20 = .ok (.aload_n 0, 1) := by decide +kernel
theorem dX3_init_21 : decode cX3_init 21 = .ok (.aload_n 1, 1) := by decide +kernel
theorem dX3_init_22 : decode cX3_init 22 = .ok (.putfield 18, 3) := by decide +kernel
theorem dX3_init_25 : decode cX3_init 25 = .ok (.return_, 1) := by decide +kernel
theorem dX3_append_0 : decode cX3_append 0 = .ok (.aload_n 0, 1) := by decide +kernel
theorem dX3_append_1 : decode cX3_append 1 = .ok (.getfield 22, 3) := by decide +kernel
theorem dX3_append_4 : decode cX3_append 4 = .ok (.ifCond .lt 42, 3) := by decide +kernel
theorem dX3_append_7 : decode cX3_append 7 = .ok (.aload_n 0, 1) := by decide +kernel
theorem dX3_append_8 : decode cX3_append 8 = .ok (.getfield 22, 3) := by decide +kernel
theorem dX3_append_11 : decode cX3_append 11 = .ok (.bipush 6, 2) := by decide +kernel
theorem dX3_append_13 : decode cX3_append 13 = .ok (.if_icmp .gt 33, 3) := by decide +kernel
theorem dX3_append_16 : decode cX3_append 16 = .ok (.aload_n 0, 1) := by decide +kernel
theorem dX3_append_17 : decode cX3_append 17 = .ok (.getfield 9, 3) := by decide +kernel
theorem dX3_append_20 : decode cX3_append 20 = .ok (.aload_n 0, 1) := by decide +kernel
theorem dX3_append_21 : decode cX3_append 21 = .ok (.getfield 22, 3) := by decide +kernel
theorem dX3_append_24 : decode cX3_append 24 = .ok (.iload_n 1, 1) := by decide +kernel
theorem dX3_append_25 : decode cX3_append 25 = .ok (.iastore, 1) := by decide +kernel
theorem dX3_append_26 : decode cX3_append 26 = .ok (.aload_n 0, 1) := by decide +kernel
theorem dX3_append_27 : decode cX3_append 27 = .ok (.getfield 15, 3) := by decide +kernel
theorem dX3_append_30 : decode cX3_append 30 = .ok (.aload_n 0, 1) := by decide +kernel
theorem dX3_append_31 : decode cX3_append 31 = .ok (.getfield 22, 3) := by decide +kernel
theorem dX3_append_34 : decode cX3_append 34 = .ok (.iload_n 2, 1) := by decide +kernel
theorem dX3_append_35 : decode cX3_append 35 = .ok (.iastore, 1) := by decide +kernel
theorem dX3_append_36 : decode cX3_append 36 = .ok (.aload_n 0, 1) := by decide +kernel
theorem dX3_append_37 : decode cX3_append 37 = .ok (.dup, 1) := by decide +kernel
theorem dX3_append_38 : decode cX3_append 38 = .ok (.getfield 22, 3) := by decide +kernel
theorem dX3_append_41 : decode cX3_append 41 = .ok (.iconst 1, 1) := by decide +kernel
theorem dX3_append_42 : decode cX3_append 42 = .ok (.iadd, 1) := by decide +kernel
theorem dX3_append_43 : decode cX3_append 43 = .ok (.putfield 22, 3) := by decide +kernel
theorem dX3_append_46 : decode cX3_append 46 = .ok (.return_, 1) := by decide +kernel
theorem dX3_copyOf_0 : decode cX3_copyOf 0 = .ok (.iconst 0, 1) := by decide +kernel
theorem dX3_copyOf_1 : decode cX3_copyOf 1 = .ok (.istore_n 2, 1) := by decide +kernel
theorem dX3_copyOf_2 : decode cX3_copyOf 2 = .ok (.iload_n 2, 1) := by decide +kernel
theorem dX3_copyOf_3 : decode cX3_copyOf 3 = .ok (.bipush 6, 2) := by decide +kernel
theorem dX3_copyOf_5 : decode cX3_copyOf 5 = .ok (.if_icmp .gt 33, 3) := by decide +kernel
theorem dX3_copyOf_8 : decode cX3_copyOf 8 = .ok (.aload_n 0, 1) := by decide +kernel
theorem dX3_copyOf_9 : decode cX3_copyOf 9 = .ok (.getfield 9, 3) := by decide +kernel
theorem dX3_copyOf_12 : decode cX3_copyOf 12 = .ok (.iload_n 2, 1) := by decide +kernel
theorem dX3_copyOf_13 : decode cX3_copyOf 13 = .ok (.aload_n 1, 1) := by decide +kernel
theorem dX3_copyOf_14 : decode cX3_copyOf 14 = .ok (.getfield 9, 3) := by decide +kernel
theorem dX3_copyOf_17 : decode cX3_copyOf 17 = .ok (.iload_n 2, 1) := by decide +kernel
theorem dX3_copyOf_18 : decode cX3_copyOf 18 = .ok (.iaload, 1) := by decide +kernel
theorem dX3_copyOf_19 : decode cX3_copyOf 19 = .ok (.iastore, 1) := by decide +kernel
theorem dX3_copyOf_20 : decode cX3_copyOf 20 = .ok (.aload_n 0, 1) := by decide +kernel
theorem dX3_copyOf_21 : decode cX3_copyOf 21 = .ok (.getfield 15, 3) := by decide +kernel
theorem dX3_copyOf_24 : decode cX3_copyOf 24 = .ok (.iload_n 2, 1) := by decide +kernel
theorem dX3_copyOf_25 : decode cX3_copyOf 25 = .ok (.aload_n 1, 1) := by decide +kernel
theorem dX3_copyOf_26 : decode cX3_copyOf 26 = .ok (.getfield 15, 3) := by decide +kernel
theorem dX3_copyOf_29 : decode cX3_copyOf 29 = .ok (.iload_n 2, 1) := by decide +kernel
theorem dX3_copyOf_30 : decode cX3_copyOf 30 = .ok (.iaload, 1) := by decide +kernel
theorem dX3_copyOf_31 : decode cX3_copyOf 31 = .ok (.iastore, 1) := by decide +kernel
theorem dX3_copyOf_32 : decode cX3_copyOf 32 = .ok (.iinc 2 1, 3) := by decide +kernel
theorem dX3_copyOf_35 : decode cX3_copyOf 35 = .ok (.goto (-33), 3) := by decide +kernel
theorem dX3_copyOf_38 : decode cX3_copyOf 38 = .ok (.aload_n 0, 1) := by decide +kernel
theorem dX3_copyOf_39 : decode cX3_copyOf 39 = .ok (.aload_n 1, 1) := by decide +kernel
theorem dX3_copyOf_40 : decode cX3_copyOf 40 = .ok (.getfield 22, 3) := by decide +kernel
theorem dX3_copyOf_43 : decode cX3_copyOf 43 = .ok (.putfield 22, 3) := by decide +kernel
theorem dX3_copyOf_46 : decode cX3_copyOf 46 = .ok (.return_, 1) := by decide +kernel
theorem dX3_moveToLast_0 : decode cX3_moveToLast 0 = .ok (.iload_n 1, 1) := by decide +kernel
theorem dX3_moveToLast_1 : decode cX3_moveToLast 1 = .ok (.ifCond .lt 56, 3) := by decide +kernel
theorem dX3_moveToLast_4 : decode cX3_moveToLast 4 = .ok (.iload_n 1, 1) := by decide +kernel
theorem dX3_moveToLast_5 : decode cX3_moveToLast 5 = .ok (.aload_n 0, 1) := by decide +kernel
theorem dX3_moveToLast_6 : decode cX3_moveToLast 6 = .ok (.getfield 22, 3) := by decide +kernel
theorem dX3_moveToLast_9 : decode cX3_moveToLast 9 = .ok (.iconst 1, 1) := by decide +kernel
theorem dX3_moveToLast_10 : decode cX3_moveToLast 10 = .ok (.isub, 1) := by decide +kernel
theorem dX3_moveToLast_11 : decode cX3_moveToLast 11 = .ok (.if_icmp .ge 46, 3) := by decide +kernel
theorem dX3_moveToLast_14 : decode cX3_moveToLast 14 = .ok (.aload_n 0, 1) := by decide +kernel
theorem dX3_moveToLast_15 : decode cX3_moveToLast 15 = .ok (.getfield 22, 3) := by decide +kernel
theorem dX3_moveToLast_18 : decode cX3_moveToLast 18 = .ok (.bipush 7, 2) := by decide +kernel
theorem dX3_moveToLast_20 : decode cX3_moveToLast 20 = .ok (.if_icmp .gt 37, 3) := by decide +kernel
theorem dX3_moveToLast_23 : decode cX3_moveToLast 23 = .ok (.aload_n 0, 1) := by decide +kernel
theorem dX3_moveToLast_24 : decode cX3_moveToLast 24 = .ok (.getfield 15, 3) := by decide +kernel
theorem dX3_moveToLast_27 : decode cX3_moveToLast 27 = .ok (.iload_n 1, 1) := by decide +kernel
theorem dX3_moveToLast_28 : decode cX3_moveToLast 28 = .ok (.iaload, 1) := by decide +kernel
theorem dX3_moveToLast_29 : decode cX3_moveToLast 29 = .ok (.ifCond .le 28, 3) := by decide +kernel
theorem dX3_moveToLast_32 : decode cX3_moveToLast 32 = .ok (.aload_n 0, 1) := by decide +kernel
theorem dX3_moveToLast_33 : decode cX3_moveToLast 33 = .ok (.getfield 15, 3) := by decide +kernel
theorem dX3_moveToLast_36 : decode cX3_moveToLast 36 = .ok (.iload_n 1, 1) := by decide +kernel
theorem dX3_moveToLast_37 : decode cX3_moveToLast 37 = .ok (.dup2, 1) := by decide +kernel
theorem dX3_moveToLast_38 : decode cX3_moveToLast 38 = .ok (.iaload, 1) := by decide +kernel
theorem dX3_moveToLast_39 : decode cX3_moveToLast 39 = .ok (.iconst 1, 1) := by decide +kernel
theorem dX3_moveToLast_40 : decode cX3_moveToLast 40 = .ok (.isub, 1) := by decide +kernel
theorem dX3_moveToLast_41 : decode cX3_moveToLast 41 = .ok (.iastore, 1) := by decide +kernel
theorem dX3_moveToLast_42 : decode cX3_moveToLast 42 = .ok (.aload_n 0, 1) := by decide +kernel
theorem dX3_moveToLast_43 : decode cX3_moveToLast 43 = .ok (.getfield 15, 3) := by decide +kernel
theorem dX3_moveToLast_46 : decode cX3_moveToLast 46 = .ok (.aload_n 0, 1) := by decide +kernel
theorem dX3_moveToLast_47 : decode cX3_moveToLast 47 = .ok (.getfield 22, 3) := by decide +kernel
theorem dX3_moveToLast_50 : decode cX3_moveToLast 50 = .ok (.iconst 1, 1) := by decide +kernel
theorem dX3_moveToLast_51 : decode cX3_moveToLast 51 = .ok (.isub, 1) := by decide +kernel
theorem dX3_moveToLast_52 : decode cX3_moveToLast 52 = .ok (.dup2, 1) := by decide +kernel
theorem dX3_moveToLast_53 : decode cX3_moveToLast 53 = .ok (.iaload, 1) := by decide +kernel
theorem dX3_moveToLast_54 : decode cX3_moveToLast 54 = .ok (.iconst 1, 1) := by decide +kernel
theorem dX3_moveToLast_55 : decode cX3_moveToLast 55 = .ok (.iadd, 1) := by decide +kernel
theorem dX3_moveToLast_56 : decode cX3_moveToLast 56 = .ok (.iastore, 1) := by decide +kernel
theorem dX3_moveToLast_57 : decode cX3_moveToLast 57 = .ok (.return_, 1) := by decide +kernel
theorem dX3_tells_0 : decode cX3_tells 0 = .ok (.aload_n 0, 1) := by decide +kernel
theorem dX3_tells_1 : decode cX3_tells 1 = .ok (.getfield 9, 3) := by decide +kernel
theorem dX3_tells_4 : decode cX3_tells 4 = .ok (.iload_n 1, 1) := by decide +kernel
theorem dX3_tells_5 : decode cX3_tells 5 = .ok (.iaload, 1) := by decide +kernel
theorem dX3_tells_6 : decode cX3_tells 6 = .ok (.iload_n 2, 1) := by decide +kernel
theorem dX3_tells_7 : decode cX3_tells 7 = .ok (.ishr, 1) := by decide +kernel
theorem dX3_tells_8 : decode cX3_tells 8 = .ok (.iconst 1, 1) := by decide +kernel
theorem dX3_tells_9 : decode cX3_tells 9 = .ok (.iand, 1) := by decide +kernel
theorem dX3_tells_10 : decode cX3_tells 10 = .ok (.iconst 1, 1) := by decide +kernel
theorem dX3_tells_11 : decode cX3_tells 11 = .ok (.if_icmp .ne 7, 3) := by decide +kernel
theorem dX3_tells_14 : decode cX3_tells 14 = .ok (.iconst 1, 1) := by decide +kernel
theorem dX3_tells_15 : decode cX3_tells 15 = .ok (.goto 4, 3) := by decide +kernel
theorem dX3_tells_18 : decode cX3_tells 18 = .ok (.iconst 0, 1) := by decide +kernel
theorem dX3_tells_19 : decode cX3_tells 19 = .ok (.ireturn, 1) := by decide +kernel
theorem dX3_total_0 : decode cX3_total 0 = .ok (.iconst 0, 1) := by decide +kernel
theorem dX3_total_1 : decode cX3_total 1 = .ok (.istore_n 1, 1) := by decide +kernel
theorem dX3_total_2 : decode cX3_total 2 = .ok (.iconst 0, 1) := by decide +kernel
theorem dX3_total_3 : decode cX3_total 3 = .ok (.istore_n 2, 1) := by decide +kernel
theorem dX3_total_4 : decode cX3_total 4 = .ok (.iload_n 2, 1) := by decide +kernel
theorem dX3_total_5 : decode cX3_total 5 = .ok (.aload_n 0, 1) := by decide +kernel
theorem dX3_total_6 : decode cX3_total 6 = .ok (.getfield 22, 3) := by decide +kernel
theorem dX3_total_9 : decode cX3_total 9 = .ok (.if_icmp .ge 18, 3) := by decide +kernel
theorem dX3_total_12 : decode cX3_total 12 = .ok (.iload_n 1, 1) := by decide +kernel
theorem dX3_total_13 : decode cX3_total 13 = .ok (.aload_n 0, 1) := by decide +kernel
theorem dX3_total_14 : decode cX3_total 14 = .ok (.getfield 15, 3) := by decide +kernel
theorem dX3_total_17 : decode cX3_total 17 = .ok (.iload_n 2, 1) := by decide +kernel
theorem dX3_total_18 : decode cX3_total 18 = .ok (.iaload, 1) := by decide +kernel
theorem dX3_total_19 : decode cX3_total 19 = .ok (.iadd, 1) := by decide +kernel
theorem dX3_total_20 : decode cX3_total 20 = .ok (.istore_n 1, 1) := by decide +kernel
theorem dX3_total_21 : decode cX3_total 21 = .ok (.iinc 2 1, 3) := by decide +kernel
theorem dX3_total_24 : decode cX3_total 24 = .ok (.goto (-20), 3) := by decide +kernel
theorem dX3_total_27 : decode cX3_total 27 = .ok (.iload_n 1, 1) := by decide +kernel
theorem dX3_total_28 : decode cX3_total 28 = .ok (.ireturn, 1) := by decide +kernel
set_option maxRecDepth 20000 in
theorem ggX3_telling_X3_tells : GoodIn wsX3_telling wsX3_tells := goodIn_r _ [7, 8, 9, 10, 11, 12] (by decide +kernel) (by decide +kernel)
set_option maxRecDepth 20000 in
theorem gX3_telling_X3_tells : GoodIn wsX3_telling (wsV RX3 26 RX3 yX3_tells wsX3_tells) := goodIn_app (goodIn_of _ (by decide +kernel)) ggX3_telling_X3_tells
theorem dX3_telling_0 : decode cX3_telling 0 = .ok (.iconst 0, 1) := by decide +kernel
theorem dX3_telling_1 : decode cX3_telling 1 = .ok (.istore_n 2, 1) := by decide +kernel
theorem dX3_telling_2 : decode cX3_telling 2 = .ok (.iconst 0, 1) := by decide +kernel
theorem dX3_telling_3 : decode cX3_telling 3 = .ok (.istore_n 3, 1) := by decide +kernel
theorem dX3_telling_4 : decode cX3_telling 4 = .ok (.iload_n 3, 1) := by decide +kernel
theorem dX3_telling_5 : decode cX3_telling 5 = .ok (.aload_n 0, 1) := by decide +kernel
theorem dX3_telling_6 : decode cX3_telling 6 = .ok (.getfield 22, 3) := by decide +kernel
theorem dX3_telling_9 : decode cX3_telling 9 = .ok (.if_icmp .ge 27, 3) := by decide +kernel
theorem dX3_telling_12 : decode cX3_telling 12 = .ok (.aload_n 0, 1) := by decide +kernel
theorem dX3_telling_13 : decode cX3_telling 13 = .ok (.iload_n 3, 1) := by decide +kernel
theorem dX3_telling_14 : decode cX3_telling 14 = .ok (.iload_n 1, 1) := by decide +kernel
theorem dX3_telling_15 : decode cX3_telling 15 = .ok (.invokevirtual 26, 3) := by decide +kernel
theorem dX3_telling_18 : decode cX3_telling 18 = .ok (.ifCond .eq 12, 3) := by decide +kernel
theorem dX3_telling_21 : decode cX3_telling 21 = .ok (.iload_n 2, 1) := by decide +kernel
theorem dX3_telling_22 : decode cX3_telling 22 = .ok (.aload_n 0, 1) := by decide +kernel
theorem dX3_telling_23 : decode cX3_telling 23 = .ok (.getfield 15, 3) := by decide +kernel
theorem dX3_telling_26 : decode cX3_telling 26 = .ok (.iload_n 3, 1) := by decide +kernel
theorem dX3_telling_27 : decode cX3_telling 27 = .ok (.iaload, 1) := by decide +kernel
theorem dX3_telling_28 : decode cX3_telling 28 = .ok (.iadd, 1) := by decide +kernel
theorem dX3_telling_29 : decode cX3_telling 29 = .ok (.istore_n 2, 1) := by decide +kernel
theorem dX3_telling_30 : decode cX3_telling 30 = .ok (.iinc 3 1, 3) := by decide +kernel
theorem dX3_telling_33 : decode cX3_telling 33 = .ok (.goto (-29), 3) := by decide +kernel
theorem dX3_telling_36 : decode cX3_telling 36 = .ok (.iload_n 2, 1) := by decide +kernel
theorem dX3_telling_37 : decode cX3_telling 37 = .ok (.ireturn, 1) := by decide +kernel
set_option maxRecDepth 20000 in
theorem ggX3_worthOf_J6_bitCount_0f7a4 : GoodIn wsX3_worthOf wsJ6_bitCount_0f7a4 := goodIn_r _ [9, 10, 11, 12] (by decide +kernel) (by decide +kernel)
set_option maxRecDepth 20000 in
theorem gX3_worthOf_J6_bitCount_0f7a4 : GoodIn wsX3_worthOf (va_wsS RX3 35 yJ6_bitCount_0f7a4 wsJ6_bitCount_0f7a4) := goodIn_app (goodIn_of _ (by decide +kernel)) ggX3_worthOf_J6_bitCount_0f7a4
theorem dX3_worthOf_0 : decode cX3_worthOf 0 = .ok (.iconst 0, 1) := by decide +kernel
theorem dX3_worthOf_1 : decode cX3_worthOf 1 = .ok (.istore_n 2, 1) := by decide +kernel
theorem dX3_worthOf_2 : decode cX3_worthOf 2 = .ok (.iconst 0, 1) := by decide +kernel
theorem dX3_worthOf_3 : decode cX3_worthOf 3 = .ok (.istore_n 3, 1) := by decide +kernel
theorem dX3_worthOf_4 : decode cX3_worthOf 4 = .ok (.iload_n 3, 1) := by decide +kernel
theorem dX3_worthOf_5 : decode cX3_worthOf 5 = .ok (.aload_n 0, 1) := by decide +kernel
theorem dX3_worthOf_6 : decode cX3_worthOf 6 = .ok (.getfield 22, 3) := by decide +kernel
theorem dX3_worthOf_9 : decode cX3_worthOf 9 = .ok (.if_icmp .ge 42, 3) := by decide +kernel
theorem dX3_worthOf_12 : decode cX3_worthOf 12 = .ok (.iload_n 2, 1) := by decide +kernel
theorem dX3_worthOf_13 : decode cX3_worthOf 13 = .ok (.aload_n 0, 1) := by decide +kernel
theorem dX3_worthOf_14 : decode cX3_worthOf 14 = .ok (.getfield 15, 3) := by decide +kernel
theorem dX3_worthOf_17 : decode cX3_worthOf 17 = .ok (.iload_n 3, 1) := by decide +kernel
theorem dX3_worthOf_18 : decode cX3_worthOf 18 = .ok (.iaload, 1) := by decide +kernel
theorem dX3_worthOf_19 : decode cX3_worthOf 19 = .ok (.aload_n 0, 1) := by decide +kernel
theorem dX3_worthOf_20 : decode cX3_worthOf 20 = .ok (.getfield 18, 3) := by decide +kernel
theorem dX3_worthOf_23 : decode cX3_worthOf 23 = .ok (.getfield 30, 3) := by decide +kernel
theorem dX3_worthOf_26 : decode cX3_worthOf 26 = .ok (.aload_n 0, 1) := by decide +kernel
theorem dX3_worthOf_27 : decode cX3_worthOf 27 = .ok (.getfield 9, 3) := by decide +kernel
theorem dX3_worthOf_30 : decode cX3_worthOf 30 = .ok (.iload_n 3, 1) := by decide +kernel
theorem dX3_worthOf_31 : decode cX3_worthOf 31 = .ok (.iaload, 1) := by decide +kernel
theorem dX3_worthOf_32 : decode cX3_worthOf 32 = .ok (.iload_n 1, 1) := by decide +kernel
theorem dX3_worthOf_33 : decode cX3_worthOf 33 = .ok (.iand, 1) := by decide +kernel
theorem dX3_worthOf_34 : decode cX3_worthOf 34 = .ok (.sipush 255, 3) := by decide +kernel
theorem dX3_worthOf_37 : decode cX3_worthOf 37 = .ok (.iand, 1) := by decide +kernel
theorem dX3_worthOf_38 : decode cX3_worthOf 38 = .ok (.invokestatic 35, 3) := by decide +kernel
theorem dX3_worthOf_41 : decode cX3_worthOf 41 = .ok (.iaload, 1) := by decide +kernel
theorem dX3_worthOf_42 : decode cX3_worthOf 42 = .ok (.imul, 1) := by decide +kernel
theorem dX3_worthOf_43 : decode cX3_worthOf 43 = .ok (.iadd, 1) := by decide +kernel
theorem dX3_worthOf_44 : decode cX3_worthOf 44 = .ok (.istore_n 2, 1) := by decide +kernel
theorem dX3_worthOf_45 : decode cX3_worthOf 45 = .ok (.iinc 3 1, 3) := by decide +kernel
theorem dX3_worthOf_48 : decode cX3_worthOf 48 = .ok (.goto (-44), 3) := by decide +kernel
theorem dX3_worthOf_51 : decode cX3_worthOf 51 = .ok (.iload_n 2, 1) := by decide +kernel
theorem dX3_worthOf_52 : decode cX3_worthOf 52 = .ok (.ireturn, 1) := by decide +kernel
theorem dX3_wronged_0 : decode cX3_wronged 0 = .ok (.iconst 0, 1) := by decide +kernel
theorem dX3_wronged_1 : decode cX3_wronged 1 = .ok (.istore_n 2, 1) := by decide +kernel
theorem dX3_wronged_2 : decode cX3_wronged 2 = .ok (.iconst 0, 1) := by decide +kernel
theorem dX3_wronged_3 : decode cX3_wronged 3 = .ok (.istore_n 3, 1) := by decide +kernel
theorem dX3_wronged_4 : decode cX3_wronged 4 = .ok (.iload_n 3, 1) := by decide +kernel
theorem dX3_wronged_5 : decode cX3_wronged 5 = .ok (.aload_n 0, 1) := by decide +kernel
theorem dX3_wronged_6 : decode cX3_wronged 6 = .ok (.getfield 22, 3) := by decide +kernel
theorem dX3_wronged_9 : decode cX3_wronged 9 = .ok (.if_icmp .ge 29, 3) := by decide +kernel
theorem dX3_wronged_12 : decode cX3_wronged 12 = .ok (.aload_n 0, 1) := by decide +kernel
theorem dX3_wronged_13 : decode cX3_wronged 13 = .ok (.getfield 9, 3) := by decide +kernel
theorem dX3_wronged_16 : decode cX3_wronged 16 = .ok (.iload_n 3, 1) := by decide +kernel
theorem dX3_wronged_17 : decode cX3_wronged 17 = .ok (.iaload, 1) := by decide +kernel
theorem dX3_wronged_18 : decode cX3_wronged 18 = .ok (.iload_n 1, 1) := by decide +kernel
theorem dX3_wronged_19 : decode cX3_wronged 19 = .ok (.iand, 1) := by decide +kernel
theorem dX3_wronged_20 : decode cX3_wronged 20 = .ok (.ifCond .ne 12, 3) := by decide +kernel
theorem dX3_wronged_23 : decode cX3_wronged 23 = .ok (.iload_n 2, 1) := by decide +kernel
theorem dX3_wronged_24 : decode cX3_wronged 24 = .ok (.aload_n 0, 1) := by decide +kernel
theorem dX3_wronged_25 : decode cX3_wronged 25 = .ok (.getfield 15, 3) := by decide +kernel
theorem dX3_wronged_28 : decode cX3_wronged 28 = .ok (.iload_n 3, 1) := by decide +kernel
theorem dX3_wronged_29 : decode cX3_wronged 29 = .ok (.iaload, 1) := by decide +kernel
theorem dX3_wronged_30 : decode cX3_wronged 30 = .ok (.iadd, 1) := by decide +kernel
theorem dX3_wronged_31 : decode cX3_wronged 31 = .ok (.istore_n 2, 1) := by decide +kernel
theorem dX3_wronged_32 : decode cX3_wronged 32 = .ok (.iinc 3 1, 3) := by decide +kernel
theorem dX3_wronged_35 : decode cX3_wronged 35 = .ok (.goto (-31), 3) := by decide +kernel
theorem dX3_wronged_38 : decode cX3_wronged 38 = .ok (.iload_n 2, 1) := by decide +kernel
theorem dX3_wronged_39 : decode cX3_wronged 39 = .ok (.ireturn, 1) := by decide +kernel
theorem dX4_init_0 : decode cX4_init 0 = .ok (.aload_n 0, 1) := by decide +kernel
theorem dX4_init_1 : decode cX4_init 1 = .ok (.invokespecial 3, 3) := by decide +kernel
theorem dX4_init_4 : decode cX4_init 4 = .ok (.aload_n 0, 1) := by decide +kernel
theorem dX4_init_5 : decode cX4_init 5 = .ok (.bipush 10, 2) := by decide +kernel
theorem dX4_init_7 : decode cX4_init 7 = .ok (.newarray .int, 2) := by decide +kernel
theorem dX4_init_9 : decode cX4_init 9 = .ok (.putfield 9, 3) := by decide +kernel
theorem dX4_init_12 : decode cX4_init 12 = .ok (.aload_n 0, 1) := by decide +kernel
theorem dX4_init_13 : decode cX4_init 13 = .ok (.bipush 10, 2) := by decide +kernel
theorem dX4_init_15 : decode cX4_init 15 = .ok (.newarray .int, 2) := by decide +kernel
theorem dX4_init_17 : decode cX4_init 17 = .ok (.putfield 15, 3) := by decide +kernel
theorem dX4_init_20 : decode cX4_init 20 = .ok (.aload_n 0, 1) := by decide +kernel
theorem dX4_init_21 : decode cX4_init 21 = .ok (.bipush 10, 2) := by decide +kernel
theorem dX4_init_23 : decode cX4_init 23 = .ok (.newarray .boolean, 2) := by decide +kernel
theorem dX4_init_25 : decode cX4_init 25 = .ok (.putfield 18, 3) := by decide +kernel
theorem dX4_init_28 : decode cX4_init 28 = .ok (.return_, 1) := by decide +kernel
set_option maxRecDepth 20000 in
theorem ggX4_read_X4_append : GoodIn wsX4_read wsX4_append := goodIn_r _ [8, 1, 9, 10, 11, 12, 13, 14, 15] (by decide +kernel) (by decide +kernel)
set_option maxRecDepth 20000 in
theorem gX4_read_X4_append : GoodIn wsX4_read (wsV RX4 34 RX4 yX4_append wsX4_append) := goodIn_app (goodIn_of _ (by decide +kernel)) ggX4_read_X4_append
theorem dX4_read_0 : decode cX4_read 0 = .ok (.aload_n 0, 1) := by decide +kernel
theorem dX4_read_1 : decode cX4_read 1 = .ok (.iconst 0, 1) := by decide +kernel
theorem dX4_read_2 : decode cX4_read 2 = .ok (.putfield 22, 3) := by decide +kernel
theorem dX4_read_5 : decode cX4_read 5 = .ok (.iconst 0, 1) := by decide +kernel
theorem dX4_read_6 : decode cX4_read 6 = .ok (.istore_n 2, 1) := by decide +kernel
theorem dX4_read_7 : decode cX4_read 7 = .ok (.iconst 0, 1) := by decide +kernel
theorem dX4_read_8 : decode cX4_read 8 = .ok (.istore_n 3, 1) := by decide +kernel
theorem dX4_read_9 : decode cX4_read 9 = .ok (.iconst 0, 1) := by decide +kernel
theorem dX4_read_10 : decode cX4_read 10 = .ok (.istore 4, 2) := by decide +kernel
theorem dX4_read_12 : decode cX4_read 12 = .ok (.iload 4, 2) := by decide +kernel
theorem dX4_read_14 : decode cX4_read 14 = .ok (.aload_n 1, 1) := by decide +kernel
theorem dX4_read_15 : decode cX4_read 15 = .ok (.getfield 26, 3) := by decide +kernel
theorem dX4_read_18 : decode cX4_read 18 = .ok (.if_icmp .ge 95, 3) := by decide +kernel
theorem dX4_read_21 : decode cX4_read 21 = .ok (.aload_n 1, 1) := by decide +kernel
theorem dX4_read_22 : decode cX4_read 22 = .ok (.getfield 31, 3) := by decide +kernel
theorem dX4_read_25 : decode cX4_read 25 = .ok (.iload 4, 2) := by decide +kernel
theorem dX4_read_27 : decode cX4_read 27 = .ok (.iaload, 1) := by decide +kernel
theorem dX4_read_28 : decode cX4_read 28 = .ok (.istore 5, 2) := by decide +kernel
theorem dX4_read_30 : decode cX4_read 30 = .ok (.iload 5, 2) := by decide +kernel
theorem dX4_read_32 : decode cX4_read 32 = .ok (.bipush 97, 2) := by decide +kernel
theorem dX4_read_34 : decode cX4_read 34 = .ok (.if_icmp .lt 23, 3) := by decide +kernel
theorem dX4_read_37 : decode cX4_read 37 = .ok (.iload 5, 2) := by decide +kernel
theorem dX4_read_39 : decode cX4_read 39 = .ok (.bipush 104, 2) := by decide +kernel
theorem dX4_read_41 : decode cX4_read 41 = .ok (.if_icmp .gt 16, 3) := by decide +kernel
theorem dX4_read_44 : decode cX4_read 44 = .ok (.iload_n 2, 1) := by decide +kernel
theorem dX4_read_45 : decode cX4_read 45 = .ok (.iconst 1, 1) := by decide +kernel
theorem dX4_read_46 : decode cX4_read 46 = .ok (.iload 5, 2) := by decide +kernel
theorem dX4_read_48 : decode cX4_read 48 = .ok (.bipush 97, 2) := by decide +kernel
theorem dX4_read_50 : decode cX4_read 50 = .ok (.isub, 1) := by decide +kernel
theorem dX4_read_51 : decode cX4_read 51 = .ok (.ishl, 1) := by decide +kernel
theorem dX4_read_52 : decode cX4_read 52 = .ok (.ior, 1) := by decide +kernel
theorem dX4_read_53 : decode cX4_read 53 = .ok (.istore_n 2, 1) := by decide +kernel
theorem dX4_read_54 : decode cX4_read 54 = .ok (.goto 53, 3) := by decide +kernel
theorem dX4_read_57 : decode cX4_read 57 = .ok (.iload 5, 2) := by decide +kernel
theorem dX4_read_59 : decode cX4_read 59 = .ok (.bipush 60, 2) := by decide +kernel
theorem dX4_read_61 : decode cX4_read 61 = .ok (.if_icmp .eq 10, 3) := by decide +kernel
theorem dX4_read_64 : decode cX4_read 64 = .ok (.iload 5, 2) := by decide +kernel
theorem dX4_read_66 : decode cX4_read 66 = .ok (.bipush 62, 2) := by decide +kernel
theorem dX4_read_68 : decode cX4_read 68 = .ok (.if_icmp .ne 19, 3) := by decide +kernel
theorem dX4_read_71 : decode cX4_read 71 = .ok (.iload 5, 2) := by decide +kernel
theorem dX4_read_73 : decode cX4_read 73 = .ok (.bipush 60, 2) := by decide +kernel
theorem dX4_read_75 : decode cX4_read 75 = .ok (.if_icmp .ne 7, 3) := by decide +kernel
theorem dX4_read_78 : decode cX4_read 78 = .ok (.iconst 1, 1) := by decide +kernel
theorem dX4_read_79 : decode cX4_read 79 = .ok (.goto 4, 3) := by decide +kernel
theorem dX4_read_82 : decode cX4_read 82 = .ok (.iconst 0, 1) := by decide +kernel
theorem dX4_read_83 : decode cX4_read 83 = .ok (.istore_n 3, 1) := by decide +kernel
theorem dX4_read_84 : decode cX4_read 84 = .ok (.goto 23, 3) := by decide +kernel
theorem dX4_read_87 : decode cX4_read 87 = .ok (.iload 5, 2) := by decide +kernel
theorem dX4_read_89 : decode cX4_read 89 = .ok (.bipush 59, 2) := by decide +kernel
theorem dX4_read_91 : decode cX4_read 91 = .ok (.if_icmp .eq 16, 3) := by decide +kernel
theorem dX4_read_94 : decode cX4_read 94 = .ok (.aload_n 0, 1) := by decide +kernel
theorem dX4_read_95 : decode cX4_read 95 = .ok (.iload_n 2, 1) := by decide +kernel
theorem dX4_read_96 : decode cX4_read 96 = .ok (.iload_n 3, 1) := by decide +kernel
theorem dX4_read_97 : decode cX4_read 97 = .ok (.iload 5, 2) := by decide +kernel
theorem dX4_read_99 : decode cX4_read 99 = .ok (.bipush 48, 2) := by decide +kernel
theorem dX4_read_101 : decode cX4_read 101 = .ok (.isub, 1) := by decide +kernel
theorem dX4_read_102 : decode cX4_read 102 = .ok (.invokevirtual 34, 3) := by decide +kernel
theorem dX4_read_105 : decode cX4_read 105 = .ok (.iconst 0, 1) := by decide +kernel
theorem dX4_read_106 : decode cX4_read 106 = .ok (.istore_n 2, 1) := by decide +kernel
theorem dX4_read_107 : decode cX4_read 107 = .ok (.iinc 4 1, 3) := by decide +kernel
theorem dX4_read_110 : decode cX4_read 110 = .ok (.goto (-98), 3) := by decide +kernel
theorem dX4_read_113 : decode cX4_read 113 = .ok (.return_, 1) := by decide +kernel
theorem dX4_append_0 : decode cX4_append 0 = .ok (.aload_n 0, 1) := by decide +kernel
theorem dX4_append_1 : decode cX4_append 1 = .ok (.getfield 22, 3) := by decide +kernel
theorem dX4_append_4 : decode cX4_append 4 = .ok (.ifCond .lt 52, 3) := by decide +kernel
theorem dX4_append_7 : decode cX4_append 7 = .ok (.aload_n 0, 1) := by decide +kernel
theorem dX4_append_8 : decode cX4_append 8 = .ok (.getfield 22, 3) := by decide +kernel
theorem dX4_append_11 : decode cX4_append 11 = .ok (.bipush 10, 2) := by decide +kernel
theorem dX4_append_13 : decode cX4_append 13 = .ok (.if_icmp .ge 43, 3) := by decide +kernel
theorem dX4_append_16 : decode cX4_append 16 = .ok (.aload_n 0, 1) := by decide +kernel
theorem dX4_append_17 : decode cX4_append 17 = .ok (.getfield 9, 3) := by decide +kernel
theorem dX4_append_20 : decode cX4_append 20 = .ok (.aload_n 0, 1) := by decide +kernel
theorem dX4_append_21 : decode cX4_append 21 = .ok (.getfield 22, 3) := by decide +kernel
theorem dX4_append_24 : decode cX4_append 24 = .ok (.iload_n 1, 1) := by decide +kernel
theorem dX4_append_25 : decode cX4_append 25 = .ok (.iastore, 1) := by decide +kernel
theorem dX4_append_26 : decode cX4_append 26 = .ok (.aload_n 0, 1) := by decide +kernel
theorem dX4_append_27 : decode cX4_append 27 = .ok (.getfield 18, 3) := by decide +kernel
theorem dX4_append_30 : decode cX4_append 30 = .ok (.aload_n 0, 1) := by decide +kernel
theorem dX4_append_31 : decode cX4_append 31 = .ok (.getfield 22, 3) := by decide +kernel
theorem dX4_append_34 : decode cX4_append 34 = .ok (.iload_n 2, 1) := by decide +kernel
theorem dX4_append_35 : decode cX4_append 35 = .ok (.bastore, 1) := by decide +kernel
theorem dX4_append_36 : decode cX4_append 36 = .ok (.aload_n 0, 1) := by decide +kernel
theorem dX4_append_37 : decode cX4_append 37 = .ok (.getfield 15, 3) := by decide +kernel
theorem dX4_append_40 : decode cX4_append 40 = .ok (.aload_n 0, 1) := by decide +kernel
theorem dX4_append_41 : decode cX4_append 41 = .ok (.getfield 22, 3) := by decide +kernel
theorem dX4_append_44 : decode cX4_append 44 = .ok (.iload_n 3, 1) := by decide +kernel
theorem dX4_append_45 : decode cX4_append 45 = .ok (.iastore, 1) := by decide +kernel
theorem dX4_append_46 : decode cX4_append 46 = .ok (.aload_n 0, 1) := by decide +kernel
theorem dX4_append_47 : decode cX4_append 47 = .ok (.dup, 1) := by decide +kernel
theorem dX4_append_48 : decode cX4_append 48 = .ok (.getfield 22, 3) := by decide +kernel
theorem dX4_append_51 : decode cX4_append 51 = .ok (.iconst 1, 1) := by decide +kernel
theorem dX4_append_52 : decode cX4_append 52 = .ok (.iadd, 1) := by decide +kernel
theorem dX4_append_53 : decode cX4_append 53 = .ok (.putfield 22, 3) := by decide +kernel
theorem dX4_append_56 : decode cX4_append 56 = .ok (.return_, 1) := by decide +kernel
set_option maxRecDepth 20000 in
theorem ggX4_firstBroken_J6_bitCount_0f7a4 : GoodIn wsX4_firstBroken wsJ6_bitCount_0f7a4 := goodIn_r _ [8, 9, 10, 11] (by decide +kernel) (by decide +kernel)
set_option maxRecDepth 20000 in
theorem gX4_firstBroken_J6_bitCount_0f7a4 : GoodIn wsX4_firstBroken (va_wsS RX4 38 yJ6_bitCount_0f7a4 wsJ6_bitCount_0f7a4) := goodIn_app (goodIn_of _ (by decide +kernel)) ggX4_firstBroken_J6_bitCount_0f7a4
theorem dX4_firstBroken_0 : decode cX4_firstBroken 0 = .ok (.iconst 0, 1) := by decide +kernel
theorem dX4_firstBroken_1 : decode cX4_firstBroken 1 = .ok (.istore_n 2, 1) := by decide +kernel
theorem dX4_firstBroken_2 : decode cX4_firstBroken 2 = .ok (.iload_n 2, 1) := by decide +kernel
theorem dX4_firstBroken_3 : decode cX4_firstBroken 3 = .ok (.aload_n 0, 1) := by decide +kernel
theorem dX4_firstBroken_4 : decode cX4_firstBroken 4 = .ok (.getfield 22, 3) := by decide +kernel
theorem dX4_firstBroken_7 : decode cX4_firstBroken 7 = .ok (.if_icmp .ge 55, 3) := by decide +kernel
theorem dX4_firstBroken_10 : decode cX4_firstBroken 10 = .ok (.aload_n 0, 1) := by decide +kernel
theorem dX4_firstBroken_11 : decode cX4_firstBroken 11 = .ok (.getfield 9, 3) := by decide +kernel
theorem dX4_firstBroken_14 : decode cX4_firstBroken 14 = .ok (.iload_n 2, 1) := by decide +kernel
theorem dX4_firstBroken_15 : decode cX4_firstBroken 15 = .ok (.iaload, 1) := by decide +kernel
theorem dX4_firstBroken_16 : decode cX4_firstBroken 16 = .ok (.iload_n 1, 1) := by decide +kernel
theorem dX4_firstBroken_17 : decode cX4_firstBroken 17 = .ok (.iand, 1) := by decide +kernel
theorem dX4_firstBroken_18 : decode cX4_firstBroken 18 = .ok (.invokestatic 38, 3) := by decide +kernel
theorem dX4_firstBroken_21 : decode cX4_firstBroken 21 = .ok (.istore_n 3, 1) := by decide +kernel
theorem dX4_firstBroken_22 : decode cX4_firstBroken 22 = .ok (.aload_n 0, 1) := by decide +kernel
theorem dX4_firstBroken_23 : decode cX4_firstBroken 23 = .ok (.getfield 18, 3) := by decide +kernel
theorem dX4_firstBroken_26 : decode cX4_firstBroken 26 = .ok (.iload_n 2, 1) := by decide +kernel
theorem dX4_firstBroken_27 : decode cX4_firstBroken 27 = .ok (.baload, 1) := by decide +kernel
theorem dX4_firstBroken_28 : decode cX4_firstBroken 28 = .ok (.ifCond .eq 16, 3) := by decide +kernel
theorem dX4_firstBroken_31 : decode cX4_firstBroken 31 = .ok (.iload_n 3, 1) := by decide +kernel
theorem dX4_firstBroken_32 : decode cX4_firstBroken 32 = .ok (.aload_n 0, 1) := by decide +kernel
theorem dX4_firstBroken_33 : decode cX4_firstBroken 33 = .ok (.getfield 15, 3) := by decide +kernel
theorem dX4_firstBroken_36 : decode cX4_firstBroken 36 = .ok (.iload_n 2, 1) := by decide +kernel
theorem dX4_firstBroken_37 : decode cX4_firstBroken 37 = .ok (.iaload, 1) := by decide +kernel
theorem dX4_firstBroken_38 : decode cX4_firstBroken 38 = .ok (.if_icmp .lt 18, 3) := by decide +kernel
theorem dX4_firstBroken_41 : decode cX4_firstBroken 41 = .ok (.goto 13, 3) := by decide +kernel
theorem dX4_firstBroken_44 : decode cX4_firstBroken 44 = .ok (.iload_n 3, 1) := by decide +kernel
theorem dX4_firstBroken_45 : decode cX4_firstBroken 45 = .ok (.aload_n 0, 1) := by decide +kernel
theorem dX4_firstBroken_46 : decode cX4_firstBroken 46 = .ok (.getfield 15, 3) := by decide +kernel
theorem dX4_firstBroken_49 : decode cX4_firstBroken 49 = .ok (.iload_n 2, 1) := by decide +kernel
theorem dX4_firstBroken_50 : decode cX4_firstBroken 50 = .ok (.iaload, 1) := by decide +kernel
theorem dX4_firstBroken_51 : decode cX4_firstBroken 51 = .ok (.if_icmp .gt 5, 3) := by decide +kernel
theorem dX4_firstBroken_54 : decode cX4_firstBroken 54 = .ok (.iload_n 2, 1) := by decide +kernel
theorem dX4_firstBroken_55 : decode cX4_firstBroken 55 = .ok (.ireturn, 1) := by decide +kernel
theorem dX4_firstBroken_56 : decode cX4_firstBroken 56 = .ok (.iinc 2 1, 3) := by decide +kernel
theorem dX4_firstBroken_59 : decode cX4_firstBroken 59 = .ok (.goto (-57), 3) := by decide +kernel
theorem dX4_firstBroken_62 : decode cX4_firstBroken 62 = .ok (.bipush (-6), 2) := by decide +kernel
theorem dX4_firstBroken_64 : decode cX4_firstBroken 64 = .ok (.ireturn, 1) := by decide +kernel
set_option maxRecDepth 20000 in
theorem ggX4_allow_X4_firstBroken : GoodIn wsX4_allow wsX4_firstBroken := goodIn_r _ [5, 6, 7, 8, 9, 10, 11, 12, 13, 14, 15, 16, 17, 18, 19, 20] (by decide +kernel) (by decide +kernel)
set_option maxRecDepth 20000 in
theorem gX4_allow_X4_firstBroken : GoodIn wsX4_allow (wsV RX4 44 RX4 yX4_firstBroken wsX4_firstBroken) := goodIn_app (goodIn_of _ (by decide +kernel)) ggX4_allow_X4_firstBroken
theorem dX4_allow_0 : decode cX4_allow 0 = .ok (.aload_n 0, 1) := by decide +kernel
theorem dX4_allow_1 : decode cX4_allow 1 = .ok (.iload_n 1, 1) := by decide +kernel
theorem dX4_allow_2 : decode cX4_allow 2 = .ok (.invokevirtual 44, 3) := by decide +kernel
theorem dX4_allow_5 : decode cX4_allow 5 = .ok (.bipush (-6), 2) := by decide +kernel
theorem dX4_allow_7 : decode cX4_allow 7 = .ok (.if_icmp .ne 7, 3) := by decide +kernel
theorem dX4_allow_10 : decode cX4_allow 10 = .ok (.iconst 1, 1) := by decide +kernel
theorem dX4_allow_11 : decode cX4_allow 11 = .ok (.goto 4, 3) := by decide +kernel
theorem dX4_allow_14 : decode cX4_allow 14 = .ok (.iconst 0, 1) := by decide +kernel
theorem dX4_allow_15 : decode cX4_allow 15 = .ok (.ireturn, 1) := by decide +kernel
set_option maxRecDepth 20000 in
theorem ggX5_init_X1_init : GoodIn wsX5_init wsX1_init := goodIn_r _ [3, 4, 5, 6, 7, 8, 9, 10, 11, 12, 13, 14] (by decide +kernel) (by decide +kernel)
set_option maxRecDepth 20000 in
theorem gX5_init_X1_init_n3 : GoodIn wsX5_init (wsX1_init) := ggX5_init_X1_init
theorem dX5_init_0 : decode cX5_init 0 = .ok (.aload_n 0, 1) := by decide +kernel
theorem dX5_init_1 : decode cX5_init 1 = .ok (.invokespecial 3, 3) := by decide +kernel
theorem dX5_init_4 : decode cX5_init 4 = .ok (.return_, 1) := by decide +kernel
set_option maxRecDepth 20000 in
theorem ggX5_lightest_X3_telling : GoodIn wsX5_lightest wsX3_telling := goodIn_r _ [7, 8, 9, 10, 11, 12, 6, 13, 14, 31, 32, 33, 34] (by decide +kernel) (by decide +kernel)
set_option maxRecDepth 20000 in
theorem gX5_lightest_X3_telling : GoodIn wsX5_lightest (wsV RX5 9 RX3 yX3_telling wsX3_telling) := goodIn_app (goodIn_of _ (by decide +kernel)) ggX5_lightest_X3_telling
set_option maxRecDepth 20000 in
theorem ggX5_lightest_X1_sumOf : GoodIn wsX5_lightest wsX1_sumOf := goodIn_r _ [20, 21, 22, 23, 24, 11, 12, 6, 13, 14, 31, 32, 33, 34, 25, 26, 27, 28, 29, 30] (by decide +kernel) (by decide +kernel)
set_option maxRecDepth 20000 in
theorem gX5_lightest_X1_sumOf_u21X5 : GoodIn wsX5_lightest (va_wsU RX5 21 RX5 "FairSeats$Fractions" ⟨"FairSeats$Loads", "sumOf", "(LFairSeats$Heaps;I)J"⟩ yX1_sumOf wsX1_sumOf) := goodIn_app (goodIn_of _ (by decide +kernel)) ggX5_lightest_X1_sumOf
theorem dX5_lightest_0 : decode cX5_lightest 0 = .ok (.bipush (-6), 2) := by decide +kernel
theorem dX5_lightest_2 : decode cX5_lightest 2 = .ok (.istore_n 3, 1) := by decide +kernel
theorem dX5_lightest_3 : decode cX5_lightest 3 = .ok (.lconst 0, 1) := by decide +kernel
theorem dX5_lightest_4 : decode cX5_lightest 4 = .ok (.lstore 4, 2) := by decide +kernel
theorem dX5_lightest_6 : decode cX5_lightest 6 = .ok (.iconst 0, 1) := by decide +kernel
theorem dX5_lightest_7 : decode cX5_lightest 7 = .ok (.istore 6, 2) := by decide +kernel
theorem dX5_lightest_9 : decode cX5_lightest 9 = .ok (.iconst 0, 1) := by decide +kernel
theorem dX5_lightest_10 : decode cX5_lightest 10 = .ok (.istore 7, 2) := by decide +kernel
theorem dX5_lightest_12 : decode cX5_lightest 12 = .ok (.iload 7, 2) := by decide +kernel
theorem dX5_lightest_14 : decode cX5_lightest 14 = .ok (.bipush 8, 2) := by decide +kernel
theorem dX5_lightest_16 : decode cX5_lightest 16 = .ok (.if_icmp .ge 99, 3) := by decide +kernel
theorem dX5_lightest_19 : decode cX5_lightest 19 = .ok (.iload_n 2, 1) := by decide +kernel
theorem dX5_lightest_20 : decode cX5_lightest 20 = .ok (.iload 7, 2) := by decide +kernel
theorem dX5_lightest_22 : decode cX5_lightest 22 = .ok (.ishr, 1) := by decide +kernel
theorem dX5_lightest_23 : decode cX5_lightest 23 = .ok (.iconst 1, 1) := by decide +kernel
theorem dX5_lightest_24 : decode cX5_lightest 24 = .ok (.iand, 1) := by decide +kernel
theorem dX5_lightest_25 : decode cX5_lightest 25 = .ok (.iconst 1, 1) := by decide +kernel
theorem dX5_lightest_26 : decode cX5_lightest 26 = .ok (.if_icmp .ne 6, 3) := by decide +kernel
theorem dX5_lightest_29 : decode cX5_lightest 29 = .ok (.goto 80, 3) := by decide +kernel
theorem dX5_lightest_32 : decode cX5_lightest 32 = .ok (.aload_n 1, 1) := by decide +kernel
theorem dX5_lightest_33 : decode cX5_lightest 33 = .ok (.iload 7, 2) := by decide +kernel
theorem dX5_lightest_35 : decode cX5_lightest 35 = .ok (.invokevirtual 9, 3) := by decide +kernel
theorem dX5_lightest_38 : decode cX5_lightest 38 = .ok (.istore 8, 2) := by decide +kernel
theorem dX5_lightest_40 : decode cX5_lightest 40 = .ok (.aload_n 0, 1) := by decide +kernel
theorem dX5_lightest_41 : decode cX5_lightest 41 = .ok (.getfield 15, 3) := by decide +kernel
theorem dX5_lightest_44 : decode cX5_lightest 44 = .ok (.aload_n 0, 1) := by decide +kernel
theorem dX5_lightest_45 : decode cX5_lightest 45 = .ok (.aload_n 1, 1) := by decide +kernel
theorem dX5_lightest_46 : decode cX5_lightest 46 = .ok (.iload 7, 2) := by decide +kernel
theorem dX5_lightest_48 : decode cX5_lightest 48 = .ok (.invokevirtual 21, 3) := by decide +kernel
theorem dX5_lightest_51 : decode cX5_lightest 51 = .ok (.ladd, 1) := by decide +kernel
theorem dX5_lightest_52 : decode cX5_lightest 52 = .ok (.lstore 9, 2) := by decide +kernel
theorem dX5_lightest_54 : decode cX5_lightest 54 = .ok (.iload 8, 2) := by decide +kernel
theorem dX5_lightest_56 : decode cX5_lightest 56 = .ok (.ifCond .le 28, 3) := by decide +kernel
theorem dX5_lightest_59 : decode cX5_lightest 59 = .ok (.iload 6, 2) := by decide +kernel
theorem dX5_lightest_61 : decode cX5_lightest 61 = .ok (.ifCond .eq 19, 3) := by decide +kernel
theorem dX5_lightest_64 : decode cX5_lightest 64 = .ok (.lload 9, 2) := by decide +kernel
theorem dX5_lightest_66 : decode cX5_lightest 66 = .ok (.iload 6, 2) := by decide +kernel
theorem dX5_lightest_68 : decode cX5_lightest 68 = .ok (.i2l, 1) := by decide +kernel
theorem dX5_lightest_69 : decode cX5_lightest 69 = .ok (.lmul, 1) := by decide +kernel
theorem dX5_lightest_70 : decode cX5_lightest 70 = .ok (.lload 4, 2) := by decide +kernel
theorem dX5_lightest_72 : decode cX5_lightest 72 = .ok (.iload 8, 2) := by decide +kernel
theorem dX5_lightest_74 : decode cX5_lightest 74 = .ok (.i2l, 1) := by decide +kernel
theorem dX5_lightest_75 : decode cX5_lightest 75 = .ok (.lmul, 1) := by decide +kernel
theorem dX5_lightest_76 : decode cX5_lightest 76 = .ok (.lcmp, 1) := by decide +kernel
theorem dX5_lightest_77 : decode cX5_lightest 77 = .ok (.ifCond .ge 7, 3) := by decide +kernel
theorem dX5_lightest_80 : decode cX5_lightest 80 = .ok (.iconst 1, 1) := by decide +kernel
theorem dX5_lightest_81 : decode cX5_lightest 81 = .ok (.goto 4, 3) := by decide +kernel
theorem dX5_lightest_84 : decode cX5_lightest 84 = .ok (.iconst 0, 1) := by decide +kernel
theorem dX5_lightest_85 : decode cX5_lightest 85 = .ok (.istore 11, 2) := by decide +kernel
theorem dX5_lightest_87 : decode cX5_lightest 87 = .ok (.iload_n 3, 1) := by decide +kernel
theorem dX5_lightest_88 : decode cX5_lightest 88 = .ok (.bipush (-6), 2) := by decide +kernel
theorem dX5_lightest_90 : decode cX5_lightest 90 = .ok (.if_icmp .eq 8, 3) := by decide +kernel
theorem dX5_lightest_93 : decode cX5_lightest 93 = .ok (.iload 11, 2) := by decide +kernel
theorem dX5_lightest_95 : decode cX5_lightest 95 = .ok (.ifCond .eq 14, 3) := by decide +kernel
theorem dX5_lightest_98 : decode cX5_lightest 98 = .ok (.iload 7, 2) := by decide +kernel
theorem dX5_lightest_100 : decode cX5_lightest 100 = .ok (.istore_n 3, 1) := by decide +kernel
theorem dX5_lightest_101 : decode cX5_lightest 101 = .ok (.lload 9, 2) := by decide +kernel
theorem dX5_lightest_103 : decode cX5_lightest 103 = .ok (.lstore 4, 2) := by decide +kernel
theorem dX5_lightest_105 : decode cX5_lightest 105 = .ok (.iload 8, 2) := by decide +kernel
theorem dX5_lightest_107 : decode cX5_lightest 107 = .ok (.istore 6, 2) := by decide +kernel
theorem dX5_lightest_109 : decode cX5_lightest 109 = .ok (.iinc 7 1, 3) := by decide +kernel
theorem dX5_lightest_112 : decode cX5_lightest 112 = .ok (.goto (-100), 3) := by decide +kernel
theorem dX5_lightest_115 : decode cX5_lightest 115 = .ok (.iload_n 3, 1) := by decide +kernel
theorem dX5_lightest_116 : decode cX5_lightest 116 = .ok (.ireturn, 1) := by decide +kernel
set_option maxRecDepth 20000 in
theorem ggX5_bear_X3_telling : GoodIn wsX5_bear wsX3_telling := goodIn_r _ [10, 11, 12, 13, 14, 15, 9, 16, 17, 41, 42, 43, 44] (by decide +kernel) (by decide +kernel)
set_option maxRecDepth 20000 in
theorem gX5_bear_X3_telling : GoodIn wsX5_bear (wsV RX5 9 RX3 yX3_telling wsX3_telling) := goodIn_app (goodIn_of _ (by decide +kernel)) ggX5_bear_X3_telling
set_option maxRecDepth 20000 in
theorem ggX5_bear_X1_sumOf : GoodIn wsX5_bear wsX1_sumOf := goodIn_r _ [23, 24, 25, 26, 27, 14, 15, 9, 16, 17, 41, 42, 43, 44, 35, 36, 37, 38, 39, 40] (by decide +kernel) (by decide +kernel)
set_option maxRecDepth 20000 in
theorem gX5_bear_X1_sumOf_u21X5 : GoodIn wsX5_bear (va_wsU RX5 21 RX5 "FairSeats$Fractions" ⟨"FairSeats$Loads", "sumOf", "(LFairSeats$Heaps;I)J"⟩ yX1_sumOf wsX1_sumOf) := goodIn_app (goodIn_of _ (by decide +kernel)) ggX5_bear_X1_sumOf
set_option maxRecDepth 20000 in
theorem ggX5_bear_X1_widen : GoodIn wsX5_bear wsX1_widen := goodIn_r _ [32, 25, 33, 35, 36, 37, 38, 39, 40] (by decide +kernel) (by decide +kernel)
set_option maxRecDepth 20000 in
theorem gX5_bear_X1_widen_u25X5 : GoodIn wsX5_bear (va_wsU RX5 25 RX5 "FairSeats$Fractions" ⟨"FairSeats$Loads", "widen", "(I)V"⟩ yX1_widen wsX1_widen) := goodIn_app (goodIn_of _ (by decide +kernel)) ggX5_bear_X1_widen
set_option maxRecDepth 20000 in
theorem ggX5_bear_X3_tells : GoodIn wsX5_bear wsX3_tells := goodIn_r _ [16, 17, 41, 42, 43, 44] (by decide +kernel) (by decide +kernel)
set_option maxRecDepth 20000 in
theorem gX5_bear_X3_tells : GoodIn wsX5_bear (wsV RX5 33 RX3 yX3_tells wsX3_tells) := goodIn_app (goodIn_of _ (by decide +kernel)) ggX5_bear_X3_tells
theorem dX5_bear_0 : decode cX5_bear 0 = .ok (.aload_n 1, 1) := by decide +kernel
theorem dX5_bear_1 : decode cX5_bear 1 = .ok (.iload_n 2, 1) := by decide +kernel
theorem dX5_bear_2 : decode cX5_bear 2 = .ok (.invokevirtual 9, 3) := by decide +kernel
theorem dX5_bear_5 : decode cX5_bear 5 = .ok (.istore_n 3, 1) := by decide +kernel
theorem dX5_bear_6 : decode cX5_bear 6 = .ok (.iload_n 3, 1) := by decide +kernel
theorem dX5_bear_7 : decode cX5_bear 7 = .ok (.ifCond .ne 4, 3) := by decide +kernel
theorem dX5_bear_10 : decode cX5_bear 10 = .ok (.return_, 1) := by decide +kernel
theorem dX5_bear_11 : decode cX5_bear 11 = .ok (.aload_n 0, 1) := by decide +kernel
theorem dX5_bear_12 : decode cX5_bear 12 = .ok (.getfield 15, 3) := by decide +kernel
theorem dX5_bear_15 : decode cX5_bear 15 = .ok (.aload_n 0, 1) := by decide +kernel
theorem dX5_bear_16 : decode cX5_bear 16 = .ok (.aload_n 1, 1) := by decide +kernel
theorem dX5_bear_17 : decode cX5_bear 17 = .ok (.iload_n 2, 1) := by decide +kernel
theorem dX5_bear_18 : decode cX5_bear 18 = .ok (.invokevirtual 21, 3) := by decide +kernel
theorem dX5_bear_21 : decode cX5_bear 21 = .ok (.ladd, 1) := by decide +kernel
theorem dX5_bear_22 : decode cX5_bear 22 = .ok (.lstore 4, 2) := by decide +kernel
theorem dX5_bear_24 : decode cX5_bear 24 = .ok (.aload_n 0, 1) := by decide +kernel
theorem dX5_bear_25 : decode cX5_bear 25 = .ok (.iload_n 3, 1) := by decide +kernel
theorem dX5_bear_26 : decode cX5_bear 26 = .ok (.invokevirtual 25, 3) := by decide +kernel
theorem dX5_bear_29 : decode cX5_bear 29 = .ok (.iconst 0, 1) := by decide +kernel
theorem dX5_bear_30 : decode cX5_bear 30 = .ok (.istore 6, 2) := by decide +kernel
theorem dX5_bear_32 : decode cX5_bear 32 = .ok (.iload 6, 2) := by decide +kernel
theorem dX5_bear_34 : decode cX5_bear 34 = .ok (.aload_n 1, 1) := by decide +kernel
theorem dX5_bear_35 : decode cX5_bear 35 = .ok (.getfield 29, 3) := by decide +kernel
theorem dX5_bear_38 : decode cX5_bear 38 = .ok (.if_icmp .ge 28, 3) := by decide +kernel
theorem dX5_bear_41 : decode cX5_bear 41 = .ok (.aload_n 1, 1) := by decide +kernel
theorem dX5_bear_42 : decode cX5_bear 42 = .ok (.iload 6, 2) := by decide +kernel
theorem dX5_bear_44 : decode cX5_bear 44 = .ok (.iload_n 2, 1) := by decide +kernel
theorem dX5_bear_45 : decode cX5_bear 45 = .ok (.invokevirtual 33, 3) := by decide +kernel
theorem dX5_bear_48 : decode cX5_bear 48 = .ok (.ifCond .eq 12, 3) := by decide +kernel
theorem dX5_bear_51 : decode cX5_bear 51 = .ok (.aload_n 0, 1) := by decide +kernel
theorem dX5_bear_52 : decode cX5_bear 52 = .ok (.getfield 37, 3) := by decide +kernel
theorem dX5_bear_55 : decode cX5_bear 55 = .ok (.iload 6, 2) := by decide +kernel
theorem dX5_bear_57 : decode cX5_bear 57 = .ok (.lload 4, 2) := by decide +kernel
theorem dX5_bear_59 : decode cX5_bear 59 = .ok (.lastore, 1) := by decide +kernel
theorem dX5_bear_60 : decode cX5_bear 60 = .ok (.iinc 6 1, 3) := by decide +kernel
theorem dX5_bear_63 : decode cX5_bear 63 = .ok (.goto (-31), 3) := by decide +kernel
theorem dX5_bear_66 : decode cX5_bear 66 = .ok (.return_, 1) := by decide +kernel
set_option maxRecDepth 20000 in
theorem ggX6_init_X1_init : GoodIn wsX6_init wsX1_init := goodIn_r _ [3, 4, 5, 6, 7, 8, 9, 10, 11, 12, 13, 14] (by decide +kernel) (by decide +kernel)
set_option maxRecDepth 20000 in
theorem gX6_init_X1_init_n3 : GoodIn wsX6_init (wsX1_init) := ggX6_init_X1_init
theorem dX6_init_0 : decode cX6_init 0 = .ok (.aload_n 0, 1) := by decide +kernel
theorem dX6_init_1 : decode cX6_init 1 = .ok (.invokespecial 3, 3) := by decide +kernel
theorem dX6_init_4 : decode cX6_init 4 = .ok (.return_, 1) := by decide +kernel
set_option maxRecDepth 20000 in
theorem ggX6_cheapest_X3_total : GoodIn wsX6_cheapest wsX3_total := goodIn_r _ [9, 10, 11, 47, 48, 49, 50] (by decide +kernel) (by decide +kernel)
set_option maxRecDepth 20000 in
theorem gX6_cheapest_X3_total : GoodIn wsX6_cheapest (wsV RX6 9 RX3 yX3_total wsX3_total) := goodIn_app (goodIn_of _ (by decide +kernel)) ggX6_cheapest_X3_total
set_option maxRecDepth 20000 in
theorem ggX6_cheapest_X3_telling : GoodIn wsX6_cheapest wsX3_telling := goodIn_r _ [15, 10, 11, 16, 17, 18, 8, 19, 20, 47, 48, 49, 50] (by decide +kernel) (by decide +kernel)
set_option maxRecDepth 20000 in
theorem gX6_cheapest_X3_telling : GoodIn wsX6_cheapest (wsV RX6 21 RX3 yX3_telling wsX3_telling) := goodIn_app (goodIn_of _ (by decide +kernel)) ggX6_cheapest_X3_telling
set_option maxRecDepth 20000 in
theorem ggX6_cheapest_X1_sumOf : GoodIn wsX6_cheapest wsX1_sumOf := goodIn_r _ [26, 27, 28, 29, 30, 17, 18, 8, 19, 20, 47, 48, 49, 50, 41, 42, 43, 44, 45, 46] (by decide +kernel) (by decide +kernel)
set_option maxRecDepth 20000 in
theorem gX6_cheapest_X1_sumOf_u25X6 : GoodIn wsX6_cheapest (va_wsU RX6 25 RX6 "FairSeats$Fractions" ⟨"FairSeats$Purses", "sumOf", "(LFairSeats$Heaps;I)J"⟩ yX1_sumOf wsX1_sumOf) := goodIn_app (goodIn_of _ (by decide +kernel)) ggX6_cheapest_X1_sumOf
set_option maxRecDepth 20000 in
theorem ggX6_cheapest_X6_price : GoodIn wsX6_cheapest wsX6_price := goodIn_r _ [35, 1, 2, 3, 4, 36, 37, 38, 39, 12, 13, 14, 8, 15, 10, 11, 16, 17, 18, 19, 20, 5, 6, 7, 9, 40, 41, 42, 43, 44, 45, 46, 47, 48, 49, 50] (by decide +kernel) (by decide +kernel)
set_option maxRecDepth 20000 in
theorem gX6_cheapest_X6_price : GoodIn wsX6_cheapest (wsV RX6 29 RX6 yX6_price wsX6_price) := goodIn_app (goodIn_of _ (by decide +kernel)) ggX6_cheapest_X6_price
theorem dX6_cheapest_0 : decode cX6_cheapest 0 = .ok (.bipush (-6), 2) := by decide +kernel
theorem dX6_cheapest_2 : decode cX6_cheapest 2 = .ok (.istore_n 3, 1) := by decide +kernel
theorem dX6_cheapest_3 : decode cX6_cheapest 3 = .ok (.lconst 0, 1) := by decide +kernel
theorem dX6_cheapest_4 : decode cX6_cheapest 4 = .ok (.lstore 4, 2) := by decide +kernel
theorem dX6_cheapest_6 : decode cX6_cheapest 6 = .ok (.iconst 0, 1) := by decide +kernel
theorem dX6_cheapest_7 : decode cX6_cheapest 7 = .ok (.istore 6, 2) := by decide +kernel
theorem dX6_cheapest_9 : decode cX6_cheapest 9 = .ok (.aload_n 1, 1) := by decide +kernel
theorem dX6_cheapest_10 : decode cX6_cheapest 10 = .ok (.invokevirtual 9, 3) := by decide +kernel
theorem dX6_cheapest_13 : decode cX6_cheapest 13 = .ok (.i2l, 1) := by decide +kernel
theorem dX6_cheapest_14 : decode cX6_cheapest 14 = .ok (.aload_n 0, 1) := by decide +kernel
theorem dX6_cheapest_15 : decode cX6_cheapest 15 = .ok (.getfield 15, 3) := by decide +kernel
theorem dX6_cheapest_18 : decode cX6_cheapest 18 = .ok (.lmul, 1) := by decide +kernel
theorem dX6_cheapest_19 : decode cX6_cheapest 19 = .ok (.lstore 7, 2) := by decide +kernel
theorem dX6_cheapest_21 : decode cX6_cheapest 21 = .ok (.iconst 0, 1) := by decide +kernel
theorem dX6_cheapest_22 : decode cX6_cheapest 22 = .ok (.istore 9, 2) := by decide +kernel
theorem dX6_cheapest_24 : decode cX6_cheapest 24 = .ok (.iload 9, 2) := by decide +kernel
theorem dX6_cheapest_26 : decode cX6_cheapest 26 = .ok (.bipush 8, 2) := by decide +kernel
theorem dX6_cheapest_28 : decode cX6_cheapest 28 = .ok (.if_icmp .ge 92, 3) := by decide +kernel
theorem dX6_cheapest_31 : decode cX6_cheapest 31 = .ok (.iload_n 2, 1) := by decide +kernel
theorem dX6_cheapest_32 : decode cX6_cheapest 32 = .ok (.iload 9, 2) := by decide +kernel
theorem dX6_cheapest_34 : decode cX6_cheapest 34 = .ok (.ishr, 1) := by decide +kernel
theorem dX6_cheapest_35 : decode cX6_cheapest 35 = .ok (.iconst 1, 1) := by decide +kernel
theorem dX6_cheapest_36 : decode cX6_cheapest 36 = .ok (.iand, 1) := by decide +kernel
theorem dX6_cheapest_37 : decode cX6_cheapest 37 = .ok (.iconst 1, 1) := by decide +kernel
theorem dX6_cheapest_38 : decode cX6_cheapest 38 = .ok (.if_icmp .eq 76, 3) := by decide +kernel
theorem dX6_cheapest_41 : decode cX6_cheapest 41 = .ok (.aload_n 1, 1) := by decide +kernel
theorem dX6_cheapest_42 : decode cX6_cheapest 42 = .ok (.iload 9, 2) := by decide +kernel
theorem dX6_cheapest_44 : decode cX6_cheapest 44 = .ok (.invokevirtual 21, 3) := by decide +kernel
theorem dX6_cheapest_47 : decode cX6_cheapest 47 = .ok (.ifCond .eq 67, 3) := by decide +kernel
theorem dX6_cheapest_50 : decode cX6_cheapest 50 = .ok (.aload_n 0, 1) := by decide +kernel
theorem dX6_cheapest_51 : decode cX6_cheapest 51 = .ok (.aload_n 1, 1) := by decide +kernel
theorem dX6_cheapest_52 : decode cX6_cheapest 52 = .ok (.iload 9, 2) := by decide +kernel
theorem dX6_cheapest_54 : decode cX6_cheapest 54 = .ok (.invokevirtual 25, 3) := by decide +kernel
theorem dX6_cheapest_57 : decode cX6_cheapest 57 = .ok (.lload 7, 2) := by decide +kernel
theorem dX6_cheapest_59 : decode cX6_cheapest 59 = .ok (.lcmp, 1) := by decide +kernel
theorem dX6_cheapest_60 : decode cX6_cheapest 60 = .ok (.ifCond .ge 6, 3) := by decide +kernel
theorem dX6_cheapest_63 : decode cX6_cheapest 63 = .ok (.goto 51, 3) := by decide +kernel
theorem dX6_cheapest_66 : decode cX6_cheapest 66 = .ok (.aload_n 0, 1) := by decide +kernel
theorem dX6_cheapest_67 : decode cX6_cheapest 67 = .ok (.aload_n 1, 1) := by decide +kernel
theorem dX6_cheapest_68 : decode cX6_cheapest 68 = .ok (.iload 9, 2) := by decide +kernel
theorem dX6_cheapest_70 : decode cX6_cheapest 70 = .ok (.invokevirtual 29, 3) := by decide +kernel
theorem dX6_cheapest_73 : decode cX6_cheapest 73 = .ok (.iload_n 3, 1) := by decide +kernel
theorem dX6_cheapest_74 : decode cX6_cheapest 74 = .ok (.bipush (-6), 2) := by decide +kernel
theorem dX6_cheapest_76 : decode cX6_cheapest 76 = .ok (.if_icmp .eq 23, 3) := by decide +kernel
theorem dX6_cheapest_79 : decode cX6_cheapest 79 = .ok (.aload_n 0, 1) := by decide +kernel
theorem dX6_cheapest_80 : decode cX6_cheapest 80 = .ok (.getfield 33, 3) := by decide +kernel
theorem dX6_cheapest_83 : decode cX6_cheapest 83 = .ok (.iload 6, 2) := by decide +kernel
theorem dX6_cheapest_85 : decode cX6_cheapest 85 = .ok (.i2l, 1) := by decide +kernel
theorem dX6_cheapest_86 : decode cX6_cheapest 86 = .ok (.lmul, 1) := by decide +kernel
theorem dX6_cheapest_87 : decode cX6_cheapest 87 = .ok (.lload 4, 2) := by decide +kernel
theorem dX6_cheapest_89 : decode cX6_cheapest 89 = .ok (.aload_n 0, 1) := by decide +kernel
theorem dX6_cheapest_90 : decode cX6_cheapest 90 = .ok (.getfield 36, 3) := by decide +kernel
theorem dX6_cheapest_93 : decode cX6_cheapest 93 = .ok (.i2l, 1) := by decide +kernel
theorem dX6_cheapest_94 : decode cX6_cheapest 94 = .ok (.lmul, 1) := by decide +kernel
theorem dX6_cheapest_95 : decode cX6_cheapest 95 = .ok (.lcmp, 1) := by decide +kernel
theorem dX6_cheapest_96 : decode cX6_cheapest 96 = .ok (.ifCond .ge 18, 3) := by decide +kernel
theorem dX6_cheapest_99 : decode cX6_cheapest 99 = .ok (.iload 9, 2) := by decide +kernel
theorem dX6_cheapest_101 : decode cX6_cheapest 101 = .ok (.istore_n 3, 1) := by decide +kernel
theorem dX6_cheapest_102 : decode cX6_cheapest 102 = .ok (.aload_n 0, 1) := by decide +kernel
theorem dX6_cheapest_103 : decode cX6_cheapest 103 = .ok (.getfield 33, 3) := by decide +kernel
theorem dX6_cheapest_106 : decode cX6_cheapest 106 = .ok (.lstore 4, 2) := by decide +kernel
theorem dX6_cheapest_108 : decode cX6_cheapest 108 = .ok (.aload_n 0, 1) := by decide +kernel
theorem dX6_cheapest_109 : decode cX6_cheapest 109 = .ok (.getfield 36, 3) := by decide +kernel
theorem dX6_cheapest_112 : decode cX6_cheapest 112 = .ok (.istore 6, 2) := by decide +kernel
theorem dX6_cheapest_114 : decode cX6_cheapest 114 = .ok (.iinc 9 1, 3) := by decide +kernel
theorem dX6_cheapest_117 : decode cX6_cheapest 117 = .ok (.goto (-93), 3) := by decide +kernel
theorem dX6_cheapest_120 : decode cX6_cheapest 120 = .ok (.iload_n 3, 1) := by decide +kernel
theorem dX6_cheapest_121 : decode cX6_cheapest 121 = .ok (.ireturn, 1) := by decide +kernel
set_option maxRecDepth 20000 in
theorem ggX6_price_X3_telling : GoodIn wsX6_price wsX3_telling := goodIn_r _ [13, 14, 15, 16, 17, 18, 12, 19, 20, 32, 33, 34, 35] (by decide +kernel) (by decide +kernel)
set_option maxRecDepth 20000 in
theorem gX6_price_X3_telling : GoodIn wsX6_price (wsV RX6 21 RX3 yX3_telling wsX3_telling) := goodIn_app (goodIn_of _ (by decide +kernel)) ggX6_price_X3_telling
set_option maxRecDepth 20000 in
theorem ggX6_price_X3_total : GoodIn wsX6_price wsX3_total := goodIn_r _ [24, 14, 15, 32, 33, 34, 35] (by decide +kernel) (by decide +kernel)
set_option maxRecDepth 20000 in
theorem gX6_price_X3_total : GoodIn wsX6_price (wsV RX6 9 RX3 yX3_total wsX3_total) := goodIn_app (goodIn_of _ (by decide +kernel)) ggX6_price_X3_total
set_option maxRecDepth 20000 in
theorem ggX6_price_X3_tells : GoodIn wsX6_price wsX3_tells := goodIn_r _ [19, 20, 32, 33, 34, 35] (by decide +kernel) (by decide +kernel)
set_option maxRecDepth 20000 in
theorem gX6_price_X3_tells : GoodIn wsX6_price (wsV RX6 43 RX3 yX3_tells wsX3_tells) := goodIn_app (goodIn_of _ (by decide +kernel)) ggX6_price_X3_tells
theorem dX6_price_0 : decode cX6_price 0 = .ok (.aload_n 1, 1) := by decide +kernel
theorem dX6_price_1 : decode cX6_price 1 = .ok (.iload_n 2, 1) := by decide +kernel
theorem dX6_price_2 : decode cX6_price 2 = .ok (.invokevirtual 21, 3) := by decide +kernel
theorem dX6_price_5 : decode cX6_price 5 = .ok (.istore_n 3, 1) := by decide +kernel
theorem dX6_price_6 : decode cX6_price 6 = .ok (.aload_n 1, 1) := by decide +kernel
theorem dX6_price_7 : decode cX6_price 7 = .ok (.invokevirtual 9, 3) := by decide +kernel
theorem dX6_price_10 : decode cX6_price 10 = .ok (.i2l, 1) := by decide +kernel
theorem dX6_price_11 : decode cX6_price 11 = .ok (.aload_n 0, 1) := by decide +kernel
theorem dX6_price_12 : decode cX6_price 12 = .ok (.getfield 15, 3) := by decide +kernel
theorem dX6_price_15 : decode cX6_price 15 = .ok (.lmul, 1) := by decide +kernel
theorem dX6_price_16 : decode cX6_price 16 = .ok (.lstore 4, 2) := by decide +kernel
theorem dX6_price_18 : decode cX6_price 18 = .ok (.aload_n 0, 1) := by decide +kernel
theorem dX6_price_19 : decode cX6_price 19 = .ok (.lload 4, 2) := by decide +kernel
theorem dX6_price_21 : decode cX6_price 21 = .ok (.putfield 33, 3) := by decide +kernel
theorem dX6_price_24 : decode cX6_price 24 = .ok (.aload_n 0, 1) := by decide +kernel
theorem dX6_price_25 : decode cX6_price 25 = .ok (.iload_n 3, 1) := by decide +kernel
theorem dX6_price_26 : decode cX6_price 26 = .ok (.putfield 36, 3) := by decide +kernel
theorem dX6_price_29 : decode cX6_price 29 = .ok (.iconst 0, 1) := by decide +kernel
theorem dX6_price_30 : decode cX6_price 30 = .ok (.istore 6, 2) := by decide +kernel
theorem dX6_price_32 : decode cX6_price 32 = .ok (.iload 6, 2) := by decide +kernel
theorem dX6_price_34 : decode cX6_price 34 = .ok (.bipush 6, 2) := by decide +kernel
theorem dX6_price_36 : decode cX6_price 36 = .ok (.if_icmp .gt 126, 3) := by decide +kernel
theorem dX6_price_39 : decode cX6_price 39 = .ok (.lconst 0, 1) := by decide +kernel
theorem dX6_price_40 : decode cX6_price 40 = .ok (.lstore 7, 2) := by decide +kernel
theorem dX6_price_42 : decode cX6_price 42 = .ok (.iconst 0, 1) := by decide +kernel
theorem dX6_price_43 : decode cX6_price 43 = .ok (.istore 9, 2) := by decide +kernel
theorem dX6_price_45 : decode cX6_price 45 = .ok (.iconst 0, 1) := by decide +kernel
theorem dX6_price_46 : decode cX6_price 46 = .ok (.istore 10, 2) := by decide +kernel
theorem dX6_price_48 : decode cX6_price 48 = .ok (.iload 10, 2) := by decide +kernel
theorem dX6_price_50 : decode cX6_price 50 = .ok (.aload_n 1, 1) := by decide +kernel
theorem dX6_price_51 : decode cX6_price 51 = .ok (.getfield 40, 3) := by decide +kernel
theorem dX6_price_54 : decode cX6_price 54 = .ok (.if_icmp .ge 73, 3) := by decide +kernel
theorem dX6_price_57 : decode cX6_price 57 = .ok (.aload_n 1, 1) := by decide +kernel
theorem dX6_price_58 : decode cX6_price 58 = .ok (.iload 10, 2) := by decide +kernel
theorem dX6_price_60 : decode cX6_price 60 = .ok (.iload_n 2, 1) := by decide +kernel
theorem dX6_price_61 : decode cX6_price 61 = .ok (.invokevirtual 43, 3) := by decide +kernel
theorem dX6_price_64 : decode cX6_price 64 = .ok (.ifCond .eq 57, 3) := by decide +kernel
theorem dX6_price_67 : decode cX6_price 67 = .ok (.aload_n 0, 1) := by decide +kernel
theorem dX6_price_68 : decode cX6_price 68 = .ok (.getfield 47, 3) := by decide +kernel
theorem dX6_price_71 : decode cX6_price 71 = .ok (.iload 10, 2) := by decide +kernel
theorem dX6_price_73 : decode cX6_price 73 = .ok (.laload, 1) := by decide +kernel
theorem dX6_price_74 : decode cX6_price 74 = .ok (.aload_n 0, 1) := by decide +kernel
theorem dX6_price_75 : decode cX6_price 75 = .ok (.getfield 36, 3) := by decide +kernel
theorem dX6_price_78 : decode cX6_price 78 = .ok (.i2l, 1) := by decide +kernel
theorem dX6_price_79 : decode cX6_price 79 = .ok (.lmul, 1) := by decide +kernel
theorem dX6_price_80 : decode cX6_price 80 = .ok (.aload_n 0, 1) := by decide +kernel
theorem dX6_price_81 : decode cX6_price 81 = .ok (.getfield 33, 3) := by decide +kernel
theorem dX6_price_84 : decode cX6_price 84 = .ok (.lcmp, 1) := by decide +kernel
theorem dX6_price_85 : decode cX6_price 85 = .ok (.ifCond .ge 36, 3) := by decide +kernel
theorem dX6_price_88 : decode cX6_price 88 = .ok (.lload 7, 2) := by decide +kernel
theorem dX6_price_90 : decode cX6_price 90 = .ok (.aload_n 0, 1) := by decide +kernel
theorem dX6_price_91 : decode cX6_price 91 = .ok (.getfield 47, 3) := by decide +kernel
theorem dX6_price_94 : decode cX6_price 94 = .ok (.iload 10, 2) := by decide +kernel
theorem dX6_price_96 : decode cX6_price 96 = .ok (.laload, 1) := by decide +kernel
theorem dX6_price_97 : decode cX6_price 97 = .ok (.aload_n 1, 1) := by decide +kernel
theorem dX6_price_98 : decode cX6_price 98 = .ok (.getfield 51, 3) := by decide +kernel
theorem dX6_price_101 : decode cX6_price 101 = .ok (.iload 10, 2) := by decide +kernel
theorem dX6_price_103 : decode cX6_price 103 = .ok (.iaload, 1) := by decide +kernel
theorem dX6_price_104 : decode cX6_price 104 = .ok (.i2l, 1) := by decide +kernel
theorem dX6_price_105 : decode cX6_price 105 = .ok (.lmul, 1) := by decide +kernel
theorem dX6_price_106 : decode cX6_price 106 = .ok (.ladd, 1) := by decide +kernel
theorem dX6_price_107 : decode cX6_price 107 = .ok (.lstore 7, 2) := by decide +kernel
theorem dX6_price_109 : decode cX6_price 109 = .ok (.iload 9, 2) := by decide +kernel
theorem dX6_price_111 : decode cX6_price 111 = .ok (.aload_n 1, 1) := by decide +kernel
theorem dX6_price_112 : decode cX6_price 112 = .ok (.getfield 51, 3) := by decide +kernel
theorem dX6_price_115 : decode cX6_price 115 = .ok (.iload 10, 2) := by decide +kernel
theorem dX6_price_117 : decode cX6_price 117 = .ok (.iaload, 1) := by decide +kernel
theorem dX6_price_118 : decode cX6_price 118 = .ok (.iadd, 1) := by decide +kernel
theorem dX6_price_119 : decode cX6_price 119 = .ok (.istore 9, 2) := by decide +kernel
theorem dX6_price_121 : decode cX6_price 121 = .ok (.iinc 10 1, 3) := by decide +kernel
theorem dX6_price_124 : decode cX6_price 124 = .ok (.goto (-76), 3) := by decide +kernel
theorem dX6_price_127 : decode cX6_price 127 = .ok (.iload_n 3, 1) := by decide +kernel
theorem dX6_price_128 : decode cX6_price 128 = .ok (.iload 9, 2) := by decide +kernel
theorem dX6_price_130 : decode cX6_price 130 = .ok (.isub, 1) := by decide +kernel
theorem dX6_price_131 : decode cX6_price 131 = .ok (.aload_n 0, 1) := by decide +kernel
theorem dX6_price_132 : decode cX6_price 132 = .ok (.getfield 36, 3) := by decide +kernel
theorem dX6_price_135 : decode cX6_price 135 = .ok (.if_icmp .ne 4, 3) := by decide +kernel
theorem dX6_price_138 : decode cX6_price 138 = .ok (.return_, 1) := by decide +kernel
theorem dX6_price_139 : decode cX6_price 139 = .ok (.aload_n 0, 1) := by decide +kernel
theorem dX6_price_140 : decode cX6_price 140 = .ok (.lload 4, 2) := by decide +kernel
theorem dX6_price_142 : decode cX6_price 142 = .ok (.lload 7, 2) := by decide +kernel
theorem dX6_price_144 : decode cX6_price 144 = .ok (.lsub, 1) := by decide +kernel
theorem dX6_price_145 : decode cX6_price 145 = .ok (.putfield 33, 3) := by decide +kernel
theorem dX6_price_148 : decode cX6_price 148 = .ok (.aload_n 0, 1) := by decide +kernel
theorem dX6_price_149 : decode cX6_price 149 = .ok (.iload_n 3, 1) := by decide +kernel
theorem dX6_price_150 : decode cX6_price 150 = .ok (.iload 9, 2) := by decide +kernel
theorem dX6_price_152 : decode cX6_price 152 = .ok (.isub, 1) := by decide +kernel
theorem dX6_price_153 : decode cX6_price 153 = .ok (.putfield 36, 3) := by decide +kernel
theorem dX6_price_156 : decode cX6_price 156 = .ok (.iinc 6 1, 3) := by decide +kernel
theorem dX6_price_159 : decode cX6_price 159 = .ok (.goto (-127), 3) := by decide +kernel
theorem dX6_price_162 : decode cX6_price 162 = .ok (.return_, 1) := by decide +kernel
set_option maxRecDepth 20000 in
theorem ggX6_pay_X6_price : GoodIn wsX6_pay wsX6_price := goodIn_r _ [14, 15, 16, 5, 1, 2, 3, 4, 17, 18, 19, 20, 21, 22, 23, 24, 25, 26, 27, 28, 29, 30, 31, 32, 33, 34, 51, 52, 43, 44, 45, 46, 47, 48, 49, 50] (by decide +kernel) (by decide +kernel)
set_option maxRecDepth 20000 in
theorem gX6_pay_X6_price : GoodIn wsX6_pay (wsV RX6 29 RX6 yX6_price wsX6_price) := goodIn_app (goodIn_of _ (by decide +kernel)) ggX6_pay_X6_price
set_option maxRecDepth 20000 in
theorem ggX6_pay_X1_widen : GoodIn wsX6_pay wsX1_widen := goodIn_r _ [40, 41, 42, 51, 52, 43, 44, 45, 46] (by decide +kernel) (by decide +kernel)
set_option maxRecDepth 20000 in
theorem gX6_pay_X1_widen_u55X6 : GoodIn wsX6_pay (va_wsU RX6 55 RX6 "FairSeats$Fractions" ⟨"FairSeats$Purses", "widen", "(I)V"⟩ yX1_widen wsX1_widen) := goodIn_app (goodIn_of _ (by decide +kernel)) ggX6_pay_X1_widen
set_option maxRecDepth 20000 in
theorem ggX6_pay_X3_tells : GoodIn wsX6_pay wsX3_tells := goodIn_r _ [28, 29, 47, 48, 49, 50] (by decide +kernel) (by decide +kernel)
set_option maxRecDepth 20000 in
theorem gX6_pay_X3_tells : GoodIn wsX6_pay (wsV RX6 43 RX3 yX3_tells wsX3_tells) := goodIn_app (goodIn_of _ (by decide +kernel)) ggX6_pay_X3_tells
theorem dX6_pay_0 : decode cX6_pay 0 = .ok (.aload_n 0, 1) := by decide +kernel
theorem dX6_pay_1 : decode cX6_pay 1 = .ok (.aload_n 1, 1) := by decide +kernel
theorem dX6_pay_2 : decode cX6_pay 2 = .ok (.iload_n 2, 1) := by decide +kernel
theorem dX6_pay_3 : decode cX6_pay 3 = .ok (.invokevirtual 29, 3) := by decide +kernel
theorem dX6_pay_6 : decode cX6_pay 6 = .ok (.aload_n 0, 1) := by decide +kernel
theorem dX6_pay_7 : decode cX6_pay 7 = .ok (.aload_n 0, 1) := by decide +kernel
theorem dX6_pay_8 : decode cX6_pay 8 = .ok (.getfield 36, 3) := by decide +kernel
theorem dX6_pay_11 : decode cX6_pay 11 = .ok (.invokevirtual 55, 3) := by decide +kernel
theorem dX6_pay_14 : decode cX6_pay 14 = .ok (.iconst 0, 1) := by decide +kernel
theorem dX6_pay_15 : decode cX6_pay 15 = .ok (.istore_n 3, 1) := by decide +kernel
theorem dX6_pay_16 : decode cX6_pay 16 = .ok (.iload_n 3, 1) := by decide +kernel
theorem dX6_pay_17 : decode cX6_pay 17 = .ok (.aload_n 1, 1) := by decide +kernel
theorem dX6_pay_18 : decode cX6_pay 18 = .ok (.getfield 40, 3) := by decide +kernel
theorem dX6_pay_21 : decode cX6_pay 21 = .ok (.if_icmp .ge 39, 3) := by decide +kernel
theorem dX6_pay_24 : decode cX6_pay 24 = .ok (.aload_n 1, 1) := by decide +kernel
theorem dX6_pay_25 : decode cX6_pay 25 = .ok (.iload_n 3, 1) := by decide +kernel
theorem dX6_pay_26 : decode cX6_pay 26 = .ok (.iload_n 2, 1) := by decide +kernel
theorem dX6_pay_27 : decode cX6_pay 27 = .ok (.invokevirtual 43, 3) := by decide +kernel
theorem dX6_pay_30 : decode cX6_pay 30 = .ok (.ifCond .eq 24, 3) := by decide +kernel
theorem dX6_pay_33 : decode cX6_pay 33 = .ok (.aload_n 0, 1) := by decide +kernel
theorem dX6_pay_34 : decode cX6_pay 34 = .ok (.getfield 47, 3) := by decide +kernel
theorem dX6_pay_37 : decode cX6_pay 37 = .ok (.iload_n 3, 1) := by decide +kernel
theorem dX6_pay_38 : decode cX6_pay 38 = .ok (.lconst 0, 1) := by decide +kernel
theorem dX6_pay_39 : decode cX6_pay 39 = .ok (.aload_n 0, 1) := by decide +kernel
theorem dX6_pay_40 : decode cX6_pay 40 = .ok (.getfield 47, 3) := by decide +kernel
theorem dX6_pay_43 : decode cX6_pay 43 = .ok (.iload_n 3, 1) := by decide +kernel
theorem dX6_pay_44 : decode cX6_pay 44 = .ok (.laload, 1) := by decide +kernel
theorem dX6_pay_45 : decode cX6_pay 45 = .ok (.aload_n 0, 1) := by decide +kernel
theorem dX6_pay_46 : decode cX6_pay 46 = .ok (.getfield 33, 3) := by decide +kernel
theorem dX6_pay_49 : decode cX6_pay 49 = .ok (.lsub, 1) := by decide +kernel
theorem dX6_pay_50 : decode cX6_pay 50 = .ok (.invokestatic 59, 3) := by decide +kernel
theorem dX6_pay_53 : decode cX6_pay 53 = .ok (.lastore, 1) := by decide +kernel
theorem dX6_pay_54 : decode cX6_pay 54 = .ok (.iinc 3 1, 3) := by decide +kernel
theorem dX6_pay_57 : decode cX6_pay 57 = .ok (.goto (-41), 3) := by decide +kernel
theorem dX6_pay_60 : decode cX6_pay 60 = .ok (.return_, 1) := by decide +kernel
theorem dX7_init_0 : decode cX7_init 0 = .ok (.aload_n 0, 1) := by decide +kernel
theorem dX7_init_1 : decode cX7_init 1 = .ok (.invokespecial 3, 3) := by decide +kernel
theorem dX7_init_4 : decode cX7_init 4 = .ok (.aload_n 0, 1) := by decide +kernel
theorem dX7_init_5 : decode cX7_init 5 = .ok (.bipush 40, 2) := by decide +kernel
theorem dX7_init_7 : decode cX7_init 7 = .ok (.newarray .int, 2) := by decide +kernel
theorem dX7_init_9 : decode cX7_init 9 = .ok (.putfield 9, 3) := by decide +kernel
theorem dX7_init_12 : decode cX7_init 12 = .ok (.return_, 1) := by decide +kernel
theorem dX7_append_0 : decode cX7_append 0 = .ok (.aload_n 0, 1) := by decide +kernel
theorem dX7_append_1 : decode cX7_append 1 = .ok (.getfield 15, 3) := by decide +kernel
theorem dX7_append_4 : decode cX7_append 4 = .ok (.ifCond .lt 32, 3) := by decide +kernel
theorem dX7_append_7 : decode cX7_append 7 = .ok (.aload_n 0, 1) := by decide +kernel
theorem dX7_append_8 : decode cX7_append 8 = .ok (.getfield 15, 3) := by decide +kernel
theorem dX7_append_11 : decode cX7_append 11 = .ok (.bipush 40, 2) := by decide +kernel
theorem dX7_append_13 : decode cX7_append 13 = .ok (.if_icmp .ge 23, 3) := by decide +kernel
theorem dX7_append_16 : decode cX7_append 16 = .ok (.aload_n 0, 1) := by decide +kernel
theorem dX7_append_17 : decode cX7_append 17 = .ok (.getfield 9, 3) := by decide +kernel
theorem dX7_append_20 : decode cX7_append 20 = .ok (.aload_n 0, 1) := by decide +kernel
theorem dX7_append_21 : decode cX7_append 21 = .ok (.getfield 15, 3) := by decide +kernel
theorem dX7_append_24 : decode cX7_append 24 = .ok (.iload_n 1, 1) := by decide +kernel
theorem dX7_append_25 : decode cX7_append 25 = .ok (.iastore, 1) := by decide +kernel
theorem dX7_append_26 : decode cX7_append 26 = .ok (.aload_n 0, 1) := by decide +kernel
theorem dX7_append_27 : decode cX7_append 27 = .ok (.dup, 1) := by decide +kernel
theorem dX7_append_28 : decode cX7_append 28 = .ok (.getfield 15, 3) := by decide +kernel
theorem dX7_append_31 : decode cX7_append 31 = .ok (.iconst 1, 1) := by decide +kernel
theorem dX7_append_32 : decode cX7_append 32 = .ok (.iadd, 1) := by decide +kernel
theorem dX7_append_33 : decode cX7_append 33 = .ok (.putfield 15, 3) := by decide +kernel
theorem dX7_append_36 : decode cX7_append 36 = .ok (.return_, 1) := by decide +kernel
theorem dX7_step_0 : decode cX7_step 0 = .ok (.iload_n 0, 1) := by decide +kernel
theorem dX7_step_1 : decode cX7_step 1 = .ok (.bipush 10, 2) := by decide +kernel
theorem dX7_step_3 : decode cX7_step 3 = .ok (.if_icmp .ne 15, 3) := by decide +kernel
theorem dX7_step_6 : decode cX7_step 6 = .ok (.iload_n 1, 1) := by decide +kernel
theorem dX7_step_7 : decode cX7_step 7 = .ok (.bipush 59, 2) := by decide +kernel
theorem dX7_step_9 : decode cX7_step 9 = .ok (.if_icmp .ne 7, 3) := by decide +kernel
theorem dX7_step_12 : decode cX7_step 12 = .ok (.iconst 0, 1) := by decide +kernel
theorem dX7_step_13 : decode cX7_step 13 = .ok (.goto 4, 3) := by decide +kernel
theorem dX7_step_16 : decode cX7_step 16 = .ok (.iconst (-1), 1) := by decide +kernel
theorem dX7_step_17 : decode cX7_step 17 = .ok (.ireturn, 1) := by decide +kernel
theorem dX7_step_18 : decode cX7_step 18 = .ok (.iload_n 0, 1) := by decide +kernel
theorem dX7_step_19 : decode cX7_step 19 = .ok (.bipush 9, 2) := by decide +kernel
theorem dX7_step_21 : decode cX7_step 21 = .ok (.if_icmp .ne 22, 3) := by decide +kernel
theorem dX7_step_24 : decode cX7_step 24 = .ok (.iload_n 1, 1) := by decide +kernel
theorem dX7_step_25 : decode cX7_step 25 = .ok (.bipush 48, 2) := by decide +kernel
theorem dX7_step_27 : decode cX7_step 27 = .ok (.if_icmp .lt 14, 3) := by decide +kernel
theorem dX7_step_30 : decode cX7_step 30 = .ok (.iload_n 1, 1) := by decide +kernel
theorem dX7_step_31 : decode cX7_step 31 = .ok (.bipush 52, 2) := by decide +kernel
theorem dX7_step_33 : decode cX7_step 33 = .ok (.if_icmp .gt 8, 3) := by decide +kernel
theorem dX7_step_36 : decode cX7_step 36 = .ok (.bipush 10, 2) := by decide +kernel
theorem dX7_step_38 : decode cX7_step 38 = .ok (.goto 4, 3) := by decide +kernel
theorem dX7_step_41 : decode cX7_step 41 = .ok (.iconst (-1), 1) := by decide +kernel
theorem dX7_step_42 : decode cX7_step 42 = .ok (.ireturn, 1) := by decide +kernel
theorem dX7_step_43 : decode cX7_step 43 = .ok (.iload_n 1, 1) := by decide +kernel
theorem dX7_step_44 : decode cX7_step 44 = .ok (.bipush 97, 2) := by decide +kernel
theorem dX7_step_46 : decode cX7_step 46 = .ok (.iload_n 0, 1) := by decide +kernel
theorem dX7_step_47 : decode cX7_step 47 = .ok (.iadd, 1) := by decide +kernel
theorem dX7_step_48 : decode cX7_step 48 = .ok (.if_icmp .lt 16, 3) := by decide +kernel
theorem dX7_step_51 : decode cX7_step 51 = .ok (.iload_n 1, 1) := by decide +kernel
theorem dX7_step_52 : decode cX7_step 52 = .ok (.bipush 104, 2) := by decide +kernel
theorem dX7_step_54 : decode cX7_step 54 = .ok (.if_icmp .gt 10, 3) := by decide +kernel
theorem dX7_step_57 : decode cX7_step 57 = .ok (.iload_n 1, 1) := by decide +kernel
theorem dX7_step_58 : decode cX7_step 58 = .ok (.bipush 97, 2) := by decide +kernel
theorem dX7_step_60 : decode cX7_step 60 = .ok (.isub, 1) := by decide +kernel
theorem dX7_step_61 : decode cX7_step 61 = .ok (.iconst 1, 1) := by decide +kernel
theorem dX7_step_62 : decode cX7_step 62 = .ok (.iadd, 1) := by decide +kernel
theorem dX7_step_63 : decode cX7_step 63 = .ok (.ireturn, 1) := by decide +kernel
theorem dX7_step_64 : decode cX7_step 64 = .ok (.iload_n 1, 1) := by decide +kernel
theorem dX7_step_65 : decode cX7_step 65 = .ok (.bipush 60, 2) := by decide +kernel
theorem dX7_step_67 : decode cX7_step 67 = .ok (.if_icmp .eq 9, 3) := by decide +kernel
theorem dX7_step_70 : decode cX7_step 70 = .ok (.iload_n 1, 1) := by decide +kernel
theorem dX7_step_71 : decode cX7_step 71 = .ok (.bipush 62, 2) := by decide +kernel
theorem dX7_step_73 : decode cX7_step 73 = .ok (.if_icmp .ne 7, 3) := by decide +kernel
theorem dX7_step_76 : decode cX7_step 76 = .ok (.iconst 1, 1) := by decide +kernel
theorem dX7_step_77 : decode cX7_step 77 = .ok (.goto 4, 3) := by decide +kernel
theorem dX7_step_80 : decode cX7_step 80 = .ok (.iconst 0, 1) := by decide +kernel
theorem dX7_step_81 : decode cX7_step 81 = .ok (.istore_n 2, 1) := by decide +kernel
theorem dX7_step_82 : decode cX7_step 82 = .ok (.iload_n 0, 1) := by decide +kernel
theorem dX7_step_83 : decode cX7_step 83 = .ok (.ifCond .eq 12, 3) := by decide +kernel
theorem dX7_step_86 : decode cX7_step 86 = .ok (.iload_n 2, 1) := by decide +kernel
theorem dX7_step_87 : decode cX7_step 87 = .ok (.ifCond .eq 8, 3) := by decide +kernel
theorem dX7_step_90 : decode cX7_step 90 = .ok (.bipush 9, 2) := by decide +kernel
theorem dX7_step_92 : decode cX7_step 92 = .ok (.goto 4, 3) := by decide +kernel
theorem dX7_step_95 : decode cX7_step 95 = .ok (.iconst (-1), 1) := by decide +kernel
theorem dX7_step_96 : decode cX7_step 96 = .ok (.ireturn, 1) := by decide +kernel
set_option maxRecDepth 20000 in
theorem ggX7_firstFault_X7_step : GoodIn wsX7_firstFault wsX7_step := goodIn_r _ [6] (by decide +kernel) (by decide +kernel)
set_option maxRecDepth 20000 in
theorem gX7_firstFault_X7_step : GoodIn wsX7_firstFault (va_wsS RX7 19 yX7_step wsX7_step) := goodIn_app (goodIn_of _ (by decide +kernel)) ggX7_firstFault_X7_step
theorem dX7_firstFault_0 : decode cX7_firstFault 0 = .ok (.iconst 0, 1) := by decide +kernel
theorem dX7_firstFault_1 : decode cX7_firstFault 1 = .ok (.istore_n 1, 1) := by decide +kernel
theorem dX7_firstFault_2 : decode cX7_firstFault 2 = .ok (.iconst 0, 1) := by decide +kernel
theorem dX7_firstFault_3 : decode cX7_firstFault 3 = .ok (.istore_n 2, 1) := by decide +kernel
theorem dX7_firstFault_4 : decode cX7_firstFault 4 = .ok (.iload_n 2, 1) := by decide +kernel
theorem dX7_firstFault_5 : decode cX7_firstFault 5 = .ok (.aload_n 0, 1) := by decide +kernel
theorem dX7_firstFault_6 : decode cX7_firstFault 6 = .ok (.getfield 15, 3) := by decide +kernel
theorem dX7_firstFault_9 : decode cX7_firstFault 9 = .ok (.if_icmp .ge 27, 3) := by decide +kernel
theorem dX7_firstFault_12 : decode cX7_firstFault 12 = .ok (.iload_n 1, 1) := by decide +kernel
theorem dX7_firstFault_13 : decode cX7_firstFault 13 = .ok (.aload_n 0, 1) := by decide +kernel
theorem dX7_firstFault_14 : decode cX7_firstFault 14 = .ok (.getfield 9, 3) := by decide +kernel
theorem dX7_firstFault_17 : decode cX7_firstFault 17 = .ok (.iload_n 2, 1) := by decide +kernel
theorem dX7_firstFault_18 : decode cX7_firstFault 18 = .ok (.iaload, 1) := by decide +kernel
theorem dX7_firstFault_19 : decode cX7_firstFault 19 = .ok (.invokestatic 19, 3) := by decide +kernel
theorem dX7_firstFault_22 : decode cX7_firstFault 22 = .ok (.istore_n 1, 1) := by decide +kernel
theorem dX7_firstFault_23 : decode cX7_firstFault 23 = .ok (.iload_n 1, 1) := by decide +kernel
theorem dX7_firstFault_24 : decode cX7_firstFault 24 = .ok (.iconst (-1), 1) := by decide +kernel
theorem dX7_firstFault_25 : decode cX7_firstFault 25 = .ok (.if_icmp .ne 5, 3) := by decide +kernel
theorem dX7_firstFault_28 : decode cX7_firstFault 28 = .ok (.iload_n 2, 1) := by decide +kernel
theorem dX7_firstFault_29 : decode cX7_firstFault 29 = .ok (.ireturn, 1) := by decide +kernel
theorem dX7_firstFault_30 : decode cX7_firstFault 30 = .ok (.iinc 2 1, 3) := by decide +kernel
theorem dX7_firstFault_33 : decode cX7_firstFault 33 = .ok (.goto (-29), 3) := by decide +kernel
theorem dX7_firstFault_36 : decode cX7_firstFault 36 = .ok (.iload_n 1, 1) := by decide +kernel
theorem dX7_firstFault_37 : decode cX7_firstFault 37 = .ok (.bipush 10, 2) := by decide +kernel
theorem dX7_firstFault_39 : decode cX7_firstFault 39 = .ok (.if_icmp .ne 8, 3) := by decide +kernel
theorem dX7_firstFault_42 : decode cX7_firstFault 42 = .ok (.bipush (-6), 2) := by decide +kernel
theorem dX7_firstFault_44 : decode cX7_firstFault 44 = .ok (.goto 7, 3) := by decide +kernel
theorem dX7_firstFault_47 : decode cX7_firstFault 47 = .ok (.aload_n 0, 1) := by decide +kernel
theorem dX7_firstFault_48 : decode cX7_firstFault 48 = .ok (.getfield 15, 3) := by decide +kernel
theorem dX7_firstFault_51 : decode cX7_firstFault 51 = .ok (.ireturn, 1) := by decide +kernel
set_option maxRecDepth 20000 in
theorem ggX8_init_X5_init : GoodIn wsX8_init wsX5_init := goodIn_r _ [16, 17, 18, 19, 20, 2, 3, 21, 22, 25, 26, 34, 35, 36, 37] (by decide +kernel) (by decide +kernel)
set_option maxRecDepth 20000 in
theorem gX8_init_X5_init_n11 : GoodIn wsX8_init (wsX5_init) := ggX8_init_X5_init
set_option maxRecDepth 20000 in
theorem ggX8_init_X6_init : GoodIn wsX8_init wsX6_init := goodIn_r _ [24, 17, 18, 19, 20, 2, 3, 21, 22, 25, 26, 34, 35, 36, 37] (by decide +kernel) (by decide +kernel)
set_option maxRecDepth 20000 in
theorem gX8_init_X6_init_n20 : GoodIn wsX8_init (wsX6_init) := ggX8_init_X6_init
theorem dX8_init_0 : decode cX8_init 0 = .ok (.aload_n 0, 1) := by decide +kernel
theorem dX8_init_1 : decode cX8_init 1 = .ok (.invokespecial 3, 3) := by decide +kernel
theorem dX8_init_4 : decode cX8_init 4 = .ok (.aload_n 0, 1) := by decide +kernel
theorem dX8_init_5 : decode cX8_init 5 = .ok (.new 9, 3) := by decide +kernel
theorem dX8_init_8 : decode cX8_init 8 = .ok (.dup, 1) := by decide +kernel
theorem dX8_init_9 : decode cX8_init 9 = .ok (.invokespecial 11, 3) := by decide +kernel
theorem dX8_init_12 : decode cX8_init 12 = .ok (.putfield 12, 3) := by decide +kernel
theorem dX8_init_15 : decode cX8_init 15 = .ok (.aload_n 0, 1) := by decide +kernel
theorem dX8_init_16 : decode cX8_init 16 = .ok (.new 18, 3) := by decide +kernel
theorem dX8_init_19 : decode cX8_init 19 = .ok (.dup, 1) := by decide +kernel
theorem dX8_init_20 : decode cX8_init 20 = .ok (.invokespecial 20, 3) := by decide +kernel
theorem dX8_init_23 : decode cX8_init 23 = .ok (.putfield 21, 3) := by decide +kernel
theorem dX8_init_26 : decode cX8_init 26 = .ok (.aload_n 0, 1) := by decide +kernel
theorem dX8_init_27 : decode cX8_init 27 = .ok (.iconst 4, 1) := by decide +kernel
theorem dX8_init_28 : decode cX8_init 28 = .ok (.newarray .int, 2) := by decide +kernel
theorem dX8_init_30 : decode cX8_init 30 = .ok (.putfield 25, 3) := by decide +kernel
theorem dX8_init_33 : decode cX8_init 33 = .ok (.aload_n 0, 1) := by decide +kernel
theorem dX8_init_34 : decode cX8_init 34 = .ok (.aload_n 1, 1) := by decide +kernel
theorem dX8_init_35 : decode cX8_init 35 = .ok (.putfield 29, 3) := by decide +kernel
theorem dX8_init_38 : decode cX8_init 38 = .ok (.return_, 1) := by decide +kernel
set_option maxRecDepth 20000 in
theorem ggX8_run_X8_clear : GoodIn wsX8_run wsX8_clear := goodIn_r _ [6, 7, 8, 158, 159, 160, 161, 162, 163, 164] (by decide +kernel) (by decide +kernel)
set_option maxRecDepth 20000 in
theorem gX8_run_X8_clear : GoodIn wsX8_run (wsV RX8 33 RX8 yX8_clear wsX8_clear) := goodIn_app (goodIn_of _ (by decide +kernel)) ggX8_run_X8_clear
set_option maxRecDepth 20000 in
theorem ggX8_run_X8_byHeads : GoodIn wsX8_run wsX8_byHeads := goodIn_r _ [12, 7, 13, 14, 15, 5, 16, 8, 17, 18, 19, 20, 21, 22, 23, 24, 25, 26, 27, 28, 29, 30, 31, 32, 33, 158, 159, 160, 161, 162, 163, 164, 165, 166, 167, 168] (by decide +kernel) (by decide +kernel)
set_option maxRecDepth 20000 in
theorem gX8_run_X8_byHeads : GoodIn wsX8_run (wsV RX8 36 RX8 yX8_byHeads wsX8_byHeads) := goodIn_app (goodIn_of _ (by decide +kernel)) ggX8_run_X8_byHeads
set_option maxRecDepth 20000 in
theorem ggX8_run_X8_byWorth : GoodIn wsX8_run wsX8_byWorth := goodIn_r _ [37, 8, 13, 14, 15, 5, 16, 38, 39, 40, 20, 41, 22, 23, 42, 43, 28, 44, 45, 46, 47, 48, 49, 50, 29, 30, 31, 32, 7, 33, 158, 159, 160, 161, 162, 163, 164, 165, 166, 167, 168, 169, 170] (by decide +kernel) (by decide +kernel)
set_option maxRecDepth 20000 in
theorem gX8_run_X8_byWorth : GoodIn wsX8_run (wsV RX8 40 RX8 yX8_byWorth wsX8_byWorth) := goodIn_app (goodIn_of _ (by decide +kernel)) ggX8_run_X8_byWorth
set_option maxRecDepth 20000 in
theorem ggX8_run_X8_byLoads : GoodIn wsX8_run wsX8_byLoads := goodIn_r _ [54, 55, 8, 2, 3, 4, 5, 6, 7, 56, 57, 58, 59, 60, 61, 62, 63, 64, 65, 66, 67, 68, 69, 70, 71, 18, 19, 20, 21, 22, 23, 24, 25, 26, 27, 28, 72, 73, 74, 75, 76, 77, 78, 79, 80, 81, 82, 83, 84, 85, 86, 87, 88, 89, 90, 91, 92, 29, 30, 31, 32, 33, 158, 159, 160, 161, 162, 163, 164, 171, 172, 173, 174, 175, 176, 165, 166, 167, 168] (by decide +kernel) (by decide +kernel)
set_option maxRecDepth 20000 in
theorem gX8_run_X8_byLoads : GoodIn wsX8_run (wsV RX8 43 RX8 yX8_byLoads wsX8_byLoads) := goodIn_app (goodIn_of _ (by decide +kernel)) ggX8_run_X8_byLoads
set_option maxRecDepth 20000 in
theorem ggX8_run_X8_byPurses : GoodIn wsX8_run wsX8_byPurses := goodIn_r _ [96, 97, 98, 8, 2, 3, 4, 5, 6, 7, 99, 100, 101, 59, 60, 61, 62, 63, 102, 103, 104, 105, 106, 107, 108, 109, 110, 111, 112, 113, 20, 114, 22, 23, 115, 18, 19, 21, 24, 25, 26, 27, 28, 116, 117, 118, 75, 76, 77, 78, 79, 119, 120, 121, 122, 123, 124, 125, 126, 127, 128, 129, 130, 131, 132, 133, 134, 135, 136, 137, 138, 90, 91, 29, 30, 31, 32, 33, 9, 10, 11, 12, 13, 14, 15, 16, 17, 158, 159, 160, 161, 162, 163, 164, 171, 172, 173, 174, 175, 176, 165, 166, 167, 168] (by decide +kernel) (by decide +kernel)
set_option maxRecDepth 20000 in
theorem gX8_run_X8_byPurses : GoodIn wsX8_run (wsV RX8 46 RX8 yX8_byPurses wsX8_byPurses) := goodIn_app (goodIn_of _ (by decide +kernel)) ggX8_run_X8_byPurses
set_option maxRecDepth 20000 in
theorem ggX8_run_X0_ofMostWorth : GoodIn wsX8_run wsX0_ofMostWorth := goodIn_r _ [143, 144, 145, 146, 39, 40, 20, 41, 22, 23, 42, 43, 28, 44, 45, 46, 47, 48, 49, 50, 177, 178, 165, 166, 167, 168, 169, 170] (by decide +kernel) (by decide +kernel)
set_option maxRecDepth 20000 in
theorem gX8_run_X0_ofMostWorth : GoodIn wsX8_run (wsV RX8 50 RX0 yX0_ofMostWorth wsX0_ofMostWorth) := goodIn_app (goodIn_of _ (by decide +kernel)) ggX8_run_X0_ofMostWorth
set_option maxRecDepth 20000 in
theorem ggX8_run_X8_take : GoodIn wsX8_run wsX8_take := goodIn_r _ [150, 2, 3, 4, 5, 6, 7, 8, 29, 30, 31, 32, 33, 158, 159, 160, 161, 162, 163, 164] (by decide +kernel) (by decide +kernel)
set_option maxRecDepth 20000 in
theorem gX8_run_X8_take : GoodIn wsX8_run (wsV RX8 56 RX8 yX8_take wsX8_take) := goodIn_app (goodIn_of _ (by decide +kernel)) ggX8_run_X8_take
set_option maxRecDepth 20000 in
theorem ggX8_run_X8_bySwaps : GoodIn wsX8_run wsX8_bySwaps := goodIn_r _ [154, 8, 34, 35, 36, 5, 37, 13, 14, 15, 16, 38, 39, 40, 20, 41, 22, 23, 42, 43, 28, 44, 45, 46, 47, 48, 49, 50, 29, 30, 31, 32, 7, 33, 155, 156, 157, 147, 148, 149, 150, 2, 3, 4, 6, 158, 159, 160, 161, 162, 163, 164, 165, 166, 167, 168, 169, 170] (by decide +kernel) (by decide +kernel)
set_option maxRecDepth 20000 in
theorem gX8_run_X8_bySwaps : GoodIn wsX8_run (wsV RX8 60 RX8 yX8_bySwaps wsX8_bySwaps) := goodIn_app (goodIn_of _ (by decide +kernel)) ggX8_run_X8_bySwaps
theorem dX8_run_0 : decode cX8_run 0 = .ok (.aload_n 0, 1) := by decide +kernel
theorem dX8_run_1 : decode cX8_run 1 = .ok (.invokevirtual 33, 3) := by decide +kernel
theorem dX8_run_4 : decode cX8_run 4 = .ok (.iload_n 1, 1) := by decide +kernel
theorem dX8_run_5 : decode cX8_run 5 = .ok (.tableswitch 87 0 4 #[35, 44, 53, 62, 72], 35) := by decide +kernel
theorem dX8_run_40 : decode cX8_run 40 = .ok (.aload_n 0, 1) := by decide +kernel
theorem dX8_run_41 : decode cX8_run 41 = .ok (.aload_n 2, 1) := by decide +kernel
theorem dX8_run_42 : decode cX8_run 42 = .ok (.iload_n 3, 1) := by decide +kernel
theorem dX8_run_43 : decode cX8_run 43 = .ok (.invokevirtual 36, 3) := by decide +kernel
theorem dX8_run_46 : decode cX8_run 46 = .ok (.goto 52, 3) := by decide +kernel
theorem dX8_run_49 : decode cX8_run 49 = .ok (.aload_n 0, 1) := by decide +kernel
theorem dX8_run_50 : decode cX8_run 50 = .ok (.aload_n 2, 1) := by decide +kernel
theorem dX8_run_51 : decode cX8_run 51 = .ok (.iload_n 3, 1) := by decide +kernel
theorem dX8_run_52 : decode cX8_run 52 = .ok (.invokevirtual 40, 3) := by decide +kernel
theorem dX8_run_55 : decode cX8_run 55 = .ok (.goto 43, 3) := by decide +kernel
theorem dX8_run_58 : decode cX8_run 58 = .ok (.aload_n 0, 1) := by decide +kernel
theorem dX8_run_59 : decode cX8_run 59 = .ok (.aload_n 2, 1) := by decide +kernel
theorem dX8_run_60 : decode cX8_run 60 = .ok (.iload_n 3, 1) := by decide +kernel
theorem dX8_run_61 : decode cX8_run 61 = .ok (.invokevirtual 43, 3) := by decide +kernel
theorem dX8_run_64 : decode cX8_run 64 = .ok (.goto 34, 3) := by decide +kernel
theorem dX8_run_67 : decode cX8_run 67 = .ok (.aload_n 0, 1) := by decide +kernel
theorem dX8_run_68 : decode cX8_run 68 = .ok (.aload_n 2, 1) := by decide +kernel
theorem dX8_run_69 : decode cX8_run 69 = .ok (.iload_n 3, 1) := by decide +kernel
theorem dX8_run_70 : decode cX8_run 70 = .ok (.iload_n 3, 1) := by decide +kernel
theorem dX8_run_71 : decode cX8_run 71 = .ok (.invokevirtual 46, 3) := by decide +kernel
theorem dX8_run_74 : decode cX8_run 74 = .ok (.goto 24, 3) := by decide +kernel
theorem dX8_run_77 : decode cX8_run 77 = .ok (.aload_n 0, 1) := by decide +kernel
theorem dX8_run_78 : decode cX8_run 78 = .ok (.aload_n 0, 1) := by decide +kernel
theorem dX8_run_79 : decode cX8_run 79 = .ok (.getfield 29, 3) := by decide +kernel
theorem dX8_run_82 : decode cX8_run 82 = .ok (.aload_n 2, 1) := by decide +kernel
theorem dX8_run_83 : decode cX8_run 83 = .ok (.invokevirtual 50, 3) := by decide +kernel
theorem dX8_run_86 : decode cX8_run 86 = .ok (.invokevirtual 56, 3) := by decide +kernel
theorem dX8_run_89 : decode cX8_run 89 = .ok (.goto 9, 3) := by decide +kernel
theorem dX8_run_92 : decode cX8_run 92 = .ok (.aload_n 0, 1) := by decide +kernel
theorem dX8_run_93 : decode cX8_run 93 = .ok (.aload_n 2, 1) := by decide +kernel
theorem dX8_run_94 : decode cX8_run 94 = .ok (.iload_n 3, 1) := by decide +kernel
theorem dX8_run_95 : decode cX8_run 95 = .ok (.invokevirtual 60, 3) := by decide +kernel
theorem dX8_run_98 : decode cX8_run 98 = .ok (.return_, 1) := by decide +kernel
theorem dX8_holds_0 : decode cX8_holds 0 = .ok (.aload_n 0, 1) := by decide +kernel
theorem dX8_holds_1 : decode cX8_holds 1 = .ok (.getfield 63, 3) := by decide +kernel
theorem dX8_holds_4 : decode cX8_holds 4 = .ok (.iload_n 1, 1) := by decide +kernel
theorem dX8_holds_5 : decode cX8_holds 5 = .ok (.ishr, 1) := by decide +kernel
theorem dX8_holds_6 : decode cX8_holds 6 = .ok (.iconst 1, 1) := by decide +kernel
theorem dX8_holds_7 : decode cX8_holds 7 = .ok (.iand, 1) := by decide +kernel
theorem dX8_holds_8 : decode cX8_holds 8 = .ok (.iconst 1, 1) := by decide +kernel
theorem dX8_holds_9 : decode cX8_holds 9 = .ok (.if_icmp .ne 7, 3) := by decide +kernel
theorem dX8_holds_12 : decode cX8_holds 12 = .ok (.iconst 1, 1) := by decide +kernel
theorem dX8_holds_13 : decode cX8_holds 13 = .ok (.goto 4, 3) := by decide +kernel
theorem dX8_holds_16 : decode cX8_holds 16 = .ok (.iconst 0, 1) := by decide +kernel
theorem dX8_holds_17 : decode cX8_holds 17 = .ok (.ireturn, 1) := by decide +kernel
theorem dX8_chosenAt_0 : decode cX8_chosenAt 0 = .ok (.iload_n 1, 1) := by decide +kernel
theorem dX8_chosenAt_1 : decode cX8_chosenAt 1 = .ok (.ifCond .lt 25, 3) := by decide +kernel
theorem dX8_chosenAt_4 : decode cX8_chosenAt 4 = .ok (.iload_n 1, 1) := by decide +kernel
theorem dX8_chosenAt_5 : decode cX8_chosenAt 5 = .ok (.aload_n 0, 1) := by decide +kernel
theorem dX8_chosenAt_6 : decode cX8_chosenAt 6 = .ok (.getfield 67, 3) := by decide +kernel
theorem dX8_chosenAt_9 : decode cX8_chosenAt 9 = .ok (.if_icmp .ge 17, 3) := by decide +kernel
theorem dX8_chosenAt_12 : decode cX8_chosenAt 12 = .ok (.iload_n 1, 1) := by decide +kernel
theorem dX8_chosenAt_13 : decode cX8_chosenAt 13 = .ok (.iconst 4, 1) := by decide +kernel
theorem dX8_chosenAt_14 : decode cX8_chosenAt 14 = .ok (.if_icmp .ge 12, 3) := by decide +kernel
theorem dX8_chosenAt_17 : decode cX8_chosenAt 17 = .ok (.aload_n 0, 1) := by decide +kernel
theorem dX8_chosenAt_18 : decode cX8_chosenAt 18 = .ok (.getfield 25, 3) := by decide +kernel
theorem dX8_chosenAt_21 : decode cX8_chosenAt 21 = .ok (.iload_n 1, 1) := by decide +kernel
theorem dX8_chosenAt_22 : decode cX8_chosenAt 22 = .ok (.iaload, 1) := by decide +kernel
theorem dX8_chosenAt_23 : decode cX8_chosenAt 23 = .ok (.goto 5, 3) := by decide +kernel
theorem dX8_chosenAt_26 : decode cX8_chosenAt 26 = .ok (.bipush (-6), 2) := by decide +kernel
theorem dX8_chosenAt_28 : decode cX8_chosenAt 28 = .ok (.ireturn, 1) := by decide +kernel
theorem dX8_clear_0 : decode cX8_clear 0 = .ok (.aload_n 0, 1) := by decide +kernel
theorem dX8_clear_1 : decode cX8_clear 1 = .ok (.iconst 0, 1) := by decide +kernel
theorem dX8_clear_2 : decode cX8_clear 2 = .ok (.putfield 67, 3) := by decide +kernel
theorem dX8_clear_5 : decode cX8_clear 5 = .ok (.aload_n 0, 1) := by decide +kernel
theorem dX8_clear_6 : decode cX8_clear 6 = .ok (.iconst 0, 1) := by decide +kernel
theorem dX8_clear_7 : decode cX8_clear 7 = .ok (.putfield 63, 3) := by decide +kernel
theorem dX8_clear_10 : decode cX8_clear 10 = .ok (.return_, 1) := by decide +kernel
theorem dX8_add_0 : decode cX8_add 0 = .ok (.iload_n 1, 1) := by decide +kernel
theorem dX8_add_1 : decode cX8_add 1 = .ok (.ifCond .lt 49, 3) := by decide +kernel
theorem dX8_add_4 : decode cX8_add 4 = .ok (.iload_n 1, 1) := by decide +kernel
theorem dX8_add_5 : decode cX8_add 5 = .ok (.bipush 8, 2) := by decide +kernel
theorem dX8_add_7 : decode cX8_add 7 = .ok (.if_icmp .ge 43, 3) := by decide +kernel
theorem dX8_add_10 : decode cX8_add 10 = .ok (.aload_n 0, 1) := by decide +kernel
theorem dX8_add_11 : decode cX8_add 11 = .ok (.getfield 67, 3) := by decide +kernel
theorem dX8_add_14 : decode cX8_add 14 = .ok (.iconst 4, 1) := by decide +kernel
theorem dX8_add_15 : decode cX8_add 15 = .ok (.if_icmp .ge 35, 3) := by decide +kernel
theorem dX8_add_18 : decode cX8_add 18 = .ok (.aload_n 0, 1) := by decide +kernel
theorem dX8_add_19 : decode cX8_add 19 = .ok (.getfield 25, 3) := by decide +kernel
theorem dX8_add_22 : decode cX8_add 22 = .ok (.aload_n 0, 1) := by decide +kernel
theorem dX8_add_23 : decode cX8_add 23 = .ok (.getfield 67, 3) := by decide +kernel
theorem dX8_add_26 : decode cX8_add 26 = .ok (.iload_n 1, 1) := by decide +kernel
theorem dX8_add_27 : decode cX8_add 27 = .ok (.iastore, 1) := by decide +kernel
theorem dX8_add_28 : decode cX8_add 28 = .ok (.aload_n 0, 1) := by decide +kernel
theorem dX8_add_29 : decode cX8_add 29 = .ok (.dup, 1) := by decide +kernel
theorem dX8_add_30 : decode cX8_add 30 = .ok (.getfield 67, 3) := by decide +kernel
theorem dX8_add_33 : decode cX8_add 33 = .ok (.iconst 1, 1) := by decide +kernel
theorem dX8_add_34 : decode cX8_add 34 = .ok (.iadd, 1) := by decide +kernel
theorem dX8_add_35 : decode cX8_add 35 = .ok (.putfield 67, 3) := by decide +kernel
theorem dX8_add_38 : decode cX8_add 38 = .ok (.aload_n 0, 1) := by decide +kernel
theorem dX8_add_39 : decode cX8_add 39 = .ok (.dup, 1) := by decide +kernel
theorem dX8_add_40 : decode cX8_add 40 = .ok (.getfield 63, 3) := by decide +kernel
theorem dX8_add_43 : decode cX8_add 43 = .ok (.iconst 1, 1) := by decide +kernel
theorem dX8_add_44 : decode cX8_add 44 = .ok (.iload_n 1, 1) := by decide +kernel
theorem dX8_add_45 : decode cX8_add 45 = .ok (.ishl, 1) := by decide +kernel
theorem dX8_add_46 : decode cX8_add 46 = .ok (.ior, 1) := by decide +kernel
theorem dX8_add_47 : decode cX8_add 47 = .ok (.putfield 63, 3) := by decide +kernel
theorem dX8_add_50 : decode cX8_add 50 = .ok (.return_, 1) := by decide +kernel
set_option maxRecDepth 20000 in
theorem ggX8_take_X8_clear : GoodIn wsX8_take wsX8_clear := goodIn_r _ [5, 6, 7, 13, 14, 15, 16, 17, 18, 19] (by decide +kernel) (by decide +kernel)
set_option maxRecDepth 20000 in
theorem gX8_take_X8_clear : GoodIn wsX8_take (wsV RX8 33 RX8 yX8_clear wsX8_clear) := goodIn_app (goodIn_of _ (by decide +kernel)) ggX8_take_X8_clear
set_option maxRecDepth 20000 in
theorem ggX8_take_X8_add : GoodIn wsX8_take wsX8_add := goodIn_r _ [11, 6, 12, 7, 13, 14, 15, 16, 17, 18, 19] (by decide +kernel) (by decide +kernel)
set_option maxRecDepth 20000 in
theorem gX8_take_X8_add : GoodIn wsX8_take (wsV RX8 70 RX8 yX8_add wsX8_add) := goodIn_app (goodIn_of _ (by decide +kernel)) ggX8_take_X8_add
theorem dX8_take_0 : decode cX8_take 0 = .ok (.aload_n 0, 1) := by decide +kernel
theorem dX8_take_1 : decode cX8_take 1 = .ok (.invokevirtual 33, 3) := by decide +kernel
theorem dX8_take_4 : decode cX8_take 4 = .ok (.iconst 0, 1) := by decide +kernel
theorem dX8_take_5 : decode cX8_take 5 = .ok (.istore_n 2, 1) := by decide +kernel
theorem dX8_take_6 : decode cX8_take 6 = .ok (.iload_n 2, 1) := by decide +kernel
theorem dX8_take_7 : decode cX8_take 7 = .ok (.bipush 8, 2) := by decide +kernel
theorem dX8_take_9 : decode cX8_take 9 = .ok (.if_icmp .ge 23, 3) := by decide +kernel
theorem dX8_take_12 : decode cX8_take 12 = .ok (.iload_n 1, 1) := by decide +kernel
theorem dX8_take_13 : decode cX8_take 13 = .ok (.iload_n 2, 1) := by decide +kernel
theorem dX8_take_14 : decode cX8_take 14 = .ok (.ishr, 1) := by decide +kernel
theorem dX8_take_15 : decode cX8_take 15 = .ok (.iconst 1, 1) := by decide +kernel
theorem dX8_take_16 : decode cX8_take 16 = .ok (.iand, 1) := by decide +kernel
theorem dX8_take_17 : decode cX8_take 17 = .ok (.iconst 1, 1) := by decide +kernel
theorem dX8_take_18 : decode cX8_take 18 = .ok (.if_icmp .ne 8, 3) := by decide +kernel
theorem dX8_take_21 : decode cX8_take 21 = .ok (.aload_n 0, 1) := by decide +kernel
theorem dX8_take_22 : decode cX8_take 22 = .ok (.iload_n 2, 1) := by decide +kernel
theorem dX8_take_23 : decode cX8_take 23 = .ok (.invokevirtual 70, 3) := by decide +kernel
theorem dX8_take_26 : decode cX8_take 26 = .ok (.iinc 2 1, 3) := by decide +kernel
theorem dX8_take_29 : decode cX8_take 29 = .ok (.goto (-23), 3) := by decide +kernel
theorem dX8_take_32 : decode cX8_take 32 = .ok (.return_, 1) := by decide +kernel
set_option maxRecDepth 20000 in
theorem ggX8_byHeads_X8_holds : GoodIn wsX8_byHeads wsX8_holds := goodIn_r _ [6, 7, 25, 26, 27, 28, 29, 30, 31] (by decide +kernel) (by decide +kernel)
set_option maxRecDepth 20000 in
theorem gX8_byHeads_X8_holds : GoodIn wsX8_byHeads (wsV RX8 73 RX8 yX8_holds wsX8_holds) := goodIn_app (goodIn_of _ (by decide +kernel)) ggX8_byHeads_X8_holds
set_option maxRecDepth 20000 in
theorem ggX8_byHeads_X3_telling : GoodIn wsX8_byHeads wsX3_telling := goodIn_r _ [12, 13, 14, 15, 16, 17, 11, 18, 19, 32, 33, 34, 35] (by decide +kernel) (by decide +kernel)
set_option maxRecDepth 20000 in
theorem gX8_byHeads_X3_telling : GoodIn wsX8_byHeads (wsV RX8 77 RX3 yX3_telling wsX3_telling) := goodIn_app (goodIn_of _ (by decide +kernel)) ggX8_byHeads_X3_telling
set_option maxRecDepth 20000 in
theorem ggX8_byHeads_X8_add : GoodIn wsX8_byHeads wsX8_add := goodIn_r _ [23, 1, 24, 7, 25, 26, 27, 28, 29, 30, 31] (by decide +kernel) (by decide +kernel)
set_option maxRecDepth 20000 in
theorem gX8_byHeads_X8_add : GoodIn wsX8_byHeads (wsV RX8 70 RX8 yX8_add wsX8_add) := goodIn_app (goodIn_of _ (by decide +kernel)) ggX8_byHeads_X8_add
theorem dX8_byHeads_0 : decode cX8_byHeads 0 = .ok (.aload_n 0, 1) := by decide +kernel
theorem dX8_byHeads_1 : decode cX8_byHeads 1 = .ok (.getfield 67, 3) := by decide +kernel
theorem dX8_byHeads_4 : decode cX8_byHeads 4 = .ok (.istore_n 3, 1) := by decide +kernel
theorem dX8_byHeads_5 : decode cX8_byHeads 5 = .ok (.iload_n 3, 1) := by decide +kernel
theorem dX8_byHeads_6 : decode cX8_byHeads 6 = .ok (.iload_n 2, 1) := by decide +kernel
theorem dX8_byHeads_7 : decode cX8_byHeads 7 = .ok (.if_icmp .ge 74, 3) := by decide +kernel
theorem dX8_byHeads_10 : decode cX8_byHeads 10 = .ok (.bipush (-6), 2) := by decide +kernel
theorem dX8_byHeads_12 : decode cX8_byHeads 12 = .ok (.istore 4, 2) := by decide +kernel
theorem dX8_byHeads_14 : decode cX8_byHeads 14 = .ok (.iconst (-1), 1) := by decide +kernel
theorem dX8_byHeads_15 : decode cX8_byHeads 15 = .ok (.istore 5, 2) := by decide +kernel
theorem dX8_byHeads_17 : decode cX8_byHeads 17 = .ok (.iconst 0, 1) := by decide +kernel
theorem dX8_byHeads_18 : decode cX8_byHeads 18 = .ok (.istore 6, 2) := by decide +kernel
theorem dX8_byHeads_20 : decode cX8_byHeads 20 = .ok (.iload 6, 2) := by decide +kernel
theorem dX8_byHeads_22 : decode cX8_byHeads 22 = .ok (.bipush 8, 2) := by decide +kernel
theorem dX8_byHeads_24 : decode cX8_byHeads 24 = .ok (.if_icmp .ge 45, 3) := by decide +kernel
theorem dX8_byHeads_27 : decode cX8_byHeads 27 = .ok (.aload_n 0, 1) := by decide +kernel
theorem dX8_byHeads_28 : decode cX8_byHeads 28 = .ok (.iload 6, 2) := by decide +kernel
theorem dX8_byHeads_30 : decode cX8_byHeads 30 = .ok (.invokevirtual 73, 3) := by decide +kernel
theorem dX8_byHeads_33 : decode cX8_byHeads 33 = .ok (.ifCond .eq 7, 3) := by decide +kernel
theorem dX8_byHeads_36 : decode cX8_byHeads 36 = .ok (.iconst (-1), 1) := by decide +kernel
theorem dX8_byHeads_37 : decode cX8_byHeads 37 = .ok (.goto 9, 3) := by decide +kernel
theorem dX8_byHeads_40 : decode cX8_byHeads 40 = .ok (.aload_n 1, 1) := by decide +kernel
theorem dX8_byHeads_41 : decode cX8_byHeads 41 = .ok (.iload 6, 2) := by decide +kernel
theorem dX8_byHeads_43 : decode cX8_byHeads 43 = .ok (.invokevirtual 77, 3) := by decide +kernel
theorem dX8_byHeads_46 : decode cX8_byHeads 46 = .ok (.istore 7, 2) := by decide +kernel
theorem dX8_byHeads_48 : decode cX8_byHeads 48 = .ok (.iload 7, 2) := by decide +kernel
theorem dX8_byHeads_50 : decode cX8_byHeads 50 = .ok (.iload 5, 2) := by decide +kernel
theorem dX8_byHeads_52 : decode cX8_byHeads 52 = .ok (.if_icmp .le 11, 3) := by decide +kernel
theorem dX8_byHeads_55 : decode cX8_byHeads 55 = .ok (.iload 7, 2) := by decide +kernel
theorem dX8_byHeads_57 : decode cX8_byHeads 57 = .ok (.istore 5, 2) := by decide +kernel
theorem dX8_byHeads_59 : decode cX8_byHeads 59 = .ok (.iload 6, 2) := by decide +kernel
theorem dX8_byHeads_61 : decode cX8_byHeads 61 = .ok (.istore 4, 2) := by decide +kernel
theorem dX8_byHeads_63 : decode cX8_byHeads 63 = .ok (.iinc 6 1, 3) := by decide +kernel
theorem dX8_byHeads_66 : decode cX8_byHeads 66 = .ok (.goto (-46), 3) := by decide +kernel
theorem dX8_byHeads_69 : decode cX8_byHeads 69 = .ok (.aload_n 0, 1) := by decide +kernel
theorem dX8_byHeads_70 : decode cX8_byHeads 70 = .ok (.iload 4, 2) := by decide +kernel
theorem dX8_byHeads_72 : decode cX8_byHeads 72 = .ok (.invokevirtual 70, 3) := by decide +kernel
theorem dX8_byHeads_75 : decode cX8_byHeads 75 = .ok (.iinc 3 1, 3) := by decide +kernel
theorem dX8_byHeads_78 : decode cX8_byHeads 78 = .ok (.goto (-73), 3) := by decide +kernel
theorem dX8_byHeads_81 : decode cX8_byHeads 81 = .ok (.return_, 1) := by decide +kernel
set_option maxRecDepth 20000 in
theorem ggX8_byWorth_X8_holds : GoodIn wsX8_byWorth wsX8_holds := goodIn_r _ [6, 1, 30, 31, 32, 33, 34, 35, 36] (by decide +kernel) (by decide +kernel)
set_option maxRecDepth 20000 in
theorem gX8_byWorth_X8_holds : GoodIn wsX8_byWorth (wsV RX8 73 RX8 yX8_holds wsX8_holds) := goodIn_app (goodIn_of _ (by decide +kernel)) ggX8_byWorth_X8_holds
set_option maxRecDepth 20000 in
theorem ggX8_byWorth_X3_worthOf : GoodIn wsX8_byWorth wsX3_worthOf := goodIn_r _ [11, 12, 13, 14, 15, 16, 17, 18, 19, 20, 21, 22, 23, 37, 38, 39, 40, 41, 42] (by decide +kernel) (by decide +kernel)
set_option maxRecDepth 20000 in
theorem gX8_byWorth_X3_worthOf : GoodIn wsX8_byWorth (wsV RX8 83 RX3 yX3_worthOf wsX3_worthOf) := goodIn_app (goodIn_of _ (by decide +kernel)) ggX8_byWorth_X3_worthOf
set_option maxRecDepth 20000 in
theorem ggX8_byWorth_X8_add : GoodIn wsX8_byWorth wsX8_add := goodIn_r _ [27, 28, 29, 1, 30, 31, 32, 33, 34, 35, 36] (by decide +kernel) (by decide +kernel)
set_option maxRecDepth 20000 in
theorem gX8_byWorth_X8_add : GoodIn wsX8_byWorth (wsV RX8 70 RX8 yX8_add wsX8_add) := goodIn_app (goodIn_of _ (by decide +kernel)) ggX8_byWorth_X8_add
theorem dX8_byWorth_0 : decode cX8_byWorth 0 = .ok (.iconst 0, 1) := by decide +kernel
theorem dX8_byWorth_1 : decode cX8_byWorth 1 = .ok (.istore_n 3, 1) := by decide +kernel
theorem dX8_byWorth_2 : decode cX8_byWorth 2 = .ok (.iload_n 3, 1) := by decide +kernel
theorem dX8_byWorth_3 : decode cX8_byWorth 3 = .ok (.iload_n 2, 1) := by decide +kernel
theorem dX8_byWorth_4 : decode cX8_byWorth 4 = .ok (.if_icmp .ge 81, 3) := by decide +kernel
theorem dX8_byWorth_7 : decode cX8_byWorth 7 = .ok (.bipush (-6), 2) := by decide +kernel
theorem dX8_byWorth_9 : decode cX8_byWorth 9 = .ok (.istore 4, 2) := by decide +kernel
theorem dX8_byWorth_11 : decode cX8_byWorth 11 = .ok (.iconst (-1), 1) := by decide +kernel
theorem dX8_byWorth_12 : decode cX8_byWorth 12 = .ok (.istore 5, 2) := by decide +kernel
theorem dX8_byWorth_14 : decode cX8_byWorth 14 = .ok (.iconst 0, 1) := by decide +kernel
theorem dX8_byWorth_15 : decode cX8_byWorth 15 = .ok (.istore 6, 2) := by decide +kernel
theorem dX8_byWorth_17 : decode cX8_byWorth 17 = .ok (.iload 6, 2) := by decide +kernel
theorem dX8_byWorth_19 : decode cX8_byWorth 19 = .ok (.bipush 8, 2) := by decide +kernel
theorem dX8_byWorth_21 : decode cX8_byWorth 21 = .ok (.if_icmp .ge 52, 3) := by decide +kernel
theorem dX8_byWorth_24 : decode cX8_byWorth 24 = .ok (.aload_n 0, 1) := by decide +kernel
theorem dX8_byWorth_25 : decode cX8_byWorth 25 = .ok (.iload 6, 2) := by decide +kernel
theorem dX8_byWorth_27 : decode cX8_byWorth 27 = .ok (.invokevirtual 73, 3) := by decide +kernel
theorem dX8_byWorth_30 : decode cX8_byWorth 30 = .ok (.ifCond .eq 7, 3) := by decide +kernel
theorem dX8_byWorth_33 : decode cX8_byWorth 33 = .ok (.iconst (-1), 1) := by decide +kernel
theorem dX8_byWorth_34 : decode cX8_byWorth 34 = .ok (.goto 16, 3) := by decide +kernel
theorem dX8_byWorth_37 : decode cX8_byWorth 37 = .ok (.aload_n 1, 1) := by decide +kernel
theorem dX8_byWorth_38 : decode cX8_byWorth 38 = .ok (.aload_n 0, 1) := by decide +kernel
theorem dX8_byWorth_39 : decode cX8_byWorth 39 = .ok (.getfield 63, 3) := by decide +kernel
theorem dX8_byWorth_42 : decode cX8_byWorth 42 = .ok (.iconst 1, 1) := by decide +kernel
theorem dX8_byWorth_43 : decode cX8_byWorth 43 = .ok (.iload 6, 2) := by decide +kernel
theorem dX8_byWorth_45 : decode cX8_byWorth 45 = .ok (.ishl, 1) := by decide +kernel
theorem dX8_byWorth_46 : decode cX8_byWorth 46 = .ok (.ior, 1) := by decide +kernel
theorem dX8_byWorth_47 : decode cX8_byWorth 47 = .ok (.invokevirtual 83, 3) := by decide +kernel
theorem dX8_byWorth_50 : decode cX8_byWorth 50 = .ok (.istore 7, 2) := by decide +kernel
theorem dX8_byWorth_52 : decode cX8_byWorth 52 = .ok (.iload 7, 2) := by decide +kernel
theorem dX8_byWorth_54 : decode cX8_byWorth 54 = .ok (.iload 5, 2) := by decide +kernel
theorem dX8_byWorth_56 : decode cX8_byWorth 56 = .ok (.if_icmp .le 11, 3) := by decide +kernel
theorem dX8_byWorth_59 : decode cX8_byWorth 59 = .ok (.iload 7, 2) := by decide +kernel
theorem dX8_byWorth_61 : decode cX8_byWorth 61 = .ok (.istore 5, 2) := by decide +kernel
theorem dX8_byWorth_63 : decode cX8_byWorth 63 = .ok (.iload 6, 2) := by decide +kernel
theorem dX8_byWorth_65 : decode cX8_byWorth 65 = .ok (.istore 4, 2) := by decide +kernel
theorem dX8_byWorth_67 : decode cX8_byWorth 67 = .ok (.iinc 6 1, 3) := by decide +kernel
theorem dX8_byWorth_70 : decode cX8_byWorth 70 = .ok (.goto (-53), 3) := by decide +kernel
theorem dX8_byWorth_73 : decode cX8_byWorth 73 = .ok (.aload_n 0, 1) := by decide +kernel
theorem dX8_byWorth_74 : decode cX8_byWorth 74 = .ok (.iload 4, 2) := by decide +kernel
theorem dX8_byWorth_76 : decode cX8_byWorth 76 = .ok (.invokevirtual 70, 3) := by decide +kernel
theorem dX8_byWorth_79 : decode cX8_byWorth 79 = .ok (.iinc 3 1, 3) := by decide +kernel
theorem dX8_byWorth_82 : decode cX8_byWorth 82 = .ok (.goto (-80), 3) := by decide +kernel
theorem dX8_byWorth_85 : decode cX8_byWorth 85 = .ok (.return_, 1) := by decide +kernel
set_option maxRecDepth 20000 in
theorem ggX8_byLoads_X8_clear : GoodIn wsX8_byLoads wsX8_clear := goodIn_r _ [7, 8, 2, 62, 63, 64, 65, 66, 67, 68] (by decide +kernel) (by decide +kernel)
set_option maxRecDepth 20000 in
theorem gX8_byLoads_X8_clear : GoodIn wsX8_byLoads (wsV RX8 33 RX8 yX8_clear wsX8_clear) := goodIn_app (goodIn_of _ (by decide +kernel)) ggX8_byLoads_X8_clear
set_option maxRecDepth 20000 in
theorem ggX8_byLoads_X1_begin : GoodIn wsX8_byLoads wsX1_begin := goodIn_r _ [14, 15, 16, 69, 70, 71, 72, 73, 74] (by decide +kernel) (by decide +kernel)
set_option maxRecDepth 20000 in
theorem gX8_byLoads_X1_begin_u86X5 : GoodIn wsX8_byLoads (va_wsU RX8 86 RX5 "FairSeats$Fractions" ⟨"FairSeats$Loads", "begin", "(I)V"⟩ yX1_begin wsX1_begin) := goodIn_app (goodIn_of _ (by decide +kernel)) ggX8_byLoads_X1_begin
set_option maxRecDepth 20000 in
theorem ggX8_byLoads_X5_lightest : GoodIn wsX8_byLoads wsX5_lightest := goodIn_r _ [21, 22, 23, 24, 25, 26, 27, 28, 29, 30, 31, 32, 33, 34, 35, 36, 37, 38, 39, 13, 40, 41, 15, 42, 43, 69, 70, 71, 72, 73, 74, 75, 76, 77, 78] (by decide +kernel) (by decide +kernel)
set_option maxRecDepth 20000 in
theorem gX8_byLoads_X5_lightest : GoodIn wsX8_byLoads (wsV RX8 89 RX5 yX5_lightest wsX5_lightest) := goodIn_app (goodIn_of _ (by decide +kernel)) ggX8_byLoads_X5_lightest
set_option maxRecDepth 20000 in
theorem ggX8_byLoads_X5_bear : GoodIn wsX8_byLoads wsX5_bear := goodIn_r _ [47, 22, 23, 48, 49, 50, 24, 25, 26, 27, 28, 29, 30, 31, 32, 33, 34, 35, 36, 37, 38, 39, 13, 40, 41, 15, 42, 43, 51, 52, 53, 54, 55, 16, 56, 69, 70, 71, 72, 73, 74, 75, 76, 77, 78] (by decide +kernel) (by decide +kernel)
set_option maxRecDepth 20000 in
theorem gX8_byLoads_X5_bear : GoodIn wsX8_byLoads (wsV RX8 93 RX5 yX5_bear wsX5_bear) := goodIn_app (goodIn_of _ (by decide +kernel)) ggX8_byLoads_X5_bear
set_option maxRecDepth 20000 in
theorem ggX8_byLoads_X8_add : GoodIn wsX8_byLoads wsX8_add := goodIn_r _ [60, 8, 61, 2, 62, 63, 64, 65, 66, 67, 68] (by decide +kernel) (by decide +kernel)
set_option maxRecDepth 20000 in
theorem gX8_byLoads_X8_add : GoodIn wsX8_byLoads (wsV RX8 70 RX8 yX8_add wsX8_add) := goodIn_app (goodIn_of _ (by decide +kernel)) ggX8_byLoads_X8_add
theorem dX8_byLoads_0 : decode cX8_byLoads 0 = .ok (.aload_n 0, 1) := by decide +kernel
theorem dX8_byLoads_1 : decode cX8_byLoads 1 = .ok (.invokevirtual 33, 3) := by decide +kernel
theorem dX8_byLoads_4 : decode cX8_byLoads 4 = .ok (.aload_n 0, 1) := by decide +kernel
theorem dX8_byLoads_5 : decode cX8_byLoads 5 = .ok (.getfield 12, 3) := by decide +kernel
theorem dX8_byLoads_8 : decode cX8_byLoads 8 = .ok (.iconst 0, 1) := by decide +kernel
theorem dX8_byLoads_9 : decode cX8_byLoads 9 = .ok (.invokevirtual 86, 3) := by decide +kernel
theorem dX8_byLoads_12 : decode cX8_byLoads 12 = .ok (.iconst 0, 1) := by decide +kernel
theorem dX8_byLoads_13 : decode cX8_byLoads 13 = .ok (.istore_n 3, 1) := by decide +kernel
theorem dX8_byLoads_14 : decode cX8_byLoads 14 = .ok (.iload_n 3, 1) := by decide +kernel
theorem dX8_byLoads_15 : decode cX8_byLoads 15 = .ok (.iload_n 2, 1) := by decide +kernel
theorem dX8_byLoads_16 : decode cX8_byLoads 16 = .ok (.if_icmp .ge 39, 3) := by decide +kernel
theorem dX8_byLoads_19 : decode cX8_byLoads 19 = .ok (.aload_n 0, 1) := by decide +kernel
theorem dX8_byLoads_20 : decode cX8_byLoads 20 = .ok (.getfield 12, 3) := by decide +kernel
theorem dX8_byLoads_23 : decode cX8_byLoads 23 = .ok (.aload_n 1, 1) := by decide +kernel
theorem dX8_byLoads_24 : decode cX8_byLoads 24 = .ok (.aload_n 0, 1) := by decide +kernel
theorem dX8_byLoads_25 : decode cX8_byLoads 25 = .ok (.getfield 63, 3) := by decide +kernel
theorem dX8_byLoads_28 : decode cX8_byLoads 28 = .ok (.invokevirtual 89, 3) := by decide +kernel
theorem dX8_byLoads_31 : decode cX8_byLoads 31 = .ok (.istore 4, 2) := by decide +kernel
theorem dX8_byLoads_33 : decode cX8_byLoads 33 = .ok (.aload_n 0, 1) := by decide +kernel
theorem dX8_byLoads_34 : decode cX8_byLoads 34 = .ok (.getfield 12, 3) := by decide +kernel
theorem dX8_byLoads_37 : decode cX8_byLoads 37 = .ok (.aload_n 1, 1) := by decide +kernel
theorem dX8_byLoads_38 : decode cX8_byLoads 38 = .ok (.iload 4, 2) := by decide +kernel
theorem dX8_byLoads_40 : decode cX8_byLoads 40 = .ok (.invokevirtual 93, 3) := by decide +kernel
theorem dX8_byLoads_43 : decode cX8_byLoads 43 = .ok (.aload_n 0, 1) := by decide +kernel
theorem dX8_byLoads_44 : decode cX8_byLoads 44 = .ok (.iload 4, 2) := by decide +kernel
theorem dX8_byLoads_46 : decode cX8_byLoads 46 = .ok (.invokevirtual 70, 3) := by decide +kernel
theorem dX8_byLoads_49 : decode cX8_byLoads 49 = .ok (.iinc 3 1, 3) := by decide +kernel
theorem dX8_byLoads_52 : decode cX8_byLoads 52 = .ok (.goto (-38), 3) := by decide +kernel
theorem dX8_byLoads_55 : decode cX8_byLoads 55 = .ok (.return_, 1) := by decide +kernel
set_option maxRecDepth 20000 in
theorem ggX8_byPurses_X8_clear : GoodIn wsX8_byPurses wsX8_clear := goodIn_r _ [8, 9, 3, 87, 88, 89, 90, 91, 92, 93] (by decide +kernel) (by decide +kernel)
set_option maxRecDepth 20000 in
theorem gX8_byPurses_X8_clear : GoodIn wsX8_byPurses (wsV RX8 33 RX8 yX8_clear wsX8_clear) := goodIn_app (goodIn_of _ (by decide +kernel)) ggX8_byPurses_X8_clear
set_option maxRecDepth 20000 in
theorem ggX8_byPurses_X1_begin : GoodIn wsX8_byPurses wsX1_begin := goodIn_r _ [15, 16, 17, 94, 95, 96, 97, 98, 99] (by decide +kernel) (by decide +kernel)
set_option maxRecDepth 20000 in
theorem gX8_byPurses_X1_begin_u96X6 : GoodIn wsX8_byPurses (va_wsU RX8 96 RX6 "FairSeats$Fractions" ⟨"FairSeats$Purses", "begin", "(I)V"⟩ yX1_begin wsX1_begin) := goodIn_app (goodIn_of _ (by decide +kernel)) ggX8_byPurses_X1_begin
set_option maxRecDepth 20000 in
theorem ggX8_byPurses_X6_cheapest : GoodIn wsX8_byPurses wsX6_cheapest := goodIn_r _ [22, 23, 24, 25, 26, 27, 28, 29, 30, 31, 32, 33, 34, 35, 36, 37, 38, 39, 40, 41, 42, 43, 44, 45, 46, 14, 47, 48, 16, 49, 50, 51, 52, 53, 21, 54, 55, 56, 57, 58, 59, 94, 95, 96, 97, 98, 99, 100, 101, 102, 103] (by decide +kernel) (by decide +kernel)
set_option maxRecDepth 20000 in
theorem gX8_byPurses_X6_cheapest : GoodIn wsX8_byPurses (wsV RX8 100 RX6 yX6_cheapest wsX6_cheapest) := goodIn_app (goodIn_of _ (by decide +kernel)) ggX8_byPurses_X6_cheapest
set_option maxRecDepth 20000 in
theorem ggX8_byPurses_X6_pay : GoodIn wsX8_byPurses wsX6_pay := goodIn_r _ [63, 26, 55, 56, 57, 25, 64, 65, 66, 67, 51, 52, 53, 21, 54, 23, 24, 58, 34, 35, 36, 30, 37, 32, 33, 38, 39, 40, 41, 42, 27, 28, 29, 31, 59, 68, 69, 70, 71, 14, 72, 16, 17, 96, 97, 98, 99, 100, 101, 102, 103, 94, 95] (by decide +kernel) (by decide +kernel)
set_option maxRecDepth 20000 in
theorem gX8_byPurses_X6_pay : GoodIn wsX8_byPurses (wsV RX8 103 RX6 yX6_pay wsX6_pay) := goodIn_app (goodIn_of _ (by decide +kernel)) ggX8_byPurses_X6_pay
set_option maxRecDepth 20000 in
theorem ggX8_byPurses_X8_add : GoodIn wsX8_byPurses wsX8_add := goodIn_r _ [76, 9, 77, 3, 87, 88, 89, 90, 91, 92, 93] (by decide +kernel) (by decide +kernel)
set_option maxRecDepth 20000 in
theorem gX8_byPurses_X8_add : GoodIn wsX8_byPurses (wsV RX8 70 RX8 yX8_add wsX8_add) := goodIn_app (goodIn_of _ (by decide +kernel)) ggX8_byPurses_X8_add
set_option maxRecDepth 20000 in
theorem ggX8_byPurses_X8_byHeads : GoodIn wsX8_byPurses wsX8_byHeads := goodIn_r _ [81, 9, 82, 83, 84, 7, 85, 3, 86, 35, 36, 30, 37, 32, 33, 38, 39, 40, 41, 42, 73, 74, 75, 76, 77, 87, 88, 89, 90, 91, 92, 93, 100, 101, 102, 103] (by decide +kernel) (by decide +kernel)
set_option maxRecDepth 20000 in
theorem gX8_byPurses_X8_byHeads : GoodIn wsX8_byPurses (wsV RX8 36 RX8 yX8_byHeads wsX8_byHeads) := goodIn_app (goodIn_of _ (by decide +kernel)) ggX8_byPurses_X8_byHeads
theorem dX8_byPurses_0 : decode cX8_byPurses 0 = .ok (.aload_n 0, 1) := by decide +kernel
theorem dX8_byPurses_1 : decode cX8_byPurses 1 = .ok (.invokevirtual 33, 3) := by decide +kernel
theorem dX8_byPurses_4 : decode cX8_byPurses 4 = .ok (.aload_n 0, 1) := by decide +kernel
theorem dX8_byPurses_5 : decode cX8_byPurses 5 = .ok (.getfield 21, 3) := by decide +kernel
theorem dX8_byPurses_8 : decode cX8_byPurses 8 = .ok (.iload_n 2, 1) := by decide +kernel
theorem dX8_byPurses_9 : decode cX8_byPurses 9 = .ok (.invokevirtual 96, 3) := by decide +kernel
theorem dX8_byPurses_12 : decode cX8_byPurses 12 = .ok (.aload_n 0, 1) := by decide +kernel
theorem dX8_byPurses_13 : decode cX8_byPurses 13 = .ok (.iconst 0, 1) := by decide +kernel
theorem dX8_byPurses_14 : decode cX8_byPurses 14 = .ok (.putfield 97, 3) := by decide +kernel
theorem dX8_byPurses_17 : decode cX8_byPurses 17 = .ok (.iconst 0, 1) := by decide +kernel
theorem dX8_byPurses_18 : decode cX8_byPurses 18 = .ok (.istore 4, 2) := by decide +kernel
theorem dX8_byPurses_20 : decode cX8_byPurses 20 = .ok (.iload 4, 2) := by decide +kernel
theorem dX8_byPurses_22 : decode cX8_byPurses 22 = .ok (.iload_n 3, 1) := by decide +kernel
theorem dX8_byPurses_23 : decode cX8_byPurses 23 = .ok (.if_icmp .ge 59, 3) := by decide +kernel
theorem dX8_byPurses_26 : decode cX8_byPurses 26 = .ok (.aload_n 0, 1) := by decide +kernel
theorem dX8_byPurses_27 : decode cX8_byPurses 27 = .ok (.getfield 21, 3) := by decide +kernel
theorem dX8_byPurses_30 : decode cX8_byPurses 30 = .ok (.aload_n 1, 1) := by decide +kernel
theorem dX8_byPurses_31 : decode cX8_byPurses 31 = .ok (.aload_n 0, 1) := by decide +kernel
theorem dX8_byPurses_32 : decode cX8_byPurses 32 = .ok (.getfield 63, 3) := by decide +kernel
theorem dX8_byPurses_35 : decode cX8_byPurses 35 = .ok (.invokevirtual 100, 3) := by decide +kernel
theorem dX8_byPurses_38 : decode cX8_byPurses 38 = .ok (.istore 5, 2) := by decide +kernel
theorem dX8_byPurses_40 : decode cX8_byPurses 40 = .ok (.iload 5, 2) := by decide +kernel
theorem dX8_byPurses_42 : decode cX8_byPurses 42 = .ok (.bipush (-6), 2) := by decide +kernel
theorem dX8_byPurses_44 : decode cX8_byPurses 44 = .ok (.if_icmp .ne 6, 3) := by decide +kernel
theorem dX8_byPurses_47 : decode cX8_byPurses 47 = .ok (.goto 35, 3) := by decide +kernel
theorem dX8_byPurses_50 : decode cX8_byPurses 50 = .ok (.aload_n 0, 1) := by decide +kernel
theorem dX8_byPurses_51 : decode cX8_byPurses 51 = .ok (.getfield 21, 3) := by decide +kernel
theorem dX8_byPurses_54 : decode cX8_byPurses 54 = .ok (.aload_n 1, 1) := by decide +kernel
theorem dX8_byPurses_55 : decode cX8_byPurses 55 = .ok (.iload 5, 2) := by decide +kernel
theorem dX8_byPurses_57 : decode cX8_byPurses 57 = .ok (.invokevirtual 103, 3) := by decide +kernel
theorem dX8_byPurses_60 : decode cX8_byPurses 60 = .ok (.aload_n 0, 1) := by decide +kernel
theorem dX8_byPurses_61 : decode cX8_byPurses 61 = .ok (.iload 5, 2) := by decide +kernel
theorem dX8_byPurses_63 : decode cX8_byPurses 63 = .ok (.invokevirtual 70, 3) := by decide +kernel
theorem dX8_byPurses_66 : decode cX8_byPurses 66 = .ok (.aload_n 0, 1) := by decide +kernel
theorem dX8_byPurses_67 : decode cX8_byPurses 67 = .ok (.dup, 1) := by decide +kernel
theorem dX8_byPurses_68 : decode cX8_byPurses 68 = .ok (.getfield 97, 3) := by decide +kernel
theorem dX8_byPurses_71 : decode cX8_byPurses 71 = .ok (.iconst 1, 1) := by decide +kernel
theorem dX8_byPurses_72 : decode cX8_byPurses 72 = .ok (.iadd, 1) := by decide +kernel
theorem dX8_byPurses_73 : decode cX8_byPurses 73 = .ok (.putfield 97, 3) := by decide +kernel
theorem dX8_byPurses_76 : decode cX8_byPurses 76 = .ok (.iinc 4 1, 3) := by decide +kernel
theorem dX8_byPurses_79 : decode cX8_byPurses 79 = .ok (.goto (-59), 3) := by decide +kernel
theorem dX8_byPurses_82 : decode cX8_byPurses 82 = .ok (.aload_n 0, 1) := by decide +kernel
theorem dX8_byPurses_83 : decode cX8_byPurses 83 = .ok (.aload_n 1, 1) := by decide +kernel
theorem dX8_byPurses_84 : decode cX8_byPurses 84 = .ok (.iload_n 3, 1) := by decide +kernel
theorem dX8_byPurses_85 : decode cX8_byPurses 85 = .ok (.invokevirtual 36, 3) := by decide +kernel
theorem dX8_byPurses_88 : decode cX8_byPurses 88 = .ok (.return_, 1) := by decide +kernel
set_option maxRecDepth 20000 in
theorem ggX8_bySwaps_X8_byWorth : GoodIn wsX8_bySwaps wsX8_byWorth := goodIn_r _ [6, 1, 7, 8, 9, 5, 10, 11, 12, 13, 14, 15, 16, 17, 18, 19, 20, 21, 22, 23, 24, 25, 26, 27, 28, 29, 30, 31, 32, 33, 45, 46, 47, 48, 49, 50, 51, 52, 53, 54, 55, 56, 57] (by decide +kernel) (by decide +kernel)
set_option maxRecDepth 20000 in
theorem gX8_bySwaps_X8_byWorth : GoodIn wsX8_bySwaps (wsV RX8 40 RX8 yX8_byWorth wsX8_byWorth) := goodIn_app (goodIn_of _ (by decide +kernel)) ggX8_bySwaps_X8_byWorth
set_option maxRecDepth 20000 in
theorem ggX8_bySwaps_X8_bestSwap : GoodIn wsX8_bySwaps wsX8_bestSwap := goodIn_r _ [36, 11, 12, 13, 14, 15, 16, 17, 18, 19, 20, 21, 22, 23, 24, 25, 26, 27, 52, 53, 54, 55, 56, 57] (by decide +kernel) (by decide +kernel)
set_option maxRecDepth 20000 in
theorem gX8_bySwaps_X8_bestSwap : GoodIn wsX8_bySwaps (va_wsS RX8 106 yX8_bestSwap wsX8_bestSwap) := goodIn_app (goodIn_of _ (by decide +kernel)) ggX8_bySwaps_X8_bestSwap
set_option maxRecDepth 20000 in
theorem ggX8_bySwaps_X8_take : GoodIn wsX8_bySwaps wsX8_take := goodIn_r _ [40, 41, 42, 43, 5, 44, 32, 1, 28, 29, 30, 31, 33, 45, 46, 47, 48, 49, 50, 51] (by decide +kernel) (by decide +kernel)
set_option maxRecDepth 20000 in
theorem gX8_bySwaps_X8_take : GoodIn wsX8_bySwaps (wsV RX8 56 RX8 yX8_take wsX8_take) := goodIn_app (goodIn_of _ (by decide +kernel)) ggX8_bySwaps_X8_take
theorem dX8_bySwaps_0 : decode cX8_bySwaps 0 = .ok (.aload_n 0, 1) := by decide +kernel
theorem dX8_bySwaps_1 : decode cX8_bySwaps 1 = .ok (.aload_n 1, 1) := by decide +kernel
theorem dX8_bySwaps_2 : decode cX8_bySwaps 2 = .ok (.iload_n 2, 1) := by decide +kernel
theorem dX8_bySwaps_3 : decode cX8_bySwaps 3 = .ok (.invokevirtual 40, 3) := by decide +kernel
theorem dX8_bySwaps_6 : decode cX8_bySwaps 6 = .ok (.aload_n 0, 1) := by decide +kernel
theorem dX8_bySwaps_7 : decode cX8_bySwaps 7 = .ok (.getfield 63, 3) := by decide +kernel
theorem dX8_bySwaps_10 : decode cX8_bySwaps 10 = .ok (.istore_n 3, 1) := by decide +kernel
theorem dX8_bySwaps_11 : decode cX8_bySwaps 11 = .ok (.iconst 0, 1) := by decide +kernel
theorem dX8_bySwaps_12 : decode cX8_bySwaps 12 = .ok (.istore 4, 2) := by decide +kernel
theorem dX8_bySwaps_14 : decode cX8_bySwaps 14 = .ok (.iload 4, 2) := by decide +kernel
theorem dX8_bySwaps_16 : decode cX8_bySwaps 16 = .ok (.bipush 70, 2) := by decide +kernel
theorem dX8_bySwaps_18 : decode cX8_bySwaps 18 = .ok (.if_icmp .ge 28, 3) := by decide +kernel
theorem dX8_bySwaps_21 : decode cX8_bySwaps 21 = .ok (.aload_n 1, 1) := by decide +kernel
theorem dX8_bySwaps_22 : decode cX8_bySwaps 22 = .ok (.iload_n 3, 1) := by decide +kernel
theorem dX8_bySwaps_23 : decode cX8_bySwaps 23 = .ok (.invokestatic 106, 3) := by decide +kernel
theorem dX8_bySwaps_26 : decode cX8_bySwaps 26 = .ok (.istore 5, 2) := by decide +kernel
theorem dX8_bySwaps_28 : decode cX8_bySwaps 28 = .ok (.iload 5, 2) := by decide +kernel
theorem dX8_bySwaps_30 : decode cX8_bySwaps 30 = .ok (.iload_n 3, 1) := by decide +kernel
theorem dX8_bySwaps_31 : decode cX8_bySwaps 31 = .ok (.if_icmp .ne 6, 3) := by decide +kernel
theorem dX8_bySwaps_34 : decode cX8_bySwaps 34 = .ok (.goto 12, 3) := by decide +kernel
theorem dX8_bySwaps_37 : decode cX8_bySwaps 37 = .ok (.iload 5, 2) := by decide +kernel
theorem dX8_bySwaps_39 : decode cX8_bySwaps 39 = .ok (.istore_n 3, 1) := by decide +kernel
theorem dX8_bySwaps_40 : decode cX8_bySwaps 40 = .ok (.iinc 4 1, 3) := by decide +kernel
theorem dX8_bySwaps_43 : decode cX8_bySwaps 43 = .ok (.goto (-29), 3) := by decide +kernel
theorem dX8_bySwaps_46 : decode cX8_bySwaps 46 = .ok (.aload_n 0, 1) := by decide +kernel
theorem dX8_bySwaps_47 : decode cX8_bySwaps 47 = .ok (.iload_n 3, 1) := by decide +kernel
theorem dX8_bySwaps_48 : decode cX8_bySwaps 48 = .ok (.invokevirtual 56, 3) := by decide +kernel
theorem dX8_bySwaps_51 : decode cX8_bySwaps 51 = .ok (.return_, 1) := by decide +kernel
set_option maxRecDepth 20000 in
theorem ggX8_bestSwap_X3_worthOf : GoodIn wsX8_bestSwap wsX3_worthOf := goodIn_r _ [5, 6, 7, 8, 9, 10, 11, 12, 13, 14, 15, 16, 17, 18, 19, 20, 21, 22, 23] (by decide +kernel) (by decide +kernel)
set_option maxRecDepth 20000 in
theorem gX8_bestSwap_X3_worthOf : GoodIn wsX8_bestSwap (wsV RX8 83 RX3 yX3_worthOf wsX3_worthOf) := goodIn_app (goodIn_of _ (by decide +kernel)) ggX8_bestSwap_X3_worthOf
theorem dX8_bestSwap_0 : decode cX8_bestSwap 0 = .ok (.iload_n 1, 1) := by decide +kernel
theorem dX8_bestSwap_1 : decode cX8_bestSwap 1 = .ok (.istore_n 2, 1) := by decide +kernel
theorem dX8_bestSwap_2 : decode cX8_bestSwap 2 = .ok (.aload_n 0, 1) := by decide +kernel
theorem dX8_bestSwap_3 : decode cX8_bestSwap 3 = .ok (.iload_n 1, 1) := by decide +kernel
theorem dX8_bestSwap_4 : decode cX8_bestSwap 4 = .ok (.invokevirtual 83, 3) := by decide +kernel
theorem dX8_bestSwap_7 : decode cX8_bestSwap 7 = .ok (.istore_n 3, 1) := by decide +kernel
theorem dX8_bestSwap_8 : decode cX8_bestSwap 8 = .ok (.iconst 0, 1) := by decide +kernel
theorem dX8_bestSwap_9 : decode cX8_bestSwap 9 = .ok (.istore 4, 2) := by decide +kernel
theorem dX8_bestSwap_11 : decode cX8_bestSwap 11 = .ok (.iload 4, 2) := by decide +kernel
theorem dX8_bestSwap_13 : decode cX8_bestSwap 13 = .ok (.bipush 8, 2) := by decide +kernel
theorem dX8_bestSwap_15 : decode cX8_bestSwap 15 = .ok (.if_icmp .ge 82, 3) := by decide +kernel
theorem dX8_bestSwap_18 : decode cX8_bestSwap 18 = .ok (.iconst 0, 1) := by decide +kernel
theorem dX8_bestSwap_19 : decode cX8_bestSwap 19 = .ok (.istore 5, 2) := by decide +kernel
theorem dX8_bestSwap_21 : decode cX8_bestSwap 21 = .ok (.iload 5, 2) := by decide +kernel
theorem dX8_bestSwap_23 : decode cX8_bestSwap 23 = .ok (.bipush 8, 2) := by decide +kernel
theorem dX8_bestSwap_25 : decode cX8_bestSwap 25 = .ok (.if_icmp .ge 66, 3) := by decide +kernel
theorem dX8_bestSwap_28 : decode cX8_bestSwap 28 = .ok (.iload_n 1, 1) := by decide +kernel
theorem dX8_bestSwap_29 : decode cX8_bestSwap 29 = .ok (.iload 4, 2) := by decide +kernel
theorem dX8_bestSwap_31 : decode cX8_bestSwap 31 = .ok (.ishr, 1) := by decide +kernel
theorem dX8_bestSwap_32 : decode cX8_bestSwap 32 = .ok (.iconst 1, 1) := by decide +kernel
theorem dX8_bestSwap_33 : decode cX8_bestSwap 33 = .ok (.iand, 1) := by decide +kernel
theorem dX8_bestSwap_34 : decode cX8_bestSwap 34 = .ok (.ifCond .eq 51, 3) := by decide +kernel
theorem dX8_bestSwap_37 : decode cX8_bestSwap 37 = .ok (.iload_n 1, 1) := by decide +kernel
theorem dX8_bestSwap_38 : decode cX8_bestSwap 38 = .ok (.iload 5, 2) := by decide +kernel
theorem dX8_bestSwap_40 : decode cX8_bestSwap 40 = .ok (.ishr, 1) := by decide +kernel
theorem dX8_bestSwap_41 : decode cX8_bestSwap 41 = .ok (.iconst 1, 1) := by decide +kernel
theorem dX8_bestSwap_42 : decode cX8_bestSwap 42 = .ok (.iand, 1) := by decide +kernel
theorem dX8_bestSwap_43 : decode cX8_bestSwap 43 = .ok (.iconst 1, 1) := by decide +kernel
theorem dX8_bestSwap_44 : decode cX8_bestSwap 44 = .ok (.if_icmp .ne 6, 3) := by decide +kernel
theorem dX8_bestSwap_47 : decode cX8_bestSwap 47 = .ok (.goto 38, 3) := by decide +kernel
theorem dX8_bestSwap_50 : decode cX8_bestSwap 50 = .ok (.iload_n 1, 1) := by decide +kernel
theorem dX8_bestSwap_51 : decode cX8_bestSwap 51 = .ok (.iconst 1, 1) := by decide +kernel
theorem dX8_bestSwap_52 : decode cX8_bestSwap 52 = .ok (.iload 4, 2) := by decide +kernel
theorem dX8_bestSwap_54 : decode cX8_bestSwap 54 = .ok (.ishl, 1) := by decide +kernel
theorem dX8_bestSwap_55 : decode cX8_bestSwap 55 = .ok (.iconst (-1), 1) := by decide +kernel
theorem dX8_bestSwap_56 : decode cX8_bestSwap 56 = .ok (.ixor, 1) := by decide +kernel
theorem dX8_bestSwap_57 : decode cX8_bestSwap 57 = .ok (.iand, 1) := by decide +kernel
theorem dX8_bestSwap_58 : decode cX8_bestSwap 58 = .ok (.iconst 1, 1) := by decide +kernel
theorem dX8_bestSwap_59 : decode cX8_bestSwap 59 = .ok (.iload 5, 2) := by decide +kernel
theorem dX8_bestSwap_61 : decode cX8_bestSwap 61 = .ok (.ishl, 1) := by decide +kernel
theorem dX8_bestSwap_62 : decode cX8_bestSwap 62 = .ok (.ior, 1) := by decide +kernel
theorem dX8_bestSwap_63 : decode cX8_bestSwap 63 = .ok (.istore 6, 2) := by decide +kernel
theorem dX8_bestSwap_65 : decode cX8_bestSwap 65 = .ok (.aload_n 0, 1) := by decide +kernel
theorem dX8_bestSwap_66 : decode cX8_bestSwap 66 = .ok (.iload 6, 2) := by decide +kernel
theorem dX8_bestSwap_68 : decode cX8_bestSwap 68 = .ok (.invokevirtual 83, 3) := by decide +kernel
theorem dX8_bestSwap_71 : decode cX8_bestSwap 71 = .ok (.istore 7, 2) := by decide +kernel
theorem dX8_bestSwap_73 : decode cX8_bestSwap 73 = .ok (.iload 7, 2) := by decide +kernel
theorem dX8_bestSwap_75 : decode cX8_bestSwap 75 = .ok (.iload_n 3, 1) := by decide +kernel
theorem dX8_bestSwap_76 : decode cX8_bestSwap 76 = .ok (.if_icmp .le 9, 3) := by decide +kernel
theorem dX8_bestSwap_79 : decode cX8_bestSwap 79 = .ok (.iload 7, 2) := by decide +kernel
theorem dX8_bestSwap_81 : decode cX8_bestSwap 81 = .ok (.istore_n 3, 1) := by decide +kernel
theorem dX8_bestSwap_82 : decode cX8_bestSwap 82 = .ok (.iload 6, 2) := by decide +kernel
theorem dX8_bestSwap_84 : decode cX8_bestSwap 84 = .ok (.istore_n 2, 1) := by decide +kernel
theorem dX8_bestSwap_85 : decode cX8_bestSwap 85 = .ok (.iinc 5 1, 3) := by decide +kernel
theorem dX8_bestSwap_88 : decode cX8_bestSwap 88 = .ok (.goto (-67), 3) := by decide +kernel
theorem dX8_bestSwap_91 : decode cX8_bestSwap 91 = .ok (.iinc 4 1, 3) := by decide +kernel
theorem dX8_bestSwap_94 : decode cX8_bestSwap 94 = .ok (.goto (-83), 3) := by decide +kernel
theorem dX8_bestSwap_97 : decode cX8_bestSwap 97 = .ok (.iload_n 2, 1) := by decide +kernel
theorem dX8_bestSwap_98 : decode cX8_bestSwap 98 = .ok (.ireturn, 1) := by decide +kernel
set_option maxRecDepth 20000 in
theorem ggX9_init_X9_addUp : GoodIn wsX9_init wsX9_addUp := goodIn_r _ [11, 6, 5, 12, 13] (by decide +kernel) (by decide +kernel)
set_option maxRecDepth 20000 in
theorem gX9_init_X9_addUp : GoodIn wsX9_init (wsV RX9 18 RX9 yX9_addUp wsX9_addUp) := goodIn_app (goodIn_of _ (by decide +kernel)) ggX9_init_X9_addUp
theorem dX9_init_0 : decode cX9_init 0 = .ok (.aload_n 0, 1) := by decide +kernel
theorem dX9_init_1 : decode cX9_init 1 = .ok (.invokespecial 3, 3) := by decide +kernel
theorem dX9_init_4 : decode cX9_init 4 = .ok (.aload_n 0, 1) := by decide +kernel
theorem dX9_init_5 : decode cX9_init 5 = .ok (.iconst 4, 1) := by decide +kernel
theorem dX9_init_6 : decode cX9_init 6 = .ok (.newarray .int, 2) := by decide +kernel
theorem dX9_init_8 : decode cX9_init 8 = .ok (.putfield 9, 3) := by decide +kernel
theorem dX9_init_11 : decode cX9_init 11 = .ok (.aload_n 0, 1) := by decide +kernel
theorem dX9_init_12 : decode cX9_init 12 = .ok (.bipush 9, 2) := by decide +kernel
theorem dX9_init_14 : decode cX9_init 14 = .ok (.newarray .int, 2) := by decide +kernel
theorem dX9_init_16 : decode cX9_init 16 = .ok (.putfield 15, 3) := by decide +kernel
theorem dX9_init_19 : decode cX9_init 19 = .ok (.aload_n 0, 1) := by decide +kernel
theorem dX9_init_20 : decode cX9_init 20 = .ok (.getfield 9, 3) := by decide +kernel
theorem dX9_init_23 : decode cX9_init 23 = .ok (.iconst 0, 1) := by decide +kernel
theorem dX9_init_24 : decode cX9_init 24 = .ok (.bipush 60, 2) := by decide +kernel
theorem dX9_init_26 : decode cX9_init 26 = .ok (.iastore, 1) := by decide +kernel
theorem dX9_init_27 : decode cX9_init 27 = .ok (.aload_n 0, 1) := by decide +kernel
theorem dX9_init_28 : decode cX9_init 28 = .ok (.getfield 9, 3) := by decide +kernel
theorem dX9_init_31 : decode cX9_init 31 = .ok (.iconst 1, 1) := by decide +kernel
theorem dX9_init_32 : decode cX9_init 32 = .ok (.bipush 30, 2) := by decide +kernel
theorem dX9_init_34 : decode cX9_init 34 = .ok (.iastore, 1) := by decide +kernel
theorem dX9_init_35 : decode cX9_init 35 = .ok (.aload_n 0, 1) := by decide +kernel
theorem dX9_init_36 : decode cX9_init 36 = .ok (.getfield 9, 3) := by decide +kernel
theorem dX9_init_39 : decode cX9_init 39 = .ok (.iconst 2, 1) := by decide +kernel
theorem dX9_init_40 : decode cX9_init 40 = .ok (.bipush 20, 2) := by decide +kernel
theorem dX9_init_42 : decode cX9_init 42 = .ok (.iastore, 1) := by decide +kernel
theorem dX9_init_43 : decode cX9_init 43 = .ok (.aload_n 0, 1) := by decide +kernel
theorem dX9_init_44 : decode cX9_init 44 = .ok (.getfield 9, 3) := by decide +kernel
theorem dX9_init_47 : decode cX9_init 47 = .ok (.iconst 3, 1) := by decide +kernel
theorem dX9_init_48 : decode cX9_init 48 = .ok (.bipush 15, 2) := by decide +kernel
theorem dX9_init_50 : decode cX9_init 50 = .ok (.iastore, 1) := by decide +kernel
theorem dX9_init_51 : decode cX9_init 51 = .ok (.aload_n 0, 1) := by decide +kernel
theorem dX9_init_52 : decode cX9_init 52 = .ok (.invokevirtual 18, 3) := by decide +kernel
theorem dX9_init_55 : decode cX9_init 55 = .ok (.return_, 1) := by decide +kernel
theorem dX9_addUp_0 : decode cX9_addUp 0 = .ok (.iconst 0, 1) := by decide +kernel
theorem dX9_addUp_1 : decode cX9_addUp 1 = .ok (.istore_n 1, 1) := by decide +kernel
theorem dX9_addUp_2 : decode cX9_addUp 2 = .ok (.iload_n 1, 1) := by decide +kernel
theorem dX9_addUp_3 : decode cX9_addUp 3 = .ok (.bipush 8, 2) := by decide +kernel
theorem dX9_addUp_5 : decode cX9_addUp 5 = .ok (.if_icmp .ge 39, 3) := by decide +kernel
theorem dX9_addUp_8 : decode cX9_addUp 8 = .ok (.aload_n 0, 1) := by decide +kernel
theorem dX9_addUp_9 : decode cX9_addUp 9 = .ok (.getfield 15, 3) := by decide +kernel
theorem dX9_addUp_12 : decode cX9_addUp 12 = .ok (.iload_n 1, 1) := by decide +kernel
theorem dX9_addUp_13 : decode cX9_addUp 13 = .ok (.iconst 1, 1) := by decide +kernel
theorem dX9_addUp_14 : decode cX9_addUp 14 = .ok (.iadd, 1) := by decide +kernel
theorem dX9_addUp_15 : decode cX9_addUp 15 = .ok (.aload_n 0, 1) := by decide +kernel
theorem dX9_addUp_16 : decode cX9_addUp 16 = .ok (.getfield 15, 3) := by decide +kernel
theorem dX9_addUp_19 : decode cX9_addUp 19 = .ok (.iload_n 1, 1) := by decide +kernel
theorem dX9_addUp_20 : decode cX9_addUp 20 = .ok (.iaload, 1) := by decide +kernel
theorem dX9_addUp_21 : decode cX9_addUp 21 = .ok (.iload_n 1, 1) := by decide +kernel
theorem dX9_addUp_22 : decode cX9_addUp 22 = .ok (.iconst 4, 1) := by decide +kernel
theorem dX9_addUp_23 : decode cX9_addUp 23 = .ok (.if_icmp .ge 12, 3) := by decide +kernel
theorem dX9_addUp_26 : decode cX9_addUp 26 = .ok (.aload_n 0, 1) := by decide +kernel
theorem dX9_addUp_27 : decode cX9_addUp 27 = .ok (.getfield 9, 3) := by decide +kernel
theorem dX9_addUp_30 : decode cX9_addUp 30 = .ok (.iload_n 1, 1) := by decide +kernel
theorem dX9_addUp_31 : decode cX9_addUp 31 = .ok (.iaload, 1) := by decide +kernel
theorem dX9_addUp_32 : decode cX9_addUp 32 = .ok (.goto 4, 3) := by decide +kernel
theorem dX9_addUp_35 : decode cX9_addUp 35 = .ok (.iconst 0, 1) := by decide +kernel
theorem dX9_addUp_36 : decode cX9_addUp 36 = .ok (.iadd, 1) := by decide +kernel
theorem dX9_addUp_37 : decode cX9_addUp 37 = .ok (.iastore, 1) := by decide +kernel
theorem dX9_addUp_38 : decode cX9_addUp 38 = .ok (.iinc 1 1, 3) := by decide +kernel
theorem dX9_addUp_41 : decode cX9_addUp 41 = .ok (.goto (-39), 3) := by decide +kernel
theorem dX9_addUp_44 : decode cX9_addUp 44 = .ok (.return_, 1) := by decide +kernel
theorem dX9_fits_0 : decode cX9_fits 0 = .ok (.iload_n 1, 1) := by decide +kernel
theorem dX9_fits_1 : decode cX9_fits 1 = .ok (.ifCond .le 19, 3) := by decide +kernel
theorem dX9_fits_4 : decode cX9_fits 4 = .ok (.iload_n 1, 1) := by decide +kernel
theorem dX9_fits_5 : decode cX9_fits 5 = .ok (.iconst 4, 1) := by decide +kernel
theorem dX9_fits_6 : decode cX9_fits 6 = .ok (.if_icmp .gt 14, 3) := by decide +kernel
theorem dX9_fits_9 : decode cX9_fits 9 = .ok (.aload_n 0, 1) := by decide +kernel
theorem dX9_fits_10 : decode cX9_fits 10 = .ok (.getfield 9, 3) := by decide +kernel
theorem dX9_fits_13 : decode cX9_fits 13 = .ok (.iload_n 1, 1) := by decide +kernel
theorem dX9_fits_14 : decode cX9_fits 14 = .ok (.iconst 1, 1) := by decide +kernel
theorem dX9_fits_15 : decode cX9_fits 15 = .ok (.isub, 1) := by decide +kernel
theorem dX9_fits_16 : decode cX9_fits 16 = .ok (.iaload, 1) := by decide +kernel
theorem dX9_fits_17 : decode cX9_fits 17 = .ok (.goto 5, 3) := by decide +kernel
theorem dX9_fits_20 : decode cX9_fits 20 = .ok (.bipush 60, 2) := by decide +kernel
theorem dX9_fits_22 : decode cX9_fits 22 = .ok (.istore_n 3, 1) := by decide +kernel
theorem dX9_fits_23 : decode cX9_fits 23 = .ok (.iload_n 1, 1) := by decide +kernel
theorem dX9_fits_24 : decode cX9_fits 24 = .ok (.ifCond .lt 21, 3) := by decide +kernel
theorem dX9_fits_27 : decode cX9_fits 27 = .ok (.iload_n 1, 1) := by decide +kernel
theorem dX9_fits_28 : decode cX9_fits 28 = .ok (.iconst 1, 1) := by decide +kernel
theorem dX9_fits_29 : decode cX9_fits 29 = .ok (.iadd, 1) := by decide +kernel
theorem dX9_fits_30 : decode cX9_fits 30 = .ok (.iconst 4, 1) := by decide +kernel
theorem dX9_fits_31 : decode cX9_fits 31 = .ok (.if_icmp .ge 14, 3) := by decide +kernel
theorem dX9_fits_34 : decode cX9_fits 34 = .ok (.aload_n 0, 1) := by decide +kernel
theorem dX9_fits_35 : decode cX9_fits 35 = .ok (.getfield 9, 3) := by decide +kernel
theorem dX9_fits_38 : decode cX9_fits 38 = .ok (.iload_n 1, 1) := by decide +kernel
theorem dX9_fits_39 : decode cX9_fits 39 = .ok (.iconst 1, 1) := by decide +kernel
theorem dX9_fits_40 : decode cX9_fits 40 = .ok (.iadd, 1) := by decide +kernel
theorem dX9_fits_41 : decode cX9_fits 41 = .ok (.iaload, 1) := by decide +kernel
theorem dX9_fits_42 : decode cX9_fits 42 = .ok (.goto 4, 3) := by decide +kernel
theorem dX9_fits_45 : decode cX9_fits 45 = .ok (.iconst 0, 1) := by decide +kernel
theorem dX9_fits_46 : decode cX9_fits 46 = .ok (.istore 4, 2) := by decide +kernel
theorem dX9_fits_48 : decode cX9_fits 48 = .ok (.iload_n 2, 1) := by decide +kernel
theorem dX9_fits_49 : decode cX9_fits 49 = .ok (.iload 4, 2) := by decide +kernel
theorem dX9_fits_51 : decode cX9_fits 51 = .ok (.if_icmp .lt 12, 3) := by decide +kernel
theorem dX9_fits_54 : decode cX9_fits 54 = .ok (.iload_n 2, 1) := by decide +kernel
theorem dX9_fits_55 : decode cX9_fits 55 = .ok (.iload_n 3, 1) := by decide +kernel
theorem dX9_fits_56 : decode cX9_fits 56 = .ok (.if_icmp .gt 7, 3) := by decide +kernel
theorem dX9_fits_59 : decode cX9_fits 59 = .ok (.iconst 1, 1) := by decide +kernel
theorem dX9_fits_60 : decode cX9_fits 60 = .ok (.goto 4, 3) := by decide +kernel
theorem dX9_fits_63 : decode cX9_fits 63 = .ok (.iconst 0, 1) := by decide +kernel
theorem dX9_fits_64 : decode cX9_fits 64 = .ok (.ireturn, 1) := by decide +kernel
set_option maxRecDepth 20000 in
theorem ggX9_put_X9_addUp : GoodIn wsX9_put wsX9_addUp := goodIn_r _ [6, 7, 1, 8, 9] (by decide +kernel) (by decide +kernel)
set_option maxRecDepth 20000 in
theorem gX9_put_X9_addUp : GoodIn wsX9_put (wsV RX9 18 RX9 yX9_addUp wsX9_addUp) := goodIn_app (goodIn_of _ (by decide +kernel)) ggX9_put_X9_addUp
theorem dX9_put_0 : decode cX9_put 0 = .ok (.iload_n 1, 1) := by decide +kernel
theorem dX9_put_1 : decode cX9_put 1 = .ok (.ifCond .lt 19, 3) := by decide +kernel
theorem dX9_put_4 : decode cX9_put 4 = .ok (.iload_n 1, 1) := by decide +kernel
theorem dX9_put_5 : decode cX9_put 5 = .ok (.iconst 4, 1) := by decide +kernel
theorem dX9_put_6 : decode cX9_put 6 = .ok (.if_icmp .ge 14, 3) := by decide +kernel
theorem dX9_put_9 : decode cX9_put 9 = .ok (.aload_n 0, 1) := by decide +kernel
theorem dX9_put_10 : decode cX9_put 10 = .ok (.getfield 9, 3) := by decide +kernel
theorem dX9_put_13 : decode cX9_put 13 = .ok (.iload_n 1, 1) := by decide +kernel
theorem dX9_put_14 : decode cX9_put 14 = .ok (.iload_n 2, 1) := by decide +kernel
theorem dX9_put_15 : decode cX9_put 15 = .ok (.iastore, 1) := by decide +kernel
theorem dX9_put_16 : decode cX9_put 16 = .ok (.aload_n 0, 1) := by decide +kernel
theorem dX9_put_17 : decode cX9_put 17 = .ok (.invokevirtual 18, 3) := by decide +kernel
theorem dX9_put_20 : decode cX9_put 20 = .ok (.return_, 1) := by decide +kernel
set_option maxRecDepth 20000 in
theorem ggX10_init_X9_init : GoodIn wsX10_init wsX9_init := goodIn_r _ [36, 37, 2, 3, 38, 39, 40, 41, 42, 43, 6, 44, 100, 101] (by decide +kernel) (by decide +kernel)
set_option maxRecDepth 20000 in
theorem gX10_init_X9_init : GoodIn wsX10_init (wsX9_init) := ggX10_init_X9_init
set_option maxRecDepth 20000 in
theorem ggX10_init_X3_init : GoodIn wsX10_init wsX3_init := goodIn_r _ [47, 48, 2, 3, 38, 49, 50, 51, 111, 112, 113, 114] (by decide +kernel) (by decide +kernel)
set_option maxRecDepth 20000 in
theorem gX10_init_X3_init : GoodIn wsX10_init (wsX3_init) := ggX10_init_X3_init
set_option maxRecDepth 20000 in
theorem ggX10_init_X7_init : GoodIn wsX10_init wsX7_init := goodIn_r _ [53, 54, 2, 3, 38, 55, 115, 116] (by decide +kernel) (by decide +kernel)
set_option maxRecDepth 20000 in
theorem gX10_init_X7_init_n30 : GoodIn wsX10_init (wsX7_init) := ggX10_init_X7_init
set_option maxRecDepth 20000 in
theorem ggX10_init_X4_init : GoodIn wsX10_init wsX4_init := goodIn_r _ [57, 58, 2, 3, 38, 59, 60, 61, 62, 117, 118, 119, 120] (by decide +kernel) (by decide +kernel)
set_option maxRecDepth 20000 in
theorem gX10_init_X4_init_n37 : GoodIn wsX10_init (wsX4_init) := ggX10_init_X4_init
set_option maxRecDepth 20000 in
theorem ggX10_init_X0_init : GoodIn wsX10_init wsX0_init := goodIn_r _ [64, 65, 2, 3, 38, 66, 121, 122] (by decide +kernel) (by decide +kernel)
set_option maxRecDepth 20000 in
theorem gX10_init_X0_init_n44 : GoodIn wsX10_init (wsX0_init) := ggX10_init_X0_init
set_option maxRecDepth 20000 in
theorem ggX10_init_X2_init : GoodIn wsX10_init wsX2_init := goodIn_r _ [68, 69, 2, 3, 38, 70, 71, 72, 73, 74, 75, 123, 124, 125, 126, 127, 128, 129, 130, 131] (by decide +kernel) (by decide +kernel)
set_option maxRecDepth 20000 in
theorem gX10_init_X2_init_n51 : GoodIn wsX10_init (wsX2_init) := ggX10_init_X2_init
set_option maxRecDepth 20000 in
theorem ggX10_init_X8_init : GoodIn wsX10_init wsX8_init := goodIn_r _ [78, 79, 2, 3, 80, 81, 82, 83, 84, 85, 86, 87, 38, 88, 89, 90, 91, 92, 93, 94, 95, 96, 97, 98, 99, 139, 140, 132, 133, 134, 135, 136, 137, 138, 141, 142, 143, 144] (by decide +kernel) (by decide +kernel)
set_option maxRecDepth 20000 in
theorem gX10_init_X8_init : GoodIn wsX10_init (wsX8_init) := ggX10_init_X8_init
theorem dX10_init_0 : decode cX10_init 0 = .ok (.aload_n 0, 1) := by decide +kernel
theorem dX10_init_1 : decode cX10_init 1 = .ok (.invokespecial 1, 3) := by decide +kernel
theorem dX10_init_4 : decode cX10_init 4 = .ok (.aload_n 0, 1) := by decide +kernel
theorem dX10_init_5 : decode cX10_init 5 = .ok (.new 7, 3) := by decide +kernel
theorem dX10_init_8 : decode cX10_init 8 = .ok (.dup, 1) := by decide +kernel
theorem dX10_init_9 : decode cX10_init 9 = .ok (.invokespecial 9, 3) := by decide +kernel
theorem dX10_init_12 : decode cX10_init 12 = .ok (.putfield 10, 3) := by decide +kernel
theorem dX10_init_15 : decode cX10_init 15 = .ok (.aload_n 0, 1) := by decide +kernel
theorem dX10_init_16 : decode cX10_init 16 = .ok (.new 16, 3) := by decide +kernel
theorem dX10_init_19 : decode cX10_init 19 = .ok (.dup, 1) := by decide +kernel
theorem dX10_init_20 : decode cX10_init 20 = .ok (.aload_n 0, 1) := by decide +kernel
theorem dX10_init_21 : decode cX10_init 21 = .ok (.getfield 10, 3) := by decide +kernel
theorem dX10_init_24 : decode cX10_init 24 = .ok (.invokespecial 18, 3) := by decide +kernel
theorem dX10_init_27 : decode cX10_init 27 = .ok (.putfield 21, 3) := by decide +kernel
theorem dX10_init_30 : decode cX10_init 30 = .ok (.aload_n 0, 1) := by decide +kernel
theorem dX10_init_31 : decode cX10_init 31 = .ok (.new 16, 3) := by decide +kernel
theorem dX10_init_34 : decode cX10_init 34 = .ok (.dup, 1) := by decide +kernel
theorem dX10_init_35 : decode cX10_init 35 = .ok (.aload_n 0, 1) := by decide +kernel
theorem dX10_init_36 : decode cX10_init 36 = .ok (.getfield 10, 3) := by decide +kernel
theorem dX10_init_39 : decode cX10_init 39 = .ok (.invokespecial 18, 3) := by decide +kernel
theorem dX10_init_42 : decode cX10_init 42 = .ok (.putfield 25, 3) := by decide +kernel
theorem dX10_init_45 : decode cX10_init 45 = .ok (.aload_n 0, 1) := by decide +kernel
theorem dX10_init_46 : decode cX10_init 46 = .ok (.new 28, 3) := by decide +kernel
theorem dX10_init_49 : decode cX10_init 49 = .ok (.dup, 1) := by decide +kernel
theorem dX10_init_50 : decode cX10_init 50 = .ok (.invokespecial 30, 3) := by decide +kernel
theorem dX10_init_53 : decode cX10_init 53 = .ok (.putfield 31, 3) := by decide +kernel
theorem dX10_init_56 : decode cX10_init 56 = .ok (.aload_n 0, 1) := by decide +kernel
theorem dX10_init_57 : decode cX10_init 57 = .ok (.new 35, 3) := by decide +kernel
theorem dX10_init_60 : decode cX10_init 60 = .ok (.dup, 1) := by decide +kernel
theorem dX10_init_61 : decode cX10_init 61 = .ok (.invokespecial 37, 3) := by decide +kernel
theorem dX10_init_64 : decode cX10_init 64 = .ok (.putfield 38, 3) := by decide +kernel
theorem dX10_init_67 : decode cX10_init 67 = .ok (.aload_n 0, 1) := by decide +kernel
theorem dX10_init_68 : decode cX10_init 68 = .ok (.new 42, 3) := by decide +kernel
theorem dX10_init_71 : decode cX10_init 71 = .ok (.dup, 1) := by decide +kernel
theorem dX10_init_72 : decode cX10_init 72 = .ok (.invokespecial 44, 3) := by decide +kernel
theorem dX10_init_75 : decode cX10_init 75 = .ok (.putfield 45, 3) := by decide +kernel
theorem dX10_init_78 : decode cX10_init 78 = .ok (.aload_n 0, 1) := by decide +kernel
theorem dX10_init_79 : decode cX10_init 79 = .ok (.new 49, 3) := by decide +kernel
theorem dX10_init_82 : decode cX10_init 82 = .ok (.dup, 1) := by decide +kernel
theorem dX10_init_83 : decode cX10_init 83 = .ok (.invokespecial 51, 3) := by decide +kernel
theorem dX10_init_86 : decode cX10_init 86 = .ok (.putfield 52, 3) := by decide +kernel
theorem dX10_init_89 : decode cX10_init 89 = .ok (.aload_n 0, 1) := by decide +kernel
theorem dX10_init_90 : decode cX10_init 90 = .ok (.new 56, 3) := by decide +kernel
theorem dX10_init_93 : decode cX10_init 93 = .ok (.dup, 1) := by decide +kernel
theorem dX10_init_94 : decode cX10_init 94 = .ok (.aload_n 0, 1) := by decide +kernel
theorem dX10_init_95 : decode cX10_init 95 = .ok (.getfield 45, 3) := by decide +kernel
theorem dX10_init_98 : decode cX10_init 98 = .ok (.invokespecial 58, 3) := by decide +kernel
theorem dX10_init_101 : decode cX10_init 101 = .ok (.putfield 61, 3) := by decide +kernel
theorem dX10_init_104 : decode cX10_init 104 = .ok (.aload_n 0, 1) := by decide +kernel
theorem dX10_init_105 : decode cX10_init 105 = .ok (.iconst 2, 1) := by decide +kernel
theorem dX10_init_106 : decode cX10_init 106 = .ok (.putfield 65, 3) := by decide +kernel
theorem dX10_init_109 : decode cX10_init 109 = .ok (.return_, 1) := by decide +kernel
set_option maxRecDepth 20000 in
theorem ggX10_heap_X10_isSet : GoodIn wsX10_heap wsX10_isSet := goodIn_r _ [6] (by decide +kernel) (by decide +kernel)
set_option maxRecDepth 20000 in
theorem gX10_heap_X10_isSet : GoodIn wsX10_heap (va_wsS RX10 69 yX10_isSet wsX10_isSet) := goodIn_app (goodIn_of _ (by decide +kernel)) ggX10_heap_X10_isSet
set_option maxRecDepth 20000 in
theorem ggX10_heap_X10_isPapers : GoodIn wsX10_heap wsX10_isPapers := goodIn_r _ [9] (by decide +kernel) (by decide +kernel)
set_option maxRecDepth 20000 in
theorem gX10_heap_X10_isPapers : GoodIn wsX10_heap (va_wsS RX10 73 yX10_isPapers wsX10_isPapers) := goodIn_app (goodIn_of _ (by decide +kernel)) ggX10_heap_X10_isPapers
set_option maxRecDepth 20000 in
theorem ggX10_heap_X3_append : GoodIn wsX10_heap wsX3_append := goodIn_r _ [14, 15, 16, 17, 27, 28, 29, 30] (by decide +kernel) (by decide +kernel)
set_option maxRecDepth 20000 in
theorem gX10_heap_X3_append : GoodIn wsX10_heap (wsV RX10 79 RX3 yX3_append wsX3_append) := goodIn_app (goodIn_of _ (by decide +kernel)) ggX10_heap_X3_append
theorem dX10_heap_0 : decode cX10_heap 0 = .ok (.iload_n 1, 1) := by decide +kernel
theorem dX10_heap_1 : decode cX10_heap 1 = .ok (.invokestatic 69, 3) := by decide +kernel
theorem dX10_heap_4 : decode cX10_heap 4 = .ok (.ifCond .eq 10, 3) := by decide +kernel
theorem dX10_heap_7 : decode cX10_heap 7 = .ok (.iload_n 2, 1) := by decide +kernel
theorem dX10_heap_8 : decode cX10_heap 8 = .ok (.invokestatic 73, 3) := by decide +kernel
theorem dX10_heap_11 : decode cX10_heap 11 = .ok (.ifCond .ne 6, 3) := by decide +kernel
theorem dX10_heap_14 : decode cX10_heap 14 = .ok (.bipush (-2), 2) := by decide +kernel
theorem dX10_heap_16 : decode cX10_heap 16 = .ok (.ireturn, 1) := by decide +kernel
theorem dX10_heap_17 : decode cX10_heap 17 = .ok (.aload_n 0, 1) := by decide +kernel
theorem dX10_heap_18 : decode cX10_heap 18 = .ok (.getfield 21, 3) := by decide +kernel
theorem dX10_heap_21 : decode cX10_heap 21 = .ok (.getfield 76, 3) := by decide +kernel
theorem dX10_heap_24 : decode cX10_heap 24 = .ok (.bipush 6, 2) := by decide +kernel
theorem dX10_heap_26 : decode cX10_heap 26 = .ok (.if_icmp .lt 6, 3) := by decide +kernel
theorem dX10_heap_29 : decode cX10_heap 29 = .ok (.bipush (-4), 2) := by decide +kernel
theorem dX10_heap_31 : decode cX10_heap 31 = .ok (.ireturn, 1) := by decide +kernel
theorem dX10_heap_32 : decode cX10_heap 32 = .ok (.aload_n 0, 1) := by decide +kernel
theorem dX10_heap_33 : decode cX10_heap 33 = .ok (.getfield 21, 3) := by decide +kernel
theorem dX10_heap_36 : decode cX10_heap 36 = .ok (.iload_n 1, 1) := by decide +kernel
theorem dX10_heap_37 : decode cX10_heap 37 = .ok (.iload_n 2, 1) := by decide +kernel
theorem dX10_heap_38 : decode cX10_heap 38 = .ok (.invokevirtual 79, 3) := by decide +kernel
theorem dX10_heap_41 : decode cX10_heap 41 = .ok (.aload_n 0, 1) := by decide +kernel
theorem dX10_heap_42 : decode cX10_heap 42 = .ok (.getfield 21, 3) := by decide +kernel
theorem dX10_heap_45 : decode cX10_heap 45 = .ok (.getfield 76, 3) := by decide +kernel
theorem dX10_heap_48 : decode cX10_heap 48 = .ok (.iconst 1, 1) := by decide +kernel
theorem dX10_heap_49 : decode cX10_heap 49 = .ok (.isub, 1) := by decide +kernel
theorem dX10_heap_50 : decode cX10_heap 50 = .ok (.ireturn, 1) := by decide +kernel
set_option maxRecDepth 20000 in
theorem ggX10_change_X10_isHeap : GoodIn wsX10_change wsX10_isHeap := goodIn_r _ [8, 1, 9, 16, 17, 18, 19, 20, 21, 22, 23, 24, 25, 26, 27, 28] (by decide +kernel) (by decide +kernel)
set_option maxRecDepth 20000 in
theorem gX10_change_X10_isHeap : GoodIn wsX10_change (wsV RX10 83 RX10 yX10_isHeap wsX10_isHeap) := goodIn_app (goodIn_of _ (by decide +kernel)) ggX10_change_X10_isHeap
set_option maxRecDepth 20000 in
theorem ggX10_change_X10_isSet : GoodIn wsX10_change wsX10_isSet := goodIn_r _ [12] (by decide +kernel) (by decide +kernel)
