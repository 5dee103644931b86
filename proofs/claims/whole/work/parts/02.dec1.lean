set_option maxRecDepth 20000 in
theorem gX10_change_X10_isSet : GoodIn wsX10_change (va_wsS RX10 69 yX10_isSet wsX10_isSet) := goodIn_app (goodIn_of _ (by decide +kernel)) ggX10_change_X10_isSet
set_option maxRecDepth 20000 in
theorem ggX10_change_X10_isPapers : GoodIn wsX10_change wsX10_isPapers := goodIn_r _ [15] (by decide +kernel) (by decide +kernel)
set_option maxRecDepth 20000 in
theorem gX10_change_X10_isPapers : GoodIn wsX10_change (va_wsS RX10 73 yX10_isPapers wsX10_isPapers) := goodIn_app (goodIn_of _ (by decide +kernel)) ggX10_change_X10_isPapers
theorem dX10_change_0 : decode cX10_change 0 = .ok (.aload_n 0, 1) := by decide +kernel
theorem dX10_change_1 : decode cX10_change 1 = .ok (.iload_n 1, 1) := by decide +kernel
theorem dX10_change_2 : decode cX10_change 2 = .ok (.invokevirtual 83, 3) := by decide +kernel
theorem dX10_change_5 : decode cX10_change 5 = .ok (.ifCond .ne 5, 3) := by decide +kernel
theorem dX10_change_8 : decode cX10_change 8 = .ok (.iconst (-1), 1) := by decide +kernel
theorem dX10_change_9 : decode cX10_change 9 = .ok (.ireturn, 1) := by decide +kernel
theorem dX10_change_10 : decode cX10_change 10 = .ok (.iload_n 2, 1) := by decide +kernel
theorem dX10_change_11 : decode cX10_change 11 = .ok (.ifCond .ne 34, 3) := by decide +kernel
theorem dX10_change_14 : decode cX10_change 14 = .ok (.iload_n 3, 1) := by decide +kernel
theorem dX10_change_15 : decode cX10_change 15 = .ok (.invokestatic 69, 3) := by decide +kernel
theorem dX10_change_18 : decode cX10_change 18 = .ok (.ifCond .eq 27, 3) := by decide +kernel
theorem dX10_change_21 : decode cX10_change 21 = .ok (.aload_n 0, 1) := by decide +kernel
theorem dX10_change_22 : decode cX10_change 22 = .ok (.getfield 21, 3) := by decide +kernel
theorem dX10_change_25 : decode cX10_change 25 = .ok (.getfield 86, 3) := by decide +kernel
theorem dX10_change_28 : decode cX10_change 28 = .ok (.iload_n 1, 1) := by decide +kernel
theorem dX10_change_29 : decode cX10_change 29 = .ok (.iaload, 1) := by decide +kernel
theorem dX10_change_30 : decode cX10_change 30 = .ok (.istore 4, 2) := by decide +kernel
theorem dX10_change_32 : decode cX10_change 32 = .ok (.aload_n 0, 1) := by decide +kernel
theorem dX10_change_33 : decode cX10_change 33 = .ok (.getfield 21, 3) := by decide +kernel
theorem dX10_change_36 : decode cX10_change 36 = .ok (.getfield 86, 3) := by decide +kernel
theorem dX10_change_39 : decode cX10_change 39 = .ok (.iload_n 1, 1) := by decide +kernel
theorem dX10_change_40 : decode cX10_change 40 = .ok (.iload_n 3, 1) := by decide +kernel
theorem dX10_change_41 : decode cX10_change 41 = .ok (.iastore, 1) := by decide +kernel
theorem dX10_change_42 : decode cX10_change 42 = .ok (.iload 4, 2) := by decide +kernel
theorem dX10_change_44 : decode cX10_change 44 = .ok (.ireturn, 1) := by decide +kernel
theorem dX10_change_45 : decode cX10_change 45 = .ok (.iload_n 2, 1) := by decide +kernel
theorem dX10_change_46 : decode cX10_change 46 = .ok (.iconst 1, 1) := by decide +kernel
theorem dX10_change_47 : decode cX10_change 47 = .ok (.if_icmp .ne 34, 3) := by decide +kernel
theorem dX10_change_50 : decode cX10_change 50 = .ok (.iload_n 3, 1) := by decide +kernel
theorem dX10_change_51 : decode cX10_change 51 = .ok (.invokestatic 73, 3) := by decide +kernel
theorem dX10_change_54 : decode cX10_change 54 = .ok (.ifCond .eq 27, 3) := by decide +kernel
theorem dX10_change_57 : decode cX10_change 57 = .ok (.aload_n 0, 1) := by decide +kernel
theorem dX10_change_58 : decode cX10_change 58 = .ok (.getfield 21, 3) := by decide +kernel
theorem dX10_change_61 : decode cX10_change 61 = .ok (.getfield 90, 3) := by decide +kernel
theorem dX10_change_64 : decode cX10_change 64 = .ok (.iload_n 1, 1) := by decide +kernel
theorem dX10_change_65 : decode cX10_change 65 = .ok (.iaload, 1) := by decide +kernel
theorem dX10_change_66 : decode cX10_change 66 = .ok (.istore 4, 2) := by decide +kernel
theorem dX10_change_68 : decode cX10_change 68 = .ok (.aload_n 0, 1) := by decide +kernel
theorem dX10_change_69 : decode cX10_change 69 = .ok (.getfield 21, 3) := by decide +kernel
theorem dX10_change_72 : decode cX10_change 72 = .ok (.getfield 90, 3) := by decide +kernel
theorem dX10_change_75 : decode cX10_change 75 = .ok (.iload_n 1, 1) := by decide +kernel
theorem dX10_change_76 : decode cX10_change 76 = .ok (.iload_n 3, 1) := by decide +kernel
theorem dX10_change_77 : decode cX10_change 77 = .ok (.iastore, 1) := by decide +kernel
theorem dX10_change_78 : decode cX10_change 78 = .ok (.iload 4, 2) := by decide +kernel
theorem dX10_change_80 : decode cX10_change 80 = .ok (.ireturn, 1) := by decide +kernel
theorem dX10_change_81 : decode cX10_change 81 = .ok (.bipush (-2), 2) := by decide +kernel
theorem dX10_change_83 : decode cX10_change 83 = .ok (.ireturn, 1) := by decide +kernel
theorem dX10_drop_0 : decode cX10_drop 0 = .ok (.aload_n 0, 1) := by decide +kernel
theorem dX10_drop_1 : decode cX10_drop 1 = .ok (.getfield 21, 3) := by decide +kernel
theorem dX10_drop_4 : decode cX10_drop 4 = .ok (.getfield 76, 3) := by decide +kernel
theorem dX10_drop_7 : decode cX10_drop 7 = .ok (.ifCond .gt 6, 3) := by decide +kernel
theorem dX10_drop_10 : decode cX10_drop 10 = .ok (.bipush (-5), 2) := by decide +kernel
theorem dX10_drop_12 : decode cX10_drop 12 = .ok (.ireturn, 1) := by decide +kernel
theorem dX10_drop_13 : decode cX10_drop 13 = .ok (.aload_n 0, 1) := by decide +kernel
theorem dX10_drop_14 : decode cX10_drop 14 = .ok (.getfield 21, 3) := by decide +kernel
theorem dX10_drop_17 : decode cX10_drop 17 = .ok (.dup, 1) := by decide +kernel
theorem dX10_drop_18 : decode cX10_drop 18 = .ok (.getfield 76, 3) := by decide +kernel
theorem dX10_drop_21 : decode cX10_drop 21 = .ok (.iconst 1, 1) := by decide +kernel
theorem dX10_drop_22 : decode cX10_drop 22 = .ok (.isub, 1) := by decide +kernel
theorem dX10_drop_23 : decode cX10_drop 23 = .ok (.putfield 76, 3) := by decide +kernel
theorem dX10_drop_26 : decode cX10_drop 26 = .ok (.aload_n 0, 1) := by decide +kernel
theorem dX10_drop_27 : decode cX10_drop 27 = .ok (.getfield 21, 3) := by decide +kernel
theorem dX10_drop_30 : decode cX10_drop 30 = .ok (.getfield 76, 3) := by decide +kernel
theorem dX10_drop_33 : decode cX10_drop 33 = .ok (.ireturn, 1) := by decide +kernel
theorem dX10_seats_0 : decode cX10_seats 0 = .ok (.iload_n 1, 1) := by decide +kernel
theorem dX10_seats_1 : decode cX10_seats 1 = .ok (.iconst 1, 1) := by decide +kernel
theorem dX10_seats_2 : decode cX10_seats 2 = .ok (.if_icmp .lt 8, 3) := by decide +kernel
theorem dX10_seats_5 : decode cX10_seats 5 = .ok (.iload_n 1, 1) := by decide +kernel
theorem dX10_seats_6 : decode cX10_seats 6 = .ok (.iconst 4, 1) := by decide +kernel
theorem dX10_seats_7 : decode cX10_seats 7 = .ok (.if_icmp .le 6, 3) := by decide +kernel
theorem dX10_seats_10 : decode cX10_seats 10 = .ok (.bipush (-2), 2) := by decide +kernel
theorem dX10_seats_12 : decode cX10_seats 12 = .ok (.ireturn, 1) := by decide +kernel
theorem dX10_seats_13 : decode cX10_seats 13 = .ok (.aload_n 0, 1) := by decide +kernel
theorem dX10_seats_14 : decode cX10_seats 14 = .ok (.getfield 65, 3) := by decide +kernel
theorem dX10_seats_17 : decode cX10_seats 17 = .ok (.istore_n 2, 1) := by decide +kernel
theorem dX10_seats_18 : decode cX10_seats 18 = .ok (.aload_n 0, 1) := by decide +kernel
theorem dX10_seats_19 : decode cX10_seats 19 = .ok (.iload_n 1, 1) := by decide +kernel
theorem dX10_seats_20 : decode cX10_seats 20 = .ok (.putfield 65, 3) := by decide +kernel
theorem dX10_seats_23 : decode cX10_seats 23 = .ok (.iload_n 2, 1) := by decide +kernel
theorem dX10_seats_24 : decode cX10_seats 24 = .ok (.ireturn, 1) := by decide +kernel
set_option maxRecDepth 20000 in
theorem ggX10_worth_X9_fits : GoodIn wsX10_worth wsX9_fits := goodIn_r _ [7, 8, 27, 28] (by decide +kernel) (by decide +kernel)
set_option maxRecDepth 20000 in
theorem gX10_worth_X9_fits : GoodIn wsX10_worth (wsV RX10 93 RX9 yX9_fits wsX9_fits) := goodIn_app (goodIn_of _ (by decide +kernel)) ggX10_worth_X9_fits
set_option maxRecDepth 20000 in
theorem ggX10_worth_X9_put : GoodIn wsX10_worth wsX9_put := goodIn_r _ [12, 8, 13, 14, 15, 6, 16, 17, 27, 28] (by decide +kernel) (by decide +kernel)
set_option maxRecDepth 20000 in
theorem gX10_worth_X9_put : GoodIn wsX10_worth (wsV RX10 100 RX9 yX9_put wsX9_put) := goodIn_app (goodIn_of _ (by decide +kernel)) ggX10_worth_X9_put
theorem dX10_worth_0 : decode cX10_worth 0 = .ok (.iload_n 1, 1) := by decide +kernel
theorem dX10_worth_1 : decode cX10_worth 1 = .ok (.ifCond .lt 20, 3) := by decide +kernel
theorem dX10_worth_4 : decode cX10_worth 4 = .ok (.iload_n 1, 1) := by decide +kernel
theorem dX10_worth_5 : decode cX10_worth 5 = .ok (.iconst 4, 1) := by decide +kernel
theorem dX10_worth_6 : decode cX10_worth 6 = .ok (.if_icmp .ge 15, 3) := by decide +kernel
theorem dX10_worth_9 : decode cX10_worth 9 = .ok (.aload_n 0, 1) := by decide +kernel
theorem dX10_worth_10 : decode cX10_worth 10 = .ok (.getfield 10, 3) := by decide +kernel
theorem dX10_worth_13 : decode cX10_worth 13 = .ok (.iload_n 1, 1) := by decide +kernel
theorem dX10_worth_14 : decode cX10_worth 14 = .ok (.iload_n 2, 1) := by decide +kernel
theorem dX10_worth_15 : decode cX10_worth 15 = .ok (.invokevirtual 93, 3) := by decide +kernel
theorem dX10_worth_18 : decode cX10_worth 18 = .ok (.ifCond .ne 6, 3) := by decide +kernel
theorem dX10_worth_21 : decode cX10_worth 21 = .ok (.bipush (-2), 2) := by decide +kernel
theorem dX10_worth_23 : decode cX10_worth 23 = .ok (.ireturn, 1) := by decide +kernel
theorem dX10_worth_24 : decode cX10_worth 24 = .ok (.aload_n 0, 1) := by decide +kernel
theorem dX10_worth_25 : decode cX10_worth 25 = .ok (.getfield 10, 3) := by decide +kernel
theorem dX10_worth_28 : decode cX10_worth 28 = .ok (.getfield 97, 3) := by decide +kernel
theorem dX10_worth_31 : decode cX10_worth 31 = .ok (.iload_n 1, 1) := by decide +kernel
theorem dX10_worth_32 : decode cX10_worth 32 = .ok (.iaload, 1) := by decide +kernel
theorem dX10_worth_33 : decode cX10_worth 33 = .ok (.istore_n 3, 1) := by decide +kernel
theorem dX10_worth_34 : decode cX10_worth 34 = .ok (.aload_n 0, 1) := by decide +kernel
theorem dX10_worth_35 : decode cX10_worth 35 = .ok (.getfield 10, 3) := by decide +kernel
theorem dX10_worth_38 : decode cX10_worth 38 = .ok (.iload_n 1, 1) := by decide +kernel
theorem dX10_worth_39 : decode cX10_worth 39 = .ok (.iload_n 2, 1) := by decide +kernel
theorem dX10_worth_40 : decode cX10_worth 40 = .ok (.invokevirtual 100, 3) := by decide +kernel
theorem dX10_worth_43 : decode cX10_worth 43 = .ok (.iload_n 3, 1) := by decide +kernel
theorem dX10_worth_44 : decode cX10_worth 44 = .ok (.ireturn, 1) := by decide +kernel
set_option maxRecDepth 20000 in
theorem ggX10_say_X7_append : GoodIn wsX10_say wsX7_append := goodIn_r _ [7, 8, 9, 19, 20] (by decide +kernel) (by decide +kernel)
set_option maxRecDepth 20000 in
theorem gX10_say_X7_append : GoodIn wsX10_say (wsV RX10 106 RX7 yX7_append wsX7_append) := goodIn_app (goodIn_of _ (by decide +kernel)) ggX10_say_X7_append
theorem dX10_say_0 : decode cX10_say 0 = .ok (.iload_n 1, 1) := by decide +kernel
theorem dX10_say_1 : decode cX10_say 1 = .ok (.bipush 33, 2) := by decide +kernel
theorem dX10_say_3 : decode cX10_say 3 = .ok (.if_icmp .lt 9, 3) := by decide +kernel
theorem dX10_say_6 : decode cX10_say 6 = .ok (.iload_n 1, 1) := by decide +kernel
theorem dX10_say_7 : decode cX10_say 7 = .ok (.bipush 126, 2) := by decide +kernel
theorem dX10_say_9 : decode cX10_say 9 = .ok (.if_icmp .le 6, 3) := by decide +kernel
theorem dX10_say_12 : decode cX10_say 12 = .ok (.bipush (-2), 2) := by decide +kernel
theorem dX10_say_14 : decode cX10_say 14 = .ok (.ireturn, 1) := by decide +kernel
theorem dX10_say_15 : decode cX10_say 15 = .ok (.aload_n 0, 1) := by decide +kernel
theorem dX10_say_16 : decode cX10_say 16 = .ok (.getfield 31, 3) := by decide +kernel
theorem dX10_say_19 : decode cX10_say 19 = .ok (.getfield 103, 3) := by decide +kernel
theorem dX10_say_22 : decode cX10_say 22 = .ok (.bipush 40, 2) := by decide +kernel
theorem dX10_say_24 : decode cX10_say 24 = .ok (.if_icmp .lt 6, 3) := by decide +kernel
theorem dX10_say_27 : decode cX10_say 27 = .ok (.bipush (-4), 2) := by decide +kernel
theorem dX10_say_29 : decode cX10_say 29 = .ok (.ireturn, 1) := by decide +kernel
theorem dX10_say_30 : decode cX10_say 30 = .ok (.aload_n 0, 1) := by decide +kernel
theorem dX10_say_31 : decode cX10_say 31 = .ok (.getfield 31, 3) := by decide +kernel
theorem dX10_say_34 : decode cX10_say 34 = .ok (.iload_n 1, 1) := by decide +kernel
theorem dX10_say_35 : decode cX10_say 35 = .ok (.invokevirtual 106, 3) := by decide +kernel
theorem dX10_say_38 : decode cX10_say 38 = .ok (.aload_n 0, 1) := by decide +kernel
theorem dX10_say_39 : decode cX10_say 39 = .ok (.getfield 31, 3) := by decide +kernel
theorem dX10_say_42 : decode cX10_say 42 = .ok (.getfield 103, 3) := by decide +kernel
theorem dX10_say_45 : decode cX10_say 45 = .ok (.ireturn, 1) := by decide +kernel
theorem dX10_wipe_0 : decode cX10_wipe 0 = .ok (.aload_n 0, 1) := by decide +kernel
theorem dX10_wipe_1 : decode cX10_wipe 1 = .ok (.getfield 31, 3) := by decide +kernel
theorem dX10_wipe_4 : decode cX10_wipe 4 = .ok (.getfield 103, 3) := by decide +kernel
theorem dX10_wipe_7 : decode cX10_wipe 7 = .ok (.istore_n 1, 1) := by decide +kernel
theorem dX10_wipe_8 : decode cX10_wipe 8 = .ok (.aload_n 0, 1) := by decide +kernel
theorem dX10_wipe_9 : decode cX10_wipe 9 = .ok (.getfield 31, 3) := by decide +kernel
theorem dX10_wipe_12 : decode cX10_wipe 12 = .ok (.iconst 0, 1) := by decide +kernel
theorem dX10_wipe_13 : decode cX10_wipe 13 = .ok (.putfield 103, 3) := by decide +kernel
theorem dX10_wipe_16 : decode cX10_wipe 16 = .ok (.iload_n 1, 1) := by decide +kernel
theorem dX10_wipe_17 : decode cX10_wipe 17 = .ok (.ireturn, 1) := by decide +kernel
set_option maxRecDepth 20000 in
theorem ggX10_fault_X7_firstFault : GoodIn wsX10_fault wsX7_firstFault := goodIn_r _ [6, 7, 8, 9, 10, 5, 11, 21, 22] (by decide +kernel) (by decide +kernel)
set_option maxRecDepth 20000 in
theorem gX10_fault_X7_firstFault : GoodIn wsX10_fault (wsV RX10 109 RX7 yX7_firstFault wsX7_firstFault) := goodIn_app (goodIn_of _ (by decide +kernel)) ggX10_fault_X7_firstFault
theorem dX10_fault_0 : decode cX10_fault 0 = .ok (.aload_n 0, 1) := by decide +kernel
theorem dX10_fault_1 : decode cX10_fault 1 = .ok (.getfield 31, 3) := by decide +kernel
theorem dX10_fault_4 : decode cX10_fault 4 = .ok (.invokevirtual 109, 3) := by decide +kernel
theorem dX10_fault_7 : decode cX10_fault 7 = .ok (.ireturn, 1) := by decide +kernel
set_option maxRecDepth 20000 in
theorem ggX10_hall_X7_firstFault : GoodIn wsX10_hall wsX7_firstFault := goodIn_r _ [8, 9, 10, 11, 12, 7, 13, 38, 39] (by decide +kernel) (by decide +kernel)
set_option maxRecDepth 20000 in
theorem gX10_hall_X7_firstFault : GoodIn wsX10_hall (wsV RX10 109 RX7 yX7_firstFault wsX7_firstFault) := goodIn_app (goodIn_of _ (by decide +kernel)) ggX10_hall_X7_firstFault
set_option maxRecDepth 20000 in
theorem ggX10_hall_X4_read : GoodIn wsX10_hall wsX4_read := goodIn_r _ [18, 19, 20, 21, 22, 23, 24, 17, 25, 26, 27, 28, 40, 41, 42, 43, 38, 39] (by decide +kernel) (by decide +kernel)
set_option maxRecDepth 20000 in
theorem gX10_hall_X4_read : GoodIn wsX10_hall (wsV RX10 113 RX4 yX4_read wsX4_read) := goodIn_app (goodIn_of _ (by decide +kernel)) ggX10_hall_X4_read
theorem dX10_hall_0 : decode cX10_hall 0 = .ok (.aload_n 0, 1) := by decide +kernel
theorem dX10_hall_1 : decode cX10_hall 1 = .ok (.getfield 31, 3) := by decide +kernel
theorem dX10_hall_4 : decode cX10_hall 4 = .ok (.invokevirtual 109, 3) := by decide +kernel
theorem dX10_hall_7 : decode cX10_hall 7 = .ok (.bipush (-6), 2) := by decide +kernel
theorem dX10_hall_9 : decode cX10_hall 9 = .ok (.if_icmp .eq 6, 3) := by decide +kernel
theorem dX10_hall_12 : decode cX10_hall 12 = .ok (.bipush (-5), 2) := by decide +kernel
theorem dX10_hall_14 : decode cX10_hall 14 = .ok (.ireturn, 1) := by decide +kernel
theorem dX10_hall_15 : decode cX10_hall 15 = .ok (.aload_n 0, 1) := by decide +kernel
theorem dX10_hall_16 : decode cX10_hall 16 = .ok (.getfield 38, 3) := by decide +kernel
theorem dX10_hall_19 : decode cX10_hall 19 = .ok (.aload_n 0, 1) := by decide +kernel
theorem dX10_hall_20 : decode cX10_hall 20 = .ok (.getfield 31, 3) := by decide +kernel
theorem dX10_hall_23 : decode cX10_hall 23 = .ok (.invokevirtual 113, 3) := by decide +kernel
theorem dX10_hall_26 : decode cX10_hall 26 = .ok (.aload_n 0, 1) := by decide +kernel
theorem dX10_hall_27 : decode cX10_hall 27 = .ok (.getfield 31, 3) := by decide +kernel
theorem dX10_hall_30 : decode cX10_hall 30 = .ok (.iconst 0, 1) := by decide +kernel
theorem dX10_hall_31 : decode cX10_hall 31 = .ok (.putfield 103, 3) := by decide +kernel
theorem dX10_hall_34 : decode cX10_hall 34 = .ok (.iconst 1, 1) := by decide +kernel
theorem dX10_hall_35 : decode cX10_hall 35 = .ok (.ireturn, 1) := by decide +kernel
theorem dX10_open_0 : decode cX10_open 0 = .ok (.aload_n 0, 1) := by decide +kernel
theorem dX10_open_1 : decode cX10_open 1 = .ok (.getfield 38, 3) := by decide +kernel
theorem dX10_open_4 : decode cX10_open 4 = .ok (.getfield 117, 3) := by decide +kernel
theorem dX10_open_7 : decode cX10_open 7 = .ok (.ifCond .ne 5, 3) := by decide +kernel
theorem dX10_open_10 : decode cX10_open 10 = .ok (.iconst 0, 1) := by decide +kernel
theorem dX10_open_11 : decode cX10_open 11 = .ok (.ireturn, 1) := by decide +kernel
theorem dX10_open_12 : decode cX10_open 12 = .ok (.aload_n 0, 1) := by decide +kernel
theorem dX10_open_13 : decode cX10_open 13 = .ok (.getfield 38, 3) := by decide +kernel
theorem dX10_open_16 : decode cX10_open 16 = .ok (.iconst 0, 1) := by decide +kernel
theorem dX10_open_17 : decode cX10_open 17 = .ok (.putfield 117, 3) := by decide +kernel
theorem dX10_open_20 : decode cX10_open 20 = .ok (.iconst 1, 1) := by decide +kernel
theorem dX10_open_21 : decode cX10_open 21 = .ok (.ireturn, 1) := by decide +kernel
set_option maxRecDepth 20000 in
theorem ggX10_of_X10_isCommittee : GoodIn wsX10_of wsX10_isCommittee := goodIn_r _ [7, 8, 9, 10, 6, 11, 12, 13, 14, 15, 16, 17, 18, 49, 50, 51, 52, 53, 54, 55, 56, 57] (by decide +kernel) (by decide +kernel)
set_option maxRecDepth 20000 in
theorem gX10_of_X10_isCommittee : GoodIn wsX10_of (wsV RX10 118 RX10 yX10_isCommittee wsX10_isCommittee) := goodIn_app (goodIn_of _ (by decide +kernel)) ggX10_of_X10_isCommittee
set_option maxRecDepth 20000 in
theorem ggX10_of_X4_allow : GoodIn wsX10_of wsX4_allow := goodIn_r _ [23, 24, 25, 26, 22, 27, 28, 29, 30, 31, 32, 13, 14, 15, 16, 17, 18, 58, 59, 60, 61] (by decide +kernel) (by decide +kernel)
set_option maxRecDepth 20000 in
theorem gX10_of_X4_allow : GoodIn wsX10_of (wsV RX10 121 RX4 yX4_allow wsX4_allow) := goodIn_app (goodIn_of _ (by decide +kernel)) ggX10_of_X4_allow
set_option maxRecDepth 20000 in
theorem ggX10_of_X3_worthOf : GoodIn wsX10_of wsX3_worthOf := goodIn_r _ [37, 38, 39, 40, 41, 42, 43, 13, 14, 15, 16, 17, 18, 62, 63, 64, 65, 66, 67] (by decide +kernel) (by decide +kernel)
set_option maxRecDepth 20000 in
theorem gX10_of_X3_worthOf : GoodIn wsX10_of (wsV RX10 124 RX3 yX3_worthOf wsX3_worthOf) := goodIn_app (goodIn_of _ (by decide +kernel)) ggX10_of_X3_worthOf
set_option maxRecDepth 20000 in
theorem ggX10_of_X3_wronged : GoodIn wsX10_of wsX3_wronged := goodIn_r _ [47, 38, 42, 39, 62, 63, 64, 65] (by decide +kernel) (by decide +kernel)
set_option maxRecDepth 20000 in
theorem gX10_of_X3_wronged : GoodIn wsX10_of (wsV RX10 128 RX3 yX3_wronged wsX3_wronged) := goodIn_app (goodIn_of _ (by decide +kernel)) ggX10_of_X3_wronged
set_option maxRecDepth 20000 in
theorem ggX10_of_X4_firstBroken : GoodIn wsX10_of wsX4_firstBroken := goodIn_r _ [27, 28, 29, 30, 31, 32, 13, 14, 15, 16, 17, 18, 58, 59, 60, 61] (by decide +kernel) (by decide +kernel)
set_option maxRecDepth 20000 in
theorem gX10_of_X4_firstBroken : GoodIn wsX10_of (wsV RX10 131 RX4 yX4_firstBroken wsX4_firstBroken) := goodIn_app (goodIn_of _ (by decide +kernel)) ggX10_of_X4_firstBroken
theorem dX10_of_0 : decode cX10_of 0 = .ok (.aload_n 0, 1) := by decide +kernel
theorem dX10_of_1 : decode cX10_of 1 = .ok (.iload_n 1, 1) := by decide +kernel
theorem dX10_of_2 : decode cX10_of 2 = .ok (.invokevirtual 118, 3) := by decide +kernel
theorem dX10_of_5 : decode cX10_of 5 = .ok (.ifCond .ne 6, 3) := by decide +kernel
theorem dX10_of_8 : decode cX10_of 8 = .ok (.bipush (-2), 2) := by decide +kernel
theorem dX10_of_10 : decode cX10_of 10 = .ok (.ireturn, 1) := by decide +kernel
theorem dX10_of_11 : decode cX10_of 11 = .ok (.iload_n 2, 1) := by decide +kernel
theorem dX10_of_12 : decode cX10_of 12 = .ok (.tableswitch 76 0 3 #[32, 49, 58, 67], 32) := by decide +kernel
theorem dX10_of_44 : decode cX10_of 44 = .ok (.aload_n 0, 1) := by decide +kernel
theorem dX10_of_45 : decode cX10_of 45 = .ok (.getfield 38, 3) := by decide +kernel
theorem dX10_of_48 : decode cX10_of 48 = .ok (.iload_n 1, 1) := by decide +kernel
theorem dX10_of_49 : decode cX10_of 49 = .ok (.invokevirtual 121, 3) := by decide +kernel
theorem dX10_of_52 : decode cX10_of 52 = .ok (.ifCond .eq 7, 3) := by decide +kernel
theorem dX10_of_55 : decode cX10_of 55 = .ok (.iconst 1, 1) := by decide +kernel
theorem dX10_of_56 : decode cX10_of 56 = .ok (.goto 4, 3) := by decide +kernel
theorem dX10_of_59 : decode cX10_of 59 = .ok (.iconst 0, 1) := by decide +kernel
theorem dX10_of_60 : decode cX10_of 60 = .ok (.ireturn, 1) := by decide +kernel
theorem dX10_of_61 : decode cX10_of 61 = .ok (.aload_n 0, 1) := by decide +kernel
theorem dX10_of_62 : decode cX10_of 62 = .ok (.getfield 21, 3) := by decide +kernel
theorem dX10_of_65 : decode cX10_of 65 = .ok (.iload_n 1, 1) := by decide +kernel
theorem dX10_of_66 : decode cX10_of 66 = .ok (.invokevirtual 124, 3) := by decide +kernel
theorem dX10_of_69 : decode cX10_of 69 = .ok (.ireturn, 1) := by decide +kernel
theorem dX10_of_70 : decode cX10_of 70 = .ok (.aload_n 0, 1) := by decide +kernel
theorem dX10_of_71 : decode cX10_of 71 = .ok (.getfield 21, 3) := by decide +kernel
theorem dX10_of_74 : decode cX10_of 74 = .ok (.iload_n 1, 1) := by decide +kernel
theorem dX10_of_75 : decode cX10_of 75 = .ok (.invokevirtual 128, 3) := by decide +kernel
theorem dX10_of_78 : decode cX10_of 78 = .ok (.ireturn, 1) := by decide +kernel
theorem dX10_of_79 : decode cX10_of 79 = .ok (.aload_n 0, 1) := by decide +kernel
theorem dX10_of_80 : decode cX10_of 80 = .ok (.getfield 38, 3) := by decide +kernel
theorem dX10_of_83 : decode cX10_of 83 = .ok (.iload_n 1, 1) := by decide +kernel
theorem dX10_of_84 : decode cX10_of 84 = .ok (.invokevirtual 131, 3) := by decide +kernel
theorem dX10_of_87 : decode cX10_of 87 = .ok (.ireturn, 1) := by decide +kernel
theorem dX10_of_88 : decode cX10_of 88 = .ok (.bipush (-2), 2) := by decide +kernel
theorem dX10_of_90 : decode cX10_of 90 = .ok (.ireturn, 1) := by decide +kernel
set_option maxRecDepth 20000 in
theorem ggX10_choose_X10_isWay : GoodIn wsX10_choose wsX10_isWay := goodIn_r _ [7] (by decide +kernel) (by decide +kernel)
set_option maxRecDepth 20000 in
theorem gX10_choose_X10_isWay : GoodIn wsX10_choose (va_wsS RX10 134 yX10_isWay wsX10_isWay) := goodIn_app (goodIn_of _ (by decide +kernel)) ggX10_choose_X10_isWay
set_option maxRecDepth 20000 in
theorem ggX10_choose_X10_runWay : GoodIn wsX10_choose wsX10_runWay := goodIn_r _ [11, 12, 13, 2, 14, 15, 16, 17, 18, 19, 20, 21, 22, 23, 24, 25, 26, 27, 28, 29, 30, 31, 32, 33, 34, 35, 36, 37, 38, 39, 40, 41, 42, 43, 44, 45, 46, 47, 48, 49, 50, 51, 52, 53, 54, 55, 56, 57, 58, 59, 60, 61, 62, 63, 64, 65, 66, 67, 68, 69, 70, 71, 72, 73, 74, 75, 76, 77, 78, 79, 80, 81, 82, 83, 84, 85, 86, 87, 88, 89, 90, 91, 92, 93, 94, 95, 96, 97, 98, 99, 100, 101, 102, 103, 104, 105, 106, 107, 108, 109, 110, 111, 112, 113, 114, 115, 116, 117, 118, 119, 120, 121, 122, 123, 124, 125, 126, 127, 128, 129, 130, 131, 132, 133, 134, 135, 136, 137, 138, 139, 140, 141, 142, 143, 144, 145, 146, 147, 148, 149, 150, 151, 152, 153, 154, 155, 156, 157, 158, 159, 160, 161, 162, 163, 164, 165, 166, 167, 168, 169, 170, 171, 172, 173, 174, 175, 176, 177, 178, 179, 180, 181, 182, 183, 184, 185, 186, 187, 188, 189, 190, 191, 192, 193, 194, 199, 200, 201, 202, 203, 204, 205, 206, 207, 215, 216, 217, 218, 219, 220, 208, 209, 210, 211, 212, 213, 214, 221, 222, 223, 224, 225, 226, 227, 228, 229, 230, 231, 232] (by decide +kernel) (by decide +kernel)
set_option maxRecDepth 20000 in
theorem gX10_choose_X10_runWay : GoodIn wsX10_choose (wsV RX10 137 RX10 yX10_runWay wsX10_runWay) := goodIn_app (goodIn_of _ (by decide +kernel)) ggX10_choose_X10_runWay
set_option maxRecDepth 20000 in
theorem ggX10_choose_X8_chosenAt : GoodIn wsX10_choose wsX8_chosenAt := goodIn_r _ [198, 53, 79, 208, 209, 210, 211, 212, 213, 214] (by decide +kernel) (by decide +kernel)
set_option maxRecDepth 20000 in
theorem gX10_choose_X8_chosenAt : GoodIn wsX10_choose (wsV RX10 143 RX8 yX8_chosenAt wsX8_chosenAt) := goodIn_app (goodIn_of _ (by decide +kernel)) ggX10_choose_X8_chosenAt
theorem dX10_choose_0 : decode cX10_choose 0 = .ok (.iload_n 1, 1) := by decide +kernel
theorem dX10_choose_1 : decode cX10_choose 1 = .ok (.invokestatic 134, 3) := by decide +kernel
theorem dX10_choose_4 : decode cX10_choose 4 = .ok (.ifCond .ne 5, 3) := by decide +kernel
theorem dX10_choose_7 : decode cX10_choose 7 = .ok (.iconst (-1), 1) := by decide +kernel
theorem dX10_choose_8 : decode cX10_choose 8 = .ok (.ireturn, 1) := by decide +kernel
theorem dX10_choose_9 : decode cX10_choose 9 = .ok (.aload_n 0, 1) := by decide +kernel
theorem dX10_choose_10 : decode cX10_choose 10 = .ok (.iload_n 1, 1) := by decide +kernel
theorem dX10_choose_11 : decode cX10_choose 11 = .ok (.aload_n 0, 1) := by decide +kernel
theorem dX10_choose_12 : decode cX10_choose 12 = .ok (.getfield 65, 3) := by decide +kernel
theorem dX10_choose_15 : decode cX10_choose 15 = .ok (.invokevirtual 137, 3) := by decide +kernel
theorem dX10_choose_18 : decode cX10_choose 18 = .ok (.iload_n 2, 1) := by decide +kernel
theorem dX10_choose_19 : decode cX10_choose 19 = .ok (.iconst (-1), 1) := by decide +kernel
theorem dX10_choose_20 : decode cX10_choose 20 = .ok (.if_icmp .ne 13, 3) := by decide +kernel
theorem dX10_choose_23 : decode cX10_choose 23 = .ok (.aload_n 0, 1) := by decide +kernel
theorem dX10_choose_24 : decode cX10_choose 24 = .ok (.getfield 61, 3) := by decide +kernel
theorem dX10_choose_27 : decode cX10_choose 27 = .ok (.getfield 140, 3) := by decide +kernel
theorem dX10_choose_30 : decode cX10_choose 30 = .ok (.goto 11, 3) := by decide +kernel
theorem dX10_choose_33 : decode cX10_choose 33 = .ok (.aload_n 0, 1) := by decide +kernel
theorem dX10_choose_34 : decode cX10_choose 34 = .ok (.getfield 61, 3) := by decide +kernel
theorem dX10_choose_37 : decode cX10_choose 37 = .ok (.iload_n 2, 1) := by decide +kernel
theorem dX10_choose_38 : decode cX10_choose 38 = .ok (.invokevirtual 143, 3) := by decide +kernel
theorem dX10_choose_41 : decode cX10_choose 41 = .ok (.ireturn, 1) := by decide +kernel
set_option maxRecDepth 20000 in
theorem ggX10_load_X10_refusalOfShare : GoodIn wsX10_load wsX10_refusalOfShare := goodIn_r _ [9, 10, 11, 12, 13, 8, 14, 3, 15, 89, 90, 91, 92, 93, 94, 95, 96, 97, 105, 106, 107, 108] (by decide +kernel) (by decide +kernel)
set_option maxRecDepth 20000 in
theorem gX10_load_X10_refusalOfShare : GoodIn wsX10_load (wsV RX10 146 RX10 yX10_refusalOfShare wsX10_refusalOfShare) := goodIn_app (goodIn_of _ (by decide +kernel)) ggX10_load_X10_refusalOfShare
set_option maxRecDepth 20000 in
theorem ggX10_load_X8_byLoads : GoodIn wsX10_load wsX8_byLoads := goodIn_r _ [20, 21, 22, 23, 24, 25, 19, 26, 27, 28, 29, 30, 31, 32, 33, 34, 35, 36, 37, 38, 39, 40, 41, 42, 43, 44, 45, 46, 47, 48, 49, 50, 51, 52, 53, 54, 55, 56, 57, 58, 59, 60, 61, 62, 63, 64, 65, 66, 67, 68, 69, 70, 71, 72, 73, 74, 75, 76, 77, 78, 79, 80, 98, 99, 100, 101, 102, 103, 104, 109, 110, 111, 112, 113, 114, 105, 106, 107, 108] (by decide +kernel) (by decide +kernel)
set_option maxRecDepth 20000 in
theorem gX10_load_X8_byLoads : GoodIn wsX10_load (wsV RX10 152 RX8 yX8_byLoads wsX8_byLoads) := goodIn_app (goodIn_of _ (by decide +kernel)) ggX10_load_X8_byLoads
set_option maxRecDepth 20000 in
theorem ggX10_load_X1_lowest : GoodIn wsX10_load wsX1_lowest := goodIn_r _ [85, 34, 35, 86, 87, 32, 88, 109, 110, 111, 112, 113, 114] (by decide +kernel) (by decide +kernel)
set_option maxRecDepth 20000 in
theorem gX10_load_X1_lowest_u160X5 : GoodIn wsX10_load (va_wsU RX10 160 RX5 "FairSeats$Fractions" ⟨"FairSeats$Loads", "lowest", "(II)J"⟩ yX1_lowest wsX1_lowest) := goodIn_app (goodIn_of _ (by decide +kernel)) ggX10_load_X1_lowest
theorem dX10_load_0 : decode cX10_load 0 = .ok (.aload_n 0, 1) := by decide +kernel
theorem dX10_load_1 : decode cX10_load 1 = .ok (.iload_n 1, 1) := by decide +kernel
theorem dX10_load_2 : decode cX10_load 2 = .ok (.iload_n 2, 1) := by decide +kernel
theorem dX10_load_3 : decode cX10_load 3 = .ok (.iload_n 3, 1) := by decide +kernel
theorem dX10_load_4 : decode cX10_load 4 = .ok (.invokevirtual 146, 3) := by decide +kernel
theorem dX10_load_7 : decode cX10_load 7 = .ok (.istore 4, 2) := by decide +kernel
theorem dX10_load_9 : decode cX10_load 9 = .ok (.iload 4, 2) := by decide +kernel
theorem dX10_load_11 : decode cX10_load 11 = .ok (.ifCond .eq 11, 3) := by decide +kernel
theorem dX10_load_14 : decode cX10_load 14 = .ok (.ldc2_w 150, 3) := by decide +kernel
theorem dX10_load_17 : decode cX10_load 17 = .ok (.iload 4, 2) := by decide +kernel
theorem dX10_load_19 : decode cX10_load 19 = .ok (.i2l, 1) := by decide +kernel
theorem dX10_load_20 : decode cX10_load 20 = .ok (.ladd, 1) := by decide +kernel
theorem dX10_load_21 : decode cX10_load 21 = .ok (.lreturn, 1) := by decide +kernel
theorem dX10_load_22 : decode cX10_load 22 = .ok (.aload_n 0, 1) := by decide +kernel
theorem dX10_load_23 : decode cX10_load 23 = .ok (.getfield 61, 3) := by decide +kernel
theorem dX10_load_26 : decode cX10_load 26 = .ok (.aload_n 0, 1) := by decide +kernel
theorem dX10_load_27 : decode cX10_load 27 = .ok (.getfield 21, 3) := by decide +kernel
theorem dX10_load_30 : decode cX10_load 30 = .ok (.iload_n 2, 1) := by decide +kernel
theorem dX10_load_31 : decode cX10_load 31 = .ok (.invokevirtual 152, 3) := by decide +kernel
theorem dX10_load_34 : decode cX10_load 34 = .ok (.aload_n 0, 1) := by decide +kernel
theorem dX10_load_35 : decode cX10_load 35 = .ok (.getfield 61, 3) := by decide +kernel
theorem dX10_load_38 : decode cX10_load 38 = .ok (.getfield 156, 3) := by decide +kernel
theorem dX10_load_41 : decode cX10_load 41 = .ok (.iload_n 1, 1) := by decide +kernel
theorem dX10_load_42 : decode cX10_load 42 = .ok (.iload_n 3, 1) := by decide +kernel
theorem dX10_load_43 : decode cX10_load 43 = .ok (.invokevirtual 160, 3) := by decide +kernel
theorem dX10_load_46 : decode cX10_load 46 = .ok (.lreturn, 1) := by decide +kernel
set_option maxRecDepth 20000 in
theorem ggX10_purse_X10_refusalOfShare : GoodIn wsX10_purse wsX10_refusalOfShare := goodIn_r _ [10, 4, 11, 12, 13, 9, 14, 3, 15, 114, 115, 116, 117, 118, 119, 120, 121, 122, 130, 131, 132, 133] (by decide +kernel) (by decide +kernel)
set_option maxRecDepth 20000 in
theorem gX10_purse_X10_refusalOfShare : GoodIn wsX10_purse (wsV RX10 146 RX10 yX10_refusalOfShare wsX10_refusalOfShare) := goodIn_app (goodIn_of _ (by decide +kernel)) ggX10_purse_X10_refusalOfShare
set_option maxRecDepth 20000 in
theorem ggX10_purse_X8_byPurses : GoodIn wsX10_purse wsX8_byPurses := goodIn_r _ [20, 21, 22, 23, 24, 25, 26, 19, 27, 28, 29, 30, 31, 32, 33, 34, 35, 36, 37, 38, 39, 40, 41, 42, 43, 44, 45, 46, 47, 48, 49, 50, 51, 52, 53, 54, 55, 56, 57, 58, 59, 60, 61, 62, 63, 64, 65, 66, 67, 68, 69, 70, 71, 72, 73, 74, 75, 76, 77, 78, 79, 80, 81, 82, 83, 84, 85, 86, 87, 88, 89, 90, 91, 92, 93, 94, 95, 96, 97, 98, 99, 100, 101, 102, 103, 104, 105, 123, 124, 125, 126, 127, 128, 129, 134, 135, 136, 137, 138, 139, 130, 131, 132, 133] (by decide +kernel) (by decide +kernel)
set_option maxRecDepth 20000 in
theorem gX10_purse_X8_byPurses : GoodIn wsX10_purse (wsV RX10 166 RX8 yX8_byPurses wsX8_byPurses) := goodIn_app (goodIn_of _ (by decide +kernel)) ggX10_purse_X8_byPurses
set_option maxRecDepth 20000 in
theorem ggX10_purse_X1_lowest : GoodIn wsX10_purse wsX1_lowest := goodIn_r _ [110, 35, 36, 111, 112, 33, 113, 134, 135, 136, 137, 138, 139] (by decide +kernel) (by decide +kernel)
set_option maxRecDepth 20000 in
theorem gX10_purse_X1_lowest_u174X6 : GoodIn wsX10_purse (va_wsU RX10 174 RX6 "FairSeats$Fractions" ⟨"FairSeats$Purses", "lowest", "(II)J"⟩ yX1_lowest wsX1_lowest) := goodIn_app (goodIn_of _ (by decide +kernel)) ggX10_purse_X1_lowest
theorem dX10_purse_0 : decode cX10_purse 0 = .ok (.aload_n 0, 1) := by decide +kernel
theorem dX10_purse_1 : decode cX10_purse 1 = .ok (.iload_n 1, 1) := by decide +kernel
theorem dX10_purse_2 : decode cX10_purse 2 = .ok (.iload_n 2, 1) := by decide +kernel
theorem dX10_purse_3 : decode cX10_purse 3 = .ok (.iload_n 3, 1) := by decide +kernel
theorem dX10_purse_4 : decode cX10_purse 4 = .ok (.invokevirtual 146, 3) := by decide +kernel
theorem dX10_purse_7 : decode cX10_purse 7 = .ok (.istore 4, 2) := by decide +kernel
theorem dX10_purse_9 : decode cX10_purse 9 = .ok (.iload 4, 2) := by decide +kernel
theorem dX10_purse_11 : decode cX10_purse 11 = .ok (.ifCond .eq 11, 3) := by decide +kernel
theorem dX10_purse_14 : decode cX10_purse 14 = .ok (.ldc2_w 150, 3) := by decide +kernel
theorem dX10_purse_17 : decode cX10_purse 17 = .ok (.iload 4, 2) := by decide +kernel
theorem dX10_purse_19 : decode cX10_purse 19 = .ok (.i2l, 1) := by decide +kernel
theorem dX10_purse_20 : decode cX10_purse 20 = .ok (.ladd, 1) := by decide +kernel
theorem dX10_purse_21 : decode cX10_purse 21 = .ok (.lreturn, 1) := by decide +kernel
theorem dX10_purse_22 : decode cX10_purse 22 = .ok (.aload_n 0, 1) := by decide +kernel
theorem dX10_purse_23 : decode cX10_purse 23 = .ok (.getfield 61, 3) := by decide +kernel
theorem dX10_purse_26 : decode cX10_purse 26 = .ok (.aload_n 0, 1) := by decide +kernel
theorem dX10_purse_27 : decode cX10_purse 27 = .ok (.getfield 21, 3) := by decide +kernel
theorem dX10_purse_30 : decode cX10_purse 30 = .ok (.aload_n 0, 1) := by decide +kernel
theorem dX10_purse_31 : decode cX10_purse 31 = .ok (.getfield 65, 3) := by decide +kernel
theorem dX10_purse_34 : decode cX10_purse 34 = .ok (.iload_n 2, 1) := by decide +kernel
theorem dX10_purse_35 : decode cX10_purse 35 = .ok (.invokevirtual 166, 3) := by decide +kernel
theorem dX10_purse_38 : decode cX10_purse 38 = .ok (.aload_n 0, 1) := by decide +kernel
theorem dX10_purse_39 : decode cX10_purse 39 = .ok (.getfield 61, 3) := by decide +kernel
theorem dX10_purse_42 : decode cX10_purse 42 = .ok (.getfield 170, 3) := by decide +kernel
theorem dX10_purse_45 : decode cX10_purse 45 = .ok (.iload_n 1, 1) := by decide +kernel
theorem dX10_purse_46 : decode cX10_purse 46 = .ok (.iload_n 3, 1) := by decide +kernel
theorem dX10_purse_47 : decode cX10_purse 47 = .ok (.invokevirtual 174, 3) := by decide +kernel
theorem dX10_purse_50 : decode cX10_purse 50 = .ok (.lreturn, 1) := by decide +kernel
set_option maxRecDepth 20000 in
theorem ggX10_paid_X8_byPurses : GoodIn wsX10_paid wsX8_byPurses := goodIn_r _ [9, 10, 11, 12, 13, 14, 15, 8, 16, 17, 18, 19, 20, 21, 22, 23, 24, 25, 26, 27, 28, 29, 30, 31, 32, 33, 34, 35, 36, 37, 38, 39, 40, 41, 42, 43, 44, 45, 46, 47, 48, 49, 50, 51, 52, 53, 54, 55, 56, 57, 58, 59, 60, 61, 62, 63, 64, 65, 66, 67, 68, 69, 70, 71, 72, 73, 74, 75, 76, 77, 78, 79, 80, 81, 82, 83, 84, 85, 86, 87, 88, 89, 90, 91, 92, 93, 94, 104, 105, 106, 107, 108, 109, 110, 111, 112, 113, 114, 115, 116, 117, 118, 119, 120] (by decide +kernel) (by decide +kernel)
set_option maxRecDepth 20000 in
theorem gX10_paid_X8_byPurses : GoodIn wsX10_paid (wsV RX10 166 RX8 yX8_byPurses wsX8_byPurses) := goodIn_app (goodIn_of _ (by decide +kernel)) ggX10_paid_X8_byPurses
theorem dX10_paid_0 : decode cX10_paid 0 = .ok (.aload_n 0, 1) := by decide +kernel
theorem dX10_paid_1 : decode cX10_paid 1 = .ok (.getfield 61, 3) := by decide +kernel
theorem dX10_paid_4 : decode cX10_paid 4 = .ok (.aload_n 0, 1) := by decide +kernel
theorem dX10_paid_5 : decode cX10_paid 5 = .ok (.getfield 21, 3) := by decide +kernel
theorem dX10_paid_8 : decode cX10_paid 8 = .ok (.aload_n 0, 1) := by decide +kernel
theorem dX10_paid_9 : decode cX10_paid 9 = .ok (.getfield 65, 3) := by decide +kernel
theorem dX10_paid_12 : decode cX10_paid 12 = .ok (.aload_n 0, 1) := by decide +kernel
theorem dX10_paid_13 : decode cX10_paid 13 = .ok (.getfield 65, 3) := by decide +kernel
theorem dX10_paid_16 : decode cX10_paid 16 = .ok (.invokevirtual 166, 3) := by decide +kernel
theorem dX10_paid_19 : decode cX10_paid 19 = .ok (.aload_n 0, 1) := by decide +kernel
theorem dX10_paid_20 : decode cX10_paid 20 = .ok (.getfield 61, 3) := by decide +kernel
theorem dX10_paid_23 : decode cX10_paid 23 = .ok (.getfield 177, 3) := by decide +kernel
theorem dX10_paid_26 : decode cX10_paid 26 = .ok (.ireturn, 1) := by decide +kernel
set_option maxRecDepth 20000 in
theorem ggX10_owed_X2_gather : GoodIn wsX10_owed wsX2_gather := goodIn_r _ [10, 11, 12, 13, 14, 15, 16, 17, 18, 19, 20, 21, 22, 23, 24, 25, 26, 27, 28, 29, 30, 31, 32, 9, 33, 34, 35, 36, 37, 38, 39, 40, 50, 51, 52, 53, 54, 55, 56, 57, 58, 59, 60, 61, 62] (by decide +kernel) (by decide +kernel)
set_option maxRecDepth 20000 in
theorem gX10_owed_X2_gather : GoodIn wsX10_owed (wsV RX10 180 RX2 yX2_gather wsX2_gather) := goodIn_app (goodIn_of _ (by decide +kernel)) ggX10_owed_X2_gather
theorem dX10_owed_0 : decode cX10_owed 0 = .ok (.iload_n 2, 1) := by decide +kernel
theorem dX10_owed_1 : decode cX10_owed 1 = .ok (.iconst 1, 1) := by decide +kernel
theorem dX10_owed_2 : decode cX10_owed 2 = .ok (.if_icmp .lt 26, 3) := by decide +kernel
theorem dX10_owed_5 : decode cX10_owed 5 = .ok (.iload_n 2, 1) := by decide +kernel
theorem dX10_owed_6 : decode cX10_owed 6 = .ok (.iconst 4, 1) := by decide +kernel
theorem dX10_owed_7 : decode cX10_owed 7 = .ok (.if_icmp .gt 21, 3) := by decide +kernel
theorem dX10_owed_10 : decode cX10_owed 10 = .ok (.iload_n 1, 1) := by decide +kernel
theorem dX10_owed_11 : decode cX10_owed 11 = .ok (.iconst 1, 1) := by decide +kernel
theorem dX10_owed_12 : decode cX10_owed 12 = .ok (.if_icmp .lt 16, 3) := by decide +kernel
theorem dX10_owed_15 : decode cX10_owed 15 = .ok (.iload_n 1, 1) := by decide +kernel
theorem dX10_owed_16 : decode cX10_owed 16 = .ok (.iconst 1, 1) := by decide +kernel
theorem dX10_owed_17 : decode cX10_owed 17 = .ok (.aload_n 0, 1) := by decide +kernel
theorem dX10_owed_18 : decode cX10_owed 18 = .ok (.getfield 21, 3) := by decide +kernel
theorem dX10_owed_21 : decode cX10_owed 21 = .ok (.getfield 76, 3) := by decide +kernel
theorem dX10_owed_24 : decode cX10_owed 24 = .ok (.ishl, 1) := by decide +kernel
theorem dX10_owed_25 : decode cX10_owed 25 = .ok (.if_icmp .lt 6, 3) := by decide +kernel
theorem dX10_owed_28 : decode cX10_owed 28 = .ok (.bipush (-2), 2) := by decide +kernel
theorem dX10_owed_30 : decode cX10_owed 30 = .ok (.ireturn, 1) := by decide +kernel
theorem dX10_owed_31 : decode cX10_owed 31 = .ok (.aload_n 0, 1) := by decide +kernel
theorem dX10_owed_32 : decode cX10_owed 32 = .ok (.getfield 52, 3) := by decide +kernel
theorem dX10_owed_35 : decode cX10_owed 35 = .ok (.aload_n 0, 1) := by decide +kernel
theorem dX10_owed_36 : decode cX10_owed 36 = .ok (.getfield 21, 3) := by decide +kernel
theorem dX10_owed_39 : decode cX10_owed 39 = .ok (.aload_n 0, 1) := by decide +kernel
theorem dX10_owed_40 : decode cX10_owed 40 = .ok (.getfield 65, 3) := by decide +kernel
theorem dX10_owed_43 : decode cX10_owed 43 = .ok (.invokevirtual 180, 3) := by decide +kernel
theorem dX10_owed_46 : decode cX10_owed 46 = .ok (.iload_n 2, 1) := by decide +kernel
theorem dX10_owed_47 : decode cX10_owed 47 = .ok (.aload_n 0, 1) := by decide +kernel
theorem dX10_owed_48 : decode cX10_owed 48 = .ok (.getfield 52, 3) := by decide +kernel
theorem dX10_owed_51 : decode cX10_owed 51 = .ok (.getfield 183, 3) := by decide +kernel
theorem dX10_owed_54 : decode cX10_owed 54 = .ok (.iload_n 1, 1) := by decide +kernel
theorem dX10_owed_55 : decode cX10_owed 55 = .ok (.iaload, 1) := by decide +kernel
theorem dX10_owed_56 : decode cX10_owed 56 = .ok (.if_icmp .gt 7, 3) := by decide +kernel
theorem dX10_owed_59 : decode cX10_owed 59 = .ok (.iconst 1, 1) := by decide +kernel
theorem dX10_owed_60 : decode cX10_owed 60 = .ok (.goto 4, 3) := by decide +kernel
theorem dX10_owed_63 : decode cX10_owed 63 = .ok (.iconst 0, 1) := by decide +kernel
theorem dX10_owed_64 : decode cX10_owed 64 = .ok (.ireturn, 1) := by decide +kernel
set_option maxRecDepth 20000 in
theorem ggX10_breach_X10_isLaw : GoodIn wsX10_breach wsX10_isLaw := goodIn_r _ [9] (by decide +kernel) (by decide +kernel)
set_option maxRecDepth 20000 in
theorem gX10_breach_X10_isLaw : GoodIn wsX10_breach (va_wsS RX10 186 yX10_isLaw wsX10_isLaw) := goodIn_app (goodIn_of _ (by decide +kernel)) ggX10_breach_X10_isLaw
set_option maxRecDepth 20000 in
theorem ggX10_breach_X10_isCommittee : GoodIn wsX10_breach wsX10_isCommittee := goodIn_r _ [13, 3, 14, 15, 8, 16, 17, 18, 19, 20, 21, 22, 23, 67, 68, 69, 70, 71, 72, 73, 74, 75] (by decide +kernel) (by decide +kernel)
set_option maxRecDepth 20000 in
theorem gX10_breach_X10_isCommittee : GoodIn wsX10_breach (wsV RX10 118 RX10 yX10_isCommittee wsX10_isCommittee) := goodIn_app (goodIn_of _ (by decide +kernel)) ggX10_breach_X10_isCommittee
set_option maxRecDepth 20000 in
theorem ggX10_breach_X2_gather : GoodIn wsX10_breach wsX2_gather := goodIn_r _ [28, 29, 30, 31, 32, 33, 34, 35, 36, 37, 38, 39, 40, 41, 42, 43, 44, 45, 46, 47, 48, 49, 50, 27, 51, 52, 18, 19, 20, 21, 22, 23, 85, 86, 87, 88, 76, 77, 78, 79, 80, 81, 82, 83, 84] (by decide +kernel) (by decide +kernel)
set_option maxRecDepth 20000 in
theorem gX10_breach_X2_gather : GoodIn wsX10_breach (wsV RX10 180 RX2 yX2_gather wsX2_gather) := goodIn_app (goodIn_of _ (by decide +kernel)) ggX10_breach_X2_gather
set_option maxRecDepth 20000 in
theorem ggX10_breach_X2_seekBreach : GoodIn wsX10_breach wsX2_seekBreach := goodIn_r _ [56, 57, 58, 34, 38, 59, 41, 60, 61, 62, 27, 63, 36, 64, 65, 32, 66, 49, 50, 51, 52, 18, 19, 20, 21, 22, 23, 76, 77, 78, 79, 80, 81, 82, 83, 84] (by decide +kernel) (by decide +kernel)
set_option maxRecDepth 20000 in
theorem gX10_breach_X2_seekBreach : GoodIn wsX10_breach (wsV RX10 189 RX2 yX2_seekBreach wsX2_seekBreach) := goodIn_app (goodIn_of _ (by decide +kernel)) ggX10_breach_X2_seekBreach
theorem dX10_breach_0 : decode cX10_breach 0 = .ok (.iload_n 1, 1) := by decide +kernel
theorem dX10_breach_1 : decode cX10_breach 1 = .ok (.invokestatic 186, 3) := by decide +kernel
theorem dX10_breach_4 : decode cX10_breach 4 = .ok (.ifCond .ne 5, 3) := by decide +kernel
theorem dX10_breach_7 : decode cX10_breach 7 = .ok (.iconst (-1), 1) := by decide +kernel
theorem dX10_breach_8 : decode cX10_breach 8 = .ok (.ireturn, 1) := by decide +kernel
theorem dX10_breach_9 : decode cX10_breach 9 = .ok (.aload_n 0, 1) := by decide +kernel
theorem dX10_breach_10 : decode cX10_breach 10 = .ok (.iload_n 2, 1) := by decide +kernel
theorem dX10_breach_11 : decode cX10_breach 11 = .ok (.invokevirtual 118, 3) := by decide +kernel
theorem dX10_breach_14 : decode cX10_breach 14 = .ok (.ifCond .eq 12, 3) := by decide +kernel
theorem dX10_breach_17 : decode cX10_breach 17 = .ok (.iload_n 3, 1) := by decide +kernel
theorem dX10_breach_18 : decode cX10_breach 18 = .ok (.ifCond .lt 8, 3) := by decide +kernel
theorem dX10_breach_21 : decode cX10_breach 21 = .ok (.iload_n 3, 1) := by decide +kernel
theorem dX10_breach_22 : decode cX10_breach 22 = .ok (.iconst 2, 1) := by decide +kernel
theorem dX10_breach_23 : decode cX10_breach 23 = .ok (.if_icmp .le 6, 3) := by decide +kernel
theorem dX10_breach_26 : decode cX10_breach 26 = .ok (.bipush (-2), 2) := by decide +kernel
theorem dX10_breach_28 : decode cX10_breach 28 = .ok (.ireturn, 1) := by decide +kernel
theorem dX10_breach_29 : decode cX10_breach 29 = .ok (.aload_n 0, 1) := by decide +kernel
theorem dX10_breach_30 : decode cX10_breach 30 = .ok (.getfield 52, 3) := by decide +kernel
theorem dX10_breach_33 : decode cX10_breach 33 = .ok (.aload_n 0, 1) := by decide +kernel
theorem dX10_breach_34 : decode cX10_breach 34 = .ok (.getfield 21, 3) := by decide +kernel
theorem dX10_breach_37 : decode cX10_breach 37 = .ok (.aload_n 0, 1) := by decide +kernel
theorem dX10_breach_38 : decode cX10_breach 38 = .ok (.getfield 65, 3) := by decide +kernel
theorem dX10_breach_41 : decode cX10_breach 41 = .ok (.invokevirtual 180, 3) := by decide +kernel
theorem dX10_breach_44 : decode cX10_breach 44 = .ok (.aload_n 0, 1) := by decide +kernel
theorem dX10_breach_45 : decode cX10_breach 45 = .ok (.getfield 52, 3) := by decide +kernel
theorem dX10_breach_48 : decode cX10_breach 48 = .ok (.iload_n 1, 1) := by decide +kernel
theorem dX10_breach_49 : decode cX10_breach 49 = .ok (.iload_n 2, 1) := by decide +kernel
theorem dX10_breach_50 : decode cX10_breach 50 = .ok (.invokevirtual 189, 3) := by decide +kernel
theorem dX10_breach_53 : decode cX10_breach 53 = .ok (.iload_n 3, 1) := by decide +kernel
theorem dX10_breach_54 : decode cX10_breach 54 = .ok (.ifCond .ne 21, 3) := by decide +kernel
theorem dX10_breach_57 : decode cX10_breach 57 = .ok (.aload_n 0, 1) := by decide +kernel
theorem dX10_breach_58 : decode cX10_breach 58 = .ok (.getfield 52, 3) := by decide +kernel
theorem dX10_breach_61 : decode cX10_breach 61 = .ok (.getfield 192, 3) := by decide +kernel
theorem dX10_breach_64 : decode cX10_breach 64 = .ok (.bipush (-6), 2) := by decide +kernel
theorem dX10_breach_66 : decode cX10_breach 66 = .ok (.if_icmp .ne 7, 3) := by decide +kernel
theorem dX10_breach_69 : decode cX10_breach 69 = .ok (.iconst 0, 1) := by decide +kernel
theorem dX10_breach_70 : decode cX10_breach 70 = .ok (.goto 4, 3) := by decide +kernel
theorem dX10_breach_73 : decode cX10_breach 73 = .ok (.iconst 1, 1) := by decide +kernel
theorem dX10_breach_74 : decode cX10_breach 74 = .ok (.ireturn, 1) := by decide +kernel
theorem dX10_breach_75 : decode cX10_breach 75 = .ok (.iload_n 3, 1) := by decide +kernel
theorem dX10_breach_76 : decode cX10_breach 76 = .ok (.iconst 1, 1) := by decide +kernel
theorem dX10_breach_77 : decode cX10_breach 77 = .ok (.if_icmp .ne 13, 3) := by decide +kernel
theorem dX10_breach_80 : decode cX10_breach 80 = .ok (.aload_n 0, 1) := by decide +kernel
theorem dX10_breach_81 : decode cX10_breach 81 = .ok (.getfield 52, 3) := by decide +kernel
theorem dX10_breach_84 : decode cX10_breach 84 = .ok (.getfield 192, 3) := by decide +kernel
theorem dX10_breach_87 : decode cX10_breach 87 = .ok (.goto 10, 3) := by decide +kernel
theorem dX10_breach_90 : decode cX10_breach 90 = .ok (.aload_n 0, 1) := by decide +kernel
theorem dX10_breach_91 : decode cX10_breach 91 = .ok (.getfield 52, 3) := by decide +kernel
theorem dX10_breach_94 : decode cX10_breach 94 = .ok (.getfield 195, 3) := by decide +kernel
theorem dX10_breach_97 : decode cX10_breach 97 = .ok (.ireturn, 1) := by decide +kernel
set_option maxRecDepth 20000 in
theorem ggX10_kept_X10_isLaw : GoodIn wsX10_kept wsX10_isLaw := goodIn_r _ [6] (by decide +kernel) (by decide +kernel)
set_option maxRecDepth 20000 in
theorem gX10_kept_X10_isLaw : GoodIn wsX10_kept (va_wsS RX10 186 yX10_isLaw wsX10_isLaw) := goodIn_app (goodIn_of _ (by decide +kernel)) ggX10_kept_X10_isLaw
set_option maxRecDepth 20000 in
theorem ggX10_kept_X10_gatherKept : GoodIn wsX10_kept wsX10_gatherKept := goodIn_r _ [10, 1, 11, 12, 13, 14, 15, 16, 17, 18, 19, 20, 21, 22, 23, 24, 25, 26, 27, 28, 29, 30, 31, 32, 33, 34, 35, 36, 37, 38, 39, 40, 41, 42, 43, 44, 45, 46, 47, 48, 49, 50, 51, 52, 53, 54, 55, 56, 57, 58, 59, 60, 61, 62, 63, 64, 65, 66, 67, 68, 69, 70, 71, 72, 73, 74, 75, 76, 77, 78, 79, 80, 81, 82, 83, 84, 85, 86, 87, 88, 89, 90, 95, 96, 97, 98, 99, 100, 101, 102, 103, 104, 105, 106, 107, 108, 109, 110, 111, 112, 113, 114, 115, 116, 117, 118, 119, 120, 121, 122] (by decide +kernel) (by decide +kernel)
set_option maxRecDepth 20000 in
theorem gX10_kept_X10_gatherKept : GoodIn wsX10_kept (wsV RX10 198 RX10 yX10_gatherKept wsX10_gatherKept) := goodIn_app (goodIn_of _ (by decide +kernel)) ggX10_kept_X10_gatherKept
set_option maxRecDepth 20000 in
theorem ggX10_kept_X0_at : GoodIn wsX10_kept wsX0_at := goodIn_r _ [94, 20, 21, 104, 105] (by decide +kernel) (by decide +kernel)
set_option maxRecDepth 20000 in
theorem gX10_kept_X0_at : GoodIn wsX10_kept (wsV RX10 202 RX0 yX0_at wsX0_at) := goodIn_app (goodIn_of _ (by decide +kernel)) ggX10_kept_X0_at
theorem dX10_kept_0 : decode cX10_kept 0 = .ok (.iload_n 1, 1) := by decide +kernel
theorem dX10_kept_1 : decode cX10_kept 1 = .ok (.invokestatic 186, 3) := by decide +kernel
theorem dX10_kept_4 : decode cX10_kept 4 = .ok (.ifCond .ne 5, 3) := by decide +kernel
theorem dX10_kept_7 : decode cX10_kept 7 = .ok (.iconst (-1), 1) := by decide +kernel
theorem dX10_kept_8 : decode cX10_kept 8 = .ok (.ireturn, 1) := by decide +kernel
theorem dX10_kept_9 : decode cX10_kept 9 = .ok (.aload_n 0, 1) := by decide +kernel
theorem dX10_kept_10 : decode cX10_kept 10 = .ok (.iload_n 1, 1) := by decide +kernel
theorem dX10_kept_11 : decode cX10_kept 11 = .ok (.invokevirtual 198, 3) := by decide +kernel
theorem dX10_kept_14 : decode cX10_kept 14 = .ok (.iload_n 2, 1) := by decide +kernel
theorem dX10_kept_15 : decode cX10_kept 15 = .ok (.iconst (-1), 1) := by decide +kernel
theorem dX10_kept_16 : decode cX10_kept 16 = .ok (.if_icmp .ne 13, 3) := by decide +kernel
theorem dX10_kept_19 : decode cX10_kept 19 = .ok (.aload_n 0, 1) := by decide +kernel
theorem dX10_kept_20 : decode cX10_kept 20 = .ok (.getfield 45, 3) := by decide +kernel
theorem dX10_kept_23 : decode cX10_kept 23 = .ok (.getfield 201, 3) := by decide +kernel
theorem dX10_kept_26 : decode cX10_kept 26 = .ok (.goto 11, 3) := by decide +kernel
theorem dX10_kept_29 : decode cX10_kept 29 = .ok (.aload_n 0, 1) := by decide +kernel
theorem dX10_kept_30 : decode cX10_kept 30 = .ok (.getfield 45, 3) := by decide +kernel
theorem dX10_kept_33 : decode cX10_kept 33 = .ok (.iload_n 2, 1) := by decide +kernel
theorem dX10_kept_34 : decode cX10_kept 34 = .ok (.invokevirtual 202, 3) := by decide +kernel
theorem dX10_kept_37 : decode cX10_kept 37 = .ok (.ireturn, 1) := by decide +kernel
set_option maxRecDepth 20000 in
theorem ggX10_least_X0_gather : GoodIn wsX10_least wsX0_gather := goodIn_r _ [9, 10, 11, 12, 13, 14, 15, 16, 17, 18, 19, 20, 21, 22, 23, 24, 25, 26, 27, 28, 29, 30, 31, 32, 55, 56, 57, 58, 59, 60] (by decide +kernel) (by decide +kernel)
set_option maxRecDepth 20000 in
theorem gX10_least_X0_gather : GoodIn wsX10_least (wsV RX10 205 RX0 yX0_gather wsX0_gather) := goodIn_app (goodIn_of _ (by decide +kernel)) ggX10_least_X0_gather
set_option maxRecDepth 20000 in
theorem ggX10_least_X0_leastWronged : GoodIn wsX10_least wsX0_leastWronged := goodIn_r _ [36, 10, 11, 37, 38, 39, 40, 41, 42, 43, 44, 55, 56, 61, 62, 63, 64] (by decide +kernel) (by decide +kernel)
set_option maxRecDepth 20000 in
theorem gX10_least_X0_leastWronged : GoodIn wsX10_least (wsV RX10 208 RX0 yX0_leastWronged wsX0_leastWronged) := goodIn_app (goodIn_of _ (by decide +kernel)) ggX10_least_X0_leastWronged
set_option maxRecDepth 20000 in
theorem ggX10_least_X3_wronged : GoodIn wsX10_least wsX3_wronged := goodIn_r _ [41, 42, 43, 44, 61, 62, 63, 64] (by decide +kernel) (by decide +kernel)
set_option maxRecDepth 20000 in
theorem gX10_least_X3_wronged : GoodIn wsX10_least (wsV RX10 128 RX3 yX3_wronged wsX3_wronged) := goodIn_app (goodIn_of _ (by decide +kernel)) ggX10_least_X3_wronged
theorem dX10_least_0 : decode cX10_least 0 = .ok (.iload_n 1, 1) := by decide +kernel
theorem dX10_least_1 : decode cX10_least 1 = .ok (.ifCond .lt 8, 3) := by decide +kernel
theorem dX10_least_4 : decode cX10_least 4 = .ok (.iload_n 1, 1) := by decide +kernel
theorem dX10_least_5 : decode cX10_least 5 = .ok (.iconst 1, 1) := by decide +kernel
theorem dX10_least_6 : decode cX10_least 6 = .ok (.if_icmp .le 6, 3) := by decide +kernel
theorem dX10_least_9 : decode cX10_least 9 = .ok (.bipush (-2), 2) := by decide +kernel
theorem dX10_least_11 : decode cX10_least 11 = .ok (.ireturn, 1) := by decide +kernel
theorem dX10_least_12 : decode cX10_least 12 = .ok (.aload_n 0, 1) := by decide +kernel
theorem dX10_least_13 : decode cX10_least 13 = .ok (.getfield 45, 3) := by decide +kernel
theorem dX10_least_16 : decode cX10_least 16 = .ok (.aload_n 0, 1) := by decide +kernel
theorem dX10_least_17 : decode cX10_least 17 = .ok (.getfield 38, 3) := by decide +kernel
theorem dX10_least_20 : decode cX10_least 20 = .ok (.aload_n 0, 1) := by decide +kernel
theorem dX10_least_21 : decode cX10_least 21 = .ok (.getfield 65, 3) := by decide +kernel
theorem dX10_least_24 : decode cX10_least 24 = .ok (.invokevirtual 205, 3) := by decide +kernel
theorem dX10_least_27 : decode cX10_least 27 = .ok (.aload_n 0, 1) := by decide +kernel
theorem dX10_least_28 : decode cX10_least 28 = .ok (.getfield 45, 3) := by decide +kernel
theorem dX10_least_31 : decode cX10_least 31 = .ok (.aload_n 0, 1) := by decide +kernel
theorem dX10_least_32 : decode cX10_least 32 = .ok (.getfield 21, 3) := by decide +kernel
theorem dX10_least_35 : decode cX10_least 35 = .ok (.invokevirtual 208, 3) := by decide +kernel
theorem dX10_least_38 : decode cX10_least 38 = .ok (.istore_n 2, 1) := by decide +kernel
theorem dX10_least_39 : decode cX10_least 39 = .ok (.iload_n 2, 1) := by decide +kernel
theorem dX10_least_40 : decode cX10_least 40 = .ok (.bipush (-6), 2) := by decide +kernel
theorem dX10_least_42 : decode cX10_least 42 = .ok (.if_icmp .eq 7, 3) := by decide +kernel
theorem dX10_least_45 : decode cX10_least 45 = .ok (.iload_n 1, 1) := by decide +kernel
theorem dX10_least_46 : decode cX10_least 46 = .ok (.ifCond .ne 7, 3) := by decide +kernel
theorem dX10_least_49 : decode cX10_least 49 = .ok (.iload_n 2, 1) := by decide +kernel
theorem dX10_least_50 : decode cX10_least 50 = .ok (.goto 11, 3) := by decide +kernel
theorem dX10_least_53 : decode cX10_least 53 = .ok (.aload_n 0, 1) := by decide +kernel
theorem dX10_least_54 : decode cX10_least 54 = .ok (.getfield 21, 3) := by decide +kernel
theorem dX10_least_57 : decode cX10_least 57 = .ok (.iload_n 2, 1) := by decide +kernel
theorem dX10_least_58 : decode cX10_least 58 = .ok (.invokevirtual 128, 3) := by decide +kernel
theorem dX10_least_61 : decode cX10_least 61 = .ok (.ireturn, 1) := by decide +kernel
set_option maxRecDepth 20000 in
theorem ggX10_nearest_X10_isLaw : GoodIn wsX10_nearest wsX10_isLaw := goodIn_r _ [5] (by decide +kernel) (by decide +kernel)
set_option maxRecDepth 20000 in
theorem gX10_nearest_X10_isLaw : GoodIn wsX10_nearest (va_wsS RX10 186 yX10_isLaw wsX10_isLaw) := goodIn_app (goodIn_of _ (by decide +kernel)) ggX10_nearest_X10_isLaw
set_option maxRecDepth 20000 in
theorem ggX10_nearest_X10_isCommittee : GoodIn wsX10_nearest wsX10_isCommittee := goodIn_r _ [9, 10, 11, 12, 4, 13, 14, 15, 16, 17, 18, 19, 20, 102, 103, 104, 105, 106, 107, 108, 109, 110] (by decide +kernel) (by decide +kernel)
set_option maxRecDepth 20000 in
theorem gX10_nearest_X10_isCommittee : GoodIn wsX10_nearest (wsV RX10 118 RX10 yX10_isCommittee wsX10_isCommittee) := goodIn_app (goodIn_of _ (by decide +kernel)) ggX10_nearest_X10_isCommittee
set_option maxRecDepth 20000 in
theorem ggX10_nearest_X10_gatherKept : GoodIn wsX10_nearest wsX10_gatherKept := goodIn_r _ [24, 1, 25, 10, 26, 27, 28, 29, 30, 31, 32, 33, 34, 35, 15, 16, 17, 18, 19, 20, 36, 37, 38, 39, 40, 41, 42, 43, 44, 45, 46, 47, 48, 49, 50, 51, 52, 53, 54, 55, 56, 57, 58, 59, 60, 61, 62, 63, 64, 65, 66, 67, 68, 69, 70, 71, 72, 73, 74, 75, 76, 77, 78, 79, 80, 81, 82, 83, 84, 85, 86, 87, 88, 89, 90, 91, 92, 93, 94, 95, 96, 97, 102, 103, 104, 105, 106, 107, 108, 109, 110, 111, 112, 113, 114, 115, 116, 117, 118, 119, 120, 121, 122, 123, 124, 125, 126, 127, 128, 129] (by decide +kernel) (by decide +kernel)
set_option maxRecDepth 20000 in
theorem gX10_nearest_X10_gatherKept : GoodIn wsX10_nearest (wsV RX10 198 RX10 yX10_gatherKept wsX10_gatherKept) := goodIn_app (goodIn_of _ (by decide +kernel)) ggX10_nearest_X10_gatherKept
set_option maxRecDepth 20000 in
theorem ggX10_nearest_X0_closestTo : GoodIn wsX10_nearest wsX0_closestTo := goodIn_r _ [101, 33, 34, 35, 15, 16, 17, 18, 19, 20, 111, 112] (by decide +kernel) (by decide +kernel)
set_option maxRecDepth 20000 in
theorem gX10_nearest_X0_closestTo : GoodIn wsX10_nearest (wsV RX10 212 RX0 yX0_closestTo wsX0_closestTo) := goodIn_app (goodIn_of _ (by decide +kernel)) ggX10_nearest_X0_closestTo
theorem dX10_nearest_0 : decode cX10_nearest 0 = .ok (.iload_n 1, 1) := by decide +kernel
theorem dX10_nearest_1 : decode cX10_nearest 1 = .ok (.invokestatic 186, 3) := by decide +kernel
theorem dX10_nearest_4 : decode cX10_nearest 4 = .ok (.ifCond .ne 5, 3) := by decide +kernel
theorem dX10_nearest_7 : decode cX10_nearest 7 = .ok (.iconst (-1), 1) := by decide +kernel
theorem dX10_nearest_8 : decode cX10_nearest 8 = .ok (.ireturn, 1) := by decide +kernel
theorem dX10_nearest_9 : decode cX10_nearest 9 = .ok (.aload_n 0, 1) := by decide +kernel
theorem dX10_nearest_10 : decode cX10_nearest 10 = .ok (.iload_n 2, 1) := by decide +kernel
theorem dX10_nearest_11 : decode cX10_nearest 11 = .ok (.invokevirtual 118, 3) := by decide +kernel
theorem dX10_nearest_14 : decode cX10_nearest 14 = .ok (.ifCond .ne 6, 3) := by decide +kernel
theorem dX10_nearest_17 : decode cX10_nearest 17 = .ok (.bipush (-2), 2) := by decide +kernel
theorem dX10_nearest_19 : decode cX10_nearest 19 = .ok (.ireturn, 1) := by decide +kernel
theorem dX10_nearest_20 : decode cX10_nearest 20 = .ok (.aload_n 0, 1) := by decide +kernel
theorem dX10_nearest_21 : decode cX10_nearest 21 = .ok (.iload_n 1, 1) := by decide +kernel
theorem dX10_nearest_22 : decode cX10_nearest 22 = .ok (.invokevirtual 198, 3) := by decide +kernel
theorem dX10_nearest_25 : decode cX10_nearest 25 = .ok (.aload_n 0, 1) := by decide +kernel
theorem dX10_nearest_26 : decode cX10_nearest 26 = .ok (.getfield 45, 3) := by decide +kernel
theorem dX10_nearest_29 : decode cX10_nearest 29 = .ok (.iload_n 2, 1) := by decide +kernel
theorem dX10_nearest_30 : decode cX10_nearest 30 = .ok (.invokevirtual 212, 3) := by decide +kernel
theorem dX10_nearest_33 : decode cX10_nearest 33 = .ok (.ireturn, 1) := by decide +kernel
set_option maxRecDepth 20000 in
theorem ggX10_more_X10_isWay : GoodIn wsX10_more wsX10_isWay := goodIn_r _ [7] (by decide +kernel) (by decide +kernel)
set_option maxRecDepth 20000 in
theorem gX10_more_X10_isWay : GoodIn wsX10_more (va_wsS RX10 134 yX10_isWay wsX10_isWay) := goodIn_app (goodIn_of _ (by decide +kernel)) ggX10_more_X10_isWay
set_option maxRecDepth 20000 in
theorem ggX10_more_X10_runWay : GoodIn wsX10_more wsX10_runWay := goodIn_r _ [11, 12, 13, 2, 14, 15, 16, 17, 18, 19, 20, 21, 22, 23, 24, 25, 26, 27, 28, 29, 30, 31, 32, 33, 34, 35, 36, 37, 38, 39, 40, 41, 42, 43, 44, 45, 46, 47, 48, 49, 50, 51, 52, 53, 54, 55, 56, 57, 58, 59, 60, 61, 62, 63, 64, 65, 66, 67, 68, 69, 70, 71, 72, 73, 74, 75, 76, 77, 78, 79, 80, 81, 82, 83, 84, 85, 86, 87, 88, 89, 90, 91, 92, 93, 94, 95, 96, 97, 98, 99, 100, 101, 102, 103, 104, 105, 106, 107, 108, 109, 110, 111, 112, 113, 114, 115, 116, 117, 118, 119, 120, 121, 122, 123, 124, 125, 126, 127, 128, 129, 130, 131, 132, 133, 134, 135, 136, 137, 138, 139, 140, 141, 142, 143, 144, 145, 146, 147, 148, 149, 150, 151, 152, 153, 154, 155, 156, 157, 158, 159, 160, 161, 162, 163, 164, 165, 166, 167, 168, 169, 170, 171, 172, 173, 174, 175, 176, 177, 178, 179, 180, 181, 182, 183, 184, 185, 186, 187, 188, 189, 190, 191, 192, 193, 194, 195, 196, 197, 198, 199, 200, 201, 202, 203, 211, 212, 213, 214, 215, 216, 204, 205, 206, 207, 208, 209, 210, 217, 218, 219, 220, 221, 222, 223, 224, 225, 226, 227, 228] (by decide +kernel) (by decide +kernel)
set_option maxRecDepth 20000 in
theorem gX10_more_X10_runWay : GoodIn wsX10_more (wsV RX10 137 RX10 yX10_runWay wsX10_runWay) := goodIn_app (goodIn_of _ (by decide +kernel)) ggX10_more_X10_runWay
theorem dX10_more_0 : decode cX10_more 0 = .ok (.iload_n 1, 1) := by decide +kernel
theorem dX10_more_1 : decode cX10_more 1 = .ok (.invokestatic 134, 3) := by decide +kernel
theorem dX10_more_4 : decode cX10_more 4 = .ok (.ifCond .ne 5, 3) := by decide +kernel
theorem dX10_more_7 : decode cX10_more 7 = .ok (.iconst (-1), 1) := by decide +kernel
theorem dX10_more_8 : decode cX10_more 8 = .ok (.ireturn, 1) := by decide +kernel
theorem dX10_more_9 : decode cX10_more 9 = .ok (.iload_n 2, 1) := by decide +kernel
theorem dX10_more_10 : decode cX10_more 10 = .ok (.ifCond .lt 8, 3) := by decide +kernel
theorem dX10_more_13 : decode cX10_more 13 = .ok (.iload_n 2, 1) := by decide +kernel
theorem dX10_more_14 : decode cX10_more 14 = .ok (.iconst 1, 1) := by decide +kernel
theorem dX10_more_15 : decode cX10_more 15 = .ok (.if_icmp .le 6, 3) := by decide +kernel
theorem dX10_more_18 : decode cX10_more 18 = .ok (.bipush (-2), 2) := by decide +kernel
theorem dX10_more_20 : decode cX10_more 20 = .ok (.ireturn, 1) := by decide +kernel
theorem dX10_more_21 : decode cX10_more 21 = .ok (.aload_n 0, 1) := by decide +kernel
theorem dX10_more_22 : decode cX10_more 22 = .ok (.getfield 65, 3) := by decide +kernel
theorem dX10_more_25 : decode cX10_more 25 = .ok (.iconst 4, 1) := by decide +kernel
theorem dX10_more_26 : decode cX10_more 26 = .ok (.if_icmp .lt 6, 3) := by decide +kernel
theorem dX10_more_29 : decode cX10_more 29 = .ok (.bipush (-3), 2) := by decide +kernel
theorem dX10_more_31 : decode cX10_more 31 = .ok (.ireturn, 1) := by decide +kernel
theorem dX10_more_32 : decode cX10_more 32 = .ok (.aload_n 0, 1) := by decide +kernel
theorem dX10_more_33 : decode cX10_more 33 = .ok (.iload_n 1, 1) := by decide +kernel
theorem dX10_more_34 : decode cX10_more 34 = .ok (.aload_n 0, 1) := by decide +kernel
theorem dX10_more_35 : decode cX10_more 35 = .ok (.getfield 65, 3) := by decide +kernel
theorem dX10_more_38 : decode cX10_more 38 = .ok (.invokevirtual 137, 3) := by decide +kernel
theorem dX10_more_41 : decode cX10_more 41 = .ok (.aload_n 0, 1) := by decide +kernel
theorem dX10_more_42 : decode cX10_more 42 = .ok (.getfield 61, 3) := by decide +kernel
theorem dX10_more_45 : decode cX10_more 45 = .ok (.getfield 140, 3) := by decide +kernel
theorem dX10_more_48 : decode cX10_more 48 = .ok (.istore_n 3, 1) := by decide +kernel
theorem dX10_more_49 : decode cX10_more 49 = .ok (.aload_n 0, 1) := by decide +kernel
theorem dX10_more_50 : decode cX10_more 50 = .ok (.iload_n 1, 1) := by decide +kernel
theorem dX10_more_51 : decode cX10_more 51 = .ok (.aload_n 0, 1) := by decide +kernel
theorem dX10_more_52 : decode cX10_more 52 = .ok (.getfield 65, 3) := by decide +kernel
theorem dX10_more_55 : decode cX10_more 55 = .ok (.iconst 1, 1) := by decide +kernel
theorem dX10_more_56 : decode cX10_more 56 = .ok (.iadd, 1) := by decide +kernel
theorem dX10_more_57 : decode cX10_more 57 = .ok (.invokevirtual 137, 3) := by decide +kernel
theorem dX10_more_60 : decode cX10_more 60 = .ok (.aload_n 0, 1) := by decide +kernel
theorem dX10_more_61 : decode cX10_more 61 = .ok (.getfield 61, 3) := by decide +kernel
theorem dX10_more_64 : decode cX10_more 64 = .ok (.getfield 140, 3) := by decide +kernel
theorem dX10_more_67 : decode cX10_more 67 = .ok (.istore 4, 2) := by decide +kernel
theorem dX10_more_69 : decode cX10_more 69 = .ok (.iload_n 2, 1) := by decide +kernel
theorem dX10_more_70 : decode cX10_more 70 = .ok (.ifCond .ne 12, 3) := by decide +kernel
theorem dX10_more_73 : decode cX10_more 73 = .ok (.iload 4, 2) := by decide +kernel
theorem dX10_more_75 : decode cX10_more 75 = .ok (.iload_n 3, 1) := by decide +kernel
theorem dX10_more_76 : decode cX10_more 76 = .ok (.iconst (-1), 1) := by decide +kernel
theorem dX10_more_77 : decode cX10_more 77 = .ok (.ixor, 1) := by decide +kernel
theorem dX10_more_78 : decode cX10_more 78 = .ok (.iand, 1) := by decide +kernel
theorem dX10_more_79 : decode cX10_more 79 = .ok (.goto 9, 3) := by decide +kernel
theorem dX10_more_82 : decode cX10_more 82 = .ok (.iload_n 3, 1) := by decide +kernel
theorem dX10_more_83 : decode cX10_more 83 = .ok (.iload 4, 2) := by decide +kernel
theorem dX10_more_85 : decode cX10_more 85 = .ok (.iconst (-1), 1) := by decide +kernel
theorem dX10_more_86 : decode cX10_more 86 = .ok (.ixor, 1) := by decide +kernel
theorem dX10_more_87 : decode cX10_more 87 = .ok (.iand, 1) := by decide +kernel
theorem dX10_more_88 : decode cX10_more 88 = .ok (.ireturn, 1) := by decide +kernel
set_option maxRecDepth 20000 in
theorem ggX10_turn_X10_isWay : GoodIn wsX10_turn wsX10_isWay := goodIn_r _ [11] (by decide +kernel) (by decide +kernel)
set_option maxRecDepth 20000 in
theorem gX10_turn_X10_isWay : GoodIn wsX10_turn (va_wsS RX10 134 yX10_isWay wsX10_isWay) := goodIn_app (goodIn_of _ (by decide +kernel)) ggX10_turn_X10_isWay
set_option maxRecDepth 20000 in
theorem ggX10_turn_X10_isHeap : GoodIn wsX10_turn wsX10_isHeap := goodIn_r _ [15, 5, 16, 210, 211, 212, 213, 214, 215, 216, 217, 218, 219, 220, 221, 222] (by decide +kernel) (by decide +kernel)
set_option maxRecDepth 20000 in
theorem gX10_turn_X10_isHeap : GoodIn wsX10_turn (wsV RX10 83 RX10 yX10_isHeap wsX10_isHeap) := goodIn_app (goodIn_of _ (by decide +kernel)) ggX10_turn_X10_isHeap
set_option maxRecDepth 20000 in
theorem ggX10_turn_X0_gather : GoodIn wsX10_turn wsX0_gather := goodIn_r _ [21, 22, 23, 24, 25, 26, 27, 28, 29, 30, 31, 32, 33, 34, 35, 36, 37, 38, 39, 40, 41, 42, 43, 44, 223, 224, 225, 226, 227, 228] (by decide +kernel) (by decide +kernel)
set_option maxRecDepth 20000 in
theorem gX10_turn_X0_gather : GoodIn wsX10_turn (wsV RX10 205 RX0 yX0_gather wsX0_gather) := goodIn_app (goodIn_of _ (by decide +kernel)) ggX10_turn_X0_gather
set_option maxRecDepth 20000 in
theorem ggX10_turn_X3_copyOf : GoodIn wsX10_turn wsX3_copyOf := goodIn_r _ [49, 50, 51, 52, 219, 220, 221, 222] (by decide +kernel) (by decide +kernel)
set_option maxRecDepth 20000 in
theorem gX10_turn_X3_copyOf : GoodIn wsX10_turn (wsV RX10 215 RX3 yX3_copyOf wsX3_copyOf) := goodIn_app (goodIn_of _ (by decide +kernel)) ggX10_turn_X3_copyOf
set_option maxRecDepth 20000 in
theorem ggX10_turn_X3_append : GoodIn wsX10_turn wsX3_append := goodIn_r _ [56, 52, 50, 51, 219, 220, 221, 222] (by decide +kernel) (by decide +kernel)
set_option maxRecDepth 20000 in
theorem gX10_turn_X3_append : GoodIn wsX10_turn (wsV RX10 79 RX3 yX3_append wsX3_append) := goodIn_app (goodIn_of _ (by decide +kernel)) ggX10_turn_X3_append
set_option maxRecDepth 20000 in
theorem ggX10_turn_X8_run : GoodIn wsX10_turn wsX8_run := goodIn_r _ [61, 62, 63, 64, 65, 60, 66, 67, 68, 69, 70, 71, 72, 73, 74, 75, 76, 77, 78, 79, 48, 80, 52, 51, 81, 82, 83, 84, 50, 85, 86, 87, 88, 89, 90, 91, 92, 93, 94, 95, 96, 97, 98, 99, 100, 25, 26, 27, 28, 29, 30, 101, 102, 103, 104, 105, 106, 107, 108, 109, 110, 111, 112, 113, 114, 115, 116, 117, 118, 119, 120, 121, 122, 123, 124, 125, 126, 127, 128, 129, 130, 131, 132, 133, 134, 135, 136, 137, 138, 139, 140, 141, 142, 143, 144, 145, 146, 147, 148, 149, 150, 151, 152, 153, 154, 155, 156, 157, 158, 159, 160, 161, 162, 163, 164, 165, 166, 167, 168, 169, 170, 171, 172, 173, 174, 175, 176, 177, 178, 179, 180, 181, 182, 183, 184, 185, 186, 187, 188, 189, 190, 191, 20, 192, 22, 23, 193, 194, 195, 196, 197, 198, 199, 200, 201, 202, 203, 204, 229, 230, 231, 232, 233, 234, 235, 219, 220, 221, 222, 236, 237, 238, 239, 240, 241, 242, 243, 223, 224] (by decide +kernel) (by decide +kernel)
set_option maxRecDepth 20000 in
theorem gX10_turn_X8_run : GoodIn wsX10_turn (wsV RX10 219 RX8 yX8_run wsX8_run) := goodIn_app (goodIn_of _ (by decide +kernel)) ggX10_turn_X8_run
set_option maxRecDepth 20000 in
theorem ggX10_turn_X8_holds : GoodIn wsX10_turn wsX8_holds := goodIn_r _ [76, 68, 229, 230, 231, 232, 233, 234, 235] (by decide +kernel) (by decide +kernel)
set_option maxRecDepth 20000 in
theorem gX10_turn_X8_holds : GoodIn wsX10_turn (wsV RX10 223 RX8 yX8_holds wsX8_holds) := goodIn_app (goodIn_of _ (by decide +kernel)) ggX10_turn_X8_holds
set_option maxRecDepth 20000 in
theorem ggX10_turn_X3_moveToLast : GoodIn wsX10_turn wsX3_moveToLast := goodIn_r _ [209, 52, 51, 219, 220, 221, 222] (by decide +kernel) (by decide +kernel)
set_option maxRecDepth 20000 in
theorem gX10_turn_X3_moveToLast : GoodIn wsX10_turn (wsV RX10 226 RX3 yX3_moveToLast wsX3_moveToLast) := goodIn_app (goodIn_of _ (by decide +kernel)) ggX10_turn_X3_moveToLast
theorem dX10_turn_0 : decode cX10_turn 0 = .ok (.iload_n 1, 1) := by decide +kernel
theorem dX10_turn_1 : decode cX10_turn 1 = .ok (.invokestatic 134, 3) := by decide +kernel
theorem dX10_turn_4 : decode cX10_turn 4 = .ok (.ifCond .eq 21, 3) := by decide +kernel
theorem dX10_turn_7 : decode cX10_turn 7 = .ok (.aload_n 0, 1) := by decide +kernel
theorem dX10_turn_8 : decode cX10_turn 8 = .ok (.iload_n 2, 1) := by decide +kernel
theorem dX10_turn_9 : decode cX10_turn 9 = .ok (.invokevirtual 83, 3) := by decide +kernel
theorem dX10_turn_12 : decode cX10_turn 12 = .ok (.ifCond .eq 13, 3) := by decide +kernel
theorem dX10_turn_15 : decode cX10_turn 15 = .ok (.iload_n 3, 1) := by decide +kernel
theorem dX10_turn_16 : decode cX10_turn 16 = .ok (.ifCond .lt 9, 3) := by decide +kernel
theorem dX10_turn_19 : decode cX10_turn 19 = .ok (.iload_n 3, 1) := by decide +kernel
theorem dX10_turn_20 : decode cX10_turn 20 = .ok (.bipush 8, 2) := by decide +kernel
theorem dX10_turn_22 : decode cX10_turn 22 = .ok (.if_icmp .lt 5, 3) := by decide +kernel
theorem dX10_turn_25 : decode cX10_turn 25 = .ok (.iconst (-1), 1) := by decide +kernel
theorem dX10_turn_26 : decode cX10_turn 26 = .ok (.ireturn, 1) := by decide +kernel
theorem dX10_turn_27 : decode cX10_turn 27 = .ok (.aload_n 0, 1) := by decide +kernel
theorem dX10_turn_28 : decode cX10_turn 28 = .ok (.getfield 45, 3) := by decide +kernel
theorem dX10_turn_31 : decode cX10_turn 31 = .ok (.aload_n 0, 1) := by decide +kernel
theorem dX10_turn_32 : decode cX10_turn 32 = .ok (.getfield 38, 3) := by decide +kernel
theorem dX10_turn_35 : decode cX10_turn 35 = .ok (.aload_n 0, 1) := by decide +kernel
theorem dX10_turn_36 : decode cX10_turn 36 = .ok (.getfield 65, 3) := by decide +kernel
theorem dX10_turn_39 : decode cX10_turn 39 = .ok (.invokevirtual 205, 3) := by decide +kernel
theorem dX10_turn_42 : decode cX10_turn 42 = .ok (.aload_n 0, 1) := by decide +kernel
theorem dX10_turn_43 : decode cX10_turn 43 = .ok (.getfield 25, 3) := by decide +kernel
theorem dX10_turn_46 : decode cX10_turn 46 = .ok (.aload_n 0, 1) := by decide +kernel
theorem dX10_turn_47 : decode cX10_turn 47 = .ok (.getfield 21, 3) := by decide +kernel
theorem dX10_turn_50 : decode cX10_turn 50 = .ok (.invokevirtual 215, 3) := by decide +kernel
theorem dX10_turn_53 : decode cX10_turn 53 = .ok (.aload_n 0, 1) := by decide +kernel
theorem dX10_turn_54 : decode cX10_turn 54 = .ok (.getfield 25, 3) := by decide +kernel
theorem dX10_turn_57 : decode cX10_turn 57 = .ok (.iconst 1, 1) := by decide +kernel
theorem dX10_turn_58 : decode cX10_turn 58 = .ok (.iload_n 3, 1) := by decide +kernel
theorem dX10_turn_59 : decode cX10_turn 59 = .ok (.ishl, 1) := by decide +kernel
theorem dX10_turn_60 : decode cX10_turn 60 = .ok (.iconst 0, 1) := by decide +kernel
theorem dX10_turn_61 : decode cX10_turn 61 = .ok (.invokevirtual 79, 3) := by decide +kernel
theorem dX10_turn_64 : decode cX10_turn 64 = .ok (.aload_n 0, 1) := by decide +kernel
theorem dX10_turn_65 : decode cX10_turn 65 = .ok (.getfield 21, 3) := by decide +kernel
theorem dX10_turn_68 : decode cX10_turn 68 = .ok (.getfield 90, 3) := by decide +kernel
theorem dX10_turn_71 : decode cX10_turn 71 = .ok (.iload_n 2, 1) := by decide +kernel
theorem dX10_turn_72 : decode cX10_turn 72 = .ok (.iaload, 1) := by decide +kernel
theorem dX10_turn_73 : decode cX10_turn 73 = .ok (.istore 4, 2) := by decide +kernel
theorem dX10_turn_75 : decode cX10_turn 75 = .ok (.iconst 0, 1) := by decide +kernel
theorem dX10_turn_76 : decode cX10_turn 76 = .ok (.istore 5, 2) := by decide +kernel
theorem dX10_turn_78 : decode cX10_turn 78 = .ok (.iload 5, 2) := by decide +kernel
theorem dX10_turn_80 : decode cX10_turn 80 = .ok (.iload 4, 2) := by decide +kernel
theorem dX10_turn_82 : decode cX10_turn 82 = .ok (.if_icmp .gt 47, 3) := by decide +kernel
theorem dX10_turn_85 : decode cX10_turn 85 = .ok (.aload_n 0, 1) := by decide +kernel
theorem dX10_turn_86 : decode cX10_turn 86 = .ok (.getfield 61, 3) := by decide +kernel
theorem dX10_turn_89 : decode cX10_turn 89 = .ok (.iload_n 1, 1) := by decide +kernel
theorem dX10_turn_90 : decode cX10_turn 90 = .ok (.aload_n 0, 1) := by decide +kernel
theorem dX10_turn_91 : decode cX10_turn 91 = .ok (.getfield 25, 3) := by decide +kernel
theorem dX10_turn_94 : decode cX10_turn 94 = .ok (.aload_n 0, 1) := by decide +kernel
theorem dX10_turn_95 : decode cX10_turn 95 = .ok (.getfield 65, 3) := by decide +kernel
theorem dX10_turn_98 : decode cX10_turn 98 = .ok (.invokevirtual 219, 3) := by decide +kernel
theorem dX10_turn_101 : decode cX10_turn 101 = .ok (.aload_n 0, 1) := by decide +kernel
theorem dX10_turn_102 : decode cX10_turn 102 = .ok (.getfield 61, 3) := by decide +kernel
theorem dX10_turn_105 : decode cX10_turn 105 = .ok (.iload_n 3, 1) := by decide +kernel
theorem dX10_turn_106 : decode cX10_turn 106 = .ok (.invokevirtual 223, 3) := by decide +kernel
theorem dX10_turn_109 : decode cX10_turn 109 = .ok (.ifCond .eq 6, 3) := by decide +kernel
theorem dX10_turn_112 : decode cX10_turn 112 = .ok (.iload 5, 2) := by decide +kernel
theorem dX10_turn_114 : decode cX10_turn 114 = .ok (.ireturn, 1) := by decide +kernel
theorem dX10_turn_115 : decode cX10_turn 115 = .ok (.aload_n 0, 1) := by decide +kernel
theorem dX10_turn_116 : decode cX10_turn 116 = .ok (.getfield 25, 3) := by decide +kernel
theorem dX10_turn_119 : decode cX10_turn 119 = .ok (.iload_n 2, 1) := by decide +kernel
theorem dX10_turn_120 : decode cX10_turn 120 = .ok (.invokevirtual 226, 3) := by decide +kernel
theorem dX10_turn_123 : decode cX10_turn 123 = .ok (.iinc 5 1, 3) := by decide +kernel
theorem dX10_turn_126 : decode cX10_turn 126 = .ok (.goto (-48), 3) := by decide +kernel
theorem dX10_turn_129 : decode cX10_turn 129 = .ok (.bipush (-6), 2) := by decide +kernel
theorem dX10_turn_131 : decode cX10_turn 131 = .ok (.ireturn, 1) := by decide +kernel
set_option maxRecDepth 20000 in
theorem ggX10_told_X10_isHeap : GoodIn wsX10_told wsX10_isHeap := goodIn_r _ [16, 3, 6, 24, 25, 26, 27, 28, 29, 30, 31, 32, 35, 36, 37, 38] (by decide +kernel) (by decide +kernel)
set_option maxRecDepth 20000 in
theorem gX10_told_X10_isHeap : GoodIn wsX10_told (wsV RX10 83 RX10 yX10_isHeap wsX10_isHeap) := goodIn_app (goodIn_of _ (by decide +kernel)) ggX10_told_X10_isHeap
set_option maxRecDepth 20000 in
theorem ggX10_told_X3_total : GoodIn wsX10_told wsX3_total := goodIn_r _ [21, 22, 23, 35, 36, 37, 38] (by decide +kernel) (by decide +kernel)
set_option maxRecDepth 20000 in
theorem gX10_told_X3_total : GoodIn wsX10_told (wsV RX10 229 RX3 yX3_total wsX3_total) := goodIn_app (goodIn_of _ (by decide +kernel)) ggX10_told_X3_total
theorem dX10_told_0 : decode cX10_told 0 = .ok (.iload_n 1, 1) := by decide +kernel
theorem dX10_told_1 : decode cX10_told 1 = .ok (.bipush 10, 2) := by decide +kernel
theorem dX10_told_3 : decode cX10_told 3 = .ok (.if_icmp .lt 22, 3) := by decide +kernel
theorem dX10_told_6 : decode cX10_told 6 = .ok (.iload_n 1, 1) := by decide +kernel
theorem dX10_told_7 : decode cX10_told 7 = .ok (.bipush 14, 2) := by decide +kernel
theorem dX10_told_9 : decode cX10_told 9 = .ok (.if_icmp .ge 16, 3) := by decide +kernel
theorem dX10_told_12 : decode cX10_told 12 = .ok (.aload_n 0, 1) := by decide +kernel
theorem dX10_told_13 : decode cX10_told 13 = .ok (.getfield 10, 3) := by decide +kernel
theorem dX10_told_16 : decode cX10_told 16 = .ok (.getfield 97, 3) := by decide +kernel
theorem dX10_told_19 : decode cX10_told 19 = .ok (.iload_n 1, 1) := by decide +kernel
theorem dX10_told_20 : decode cX10_told 20 = .ok (.bipush 10, 2) := by decide +kernel
theorem dX10_told_22 : decode cX10_told 22 = .ok (.isub, 1) := by decide +kernel
theorem dX10_told_23 : decode cX10_told 23 = .ok (.iaload, 1) := by decide +kernel
theorem dX10_told_24 : decode cX10_told 24 = .ok (.ireturn, 1) := by decide +kernel
theorem dX10_told_25 : decode cX10_told 25 = .ok (.iload_n 1, 1) := by decide +kernel
theorem dX10_told_26 : decode cX10_told 26 = .ok (.bipush 20, 2) := by decide +kernel
theorem dX10_told_28 : decode cX10_told 28 = .ok (.if_icmp .lt 38, 3) := by decide +kernel
theorem dX10_told_31 : decode cX10_told 31 = .ok (.iload_n 1, 1) := by decide +kernel
theorem dX10_told_32 : decode cX10_told 32 = .ok (.bipush 26, 2) := by decide +kernel
theorem dX10_told_34 : decode cX10_told 34 = .ok (.if_icmp .ge 32, 3) := by decide +kernel
theorem dX10_told_37 : decode cX10_told 37 = .ok (.aload_n 0, 1) := by decide +kernel
theorem dX10_told_38 : decode cX10_told 38 = .ok (.iload_n 1, 1) := by decide +kernel
theorem dX10_told_39 : decode cX10_told 39 = .ok (.bipush 20, 2) := by decide +kernel
theorem dX10_told_41 : decode cX10_told 41 = .ok (.isub, 1) := by decide +kernel
theorem dX10_told_42 : decode cX10_told 42 = .ok (.invokevirtual 83, 3) := by decide +kernel
theorem dX10_told_45 : decode cX10_told 45 = .ok (.ifCond .eq 18, 3) := by decide +kernel
theorem dX10_told_48 : decode cX10_told 48 = .ok (.aload_n 0, 1) := by decide +kernel
theorem dX10_told_49 : decode cX10_told 49 = .ok (.getfield 21, 3) := by decide +kernel
theorem dX10_told_52 : decode cX10_told 52 = .ok (.getfield 90, 3) := by decide +kernel
theorem dX10_told_55 : decode cX10_told 55 = .ok (.iload_n 1, 1) := by decide +kernel
theorem dX10_told_56 : decode cX10_told 56 = .ok (.bipush 20, 2) := by decide +kernel
theorem dX10_told_58 : decode cX10_told 58 = .ok (.isub, 1) := by decide +kernel
theorem dX10_told_59 : decode cX10_told 59 = .ok (.iaload, 1) := by decide +kernel
theorem dX10_told_60 : decode cX10_told 60 = .ok (.goto 5, 3) := by decide +kernel
theorem dX10_told_63 : decode cX10_told 63 = .ok (.bipush (-6), 2) := by decide +kernel
theorem dX10_told_65 : decode cX10_told 65 = .ok (.ireturn, 1) := by decide +kernel
theorem dX10_told_66 : decode cX10_told 66 = .ok (.iload_n 1, 1) := by decide +kernel
theorem dX10_told_67 : decode cX10_told 67 = .ok (.bipush 30, 2) := by decide +kernel
theorem dX10_told_69 : decode cX10_told 69 = .ok (.if_icmp .lt 38, 3) := by decide +kernel
theorem dX10_told_72 : decode cX10_told 72 = .ok (.iload_n 1, 1) := by decide +kernel
theorem dX10_told_73 : decode cX10_told 73 = .ok (.bipush 36, 2) := by decide +kernel
theorem dX10_told_75 : decode cX10_told 75 = .ok (.if_icmp .ge 32, 3) := by decide +kernel
theorem dX10_told_78 : decode cX10_told 78 = .ok (.aload_n 0, 1) := by decide +kernel
theorem dX10_told_79 : decode cX10_told 79 = .ok (.iload_n 1, 1) := by decide +kernel
theorem dX10_told_80 : decode cX10_told 80 = .ok (.bipush 30, 2) := by decide +kernel
theorem dX10_told_82 : decode cX10_told 82 = .ok (.isub, 1) := by decide +kernel
theorem dX10_told_83 : decode cX10_told 83 = .ok (.invokevirtual 83, 3) := by decide +kernel
theorem dX10_told_86 : decode cX10_told 86 = .ok (.ifCond .eq 18, 3) := by decide +kernel
theorem dX10_told_89 : decode cX10_told 89 = .ok (.aload_n 0, 1) := by decide +kernel
theorem dX10_told_90 : decode cX10_told 90 = .ok (.getfield 21, 3) := by decide +kernel
theorem dX10_told_93 : decode cX10_told 93 = .ok (.getfield 86, 3) := by decide +kernel
theorem dX10_told_96 : decode cX10_told 96 = .ok (.iload_n 1, 1) := by decide +kernel
theorem dX10_told_97 : decode cX10_told 97 = .ok (.bipush 30, 2) := by decide +kernel
theorem dX10_told_99 : decode cX10_told 99 = .ok (.isub, 1) := by decide +kernel
theorem dX10_told_100 : decode cX10_told 100 = .ok (.iaload, 1) := by decide +kernel
theorem dX10_told_101 : decode cX10_told 101 = .ok (.goto 5, 3) := by decide +kernel
theorem dX10_told_104 : decode cX10_told 104 = .ok (.bipush (-6), 2) := by decide +kernel
theorem dX10_told_106 : decode cX10_told 106 = .ok (.ireturn, 1) := by decide +kernel
theorem dX10_told_107 : decode cX10_told 107 = .ok (.iload_n 1, 1) := by decide +kernel
theorem dX10_told_108 : decode cX10_told 108 = .ok (.tableswitch 73 0 4 #[36, 44, 52, 57, 65], 36) := by decide +kernel
theorem dX10_told_144 : decode cX10_told 144 = .ok (.aload_n 0, 1) := by decide +kernel
theorem dX10_told_145 : decode cX10_told 145 = .ok (.getfield 21, 3) := by decide +kernel
theorem dX10_told_148 : decode cX10_told 148 = .ok (.getfield 76, 3) := by decide +kernel
theorem dX10_told_151 : decode cX10_told 151 = .ok (.ireturn, 1) := by decide +kernel
theorem dX10_told_152 : decode cX10_told 152 = .ok (.aload_n 0, 1) := by decide +kernel
theorem dX10_told_153 : decode cX10_told 153 = .ok (.getfield 21, 3) := by decide +kernel
theorem dX10_told_156 : decode cX10_told 156 = .ok (.invokevirtual 229, 3) := by decide +kernel
theorem dX10_told_159 : decode cX10_told 159 = .ok (.ireturn, 1) := by decide +kernel
theorem dX10_told_160 : decode cX10_told 160 = .ok (.aload_n 0, 1) := by decide +kernel
theorem dX10_told_161 : decode cX10_told 161 = .ok (.getfield 65, 3) := by decide +kernel
theorem dX10_told_164 : decode cX10_told 164 = .ok (.ireturn, 1) := by decide +kernel
theorem dX10_told_165 : decode cX10_told 165 = .ok (.aload_n 0, 1) := by decide +kernel
theorem dX10_told_166 : decode cX10_told 166 = .ok (.getfield 31, 3) := by decide +kernel
theorem dX10_told_169 : decode cX10_told 169 = .ok (.getfield 103, 3) := by decide +kernel
theorem dX10_told_172 : decode cX10_told 172 = .ok (.ireturn, 1) := by decide +kernel
theorem dX10_told_173 : decode cX10_told 173 = .ok (.aload_n 0, 1) := by decide +kernel
theorem dX10_told_174 : decode cX10_told 174 = .ok (.getfield 38, 3) := by decide +kernel
theorem dX10_told_177 : decode cX10_told 177 = .ok (.getfield 117, 3) := by decide +kernel
theorem dX10_told_180 : decode cX10_told 180 = .ok (.ireturn, 1) := by decide +kernel
theorem dX10_told_181 : decode cX10_told 181 = .ok (.bipush (-2), 2) := by decide +kernel
theorem dX10_told_183 : decode cX10_told 183 = .ok (.ireturn, 1) := by decide +kernel
theorem dX10_isSet_0 : decode cX10_isSet 0 = .ok (.iload_n 0, 1) := by decide +kernel
theorem dX10_isSet_1 : decode cX10_isSet 1 = .ok (.iconst 1, 1) := by decide +kernel
theorem dX10_isSet_2 : decode cX10_isSet 2 = .ok (.if_icmp .lt 14, 3) := by decide +kernel
theorem dX10_isSet_5 : decode cX10_isSet 5 = .ok (.iload_n 0, 1) := by decide +kernel
theorem dX10_isSet_6 : decode cX10_isSet 6 = .ok (.sipush 255, 3) := by decide +kernel
theorem dX10_isSet_9 : decode cX10_isSet 9 = .ok (.if_icmp .gt 7, 3) := by decide +kernel
theorem dX10_isSet_12 : decode cX10_isSet 12 = .ok (.iconst 1, 1) := by decide +kernel
theorem dX10_isSet_13 : decode cX10_isSet 13 = .ok (.goto 4, 3) := by decide +kernel
theorem dX10_isSet_16 : decode cX10_isSet 16 = .ok (.iconst 0, 1) := by decide +kernel
theorem dX10_isSet_17 : decode cX10_isSet 17 = .ok (.ireturn, 1) := by decide +kernel
theorem dX10_isPapers_0 : decode cX10_isPapers 0 = .ok (.iload_n 0, 1) := by decide +kernel
theorem dX10_isPapers_1 : decode cX10_isPapers 1 = .ok (.iconst 1, 1) := by decide +kernel
theorem dX10_isPapers_2 : decode cX10_isPapers 2 = .ok (.if_icmp .lt 13, 3) := by decide +kernel
theorem dX10_isPapers_5 : decode cX10_isPapers 5 = .ok (.iload_n 0, 1) := by decide +kernel
theorem dX10_isPapers_6 : decode cX10_isPapers 6 = .ok (.bipush 100, 2) := by decide +kernel
theorem dX10_isPapers_8 : decode cX10_isPapers 8 = .ok (.if_icmp .gt 7, 3) := by decide +kernel
theorem dX10_isPapers_11 : decode cX10_isPapers 11 = .ok (.iconst 1, 1) := by decide +kernel
theorem dX10_isPapers_12 : decode cX10_isPapers 12 = .ok (.goto 4, 3) := by decide +kernel
theorem dX10_isPapers_15 : decode cX10_isPapers 15 = .ok (.iconst 0, 1) := by decide +kernel
theorem dX10_isPapers_16 : decode cX10_isPapers 16 = .ok (.ireturn, 1) := by decide +kernel
theorem dX10_isWay_0 : decode cX10_isWay 0 = .ok (.iload_n 0, 1) := by decide +kernel
theorem dX10_isWay_1 : decode cX10_isWay 1 = .ok (.ifCond .lt 12, 3) := by decide +kernel
theorem dX10_isWay_4 : decode cX10_isWay 4 = .ok (.iload_n 0, 1) := by decide +kernel
theorem dX10_isWay_5 : decode cX10_isWay 5 = .ok (.iconst 5, 1) := by decide +kernel
theorem dX10_isWay_6 : decode cX10_isWay 6 = .ok (.if_icmp .gt 7, 3) := by decide +kernel
theorem dX10_isWay_9 : decode cX10_isWay 9 = .ok (.iconst 1, 1) := by decide +kernel
theorem dX10_isWay_10 : decode cX10_isWay 10 = .ok (.goto 4, 3) := by decide +kernel
theorem dX10_isWay_13 : decode cX10_isWay 13 = .ok (.iconst 0, 1) := by decide +kernel
theorem dX10_isWay_14 : decode cX10_isWay 14 = .ok (.ireturn, 1) := by decide +kernel
theorem dX10_isLaw_0 : decode cX10_isLaw 0 = .ok (.iload_n 0, 1) := by decide +kernel
theorem dX10_isLaw_1 : decode cX10_isLaw 1 = .ok (.ifCond .lt 12, 3) := by decide +kernel
theorem dX10_isLaw_4 : decode cX10_isLaw 4 = .ok (.iload_n 0, 1) := by decide +kernel
theorem dX10_isLaw_5 : decode cX10_isLaw 5 = .ok (.iconst 2, 1) := by decide +kernel
theorem dX10_isLaw_6 : decode cX10_isLaw 6 = .ok (.if_icmp .gt 7, 3) := by decide +kernel
theorem dX10_isLaw_9 : decode cX10_isLaw 9 = .ok (.iconst 1, 1) := by decide +kernel
theorem dX10_isLaw_10 : decode cX10_isLaw 10 = .ok (.goto 4, 3) := by decide +kernel
theorem dX10_isLaw_13 : decode cX10_isLaw 13 = .ok (.iconst 0, 1) := by decide +kernel
theorem dX10_isLaw_14 : decode cX10_isLaw 14 = .ok (.ireturn, 1) := by decide +kernel
theorem dX10_isHeap_0 : decode cX10_isHeap 0 = .ok (.iload_n 1, 1) := by decide +kernel
theorem dX10_isHeap_1 : decode cX10_isHeap 1 = .ok (.ifCond .lt 24, 3) := by decide +kernel
theorem dX10_isHeap_4 : decode cX10_isHeap 4 = .ok (.iload_n 1, 1) := by decide +kernel
theorem dX10_isHeap_5 : decode cX10_isHeap 5 = .ok (.aload_n 0, 1) := by decide +kernel
theorem dX10_isHeap_6 : decode cX10_isHeap 6 = .ok (.getfield 21, 3) := by decide +kernel
theorem dX10_isHeap_9 : decode cX10_isHeap 9 = .ok (.getfield 76, 3) := by decide +kernel
theorem dX10_isHeap_12 : decode cX10_isHeap 12 = .ok (.if_icmp .ge 13, 3) := by decide +kernel
theorem dX10_isHeap_15 : decode cX10_isHeap 15 = .ok (.iload_n 1, 1) := by decide +kernel
theorem dX10_isHeap_16 : decode cX10_isHeap 16 = .ok (.bipush 6, 2) := by decide +kernel
theorem dX10_isHeap_18 : decode cX10_isHeap 18 = .ok (.if_icmp .ge 7, 3) := by decide +kernel
theorem dX10_isHeap_21 : decode cX10_isHeap 21 = .ok (.iconst 1, 1) := by decide +kernel
theorem dX10_isHeap_22 : decode cX10_isHeap 22 = .ok (.goto 4, 3) := by decide +kernel
theorem dX10_isHeap_25 : decode cX10_isHeap 25 = .ok (.iconst 0, 1) := by decide +kernel
theorem dX10_isHeap_26 : decode cX10_isHeap 26 = .ok (.ireturn, 1) := by decide +kernel
set_option maxRecDepth 20000 in
theorem ggX10_isCommittee_X10_isSet : GoodIn wsX10_isCommittee wsX10_isSet := goodIn_r _ [5] (by decide +kernel) (by decide +kernel)
set_option maxRecDepth 20000 in
theorem gX10_isCommittee_X10_isSet : GoodIn wsX10_isCommittee (va_wsS RX10 69 yX10_isSet wsX10_isSet) := goodIn_app (goodIn_of _ (by decide +kernel)) ggX10_isCommittee_X10_isSet
set_option maxRecDepth 20000 in
theorem ggX10_isCommittee_J6_bitCount_0f7a4 : GoodIn wsX10_isCommittee wsJ6_bitCount_0f7a4 := goodIn_r _ [9, 10, 11, 12] (by decide +kernel) (by decide +kernel)
set_option maxRecDepth 20000 in
theorem gX10_isCommittee_J6_bitCount_0f7a4 : GoodIn wsX10_isCommittee (va_wsS RX10 232 yJ6_bitCount_0f7a4 wsJ6_bitCount_0f7a4) := goodIn_app (goodIn_of _ (by decide +kernel)) ggX10_isCommittee_J6_bitCount_0f7a4
theorem dX10_isCommittee_0 : decode cX10_isCommittee 0 = .ok (.iload_n 1, 1) := by decide +kernel
theorem dX10_isCommittee_1 : decode cX10_isCommittee 1 = .ok (.invokestatic 69, 3) := by decide +kernel
theorem dX10_isCommittee_4 : decode cX10_isCommittee 4 = .ok (.ifCond .eq 18, 3) := by decide +kernel
theorem dX10_isCommittee_7 : decode cX10_isCommittee 7 = .ok (.iload_n 1, 1) := by decide +kernel
theorem dX10_isCommittee_8 : decode cX10_isCommittee 8 = .ok (.invokestatic 232, 3) := by decide +kernel
theorem dX10_isCommittee_11 : decode cX10_isCommittee 11 = .ok (.aload_n 0, 1) := by decide +kernel
theorem dX10_isCommittee_12 : decode cX10_isCommittee 12 = .ok (.getfield 65, 3) := by decide +kernel
theorem dX10_isCommittee_15 : decode cX10_isCommittee 15 = .ok (.if_icmp .ne 7, 3) := by decide +kernel
theorem dX10_isCommittee_18 : decode cX10_isCommittee 18 = .ok (.iconst 1, 1) := by decide +kernel
theorem dX10_isCommittee_19 : decode cX10_isCommittee 19 = .ok (.goto 4, 3) := by decide +kernel
theorem dX10_isCommittee_22 : decode cX10_isCommittee 22 = .ok (.iconst 0, 1) := by decide +kernel
theorem dX10_isCommittee_23 : decode cX10_isCommittee 23 = .ok (.ireturn, 1) := by decide +kernel
set_option maxRecDepth 20000 in
theorem ggX10_refusalOfShare_X10_isHeap : GoodIn wsX10_refusalOfShare wsX10_isHeap := goodIn_r _ [6, 7, 8, 9, 10, 11, 12, 13, 14, 15, 16, 17, 18, 19, 20, 21] (by decide +kernel) (by decide +kernel)
set_option maxRecDepth 20000 in
theorem gX10_refusalOfShare_X10_isHeap : GoodIn wsX10_refusalOfShare (wsV RX10 83 RX10 yX10_isHeap wsX10_isHeap) := goodIn_app (goodIn_of _ (by decide +kernel)) ggX10_refusalOfShare_X10_isHeap
theorem dX10_refusalOfShare_0 : decode cX10_refusalOfShare 0 = .ok (.aload_n 0, 1) := by decide +kernel
theorem dX10_refusalOfShare_1 : decode cX10_refusalOfShare 1 = .ok (.iload_n 1, 1) := by decide +kernel
theorem dX10_refusalOfShare_2 : decode cX10_refusalOfShare 2 = .ok (.invokevirtual 83, 3) := by decide +kernel
theorem dX10_refusalOfShare_5 : decode cX10_refusalOfShare 5 = .ok (.ifCond .ne 5, 3) := by decide +kernel
theorem dX10_refusalOfShare_8 : decode cX10_refusalOfShare 8 = .ok (.iconst (-1), 1) := by decide +kernel
theorem dX10_refusalOfShare_9 : decode cX10_refusalOfShare 9 = .ok (.ireturn, 1) := by decide +kernel
theorem dX10_refusalOfShare_10 : decode cX10_refusalOfShare 10 = .ok (.iload_n 2, 1) := by decide +kernel
theorem dX10_refusalOfShare_11 : decode cX10_refusalOfShare 11 = .ok (.ifCond .lt 20, 3) := by decide +kernel
theorem dX10_refusalOfShare_14 : decode cX10_refusalOfShare 14 = .ok (.iload_n 2, 1) := by decide +kernel
theorem dX10_refusalOfShare_15 : decode cX10_refusalOfShare 15 = .ok (.aload_n 0, 1) := by decide +kernel
theorem dX10_refusalOfShare_16 : decode cX10_refusalOfShare 16 = .ok (.getfield 65, 3) := by decide +kernel
theorem dX10_refusalOfShare_19 : decode cX10_refusalOfShare 19 = .ok (.if_icmp .gt 12, 3) := by decide +kernel
theorem dX10_refusalOfShare_22 : decode cX10_refusalOfShare 22 = .ok (.iload_n 3, 1) := by decide +kernel
theorem dX10_refusalOfShare_23 : decode cX10_refusalOfShare 23 = .ok (.ifCond .lt 8, 3) := by decide +kernel
theorem dX10_refusalOfShare_26 : decode cX10_refusalOfShare 26 = .ok (.iload_n 3, 1) := by decide +kernel
theorem dX10_refusalOfShare_27 : decode cX10_refusalOfShare 27 = .ok (.iconst 1, 1) := by decide +kernel
theorem dX10_refusalOfShare_28 : decode cX10_refusalOfShare 28 = .ok (.if_icmp .le 8, 3) := by decide +kernel
theorem dX10_refusalOfShare_31 : decode cX10_refusalOfShare 31 = .ok (.bipush (-2), 2) := by decide +kernel
theorem dX10_refusalOfShare_33 : decode cX10_refusalOfShare 33 = .ok (.goto 4, 3) := by decide +kernel
theorem dX10_refusalOfShare_36 : decode cX10_refusalOfShare 36 = .ok (.iconst 0, 1) := by decide +kernel
theorem dX10_refusalOfShare_37 : decode cX10_refusalOfShare 37 = .ok (.ireturn, 1) := by decide +kernel
set_option maxRecDepth 20000 in
theorem ggX10_runWay_X0_gather : GoodIn wsX10_runWay wsX0_gather := goodIn_r _ [9, 10, 11, 12, 13, 14, 15, 16, 17, 18, 19, 20, 21, 22, 23, 24, 25, 26, 27, 28, 29, 30, 31, 32, 194, 195, 196, 197, 198, 199] (by decide +kernel) (by decide +kernel)
set_option maxRecDepth 20000 in
theorem gX10_runWay_X0_gather : GoodIn wsX10_runWay (wsV RX10 205 RX0 yX0_gather wsX0_gather) := goodIn_app (goodIn_of _ (by decide +kernel)) ggX10_runWay_X0_gather
set_option maxRecDepth 20000 in
theorem ggX10_runWay_X8_run : GoodIn wsX10_runWay wsX8_run := goodIn_r _ [37, 38, 39, 40, 41, 36, 42, 43, 44, 45, 46, 47, 48, 49, 50, 51, 52, 53, 54, 55, 56, 57, 58, 59, 60, 61, 62, 63, 64, 65, 66, 67, 68, 69, 70, 71, 72, 73, 74, 75, 76, 77, 78, 79, 80, 13, 14, 15, 16, 17, 18, 81, 82, 83, 84, 85, 86, 87, 88, 89, 90, 91, 92, 93, 94, 95, 96, 97, 98, 99, 100, 101, 102, 103, 104, 105, 106, 107, 108, 109, 110, 111, 112, 113, 114, 115, 116, 117, 118, 119, 120, 121, 122, 123, 124, 125, 126, 127, 128, 129, 130, 131, 132, 133, 134, 135, 136, 137, 138, 139, 140, 141, 142, 143, 144, 145, 146, 147, 148, 149, 150, 151, 152, 153, 154, 155, 156, 157, 158, 159, 160, 161, 162, 163, 164, 165, 166, 167, 168, 169, 170, 171, 8, 172, 10, 11, 173, 174, 175, 176, 177, 178, 179, 180, 181, 182, 183, 184, 200, 201, 202, 203, 204, 205, 206, 207, 208, 209, 210, 211, 212, 213, 214, 215, 216, 217, 218, 194, 195] (by decide +kernel) (by decide +kernel)
set_option maxRecDepth 20000 in
theorem gX10_runWay_X8_run : GoodIn wsX10_runWay (wsV RX10 219 RX8 yX8_run wsX8_run) := goodIn_app (goodIn_of _ (by decide +kernel)) ggX10_runWay_X8_run
theorem dX10_runWay_0 : decode cX10_runWay 0 = .ok (.iload_n 1, 1) := by decide +kernel
theorem dX10_runWay_1 : decode cX10_runWay 1 = .ok (.iconst 4, 1) := by decide +kernel
theorem dX10_runWay_2 : decode cX10_runWay 2 = .ok (.if_icmp .ne 15, 3) := by decide +kernel
theorem dX10_runWay_5 : decode cX10_runWay 5 = .ok (.aload_n 0, 1) := by decide +kernel
theorem dX10_runWay_6 : decode cX10_runWay 6 = .ok (.getfield 45, 3) := by decide +kernel
theorem dX10_runWay_9 : decode cX10_runWay 9 = .ok (.aload_n 0, 1) := by decide +kernel
theorem dX10_runWay_10 : decode cX10_runWay 10 = .ok (.getfield 38, 3) := by decide +kernel
theorem dX10_runWay_13 : decode cX10_runWay 13 = .ok (.iload_n 2, 1) := by decide +kernel
theorem dX10_runWay_14 : decode cX10_runWay 14 = .ok (.invokevirtual 205, 3) := by decide +kernel
theorem dX10_runWay_17 : decode cX10_runWay 17 = .ok (.aload_n 0, 1) := by decide +kernel
theorem dX10_runWay_18 : decode cX10_runWay 18 = .ok (.getfield 61, 3) := by decide +kernel
theorem dX10_runWay_21 : decode cX10_runWay 21 = .ok (.iload_n 1, 1) := by decide +kernel
theorem dX10_runWay_22 : decode cX10_runWay 22 = .ok (.aload_n 0, 1) := by decide +kernel
theorem dX10_runWay_23 : decode cX10_runWay 23 = .ok (.getfield 21, 3) := by decide +kernel
theorem dX10_runWay_26 : decode cX10_runWay 26 = .ok (.iload_n 2, 1) := by decide +kernel
theorem dX10_runWay_27 : decode cX10_runWay 27 = .ok (.invokevirtual 219, 3) := by decide +kernel
theorem dX10_runWay_30 : decode cX10_runWay 30 = .ok (.return_, 1) := by decide +kernel
set_option maxRecDepth 20000 in
theorem ggX10_gatherKept_X0_gather : GoodIn wsX10_gatherKept wsX0_gather := goodIn_r _ [10, 11, 12, 13, 14, 15, 16, 17, 18, 19, 20, 21, 22, 23, 24, 25, 26, 27, 28, 29, 30, 31, 32, 33, 91, 92, 93, 94, 95, 96] (by decide +kernel) (by decide +kernel)
set_option maxRecDepth 20000 in
theorem gX10_gatherKept_X0_gather : GoodIn wsX10_gatherKept (wsV RX10 205 RX0 yX0_gather wsX0_gather) := goodIn_app (goodIn_of _ (by decide +kernel)) ggX10_gatherKept_X0_gather
set_option maxRecDepth 20000 in
theorem ggX10_gatherKept_X2_gather : GoodIn wsX10_gatherKept wsX2_gather := goodIn_r _ [38, 39, 40, 41, 42, 43, 44, 45, 46, 47, 48, 49, 50, 51, 52, 53, 54, 55, 56, 57, 58, 59, 60, 37, 61, 62, 14, 15, 16, 17, 18, 19, 97, 98, 99, 100, 101, 102, 103, 104, 105, 106, 107, 108, 109] (by decide +kernel) (by decide +kernel)
set_option maxRecDepth 20000 in
theorem gX10_gatherKept_X2_gather : GoodIn wsX10_gatherKept (wsV RX10 180 RX2 yX2_gather wsX2_gather) := goodIn_app (goodIn_of _ (by decide +kernel)) ggX10_gatherKept_X2_gather
set_option maxRecDepth 20000 in
theorem ggX10_gatherKept_X0_keepThoseThatHold : GoodIn wsX10_gatherKept wsX0_keepThoseThatHold := goodIn_r _ [66, 11, 12, 67, 68, 69, 70, 37, 71, 72, 73, 44, 48, 74, 51, 75, 76, 77, 78, 46, 79, 80, 42, 81, 59, 60, 61, 62, 14, 15, 16, 17, 18, 19, 91, 92, 101, 102, 103, 104, 105, 106, 107, 108, 109] (by decide +kernel) (by decide +kernel)
set_option maxRecDepth 20000 in
theorem gX10_gatherKept_X0_keepThoseThatHold : GoodIn wsX10_gatherKept (wsV RX10 237 RX0 yX0_keepThoseThatHold wsX0_keepThoseThatHold) := goodIn_app (goodIn_of _ (by decide +kernel)) ggX10_gatherKept_X0_keepThoseThatHold
theorem dX10_gatherKept_0 : decode cX10_gatherKept 0 = .ok (.aload_n 0, 1) := by decide +kernel
theorem dX10_gatherKept_1 : decode cX10_gatherKept 1 = .ok (.getfield 45, 3) := by decide +kernel
theorem dX10_gatherKept_4 : decode cX10_gatherKept 4 = .ok (.aload_n 0, 1) := by decide +kernel
theorem dX10_gatherKept_5 : decode cX10_gatherKept 5 = .ok (.getfield 38, 3) := by decide +kernel
theorem dX10_gatherKept_8 : decode cX10_gatherKept 8 = .ok (.aload_n 0, 1) := by decide +kernel
theorem dX10_gatherKept_9 : decode cX10_gatherKept 9 = .ok (.getfield 65, 3) := by decide +kernel
theorem dX10_gatherKept_12 : decode cX10_gatherKept 12 = .ok (.invokevirtual 205, 3) := by decide +kernel
theorem dX10_gatherKept_15 : decode cX10_gatherKept 15 = .ok (.aload_n 0, 1) := by decide +kernel
theorem dX10_gatherKept_16 : decode cX10_gatherKept 16 = .ok (.getfield 52, 3) := by decide +kernel
theorem dX10_gatherKept_19 : decode cX10_gatherKept 19 = .ok (.aload_n 0, 1) := by decide +kernel
theorem dX10_gatherKept_20 : decode cX10_gatherKept 20 = .ok (.getfield 21, 3) := by decide +kernel
theorem dX10_gatherKept_23 : decode cX10_gatherKept 23 = .ok (.aload_n 0, 1) := by decide +kernel
theorem dX10_gatherKept_24 : decode cX10_gatherKept 24 = .ok (.getfield 65, 3) := by decide +kernel
theorem dX10_gatherKept_27 : decode cX10_gatherKept 27 = .ok (.invokevirtual 180, 3) := by decide +kernel
theorem dX10_gatherKept_30 : decode cX10_gatherKept 30 = .ok (.aload_n 0, 1) := by decide +kernel
theorem dX10_gatherKept_31 : decode cX10_gatherKept 31 = .ok (.getfield 45, 3) := by decide +kernel
theorem dX10_gatherKept_34 : decode cX10_gatherKept 34 = .ok (.aload_n 0, 1) := by decide +kernel
theorem dX10_gatherKept_35 : decode cX10_gatherKept 35 = .ok (.getfield 52, 3) := by decide +kernel
theorem dX10_gatherKept_38 : decode cX10_gatherKept 38 = .ok (.iload_n 1, 1) := by decide +kernel
theorem dX10_gatherKept_39 : decode cX10_gatherKept 39 = .ok (.invokevirtual 237, 3) := by decide +kernel
theorem dX10_gatherKept_42 : decode cX10_gatherKept 42 = .ok (.return_, 1) := by decide +kernel
theorem dX11_init_0 : decode cX11_init 0 = .ok (.aload_n 0, 1) := by decide +kernel
theorem dX11_init_1 : decode cX11_init 1 = .ok (.invokespecial 1, 3) := by decide +kernel
theorem dX11_init_4 : decode cX11_init 4 = .ok (.aload_n 0, 1) := by decide +kernel
theorem dX11_init_5 : decode cX11_init 5 = .ok (.bipush 7, 2) := by decide +kernel
theorem dX11_init_7 : decode cX11_init 7 = .ok (.newarray .int, 2) := by decide +kernel
theorem dX11_init_9 : decode cX11_init 9 = .ok (.putfield 7, 3) := by decide +kernel
theorem dX11_init_12 : decode cX11_init 12 = .ok (.aload_n 0, 1) := by decide +kernel
theorem dX11_init_13 : decode cX11_init 13 = .ok (.bipush 7, 2) := by decide +kernel
theorem dX11_init_15 : decode cX11_init 15 = .ok (.newarray .int, 2) := by decide +kernel
theorem dX11_init_17 : decode cX11_init 17 = .ok (.putfield 13, 3) := by decide +kernel
theorem dX11_init_20 : decode cX11_init 20 = .ok (.aload_n 0, 1) := by decide +kernel
theorem dX11_init_21 : decode cX11_init 21 = .ok (.iconst 2, 1) := by decide +kernel
theorem dX11_init_22 : decode cX11_init 22 = .ok (.putfield 16, 3) := by decide +kernel
theorem dX11_init_25 : decode cX11_init 25 = .ok (.aload_n 0, 1) := by decide +kernel
theorem dX11_init_26 : decode cX11_init 26 = .ok (.iconst 4, 1) := by decide +kernel
theorem dX11_init_27 : decode cX11_init 27 = .ok (.newarray .int, 2) := by decide +kernel
theorem dX11_init_29 : decode cX11_init 29 = .ok (.putfield 20, 3) := by decide +kernel
theorem dX11_init_32 : decode cX11_init 32 = .ok (.aload_n 0, 1) := by decide +kernel
theorem dX11_init_33 : decode cX11_init 33 = .ok (.bipush 40, 2) := by decide +kernel
theorem dX11_init_35 : decode cX11_init 35 = .ok (.newarray .int, 2) := by decide +kernel
theorem dX11_init_37 : decode cX11_init 37 = .ok (.putfield 23, 3) := by decide +kernel
theorem dX11_init_40 : decode cX11_init 40 = .ok (.aload_n 0, 1) := by decide +kernel
theorem dX11_init_41 : decode cX11_init 41 = .ok (.bipush 40, 2) := by decide +kernel
theorem dX11_init_43 : decode cX11_init 43 = .ok (.newarray .int, 2) := by decide +kernel
theorem dX11_init_45 : decode cX11_init 45 = .ok (.putfield 26, 3) := by decide +kernel
theorem dX11_init_48 : decode cX11_init 48 = .ok (.aload_n 0, 1) := by decide +kernel
theorem dX11_init_49 : decode cX11_init 49 = .ok (.bipush 8, 2) := by decide +kernel
theorem dX11_init_51 : decode cX11_init 51 = .ok (.newarray .int, 2) := by decide +kernel
theorem dX11_init_53 : decode cX11_init 53 = .ok (.putfield 29, 3) := by decide +kernel
theorem dX11_init_56 : decode cX11_init 56 = .ok (.aload_n 0, 1) := by decide +kernel
theorem dX11_init_57 : decode cX11_init 57 = .ok (.bipush 35, 2) := by decide +kernel
theorem dX11_init_59 : decode cX11_init 59 = .ok (.newarray .long, 2) := by decide +kernel
theorem dX11_init_61 : decode cX11_init 61 = .ok (.putfield 32, 3) := by decide +kernel
theorem dX11_init_64 : decode cX11_init 64 = .ok (.aload_n 0, 1) := by decide +kernel
theorem dX11_init_65 : decode cX11_init 65 = .ok (.iconst 5, 1) := by decide +kernel
theorem dX11_init_66 : decode cX11_init 66 = .ok (.newarray .long, 2) := by decide +kernel
theorem dX11_init_68 : decode cX11_init 68 = .ok (.putfield 36, 3) := by decide +kernel
theorem dX11_init_71 : decode cX11_init 71 = .ok (.aload_n 0, 1) := by decide +kernel
theorem dX11_init_72 : decode cX11_init 72 = .ok (.getfield 20, 3) := by decide +kernel
theorem dX11_init_75 : decode cX11_init 75 = .ok (.iconst 0, 1) := by decide +kernel
theorem dX11_init_76 : decode cX11_init 76 = .ok (.bipush 60, 2) := by decide +kernel
theorem dX11_init_78 : decode cX11_init 78 = .ok (.iastore, 1) := by decide +kernel
theorem dX11_init_79 : decode cX11_init 79 = .ok (.aload_n 0, 1) := by decide +kernel
theorem dX11_init_80 : decode cX11_init 80 = .ok (.getfield 20, 3) := by decide +kernel
theorem dX11_init_83 : decode cX11_init 83 = .ok (.iconst 1, 1) := by decide +kernel
theorem dX11_init_84 : decode cX11_init 84 = .ok (.bipush 30, 2) := by decide +kernel
theorem dX11_init_86 : decode cX11_init 86 = .ok (.iastore, 1) := by decide +kernel
theorem dX11_init_87 : decode cX11_init 87 = .ok (.aload_n 0, 1) := by decide +kernel
theorem dX11_init_88 : decode cX11_init 88 = .ok (.getfield 20, 3) := by decide +kernel
theorem dX11_init_91 : decode cX11_init 91 = .ok (.iconst 2, 1) := by decide +kernel
theorem dX11_init_92 : decode cX11_init 92 = .ok (.bipush 20, 2) := by decide +kernel
theorem dX11_init_94 : decode cX11_init 94 = .ok (.iastore, 1) := by decide +kernel
theorem dX11_init_95 : decode cX11_init 95 = .ok (.aload_n 0, 1) := by decide +kernel
theorem dX11_init_96 : decode cX11_init 96 = .ok (.getfield 20, 3) := by decide +kernel
theorem dX11_init_99 : decode cX11_init 99 = .ok (.iconst 3, 1) := by decide +kernel
theorem dX11_init_100 : decode cX11_init 100 = .ok (.bipush 15, 2) := by decide +kernel
theorem dX11_init_102 : decode cX11_init 102 = .ok (.iastore, 1) := by decide +kernel
theorem dX11_init_103 : decode cX11_init 103 = .ok (.return_, 1) := by decide +kernel
theorem dX11_in_0 : decode cX11_in 0 = .ok (.iload_n 0, 1) := by decide +kernel
theorem dX11_in_1 : decode cX11_in 1 = .ok (.iload_n 1, 1) := by decide +kernel
theorem dX11_in_2 : decode cX11_in 2 = .ok (.if_icmp .lt 12, 3) := by decide +kernel
theorem dX11_in_5 : decode cX11_in 5 = .ok (.iload_n 0, 1) := by decide +kernel
theorem dX11_in_6 : decode cX11_in 6 = .ok (.iload_n 2, 1) := by decide +kernel
theorem dX11_in_7 : decode cX11_in 7 = .ok (.if_icmp .gt 7, 3) := by decide +kernel
theorem dX11_in_10 : decode cX11_in 10 = .ok (.iconst 1, 1) := by decide +kernel
theorem dX11_in_11 : decode cX11_in 11 = .ok (.goto 4, 3) := by decide +kernel
theorem dX11_in_14 : decode cX11_in 14 = .ok (.iconst 0, 1) := by decide +kernel
theorem dX11_in_15 : decode cX11_in 15 = .ok (.ireturn, 1) := by decide +kernel
theorem dX11_bits_0 : decode cX11_bits 0 = .ok (.iconst 0, 1) := by decide +kernel
theorem dX11_bits_1 : decode cX11_bits 1 = .ok (.istore_n 1, 1) := by decide +kernel
theorem dX11_bits_2 : decode cX11_bits 2 = .ok (.iconst 0, 1) := by decide +kernel
theorem dX11_bits_3 : decode cX11_bits 3 = .ok (.istore_n 2, 1) := by decide +kernel
theorem dX11_bits_4 : decode cX11_bits 4 = .ok (.iload_n 2, 1) := by decide +kernel
theorem dX11_bits_5 : decode cX11_bits 5 = .ok (.bipush 8, 2) := by decide +kernel
theorem dX11_bits_7 : decode cX11_bits 7 = .ok (.if_icmp .ge 17, 3) := by decide +kernel
theorem dX11_bits_10 : decode cX11_bits 10 = .ok (.iload_n 1, 1) := by decide +kernel
theorem dX11_bits_11 : decode cX11_bits 11 = .ok (.iload_n 0, 1) := by decide +kernel
theorem dX11_bits_12 : decode cX11_bits 12 = .ok (.iload_n 2, 1) := by decide +kernel
theorem dX11_bits_13 : decode cX11_bits 13 = .ok (.ishr, 1) := by decide +kernel
theorem dX11_bits_14 : decode cX11_bits 14 = .ok (.iconst 1, 1) := by decide +kernel
theorem dX11_bits_15 : decode cX11_bits 15 = .ok (.iand, 1) := by decide +kernel
theorem dX11_bits_16 : decode cX11_bits 16 = .ok (.iadd, 1) := by decide +kernel
theorem dX11_bits_17 : decode cX11_bits 17 = .ok (.istore_n 1, 1) := by decide +kernel
theorem dX11_bits_18 : decode cX11_bits 18 = .ok (.iinc 2 1, 3) := by decide +kernel
theorem dX11_bits_21 : decode cX11_bits 21 = .ok (.goto (-17), 3) := by decide +kernel
theorem dX11_bits_24 : decode cX11_bits 24 = .ok (.iload_n 1, 1) := by decide +kernel
theorem dX11_bits_25 : decode cX11_bits 25 = .ok (.ireturn, 1) := by decide +kernel
set_option maxRecDepth 20000 in
theorem ggX11_isHeap_X11_in : GoodIn wsX11_isHeap wsX11_in := goodIn_r _ [5] (by decide +kernel) (by decide +kernel)
set_option maxRecDepth 20000 in
theorem gX11_isHeap_X11_in : GoodIn wsX11_isHeap (va_wsS RX11 42 yX11_in wsX11_in) := goodIn_app (goodIn_of _ (by decide +kernel)) ggX11_isHeap_X11_in
theorem dX11_isHeap_0 : decode cX11_isHeap 0 = .ok (.iload_n 1, 1) := by decide +kernel
theorem dX11_isHeap_1 : decode cX11_isHeap 1 = .ok (.iconst 0, 1) := by decide +kernel
theorem dX11_isHeap_2 : decode cX11_isHeap 2 = .ok (.aload_n 0, 1) := by decide +kernel
theorem dX11_isHeap_3 : decode cX11_isHeap 3 = .ok (.getfield 39, 3) := by decide +kernel
theorem dX11_isHeap_6 : decode cX11_isHeap 6 = .ok (.iconst 1, 1) := by decide +kernel
theorem dX11_isHeap_7 : decode cX11_isHeap 7 = .ok (.isub, 1) := by decide +kernel
theorem dX11_isHeap_8 : decode cX11_isHeap 8 = .ok (.invokestatic 42, 3) := by decide +kernel
theorem dX11_isHeap_11 : decode cX11_isHeap 11 = .ok (.ireturn, 1) := by decide +kernel
set_option maxRecDepth 20000 in
theorem ggX11_heap_X11_in : GoodIn wsX11_heap wsX11_in := goodIn_r _ [7] (by decide +kernel) (by decide +kernel)
set_option maxRecDepth 20000 in
theorem gX11_heap_X11_in : GoodIn wsX11_heap (va_wsS RX11 42 yX11_in wsX11_in) := goodIn_app (goodIn_of _ (by decide +kernel)) ggX11_heap_X11_in
theorem dX11_heap_0 : decode cX11_heap 0 = .ok (.iload_n 1, 1) := by decide +kernel
theorem dX11_heap_1 : decode cX11_heap 1 = .ok (.iconst 1, 1) := by decide +kernel
theorem dX11_heap_2 : decode cX11_heap 2 = .ok (.sipush 255, 3) := by decide +kernel
theorem dX11_heap_5 : decode cX11_heap 5 = .ok (.invokestatic 42, 3) := by decide +kernel
theorem dX11_heap_8 : decode cX11_heap 8 = .ok (.ifCond .eq 13, 3) := by decide +kernel
theorem dX11_heap_11 : decode cX11_heap 11 = .ok (.iload_n 2, 1) := by decide +kernel
theorem dX11_heap_12 : decode cX11_heap 12 = .ok (.iconst 1, 1) := by decide +kernel
theorem dX11_heap_13 : decode cX11_heap 13 = .ok (.bipush 100, 2) := by decide +kernel
theorem dX11_heap_15 : decode cX11_heap 15 = .ok (.invokestatic 42, 3) := by decide +kernel
theorem dX11_heap_18 : decode cX11_heap 18 = .ok (.ifCond .ne 6, 3) := by decide +kernel
theorem dX11_heap_21 : decode cX11_heap 21 = .ok (.bipush (-2), 2) := by decide +kernel
theorem dX11_heap_23 : decode cX11_heap 23 = .ok (.ireturn, 1) := by decide +kernel
theorem dX11_heap_24 : decode cX11_heap 24 = .ok (.aload_n 0, 1) := by decide +kernel
theorem dX11_heap_25 : decode cX11_heap 25 = .ok (.getfield 39, 3) := by decide +kernel
theorem dX11_heap_28 : decode cX11_heap 28 = .ok (.bipush 6, 2) := by decide +kernel
theorem dX11_heap_30 : decode cX11_heap 30 = .ok (.if_icmp .ne 6, 3) := by decide +kernel
theorem dX11_heap_33 : decode cX11_heap 33 = .ok (.bipush (-4), 2) := by decide +kernel
theorem dX11_heap_35 : decode cX11_heap 35 = .ok (.ireturn, 1) := by decide +kernel
theorem dX11_heap_36 : decode cX11_heap 36 = .ok (.aload_n 0, 1) := by decide +kernel
theorem dX11_heap_37 : decode cX11_heap 37 = .ok (.getfield 7, 3) := by decide +kernel
theorem dX11_heap_40 : decode cX11_heap 40 = .ok (.aload_n 0, 1) := by decide +kernel
theorem dX11_heap_41 : decode cX11_heap 41 = .ok (.getfield 39, 3) := by decide +kernel
theorem dX11_heap_44 : decode cX11_heap 44 = .ok (.iload_n 1, 1) := by decide +kernel
theorem dX11_heap_45 : decode cX11_heap 45 = .ok (.iastore, 1) := by decide +kernel
theorem dX11_heap_46 : decode cX11_heap 46 = .ok (.aload_n 0, 1) := by decide +kernel
theorem dX11_heap_47 : decode cX11_heap 47 = .ok (.getfield 13, 3) := by decide +kernel
theorem dX11_heap_50 : decode cX11_heap 50 = .ok (.aload_n 0, 1) := by decide +kernel
theorem dX11_heap_51 : decode cX11_heap 51 = .ok (.getfield 39, 3) := by decide +kernel
theorem dX11_heap_54 : decode cX11_heap 54 = .ok (.iload_n 2, 1) := by decide +kernel
theorem dX11_heap_55 : decode cX11_heap 55 = .ok (.iastore, 1) := by decide +kernel
theorem dX11_heap_56 : decode cX11_heap 56 = .ok (.aload_n 0, 1) := by decide +kernel
theorem dX11_heap_57 : decode cX11_heap 57 = .ok (.dup, 1) := by decide +kernel
theorem dX11_heap_58 : decode cX11_heap 58 = .ok (.getfield 39, 3) := by decide +kernel
theorem dX11_heap_61 : decode cX11_heap 61 = .ok (.iconst 1, 1) := by decide +kernel
theorem dX11_heap_62 : decode cX11_heap 62 = .ok (.iadd, 1) := by decide +kernel
theorem dX11_heap_63 : decode cX11_heap 63 = .ok (.putfield 39, 3) := by decide +kernel
theorem dX11_heap_66 : decode cX11_heap 66 = .ok (.aload_n 0, 1) := by decide +kernel
theorem dX11_heap_67 : decode cX11_heap 67 = .ok (.getfield 39, 3) := by decide +kernel
theorem dX11_heap_70 : decode cX11_heap 70 = .ok (.iconst 1, 1) := by decide +kernel
theorem dX11_heap_71 : decode cX11_heap 71 = .ok (.isub, 1) := by decide +kernel
theorem dX11_heap_72 : decode cX11_heap 72 = .ok (.ireturn, 1) := by decide +kernel
set_option maxRecDepth 20000 in
theorem ggX11_change_X11_isHeap : GoodIn wsX11_change wsX11_isHeap := goodIn_r _ [7, 8, 9, 10, 6, 11, 12, 13, 14, 15, 16, 17, 18, 19, 20, 21, 22, 23, 24, 25, 26, 27, 28] (by decide +kernel) (by decide +kernel)
set_option maxRecDepth 20000 in
theorem gX11_change_X11_isHeap : GoodIn wsX11_change (wsV RX11 46 RX11 yX11_isHeap wsX11_isHeap) := goodIn_app (goodIn_of _ (by decide +kernel)) ggX11_change_X11_isHeap
set_option maxRecDepth 20000 in
theorem ggX11_change_X11_in : GoodIn wsX11_change wsX11_in := goodIn_r _ [11] (by decide +kernel) (by decide +kernel)
set_option maxRecDepth 20000 in
theorem gX11_change_X11_in : GoodIn wsX11_change (va_wsS RX11 42 yX11_in wsX11_in) := goodIn_app (goodIn_of _ (by decide +kernel)) ggX11_change_X11_in
theorem dX11_change_0 : decode cX11_change 0 = .ok (.aload_n 0, 1) := by decide +kernel
theorem dX11_change_1 : decode cX11_change 1 = .ok (.iload_n 1, 1) := by decide +kernel
theorem dX11_change_2 : decode cX11_change 2 = .ok (.invokevirtual 46, 3) := by decide +kernel
theorem dX11_change_5 : decode cX11_change 5 = .ok (.ifCond .ne 5, 3) := by decide +kernel
theorem dX11_change_8 : decode cX11_change 8 = .ok (.iconst (-1), 1) := by decide +kernel
theorem dX11_change_9 : decode cX11_change 9 = .ok (.ireturn, 1) := by decide +kernel
theorem dX11_change_10 : decode cX11_change 10 = .ok (.iload_n 2, 1) := by decide +kernel
theorem dX11_change_11 : decode cX11_change 11 = .ok (.iconst 0, 1) := by decide +kernel
theorem dX11_change_12 : decode cX11_change 12 = .ok (.iconst 1, 1) := by decide +kernel
theorem dX11_change_13 : decode cX11_change 13 = .ok (.invokestatic 42, 3) := by decide +kernel
theorem dX11_change_16 : decode cX11_change 16 = .ok (.ifCond .eq 23, 3) := by decide +kernel
theorem dX11_change_19 : decode cX11_change 19 = .ok (.iload_n 3, 1) := by decide +kernel
theorem dX11_change_20 : decode cX11_change 20 = .ok (.iconst 1, 1) := by decide +kernel
theorem dX11_change_21 : decode cX11_change 21 = .ok (.iload_n 2, 1) := by decide +kernel
theorem dX11_change_22 : decode cX11_change 22 = .ok (.ifCond .ne 9, 3) := by decide +kernel
theorem dX11_change_25 : decode cX11_change 25 = .ok (.sipush 255, 3) := by decide +kernel
theorem dX11_change_28 : decode cX11_change 28 = .ok (.goto 5, 3) := by decide +kernel
theorem dX11_change_31 : decode cX11_change 31 = .ok (.bipush 100, 2) := by decide +kernel
theorem dX11_change_33 : decode cX11_change 33 = .ok (.invokestatic 42, 3) := by decide +kernel
theorem dX11_change_36 : decode cX11_change 36 = .ok (.ifCond .ne 6, 3) := by decide +kernel
theorem dX11_change_39 : decode cX11_change 39 = .ok (.bipush (-2), 2) := by decide +kernel
theorem dX11_change_41 : decode cX11_change 41 = .ok (.ireturn, 1) := by decide +kernel
theorem dX11_change_42 : decode cX11_change 42 = .ok (.iload_n 2, 1) := by decide +kernel
theorem dX11_change_43 : decode cX11_change 43 = .ok (.ifCond .ne 12, 3) := by decide +kernel
theorem dX11_change_46 : decode cX11_change 46 = .ok (.aload_n 0, 1) := by decide +kernel
theorem dX11_change_47 : decode cX11_change 47 = .ok (.getfield 7, 3) := by decide +kernel
theorem dX11_change_50 : decode cX11_change 50 = .ok (.iload_n 1, 1) := by decide +kernel
theorem dX11_change_51 : decode cX11_change 51 = .ok (.iaload, 1) := by decide +kernel
theorem dX11_change_52 : decode cX11_change 52 = .ok (.goto 9, 3) := by decide +kernel
theorem dX11_change_55 : decode cX11_change 55 = .ok (.aload_n 0, 1) := by decide +kernel
theorem dX11_change_56 : decode cX11_change 56 = .ok (.getfield 13, 3) := by decide +kernel
theorem dX11_change_59 : decode cX11_change 59 = .ok (.iload_n 1, 1) := by decide +kernel
theorem dX11_change_60 : decode cX11_change 60 = .ok (.iaload, 1) := by decide +kernel
theorem dX11_change_61 : decode cX11_change 61 = .ok (.istore 4, 2) := by decide +kernel
theorem dX11_change_63 : decode cX11_change 63 = .ok (.iload_n 2, 1) := by decide +kernel
theorem dX11_change_64 : decode cX11_change 64 = .ok (.ifCond .ne 13, 3) := by decide +kernel
theorem dX11_change_67 : decode cX11_change 67 = .ok (.aload_n 0, 1) := by decide +kernel
theorem dX11_change_68 : decode cX11_change 68 = .ok (.getfield 7, 3) := by decide +kernel
theorem dX11_change_71 : decode cX11_change 71 = .ok (.iload_n 1, 1) := by decide +kernel
theorem dX11_change_72 : decode cX11_change 72 = .ok (.iload_n 3, 1) := by decide +kernel
theorem dX11_change_73 : decode cX11_change 73 = .ok (.iastore, 1) := by decide +kernel
theorem dX11_change_74 : decode cX11_change 74 = .ok (.goto 10, 3) := by decide +kernel
theorem dX11_change_77 : decode cX11_change 77 = .ok (.aload_n 0, 1) := by decide +kernel
theorem dX11_change_78 : decode cX11_change 78 = .ok (.getfield 13, 3) := by decide +kernel
theorem dX11_change_81 : decode cX11_change 81 = .ok (.iload_n 1, 1) := by decide +kernel
theorem dX11_change_82 : decode cX11_change 82 = .ok (.iload_n 3, 1) := by decide +kernel
theorem dX11_change_83 : decode cX11_change 83 = .ok (.iastore, 1) := by decide +kernel
theorem dX11_change_84 : decode cX11_change 84 = .ok (.iload 4, 2) := by decide +kernel
theorem dX11_change_86 : decode cX11_change 86 = .ok (.ireturn, 1) := by decide +kernel
theorem dX11_drop_0 : decode cX11_drop 0 = .ok (.aload_n 0, 1) := by decide +kernel
theorem dX11_drop_1 : decode cX11_drop 1 = .ok (.getfield 39, 3) := by decide +kernel
theorem dX11_drop_4 : decode cX11_drop 4 = .ok (.ifCond .ne 6, 3) := by decide +kernel
theorem dX11_drop_7 : decode cX11_drop 7 = .ok (.bipush (-5), 2) := by decide +kernel
theorem dX11_drop_9 : decode cX11_drop 9 = .ok (.ireturn, 1) := by decide +kernel
theorem dX11_drop_10 : decode cX11_drop 10 = .ok (.aload_n 0, 1) := by decide +kernel
theorem dX11_drop_11 : decode cX11_drop 11 = .ok (.dup, 1) := by decide +kernel
theorem dX11_drop_12 : decode cX11_drop 12 = .ok (.getfield 39, 3) := by decide +kernel
theorem dX11_drop_15 : decode cX11_drop 15 = .ok (.iconst 1, 1) := by decide +kernel
theorem dX11_drop_16 : decode cX11_drop 16 = .ok (.isub, 1) := by decide +kernel
theorem dX11_drop_17 : decode cX11_drop 17 = .ok (.putfield 39, 3) := by decide +kernel
theorem dX11_drop_20 : decode cX11_drop 20 = .ok (.aload_n 0, 1) := by decide +kernel
theorem dX11_drop_21 : decode cX11_drop 21 = .ok (.getfield 39, 3) := by decide +kernel
theorem dX11_drop_24 : decode cX11_drop 24 = .ok (.ireturn, 1) := by decide +kernel
set_option maxRecDepth 20000 in
theorem ggX11_seats_X11_in : GoodIn wsX11_seats wsX11_in := goodIn_r _ [5] (by decide +kernel) (by decide +kernel)
set_option maxRecDepth 20000 in
theorem gX11_seats_X11_in : GoodIn wsX11_seats (va_wsS RX11 42 yX11_in wsX11_in) := goodIn_app (goodIn_of _ (by decide +kernel)) ggX11_seats_X11_in
theorem dX11_seats_0 : decode cX11_seats 0 = .ok (.iload_n 1, 1) := by decide +kernel
theorem dX11_seats_1 : decode cX11_seats 1 = .ok (.iconst 1, 1) := by decide +kernel
theorem dX11_seats_2 : decode cX11_seats 2 = .ok (.iconst 4, 1) := by decide +kernel
theorem dX11_seats_3 : decode cX11_seats 3 = .ok (.invokestatic 42, 3) := by decide +kernel
theorem dX11_seats_6 : decode cX11_seats 6 = .ok (.ifCond .ne 6, 3) := by decide +kernel
theorem dX11_seats_9 : decode cX11_seats 9 = .ok (.bipush (-2), 2) := by decide +kernel
theorem dX11_seats_11 : decode cX11_seats 11 = .ok (.ireturn, 1) := by decide +kernel
theorem dX11_seats_12 : decode cX11_seats 12 = .ok (.aload_n 0, 1) := by decide +kernel
theorem dX11_seats_13 : decode cX11_seats 13 = .ok (.getfield 16, 3) := by decide +kernel
theorem dX11_seats_16 : decode cX11_seats 16 = .ok (.istore_n 2, 1) := by decide +kernel
theorem dX11_seats_17 : decode cX11_seats 17 = .ok (.aload_n 0, 1) := by decide +kernel
theorem dX11_seats_18 : decode cX11_seats 18 = .ok (.iload_n 1, 1) := by decide +kernel
theorem dX11_seats_19 : decode cX11_seats 19 = .ok (.putfield 16, 3) := by decide +kernel
theorem dX11_seats_22 : decode cX11_seats 22 = .ok (.iload_n 2, 1) := by decide +kernel
theorem dX11_seats_23 : decode cX11_seats 23 = .ok (.ireturn, 1) := by decide +kernel
set_option maxRecDepth 20000 in
theorem ggX11_worth_X11_in : GoodIn wsX11_worth wsX11_in := goodIn_r _ [5] (by decide +kernel) (by decide +kernel)
set_option maxRecDepth 20000 in
theorem gX11_worth_X11_in : GoodIn wsX11_worth (va_wsS RX11 42 yX11_in wsX11_in) := goodIn_app (goodIn_of _ (by decide +kernel)) ggX11_worth_X11_in
theorem dX11_worth_0 : decode cX11_worth 0 = .ok (.iload_n 1, 1) := by decide +kernel
theorem dX11_worth_1 : decode cX11_worth 1 = .ok (.iconst 0, 1) := by decide +kernel
theorem dX11_worth_2 : decode cX11_worth 2 = .ok (.iconst 3, 1) := by decide +kernel
theorem dX11_worth_3 : decode cX11_worth 3 = .ok (.invokestatic 42, 3) := by decide +kernel
theorem dX11_worth_6 : decode cX11_worth 6 = .ok (.ifCond .eq 44, 3) := by decide +kernel
theorem dX11_worth_9 : decode cX11_worth 9 = .ok (.iload_n 2, 1) := by decide +kernel
theorem dX11_worth_10 : decode cX11_worth 10 = .ok (.iload_n 1, 1) := by decide +kernel
theorem dX11_worth_11 : decode cX11_worth 11 = .ok (.iconst 3, 1) := by decide +kernel
theorem dX11_worth_12 : decode cX11_worth 12 = .ok (.if_icmp .ge 14, 3) := by decide +kernel
theorem dX11_worth_15 : decode cX11_worth 15 = .ok (.aload_n 0, 1) := by decide +kernel
theorem dX11_worth_16 : decode cX11_worth 16 = .ok (.getfield 20, 3) := by decide +kernel
theorem dX11_worth_19 : decode cX11_worth 19 = .ok (.iload_n 1, 1) := by decide +kernel
theorem dX11_worth_20 : decode cX11_worth 20 = .ok (.iconst 1, 1) := by decide +kernel
theorem dX11_worth_21 : decode cX11_worth 21 = .ok (.iadd, 1) := by decide +kernel
theorem dX11_worth_22 : decode cX11_worth 22 = .ok (.iaload, 1) := by decide +kernel
theorem dX11_worth_23 : decode cX11_worth 23 = .ok (.goto 4, 3) := by decide +kernel
theorem dX11_worth_26 : decode cX11_worth 26 = .ok (.iconst 0, 1) := by decide +kernel
theorem dX11_worth_27 : decode cX11_worth 27 = .ok (.iload_n 1, 1) := by decide +kernel
theorem dX11_worth_28 : decode cX11_worth 28 = .ok (.ifCond .le 14, 3) := by decide +kernel
theorem dX11_worth_31 : decode cX11_worth 31 = .ok (.aload_n 0, 1) := by decide +kernel
theorem dX11_worth_32 : decode cX11_worth 32 = .ok (.getfield 20, 3) := by decide +kernel
theorem dX11_worth_35 : decode cX11_worth 35 = .ok (.iload_n 1, 1) := by decide +kernel
theorem dX11_worth_36 : decode cX11_worth 36 = .ok (.iconst 1, 1) := by decide +kernel
theorem dX11_worth_37 : decode cX11_worth 37 = .ok (.isub, 1) := by decide +kernel
theorem dX11_worth_38 : decode cX11_worth 38 = .ok (.iaload, 1) := by decide +kernel
theorem dX11_worth_39 : decode cX11_worth 39 = .ok (.goto 5, 3) := by decide +kernel
theorem dX11_worth_42 : decode cX11_worth 42 = .ok (.bipush 60, 2) := by decide +kernel
theorem dX11_worth_44 : decode cX11_worth 44 = .ok (.invokestatic 42, 3) := by decide +kernel
theorem dX11_worth_47 : decode cX11_worth 47 = .ok (.ifCond .ne 6, 3) := by decide +kernel
theorem dX11_worth_50 : decode cX11_worth 50 = .ok (.bipush (-2), 2) := by decide +kernel
theorem dX11_worth_52 : decode cX11_worth 52 = .ok (.ireturn, 1) := by decide +kernel
theorem dX11_worth_53 : decode cX11_worth 53 = .ok (.aload_n 0, 1) := by decide +kernel
theorem dX11_worth_54 : decode cX11_worth 54 = .ok (.getfield 20, 3) := by decide +kernel
theorem dX11_worth_57 : decode cX11_worth 57 = .ok (.iload_n 1, 1) := by decide +kernel
theorem dX11_worth_58 : decode cX11_worth 58 = .ok (.iaload, 1) := by decide +kernel
theorem dX11_worth_59 : decode cX11_worth 59 = .ok (.istore_n 3, 1) := by decide +kernel
theorem dX11_worth_60 : decode cX11_worth 60 = .ok (.aload_n 0, 1) := by decide +kernel
theorem dX11_worth_61 : decode cX11_worth 61 = .ok (.getfield 20, 3) := by decide +kernel
theorem dX11_worth_64 : decode cX11_worth 64 = .ok (.iload_n 1, 1) := by decide +kernel
theorem dX11_worth_65 : decode cX11_worth 65 = .ok (.iload_n 2, 1) := by decide +kernel
theorem dX11_worth_66 : decode cX11_worth 66 = .ok (.iastore, 1) := by decide +kernel
theorem dX11_worth_67 : decode cX11_worth 67 = .ok (.iload_n 3, 1) := by decide +kernel
theorem dX11_worth_68 : decode cX11_worth 68 = .ok (.ireturn, 1) := by decide +kernel
set_option maxRecDepth 20000 in
theorem ggX11_say_X11_in : GoodIn wsX11_say wsX11_in := goodIn_r _ [6] (by decide +kernel) (by decide +kernel)
set_option maxRecDepth 20000 in
theorem gX11_say_X11_in : GoodIn wsX11_say (va_wsS RX11 42 yX11_in wsX11_in) := goodIn_app (goodIn_of _ (by decide +kernel)) ggX11_say_X11_in
theorem dX11_say_0 : decode cX11_say 0 = .ok (.iload_n 1, 1) := by decide +kernel
theorem dX11_say_1 : decode cX11_say 1 = .ok (.bipush 33, 2) := by decide +kernel
theorem dX11_say_3 : decode cX11_say 3 = .ok (.bipush 126, 2) := by decide +kernel
theorem dX11_say_5 : decode cX11_say 5 = .ok (.invokestatic 42, 3) := by decide +kernel
theorem dX11_say_8 : decode cX11_say 8 = .ok (.ifCond .ne 6, 3) := by decide +kernel
theorem dX11_say_11 : decode cX11_say 11 = .ok (.bipush (-2), 2) := by decide +kernel
theorem dX11_say_13 : decode cX11_say 13 = .ok (.ireturn, 1) := by decide +kernel
theorem dX11_say_14 : decode cX11_say 14 = .ok (.aload_n 0, 1) := by decide +kernel
theorem dX11_say_15 : decode cX11_say 15 = .ok (.getfield 50, 3) := by decide +kernel
theorem dX11_say_18 : decode cX11_say 18 = .ok (.bipush 40, 2) := by decide +kernel
theorem dX11_say_20 : decode cX11_say 20 = .ok (.if_icmp .ne 6, 3) := by decide +kernel
theorem dX11_say_23 : decode cX11_say 23 = .ok (.bipush (-4), 2) := by decide +kernel
theorem dX11_say_25 : decode cX11_say 25 = .ok (.ireturn, 1) := by decide +kernel
theorem dX11_say_26 : decode cX11_say 26 = .ok (.aload_n 0, 1) := by decide +kernel
theorem dX11_say_27 : decode cX11_say 27 = .ok (.getfield 23, 3) := by decide +kernel
theorem dX11_say_30 : decode cX11_say 30 = .ok (.aload_n 0, 1) := by decide +kernel
theorem dX11_say_31 : decode cX11_say 31 = .ok (.getfield 50, 3) := by decide +kernel
theorem dX11_say_34 : decode cX11_say 34 = .ok (.iload_n 1, 1) := by decide +kernel
theorem dX11_say_35 : decode cX11_say 35 = .ok (.iastore, 1) := by decide +kernel
theorem dX11_say_36 : decode cX11_say 36 = .ok (.aload_n 0, 1) := by decide +kernel
theorem dX11_say_37 : decode cX11_say 37 = .ok (.dup, 1) := by decide +kernel
theorem dX11_say_38 : decode cX11_say 38 = .ok (.getfield 50, 3) := by decide +kernel
theorem dX11_say_41 : decode cX11_say 41 = .ok (.iconst 1, 1) := by decide +kernel
theorem dX11_say_42 : decode cX11_say 42 = .ok (.iadd, 1) := by decide +kernel
theorem dX11_say_43 : decode cX11_say 43 = .ok (.putfield 50, 3) := by decide +kernel
theorem dX11_say_46 : decode cX11_say 46 = .ok (.aload_n 0, 1) := by decide +kernel
theorem dX11_say_47 : decode cX11_say 47 = .ok (.getfield 50, 3) := by decide +kernel
theorem dX11_say_50 : decode cX11_say 50 = .ok (.ireturn, 1) := by decide +kernel
theorem dX11_wipe_0 : decode cX11_wipe 0 = .ok (.aload_n 0, 1) := by decide +kernel
theorem dX11_wipe_1 : decode cX11_wipe 1 = .ok (.getfield 50, 3) := by decide +kernel
theorem dX11_wipe_4 : decode cX11_wipe 4 = .ok (.istore_n 1, 1) := by decide +kernel
theorem dX11_wipe_5 : decode cX11_wipe 5 = .ok (.aload_n 0, 1) := by decide +kernel
theorem dX11_wipe_6 : decode cX11_wipe 6 = .ok (.iconst 0, 1) := by decide +kernel
theorem dX11_wipe_7 : decode cX11_wipe 7 = .ok (.putfield 50, 3) := by decide +kernel
theorem dX11_wipe_10 : decode cX11_wipe 10 = .ok (.iload_n 1, 1) := by decide +kernel
theorem dX11_wipe_11 : decode cX11_wipe 11 = .ok (.ireturn, 1) := by decide +kernel
set_option maxRecDepth 20000 in
theorem ggX11_faultOf_X11_in : GoodIn wsX11_faultOf wsX11_in := goodIn_r _ [6] (by decide +kernel) (by decide +kernel)
set_option maxRecDepth 20000 in
theorem gX11_faultOf_X11_in : GoodIn wsX11_faultOf (va_wsS RX11 42 yX11_in wsX11_in) := goodIn_app (goodIn_of _ (by decide +kernel)) ggX11_faultOf_X11_in
theorem dX11_faultOf_0 : decode cX11_faultOf 0 = .ok (.iconst 0, 1) := by decide +kernel
theorem dX11_faultOf_1 : decode cX11_faultOf 1 = .ok (.istore_n 1, 1) := by decide +kernel
theorem dX11_faultOf_2 : decode cX11_faultOf 2 = .ok (.iconst 0, 1) := by decide +kernel
theorem dX11_faultOf_3 : decode cX11_faultOf 3 = .ok (.istore_n 2, 1) := by decide +kernel
theorem dX11_faultOf_4 : decode cX11_faultOf 4 = .ok (.iconst 0, 1) := by decide +kernel
theorem dX11_faultOf_5 : decode cX11_faultOf 5 = .ok (.istore_n 3, 1) := by decide +kernel
theorem dX11_faultOf_6 : decode cX11_faultOf 6 = .ok (.iload_n 3, 1) := by decide +kernel
theorem dX11_faultOf_7 : decode cX11_faultOf 7 = .ok (.aload_n 0, 1) := by decide +kernel
theorem dX11_faultOf_8 : decode cX11_faultOf 8 = .ok (.getfield 50, 3) := by decide +kernel
theorem dX11_faultOf_11 : decode cX11_faultOf 11 = .ok (.if_icmp .ge 178, 3) := by decide +kernel
theorem dX11_faultOf_14 : decode cX11_faultOf 14 = .ok (.aload_n 0, 1) := by decide +kernel
theorem dX11_faultOf_15 : decode cX11_faultOf 15 = .ok (.getfield 23, 3) := by decide +kernel
theorem dX11_faultOf_18 : decode cX11_faultOf 18 = .ok (.iload_n 3, 1) := by decide +kernel
theorem dX11_faultOf_19 : decode cX11_faultOf 19 = .ok (.iaload, 1) := by decide +kernel
theorem dX11_faultOf_20 : decode cX11_faultOf 20 = .ok (.istore 4, 2) := by decide +kernel
theorem dX11_faultOf_22 : decode cX11_faultOf 22 = .ok (.iload 4, 2) := by decide +kernel
theorem dX11_faultOf_24 : decode cX11_faultOf 24 = .ok (.bipush 97, 2) := by decide +kernel
theorem dX11_faultOf_26 : decode cX11_faultOf 26 = .ok (.bipush 104, 2) := by decide +kernel
theorem dX11_faultOf_28 : decode cX11_faultOf 28 = .ok (.invokestatic 42, 3) := by decide +kernel
theorem dX11_faultOf_31 : decode cX11_faultOf 31 = .ok (.ifCond .eq 13, 3) := by decide +kernel
theorem dX11_faultOf_34 : decode cX11_faultOf 34 = .ok (.iload 4, 2) := by decide +kernel
theorem dX11_faultOf_36 : decode cX11_faultOf 36 = .ok (.iload_n 2, 1) := by decide +kernel
theorem dX11_faultOf_37 : decode cX11_faultOf 37 = .ok (.if_icmp .le 7, 3) := by decide +kernel
theorem dX11_faultOf_40 : decode cX11_faultOf 40 = .ok (.iconst 1, 1) := by decide +kernel
theorem dX11_faultOf_41 : decode cX11_faultOf 41 = .ok (.goto 4, 3) := by decide +kernel
theorem dX11_faultOf_44 : decode cX11_faultOf 44 = .ok (.iconst 0, 1) := by decide +kernel
theorem dX11_faultOf_45 : decode cX11_faultOf 45 = .ok (.istore 5, 2) := by decide +kernel
theorem dX11_faultOf_47 : decode cX11_faultOf 47 = .ok (.bipush (-6), 2) := by decide +kernel
theorem dX11_faultOf_49 : decode cX11_faultOf 49 = .ok (.istore 6, 2) := by decide +kernel
theorem dX11_faultOf_51 : decode cX11_faultOf 51 = .ok (.iload_n 1, 1) := by decide +kernel
theorem dX11_faultOf_52 : decode cX11_faultOf 52 = .ok (.ifCond .ne 26, 3) := by decide +kernel
theorem dX11_faultOf_55 : decode cX11_faultOf 55 = .ok (.iload 4, 2) := by decide +kernel
theorem dX11_faultOf_57 : decode cX11_faultOf 57 = .ok (.bipush 97, 2) := by decide +kernel
theorem dX11_faultOf_59 : decode cX11_faultOf 59 = .ok (.bipush 104, 2) := by decide +kernel
theorem dX11_faultOf_61 : decode cX11_faultOf 61 = .ok (.invokestatic 42, 3) := by decide +kernel
theorem dX11_faultOf_64 : decode cX11_faultOf 64 = .ok (.ifCond .eq 7, 3) := by decide +kernel
theorem dX11_faultOf_67 : decode cX11_faultOf 67 = .ok (.iconst 1, 1) := by decide +kernel
theorem dX11_faultOf_68 : decode cX11_faultOf 68 = .ok (.goto 5, 3) := by decide +kernel
theorem dX11_faultOf_71 : decode cX11_faultOf 71 = .ok (.bipush (-6), 2) := by decide +kernel
theorem dX11_faultOf_73 : decode cX11_faultOf 73 = .ok (.istore 6, 2) := by decide +kernel
theorem dX11_faultOf_75 : decode cX11_faultOf 75 = .ok (.goto 85, 3) := by decide +kernel
theorem dX11_faultOf_78 : decode cX11_faultOf 78 = .ok (.iload_n 1, 1) := by decide +kernel
theorem dX11_faultOf_79 : decode cX11_faultOf 79 = .ok (.iconst 1, 1) := by decide +kernel
theorem dX11_faultOf_80 : decode cX11_faultOf 80 = .ok (.if_icmp .ne 37, 3) := by decide +kernel
theorem dX11_faultOf_83 : decode cX11_faultOf 83 = .ok (.iload 5, 2) := by decide +kernel
theorem dX11_faultOf_85 : decode cX11_faultOf 85 = .ok (.ifCond .eq 7, 3) := by decide +kernel
theorem dX11_faultOf_88 : decode cX11_faultOf 88 = .ok (.iconst 1, 1) := by decide +kernel
theorem dX11_faultOf_89 : decode cX11_faultOf 89 = .ok (.goto 23, 3) := by decide +kernel
theorem dX11_faultOf_92 : decode cX11_faultOf 92 = .ok (.iload 4, 2) := by decide +kernel
theorem dX11_faultOf_94 : decode cX11_faultOf 94 = .ok (.bipush 60, 2) := by decide +kernel
theorem dX11_faultOf_96 : decode cX11_faultOf 96 = .ok (.if_icmp .eq 10, 3) := by decide +kernel
theorem dX11_faultOf_99 : decode cX11_faultOf 99 = .ok (.iload 4, 2) := by decide +kernel
theorem dX11_faultOf_101 : decode cX11_faultOf 101 = .ok (.bipush 62, 2) := by decide +kernel
theorem dX11_faultOf_103 : decode cX11_faultOf 103 = .ok (.if_icmp .ne 7, 3) := by decide +kernel
theorem dX11_faultOf_106 : decode cX11_faultOf 106 = .ok (.iconst 2, 1) := by decide +kernel
theorem dX11_faultOf_107 : decode cX11_faultOf 107 = .ok (.goto 5, 3) := by decide +kernel
theorem dX11_faultOf_110 : decode cX11_faultOf 110 = .ok (.bipush (-6), 2) := by decide +kernel
theorem dX11_faultOf_112 : decode cX11_faultOf 112 = .ok (.istore 6, 2) := by decide +kernel
theorem dX11_faultOf_114 : decode cX11_faultOf 114 = .ok (.goto 46, 3) := by decide +kernel
theorem dX11_faultOf_117 : decode cX11_faultOf 117 = .ok (.iload_n 1, 1) := by decide +kernel
theorem dX11_faultOf_118 : decode cX11_faultOf 118 = .ok (.iconst 2, 1) := by decide +kernel
theorem dX11_faultOf_119 : decode cX11_faultOf 119 = .ok (.if_icmp .ne 26, 3) := by decide +kernel
theorem dX11_faultOf_122 : decode cX11_faultOf 122 = .ok (.iload 4, 2) := by decide +kernel
theorem dX11_faultOf_124 : decode cX11_faultOf 124 = .ok (.bipush 48, 2) := by decide +kernel
theorem dX11_faultOf_126 : decode cX11_faultOf 126 = .ok (.bipush 52, 2) := by decide +kernel
theorem dX11_faultOf_128 : decode cX11_faultOf 128 = .ok (.invokestatic 42, 3) := by decide +kernel
theorem dX11_faultOf_131 : decode cX11_faultOf 131 = .ok (.ifCond .eq 7, 3) := by decide +kernel
theorem dX11_faultOf_134 : decode cX11_faultOf 134 = .ok (.iconst 3, 1) := by decide +kernel
theorem dX11_faultOf_135 : decode cX11_faultOf 135 = .ok (.goto 5, 3) := by decide +kernel
theorem dX11_faultOf_138 : decode cX11_faultOf 138 = .ok (.bipush (-6), 2) := by decide +kernel
theorem dX11_faultOf_140 : decode cX11_faultOf 140 = .ok (.istore 6, 2) := by decide +kernel
theorem dX11_faultOf_142 : decode cX11_faultOf 142 = .ok (.goto 18, 3) := by decide +kernel
theorem dX11_faultOf_145 : decode cX11_faultOf 145 = .ok (.iload 4, 2) := by decide +kernel
theorem dX11_faultOf_147 : decode cX11_faultOf 147 = .ok (.bipush 59, 2) := by decide +kernel
theorem dX11_faultOf_149 : decode cX11_faultOf 149 = .ok (.if_icmp .ne 7, 3) := by decide +kernel
theorem dX11_faultOf_152 : decode cX11_faultOf 152 = .ok (.iconst 0, 1) := by decide +kernel
theorem dX11_faultOf_153 : decode cX11_faultOf 153 = .ok (.goto 5, 3) := by decide +kernel
theorem dX11_faultOf_156 : decode cX11_faultOf 156 = .ok (.bipush (-6), 2) := by decide +kernel
theorem dX11_faultOf_158 : decode cX11_faultOf 158 = .ok (.istore 6, 2) := by decide +kernel
theorem dX11_faultOf_160 : decode cX11_faultOf 160 = .ok (.iload 6, 2) := by decide +kernel
theorem dX11_faultOf_162 : decode cX11_faultOf 162 = .ok (.ifCond .ge 5, 3) := by decide +kernel
theorem dX11_faultOf_165 : decode cX11_faultOf 165 = .ok (.iload_n 3, 1) := by decide +kernel
theorem dX11_faultOf_166 : decode cX11_faultOf 166 = .ok (.ireturn, 1) := by decide +kernel
theorem dX11_faultOf_167 : decode cX11_faultOf 167 = .ok (.iload 6, 2) := by decide +kernel
theorem dX11_faultOf_169 : decode cX11_faultOf 169 = .ok (.iconst 1, 1) := by decide +kernel
theorem dX11_faultOf_170 : decode cX11_faultOf 170 = .ok (.if_icmp .ne 8, 3) := by decide +kernel
theorem dX11_faultOf_173 : decode cX11_faultOf 173 = .ok (.iload 4, 2) := by decide +kernel
theorem dX11_faultOf_175 : decode cX11_faultOf 175 = .ok (.goto 4, 3) := by decide +kernel
theorem dX11_faultOf_178 : decode cX11_faultOf 178 = .ok (.iconst 0, 1) := by decide +kernel
theorem dX11_faultOf_179 : decode cX11_faultOf 179 = .ok (.istore_n 2, 1) := by decide +kernel
theorem dX11_faultOf_180 : decode cX11_faultOf 180 = .ok (.iload 6, 2) := by decide +kernel
theorem dX11_faultOf_182 : decode cX11_faultOf 182 = .ok (.istore_n 1, 1) := by decide +kernel
theorem dX11_faultOf_183 : decode cX11_faultOf 183 = .ok (.iinc 3 1, 3) := by decide +kernel
theorem dX11_faultOf_186 : decode cX11_faultOf 186 = .ok (.goto (-180), 3) := by decide +kernel
theorem dX11_faultOf_189 : decode cX11_faultOf 189 = .ok (.iload_n 1, 1) := by decide +kernel
theorem dX11_faultOf_190 : decode cX11_faultOf 190 = .ok (.iconst 3, 1) := by decide +kernel
theorem dX11_faultOf_191 : decode cX11_faultOf 191 = .ok (.if_icmp .ne 8, 3) := by decide +kernel
theorem dX11_faultOf_194 : decode cX11_faultOf 194 = .ok (.bipush (-6), 2) := by decide +kernel
theorem dX11_faultOf_196 : decode cX11_faultOf 196 = .ok (.goto 7, 3) := by decide +kernel
theorem dX11_faultOf_199 : decode cX11_faultOf 199 = .ok (.aload_n 0, 1) := by decide +kernel
theorem dX11_faultOf_200 : decode cX11_faultOf 200 = .ok (.getfield 50, 3) := by decide +kernel
theorem dX11_faultOf_203 : decode cX11_faultOf 203 = .ok (.ireturn, 1) := by decide +kernel
set_option maxRecDepth 20000 in
theorem ggX11_fault_X11_faultOf : GoodIn wsX11_fault wsX11_faultOf := goodIn_r _ [5, 6, 7, 8, 9, 4, 10, 11, 12, 13, 14, 15, 16, 17, 18, 19, 20, 21, 22, 23, 24, 25, 26, 27] (by decide +kernel) (by decide +kernel)
set_option maxRecDepth 20000 in
theorem gX11_fault_X11_faultOf : GoodIn wsX11_fault (wsV RX11 53 RX11 yX11_faultOf wsX11_faultOf) := goodIn_app (goodIn_of _ (by decide +kernel)) ggX11_fault_X11_faultOf
theorem dX11_fault_0 : decode cX11_fault 0 = .ok (.aload_n 0, 1) := by decide +kernel
theorem dX11_fault_1 : decode cX11_fault 1 = .ok (.invokevirtual 53, 3) := by decide +kernel
theorem dX11_fault_4 : decode cX11_fault 4 = .ok (.ireturn, 1) := by decide +kernel
set_option maxRecDepth 20000 in
theorem ggX11_hall_X11_faultOf : GoodIn wsX11_hall wsX11_faultOf := goodIn_r _ [9, 1, 4, 10, 11, 8, 12, 13, 14, 15, 16, 17, 18, 19, 20, 21, 22, 23, 24, 25, 26, 27, 28, 29] (by decide +kernel) (by decide +kernel)
set_option maxRecDepth 20000 in
theorem gX11_hall_X11_faultOf : GoodIn wsX11_hall (wsV RX11 53 RX11 yX11_faultOf wsX11_faultOf) := goodIn_app (goodIn_of _ (by decide +kernel)) ggX11_hall_X11_faultOf
theorem dX11_hall_0 : decode cX11_hall 0 = .ok (.aload_n 0, 1) := by decide +kernel
theorem dX11_hall_1 : decode cX11_hall 1 = .ok (.invokevirtual 53, 3) := by decide +kernel
theorem dX11_hall_4 : decode cX11_hall 4 = .ok (.ifCond .lt 6, 3) := by decide +kernel
theorem dX11_hall_7 : decode cX11_hall 7 = .ok (.bipush (-5), 2) := by decide +kernel
theorem dX11_hall_9 : decode cX11_hall 9 = .ok (.ireturn, 1) := by decide +kernel
theorem dX11_hall_10 : decode cX11_hall 10 = .ok (.aload_n 0, 1) := by decide +kernel
theorem dX11_hall_11 : decode cX11_hall 11 = .ok (.aload_n 0, 1) := by decide +kernel
theorem dX11_hall_12 : decode cX11_hall 12 = .ok (.getfield 50, 3) := by decide +kernel
theorem dX11_hall_15 : decode cX11_hall 15 = .ok (.putfield 57, 3) := by decide +kernel
theorem dX11_hall_18 : decode cX11_hall 18 = .ok (.iconst 0, 1) := by decide +kernel
theorem dX11_hall_19 : decode cX11_hall 19 = .ok (.istore_n 1, 1) := by decide +kernel
theorem dX11_hall_20 : decode cX11_hall 20 = .ok (.iload_n 1, 1) := by decide +kernel
theorem dX11_hall_21 : decode cX11_hall 21 = .ok (.aload_n 0, 1) := by decide +kernel
theorem dX11_hall_22 : decode cX11_hall 22 = .ok (.getfield 50, 3) := by decide +kernel
theorem dX11_hall_25 : decode cX11_hall 25 = .ok (.if_icmp .ge 21, 3) := by decide +kernel
theorem dX11_hall_28 : decode cX11_hall 28 = .ok (.aload_n 0, 1) := by decide +kernel
theorem dX11_hall_29 : decode cX11_hall 29 = .ok (.getfield 26, 3) := by decide +kernel
theorem dX11_hall_32 : decode cX11_hall 32 = .ok (.iload_n 1, 1) := by decide +kernel
theorem dX11_hall_33 : decode cX11_hall 33 = .ok (.aload_n 0, 1) := by decide +kernel
theorem dX11_hall_34 : decode cX11_hall 34 = .ok (.getfield 23, 3) := by decide +kernel
theorem dX11_hall_37 : decode cX11_hall 37 = .ok (.iload_n 1, 1) := by decide +kernel
theorem dX11_hall_38 : decode cX11_hall 38 = .ok (.iaload, 1) := by decide +kernel
theorem dX11_hall_39 : decode cX11_hall 39 = .ok (.iastore, 1) := by decide +kernel
theorem dX11_hall_40 : decode cX11_hall 40 = .ok (.iinc 1 1, 3) := by decide +kernel
theorem dX11_hall_43 : decode cX11_hall 43 = .ok (.goto (-23), 3) := by decide +kernel
theorem dX11_hall_46 : decode cX11_hall 46 = .ok (.aload_n 0, 1) := by decide +kernel
theorem dX11_hall_47 : decode cX11_hall 47 = .ok (.iconst 0, 1) := by decide +kernel
theorem dX11_hall_48 : decode cX11_hall 48 = .ok (.putfield 50, 3) := by decide +kernel
theorem dX11_hall_51 : decode cX11_hall 51 = .ok (.iconst 1, 1) := by decide +kernel
theorem dX11_hall_52 : decode cX11_hall 52 = .ok (.ireturn, 1) := by decide +kernel
theorem dX11_open_0 : decode cX11_open 0 = .ok (.aload_n 0, 1) := by decide +kernel
theorem dX11_open_1 : decode cX11_open 1 = .ok (.getfield 57, 3) := by decide +kernel
theorem dX11_open_4 : decode cX11_open 4 = .ok (.ifCond .le 7, 3) := by decide +kernel
theorem dX11_open_7 : decode cX11_open 7 = .ok (.iconst 1, 1) := by decide +kernel
theorem dX11_open_8 : decode cX11_open 8 = .ok (.goto 4, 3) := by decide +kernel
theorem dX11_open_11 : decode cX11_open 11 = .ok (.iconst 0, 1) := by decide +kernel
theorem dX11_open_12 : decode cX11_open 12 = .ok (.istore_n 1, 1) := by decide +kernel
theorem dX11_open_13 : decode cX11_open 13 = .ok (.aload_n 0, 1) := by decide +kernel
theorem dX11_open_14 : decode cX11_open 14 = .ok (.iconst 0, 1) := by decide +kernel
theorem dX11_open_15 : decode cX11_open 15 = .ok (.putfield 57, 3) := by decide +kernel
theorem dX11_open_18 : decode cX11_open 18 = .ok (.iload_n 1, 1) := by decide +kernel
theorem dX11_open_19 : decode cX11_open 19 = .ok (.ireturn, 1) := by decide +kernel
set_option maxRecDepth 20000 in
theorem ggX11_barOf_X11_in : GoodIn wsX11_barOf wsX11_in := goodIn_r _ [6] (by decide +kernel) (by decide +kernel)
set_option maxRecDepth 20000 in
theorem gX11_barOf_X11_in : GoodIn wsX11_barOf (va_wsS RX11 42 yX11_in wsX11_in) := goodIn_app (goodIn_of _ (by decide +kernel)) ggX11_barOf_X11_in
set_option maxRecDepth 20000 in
theorem ggX11_barOf_X11_bits : GoodIn wsX11_barOf wsX11_bits := goodIn_r _ [9] (by decide +kernel) (by decide +kernel)
set_option maxRecDepth 20000 in
theorem gX11_barOf_X11_bits : GoodIn wsX11_barOf (va_wsS RX11 60 yX11_bits wsX11_bits) := goodIn_app (goodIn_of _ (by decide +kernel)) ggX11_barOf_X11_bits
theorem dX11_barOf_0 : decode cX11_barOf 0 = .ok (.iconst 0, 1) := by decide +kernel
theorem dX11_barOf_1 : decode cX11_barOf 1 = .ok (.istore_n 2, 1) := by decide +kernel
theorem dX11_barOf_2 : decode cX11_barOf 2 = .ok (.iconst 0, 1) := by decide +kernel
theorem dX11_barOf_3 : decode cX11_barOf 3 = .ok (.istore_n 3, 1) := by decide +kernel
theorem dX11_barOf_4 : decode cX11_barOf 4 = .ok (.iconst 0, 1) := by decide +kernel
theorem dX11_barOf_5 : decode cX11_barOf 5 = .ok (.istore 4, 2) := by decide +kernel
theorem dX11_barOf_7 : decode cX11_barOf 7 = .ok (.iconst 0, 1) := by decide +kernel
theorem dX11_barOf_8 : decode cX11_barOf 8 = .ok (.istore 5, 2) := by decide +kernel
theorem dX11_barOf_10 : decode cX11_barOf 10 = .ok (.iload 5, 2) := by decide +kernel
theorem dX11_barOf_12 : decode cX11_barOf 12 = .ok (.aload_n 0, 1) := by decide +kernel
theorem dX11_barOf_13 : decode cX11_barOf 13 = .ok (.getfield 57, 3) := by decide +kernel
theorem dX11_barOf_16 : decode cX11_barOf 16 = .ok (.if_icmp .ge 117, 3) := by decide +kernel
theorem dX11_barOf_19 : decode cX11_barOf 19 = .ok (.aload_n 0, 1) := by decide +kernel
theorem dX11_barOf_20 : decode cX11_barOf 20 = .ok (.getfield 26, 3) := by decide +kernel
theorem dX11_barOf_23 : decode cX11_barOf 23 = .ok (.iload 5, 2) := by decide +kernel
theorem dX11_barOf_25 : decode cX11_barOf 25 = .ok (.iaload, 1) := by decide +kernel
theorem dX11_barOf_26 : decode cX11_barOf 26 = .ok (.istore 6, 2) := by decide +kernel
theorem dX11_barOf_28 : decode cX11_barOf 28 = .ok (.iload 6, 2) := by decide +kernel
theorem dX11_barOf_30 : decode cX11_barOf 30 = .ok (.bipush 97, 2) := by decide +kernel
theorem dX11_barOf_32 : decode cX11_barOf 32 = .ok (.bipush 104, 2) := by decide +kernel
theorem dX11_barOf_34 : decode cX11_barOf 34 = .ok (.invokestatic 42, 3) := by decide +kernel
theorem dX11_barOf_37 : decode cX11_barOf 37 = .ok (.ifCond .eq 16, 3) := by decide +kernel
theorem dX11_barOf_40 : decode cX11_barOf 40 = .ok (.iload_n 3, 1) := by decide +kernel
theorem dX11_barOf_41 : decode cX11_barOf 41 = .ok (.iconst 1, 1) := by decide +kernel
theorem dX11_barOf_42 : decode cX11_barOf 42 = .ok (.iload 6, 2) := by decide +kernel
theorem dX11_barOf_44 : decode cX11_barOf 44 = .ok (.bipush 97, 2) := by decide +kernel
theorem dX11_barOf_46 : decode cX11_barOf 46 = .ok (.isub, 1) := by decide +kernel
theorem dX11_barOf_47 : decode cX11_barOf 47 = .ok (.ishl, 1) := by decide +kernel
theorem dX11_barOf_48 : decode cX11_barOf 48 = .ok (.ior, 1) := by decide +kernel
theorem dX11_barOf_49 : decode cX11_barOf 49 = .ok (.istore_n 3, 1) := by decide +kernel
theorem dX11_barOf_50 : decode cX11_barOf 50 = .ok (.goto 77, 3) := by decide +kernel
theorem dX11_barOf_53 : decode cX11_barOf 53 = .ok (.iload 6, 2) := by decide +kernel
theorem dX11_barOf_55 : decode cX11_barOf 55 = .ok (.bipush 48, 2) := by decide +kernel
theorem dX11_barOf_57 : decode cX11_barOf 57 = .ok (.bipush 52, 2) := by decide +kernel
theorem dX11_barOf_59 : decode cX11_barOf 59 = .ok (.invokestatic 42, 3) := by decide +kernel
theorem dX11_barOf_62 : decode cX11_barOf 62 = .ok (.ifCond .eq 46, 3) := by decide +kernel
theorem dX11_barOf_65 : decode cX11_barOf 65 = .ok (.iload_n 3, 1) := by decide +kernel
theorem dX11_barOf_66 : decode cX11_barOf 66 = .ok (.iload_n 1, 1) := by decide +kernel
theorem dX11_barOf_67 : decode cX11_barOf 67 = .ok (.iand, 1) := by decide +kernel
theorem dX11_barOf_68 : decode cX11_barOf 68 = .ok (.invokestatic 60, 3) := by decide +kernel
theorem dX11_barOf_71 : decode cX11_barOf 71 = .ok (.istore 7, 2) := by decide +kernel
theorem dX11_barOf_73 : decode cX11_barOf 73 = .ok (.iload 4, 2) := by decide +kernel
theorem dX11_barOf_75 : decode cX11_barOf 75 = .ok (.bipush 60, 2) := by decide +kernel
theorem dX11_barOf_77 : decode cX11_barOf 77 = .ok (.if_icmp .ne 16, 3) := by decide +kernel
theorem dX11_barOf_80 : decode cX11_barOf 80 = .ok (.iload 7, 2) := by decide +kernel
theorem dX11_barOf_82 : decode cX11_barOf 82 = .ok (.iload 6, 2) := by decide +kernel
theorem dX11_barOf_84 : decode cX11_barOf 84 = .ok (.bipush 48, 2) := by decide +kernel
theorem dX11_barOf_86 : decode cX11_barOf 86 = .ok (.isub, 1) := by decide +kernel
theorem dX11_barOf_87 : decode cX11_barOf 87 = .ok (.if_icmp .lt 18, 3) := by decide +kernel
theorem dX11_barOf_90 : decode cX11_barOf 90 = .ok (.goto 13, 3) := by decide +kernel
theorem dX11_barOf_93 : decode cX11_barOf 93 = .ok (.iload 7, 2) := by decide +kernel
theorem dX11_barOf_95 : decode cX11_barOf 95 = .ok (.iload 6, 2) := by decide +kernel
theorem dX11_barOf_97 : decode cX11_barOf 97 = .ok (.bipush 48, 2) := by decide +kernel
theorem dX11_barOf_99 : decode cX11_barOf 99 = .ok (.isub, 1) := by decide +kernel
theorem dX11_barOf_100 : decode cX11_barOf 100 = .ok (.if_icmp .gt 5, 3) := by decide +kernel
theorem dX11_barOf_103 : decode cX11_barOf 103 = .ok (.iload_n 2, 1) := by decide +kernel
theorem dX11_barOf_104 : decode cX11_barOf 104 = .ok (.ireturn, 1) := by decide +kernel
theorem dX11_barOf_105 : decode cX11_barOf 105 = .ok (.goto 22, 3) := by decide +kernel
theorem dX11_barOf_108 : decode cX11_barOf 108 = .ok (.iload 6, 2) := by decide +kernel
theorem dX11_barOf_110 : decode cX11_barOf 110 = .ok (.bipush 59, 2) := by decide +kernel
theorem dX11_barOf_112 : decode cX11_barOf 112 = .ok (.if_icmp .ne 11, 3) := by decide +kernel
theorem dX11_barOf_115 : decode cX11_barOf 115 = .ok (.iinc 2 1, 3) := by decide +kernel
theorem dX11_barOf_118 : decode cX11_barOf 118 = .ok (.iconst 0, 1) := by decide +kernel
theorem dX11_barOf_119 : decode cX11_barOf 119 = .ok (.istore_n 3, 1) := by decide +kernel
theorem dX11_barOf_120 : decode cX11_barOf 120 = .ok (.goto 7, 3) := by decide +kernel
theorem dX11_barOf_123 : decode cX11_barOf 123 = .ok (.iload 6, 2) := by decide +kernel
theorem dX11_barOf_125 : decode cX11_barOf 125 = .ok (.istore 4, 2) := by decide +kernel
theorem dX11_barOf_127 : decode cX11_barOf 127 = .ok (.iinc 5 1, 3) := by decide +kernel
theorem dX11_barOf_130 : decode cX11_barOf 130 = .ok (.goto (-120), 3) := by decide +kernel
theorem dX11_barOf_133 : decode cX11_barOf 133 = .ok (.bipush (-6), 2) := by decide +kernel
theorem dX11_barOf_135 : decode cX11_barOf 135 = .ok (.ireturn, 1) := by decide +kernel
set_option maxRecDepth 20000 in
theorem ggX11_worthOf_X11_bits : GoodIn wsX11_worthOf wsX11_bits := goodIn_r _ [8] (by decide +kernel) (by decide +kernel)
set_option maxRecDepth 20000 in
theorem gX11_worthOf_X11_bits : GoodIn wsX11_worthOf (va_wsS RX11 60 yX11_bits wsX11_bits) := goodIn_app (goodIn_of _ (by decide +kernel)) ggX11_worthOf_X11_bits
theorem dX11_worthOf_0 : decode cX11_worthOf 0 = .ok (.iconst 0, 1) := by decide +kernel
theorem dX11_worthOf_1 : decode cX11_worthOf 1 = .ok (.istore_n 2, 1) := by decide +kernel
theorem dX11_worthOf_2 : decode cX11_worthOf 2 = .ok (.iconst 0, 1) := by decide +kernel
theorem dX11_worthOf_3 : decode cX11_worthOf 3 = .ok (.istore_n 3, 1) := by decide +kernel
theorem dX11_worthOf_4 : decode cX11_worthOf 4 = .ok (.iload_n 3, 1) := by decide +kernel
theorem dX11_worthOf_5 : decode cX11_worthOf 5 = .ok (.aload_n 0, 1) := by decide +kernel
theorem dX11_worthOf_6 : decode cX11_worthOf 6 = .ok (.getfield 39, 3) := by decide +kernel
theorem dX11_worthOf_9 : decode cX11_worthOf 9 = .ok (.if_icmp .ge 61, 3) := by decide +kernel
theorem dX11_worthOf_12 : decode cX11_worthOf 12 = .ok (.iload_n 1, 1) := by decide +kernel
theorem dX11_worthOf_13 : decode cX11_worthOf 13 = .ok (.aload_n 0, 1) := by decide +kernel
theorem dX11_worthOf_14 : decode cX11_worthOf 14 = .ok (.getfield 7, 3) := by decide +kernel
theorem dX11_worthOf_17 : decode cX11_worthOf 17 = .ok (.iload_n 3, 1) := by decide +kernel
theorem dX11_worthOf_18 : decode cX11_worthOf 18 = .ok (.iaload, 1) := by decide +kernel
theorem dX11_worthOf_19 : decode cX11_worthOf 19 = .ok (.iand, 1) := by decide +kernel
theorem dX11_worthOf_20 : decode cX11_worthOf 20 = .ok (.invokestatic 60, 3) := by decide +kernel
theorem dX11_worthOf_23 : decode cX11_worthOf 23 = .ok (.istore 4, 2) := by decide +kernel
theorem dX11_worthOf_25 : decode cX11_worthOf 25 = .ok (.iconst 0, 1) := by decide +kernel
theorem dX11_worthOf_26 : decode cX11_worthOf 26 = .ok (.istore 5, 2) := by decide +kernel
theorem dX11_worthOf_28 : decode cX11_worthOf 28 = .ok (.iload 5, 2) := by decide +kernel
theorem dX11_worthOf_30 : decode cX11_worthOf 30 = .ok (.iload 4, 2) := by decide +kernel
theorem dX11_worthOf_32 : decode cX11_worthOf 32 = .ok (.if_icmp .ge 32, 3) := by decide +kernel
theorem dX11_worthOf_35 : decode cX11_worthOf 35 = .ok (.iload 5, 2) := by decide +kernel
theorem dX11_worthOf_37 : decode cX11_worthOf 37 = .ok (.iconst 4, 1) := by decide +kernel
theorem dX11_worthOf_38 : decode cX11_worthOf 38 = .ok (.if_icmp .ge 26, 3) := by decide +kernel
theorem dX11_worthOf_41 : decode cX11_worthOf 41 = .ok (.iload_n 2, 1) := by decide +kernel
theorem dX11_worthOf_42 : decode cX11_worthOf 42 = .ok (.aload_n 0, 1) := by decide +kernel
theorem dX11_worthOf_43 : decode cX11_worthOf 43 = .ok (.getfield 13, 3) := by decide +kernel
theorem dX11_worthOf_46 : decode cX11_worthOf 46 = .ok (.iload_n 3, 1) := by decide +kernel
theorem dX11_worthOf_47 : decode cX11_worthOf 47 = .ok (.iaload, 1) := by decide +kernel
theorem dX11_worthOf_48 : decode cX11_worthOf 48 = .ok (.aload_n 0, 1) := by decide +kernel
theorem dX11_worthOf_49 : decode cX11_worthOf 49 = .ok (.getfield 20, 3) := by decide +kernel
theorem dX11_worthOf_52 : decode cX11_worthOf 52 = .ok (.iload 5, 2) := by decide +kernel
theorem dX11_worthOf_54 : decode cX11_worthOf 54 = .ok (.iaload, 1) := by decide +kernel
theorem dX11_worthOf_55 : decode cX11_worthOf 55 = .ok (.imul, 1) := by decide +kernel
theorem dX11_worthOf_56 : decode cX11_worthOf 56 = .ok (.iadd, 1) := by decide +kernel
theorem dX11_worthOf_57 : decode cX11_worthOf 57 = .ok (.istore_n 2, 1) := by decide +kernel
theorem dX11_worthOf_58 : decode cX11_worthOf 58 = .ok (.iinc 5 1, 3) := by decide +kernel
theorem dX11_worthOf_61 : decode cX11_worthOf 61 = .ok (.goto (-33), 3) := by decide +kernel
theorem dX11_worthOf_64 : decode cX11_worthOf 64 = .ok (.iinc 3 1, 3) := by decide +kernel
theorem dX11_worthOf_67 : decode cX11_worthOf 67 = .ok (.goto (-63), 3) := by decide +kernel
theorem dX11_worthOf_70 : decode cX11_worthOf 70 = .ok (.iload_n 2, 1) := by decide +kernel
theorem dX11_worthOf_71 : decode cX11_worthOf 71 = .ok (.ireturn, 1) := by decide +kernel
theorem dX11_wronged_0 : decode cX11_wronged 0 = .ok (.iconst 0, 1) := by decide +kernel
theorem dX11_wronged_1 : decode cX11_wronged 1 = .ok (.istore_n 2, 1) := by decide +kernel
theorem dX11_wronged_2 : decode cX11_wronged 2 = .ok (.iconst 0, 1) := by decide +kernel
theorem dX11_wronged_3 : decode cX11_wronged 3 = .ok (.istore_n 3, 1) := by decide +kernel
theorem dX11_wronged_4 : decode cX11_wronged 4 = .ok (.iload_n 3, 1) := by decide +kernel
theorem dX11_wronged_5 : decode cX11_wronged 5 = .ok (.aload_n 0, 1) := by decide +kernel
theorem dX11_wronged_6 : decode cX11_wronged 6 = .ok (.getfield 39, 3) := by decide +kernel
theorem dX11_wronged_9 : decode cX11_wronged 9 = .ok (.if_icmp .ge 33, 3) := by decide +kernel
theorem dX11_wronged_12 : decode cX11_wronged 12 = .ok (.iload_n 2, 1) := by decide +kernel
theorem dX11_wronged_13 : decode cX11_wronged 13 = .ok (.iload_n 1, 1) := by decide +kernel
theorem dX11_wronged_14 : decode cX11_wronged 14 = .ok (.aload_n 0, 1) := by decide +kernel
theorem dX11_wronged_15 : decode cX11_wronged 15 = .ok (.getfield 7, 3) := by decide +kernel
theorem dX11_wronged_18 : decode cX11_wronged 18 = .ok (.iload_n 3, 1) := by decide +kernel
theorem dX11_wronged_19 : decode cX11_wronged 19 = .ok (.iaload, 1) := by decide +kernel
theorem dX11_wronged_20 : decode cX11_wronged 20 = .ok (.iand, 1) := by decide +kernel
theorem dX11_wronged_21 : decode cX11_wronged 21 = .ok (.ifCond .ne 12, 3) := by decide +kernel
theorem dX11_wronged_24 : decode cX11_wronged 24 = .ok (.aload_n 0, 1) := by decide +kernel
theorem dX11_wronged_25 : decode cX11_wronged 25 = .ok (.getfield 13, 3) := by decide +kernel
theorem dX11_wronged_28 : decode cX11_wronged 28 = .ok (.iload_n 3, 1) := by decide +kernel
theorem dX11_wronged_29 : decode cX11_wronged 29 = .ok (.iaload, 1) := by decide +kernel
theorem dX11_wronged_30 : decode cX11_wronged 30 = .ok (.goto 4, 3) := by decide +kernel
theorem dX11_wronged_33 : decode cX11_wronged 33 = .ok (.iconst 0, 1) := by decide +kernel
theorem dX11_wronged_34 : decode cX11_wronged 34 = .ok (.iadd, 1) := by decide +kernel
theorem dX11_wronged_35 : decode cX11_wronged 35 = .ok (.istore_n 2, 1) := by decide +kernel
theorem dX11_wronged_36 : decode cX11_wronged 36 = .ok (.iinc 3 1, 3) := by decide +kernel
theorem dX11_wronged_39 : decode cX11_wronged 39 = .ok (.goto (-35), 3) := by decide +kernel
theorem dX11_wronged_42 : decode cX11_wronged 42 = .ok (.iload_n 2, 1) := by decide +kernel
theorem dX11_wronged_43 : decode cX11_wronged 43 = .ok (.ireturn, 1) := by decide +kernel
set_option maxRecDepth 20000 in
theorem ggX11_isCommittee_X11_in : GoodIn wsX11_isCommittee wsX11_in := goodIn_r _ [5] (by decide +kernel) (by decide +kernel)
set_option maxRecDepth 20000 in
theorem gX11_isCommittee_X11_in : GoodIn wsX11_isCommittee (va_wsS RX11 42 yX11_in wsX11_in) := goodIn_app (goodIn_of _ (by decide +kernel)) ggX11_isCommittee_X11_in
set_option maxRecDepth 20000 in
theorem ggX11_isCommittee_X11_bits : GoodIn wsX11_isCommittee wsX11_bits := goodIn_r _ [8] (by decide +kernel) (by decide +kernel)
set_option maxRecDepth 20000 in
theorem gX11_isCommittee_X11_bits : GoodIn wsX11_isCommittee (va_wsS RX11 60 yX11_bits wsX11_bits) := goodIn_app (goodIn_of _ (by decide +kernel)) ggX11_isCommittee_X11_bits
theorem dX11_isCommittee_0 : decode cX11_isCommittee 0 = .ok (.iload_n 1, 1) := by decide +kernel
theorem dX11_isCommittee_1 : decode cX11_isCommittee 1 = .ok (.iconst 0, 1) := by decide +kernel
theorem dX11_isCommittee_2 : decode cX11_isCommittee 2 = .ok (.sipush 255, 3) := by decide +kernel
theorem dX11_isCommittee_5 : decode cX11_isCommittee 5 = .ok (.invokestatic 42, 3) := by decide +kernel
theorem dX11_isCommittee_8 : decode cX11_isCommittee 8 = .ok (.ifCond .eq 18, 3) := by decide +kernel
theorem dX11_isCommittee_11 : decode cX11_isCommittee 11 = .ok (.iload_n 1, 1) := by decide +kernel
theorem dX11_isCommittee_12 : decode cX11_isCommittee 12 = .ok (.invokestatic 60, 3) := by decide +kernel
theorem dX11_isCommittee_15 : decode cX11_isCommittee 15 = .ok (.aload_n 0, 1) := by decide +kernel
theorem dX11_isCommittee_16 : decode cX11_isCommittee 16 = .ok (.getfield 16, 3) := by decide +kernel
theorem dX11_isCommittee_19 : decode cX11_isCommittee 19 = .ok (.if_icmp .ne 7, 3) := by decide +kernel
theorem dX11_isCommittee_22 : decode cX11_isCommittee 22 = .ok (.iconst 1, 1) := by decide +kernel
theorem dX11_isCommittee_23 : decode cX11_isCommittee 23 = .ok (.goto 4, 3) := by decide +kernel
theorem dX11_isCommittee_26 : decode cX11_isCommittee 26 = .ok (.iconst 0, 1) := by decide +kernel
theorem dX11_isCommittee_27 : decode cX11_isCommittee 27 = .ok (.ireturn, 1) := by decide +kernel
set_option maxRecDepth 20000 in
theorem ggX11_of_X11_isCommittee : GoodIn wsX11_of wsX11_isCommittee := goodIn_r _ [5, 6, 7, 8, 4, 9, 10, 11, 12, 31, 32, 33, 34, 35, 36, 37, 38, 39, 40, 41, 42, 43, 44, 45, 46, 47] (by decide +kernel) (by decide +kernel)
set_option maxRecDepth 20000 in
theorem gX11_of_X11_isCommittee : GoodIn wsX11_of (wsV RX11 64 RX11 yX11_isCommittee wsX11_isCommittee) := goodIn_app (goodIn_of _ (by decide +kernel)) ggX11_of_X11_isCommittee
set_option maxRecDepth 20000 in
theorem ggX11_of_X11_in : GoodIn wsX11_of wsX11_in := goodIn_r _ [9] (by decide +kernel) (by decide +kernel)
set_option maxRecDepth 20000 in
theorem gX11_of_X11_in : GoodIn wsX11_of (va_wsS RX11 42 yX11_in wsX11_in) := goodIn_app (goodIn_of _ (by decide +kernel)) ggX11_of_X11_in
set_option maxRecDepth 20000 in
theorem ggX11_of_X11_barOf : GoodIn wsX11_of wsX11_barOf := goodIn_r _ [16, 17, 18, 7, 8, 4, 9, 10, 11, 12, 31, 32, 33, 34, 35, 36, 37, 38, 39, 40, 41, 42, 43, 44, 45, 46, 47] (by decide +kernel) (by decide +kernel)
set_option maxRecDepth 20000 in
theorem gX11_of_X11_barOf : GoodIn wsX11_of (wsV RX11 67 RX11 yX11_barOf wsX11_barOf) := goodIn_app (goodIn_of _ (by decide +kernel)) ggX11_of_X11_barOf
set_option maxRecDepth 20000 in
theorem ggX11_of_X11_worthOf : GoodIn wsX11_of wsX11_worthOf := goodIn_r _ [22, 23, 24, 25, 26, 10, 11, 4, 12, 31, 32, 33, 34, 35, 36, 37, 38, 39, 40, 41, 42, 43, 44, 45, 46, 47] (by decide +kernel) (by decide +kernel)
set_option maxRecDepth 20000 in
theorem gX11_of_X11_worthOf : GoodIn wsX11_of (wsV RX11 70 RX11 yX11_worthOf wsX11_worthOf) := goodIn_app (goodIn_of _ (by decide +kernel)) ggX11_of_X11_worthOf
set_option maxRecDepth 20000 in
theorem ggX11_of_X11_wronged : GoodIn wsX11_of wsX11_wronged := goodIn_r _ [30, 23, 24, 25, 31, 32, 33, 34, 35, 36, 37, 38, 39, 40, 41, 42, 43, 44, 45, 46, 47] (by decide +kernel) (by decide +kernel)
set_option maxRecDepth 20000 in
theorem gX11_of_X11_wronged : GoodIn wsX11_of (wsV RX11 73 RX11 yX11_wronged wsX11_wronged) := goodIn_app (goodIn_of _ (by decide +kernel)) ggX11_of_X11_wronged
theorem dX11_of_0 : decode cX11_of 0 = .ok (.aload_n 0, 1) := by decide +kernel
theorem dX11_of_1 : decode cX11_of 1 = .ok (.iload_n 1, 1) := by decide +kernel
theorem dX11_of_2 : decode cX11_of 2 = .ok (.invokevirtual 64, 3) := by decide +kernel
theorem dX11_of_5 : decode cX11_of 5 = .ok (.ifCond .eq 12, 3) := by decide +kernel
theorem dX11_of_8 : decode cX11_of 8 = .ok (.iload_n 2, 1) := by decide +kernel
theorem dX11_of_9 : decode cX11_of 9 = .ok (.iconst 0, 1) := by decide +kernel
theorem dX11_of_10 : decode cX11_of 10 = .ok (.iconst 3, 1) := by decide +kernel
theorem dX11_of_11 : decode cX11_of 11 = .ok (.invokestatic 42, 3) := by decide +kernel
theorem dX11_of_14 : decode cX11_of 14 = .ok (.ifCond .ne 6, 3) := by decide +kernel
theorem dX11_of_17 : decode cX11_of 17 = .ok (.bipush (-2), 2) := by decide +kernel
theorem dX11_of_19 : decode cX11_of 19 = .ok (.ireturn, 1) := by decide +kernel
theorem dX11_of_20 : decode cX11_of 20 = .ok (.iload_n 2, 1) := by decide +kernel
theorem dX11_of_21 : decode cX11_of 21 = .ok (.ifCond .ne 19, 3) := by decide +kernel
theorem dX11_of_24 : decode cX11_of 24 = .ok (.aload_n 0, 1) := by decide +kernel
theorem dX11_of_25 : decode cX11_of 25 = .ok (.iload_n 1, 1) := by decide +kernel
theorem dX11_of_26 : decode cX11_of 26 = .ok (.invokevirtual 67, 3) := by decide +kernel
theorem dX11_of_29 : decode cX11_of 29 = .ok (.ifCond .ge 7, 3) := by decide +kernel
theorem dX11_of_32 : decode cX11_of 32 = .ok (.iconst 1, 1) := by decide +kernel
theorem dX11_of_33 : decode cX11_of 33 = .ok (.goto 38, 3) := by decide +kernel
theorem dX11_of_36 : decode cX11_of 36 = .ok (.iconst 0, 1) := by decide +kernel
theorem dX11_of_37 : decode cX11_of 37 = .ok (.goto 34, 3) := by decide +kernel
theorem dX11_of_40 : decode cX11_of 40 = .ok (.iload_n 2, 1) := by decide +kernel
theorem dX11_of_41 : decode cX11_of 41 = .ok (.iconst 1, 1) := by decide +kernel
theorem dX11_of_42 : decode cX11_of 42 = .ok (.if_icmp .ne 11, 3) := by decide +kernel
theorem dX11_of_45 : decode cX11_of 45 = .ok (.aload_n 0, 1) := by decide +kernel
theorem dX11_of_46 : decode cX11_of 46 = .ok (.iload_n 1, 1) := by decide +kernel
theorem dX11_of_47 : decode cX11_of 47 = .ok (.invokevirtual 70, 3) := by decide +kernel
theorem dX11_of_50 : decode cX11_of 50 = .ok (.goto 21, 3) := by decide +kernel
theorem dX11_of_53 : decode cX11_of 53 = .ok (.iload_n 2, 1) := by decide +kernel
theorem dX11_of_54 : decode cX11_of 54 = .ok (.iconst 2, 1) := by decide +kernel
theorem dX11_of_55 : decode cX11_of 55 = .ok (.if_icmp .ne 11, 3) := by decide +kernel
theorem dX11_of_58 : decode cX11_of 58 = .ok (.aload_n 0, 1) := by decide +kernel
theorem dX11_of_59 : decode cX11_of 59 = .ok (.iload_n 1, 1) := by decide +kernel
theorem dX11_of_60 : decode cX11_of 60 = .ok (.invokevirtual 73, 3) := by decide +kernel
theorem dX11_of_63 : decode cX11_of 63 = .ok (.goto 8, 3) := by decide +kernel
theorem dX11_of_66 : decode cX11_of 66 = .ok (.aload_n 0, 1) := by decide +kernel
theorem dX11_of_67 : decode cX11_of 67 = .ok (.iload_n 1, 1) := by decide +kernel
theorem dX11_of_68 : decode cX11_of 68 = .ok (.invokevirtual 67, 3) := by decide +kernel
theorem dX11_of_71 : decode cX11_of 71 = .ok (.ireturn, 1) := by decide +kernel
theorem dX11_allPapers_0 : decode cX11_allPapers 0 = .ok (.iconst 0, 1) := by decide +kernel
theorem dX11_allPapers_1 : decode cX11_allPapers 1 = .ok (.istore_n 1, 1) := by decide +kernel
theorem dX11_allPapers_2 : decode cX11_allPapers 2 = .ok (.iconst 0, 1) := by decide +kernel
theorem dX11_allPapers_3 : decode cX11_allPapers 3 = .ok (.istore_n 2, 1) := by decide +kernel
theorem dX11_allPapers_4 : decode cX11_allPapers 4 = .ok (.iload_n 2, 1) := by decide +kernel
theorem dX11_allPapers_5 : decode cX11_allPapers 5 = .ok (.aload_n 0, 1) := by decide +kernel
theorem dX11_allPapers_6 : decode cX11_allPapers 6 = .ok (.getfield 39, 3) := by decide +kernel
theorem dX11_allPapers_9 : decode cX11_allPapers 9 = .ok (.if_icmp .ge 18, 3) := by decide +kernel
theorem dX11_allPapers_12 : decode cX11_allPapers 12 = .ok (.iload_n 1, 1) := by decide +kernel
theorem dX11_allPapers_13 : decode cX11_allPapers 13 = .ok (.aload_n 0, 1) := by decide +kernel
theorem dX11_allPapers_14 : decode cX11_allPapers 14 = .ok (.getfield 13, 3) := by decide +kernel
theorem dX11_allPapers_17 : decode cX11_allPapers 17 = .ok (.iload_n 2, 1) := by decide +kernel
theorem dX11_allPapers_18 : decode cX11_allPapers 18 = .ok (.iaload, 1) := by decide +kernel
theorem dX11_allPapers_19 : decode cX11_allPapers 19 = .ok (.iadd, 1) := by decide +kernel
theorem dX11_allPapers_20 : decode cX11_allPapers 20 = .ok (.istore_n 1, 1) := by decide +kernel
theorem dX11_allPapers_21 : decode cX11_allPapers 21 = .ok (.iinc 2 1, 3) := by decide +kernel
theorem dX11_allPapers_24 : decode cX11_allPapers 24 = .ok (.goto (-20), 3) := by decide +kernel
theorem dX11_allPapers_27 : decode cX11_allPapers 27 = .ok (.iload_n 1, 1) := by decide +kernel
theorem dX11_allPapers_28 : decode cX11_allPapers 28 = .ok (.ireturn, 1) := by decide +kernel
theorem dX11_papersOf_0 : decode cX11_papersOf 0 = .ok (.iconst 0, 1) := by decide +kernel
theorem dX11_papersOf_1 : decode cX11_papersOf 1 = .ok (.istore_n 2, 1) := by decide +kernel
theorem dX11_papersOf_2 : decode cX11_papersOf 2 = .ok (.iconst 0, 1) := by decide +kernel
theorem dX11_papersOf_3 : decode cX11_papersOf 3 = .ok (.istore_n 3, 1) := by decide +kernel
theorem dX11_papersOf_4 : decode cX11_papersOf 4 = .ok (.iload_n 3, 1) := by decide +kernel
theorem dX11_papersOf_5 : decode cX11_papersOf 5 = .ok (.aload_n 0, 1) := by decide +kernel
theorem dX11_papersOf_6 : decode cX11_papersOf 6 = .ok (.getfield 39, 3) := by decide +kernel
theorem dX11_papersOf_9 : decode cX11_papersOf 9 = .ok (.if_icmp .ge 29, 3) := by decide +kernel
theorem dX11_papersOf_12 : decode cX11_papersOf 12 = .ok (.iload_n 2, 1) := by decide +kernel
theorem dX11_papersOf_13 : decode cX11_papersOf 13 = .ok (.aload_n 0, 1) := by decide +kernel
theorem dX11_papersOf_14 : decode cX11_papersOf 14 = .ok (.getfield 7, 3) := by decide +kernel
theorem dX11_papersOf_17 : decode cX11_papersOf 17 = .ok (.iload_n 3, 1) := by decide +kernel
theorem dX11_papersOf_18 : decode cX11_papersOf 18 = .ok (.iaload, 1) := by decide +kernel
theorem dX11_papersOf_19 : decode cX11_papersOf 19 = .ok (.iload_n 1, 1) := by decide +kernel
theorem dX11_papersOf_20 : decode cX11_papersOf 20 = .ok (.ishr, 1) := by decide +kernel
theorem dX11_papersOf_21 : decode cX11_papersOf 21 = .ok (.iconst 1, 1) := by decide +kernel
theorem dX11_papersOf_22 : decode cX11_papersOf 22 = .ok (.iand, 1) := by decide +kernel
theorem dX11_papersOf_23 : decode cX11_papersOf 23 = .ok (.aload_n 0, 1) := by decide +kernel
theorem dX11_papersOf_24 : decode cX11_papersOf 24 = .ok (.getfield 13, 3) := by decide +kernel
theorem dX11_papersOf_27 : decode cX11_papersOf 27 = .ok (.iload_n 3, 1) := by decide +kernel
theorem dX11_papersOf_28 : decode cX11_papersOf 28 = .ok (.iaload, 1) := by decide +kernel
theorem dX11_papersOf_29 : decode cX11_papersOf 29 = .ok (.imul, 1) := by decide +kernel
theorem dX11_papersOf_30 : decode cX11_papersOf 30 = .ok (.iadd, 1) := by decide +kernel
theorem dX11_papersOf_31 : decode cX11_papersOf 31 = .ok (.istore_n 2, 1) := by decide +kernel
theorem dX11_papersOf_32 : decode cX11_papersOf 32 = .ok (.iinc 3 1, 3) := by decide +kernel
theorem dX11_papersOf_35 : decode cX11_papersOf 35 = .ok (.goto (-31), 3) := by decide +kernel
theorem dX11_papersOf_38 : decode cX11_papersOf 38 = .ok (.iload_n 2, 1) := by decide +kernel
theorem dX11_papersOf_39 : decode cX11_papersOf 39 = .ok (.ireturn, 1) := by decide +kernel
theorem dX11_pick_0 : decode cX11_pick 0 = .ok (.aload_n 0, 1) := by decide +kernel
theorem dX11_pick_1 : decode cX11_pick 1 = .ok (.getfield 29, 3) := by decide +kernel
theorem dX11_pick_4 : decode cX11_pick 4 = .ok (.iload_n 1, 1) := by decide +kernel
theorem dX11_pick_5 : decode cX11_pick 5 = .ok (.iload_n 2, 1) := by decide +kernel
theorem dX11_pick_6 : decode cX11_pick 6 = .ok (.iastore, 1) := by decide +kernel
theorem dX11_pick_7 : decode cX11_pick 7 = .ok (.aload_n 0, 1) := by decide +kernel
theorem dX11_pick_8 : decode cX11_pick 8 = .ok (.dup, 1) := by decide +kernel
theorem dX11_pick_9 : decode cX11_pick 9 = .ok (.getfield 76, 3) := by decide +kernel
theorem dX11_pick_12 : decode cX11_pick 12 = .ok (.iconst 1, 1) := by decide +kernel
theorem dX11_pick_13 : decode cX11_pick 13 = .ok (.iload_n 2, 1) := by decide +kernel
theorem dX11_pick_14 : decode cX11_pick 14 = .ok (.ishl, 1) := by decide +kernel
theorem dX11_pick_15 : decode cX11_pick 15 = .ok (.ior, 1) := by decide +kernel
theorem dX11_pick_16 : decode cX11_pick 16 = .ok (.putfield 76, 3) := by decide +kernel
theorem dX11_pick_19 : decode cX11_pick 19 = .ok (.return_, 1) := by decide +kernel
theorem dX11_isLeft_0 : decode cX11_isLeft 0 = .ok (.aload_n 0, 1) := by decide +kernel
theorem dX11_isLeft_1 : decode cX11_isLeft 1 = .ok (.getfield 76, 3) := by decide +kernel
theorem dX11_isLeft_4 : decode cX11_isLeft 4 = .ok (.iload_n 1, 1) := by decide +kernel
theorem dX11_isLeft_5 : decode cX11_isLeft 5 = .ok (.ishr, 1) := by decide +kernel
theorem dX11_isLeft_6 : decode cX11_isLeft 6 = .ok (.iconst 1, 1) := by decide +kernel
theorem dX11_isLeft_7 : decode cX11_isLeft 7 = .ok (.iand, 1) := by decide +kernel
theorem dX11_isLeft_8 : decode cX11_isLeft 8 = .ok (.ifCond .ne 7, 3) := by decide +kernel
theorem dX11_isLeft_11 : decode cX11_isLeft 11 = .ok (.iconst 1, 1) := by decide +kernel
theorem dX11_isLeft_12 : decode cX11_isLeft 12 = .ok (.goto 4, 3) := by decide +kernel
theorem dX11_isLeft_15 : decode cX11_isLeft 15 = .ok (.iconst 0, 1) := by decide +kernel
theorem dX11_isLeft_16 : decode cX11_isLeft 16 = .ok (.ireturn, 1) := by decide +kernel
set_option maxRecDepth 20000 in
theorem ggX11_mostOf_X11_isLeft : GoodIn wsX11_mostOf wsX11_isLeft := goodIn_r _ [5, 6, 14, 15, 16, 17, 18, 19, 20, 21, 22, 23, 24, 25, 26, 27, 28, 29, 30] (by decide +kernel) (by decide +kernel)
set_option maxRecDepth 20000 in
theorem gX11_mostOf_X11_isLeft : GoodIn wsX11_mostOf (wsV RX11 79 RX11 yX11_isLeft wsX11_isLeft) := goodIn_app (goodIn_of _ (by decide +kernel)) ggX11_mostOf_X11_isLeft
set_option maxRecDepth 20000 in
theorem ggX11_mostOf_X11_papersOf : GoodIn wsX11_mostOf wsX11_papersOf := goodIn_r _ [10, 11, 12, 13, 14, 15, 16, 17, 18, 19, 20, 21, 22, 23, 24, 25, 26, 27, 28, 29, 30] (by decide +kernel) (by decide +kernel)
set_option maxRecDepth 20000 in
theorem gX11_mostOf_X11_papersOf : GoodIn wsX11_mostOf (wsV RX11 82 RX11 yX11_papersOf wsX11_papersOf) := goodIn_app (goodIn_of _ (by decide +kernel)) ggX11_mostOf_X11_papersOf
theorem dX11_mostOf_0 : decode cX11_mostOf 0 = .ok (.bipush (-6), 2) := by decide +kernel
theorem dX11_mostOf_2 : decode cX11_mostOf 2 = .ok (.istore_n 1, 1) := by decide +kernel
theorem dX11_mostOf_3 : decode cX11_mostOf 3 = .ok (.iconst 0, 1) := by decide +kernel
theorem dX11_mostOf_4 : decode cX11_mostOf 4 = .ok (.istore_n 2, 1) := by decide +kernel
theorem dX11_mostOf_5 : decode cX11_mostOf 5 = .ok (.iload_n 2, 1) := by decide +kernel
theorem dX11_mostOf_6 : decode cX11_mostOf 6 = .ok (.bipush 8, 2) := by decide +kernel
theorem dX11_mostOf_8 : decode cX11_mostOf 8 = .ok (.if_icmp .ge 40, 3) := by decide +kernel
theorem dX11_mostOf_11 : decode cX11_mostOf 11 = .ok (.aload_n 0, 1) := by decide +kernel
theorem dX11_mostOf_12 : decode cX11_mostOf 12 = .ok (.iload_n 2, 1) := by decide +kernel
theorem dX11_mostOf_13 : decode cX11_mostOf 13 = .ok (.invokevirtual 79, 3) := by decide +kernel
theorem dX11_mostOf_16 : decode cX11_mostOf 16 = .ok (.ifCond .eq 24, 3) := by decide +kernel
theorem dX11_mostOf_19 : decode cX11_mostOf 19 = .ok (.iload_n 1, 1) := by decide +kernel
theorem dX11_mostOf_20 : decode cX11_mostOf 20 = .ok (.ifCond .lt 16, 3) := by decide +kernel
theorem dX11_mostOf_23 : decode cX11_mostOf 23 = .ok (.aload_n 0, 1) := by decide +kernel
theorem dX11_mostOf_24 : decode cX11_mostOf 24 = .ok (.iload_n 2, 1) := by decide +kernel
theorem dX11_mostOf_25 : decode cX11_mostOf 25 = .ok (.invokevirtual 82, 3) := by decide +kernel
theorem dX11_mostOf_28 : decode cX11_mostOf 28 = .ok (.aload_n 0, 1) := by decide +kernel
theorem dX11_mostOf_29 : decode cX11_mostOf 29 = .ok (.iload_n 1, 1) := by decide +kernel
theorem dX11_mostOf_30 : decode cX11_mostOf 30 = .ok (.invokevirtual 82, 3) := by decide +kernel
theorem dX11_mostOf_33 : decode cX11_mostOf 33 = .ok (.if_icmp .le 7, 3) := by decide +kernel
theorem dX11_mostOf_36 : decode cX11_mostOf 36 = .ok (.iload_n 2, 1) := by decide +kernel
theorem dX11_mostOf_37 : decode cX11_mostOf 37 = .ok (.goto 4, 3) := by decide +kernel
theorem dX11_mostOf_40 : decode cX11_mostOf 40 = .ok (.iload_n 1, 1) := by decide +kernel
theorem dX11_mostOf_41 : decode cX11_mostOf 41 = .ok (.istore_n 1, 1) := by decide +kernel
theorem dX11_mostOf_42 : decode cX11_mostOf 42 = .ok (.iinc 2 1, 3) := by decide +kernel
theorem dX11_mostOf_45 : decode cX11_mostOf 45 = .ok (.goto (-40), 3) := by decide +kernel
theorem dX11_mostOf_48 : decode cX11_mostOf 48 = .ok (.iload_n 1, 1) := by decide +kernel
theorem dX11_mostOf_49 : decode cX11_mostOf 49 = .ok (.ireturn, 1) := by decide +kernel
set_option maxRecDepth 20000 in
theorem ggX11_greedyOf_X11_isLeft : GoodIn wsX11_greedyOf wsX11_isLeft := goodIn_r _ [6, 1, 18, 19, 20, 21, 22, 23, 24, 25, 26, 27, 28, 29, 30, 31, 32, 33, 34] (by decide +kernel) (by decide +kernel)
set_option maxRecDepth 20000 in
theorem gX11_greedyOf_X11_isLeft : GoodIn wsX11_greedyOf (wsV RX11 79 RX11 yX11_isLeft wsX11_isLeft) := goodIn_app (goodIn_of _ (by decide +kernel)) ggX11_greedyOf_X11_isLeft
set_option maxRecDepth 20000 in
theorem ggX11_greedyOf_X11_worthOf : GoodIn wsX11_greedyOf wsX11_worthOf := goodIn_r _ [10, 11, 12, 13, 14, 15, 16, 5, 17, 18, 19, 20, 21, 22, 23, 24, 25, 26, 27, 28, 29, 30, 31, 32, 33, 34] (by decide +kernel) (by decide +kernel)
set_option maxRecDepth 20000 in
theorem gX11_greedyOf_X11_worthOf : GoodIn wsX11_greedyOf (wsV RX11 70 RX11 yX11_worthOf wsX11_worthOf) := goodIn_app (goodIn_of _ (by decide +kernel)) ggX11_greedyOf_X11_worthOf
theorem dX11_greedyOf_0 : decode cX11_greedyOf 0 = .ok (.bipush (-6), 2) := by decide +kernel
theorem dX11_greedyOf_2 : decode cX11_greedyOf 2 = .ok (.istore_n 1, 1) := by decide +kernel
theorem dX11_greedyOf_3 : decode cX11_greedyOf 3 = .ok (.iconst 0, 1) := by decide +kernel
theorem dX11_greedyOf_4 : decode cX11_greedyOf 4 = .ok (.istore_n 2, 1) := by decide +kernel
theorem dX11_greedyOf_5 : decode cX11_greedyOf 5 = .ok (.iload_n 2, 1) := by decide +kernel
theorem dX11_greedyOf_6 : decode cX11_greedyOf 6 = .ok (.bipush 8, 2) := by decide +kernel
theorem dX11_greedyOf_8 : decode cX11_greedyOf 8 = .ok (.if_icmp .ge 54, 3) := by decide +kernel
theorem dX11_greedyOf_11 : decode cX11_greedyOf 11 = .ok (.aload_n 0, 1) := by decide +kernel
theorem dX11_greedyOf_12 : decode cX11_greedyOf 12 = .ok (.iload_n 2, 1) := by decide +kernel
theorem dX11_greedyOf_13 : decode cX11_greedyOf 13 = .ok (.invokevirtual 79, 3) := by decide +kernel
theorem dX11_greedyOf_16 : decode cX11_greedyOf 16 = .ok (.ifCond .eq 38, 3) := by decide +kernel
theorem dX11_greedyOf_19 : decode cX11_greedyOf 19 = .ok (.iload_n 1, 1) := by decide +kernel
theorem dX11_greedyOf_20 : decode cX11_greedyOf 20 = .ok (.ifCond .lt 30, 3) := by decide +kernel
theorem dX11_greedyOf_23 : decode cX11_greedyOf 23 = .ok (.aload_n 0, 1) := by decide +kernel
theorem dX11_greedyOf_24 : decode cX11_greedyOf 24 = .ok (.aload_n 0, 1) := by decide +kernel
theorem dX11_greedyOf_25 : decode cX11_greedyOf 25 = .ok (.getfield 76, 3) := by decide +kernel
theorem dX11_greedyOf_28 : decode cX11_greedyOf 28 = .ok (.iconst 1, 1) := by decide +kernel
theorem dX11_greedyOf_29 : decode cX11_greedyOf 29 = .ok (.iload_n 2, 1) := by decide +kernel
theorem dX11_greedyOf_30 : decode cX11_greedyOf 30 = .ok (.ishl, 1) := by decide +kernel
theorem dX11_greedyOf_31 : decode cX11_greedyOf 31 = .ok (.ior, 1) := by decide +kernel
theorem dX11_greedyOf_32 : decode cX11_greedyOf 32 = .ok (.invokevirtual 70, 3) := by decide +kernel
theorem dX11_greedyOf_35 : decode cX11_greedyOf 35 = .ok (.aload_n 0, 1) := by decide +kernel
theorem dX11_greedyOf_36 : decode cX11_greedyOf 36 = .ok (.aload_n 0, 1) := by decide +kernel
theorem dX11_greedyOf_37 : decode cX11_greedyOf 37 = .ok (.getfield 76, 3) := by decide +kernel
theorem dX11_greedyOf_40 : decode cX11_greedyOf 40 = .ok (.iconst 1, 1) := by decide +kernel
theorem dX11_greedyOf_41 : decode cX11_greedyOf 41 = .ok (.iload_n 1, 1) := by decide +kernel
theorem dX11_greedyOf_42 : decode cX11_greedyOf 42 = .ok (.ishl, 1) := by decide +kernel
theorem dX11_greedyOf_43 : decode cX11_greedyOf 43 = .ok (.ior, 1) := by decide +kernel
theorem dX11_greedyOf_44 : decode cX11_greedyOf 44 = .ok (.invokevirtual 70, 3) := by decide +kernel
theorem dX11_greedyOf_47 : decode cX11_greedyOf 47 = .ok (.if_icmp .le 7, 3) := by decide +kernel
theorem dX11_greedyOf_50 : decode cX11_greedyOf 50 = .ok (.iload_n 2, 1) := by decide +kernel
theorem dX11_greedyOf_51 : decode cX11_greedyOf 51 = .ok (.goto 4, 3) := by decide +kernel
theorem dX11_greedyOf_54 : decode cX11_greedyOf 54 = .ok (.iload_n 1, 1) := by decide +kernel
theorem dX11_greedyOf_55 : decode cX11_greedyOf 55 = .ok (.istore_n 1, 1) := by decide +kernel
theorem dX11_greedyOf_56 : decode cX11_greedyOf 56 = .ok (.iinc 2 1, 3) := by decide +kernel
theorem dX11_greedyOf_59 : decode cX11_greedyOf 59 = .ok (.goto (-54), 3) := by decide +kernel
theorem dX11_greedyOf_62 : decode cX11_greedyOf 62 = .ok (.iload_n 1, 1) := by decide +kernel
theorem dX11_greedyOf_63 : decode cX11_greedyOf 63 = .ok (.ireturn, 1) := by decide +kernel
theorem dX11_carry_0 : decode cX11_carry 0 = .ok (.aload_n 0, 1) := by decide +kernel
theorem dX11_carry_1 : decode cX11_carry 1 = .ok (.getfield 36, 3) := by decide +kernel
theorem dX11_carry_4 : decode cX11_carry 4 = .ok (.iload_n 1, 1) := by decide +kernel
theorem dX11_carry_5 : decode cX11_carry 5 = .ok (.iconst 1, 1) := by decide +kernel
theorem dX11_carry_6 : decode cX11_carry 6 = .ok (.iadd, 1) := by decide +kernel
theorem dX11_carry_7 : decode cX11_carry 7 = .ok (.aload_n 0, 1) := by decide +kernel
theorem dX11_carry_8 : decode cX11_carry 8 = .ok (.getfield 36, 3) := by decide +kernel
theorem dX11_carry_11 : decode cX11_carry 11 = .ok (.iload_n 1, 1) := by decide +kernel
theorem dX11_carry_12 : decode cX11_carry 12 = .ok (.laload, 1) := by decide +kernel
theorem dX11_carry_13 : decode cX11_carry 13 = .ok (.lload_n 2, 1) := by decide +kernel
theorem dX11_carry_14 : decode cX11_carry 14 = .ok (.lmul, 1) := by decide +kernel
theorem dX11_carry_15 : decode cX11_carry 15 = .ok (.lastore, 1) := by decide +kernel
theorem dX11_carry_16 : decode cX11_carry 16 = .ok (.iconst 0, 1) := by decide +kernel
theorem dX11_carry_17 : decode cX11_carry 17 = .ok (.istore 4, 2) := by decide +kernel
theorem dX11_carry_19 : decode cX11_carry 19 = .ok (.iload 4, 2) := by decide +kernel
theorem dX11_carry_21 : decode cX11_carry 21 = .ok (.bipush 7, 2) := by decide +kernel
theorem dX11_carry_23 : decode cX11_carry 23 = .ok (.if_icmp .ge 37, 3) := by decide +kernel
theorem dX11_carry_26 : decode cX11_carry 26 = .ok (.aload_n 0, 1) := by decide +kernel
theorem dX11_carry_27 : decode cX11_carry 27 = .ok (.getfield 32, 3) := by decide +kernel
theorem dX11_carry_30 : decode cX11_carry 30 = .ok (.bipush 7, 2) := by decide +kernel
theorem dX11_carry_32 : decode cX11_carry 32 = .ok (.iload_n 1, 1) := by decide +kernel
theorem dX11_carry_33 : decode cX11_carry 33 = .ok (.iconst 1, 1) := by decide +kernel
theorem dX11_carry_34 : decode cX11_carry 34 = .ok (.iadd, 1) := by decide +kernel
theorem dX11_carry_35 : decode cX11_carry 35 = .ok (.imul, 1) := by decide +kernel
theorem dX11_carry_36 : decode cX11_carry 36 = .ok (.iload 4, 2) := by decide +kernel
theorem dX11_carry_38 : decode cX11_carry 38 = .ok (.iadd, 1) := by decide +kernel
theorem dX11_carry_39 : decode cX11_carry 39 = .ok (.aload_n 0, 1) := by decide +kernel
theorem dX11_carry_40 : decode cX11_carry 40 = .ok (.getfield 32, 3) := by decide +kernel
theorem dX11_carry_43 : decode cX11_carry 43 = .ok (.bipush 7, 2) := by decide +kernel
theorem dX11_carry_45 : decode cX11_carry 45 = .ok (.iload_n 1, 1) := by decide +kernel
theorem dX11_carry_46 : decode cX11_carry 46 = .ok (.imul, 1) := by decide +kernel
theorem dX11_carry_47 : decode cX11_carry 47 = .ok (.iload 4, 2) := by decide +kernel
theorem dX11_carry_49 : decode cX11_carry 49 = .ok (.iadd, 1) := by decide +kernel
theorem dX11_carry_50 : decode cX11_carry 50 = .ok (.laload, 1) := by decide +kernel
theorem dX11_carry_51 : decode cX11_carry 51 = .ok (.lload_n 2, 1) := by decide +kernel
theorem dX11_carry_52 : decode cX11_carry 52 = .ok (.lmul, 1) := by decide +kernel
theorem dX11_carry_53 : decode cX11_carry 53 = .ok (.lastore, 1) := by decide +kernel
theorem dX11_carry_54 : decode cX11_carry 54 = .ok (.iinc 4 1, 3) := by decide +kernel
theorem dX11_carry_57 : decode cX11_carry 57 = .ok (.goto (-38), 3) := by decide +kernel
theorem dX11_carry_60 : decode cX11_carry 60 = .ok (.return_, 1) := by decide +kernel
set_option maxRecDepth 20000 in
theorem ggX11_loadOne_X11_papersOf : GoodIn wsX11_loadOne wsX11_papersOf := goodIn_r _ [10, 2, 3, 4, 29, 30, 31, 32, 33, 34, 35, 36, 37, 38, 39, 40, 41, 42, 43, 44, 45] (by decide +kernel) (by decide +kernel)
set_option maxRecDepth 20000 in
theorem gX11_loadOne_X11_papersOf : GoodIn wsX11_loadOne (wsV RX11 82 RX11 yX11_papersOf wsX11_papersOf) := goodIn_app (goodIn_of _ (by decide +kernel)) ggX11_loadOne_X11_papersOf
set_option maxRecDepth 20000 in
theorem ggX11_loadOne_X11_isLeft : GoodIn wsX11_loadOne wsX11_isLeft := goodIn_r _ [14, 15, 29, 30, 31, 32, 33, 34, 35, 36, 37, 38, 39, 40, 41, 42, 43, 44, 45] (by decide +kernel) (by decide +kernel)
set_option maxRecDepth 20000 in
theorem gX11_loadOne_X11_isLeft : GoodIn wsX11_loadOne (wsV RX11 79 RX11 yX11_isLeft wsX11_isLeft) := goodIn_app (goodIn_of _ (by decide +kernel)) ggX11_loadOne_X11_isLeft
set_option maxRecDepth 20000 in
theorem ggX11_loadOne_X11_carry : GoodIn wsX11_loadOne wsX11_carry := goodIn_r _ [19, 1, 5, 29, 30, 31, 32, 33, 34, 35, 36, 37, 38, 39, 40, 41, 42, 43, 44, 45] (by decide +kernel) (by decide +kernel)
set_option maxRecDepth 20000 in
theorem gX11_loadOne_X11_carry : GoodIn wsX11_loadOne (wsV RX11 85 RX11 yX11_carry wsX11_carry) := goodIn_app (goodIn_of _ (by decide +kernel)) ggX11_loadOne_X11_carry
set_option maxRecDepth 20000 in
theorem ggX11_loadOne_X11_mostOf : GoodIn wsX11_loadOne wsX11_mostOf := goodIn_r _ [23, 11, 12, 13, 9, 14, 15, 6, 7, 8, 10, 2, 3, 4, 29, 30, 31, 32, 33, 34, 35, 36, 37, 38, 39, 40, 41, 42, 43, 44, 45] (by decide +kernel) (by decide +kernel)
set_option maxRecDepth 20000 in
theorem gX11_loadOne_X11_mostOf : GoodIn wsX11_loadOne (wsV RX11 89 RX11 yX11_mostOf wsX11_mostOf) := goodIn_app (goodIn_of _ (by decide +kernel)) ggX11_loadOne_X11_mostOf
set_option maxRecDepth 20000 in
theorem ggX11_loadOne_X11_pick : GoodIn wsX11_loadOne wsX11_pick := goodIn_r _ [27, 28, 15, 29, 30, 31, 32, 33, 34, 35, 36, 37, 38, 39, 40, 41, 42, 43, 44, 45] (by decide +kernel) (by decide +kernel)
set_option maxRecDepth 20000 in
theorem gX11_loadOne_X11_pick : GoodIn wsX11_loadOne (wsV RX11 92 RX11 yX11_pick wsX11_pick) := goodIn_app (goodIn_of _ (by decide +kernel)) ggX11_loadOne_X11_pick
theorem dX11_loadOne_0 : decode cX11_loadOne 0 = .ok (.bipush (-6), 2) := by decide +kernel
theorem dX11_loadOne_2 : decode cX11_loadOne 2 = .ok (.istore_n 2, 1) := by decide +kernel
theorem dX11_loadOne_3 : decode cX11_loadOne 3 = .ok (.lconst 0, 1) := by decide +kernel
theorem dX11_loadOne_4 : decode cX11_loadOne 4 = .ok (.lstore_n 3, 1) := by decide +kernel
theorem dX11_loadOne_5 : decode cX11_loadOne 5 = .ok (.lconst 1, 1) := by decide +kernel
theorem dX11_loadOne_6 : decode cX11_loadOne 6 = .ok (.lstore 5, 2) := by decide +kernel
theorem dX11_loadOne_8 : decode cX11_loadOne 8 = .ok (.iconst 0, 1) := by decide +kernel
theorem dX11_loadOne_9 : decode cX11_loadOne 9 = .ok (.istore 7, 2) := by decide +kernel
theorem dX11_loadOne_11 : decode cX11_loadOne 11 = .ok (.iload 7, 2) := by decide +kernel
theorem dX11_loadOne_13 : decode cX11_loadOne 13 = .ok (.bipush 8, 2) := by decide +kernel
theorem dX11_loadOne_15 : decode cX11_loadOne 15 = .ok (.if_icmp .ge 126, 3) := by decide +kernel
theorem dX11_loadOne_18 : decode cX11_loadOne 18 = .ok (.aload_n 0, 1) := by decide +kernel
theorem dX11_loadOne_19 : decode cX11_loadOne 19 = .ok (.iload 7, 2) := by decide +kernel
theorem dX11_loadOne_21 : decode cX11_loadOne 21 = .ok (.invokevirtual 82, 3) := by decide +kernel
theorem dX11_loadOne_24 : decode cX11_loadOne 24 = .ok (.i2l, 1) := by decide +kernel
theorem dX11_loadOne_25 : decode cX11_loadOne 25 = .ok (.lstore 8, 2) := by decide +kernel
theorem dX11_loadOne_27 : decode cX11_loadOne 27 = .ok (.aload_n 0, 1) := by decide +kernel
theorem dX11_loadOne_28 : decode cX11_loadOne 28 = .ok (.iload 7, 2) := by decide +kernel
theorem dX11_loadOne_30 : decode cX11_loadOne 30 = .ok (.invokevirtual 79, 3) := by decide +kernel
theorem dX11_loadOne_33 : decode cX11_loadOne 33 = .ok (.ifCond .eq 102, 3) := by decide +kernel
theorem dX11_loadOne_36 : decode cX11_loadOne 36 = .ok (.lload 8, 2) := by decide +kernel
theorem dX11_loadOne_38 : decode cX11_loadOne 38 = .ok (.lconst 0, 1) := by decide +kernel
theorem dX11_loadOne_39 : decode cX11_loadOne 39 = .ok (.lcmp, 1) := by decide +kernel
theorem dX11_loadOne_40 : decode cX11_loadOne 40 = .ok (.ifCond .le 95, 3) := by decide +kernel
theorem dX11_loadOne_43 : decode cX11_loadOne 43 = .ok (.aload_n 0, 1) := by decide +kernel
theorem dX11_loadOne_44 : decode cX11_loadOne 44 = .ok (.getfield 36, 3) := by decide +kernel
theorem dX11_loadOne_47 : decode cX11_loadOne 47 = .ok (.iload_n 1, 1) := by decide +kernel
theorem dX11_loadOne_48 : decode cX11_loadOne 48 = .ok (.laload, 1) := by decide +kernel
theorem dX11_loadOne_49 : decode cX11_loadOne 49 = .ok (.lstore 10, 2) := by decide +kernel
theorem dX11_loadOne_51 : decode cX11_loadOne 51 = .ok (.iconst 0, 1) := by decide +kernel
theorem dX11_loadOne_52 : decode cX11_loadOne 52 = .ok (.istore 12, 2) := by decide +kernel
theorem dX11_loadOne_54 : decode cX11_loadOne 54 = .ok (.iload 12, 2) := by decide +kernel
theorem dX11_loadOne_56 : decode cX11_loadOne 56 = .ok (.aload_n 0, 1) := by decide +kernel
theorem dX11_loadOne_57 : decode cX11_loadOne 57 = .ok (.getfield 39, 3) := by decide +kernel
theorem dX11_loadOne_60 : decode cX11_loadOne 60 = .ok (.if_icmp .ge 48, 3) := by decide +kernel
theorem dX11_loadOne_63 : decode cX11_loadOne 63 = .ok (.lload 10, 2) := by decide +kernel
theorem dX11_loadOne_65 : decode cX11_loadOne 65 = .ok (.aload_n 0, 1) := by decide +kernel
theorem dX11_loadOne_66 : decode cX11_loadOne 66 = .ok (.getfield 7, 3) := by decide +kernel
theorem dX11_loadOne_69 : decode cX11_loadOne 69 = .ok (.iload 12, 2) := by decide +kernel
theorem dX11_loadOne_71 : decode cX11_loadOne 71 = .ok (.iaload, 1) := by decide +kernel
theorem dX11_loadOne_72 : decode cX11_loadOne 72 = .ok (.iload 7, 2) := by decide +kernel
theorem dX11_loadOne_74 : decode cX11_loadOne 74 = .ok (.ishr, 1) := by decide +kernel
theorem dX11_loadOne_75 : decode cX11_loadOne 75 = .ok (.iconst 1, 1) := by decide +kernel
theorem dX11_loadOne_76 : decode cX11_loadOne 76 = .ok (.iand, 1) := by decide +kernel
theorem dX11_loadOne_77 : decode cX11_loadOne 77 = .ok (.aload_n 0, 1) := by decide +kernel
theorem dX11_loadOne_78 : decode cX11_loadOne 78 = .ok (.getfield 13, 3) := by decide +kernel
theorem dX11_loadOne_81 : decode cX11_loadOne 81 = .ok (.iload 12, 2) := by decide +kernel
theorem dX11_loadOne_83 : decode cX11_loadOne 83 = .ok (.iaload, 1) := by decide +kernel
theorem dX11_loadOne_84 : decode cX11_loadOne 84 = .ok (.imul, 1) := by decide +kernel
theorem dX11_loadOne_85 : decode cX11_loadOne 85 = .ok (.i2l, 1) := by decide +kernel
theorem dX11_loadOne_86 : decode cX11_loadOne 86 = .ok (.aload_n 0, 1) := by decide +kernel
theorem dX11_loadOne_87 : decode cX11_loadOne 87 = .ok (.getfield 32, 3) := by decide +kernel
theorem dX11_loadOne_90 : decode cX11_loadOne 90 = .ok (.bipush 7, 2) := by decide +kernel
theorem dX11_loadOne_92 : decode cX11_loadOne 92 = .ok (.iload_n 1, 1) := by decide +kernel
theorem dX11_loadOne_93 : decode cX11_loadOne 93 = .ok (.imul, 1) := by decide +kernel
theorem dX11_loadOne_94 : decode cX11_loadOne 94 = .ok (.iload 12, 2) := by decide +kernel
theorem dX11_loadOne_96 : decode cX11_loadOne 96 = .ok (.iadd, 1) := by decide +kernel
theorem dX11_loadOne_97 : decode cX11_loadOne 97 = .ok (.laload, 1) := by decide +kernel
theorem dX11_loadOne_98 : decode cX11_loadOne 98 = .ok (.lmul, 1) := by decide +kernel
theorem dX11_loadOne_99 : decode cX11_loadOne 99 = .ok (.ladd, 1) := by decide +kernel
theorem dX11_loadOne_100 : decode cX11_loadOne 100 = .ok (.lstore 10, 2) := by decide +kernel
theorem dX11_loadOne_102 : decode cX11_loadOne 102 = .ok (.iinc 12 1, 3) := by decide +kernel
theorem dX11_loadOne_105 : decode cX11_loadOne 105 = .ok (.goto (-51), 3) := by decide +kernel
theorem dX11_loadOne_108 : decode cX11_loadOne 108 = .ok (.iload_n 2, 1) := by decide +kernel
theorem dX11_loadOne_109 : decode cX11_loadOne 109 = .ok (.ifCond .lt 16, 3) := by decide +kernel
theorem dX11_loadOne_112 : decode cX11_loadOne 112 = .ok (.lload 10, 2) := by decide +kernel
theorem dX11_loadOne_114 : decode cX11_loadOne 114 = .ok (.lload 5, 2) := by decide +kernel
theorem dX11_loadOne_116 : decode cX11_loadOne 116 = .ok (.lmul, 1) := by decide +kernel
theorem dX11_loadOne_117 : decode cX11_loadOne 117 = .ok (.lload_n 3, 1) := by decide +kernel
theorem dX11_loadOne_118 : decode cX11_loadOne 118 = .ok (.lload 8, 2) := by decide +kernel
theorem dX11_loadOne_120 : decode cX11_loadOne 120 = .ok (.lmul, 1) := by decide +kernel
theorem dX11_loadOne_121 : decode cX11_loadOne 121 = .ok (.lcmp, 1) := by decide +kernel
theorem dX11_loadOne_122 : decode cX11_loadOne 122 = .ok (.ifCond .ge 13, 3) := by decide +kernel
theorem dX11_loadOne_125 : decode cX11_loadOne 125 = .ok (.iload 7, 2) := by decide +kernel
theorem dX11_loadOne_127 : decode cX11_loadOne 127 = .ok (.istore_n 2, 1) := by decide +kernel
theorem dX11_loadOne_128 : decode cX11_loadOne 128 = .ok (.lload 10, 2) := by decide +kernel
theorem dX11_loadOne_130 : decode cX11_loadOne 130 = .ok (.lstore_n 3, 1) := by decide +kernel
theorem dX11_loadOne_131 : decode cX11_loadOne 131 = .ok (.lload 8, 2) := by decide +kernel
theorem dX11_loadOne_133 : decode cX11_loadOne 133 = .ok (.lstore 5, 2) := by decide +kernel
theorem dX11_loadOne_135 : decode cX11_loadOne 135 = .ok (.iinc 7 1, 3) := by decide +kernel
theorem dX11_loadOne_138 : decode cX11_loadOne 138 = .ok (.goto (-127), 3) := by decide +kernel
theorem dX11_loadOne_141 : decode cX11_loadOne 141 = .ok (.aload_n 0, 1) := by decide +kernel
theorem dX11_loadOne_142 : decode cX11_loadOne 142 = .ok (.iload_n 1, 1) := by decide +kernel
theorem dX11_loadOne_143 : decode cX11_loadOne 143 = .ok (.lload 5, 2) := by decide +kernel
theorem dX11_loadOne_145 : decode cX11_loadOne 145 = .ok (.invokevirtual 85, 3) := by decide +kernel
theorem dX11_loadOne_148 : decode cX11_loadOne 148 = .ok (.iconst 0, 1) := by decide +kernel
theorem dX11_loadOne_149 : decode cX11_loadOne 149 = .ok (.istore 7, 2) := by decide +kernel
theorem dX11_loadOne_151 : decode cX11_loadOne 151 = .ok (.iload 7, 2) := by decide +kernel
theorem dX11_loadOne_153 : decode cX11_loadOne 153 = .ok (.aload_n 0, 1) := by decide +kernel
theorem dX11_loadOne_154 : decode cX11_loadOne 154 = .ok (.getfield 39, 3) := by decide +kernel
theorem dX11_loadOne_157 : decode cX11_loadOne 157 = .ok (.if_icmp .ge 60, 3) := by decide +kernel
theorem dX11_loadOne_160 : decode cX11_loadOne 160 = .ok (.iload_n 2, 1) := by decide +kernel
theorem dX11_loadOne_161 : decode cX11_loadOne 161 = .ok (.ifCond .lt 56, 3) := by decide +kernel
theorem dX11_loadOne_164 : decode cX11_loadOne 164 = .ok (.aload_n 0, 1) := by decide +kernel
theorem dX11_loadOne_165 : decode cX11_loadOne 165 = .ok (.getfield 32, 3) := by decide +kernel
theorem dX11_loadOne_168 : decode cX11_loadOne 168 = .ok (.bipush 7, 2) := by decide +kernel
theorem dX11_loadOne_170 : decode cX11_loadOne 170 = .ok (.iload_n 1, 1) := by decide +kernel
theorem dX11_loadOne_171 : decode cX11_loadOne 171 = .ok (.iconst 1, 1) := by decide +kernel
theorem dX11_loadOne_172 : decode cX11_loadOne 172 = .ok (.iadd, 1) := by decide +kernel
theorem dX11_loadOne_173 : decode cX11_loadOne 173 = .ok (.imul, 1) := by decide +kernel
theorem dX11_loadOne_174 : decode cX11_loadOne 174 = .ok (.iload 7, 2) := by decide +kernel
theorem dX11_loadOne_176 : decode cX11_loadOne 176 = .ok (.iadd, 1) := by decide +kernel
theorem dX11_loadOne_177 : decode cX11_loadOne 177 = .ok (.aload_n 0, 1) := by decide +kernel
theorem dX11_loadOne_178 : decode cX11_loadOne 178 = .ok (.getfield 7, 3) := by decide +kernel
theorem dX11_loadOne_181 : decode cX11_loadOne 181 = .ok (.iload 7, 2) := by decide +kernel
theorem dX11_loadOne_183 : decode cX11_loadOne 183 = .ok (.iaload, 1) := by decide +kernel
theorem dX11_loadOne_184 : decode cX11_loadOne 184 = .ok (.iload_n 2, 1) := by decide +kernel
theorem dX11_loadOne_185 : decode cX11_loadOne 185 = .ok (.ishr, 1) := by decide +kernel
theorem dX11_loadOne_186 : decode cX11_loadOne 186 = .ok (.iconst 1, 1) := by decide +kernel
theorem dX11_loadOne_187 : decode cX11_loadOne 187 = .ok (.iand, 1) := by decide +kernel
theorem dX11_loadOne_188 : decode cX11_loadOne 188 = .ok (.iconst 1, 1) := by decide +kernel
theorem dX11_loadOne_189 : decode cX11_loadOne 189 = .ok (.if_icmp .ne 7, 3) := by decide +kernel
theorem dX11_loadOne_192 : decode cX11_loadOne 192 = .ok (.lload_n 3, 1) := by decide +kernel
theorem dX11_loadOne_193 : decode cX11_loadOne 193 = .ok (.goto 17, 3) := by decide +kernel
theorem dX11_loadOne_196 : decode cX11_loadOne 196 = .ok (.aload_n 0, 1) := by decide +kernel
theorem dX11_loadOne_197 : decode cX11_loadOne 197 = .ok (.getfield 32, 3) := by decide +kernel
theorem dX11_loadOne_200 : decode cX11_loadOne 200 = .ok (.bipush 7, 2) := by decide +kernel
theorem dX11_loadOne_202 : decode cX11_loadOne 202 = .ok (.iload_n 1, 1) := by decide +kernel
theorem dX11_loadOne_203 : decode cX11_loadOne 203 = .ok (.iconst 1, 1) := by decide +kernel
theorem dX11_loadOne_204 : decode cX11_loadOne 204 = .ok (.iadd, 1) := by decide +kernel
theorem dX11_loadOne_205 : decode cX11_loadOne 205 = .ok (.imul, 1) := by decide +kernel
theorem dX11_loadOne_206 : decode cX11_loadOne 206 = .ok (.iload 7, 2) := by decide +kernel
theorem dX11_loadOne_208 : decode cX11_loadOne 208 = .ok (.iadd, 1) := by decide +kernel
theorem dX11_loadOne_209 : decode cX11_loadOne 209 = .ok (.laload, 1) := by decide +kernel
theorem dX11_loadOne_210 : decode cX11_loadOne 210 = .ok (.lastore, 1) := by decide +kernel
theorem dX11_loadOne_211 : decode cX11_loadOne 211 = .ok (.iinc 7 1, 3) := by decide +kernel
theorem dX11_loadOne_214 : decode cX11_loadOne 214 = .ok (.goto (-63), 3) := by decide +kernel
theorem dX11_loadOne_217 : decode cX11_loadOne 217 = .ok (.aload_n 0, 1) := by decide +kernel
theorem dX11_loadOne_218 : decode cX11_loadOne 218 = .ok (.iload_n 1, 1) := by decide +kernel
theorem dX11_loadOne_219 : decode cX11_loadOne 219 = .ok (.iload_n 2, 1) := by decide +kernel
theorem dX11_loadOne_220 : decode cX11_loadOne 220 = .ok (.ifCond .ge 10, 3) := by decide +kernel
theorem dX11_loadOne_223 : decode cX11_loadOne 223 = .ok (.aload_n 0, 1) := by decide +kernel
theorem dX11_loadOne_224 : decode cX11_loadOne 224 = .ok (.invokevirtual 89, 3) := by decide +kernel
theorem dX11_loadOne_227 : decode cX11_loadOne 227 = .ok (.goto 4, 3) := by decide +kernel
theorem dX11_loadOne_230 : decode cX11_loadOne 230 = .ok (.iload_n 2, 1) := by decide +kernel
theorem dX11_loadOne_231 : decode cX11_loadOne 231 = .ok (.invokevirtual 92, 3) := by decide +kernel
theorem dX11_loadOne_234 : decode cX11_loadOne 234 = .ok (.return_, 1) := by decide +kernel
set_option maxRecDepth 20000 in
theorem ggX11_layRho_X11_allPapers : GoodIn wsX11_layRho wsX11_allPapers := goodIn_r _ [12, 2, 4, 17, 18, 19, 20, 21, 22, 23, 24, 25, 26, 27, 28, 29, 30, 31, 32, 33] (by decide +kernel) (by decide +kernel)
set_option maxRecDepth 20000 in
theorem gX11_layRho_X11_allPapers : GoodIn wsX11_layRho (wsV RX11 96 RX11 yX11_allPapers wsX11_allPapers) := goodIn_app (goodIn_of _ (by decide +kernel)) ggX11_layRho_X11_allPapers
set_option maxRecDepth 20000 in
theorem ggX11_layRho_X11_papersOf : GoodIn wsX11_layRho wsX11_papersOf := goodIn_r _ [16, 2, 3, 4, 17, 18, 19, 20, 21, 22, 23, 24, 25, 26, 27, 28, 29, 30, 31, 32, 33] (by decide +kernel) (by decide +kernel)
set_option maxRecDepth 20000 in
theorem gX11_layRho_X11_papersOf : GoodIn wsX11_layRho (wsV RX11 82 RX11 yX11_papersOf wsX11_papersOf) := goodIn_app (goodIn_of _ (by decide +kernel)) ggX11_layRho_X11_papersOf
theorem dX11_layRho_0 : decode cX11_layRho 0 = .ok (.aload_n 0, 1) := by decide +kernel
theorem dX11_layRho_1 : decode cX11_layRho 1 = .ok (.invokevirtual 96, 3) := by decide +kernel
theorem dX11_layRho_4 : decode cX11_layRho 4 = .ok (.i2l, 1) := by decide +kernel
theorem dX11_layRho_5 : decode cX11_layRho 5 = .ok (.aload_n 0, 1) := by decide +kernel
theorem dX11_layRho_6 : decode cX11_layRho 6 = .ok (.getfield 36, 3) := by decide +kernel
theorem dX11_layRho_9 : decode cX11_layRho 9 = .ok (.iload_n 1, 1) := by decide +kernel
theorem dX11_layRho_10 : decode cX11_layRho 10 = .ok (.laload, 1) := by decide +kernel
theorem dX11_layRho_11 : decode cX11_layRho 11 = .ok (.lmul, 1) := by decide +kernel
theorem dX11_layRho_12 : decode cX11_layRho 12 = .ok (.lstore_n 3, 1) := by decide +kernel
theorem dX11_layRho_13 : decode cX11_layRho 13 = .ok (.lconst 0, 1) := by decide +kernel
theorem dX11_layRho_14 : decode cX11_layRho 14 = .ok (.lstore 5, 2) := by decide +kernel
theorem dX11_layRho_16 : decode cX11_layRho 16 = .ok (.iconst 0, 1) := by decide +kernel
theorem dX11_layRho_17 : decode cX11_layRho 17 = .ok (.istore 7, 2) := by decide +kernel
theorem dX11_layRho_19 : decode cX11_layRho 19 = .ok (.iload 7, 2) := by decide +kernel
theorem dX11_layRho_21 : decode cX11_layRho 21 = .ok (.aload_n 0, 1) := by decide +kernel
theorem dX11_layRho_22 : decode cX11_layRho 22 = .ok (.getfield 39, 3) := by decide +kernel
theorem dX11_layRho_25 : decode cX11_layRho 25 = .ok (.if_icmp .ge 47, 3) := by decide +kernel
theorem dX11_layRho_28 : decode cX11_layRho 28 = .ok (.lload 5, 2) := by decide +kernel
theorem dX11_layRho_30 : decode cX11_layRho 30 = .ok (.aload_n 0, 1) := by decide +kernel
theorem dX11_layRho_31 : decode cX11_layRho 31 = .ok (.getfield 7, 3) := by decide +kernel
theorem dX11_layRho_34 : decode cX11_layRho 34 = .ok (.iload 7, 2) := by decide +kernel
theorem dX11_layRho_36 : decode cX11_layRho 36 = .ok (.iaload, 1) := by decide +kernel
theorem dX11_layRho_37 : decode cX11_layRho 37 = .ok (.iload_n 2, 1) := by decide +kernel
theorem dX11_layRho_38 : decode cX11_layRho 38 = .ok (.ishr, 1) := by decide +kernel
theorem dX11_layRho_39 : decode cX11_layRho 39 = .ok (.iconst 1, 1) := by decide +kernel
theorem dX11_layRho_40 : decode cX11_layRho 40 = .ok (.iand, 1) := by decide +kernel
theorem dX11_layRho_41 : decode cX11_layRho 41 = .ok (.aload_n 0, 1) := by decide +kernel
theorem dX11_layRho_42 : decode cX11_layRho 42 = .ok (.getfield 13, 3) := by decide +kernel
theorem dX11_layRho_45 : decode cX11_layRho 45 = .ok (.iload 7, 2) := by decide +kernel
theorem dX11_layRho_47 : decode cX11_layRho 47 = .ok (.iaload, 1) := by decide +kernel
theorem dX11_layRho_48 : decode cX11_layRho 48 = .ok (.imul, 1) := by decide +kernel
theorem dX11_layRho_49 : decode cX11_layRho 49 = .ok (.i2l, 1) := by decide +kernel
theorem dX11_layRho_50 : decode cX11_layRho 50 = .ok (.aload_n 0, 1) := by decide +kernel
theorem dX11_layRho_51 : decode cX11_layRho 51 = .ok (.getfield 32, 3) := by decide +kernel
theorem dX11_layRho_54 : decode cX11_layRho 54 = .ok (.bipush 7, 2) := by decide +kernel
theorem dX11_layRho_56 : decode cX11_layRho 56 = .ok (.iload_n 1, 1) := by decide +kernel
theorem dX11_layRho_57 : decode cX11_layRho 57 = .ok (.imul, 1) := by decide +kernel
theorem dX11_layRho_58 : decode cX11_layRho 58 = .ok (.iload 7, 2) := by decide +kernel
theorem dX11_layRho_60 : decode cX11_layRho 60 = .ok (.iadd, 1) := by decide +kernel
theorem dX11_layRho_61 : decode cX11_layRho 61 = .ok (.laload, 1) := by decide +kernel
theorem dX11_layRho_62 : decode cX11_layRho 62 = .ok (.lmul, 1) := by decide +kernel
theorem dX11_layRho_63 : decode cX11_layRho 63 = .ok (.ladd, 1) := by decide +kernel
theorem dX11_layRho_64 : decode cX11_layRho 64 = .ok (.lstore 5, 2) := by decide +kernel
theorem dX11_layRho_66 : decode cX11_layRho 66 = .ok (.iinc 7 1, 3) := by decide +kernel
theorem dX11_layRho_69 : decode cX11_layRho 69 = .ok (.goto (-50), 3) := by decide +kernel
theorem dX11_layRho_72 : decode cX11_layRho 72 = .ok (.aload_n 0, 1) := by decide +kernel
theorem dX11_layRho_73 : decode cX11_layRho 73 = .ok (.iload_n 2, 1) := by decide +kernel
theorem dX11_layRho_74 : decode cX11_layRho 74 = .ok (.invokevirtual 82, 3) := by decide +kernel
theorem dX11_layRho_77 : decode cX11_layRho 77 = .ok (.ifCond .eq 10, 3) := by decide +kernel
theorem dX11_layRho_80 : decode cX11_layRho 80 = .ok (.lload 5, 2) := by decide +kernel
theorem dX11_layRho_82 : decode cX11_layRho 82 = .ok (.lload_n 3, 1) := by decide +kernel
theorem dX11_layRho_83 : decode cX11_layRho 83 = .ok (.lcmp, 1) := by decide +kernel
theorem dX11_layRho_84 : decode cX11_layRho 84 = .ok (.ifCond .ge 5, 3) := by decide +kernel
theorem dX11_layRho_87 : decode cX11_layRho 87 = .ok (.iconst 0, 1) := by decide +kernel
theorem dX11_layRho_88 : decode cX11_layRho 88 = .ok (.ireturn, 1) := by decide +kernel
theorem dX11_layRho_89 : decode cX11_layRho 89 = .ok (.iconst 0, 1) := by decide +kernel
theorem dX11_layRho_90 : decode cX11_layRho 90 = .ok (.istore 7, 2) := by decide +kernel
theorem dX11_layRho_92 : decode cX11_layRho 92 = .ok (.iconst 1, 1) := by decide +kernel
theorem dX11_layRho_93 : decode cX11_layRho 93 = .ok (.istore 8, 2) := by decide +kernel
theorem dX11_layRho_95 : decode cX11_layRho 95 = .ok (.iload 8, 2) := by decide +kernel
theorem dX11_layRho_97 : decode cX11_layRho 97 = .ok (.ifCond .eq 244, 3) := by decide +kernel
theorem dX11_layRho_100 : decode cX11_layRho 100 = .ok (.aload_n 0, 1) := by decide +kernel
theorem dX11_layRho_101 : decode cX11_layRho 101 = .ok (.lload_n 3, 1) := by decide +kernel
theorem dX11_layRho_102 : decode cX11_layRho 102 = .ok (.putfield 99, 3) := by decide +kernel
theorem dX11_layRho_105 : decode cX11_layRho 105 = .ok (.aload_n 0, 1) := by decide +kernel
theorem dX11_layRho_106 : decode cX11_layRho 106 = .ok (.lconst 0, 1) := by decide +kernel
theorem dX11_layRho_107 : decode cX11_layRho 107 = .ok (.putfield 103, 3) := by decide +kernel
theorem dX11_layRho_110 : decode cX11_layRho 110 = .ok (.iconst 0, 1) := by decide +kernel
theorem dX11_layRho_111 : decode cX11_layRho 111 = .ok (.istore 9, 2) := by decide +kernel
theorem dX11_layRho_113 : decode cX11_layRho 113 = .ok (.iload 9, 2) := by decide +kernel
theorem dX11_layRho_115 : decode cX11_layRho 115 = .ok (.aload_n 0, 1) := by decide +kernel
theorem dX11_layRho_116 : decode cX11_layRho 116 = .ok (.getfield 39, 3) := by decide +kernel
theorem dX11_layRho_119 : decode cX11_layRho 119 = .ok (.if_icmp .ge 124, 3) := by decide +kernel
theorem dX11_layRho_122 : decode cX11_layRho 122 = .ok (.aload_n 0, 1) := by decide +kernel
theorem dX11_layRho_123 : decode cX11_layRho 123 = .ok (.getfield 7, 3) := by decide +kernel
theorem dX11_layRho_126 : decode cX11_layRho 126 = .ok (.iload 9, 2) := by decide +kernel
theorem dX11_layRho_128 : decode cX11_layRho 128 = .ok (.iaload, 1) := by decide +kernel
theorem dX11_layRho_129 : decode cX11_layRho 129 = .ok (.iload_n 2, 1) := by decide +kernel
theorem dX11_layRho_130 : decode cX11_layRho 130 = .ok (.ishr, 1) := by decide +kernel
theorem dX11_layRho_131 : decode cX11_layRho 131 = .ok (.iconst 1, 1) := by decide +kernel
theorem dX11_layRho_132 : decode cX11_layRho 132 = .ok (.iand, 1) := by decide +kernel
theorem dX11_layRho_133 : decode cX11_layRho 133 = .ok (.iconst 1, 1) := by decide +kernel
theorem dX11_layRho_134 : decode cX11_layRho 134 = .ok (.if_icmp .ne 7, 3) := by decide +kernel
theorem dX11_layRho_137 : decode cX11_layRho 137 = .ok (.iconst 1, 1) := by decide +kernel
theorem dX11_layRho_138 : decode cX11_layRho 138 = .ok (.goto 4, 3) := by decide +kernel
theorem dX11_layRho_141 : decode cX11_layRho 141 = .ok (.iconst 0, 1) := by decide +kernel
theorem dX11_layRho_142 : decode cX11_layRho 142 = .ok (.istore 10, 2) := by decide +kernel
theorem dX11_layRho_144 : decode cX11_layRho 144 = .ok (.iload 7, 2) := by decide +kernel
theorem dX11_layRho_146 : decode cX11_layRho 146 = .ok (.iload 9, 2) := by decide +kernel
theorem dX11_layRho_148 : decode cX11_layRho 148 = .ok (.ishr, 1) := by decide +kernel
theorem dX11_layRho_149 : decode cX11_layRho 149 = .ok (.iconst 1, 1) := by decide +kernel
theorem dX11_layRho_150 : decode cX11_layRho 150 = .ok (.iand, 1) := by decide +kernel
theorem dX11_layRho_151 : decode cX11_layRho 151 = .ok (.iconst 1, 1) := by decide +kernel
theorem dX11_layRho_152 : decode cX11_layRho 152 = .ok (.if_icmp .ne 7, 3) := by decide +kernel
theorem dX11_layRho_155 : decode cX11_layRho 155 = .ok (.iconst 1, 1) := by decide +kernel
theorem dX11_layRho_156 : decode cX11_layRho 156 = .ok (.goto 4, 3) := by decide +kernel
theorem dX11_layRho_159 : decode cX11_layRho 159 = .ok (.iconst 0, 1) := by decide +kernel
theorem dX11_layRho_160 : decode cX11_layRho 160 = .ok (.istore 11, 2) := by decide +kernel
theorem dX11_layRho_162 : decode cX11_layRho 162 = .ok (.aload_n 0, 1) := by decide +kernel
theorem dX11_layRho_163 : decode cX11_layRho 163 = .ok (.dup, 1) := by decide +kernel
theorem dX11_layRho_164 : decode cX11_layRho 164 = .ok (.getfield 99, 3) := by decide +kernel
theorem dX11_layRho_167 : decode cX11_layRho 167 = .ok (.iload 10, 2) := by decide +kernel
theorem dX11_layRho_169 : decode cX11_layRho 169 = .ok (.ifCond .eq 32, 3) := by decide +kernel
theorem dX11_layRho_172 : decode cX11_layRho 172 = .ok (.iload 11, 2) := by decide +kernel
theorem dX11_layRho_174 : decode cX11_layRho 174 = .ok (.ifCond .eq 27, 3) := by decide +kernel
theorem dX11_layRho_177 : decode cX11_layRho 177 = .ok (.aload_n 0, 1) := by decide +kernel
theorem dX11_layRho_178 : decode cX11_layRho 178 = .ok (.getfield 13, 3) := by decide +kernel
theorem dX11_layRho_181 : decode cX11_layRho 181 = .ok (.iload 9, 2) := by decide +kernel
theorem dX11_layRho_183 : decode cX11_layRho 183 = .ok (.iaload, 1) := by decide +kernel
theorem dX11_layRho_184 : decode cX11_layRho 184 = .ok (.i2l, 1) := by decide +kernel
theorem dX11_layRho_185 : decode cX11_layRho 185 = .ok (.aload_n 0, 1) := by decide +kernel
theorem dX11_layRho_186 : decode cX11_layRho 186 = .ok (.getfield 32, 3) := by decide +kernel
theorem dX11_layRho_189 : decode cX11_layRho 189 = .ok (.bipush 7, 2) := by decide +kernel
theorem dX11_layRho_191 : decode cX11_layRho 191 = .ok (.iload_n 1, 1) := by decide +kernel
theorem dX11_layRho_192 : decode cX11_layRho 192 = .ok (.imul, 1) := by decide +kernel
theorem dX11_layRho_193 : decode cX11_layRho 193 = .ok (.iload 9, 2) := by decide +kernel
theorem dX11_layRho_195 : decode cX11_layRho 195 = .ok (.iadd, 1) := by decide +kernel
theorem dX11_layRho_196 : decode cX11_layRho 196 = .ok (.laload, 1) := by decide +kernel
theorem dX11_layRho_197 : decode cX11_layRho 197 = .ok (.lmul, 1) := by decide +kernel
theorem dX11_layRho_198 : decode cX11_layRho 198 = .ok (.goto 4, 3) := by decide +kernel
theorem dX11_layRho_201 : decode cX11_layRho 201 = .ok (.lconst 0, 1) := by decide +kernel
theorem dX11_layRho_202 : decode cX11_layRho 202 = .ok (.lsub, 1) := by decide +kernel
theorem dX11_layRho_203 : decode cX11_layRho 203 = .ok (.putfield 99, 3) := by decide +kernel
theorem dX11_layRho_206 : decode cX11_layRho 206 = .ok (.aload_n 0, 1) := by decide +kernel
theorem dX11_layRho_207 : decode cX11_layRho 207 = .ok (.dup, 1) := by decide +kernel
theorem dX11_layRho_208 : decode cX11_layRho 208 = .ok (.getfield 103, 3) := by decide +kernel
theorem dX11_layRho_211 : decode cX11_layRho 211 = .ok (.iload 10, 2) := by decide +kernel
theorem dX11_layRho_213 : decode cX11_layRho 213 = .ok (.ifCond .eq 19, 3) := by decide +kernel
theorem dX11_layRho_216 : decode cX11_layRho 216 = .ok (.iload 11, 2) := by decide +kernel
theorem dX11_layRho_218 : decode cX11_layRho 218 = .ok (.ifCond .ne 14, 3) := by decide +kernel
theorem dX11_layRho_221 : decode cX11_layRho 221 = .ok (.aload_n 0, 1) := by decide +kernel
theorem dX11_layRho_222 : decode cX11_layRho 222 = .ok (.getfield 13, 3) := by decide +kernel
theorem dX11_layRho_225 : decode cX11_layRho 225 = .ok (.iload 9, 2) := by decide +kernel
theorem dX11_layRho_227 : decode cX11_layRho 227 = .ok (.iaload, 1) := by decide +kernel
theorem dX11_layRho_228 : decode cX11_layRho 228 = .ok (.i2l, 1) := by decide +kernel
theorem dX11_layRho_229 : decode cX11_layRho 229 = .ok (.goto 4, 3) := by decide +kernel
theorem dX11_layRho_232 : decode cX11_layRho 232 = .ok (.lconst 0, 1) := by decide +kernel
theorem dX11_layRho_233 : decode cX11_layRho 233 = .ok (.ladd, 1) := by decide +kernel
theorem dX11_layRho_234 : decode cX11_layRho 234 = .ok (.putfield 103, 3) := by decide +kernel
theorem dX11_layRho_237 : decode cX11_layRho 237 = .ok (.iinc 9 1, 3) := by decide +kernel
theorem dX11_layRho_240 : decode cX11_layRho 240 = .ok (.goto (-127), 3) := by decide +kernel
theorem dX11_layRho_243 : decode cX11_layRho 243 = .ok (.iconst 0, 1) := by decide +kernel
theorem dX11_layRho_244 : decode cX11_layRho 244 = .ok (.istore 8, 2) := by decide +kernel
theorem dX11_layRho_246 : decode cX11_layRho 246 = .ok (.iconst 0, 1) := by decide +kernel
theorem dX11_layRho_247 : decode cX11_layRho 247 = .ok (.istore 9, 2) := by decide +kernel
theorem dX11_layRho_249 : decode cX11_layRho 249 = .ok (.iload 9, 2) := by decide +kernel
theorem dX11_layRho_251 : decode cX11_layRho 251 = .ok (.aload_n 0, 1) := by decide +kernel
theorem dX11_layRho_252 : decode cX11_layRho 252 = .ok (.getfield 39, 3) := by decide +kernel
theorem dX11_layRho_255 : decode cX11_layRho 255 = .ok (.if_icmp .ge 83, 3) := by decide +kernel
theorem dX11_layRho_258 : decode cX11_layRho 258 = .ok (.aload_n 0, 1) := by decide +kernel
theorem dX11_layRho_259 : decode cX11_layRho 259 = .ok (.getfield 7, 3) := by decide +kernel
theorem dX11_layRho_262 : decode cX11_layRho 262 = .ok (.iload 9, 2) := by decide +kernel
theorem dX11_layRho_264 : decode cX11_layRho 264 = .ok (.iaload, 1) := by decide +kernel
theorem dX11_layRho_265 : decode cX11_layRho 265 = .ok (.iload_n 2, 1) := by decide +kernel
theorem dX11_layRho_266 : decode cX11_layRho 266 = .ok (.ishr, 1) := by decide +kernel
theorem dX11_layRho_267 : decode cX11_layRho 267 = .ok (.iconst 1, 1) := by decide +kernel
theorem dX11_layRho_268 : decode cX11_layRho 268 = .ok (.iand, 1) := by decide +kernel
theorem dX11_layRho_269 : decode cX11_layRho 269 = .ok (.iconst 1, 1) := by decide +kernel
theorem dX11_layRho_270 : decode cX11_layRho 270 = .ok (.if_icmp .ne 17, 3) := by decide +kernel
theorem dX11_layRho_273 : decode cX11_layRho 273 = .ok (.iload 7, 2) := by decide +kernel
theorem dX11_layRho_275 : decode cX11_layRho 275 = .ok (.iload 9, 2) := by decide +kernel
theorem dX11_layRho_277 : decode cX11_layRho 277 = .ok (.ishr, 1) := by decide +kernel
theorem dX11_layRho_278 : decode cX11_layRho 278 = .ok (.iconst 1, 1) := by decide +kernel
theorem dX11_layRho_279 : decode cX11_layRho 279 = .ok (.iand, 1) := by decide +kernel
theorem dX11_layRho_280 : decode cX11_layRho 280 = .ok (.ifCond .ne 7, 3) := by decide +kernel
theorem dX11_layRho_283 : decode cX11_layRho 283 = .ok (.iconst 1, 1) := by decide +kernel
theorem dX11_layRho_284 : decode cX11_layRho 284 = .ok (.goto 4, 3) := by decide +kernel
theorem dX11_layRho_287 : decode cX11_layRho 287 = .ok (.iconst 0, 1) := by decide +kernel
theorem dX11_layRho_288 : decode cX11_layRho 288 = .ok (.istore 10, 2) := by decide +kernel
theorem dX11_layRho_290 : decode cX11_layRho 290 = .ok (.iload 10, 2) := by decide +kernel
theorem dX11_layRho_292 : decode cX11_layRho 292 = .ok (.ifCond .eq 40, 3) := by decide +kernel
theorem dX11_layRho_295 : decode cX11_layRho 295 = .ok (.aload_n 0, 1) := by decide +kernel
theorem dX11_layRho_296 : decode cX11_layRho 296 = .ok (.getfield 32, 3) := by decide +kernel
theorem dX11_layRho_299 : decode cX11_layRho 299 = .ok (.bipush 7, 2) := by decide +kernel
theorem dX11_layRho_301 : decode cX11_layRho 301 = .ok (.iload_n 1, 1) := by decide +kernel
theorem dX11_layRho_302 : decode cX11_layRho 302 = .ok (.imul, 1) := by decide +kernel
theorem dX11_layRho_303 : decode cX11_layRho 303 = .ok (.iload 9, 2) := by decide +kernel
theorem dX11_layRho_305 : decode cX11_layRho 305 = .ok (.iadd, 1) := by decide +kernel
theorem dX11_layRho_306 : decode cX11_layRho 306 = .ok (.laload, 1) := by decide +kernel
theorem dX11_layRho_307 : decode cX11_layRho 307 = .ok (.aload_n 0, 1) := by decide +kernel
theorem dX11_layRho_308 : decode cX11_layRho 308 = .ok (.getfield 103, 3) := by decide +kernel
theorem dX11_layRho_311 : decode cX11_layRho 311 = .ok (.lmul, 1) := by decide +kernel
theorem dX11_layRho_312 : decode cX11_layRho 312 = .ok (.aload_n 0, 1) := by decide +kernel
theorem dX11_layRho_313 : decode cX11_layRho 313 = .ok (.getfield 99, 3) := by decide +kernel
theorem dX11_layRho_316 : decode cX11_layRho 316 = .ok (.lcmp, 1) := by decide +kernel
theorem dX11_layRho_317 : decode cX11_layRho 317 = .ok (.ifCond .ge 15, 3) := by decide +kernel
theorem dX11_layRho_320 : decode cX11_layRho 320 = .ok (.iload 7, 2) := by decide +kernel
theorem dX11_layRho_322 : decode cX11_layRho 322 = .ok (.iconst 1, 1) := by decide +kernel
theorem dX11_layRho_323 : decode cX11_layRho 323 = .ok (.iload 9, 2) := by decide +kernel
theorem dX11_layRho_325 : decode cX11_layRho 325 = .ok (.ishl, 1) := by decide +kernel
theorem dX11_layRho_326 : decode cX11_layRho 326 = .ok (.ior, 1) := by decide +kernel
theorem dX11_layRho_327 : decode cX11_layRho 327 = .ok (.istore 7, 2) := by decide +kernel
theorem dX11_layRho_329 : decode cX11_layRho 329 = .ok (.iconst 1, 1) := by decide +kernel
theorem dX11_layRho_330 : decode cX11_layRho 330 = .ok (.istore 8, 2) := by decide +kernel
theorem dX11_layRho_332 : decode cX11_layRho 332 = .ok (.iinc 9 1, 3) := by decide +kernel
theorem dX11_layRho_335 : decode cX11_layRho 335 = .ok (.goto (-86), 3) := by decide +kernel
theorem dX11_layRho_338 : decode cX11_layRho 338 = .ok (.goto (-243), 3) := by decide +kernel
theorem dX11_layRho_341 : decode cX11_layRho 341 = .ok (.iconst 1, 1) := by decide +kernel
theorem dX11_layRho_342 : decode cX11_layRho 342 = .ok (.ireturn, 1) := by decide +kernel
set_option maxRecDepth 20000 in
theorem ggX11_share_X11_isLeft : GoodIn wsX11_share wsX11_isLeft := goodIn_r _ [11, 12, 40, 41, 42, 43, 44, 45, 46, 47, 48, 49, 50, 51, 52, 53, 54, 55, 56] (by decide +kernel) (by decide +kernel)
set_option maxRecDepth 20000 in
theorem gX11_share_X11_isLeft : GoodIn wsX11_share (wsV RX11 79 RX11 yX11_isLeft wsX11_isLeft) := goodIn_app (goodIn_of _ (by decide +kernel)) ggX11_share_X11_isLeft
set_option maxRecDepth 20000 in
theorem ggX11_share_X11_layRho : GoodIn wsX11_share wsX11_layRho := goodIn_r _ [16, 17, 3, 4, 18, 5, 1, 2, 19, 20, 21, 10, 22, 23, 24, 25, 26, 40, 41, 42, 43, 44, 45, 46, 47, 48, 49, 50, 51, 52, 53, 54, 55, 56] (by decide +kernel) (by decide +kernel)
set_option maxRecDepth 20000 in
theorem gX11_share_X11_layRho : GoodIn wsX11_share (wsV RX11 106 RX11 yX11_layRho wsX11_layRho) := goodIn_app (goodIn_of _ (by decide +kernel)) ggX11_share_X11_layRho
set_option maxRecDepth 20000 in
theorem ggX11_share_X11_carry : GoodIn wsX11_share wsX11_carry := goodIn_r _ [30, 17, 5, 40, 41, 42, 43, 44, 45, 46, 47, 48, 49, 50, 51, 52, 53, 54, 55, 56] (by decide +kernel) (by decide +kernel)
set_option maxRecDepth 20000 in
theorem gX11_share_X11_carry : GoodIn wsX11_share (wsV RX11 85 RX11 yX11_carry wsX11_carry) := goodIn_app (goodIn_of _ (by decide +kernel)) ggX11_share_X11_carry
set_option maxRecDepth 20000 in
theorem ggX11_share_X11_mostOf : GoodIn wsX11_share wsX11_mostOf := goodIn_r _ [34, 7, 8, 9, 10, 11, 12, 23, 24, 25, 26, 3, 4, 18, 40, 41, 42, 43, 44, 45, 46, 47, 48, 49, 50, 51, 52, 53, 54, 55, 56] (by decide +kernel) (by decide +kernel)
set_option maxRecDepth 20000 in
theorem gX11_share_X11_mostOf : GoodIn wsX11_share (wsV RX11 89 RX11 yX11_mostOf wsX11_mostOf) := goodIn_app (goodIn_of _ (by decide +kernel)) ggX11_share_X11_mostOf
set_option maxRecDepth 20000 in
theorem ggX11_share_X11_pick : GoodIn wsX11_share wsX11_pick := goodIn_r _ [38, 39, 12, 40, 41, 42, 43, 44, 45, 46, 47, 48, 49, 50, 51, 52, 53, 54, 55, 56] (by decide +kernel) (by decide +kernel)
set_option maxRecDepth 20000 in
theorem gX11_share_X11_pick : GoodIn wsX11_share (wsV RX11 92 RX11 yX11_pick wsX11_pick) := goodIn_app (goodIn_of _ (by decide +kernel)) ggX11_share_X11_pick
theorem dX11_share_0 : decode cX11_share 0 = .ok (.bipush (-6), 2) := by decide +kernel
theorem dX11_share_2 : decode cX11_share 2 = .ok (.istore_n 2, 1) := by decide +kernel
