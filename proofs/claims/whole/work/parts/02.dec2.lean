theorem dX11_share_3 : decode cX11_share 3 = .ok (.lconst 0, 1) := by decide +kernel
theorem dX11_share_4 : decode cX11_share 4 = .ok (.lstore_n 3, 1) := by decide +kernel
theorem dX11_share_5 : decode cX11_share 5 = .ok (.lconst 1, 1) := by decide +kernel
theorem dX11_share_6 : decode cX11_share 6 = .ok (.lstore 5, 2) := by decide +kernel
theorem dX11_share_8 : decode cX11_share 8 = .ok (.iconst 0, 1) := by decide +kernel
theorem dX11_share_9 : decode cX11_share 9 = .ok (.istore 7, 2) := by decide +kernel
theorem dX11_share_11 : decode cX11_share 11 = .ok (.iload 7, 2) := by decide +kernel
theorem dX11_share_13 : decode cX11_share 13 = .ok (.bipush 8, 2) := by decide +kernel
theorem dX11_share_15 : decode cX11_share 15 = .ok (.if_icmp .ge 63, 3) := by decide +kernel
theorem dX11_share_18 : decode cX11_share 18 = .ok (.aload_n 0, 1) := by decide +kernel
theorem dX11_share_19 : decode cX11_share 19 = .ok (.iload 7, 2) := by decide +kernel
theorem dX11_share_21 : decode cX11_share 21 = .ok (.invokevirtual 79, 3) := by decide +kernel
theorem dX11_share_24 : decode cX11_share 24 = .ok (.ifCond .eq 48, 3) := by decide +kernel
theorem dX11_share_27 : decode cX11_share 27 = .ok (.aload_n 0, 1) := by decide +kernel
theorem dX11_share_28 : decode cX11_share 28 = .ok (.iload_n 1, 1) := by decide +kernel
theorem dX11_share_29 : decode cX11_share 29 = .ok (.iload 7, 2) := by decide +kernel
theorem dX11_share_31 : decode cX11_share 31 = .ok (.invokevirtual 106, 3) := by decide +kernel
theorem dX11_share_34 : decode cX11_share 34 = .ok (.ifCond .eq 38, 3) := by decide +kernel
theorem dX11_share_37 : decode cX11_share 37 = .ok (.iload_n 2, 1) := by decide +kernel
theorem dX11_share_38 : decode cX11_share 38 = .ok (.ifCond .lt 20, 3) := by decide +kernel
theorem dX11_share_41 : decode cX11_share 41 = .ok (.aload_n 0, 1) := by decide +kernel
theorem dX11_share_42 : decode cX11_share 42 = .ok (.getfield 99, 3) := by decide +kernel
theorem dX11_share_45 : decode cX11_share 45 = .ok (.lload 5, 2) := by decide +kernel
theorem dX11_share_47 : decode cX11_share 47 = .ok (.lmul, 1) := by decide +kernel
theorem dX11_share_48 : decode cX11_share 48 = .ok (.lload_n 3, 1) := by decide +kernel
theorem dX11_share_49 : decode cX11_share 49 = .ok (.aload_n 0, 1) := by decide +kernel
theorem dX11_share_50 : decode cX11_share 50 = .ok (.getfield 103, 3) := by decide +kernel
theorem dX11_share_53 : decode cX11_share 53 = .ok (.lmul, 1) := by decide +kernel
theorem dX11_share_54 : decode cX11_share 54 = .ok (.lcmp, 1) := by decide +kernel
theorem dX11_share_55 : decode cX11_share 55 = .ok (.ifCond .ge 17, 3) := by decide +kernel
theorem dX11_share_58 : decode cX11_share 58 = .ok (.iload 7, 2) := by decide +kernel
theorem dX11_share_60 : decode cX11_share 60 = .ok (.istore_n 2, 1) := by decide +kernel
theorem dX11_share_61 : decode cX11_share 61 = .ok (.aload_n 0, 1) := by decide +kernel
theorem dX11_share_62 : decode cX11_share 62 = .ok (.getfield 99, 3) := by decide +kernel
theorem dX11_share_65 : decode cX11_share 65 = .ok (.lstore_n 3, 1) := by decide +kernel
theorem dX11_share_66 : decode cX11_share 66 = .ok (.aload_n 0, 1) := by decide +kernel
theorem dX11_share_67 : decode cX11_share 67 = .ok (.getfield 103, 3) := by decide +kernel
theorem dX11_share_70 : decode cX11_share 70 = .ok (.lstore 5, 2) := by decide +kernel
theorem dX11_share_72 : decode cX11_share 72 = .ok (.iinc 7 1, 3) := by decide +kernel
theorem dX11_share_75 : decode cX11_share 75 = .ok (.goto (-64), 3) := by decide +kernel
theorem dX11_share_78 : decode cX11_share 78 = .ok (.aload_n 0, 1) := by decide +kernel
theorem dX11_share_79 : decode cX11_share 79 = .ok (.iload_n 1, 1) := by decide +kernel
theorem dX11_share_80 : decode cX11_share 80 = .ok (.lload 5, 2) := by decide +kernel
theorem dX11_share_82 : decode cX11_share 82 = .ok (.invokevirtual 85, 3) := by decide +kernel
theorem dX11_share_85 : decode cX11_share 85 = .ok (.iconst 0, 1) := by decide +kernel
theorem dX11_share_86 : decode cX11_share 86 = .ok (.istore 7, 2) := by decide +kernel
theorem dX11_share_88 : decode cX11_share 88 = .ok (.iload 7, 2) := by decide +kernel
theorem dX11_share_90 : decode cX11_share 90 = .ok (.aload_n 0, 1) := by decide +kernel
theorem dX11_share_91 : decode cX11_share 91 = .ok (.getfield 39, 3) := by decide +kernel
theorem dX11_share_94 : decode cX11_share 94 = .ok (.if_icmp .ge 73, 3) := by decide +kernel
theorem dX11_share_97 : decode cX11_share 97 = .ok (.iload_n 2, 1) := by decide +kernel
theorem dX11_share_98 : decode cX11_share 98 = .ok (.ifCond .lt 69, 3) := by decide +kernel
theorem dX11_share_101 : decode cX11_share 101 = .ok (.aload_n 0, 1) := by decide +kernel
theorem dX11_share_102 : decode cX11_share 102 = .ok (.getfield 7, 3) := by decide +kernel
theorem dX11_share_105 : decode cX11_share 105 = .ok (.iload 7, 2) := by decide +kernel
theorem dX11_share_107 : decode cX11_share 107 = .ok (.iaload, 1) := by decide +kernel
theorem dX11_share_108 : decode cX11_share 108 = .ok (.iload_n 2, 1) := by decide +kernel
theorem dX11_share_109 : decode cX11_share 109 = .ok (.ishr, 1) := by decide +kernel
theorem dX11_share_110 : decode cX11_share 110 = .ok (.iconst 1, 1) := by decide +kernel
theorem dX11_share_111 : decode cX11_share 111 = .ok (.iand, 1) := by decide +kernel
theorem dX11_share_112 : decode cX11_share 112 = .ok (.iconst 1, 1) := by decide +kernel
theorem dX11_share_113 : decode cX11_share 113 = .ok (.if_icmp .ne 48, 3) := by decide +kernel
theorem dX11_share_116 : decode cX11_share 116 = .ok (.aload_n 0, 1) := by decide +kernel
theorem dX11_share_117 : decode cX11_share 117 = .ok (.getfield 32, 3) := by decide +kernel
theorem dX11_share_120 : decode cX11_share 120 = .ok (.bipush 7, 2) := by decide +kernel
theorem dX11_share_122 : decode cX11_share 122 = .ok (.iload_n 1, 1) := by decide +kernel
theorem dX11_share_123 : decode cX11_share 123 = .ok (.iconst 1, 1) := by decide +kernel
theorem dX11_share_124 : decode cX11_share 124 = .ok (.iadd, 1) := by decide +kernel
theorem dX11_share_125 : decode cX11_share 125 = .ok (.imul, 1) := by decide +kernel
theorem dX11_share_126 : decode cX11_share 126 = .ok (.iload 7, 2) := by decide +kernel
theorem dX11_share_128 : decode cX11_share 128 = .ok (.iadd, 1) := by decide +kernel
theorem dX11_share_129 : decode cX11_share 129 = .ok (.laload, 1) := by decide +kernel
theorem dX11_share_130 : decode cX11_share 130 = .ok (.lload_n 3, 1) := by decide +kernel
theorem dX11_share_131 : decode cX11_share 131 = .ok (.lsub, 1) := by decide +kernel
theorem dX11_share_132 : decode cX11_share 132 = .ok (.lstore 8, 2) := by decide +kernel
theorem dX11_share_134 : decode cX11_share 134 = .ok (.aload_n 0, 1) := by decide +kernel
theorem dX11_share_135 : decode cX11_share 135 = .ok (.getfield 32, 3) := by decide +kernel
theorem dX11_share_138 : decode cX11_share 138 = .ok (.bipush 7, 2) := by decide +kernel
theorem dX11_share_140 : decode cX11_share 140 = .ok (.iload_n 1, 1) := by decide +kernel
theorem dX11_share_141 : decode cX11_share 141 = .ok (.iconst 1, 1) := by decide +kernel
theorem dX11_share_142 : decode cX11_share 142 = .ok (.iadd, 1) := by decide +kernel
theorem dX11_share_143 : decode cX11_share 143 = .ok (.imul, 1) := by decide +kernel
theorem dX11_share_144 : decode cX11_share 144 = .ok (.iload 7, 2) := by decide +kernel
theorem dX11_share_146 : decode cX11_share 146 = .ok (.iadd, 1) := by decide +kernel
theorem dX11_share_147 : decode cX11_share 147 = .ok (.lload 8, 2) := by decide +kernel
theorem dX11_share_149 : decode cX11_share 149 = .ok (.lconst 0, 1) := by decide +kernel
theorem dX11_share_150 : decode cX11_share 150 = .ok (.lcmp, 1) := by decide +kernel
theorem dX11_share_151 : decode cX11_share 151 = .ok (.ifCond .ge 7, 3) := by decide +kernel
theorem dX11_share_154 : decode cX11_share 154 = .ok (.lconst 0, 1) := by decide +kernel
theorem dX11_share_155 : decode cX11_share 155 = .ok (.goto 5, 3) := by decide +kernel
theorem dX11_share_158 : decode cX11_share 158 = .ok (.lload 8, 2) := by decide +kernel
theorem dX11_share_160 : decode cX11_share 160 = .ok (.lastore, 1) := by decide +kernel
theorem dX11_share_161 : decode cX11_share 161 = .ok (.iinc 7 1, 3) := by decide +kernel
theorem dX11_share_164 : decode cX11_share 164 = .ok (.goto (-76), 3) := by decide +kernel
theorem dX11_share_167 : decode cX11_share 167 = .ok (.aload_n 0, 1) := by decide +kernel
theorem dX11_share_168 : decode cX11_share 168 = .ok (.dup, 1) := by decide +kernel
theorem dX11_share_169 : decode cX11_share 169 = .ok (.getfield 110, 3) := by decide +kernel
theorem dX11_share_172 : decode cX11_share 172 = .ok (.iload_n 2, 1) := by decide +kernel
theorem dX11_share_173 : decode cX11_share 173 = .ok (.ifCond .ge 7, 3) := by decide +kernel
theorem dX11_share_176 : decode cX11_share 176 = .ok (.iconst 0, 1) := by decide +kernel
theorem dX11_share_177 : decode cX11_share 177 = .ok (.goto 4, 3) := by decide +kernel
theorem dX11_share_180 : decode cX11_share 180 = .ok (.iconst 1, 1) := by decide +kernel
theorem dX11_share_181 : decode cX11_share 181 = .ok (.iadd, 1) := by decide +kernel
theorem dX11_share_182 : decode cX11_share 182 = .ok (.putfield 110, 3) := by decide +kernel
theorem dX11_share_185 : decode cX11_share 185 = .ok (.aload_n 0, 1) := by decide +kernel
theorem dX11_share_186 : decode cX11_share 186 = .ok (.iload_n 1, 1) := by decide +kernel
theorem dX11_share_187 : decode cX11_share 187 = .ok (.iload_n 2, 1) := by decide +kernel
theorem dX11_share_188 : decode cX11_share 188 = .ok (.ifCond .ge 10, 3) := by decide +kernel
theorem dX11_share_191 : decode cX11_share 191 = .ok (.aload_n 0, 1) := by decide +kernel
theorem dX11_share_192 : decode cX11_share 192 = .ok (.invokevirtual 89, 3) := by decide +kernel
theorem dX11_share_195 : decode cX11_share 195 = .ok (.goto 4, 3) := by decide +kernel
theorem dX11_share_198 : decode cX11_share 198 = .ok (.iload_n 2, 1) := by decide +kernel
theorem dX11_share_199 : decode cX11_share 199 = .ok (.invokevirtual 92, 3) := by decide +kernel
theorem dX11_share_202 : decode cX11_share 202 = .ok (.return_, 1) := by decide +kernel
set_option maxRecDepth 20000 in
theorem ggX11_layWay_X11_mostOf : GoodIn wsX11_layWay wsX11_mostOf := goodIn_r _ [10, 11, 12, 13, 9, 14, 1, 15, 16, 17, 18, 19, 20, 21, 78, 79, 80, 81, 82, 83, 84, 85, 86, 87, 88, 89, 90, 91, 92, 93, 94] (by decide +kernel) (by decide +kernel)
set_option maxRecDepth 20000 in
theorem gX11_layWay_X11_mostOf : GoodIn wsX11_layWay (wsV RX11 89 RX11 yX11_mostOf wsX11_mostOf) := goodIn_app (goodIn_of _ (by decide +kernel)) ggX11_layWay_X11_mostOf
set_option maxRecDepth 20000 in
theorem ggX11_layWay_X11_pick : GoodIn wsX11_layWay wsX11_pick := goodIn_r _ [25, 26, 1, 78, 79, 80, 81, 82, 83, 84, 85, 86, 87, 88, 89, 90, 91, 92, 93, 94] (by decide +kernel) (by decide +kernel)
set_option maxRecDepth 20000 in
theorem gX11_layWay_X11_pick : GoodIn wsX11_layWay (wsV RX11 92 RX11 yX11_pick wsX11_pick) := goodIn_app (goodIn_of _ (by decide +kernel)) ggX11_layWay_X11_pick
set_option maxRecDepth 20000 in
theorem ggX11_layWay_X11_greedyOf : GoodIn wsX11_layWay wsX11_greedyOf := goodIn_r _ [30, 1, 11, 12, 13, 9, 14, 31, 32, 33, 34, 19, 20, 21, 35, 36, 37, 38, 78, 79, 80, 81, 82, 83, 84, 85, 86, 87, 88, 89, 90, 91, 92, 93, 94] (by decide +kernel) (by decide +kernel)
set_option maxRecDepth 20000 in
theorem gX11_layWay_X11_greedyOf : GoodIn wsX11_layWay (wsV RX11 113 RX11 yX11_greedyOf wsX11_greedyOf) := goodIn_app (goodIn_of _ (by decide +kernel)) ggX11_layWay_X11_greedyOf
set_option maxRecDepth 20000 in
theorem ggX11_layWay_X11_loadOne : GoodIn wsX11_layWay wsX11_loadOne := goodIn_r _ [42, 3, 19, 20, 21, 4, 15, 16, 17, 9, 18, 11, 12, 13, 14, 1, 43, 44, 45, 46, 6, 7, 8, 10, 22, 23, 24, 25, 26, 78, 79, 80, 81, 82, 83, 84, 85, 86, 87, 88, 89, 90, 91, 92, 93, 94] (by decide +kernel) (by decide +kernel)
set_option maxRecDepth 20000 in
theorem gX11_layWay_X11_loadOne : GoodIn wsX11_layWay (wsV RX11 116 RX11 yX11_loadOne wsX11_loadOne) := goodIn_app (goodIn_of _ (by decide +kernel)) ggX11_layWay_X11_loadOne
set_option maxRecDepth 20000 in
theorem ggX11_layWay_X11_share : GoodIn wsX11_layWay wsX11_share := goodIn_r _ [50, 51, 52, 19, 20, 4, 2, 11, 12, 13, 9, 14, 1, 53, 54, 55, 56, 3, 21, 57, 58, 59, 60, 15, 16, 17, 18, 43, 44, 45, 46, 6, 7, 8, 10, 22, 23, 24, 25, 26, 78, 79, 80, 81, 82, 83, 84, 85, 86, 87, 88, 89, 90, 91, 92, 93, 94] (by decide +kernel) (by decide +kernel)
set_option maxRecDepth 20000 in
theorem gX11_layWay_X11_share : GoodIn wsX11_layWay (wsV RX11 120 RX11 yX11_share wsX11_share) := goodIn_app (goodIn_of _ (by decide +kernel)) ggX11_layWay_X11_share
set_option maxRecDepth 20000 in
theorem ggX11_layWay_X11_bestOf : GoodIn wsX11_layWay wsX11_bestOf := goodIn_r _ [64, 5, 36, 37, 9, 38, 31, 32, 33, 34, 19, 20, 21, 35, 65, 66, 67, 68, 69, 70, 71, 72, 73, 78, 79, 80, 81, 82, 83, 84, 85, 86, 87, 88, 89, 90, 91, 92, 93, 94] (by decide +kernel) (by decide +kernel)
set_option maxRecDepth 20000 in
theorem gX11_layWay_X11_bestOf : GoodIn wsX11_layWay (wsV RX11 123 RX11 yX11_bestOf wsX11_bestOf) := goodIn_app (goodIn_of _ (by decide +kernel)) ggX11_layWay_X11_bestOf
set_option maxRecDepth 20000 in
theorem ggX11_layWay_X11_mend : GoodIn wsX11_layWay wsX11_mend := goodIn_r _ [77, 1, 11, 12, 13, 9, 14, 31, 32, 33, 34, 19, 20, 21, 35, 36, 37, 38, 78, 79, 80, 81, 82, 83, 84, 85, 86, 87, 88, 89, 90, 91, 92, 93, 94] (by decide +kernel) (by decide +kernel)
set_option maxRecDepth 20000 in
theorem gX11_layWay_X11_mend : GoodIn wsX11_layWay (wsV RX11 126 RX11 yX11_mend wsX11_mend) := goodIn_app (goodIn_of _ (by decide +kernel)) ggX11_layWay_X11_mend
theorem dX11_layWay_0 : decode cX11_layWay 0 = .ok (.aload_n 0, 1) := by decide +kernel
theorem dX11_layWay_1 : decode cX11_layWay 1 = .ok (.iconst 0, 1) := by decide +kernel
theorem dX11_layWay_2 : decode cX11_layWay 2 = .ok (.putfield 76, 3) := by decide +kernel
theorem dX11_layWay_5 : decode cX11_layWay 5 = .ok (.aload_n 0, 1) := by decide +kernel
theorem dX11_layWay_6 : decode cX11_layWay 6 = .ok (.iconst 0, 1) := by decide +kernel
theorem dX11_layWay_7 : decode cX11_layWay 7 = .ok (.putfield 110, 3) := by decide +kernel
theorem dX11_layWay_10 : decode cX11_layWay 10 = .ok (.aload_n 0, 1) := by decide +kernel
theorem dX11_layWay_11 : decode cX11_layWay 11 = .ok (.getfield 36, 3) := by decide +kernel
theorem dX11_layWay_14 : decode cX11_layWay 14 = .ok (.iconst 0, 1) := by decide +kernel
theorem dX11_layWay_15 : decode cX11_layWay 15 = .ok (.lconst 1, 1) := by decide +kernel
theorem dX11_layWay_16 : decode cX11_layWay 16 = .ok (.lastore, 1) := by decide +kernel
theorem dX11_layWay_17 : decode cX11_layWay 17 = .ok (.iconst 0, 1) := by decide +kernel
theorem dX11_layWay_18 : decode cX11_layWay 18 = .ok (.istore_n 2, 1) := by decide +kernel
theorem dX11_layWay_19 : decode cX11_layWay 19 = .ok (.iload_n 2, 1) := by decide +kernel
theorem dX11_layWay_20 : decode cX11_layWay 20 = .ok (.bipush 7, 2) := by decide +kernel
theorem dX11_layWay_22 : decode cX11_layWay 22 = .ok (.if_icmp .ge 29, 3) := by decide +kernel
theorem dX11_layWay_25 : decode cX11_layWay 25 = .ok (.aload_n 0, 1) := by decide +kernel
theorem dX11_layWay_26 : decode cX11_layWay 26 = .ok (.getfield 32, 3) := by decide +kernel
theorem dX11_layWay_29 : decode cX11_layWay 29 = .ok (.iload_n 2, 1) := by decide +kernel
theorem dX11_layWay_30 : decode cX11_layWay 30 = .ok (.iload_n 1, 1) := by decide +kernel
theorem dX11_layWay_31 : decode cX11_layWay 31 = .ok (.iconst 3, 1) := by decide +kernel
theorem dX11_layWay_32 : decode cX11_layWay 32 = .ok (.if_icmp .ne 11, 3) := by decide +kernel
theorem dX11_layWay_35 : decode cX11_layWay 35 = .ok (.aload_n 0, 1) := by decide +kernel
theorem dX11_layWay_36 : decode cX11_layWay 36 = .ok (.getfield 16, 3) := by decide +kernel
theorem dX11_layWay_39 : decode cX11_layWay 39 = .ok (.i2l, 1) := by decide +kernel
theorem dX11_layWay_40 : decode cX11_layWay 40 = .ok (.goto 4, 3) := by decide +kernel
theorem dX11_layWay_43 : decode cX11_layWay 43 = .ok (.lconst 0, 1) := by decide +kernel
theorem dX11_layWay_44 : decode cX11_layWay 44 = .ok (.lastore, 1) := by decide +kernel
theorem dX11_layWay_45 : decode cX11_layWay 45 = .ok (.iinc 2 1, 3) := by decide +kernel
theorem dX11_layWay_48 : decode cX11_layWay 48 = .ok (.goto (-29), 3) := by decide +kernel
theorem dX11_layWay_51 : decode cX11_layWay 51 = .ok (.iconst 0, 1) := by decide +kernel
theorem dX11_layWay_52 : decode cX11_layWay 52 = .ok (.istore_n 2, 1) := by decide +kernel
theorem dX11_layWay_53 : decode cX11_layWay 53 = .ok (.iload_n 2, 1) := by decide +kernel
theorem dX11_layWay_54 : decode cX11_layWay 54 = .ok (.aload_n 0, 1) := by decide +kernel
theorem dX11_layWay_55 : decode cX11_layWay 55 = .ok (.getfield 16, 3) := by decide +kernel
theorem dX11_layWay_58 : decode cX11_layWay 58 = .ok (.if_icmp .ge 70, 3) := by decide +kernel
theorem dX11_layWay_61 : decode cX11_layWay 61 = .ok (.iload_n 1, 1) := by decide +kernel
theorem dX11_layWay_62 : decode cX11_layWay 62 = .ok (.iconst 4, 1) := by decide +kernel
theorem dX11_layWay_63 : decode cX11_layWay 63 = .ok (.if_icmp .eq 65, 3) := by decide +kernel
theorem dX11_layWay_66 : decode cX11_layWay 66 = .ok (.iload_n 1, 1) := by decide +kernel
theorem dX11_layWay_67 : decode cX11_layWay 67 = .ok (.ifCond .ne 15, 3) := by decide +kernel
theorem dX11_layWay_70 : decode cX11_layWay 70 = .ok (.aload_n 0, 1) := by decide +kernel
theorem dX11_layWay_71 : decode cX11_layWay 71 = .ok (.iload_n 2, 1) := by decide +kernel
theorem dX11_layWay_72 : decode cX11_layWay 72 = .ok (.aload_n 0, 1) := by decide +kernel
theorem dX11_layWay_73 : decode cX11_layWay 73 = .ok (.invokevirtual 89, 3) := by decide +kernel
theorem dX11_layWay_76 : decode cX11_layWay 76 = .ok (.invokevirtual 92, 3) := by decide +kernel
theorem dX11_layWay_79 : decode cX11_layWay 79 = .ok (.goto 43, 3) := by decide +kernel
theorem dX11_layWay_82 : decode cX11_layWay 82 = .ok (.iload_n 1, 1) := by decide +kernel
theorem dX11_layWay_83 : decode cX11_layWay 83 = .ok (.iconst 1, 1) := by decide +kernel
theorem dX11_layWay_84 : decode cX11_layWay 84 = .ok (.if_icmp .eq 8, 3) := by decide +kernel
theorem dX11_layWay_87 : decode cX11_layWay 87 = .ok (.iload_n 1, 1) := by decide +kernel
theorem dX11_layWay_88 : decode cX11_layWay 88 = .ok (.iconst 5, 1) := by decide +kernel
theorem dX11_layWay_89 : decode cX11_layWay 89 = .ok (.if_icmp .ne 15, 3) := by decide +kernel
theorem dX11_layWay_92 : decode cX11_layWay 92 = .ok (.aload_n 0, 1) := by decide +kernel
theorem dX11_layWay_93 : decode cX11_layWay 93 = .ok (.iload_n 2, 1) := by decide +kernel
theorem dX11_layWay_94 : decode cX11_layWay 94 = .ok (.aload_n 0, 1) := by decide +kernel
theorem dX11_layWay_95 : decode cX11_layWay 95 = .ok (.invokevirtual 113, 3) := by decide +kernel
theorem dX11_layWay_98 : decode cX11_layWay 98 = .ok (.invokevirtual 92, 3) := by decide +kernel
theorem dX11_layWay_101 : decode cX11_layWay 101 = .ok (.goto 21, 3) := by decide +kernel
theorem dX11_layWay_104 : decode cX11_layWay 104 = .ok (.iload_n 1, 1) := by decide +kernel
theorem dX11_layWay_105 : decode cX11_layWay 105 = .ok (.iconst 2, 1) := by decide +kernel
theorem dX11_layWay_106 : decode cX11_layWay 106 = .ok (.if_icmp .ne 11, 3) := by decide +kernel
theorem dX11_layWay_109 : decode cX11_layWay 109 = .ok (.aload_n 0, 1) := by decide +kernel
theorem dX11_layWay_110 : decode cX11_layWay 110 = .ok (.iload_n 2, 1) := by decide +kernel
theorem dX11_layWay_111 : decode cX11_layWay 111 = .ok (.invokevirtual 116, 3) := by decide +kernel
theorem dX11_layWay_114 : decode cX11_layWay 114 = .ok (.goto 8, 3) := by decide +kernel
theorem dX11_layWay_117 : decode cX11_layWay 117 = .ok (.aload_n 0, 1) := by decide +kernel
theorem dX11_layWay_118 : decode cX11_layWay 118 = .ok (.iload_n 2, 1) := by decide +kernel
theorem dX11_layWay_119 : decode cX11_layWay 119 = .ok (.invokevirtual 120, 3) := by decide +kernel
theorem dX11_layWay_122 : decode cX11_layWay 122 = .ok (.iinc 2 1, 3) := by decide +kernel
theorem dX11_layWay_125 : decode cX11_layWay 125 = .ok (.goto (-72), 3) := by decide +kernel
theorem dX11_layWay_128 : decode cX11_layWay 128 = .ok (.iload_n 1, 1) := by decide +kernel
theorem dX11_layWay_129 : decode cX11_layWay 129 = .ok (.iconst 4, 1) := by decide +kernel
theorem dX11_layWay_130 : decode cX11_layWay 130 = .ok (.if_icmp .ne 11, 3) := by decide +kernel
theorem dX11_layWay_133 : decode cX11_layWay 133 = .ok (.aload_n 0, 1) := by decide +kernel
theorem dX11_layWay_134 : decode cX11_layWay 134 = .ok (.aload_n 0, 1) := by decide +kernel
theorem dX11_layWay_135 : decode cX11_layWay 135 = .ok (.invokevirtual 123, 3) := by decide +kernel
theorem dX11_layWay_138 : decode cX11_layWay 138 = .ok (.putfield 76, 3) := by decide +kernel
theorem dX11_layWay_141 : decode cX11_layWay 141 = .ok (.iload_n 1, 1) := by decide +kernel
theorem dX11_layWay_142 : decode cX11_layWay 142 = .ok (.iconst 5, 1) := by decide +kernel
theorem dX11_layWay_143 : decode cX11_layWay 143 = .ok (.if_icmp .ne 7, 3) := by decide +kernel
theorem dX11_layWay_146 : decode cX11_layWay 146 = .ok (.aload_n 0, 1) := by decide +kernel
theorem dX11_layWay_147 : decode cX11_layWay 147 = .ok (.invokevirtual 126, 3) := by decide +kernel
theorem dX11_layWay_150 : decode cX11_layWay 150 = .ok (.return_, 1) := by decide +kernel
set_option maxRecDepth 20000 in
theorem ggX11_bestOf_X11_bits : GoodIn wsX11_bestOf wsX11_bits := goodIn_r _ [5] (by decide +kernel) (by decide +kernel)
set_option maxRecDepth 20000 in
theorem gX11_bestOf_X11_bits : GoodIn wsX11_bestOf (va_wsS RX11 60 yX11_bits wsX11_bits) := goodIn_app (goodIn_of _ (by decide +kernel)) ggX11_bestOf_X11_bits
set_option maxRecDepth 20000 in
theorem ggX11_bestOf_X11_worthOf : GoodIn wsX11_bestOf wsX11_worthOf := goodIn_r _ [9, 10, 11, 12, 13, 2, 3, 4, 5, 23, 24, 25, 26, 27, 28, 29, 30, 31, 32, 33, 34, 35, 36, 37, 38, 39] (by decide +kernel) (by decide +kernel)
set_option maxRecDepth 20000 in
theorem gX11_bestOf_X11_worthOf : GoodIn wsX11_bestOf (wsV RX11 70 RX11 yX11_worthOf wsX11_worthOf) := goodIn_app (goodIn_of _ (by decide +kernel)) ggX11_bestOf_X11_worthOf
set_option maxRecDepth 20000 in
theorem ggX11_bestOf_X11_barOf : GoodIn wsX11_bestOf wsX11_barOf := goodIn_r _ [17, 18, 19, 20, 21, 4, 22, 2, 3, 5, 23, 24, 25, 26, 27, 28, 29, 30, 31, 32, 33, 34, 35, 36, 37, 38, 39] (by decide +kernel) (by decide +kernel)
set_option maxRecDepth 20000 in
theorem gX11_bestOf_X11_barOf : GoodIn wsX11_bestOf (wsV RX11 67 RX11 yX11_barOf wsX11_barOf) := goodIn_app (goodIn_of _ (by decide +kernel)) ggX11_bestOf_X11_barOf
theorem dX11_bestOf_0 : decode cX11_bestOf 0 = .ok (.iconst 0, 1) := by decide +kernel
theorem dX11_bestOf_1 : decode cX11_bestOf 1 = .ok (.istore_n 1, 1) := by decide +kernel
theorem dX11_bestOf_2 : decode cX11_bestOf 2 = .ok (.iconst (-1), 1) := by decide +kernel
theorem dX11_bestOf_3 : decode cX11_bestOf 3 = .ok (.istore_n 2, 1) := by decide +kernel
theorem dX11_bestOf_4 : decode cX11_bestOf 4 = .ok (.iconst 0, 1) := by decide +kernel
theorem dX11_bestOf_5 : decode cX11_bestOf 5 = .ok (.istore_n 3, 1) := by decide +kernel
theorem dX11_bestOf_6 : decode cX11_bestOf 6 = .ok (.iload_n 3, 1) := by decide +kernel
theorem dX11_bestOf_7 : decode cX11_bestOf 7 = .ok (.sipush 256, 3) := by decide +kernel
theorem dX11_bestOf_10 : decode cX11_bestOf 10 = .ok (.if_icmp .ge 45, 3) := by decide +kernel
theorem dX11_bestOf_13 : decode cX11_bestOf 13 = .ok (.iload_n 3, 1) := by decide +kernel
theorem dX11_bestOf_14 : decode cX11_bestOf 14 = .ok (.invokestatic 60, 3) := by decide +kernel
theorem dX11_bestOf_17 : decode cX11_bestOf 17 = .ok (.aload_n 0, 1) := by decide +kernel
theorem dX11_bestOf_18 : decode cX11_bestOf 18 = .ok (.getfield 16, 3) := by decide +kernel
theorem dX11_bestOf_21 : decode cX11_bestOf 21 = .ok (.if_icmp .ne 28, 3) := by decide +kernel
theorem dX11_bestOf_24 : decode cX11_bestOf 24 = .ok (.aload_n 0, 1) := by decide +kernel
theorem dX11_bestOf_25 : decode cX11_bestOf 25 = .ok (.iload_n 3, 1) := by decide +kernel
theorem dX11_bestOf_26 : decode cX11_bestOf 26 = .ok (.invokevirtual 70, 3) := by decide +kernel
theorem dX11_bestOf_29 : decode cX11_bestOf 29 = .ok (.iload_n 2, 1) := by decide +kernel
theorem dX11_bestOf_30 : decode cX11_bestOf 30 = .ok (.if_icmp .le 19, 3) := by decide +kernel
theorem dX11_bestOf_33 : decode cX11_bestOf 33 = .ok (.aload_n 0, 1) := by decide +kernel
theorem dX11_bestOf_34 : decode cX11_bestOf 34 = .ok (.iload_n 3, 1) := by decide +kernel
theorem dX11_bestOf_35 : decode cX11_bestOf 35 = .ok (.invokevirtual 67, 3) := by decide +kernel
theorem dX11_bestOf_38 : decode cX11_bestOf 38 = .ok (.ifCond .ge 11, 3) := by decide +kernel
theorem dX11_bestOf_41 : decode cX11_bestOf 41 = .ok (.iload_n 3, 1) := by decide +kernel
theorem dX11_bestOf_42 : decode cX11_bestOf 42 = .ok (.istore_n 1, 1) := by decide +kernel
theorem dX11_bestOf_43 : decode cX11_bestOf 43 = .ok (.aload_n 0, 1) := by decide +kernel
theorem dX11_bestOf_44 : decode cX11_bestOf 44 = .ok (.iload_n 3, 1) := by decide +kernel
theorem dX11_bestOf_45 : decode cX11_bestOf 45 = .ok (.invokevirtual 70, 3) := by decide +kernel
theorem dX11_bestOf_48 : decode cX11_bestOf 48 = .ok (.istore_n 2, 1) := by decide +kernel
theorem dX11_bestOf_49 : decode cX11_bestOf 49 = .ok (.iinc 3 1, 3) := by decide +kernel
theorem dX11_bestOf_52 : decode cX11_bestOf 52 = .ok (.goto (-46), 3) := by decide +kernel
theorem dX11_bestOf_55 : decode cX11_bestOf 55 = .ok (.iload_n 1, 1) := by decide +kernel
theorem dX11_bestOf_56 : decode cX11_bestOf 56 = .ok (.ireturn, 1) := by decide +kernel
set_option maxRecDepth 20000 in
theorem ggX11_mend_X11_isLeft : GoodIn wsX11_mend wsX11_isLeft := goodIn_r _ [6, 1, 18, 19, 20, 21, 22, 23, 24, 25, 26, 27, 28, 29, 30, 31, 32, 33, 34] (by decide +kernel) (by decide +kernel)
set_option maxRecDepth 20000 in
theorem gX11_mend_X11_isLeft : GoodIn wsX11_mend (wsV RX11 79 RX11 yX11_isLeft wsX11_isLeft) := goodIn_app (goodIn_of _ (by decide +kernel)) ggX11_mend_X11_isLeft
set_option maxRecDepth 20000 in
theorem ggX11_mend_X11_worthOf : GoodIn wsX11_mend wsX11_worthOf := goodIn_r _ [10, 11, 12, 13, 14, 15, 16, 5, 17, 18, 19, 20, 21, 22, 23, 24, 25, 26, 27, 28, 29, 30, 31, 32, 33, 34] (by decide +kernel) (by decide +kernel)
set_option maxRecDepth 20000 in
theorem gX11_mend_X11_worthOf : GoodIn wsX11_mend (wsV RX11 70 RX11 yX11_worthOf wsX11_worthOf) := goodIn_app (goodIn_of _ (by decide +kernel)) ggX11_mend_X11_worthOf
theorem dX11_mend_0 : decode cX11_mend 0 = .ok (.iconst 1, 1) := by decide +kernel
theorem dX11_mend_1 : decode cX11_mend 1 = .ok (.istore_n 1, 1) := by decide +kernel
theorem dX11_mend_2 : decode cX11_mend 2 = .ok (.iload_n 1, 1) := by decide +kernel
theorem dX11_mend_3 : decode cX11_mend 3 = .ok (.ifCond .eq 115, 3) := by decide +kernel
theorem dX11_mend_6 : decode cX11_mend 6 = .ok (.aload_n 0, 1) := by decide +kernel
theorem dX11_mend_7 : decode cX11_mend 7 = .ok (.getfield 76, 3) := by decide +kernel
theorem dX11_mend_10 : decode cX11_mend 10 = .ok (.istore_n 2, 1) := by decide +kernel
theorem dX11_mend_11 : decode cX11_mend 11 = .ok (.iconst 0, 1) := by decide +kernel
theorem dX11_mend_12 : decode cX11_mend 12 = .ok (.istore_n 3, 1) := by decide +kernel
theorem dX11_mend_13 : decode cX11_mend 13 = .ok (.iload_n 3, 1) := by decide +kernel
theorem dX11_mend_14 : decode cX11_mend 14 = .ok (.bipush 8, 2) := by decide +kernel
theorem dX11_mend_16 : decode cX11_mend 16 = .ok (.if_icmp .ge 80, 3) := by decide +kernel
theorem dX11_mend_19 : decode cX11_mend 19 = .ok (.iconst 0, 1) := by decide +kernel
theorem dX11_mend_20 : decode cX11_mend 20 = .ok (.istore 4, 2) := by decide +kernel
theorem dX11_mend_22 : decode cX11_mend 22 = .ok (.iload 4, 2) := by decide +kernel
theorem dX11_mend_24 : decode cX11_mend 24 = .ok (.bipush 8, 2) := by decide +kernel
theorem dX11_mend_26 : decode cX11_mend 26 = .ok (.if_icmp .ge 64, 3) := by decide +kernel
theorem dX11_mend_29 : decode cX11_mend 29 = .ok (.aload_n 0, 1) := by decide +kernel
theorem dX11_mend_30 : decode cX11_mend 30 = .ok (.iload_n 3, 1) := by decide +kernel
theorem dX11_mend_31 : decode cX11_mend 31 = .ok (.invokevirtual 79, 3) := by decide +kernel
theorem dX11_mend_34 : decode cX11_mend 34 = .ok (.ifCond .ne 56, 3) := by decide +kernel
theorem dX11_mend_37 : decode cX11_mend 37 = .ok (.aload_n 0, 1) := by decide +kernel
theorem dX11_mend_38 : decode cX11_mend 38 = .ok (.getfield 76, 3) := by decide +kernel
theorem dX11_mend_41 : decode cX11_mend 41 = .ok (.iconst 1, 1) := by decide +kernel
theorem dX11_mend_42 : decode cX11_mend 42 = .ok (.iload_n 3, 1) := by decide +kernel
theorem dX11_mend_43 : decode cX11_mend 43 = .ok (.ishl, 1) := by decide +kernel
theorem dX11_mend_44 : decode cX11_mend 44 = .ok (.iconst (-1), 1) := by decide +kernel
theorem dX11_mend_45 : decode cX11_mend 45 = .ok (.ixor, 1) := by decide +kernel
theorem dX11_mend_46 : decode cX11_mend 46 = .ok (.iand, 1) := by decide +kernel
theorem dX11_mend_47 : decode cX11_mend 47 = .ok (.iconst 1, 1) := by decide +kernel
theorem dX11_mend_48 : decode cX11_mend 48 = .ok (.iload 4, 2) := by decide +kernel
theorem dX11_mend_50 : decode cX11_mend 50 = .ok (.ishl, 1) := by decide +kernel
theorem dX11_mend_51 : decode cX11_mend 51 = .ok (.ior, 1) := by decide +kernel
theorem dX11_mend_52 : decode cX11_mend 52 = .ok (.istore 5, 2) := by decide +kernel
theorem dX11_mend_54 : decode cX11_mend 54 = .ok (.aload_n 0, 1) := by decide +kernel
theorem dX11_mend_55 : decode cX11_mend 55 = .ok (.iload 4, 2) := by decide +kernel
theorem dX11_mend_57 : decode cX11_mend 57 = .ok (.invokevirtual 79, 3) := by decide +kernel
theorem dX11_mend_60 : decode cX11_mend 60 = .ok (.ifCond .eq 22, 3) := by decide +kernel
theorem dX11_mend_63 : decode cX11_mend 63 = .ok (.aload_n 0, 1) := by decide +kernel
theorem dX11_mend_64 : decode cX11_mend 64 = .ok (.iload 5, 2) := by decide +kernel
theorem dX11_mend_66 : decode cX11_mend 66 = .ok (.invokevirtual 70, 3) := by decide +kernel
theorem dX11_mend_69 : decode cX11_mend 69 = .ok (.aload_n 0, 1) := by decide +kernel
theorem dX11_mend_70 : decode cX11_mend 70 = .ok (.iload_n 2, 1) := by decide +kernel
theorem dX11_mend_71 : decode cX11_mend 71 = .ok (.invokevirtual 70, 3) := by decide +kernel
theorem dX11_mend_74 : decode cX11_mend 74 = .ok (.if_icmp .le 8, 3) := by decide +kernel
theorem dX11_mend_77 : decode cX11_mend 77 = .ok (.iload 5, 2) := by decide +kernel
theorem dX11_mend_79 : decode cX11_mend 79 = .ok (.goto 4, 3) := by decide +kernel
theorem dX11_mend_82 : decode cX11_mend 82 = .ok (.iload_n 2, 1) := by decide +kernel
theorem dX11_mend_83 : decode cX11_mend 83 = .ok (.istore_n 2, 1) := by decide +kernel
theorem dX11_mend_84 : decode cX11_mend 84 = .ok (.iinc 4 1, 3) := by decide +kernel
theorem dX11_mend_87 : decode cX11_mend 87 = .ok (.goto (-65), 3) := by decide +kernel
theorem dX11_mend_90 : decode cX11_mend 90 = .ok (.iinc 3 1, 3) := by decide +kernel
theorem dX11_mend_93 : decode cX11_mend 93 = .ok (.goto (-80), 3) := by decide +kernel
theorem dX11_mend_96 : decode cX11_mend 96 = .ok (.iload_n 2, 1) := by decide +kernel
theorem dX11_mend_97 : decode cX11_mend 97 = .ok (.aload_n 0, 1) := by decide +kernel
theorem dX11_mend_98 : decode cX11_mend 98 = .ok (.getfield 76, 3) := by decide +kernel
theorem dX11_mend_101 : decode cX11_mend 101 = .ok (.if_icmp .eq 7, 3) := by decide +kernel
theorem dX11_mend_104 : decode cX11_mend 104 = .ok (.iconst 1, 1) := by decide +kernel
theorem dX11_mend_105 : decode cX11_mend 105 = .ok (.goto 4, 3) := by decide +kernel
theorem dX11_mend_108 : decode cX11_mend 108 = .ok (.iconst 0, 1) := by decide +kernel
theorem dX11_mend_109 : decode cX11_mend 109 = .ok (.istore_n 1, 1) := by decide +kernel
theorem dX11_mend_110 : decode cX11_mend 110 = .ok (.aload_n 0, 1) := by decide +kernel
theorem dX11_mend_111 : decode cX11_mend 111 = .ok (.iload_n 2, 1) := by decide +kernel
theorem dX11_mend_112 : decode cX11_mend 112 = .ok (.putfield 76, 3) := by decide +kernel
theorem dX11_mend_115 : decode cX11_mend 115 = .ok (.goto (-113), 3) := by decide +kernel
theorem dX11_mend_118 : decode cX11_mend 118 = .ok (.return_, 1) := by decide +kernel
set_option maxRecDepth 20000 in
theorem ggX11_isWay_X11_in : GoodIn wsX11_isWay wsX11_in := goodIn_r _ [4] (by decide +kernel) (by decide +kernel)
set_option maxRecDepth 20000 in
theorem gX11_isWay_X11_in : GoodIn wsX11_isWay (va_wsS RX11 42 yX11_in wsX11_in) := goodIn_app (goodIn_of _ (by decide +kernel)) ggX11_isWay_X11_in
theorem dX11_isWay_0 : decode cX11_isWay 0 = .ok (.iload_n 0, 1) := by decide +kernel
theorem dX11_isWay_1 : decode cX11_isWay 1 = .ok (.iconst 0, 1) := by decide +kernel
theorem dX11_isWay_2 : decode cX11_isWay 2 = .ok (.iconst 5, 1) := by decide +kernel
theorem dX11_isWay_3 : decode cX11_isWay 3 = .ok (.invokestatic 42, 3) := by decide +kernel
theorem dX11_isWay_6 : decode cX11_isWay 6 = .ok (.ireturn, 1) := by decide +kernel
theorem dX11_nth_0 : decode cX11_nth 0 = .ok (.iconst 0, 1) := by decide +kernel
theorem dX11_nth_1 : decode cX11_nth 1 = .ok (.istore_n 2, 1) := by decide +kernel
theorem dX11_nth_2 : decode cX11_nth 2 = .ok (.iconst 0, 1) := by decide +kernel
theorem dX11_nth_3 : decode cX11_nth 3 = .ok (.istore_n 3, 1) := by decide +kernel
theorem dX11_nth_4 : decode cX11_nth 4 = .ok (.iload_n 3, 1) := by decide +kernel
theorem dX11_nth_5 : decode cX11_nth 5 = .ok (.bipush 8, 2) := by decide +kernel
theorem dX11_nth_7 : decode cX11_nth 7 = .ok (.if_icmp .ge 28, 3) := by decide +kernel
theorem dX11_nth_10 : decode cX11_nth 10 = .ok (.iload_n 0, 1) := by decide +kernel
theorem dX11_nth_11 : decode cX11_nth 11 = .ok (.iload_n 3, 1) := by decide +kernel
theorem dX11_nth_12 : decode cX11_nth 12 = .ok (.ishr, 1) := by decide +kernel
theorem dX11_nth_13 : decode cX11_nth 13 = .ok (.iconst 1, 1) := by decide +kernel
theorem dX11_nth_14 : decode cX11_nth 14 = .ok (.iand, 1) := by decide +kernel
theorem dX11_nth_15 : decode cX11_nth 15 = .ok (.iconst 1, 1) := by decide +kernel
theorem dX11_nth_16 : decode cX11_nth 16 = .ok (.if_icmp .ne 13, 3) := by decide +kernel
theorem dX11_nth_19 : decode cX11_nth 19 = .ok (.iload_n 2, 1) := by decide +kernel
theorem dX11_nth_20 : decode cX11_nth 20 = .ok (.iload_n 1, 1) := by decide +kernel
theorem dX11_nth_21 : decode cX11_nth 21 = .ok (.if_icmp .ne 5, 3) := by decide +kernel
theorem dX11_nth_24 : decode cX11_nth 24 = .ok (.iload_n 3, 1) := by decide +kernel
theorem dX11_nth_25 : decode cX11_nth 25 = .ok (.ireturn, 1) := by decide +kernel
theorem dX11_nth_26 : decode cX11_nth 26 = .ok (.iinc 2 1, 3) := by decide +kernel
theorem dX11_nth_29 : decode cX11_nth 29 = .ok (.iinc 3 1, 3) := by decide +kernel
theorem dX11_nth_32 : decode cX11_nth 32 = .ok (.goto (-28), 3) := by decide +kernel
theorem dX11_nth_35 : decode cX11_nth 35 = .ok (.bipush (-6), 2) := by decide +kernel
theorem dX11_nth_37 : decode cX11_nth 37 = .ok (.ireturn, 1) := by decide +kernel
set_option maxRecDepth 20000 in
theorem ggX11_choose_X11_isWay : GoodIn wsX11_choose wsX11_isWay := goodIn_r _ [7, 8, 9, 6, 10] (by decide +kernel) (by decide +kernel)
set_option maxRecDepth 20000 in
theorem gX11_choose_X11_isWay : GoodIn wsX11_choose (va_wsS RX11 129 yX11_isWay wsX11_isWay) := goodIn_app (goodIn_of _ (by decide +kernel)) ggX11_choose_X11_isWay
set_option maxRecDepth 20000 in
theorem ggX11_choose_X11_layWay : GoodIn wsX11_choose wsX11_layWay := goodIn_r _ [14, 1, 15, 16, 17, 2, 18, 19, 20, 6, 21, 22, 23, 24, 25, 26, 27, 28, 29, 30, 31, 32, 33, 34, 35, 36, 3, 37, 38, 39, 40, 41, 42, 43, 44, 45, 46, 47, 48, 49, 50, 51, 52, 53, 54, 55, 56, 57, 58, 59, 60, 61, 62, 63, 64, 65, 66, 67, 68, 69, 70, 71, 72, 73, 74, 75, 76, 77, 78, 79, 80, 8, 9, 10, 81, 82, 83, 84, 88, 89, 90, 91, 92, 93, 94, 95, 96, 97, 98, 99, 100, 101, 102, 103, 104] (by decide +kernel) (by decide +kernel)
set_option maxRecDepth 20000 in
theorem gX11_choose_X11_layWay : GoodIn wsX11_choose (wsV RX11 132 RX11 yX11_layWay wsX11_layWay) := goodIn_app (goodIn_of _ (by decide +kernel)) ggX11_choose_X11_layWay
set_option maxRecDepth 20000 in
theorem ggX11_choose_X11_nth : GoodIn wsX11_choose wsX11_nth := goodIn_r _ [87] (by decide +kernel) (by decide +kernel)
set_option maxRecDepth 20000 in
theorem gX11_choose_X11_nth : GoodIn wsX11_choose (va_wsS RX11 135 yX11_nth wsX11_nth) := goodIn_app (goodIn_of _ (by decide +kernel)) ggX11_choose_X11_nth
set_option maxRecDepth 20000 in
theorem ggX11_choose_X11_in : GoodIn wsX11_choose wsX11_in := goodIn_r _ [10] (by decide +kernel) (by decide +kernel)
set_option maxRecDepth 20000 in
theorem gX11_choose_X11_in : GoodIn wsX11_choose (va_wsS RX11 42 yX11_in wsX11_in) := goodIn_app (goodIn_of _ (by decide +kernel)) ggX11_choose_X11_in
theorem dX11_choose_0 : decode cX11_choose 0 = .ok (.iload_n 1, 1) := by decide +kernel
theorem dX11_choose_1 : decode cX11_choose 1 = .ok (.invokestatic 129, 3) := by decide +kernel
theorem dX11_choose_4 : decode cX11_choose 4 = .ok (.ifCond .ne 5, 3) := by decide +kernel
theorem dX11_choose_7 : decode cX11_choose 7 = .ok (.iconst (-1), 1) := by decide +kernel
theorem dX11_choose_8 : decode cX11_choose 8 = .ok (.ireturn, 1) := by decide +kernel
theorem dX11_choose_9 : decode cX11_choose 9 = .ok (.aload_n 0, 1) := by decide +kernel
theorem dX11_choose_10 : decode cX11_choose 10 = .ok (.iload_n 1, 1) := by decide +kernel
theorem dX11_choose_11 : decode cX11_choose 11 = .ok (.invokevirtual 132, 3) := by decide +kernel
theorem dX11_choose_14 : decode cX11_choose 14 = .ok (.iload_n 2, 1) := by decide +kernel
theorem dX11_choose_15 : decode cX11_choose 15 = .ok (.iconst (-1), 1) := by decide +kernel
theorem dX11_choose_16 : decode cX11_choose 16 = .ok (.if_icmp .ne 10, 3) := by decide +kernel
theorem dX11_choose_19 : decode cX11_choose 19 = .ok (.aload_n 0, 1) := by decide +kernel
theorem dX11_choose_20 : decode cX11_choose 20 = .ok (.getfield 76, 3) := by decide +kernel
theorem dX11_choose_23 : decode cX11_choose 23 = .ok (.goto 44, 3) := by decide +kernel
theorem dX11_choose_26 : decode cX11_choose 26 = .ok (.iload_n 1, 1) := by decide +kernel
theorem dX11_choose_27 : decode cX11_choose 27 = .ok (.iconst 3, 1) := by decide +kernel
theorem dX11_choose_28 : decode cX11_choose 28 = .ok (.if_icmp .le 14, 3) := by decide +kernel
theorem dX11_choose_31 : decode cX11_choose 31 = .ok (.aload_n 0, 1) := by decide +kernel
theorem dX11_choose_32 : decode cX11_choose 32 = .ok (.getfield 76, 3) := by decide +kernel
theorem dX11_choose_35 : decode cX11_choose 35 = .ok (.iload_n 2, 1) := by decide +kernel
theorem dX11_choose_36 : decode cX11_choose 36 = .ok (.invokestatic 135, 3) := by decide +kernel
theorem dX11_choose_39 : decode cX11_choose 39 = .ok (.goto 28, 3) := by decide +kernel
theorem dX11_choose_42 : decode cX11_choose 42 = .ok (.iload_n 2, 1) := by decide +kernel
theorem dX11_choose_43 : decode cX11_choose 43 = .ok (.iconst 0, 1) := by decide +kernel
theorem dX11_choose_44 : decode cX11_choose 44 = .ok (.aload_n 0, 1) := by decide +kernel
theorem dX11_choose_45 : decode cX11_choose 45 = .ok (.getfield 16, 3) := by decide +kernel
theorem dX11_choose_48 : decode cX11_choose 48 = .ok (.iconst 1, 1) := by decide +kernel
theorem dX11_choose_49 : decode cX11_choose 49 = .ok (.isub, 1) := by decide +kernel
theorem dX11_choose_50 : decode cX11_choose 50 = .ok (.invokestatic 42, 3) := by decide +kernel
theorem dX11_choose_53 : decode cX11_choose 53 = .ok (.ifCond .eq 12, 3) := by decide +kernel
theorem dX11_choose_56 : decode cX11_choose 56 = .ok (.aload_n 0, 1) := by decide +kernel
theorem dX11_choose_57 : decode cX11_choose 57 = .ok (.getfield 29, 3) := by decide +kernel
theorem dX11_choose_60 : decode cX11_choose 60 = .ok (.iload_n 2, 1) := by decide +kernel
theorem dX11_choose_61 : decode cX11_choose 61 = .ok (.iaload, 1) := by decide +kernel
theorem dX11_choose_62 : decode cX11_choose 62 = .ok (.goto 5, 3) := by decide +kernel
theorem dX11_choose_65 : decode cX11_choose 65 = .ok (.bipush (-6), 2) := by decide +kernel
theorem dX11_choose_67 : decode cX11_choose 67 = .ok (.ireturn, 1) := by decide +kernel
theorem dX11_term_0 : decode cX11_term 0 = .ok (.lload_n 0, 1) := by decide +kernel
theorem dX11_term_1 : decode cX11_term 1 = .ok (.lstore 5, 2) := by decide +kernel
theorem dX11_term_3 : decode cX11_term 3 = .ok (.lload_n 2, 1) := by decide +kernel
theorem dX11_term_4 : decode cX11_term 4 = .ok (.lstore 7, 2) := by decide +kernel
theorem dX11_term_6 : decode cX11_term 6 = .ok (.lload 7, 2) := by decide +kernel
theorem dX11_term_8 : decode cX11_term 8 = .ok (.lconst 0, 1) := by decide +kernel
theorem dX11_term_9 : decode cX11_term 9 = .ok (.lcmp, 1) := by decide +kernel
theorem dX11_term_10 : decode cX11_term 10 = .ok (.ifCond .eq 21, 3) := by decide +kernel
theorem dX11_term_13 : decode cX11_term 13 = .ok (.lload 5, 2) := by decide +kernel
theorem dX11_term_15 : decode cX11_term 15 = .ok (.lload 7, 2) := by decide +kernel
theorem dX11_term_17 : decode cX11_term 17 = .ok (.lrem, 1) := by decide +kernel
theorem dX11_term_18 : decode cX11_term 18 = .ok (.lstore 9, 2) := by decide +kernel
theorem dX11_term_20 : decode cX11_term 20 = .ok (.lload 7, 2) := by decide +kernel
theorem dX11_term_22 : decode cX11_term 22 = .ok (.lstore 5, 2) := by decide +kernel
theorem dX11_term_24 : decode cX11_term 24 = .ok (.lload 9, 2) := by decide +kernel
theorem dX11_term_26 : decode cX11_term 26 = .ok (.lstore 7, 2) := by decide +kernel
theorem dX11_term_28 : decode cX11_term 28 = .ok (.goto (-22), 3) := by decide +kernel
theorem dX11_term_31 : decode cX11_term 31 = .ok (.iload 4, 2) := by decide +kernel
theorem dX11_term_33 : decode cX11_term 33 = .ok (.ifCond .ne 10, 3) := by decide +kernel
theorem dX11_term_36 : decode cX11_term 36 = .ok (.lload_n 0, 1) := by decide +kernel
theorem dX11_term_37 : decode cX11_term 37 = .ok (.lload 5, 2) := by decide +kernel
theorem dX11_term_39 : decode cX11_term 39 = .ok (.ldiv, 1) := by decide +kernel
theorem dX11_term_40 : decode cX11_term 40 = .ok (.goto 7, 3) := by decide +kernel
theorem dX11_term_43 : decode cX11_term 43 = .ok (.lload_n 2, 1) := by decide +kernel
theorem dX11_term_44 : decode cX11_term 44 = .ok (.lload 5, 2) := by decide +kernel
theorem dX11_term_46 : decode cX11_term 46 = .ok (.ldiv, 1) := by decide +kernel
theorem dX11_term_47 : decode cX11_term 47 = .ok (.lreturn, 1) := by decide +kernel
set_option maxRecDepth 20000 in
theorem ggX11_behind_X11_isHeap : GoodIn wsX11_behind wsX11_isHeap := goodIn_r _ [10, 11, 12, 13, 9, 14, 91, 92, 93, 94, 95, 96, 97, 98, 99, 100, 101, 102, 103, 104, 105, 106, 107] (by decide +kernel) (by decide +kernel)
set_option maxRecDepth 20000 in
theorem gX11_behind_X11_isHeap : GoodIn wsX11_behind (wsV RX11 46 RX11 yX11_isHeap wsX11_isHeap) := goodIn_app (goodIn_of _ (by decide +kernel)) ggX11_behind_X11_isHeap
set_option maxRecDepth 20000 in
theorem ggX11_behind_X11_in : GoodIn wsX11_behind wsX11_in := goodIn_r _ [14] (by decide +kernel) (by decide +kernel)
set_option maxRecDepth 20000 in
theorem gX11_behind_X11_in : GoodIn wsX11_behind (va_wsS RX11 42 yX11_in wsX11_in) := goodIn_app (goodIn_of _ (by decide +kernel)) ggX11_behind_X11_in
set_option maxRecDepth 20000 in
theorem ggX11_behind_X11_layWay : GoodIn wsX11_behind wsX11_layWay := goodIn_r _ [18, 19, 20, 5, 4, 2, 21, 22, 23, 9, 24, 25, 26, 27, 28, 29, 30, 31, 32, 11, 33, 34, 35, 36, 37, 38, 39, 40, 41, 42, 43, 44, 45, 46, 47, 48, 49, 50, 51, 52, 53, 54, 55, 56, 57, 58, 59, 60, 61, 62, 63, 64, 65, 66, 67, 68, 69, 70, 71, 72, 73, 74, 75, 76, 77, 78, 79, 80, 81, 82, 83, 12, 13, 14, 84, 85, 86, 87, 91, 92, 93, 94, 95, 96, 97, 98, 99, 100, 101, 102, 103, 104, 105, 106, 107] (by decide +kernel) (by decide +kernel)
set_option maxRecDepth 20000 in
theorem gX11_behind_X11_layWay : GoodIn wsX11_behind (wsV RX11 132 RX11 yX11_layWay wsX11_layWay) := goodIn_app (goodIn_of _ (by decide +kernel)) ggX11_behind_X11_layWay
set_option maxRecDepth 20000 in
theorem ggX11_behind_X11_term : GoodIn wsX11_behind wsX11_term := goodIn_r _ [90] (by decide +kernel) (by decide +kernel)
set_option maxRecDepth 20000 in
theorem gX11_behind_X11_term : GoodIn wsX11_behind (va_wsS RX11 143 yX11_term wsX11_term) := goodIn_app (goodIn_of _ (by decide +kernel)) ggX11_behind_X11_term
theorem dX11_behind_0 : decode cX11_behind 0 = .ok (.aload_n 0, 1) := by decide +kernel
theorem dX11_behind_1 : decode cX11_behind 1 = .ok (.iload_n 2, 1) := by decide +kernel
theorem dX11_behind_2 : decode cX11_behind 2 = .ok (.invokevirtual 46, 3) := by decide +kernel
theorem dX11_behind_5 : decode cX11_behind 5 = .ok (.ifCond .ne 7, 3) := by decide +kernel
theorem dX11_behind_8 : decode cX11_behind 8 = .ok (.ldc2_w 139, 3) := by decide +kernel
theorem dX11_behind_11 : decode cX11_behind 11 = .ok (.lreturn, 1) := by decide +kernel
theorem dX11_behind_12 : decode cX11_behind 12 = .ok (.iload_n 3, 1) := by decide +kernel
theorem dX11_behind_13 : decode cX11_behind 13 = .ok (.iconst 0, 1) := by decide +kernel
theorem dX11_behind_14 : decode cX11_behind 14 = .ok (.aload_n 0, 1) := by decide +kernel
theorem dX11_behind_15 : decode cX11_behind 15 = .ok (.getfield 16, 3) := by decide +kernel
theorem dX11_behind_18 : decode cX11_behind 18 = .ok (.invokestatic 42, 3) := by decide +kernel
theorem dX11_behind_21 : decode cX11_behind 21 = .ok (.ifCond .eq 13, 3) := by decide +kernel
theorem dX11_behind_24 : decode cX11_behind 24 = .ok (.iload 4, 2) := by decide +kernel
theorem dX11_behind_26 : decode cX11_behind 26 = .ok (.iconst 0, 1) := by decide +kernel
theorem dX11_behind_27 : decode cX11_behind 27 = .ok (.iconst 1, 1) := by decide +kernel
theorem dX11_behind_28 : decode cX11_behind 28 = .ok (.invokestatic 42, 3) := by decide +kernel
theorem dX11_behind_31 : decode cX11_behind 31 = .ok (.ifCond .ne 7, 3) := by decide +kernel
theorem dX11_behind_34 : decode cX11_behind 34 = .ok (.ldc2_w 141, 3) := by decide +kernel
theorem dX11_behind_37 : decode cX11_behind 37 = .ok (.lreturn, 1) := by decide +kernel
theorem dX11_behind_38 : decode cX11_behind 38 = .ok (.aload_n 0, 1) := by decide +kernel
theorem dX11_behind_39 : decode cX11_behind 39 = .ok (.iload_n 1, 1) := by decide +kernel
theorem dX11_behind_40 : decode cX11_behind 40 = .ok (.invokevirtual 132, 3) := by decide +kernel
theorem dX11_behind_43 : decode cX11_behind 43 = .ok (.aload_n 0, 1) := by decide +kernel
theorem dX11_behind_44 : decode cX11_behind 44 = .ok (.getfield 32, 3) := by decide +kernel
theorem dX11_behind_47 : decode cX11_behind 47 = .ok (.bipush 7, 2) := by decide +kernel
theorem dX11_behind_49 : decode cX11_behind 49 = .ok (.iload_n 3, 1) := by decide +kernel
theorem dX11_behind_50 : decode cX11_behind 50 = .ok (.imul, 1) := by decide +kernel
theorem dX11_behind_51 : decode cX11_behind 51 = .ok (.iload_n 2, 1) := by decide +kernel
theorem dX11_behind_52 : decode cX11_behind 52 = .ok (.iadd, 1) := by decide +kernel
theorem dX11_behind_53 : decode cX11_behind 53 = .ok (.laload, 1) := by decide +kernel
theorem dX11_behind_54 : decode cX11_behind 54 = .ok (.aload_n 0, 1) := by decide +kernel
theorem dX11_behind_55 : decode cX11_behind 55 = .ok (.getfield 36, 3) := by decide +kernel
theorem dX11_behind_58 : decode cX11_behind 58 = .ok (.iload_n 3, 1) := by decide +kernel
theorem dX11_behind_59 : decode cX11_behind 59 = .ok (.laload, 1) := by decide +kernel
theorem dX11_behind_60 : decode cX11_behind 60 = .ok (.iload 4, 2) := by decide +kernel
theorem dX11_behind_62 : decode cX11_behind 62 = .ok (.invokestatic 143, 3) := by decide +kernel
theorem dX11_behind_65 : decode cX11_behind 65 = .ok (.lreturn, 1) := by decide +kernel
set_option maxRecDepth 20000 in
theorem ggX11_load_X11_behind : GoodIn wsX11_load wsX11_behind := goodIn_r _ [5, 6, 7, 8, 9, 10, 11, 12, 13, 4, 14, 15, 16, 17, 18, 19, 20, 21, 22, 23, 24, 25, 26, 27, 28, 29, 30, 31, 32, 33, 34, 35, 36, 37, 38, 39, 40, 41, 42, 43, 44, 45, 46, 47, 48, 49, 50, 51, 52, 53, 54, 55, 56, 57, 58, 59, 60, 61, 62, 63, 64, 65, 66, 67, 68, 69, 70, 71, 72, 73, 74, 75, 76, 77, 78, 79, 80, 81, 82, 83, 84, 85, 86, 87, 88, 89, 90, 91, 92, 93, 94, 95, 96, 97, 98, 99, 100, 101, 102, 103, 104, 105, 106, 107, 108, 109, 110, 111] (by decide +kernel) (by decide +kernel)
set_option maxRecDepth 20000 in
theorem gX11_load_X11_behind : GoodIn wsX11_load (wsV RX11 147 RX11 yX11_behind wsX11_behind) := goodIn_app (goodIn_of _ (by decide +kernel)) ggX11_load_X11_behind
theorem dX11_load_0 : decode cX11_load 0 = .ok (.aload_n 0, 1) := by decide +kernel
theorem dX11_load_1 : decode cX11_load 1 = .ok (.iconst 2, 1) := by decide +kernel
theorem dX11_load_2 : decode cX11_load 2 = .ok (.iload_n 1, 1) := by decide +kernel
theorem dX11_load_3 : decode cX11_load 3 = .ok (.iload_n 2, 1) := by decide +kernel
theorem dX11_load_4 : decode cX11_load 4 = .ok (.iload_n 3, 1) := by decide +kernel
theorem dX11_load_5 : decode cX11_load 5 = .ok (.invokevirtual 147, 3) := by decide +kernel
theorem dX11_load_8 : decode cX11_load 8 = .ok (.lreturn, 1) := by decide +kernel
set_option maxRecDepth 20000 in
theorem ggX11_purse_X11_behind : GoodIn wsX11_purse wsX11_behind := goodIn_r _ [5, 6, 7, 8, 9, 10, 11, 12, 13, 4, 14, 15, 16, 17, 18, 19, 20, 21, 22, 23, 24, 25, 26, 27, 28, 29, 30, 31, 32, 33, 34, 35, 36, 37, 38, 39, 40, 41, 42, 43, 44, 45, 46, 47, 48, 49, 50, 51, 52, 53, 54, 55, 56, 57, 58, 59, 60, 61, 62, 63, 64, 65, 66, 67, 68, 69, 70, 71, 72, 73, 74, 75, 76, 77, 78, 79, 80, 81, 82, 83, 84, 85, 86, 87, 88, 89, 90, 91, 92, 93, 94, 95, 96, 97, 98, 99, 100, 101, 102, 103, 104, 105, 106, 107, 108, 109, 110, 111] (by decide +kernel) (by decide +kernel)
set_option maxRecDepth 20000 in
theorem gX11_purse_X11_behind : GoodIn wsX11_purse (wsV RX11 147 RX11 yX11_behind wsX11_behind) := goodIn_app (goodIn_of _ (by decide +kernel)) ggX11_purse_X11_behind
theorem dX11_purse_0 : decode cX11_purse 0 = .ok (.aload_n 0, 1) := by decide +kernel
theorem dX11_purse_1 : decode cX11_purse 1 = .ok (.iconst 3, 1) := by decide +kernel
theorem dX11_purse_2 : decode cX11_purse 2 = .ok (.iload_n 1, 1) := by decide +kernel
theorem dX11_purse_3 : decode cX11_purse 3 = .ok (.iload_n 2, 1) := by decide +kernel
theorem dX11_purse_4 : decode cX11_purse 4 = .ok (.iload_n 3, 1) := by decide +kernel
theorem dX11_purse_5 : decode cX11_purse 5 = .ok (.invokevirtual 147, 3) := by decide +kernel
theorem dX11_purse_8 : decode cX11_purse 8 = .ok (.lreturn, 1) := by decide +kernel
set_option maxRecDepth 20000 in
theorem ggX11_paid_X11_layWay : GoodIn wsX11_paid wsX11_layWay := goodIn_r _ [6, 7, 1, 8, 9, 10, 11, 12, 13, 5, 14, 15, 16, 17, 18, 19, 20, 21, 22, 23, 24, 25, 26, 27, 28, 29, 30, 31, 32, 33, 34, 35, 36, 37, 38, 39, 40, 41, 42, 43, 44, 45, 46, 47, 48, 49, 50, 51, 52, 53, 54, 55, 56, 57, 58, 59, 60, 61, 62, 63, 64, 65, 66, 67, 68, 69, 70, 71, 72, 73, 74, 75, 76, 77, 78, 79, 80, 81, 82, 83, 84, 85, 86, 87, 88, 89, 90, 91, 92, 93, 94, 95, 96, 97, 98] (by decide +kernel) (by decide +kernel)
set_option maxRecDepth 20000 in
theorem gX11_paid_X11_layWay : GoodIn wsX11_paid (wsV RX11 132 RX11 yX11_layWay wsX11_layWay) := goodIn_app (goodIn_of _ (by decide +kernel)) ggX11_paid_X11_layWay
theorem dX11_paid_0 : decode cX11_paid 0 = .ok (.aload_n 0, 1) := by decide +kernel
theorem dX11_paid_1 : decode cX11_paid 1 = .ok (.iconst 3, 1) := by decide +kernel
theorem dX11_paid_2 : decode cX11_paid 2 = .ok (.invokevirtual 132, 3) := by decide +kernel
theorem dX11_paid_5 : decode cX11_paid 5 = .ok (.aload_n 0, 1) := by decide +kernel
theorem dX11_paid_6 : decode cX11_paid 6 = .ok (.getfield 110, 3) := by decide +kernel
theorem dX11_paid_9 : decode cX11_paid 9 = .ok (.ireturn, 1) := by decide +kernel
set_option maxRecDepth 20000 in
theorem ggX11_isOwed_X11_bits : GoodIn wsX11_isOwed wsX11_bits := goodIn_r _ [8] (by decide +kernel) (by decide +kernel)
set_option maxRecDepth 20000 in
theorem gX11_isOwed_X11_bits : GoodIn wsX11_isOwed (va_wsS RX11 60 yX11_bits wsX11_bits) := goodIn_app (goodIn_of _ (by decide +kernel)) ggX11_isOwed_X11_bits
set_option maxRecDepth 20000 in
theorem ggX11_isOwed_X11_allPapers : GoodIn wsX11_isOwed wsX11_allPapers := goodIn_r _ [12, 1, 3, 13, 14, 15, 16, 17, 18, 19, 20, 21, 22, 23, 24, 25, 26, 27, 28, 29] (by decide +kernel) (by decide +kernel)
set_option maxRecDepth 20000 in
theorem gX11_isOwed_X11_allPapers : GoodIn wsX11_isOwed (wsV RX11 96 RX11 yX11_allPapers wsX11_allPapers) := goodIn_app (goodIn_of _ (by decide +kernel)) ggX11_isOwed_X11_allPapers
theorem dX11_isOwed_0 : decode cX11_isOwed 0 = .ok (.sipush 255, 3) := by decide +kernel
theorem dX11_isOwed_3 : decode cX11_isOwed 3 = .ok (.istore_n 3, 1) := by decide +kernel
theorem dX11_isOwed_4 : decode cX11_isOwed 4 = .ok (.iconst 0, 1) := by decide +kernel
theorem dX11_isOwed_5 : decode cX11_isOwed 5 = .ok (.istore 4, 2) := by decide +kernel
theorem dX11_isOwed_7 : decode cX11_isOwed 7 = .ok (.iconst 0, 1) := by decide +kernel
theorem dX11_isOwed_8 : decode cX11_isOwed 8 = .ok (.istore 5, 2) := by decide +kernel
theorem dX11_isOwed_10 : decode cX11_isOwed 10 = .ok (.iload 5, 2) := by decide +kernel
theorem dX11_isOwed_12 : decode cX11_isOwed 12 = .ok (.aload_n 0, 1) := by decide +kernel
theorem dX11_isOwed_13 : decode cX11_isOwed 13 = .ok (.getfield 39, 3) := by decide +kernel
theorem dX11_isOwed_16 : decode cX11_isOwed 16 = .ok (.if_icmp .ge 41, 3) := by decide +kernel
theorem dX11_isOwed_19 : decode cX11_isOwed 19 = .ok (.iload_n 1, 1) := by decide +kernel
theorem dX11_isOwed_20 : decode cX11_isOwed 20 = .ok (.iload 5, 2) := by decide +kernel
theorem dX11_isOwed_22 : decode cX11_isOwed 22 = .ok (.ishr, 1) := by decide +kernel
theorem dX11_isOwed_23 : decode cX11_isOwed 23 = .ok (.iconst 1, 1) := by decide +kernel
theorem dX11_isOwed_24 : decode cX11_isOwed 24 = .ok (.iand, 1) := by decide +kernel
theorem dX11_isOwed_25 : decode cX11_isOwed 25 = .ok (.iconst 1, 1) := by decide +kernel
theorem dX11_isOwed_26 : decode cX11_isOwed 26 = .ok (.if_icmp .ne 25, 3) := by decide +kernel
theorem dX11_isOwed_29 : decode cX11_isOwed 29 = .ok (.iload_n 3, 1) := by decide +kernel
theorem dX11_isOwed_30 : decode cX11_isOwed 30 = .ok (.aload_n 0, 1) := by decide +kernel
theorem dX11_isOwed_31 : decode cX11_isOwed 31 = .ok (.getfield 7, 3) := by decide +kernel
theorem dX11_isOwed_34 : decode cX11_isOwed 34 = .ok (.iload 5, 2) := by decide +kernel
theorem dX11_isOwed_36 : decode cX11_isOwed 36 = .ok (.iaload, 1) := by decide +kernel
theorem dX11_isOwed_37 : decode cX11_isOwed 37 = .ok (.iand, 1) := by decide +kernel
theorem dX11_isOwed_38 : decode cX11_isOwed 38 = .ok (.istore_n 3, 1) := by decide +kernel
theorem dX11_isOwed_39 : decode cX11_isOwed 39 = .ok (.iload 4, 2) := by decide +kernel
theorem dX11_isOwed_41 : decode cX11_isOwed 41 = .ok (.aload_n 0, 1) := by decide +kernel
theorem dX11_isOwed_42 : decode cX11_isOwed 42 = .ok (.getfield 13, 3) := by decide +kernel
theorem dX11_isOwed_45 : decode cX11_isOwed 45 = .ok (.iload 5, 2) := by decide +kernel
theorem dX11_isOwed_47 : decode cX11_isOwed 47 = .ok (.iaload, 1) := by decide +kernel
theorem dX11_isOwed_48 : decode cX11_isOwed 48 = .ok (.iadd, 1) := by decide +kernel
theorem dX11_isOwed_49 : decode cX11_isOwed 49 = .ok (.istore 4, 2) := by decide +kernel
theorem dX11_isOwed_51 : decode cX11_isOwed 51 = .ok (.iinc 5 1, 3) := by decide +kernel
theorem dX11_isOwed_54 : decode cX11_isOwed 54 = .ok (.goto (-44), 3) := by decide +kernel
theorem dX11_isOwed_57 : decode cX11_isOwed 57 = .ok (.iload_n 3, 1) := by decide +kernel
theorem dX11_isOwed_58 : decode cX11_isOwed 58 = .ok (.invokestatic 60, 3) := by decide +kernel
theorem dX11_isOwed_61 : decode cX11_isOwed 61 = .ok (.iload_n 2, 1) := by decide +kernel
theorem dX11_isOwed_62 : decode cX11_isOwed 62 = .ok (.if_icmp .lt 23, 3) := by decide +kernel
theorem dX11_isOwed_65 : decode cX11_isOwed 65 = .ok (.iload 4, 2) := by decide +kernel
theorem dX11_isOwed_67 : decode cX11_isOwed 67 = .ok (.aload_n 0, 1) := by decide +kernel
theorem dX11_isOwed_68 : decode cX11_isOwed 68 = .ok (.getfield 16, 3) := by decide +kernel
theorem dX11_isOwed_71 : decode cX11_isOwed 71 = .ok (.imul, 1) := by decide +kernel
theorem dX11_isOwed_72 : decode cX11_isOwed 72 = .ok (.iload_n 2, 1) := by decide +kernel
theorem dX11_isOwed_73 : decode cX11_isOwed 73 = .ok (.aload_n 0, 1) := by decide +kernel
theorem dX11_isOwed_74 : decode cX11_isOwed 74 = .ok (.invokevirtual 96, 3) := by decide +kernel
theorem dX11_isOwed_77 : decode cX11_isOwed 77 = .ok (.imul, 1) := by decide +kernel
theorem dX11_isOwed_78 : decode cX11_isOwed 78 = .ok (.if_icmp .lt 7, 3) := by decide +kernel
theorem dX11_isOwed_81 : decode cX11_isOwed 81 = .ok (.iconst 1, 1) := by decide +kernel
theorem dX11_isOwed_82 : decode cX11_isOwed 82 = .ok (.goto 4, 3) := by decide +kernel
theorem dX11_isOwed_85 : decode cX11_isOwed 85 = .ok (.iconst 0, 1) := by decide +kernel
theorem dX11_isOwed_86 : decode cX11_isOwed 86 = .ok (.ireturn, 1) := by decide +kernel
set_option maxRecDepth 20000 in
theorem ggX11_owed_X11_in : GoodIn wsX11_owed wsX11_in := goodIn_r _ [5] (by decide +kernel) (by decide +kernel)
set_option maxRecDepth 20000 in
theorem gX11_owed_X11_in : GoodIn wsX11_owed (va_wsS RX11 42 yX11_in wsX11_in) := goodIn_app (goodIn_of _ (by decide +kernel)) ggX11_owed_X11_in
set_option maxRecDepth 20000 in
theorem ggX11_owed_X11_isOwed : GoodIn wsX11_owed wsX11_isOwed := goodIn_r _ [9, 1, 10, 11, 12, 13, 14, 4, 15, 16, 17, 18, 19, 20, 21, 22, 23, 24, 25, 26, 27, 28, 29, 30, 31, 32, 33, 34, 35, 36] (by decide +kernel) (by decide +kernel)
set_option maxRecDepth 20000 in
theorem gX11_owed_X11_isOwed : GoodIn wsX11_owed (wsV RX11 151 RX11 yX11_isOwed wsX11_isOwed) := goodIn_app (goodIn_of _ (by decide +kernel)) ggX11_owed_X11_isOwed
theorem dX11_owed_0 : decode cX11_owed 0 = .ok (.iload_n 2, 1) := by decide +kernel
theorem dX11_owed_1 : decode cX11_owed 1 = .ok (.iconst 1, 1) := by decide +kernel
theorem dX11_owed_2 : decode cX11_owed 2 = .ok (.iconst 4, 1) := by decide +kernel
theorem dX11_owed_3 : decode cX11_owed 3 = .ok (.invokestatic 42, 3) := by decide +kernel
theorem dX11_owed_6 : decode cX11_owed 6 = .ok (.ifCond .eq 19, 3) := by decide +kernel
theorem dX11_owed_9 : decode cX11_owed 9 = .ok (.iload_n 1, 1) := by decide +kernel
theorem dX11_owed_10 : decode cX11_owed 10 = .ok (.iconst 1, 1) := by decide +kernel
theorem dX11_owed_11 : decode cX11_owed 11 = .ok (.iconst 1, 1) := by decide +kernel
theorem dX11_owed_12 : decode cX11_owed 12 = .ok (.aload_n 0, 1) := by decide +kernel
theorem dX11_owed_13 : decode cX11_owed 13 = .ok (.getfield 39, 3) := by decide +kernel
theorem dX11_owed_16 : decode cX11_owed 16 = .ok (.ishl, 1) := by decide +kernel
theorem dX11_owed_17 : decode cX11_owed 17 = .ok (.iconst 1, 1) := by decide +kernel
theorem dX11_owed_18 : decode cX11_owed 18 = .ok (.isub, 1) := by decide +kernel
theorem dX11_owed_19 : decode cX11_owed 19 = .ok (.invokestatic 42, 3) := by decide +kernel
theorem dX11_owed_22 : decode cX11_owed 22 = .ok (.ifCond .ne 6, 3) := by decide +kernel
theorem dX11_owed_25 : decode cX11_owed 25 = .ok (.bipush (-2), 2) := by decide +kernel
theorem dX11_owed_27 : decode cX11_owed 27 = .ok (.ireturn, 1) := by decide +kernel
theorem dX11_owed_28 : decode cX11_owed 28 = .ok (.aload_n 0, 1) := by decide +kernel
theorem dX11_owed_29 : decode cX11_owed 29 = .ok (.iload_n 1, 1) := by decide +kernel
theorem dX11_owed_30 : decode cX11_owed 30 = .ok (.iload_n 2, 1) := by decide +kernel
theorem dX11_owed_31 : decode cX11_owed 31 = .ok (.invokevirtual 151, 3) := by decide +kernel
theorem dX11_owed_34 : decode cX11_owed 34 = .ok (.ifCond .eq 7, 3) := by decide +kernel
theorem dX11_owed_37 : decode cX11_owed 37 = .ok (.iconst 1, 1) := by decide +kernel
theorem dX11_owed_38 : decode cX11_owed 38 = .ok (.goto 4, 3) := by decide +kernel
theorem dX11_owed_41 : decode cX11_owed 41 = .ok (.iconst 0, 1) := by decide +kernel
theorem dX11_owed_42 : decode cX11_owed 42 = .ok (.ireturn, 1) := by decide +kernel
set_option maxRecDepth 20000 in
theorem ggX11_lacks_X11_bits : GoodIn wsX11_lacks wsX11_bits := goodIn_r _ [6] (by decide +kernel) (by decide +kernel)
set_option maxRecDepth 20000 in
theorem gX11_lacks_X11_bits : GoodIn wsX11_lacks (va_wsS RX11 60 yX11_bits wsX11_bits) := goodIn_app (goodIn_of _ (by decide +kernel)) ggX11_lacks_X11_bits
theorem dX11_lacks_0 : decode cX11_lacks 0 = .ok (.iconst 0, 1) := by decide +kernel
theorem dX11_lacks_1 : decode cX11_lacks 1 = .ok (.istore 5, 2) := by decide +kernel
theorem dX11_lacks_3 : decode cX11_lacks 3 = .ok (.iconst 0, 1) := by decide +kernel
theorem dX11_lacks_4 : decode cX11_lacks 4 = .ok (.istore 6, 2) := by decide +kernel
theorem dX11_lacks_6 : decode cX11_lacks 6 = .ok (.iconst 0, 1) := by decide +kernel
theorem dX11_lacks_7 : decode cX11_lacks 7 = .ok (.istore 7, 2) := by decide +kernel
theorem dX11_lacks_9 : decode cX11_lacks 9 = .ok (.iload 7, 2) := by decide +kernel
theorem dX11_lacks_11 : decode cX11_lacks 11 = .ok (.aload_n 0, 1) := by decide +kernel
theorem dX11_lacks_12 : decode cX11_lacks 12 = .ok (.getfield 39, 3) := by decide +kernel
theorem dX11_lacks_15 : decode cX11_lacks 15 = .ok (.if_icmp .ge 67, 3) := by decide +kernel
theorem dX11_lacks_18 : decode cX11_lacks 18 = .ok (.iload_n 3, 1) := by decide +kernel
theorem dX11_lacks_19 : decode cX11_lacks 19 = .ok (.iload 7, 2) := by decide +kernel
theorem dX11_lacks_21 : decode cX11_lacks 21 = .ok (.ishr, 1) := by decide +kernel
theorem dX11_lacks_22 : decode cX11_lacks 22 = .ok (.iconst 1, 1) := by decide +kernel
theorem dX11_lacks_23 : decode cX11_lacks 23 = .ok (.iand, 1) := by decide +kernel
theorem dX11_lacks_24 : decode cX11_lacks 24 = .ok (.iconst 1, 1) := by decide +kernel
theorem dX11_lacks_25 : decode cX11_lacks 25 = .ok (.if_icmp .ne 51, 3) := by decide +kernel
theorem dX11_lacks_28 : decode cX11_lacks 28 = .ok (.iload 5, 2) := by decide +kernel
theorem dX11_lacks_30 : decode cX11_lacks 30 = .ok (.aload_n 0, 1) := by decide +kernel
theorem dX11_lacks_31 : decode cX11_lacks 31 = .ok (.getfield 7, 3) := by decide +kernel
theorem dX11_lacks_34 : decode cX11_lacks 34 = .ok (.iload 7, 2) := by decide +kernel
theorem dX11_lacks_36 : decode cX11_lacks 36 = .ok (.iaload, 1) := by decide +kernel
theorem dX11_lacks_37 : decode cX11_lacks 37 = .ok (.ior, 1) := by decide +kernel
theorem dX11_lacks_38 : decode cX11_lacks 38 = .ok (.istore 5, 2) := by decide +kernel
theorem dX11_lacks_40 : decode cX11_lacks 40 = .ok (.iload_n 2, 1) := by decide +kernel
theorem dX11_lacks_41 : decode cX11_lacks 41 = .ok (.aload_n 0, 1) := by decide +kernel
theorem dX11_lacks_42 : decode cX11_lacks 42 = .ok (.getfield 7, 3) := by decide +kernel
theorem dX11_lacks_45 : decode cX11_lacks 45 = .ok (.iload 7, 2) := by decide +kernel
theorem dX11_lacks_47 : decode cX11_lacks 47 = .ok (.iaload, 1) := by decide +kernel
theorem dX11_lacks_48 : decode cX11_lacks 48 = .ok (.iand, 1) := by decide +kernel
theorem dX11_lacks_49 : decode cX11_lacks 49 = .ok (.invokestatic 60, 3) := by decide +kernel
theorem dX11_lacks_52 : decode cX11_lacks 52 = .ok (.iload 6, 2) := by decide +kernel
theorem dX11_lacks_54 : decode cX11_lacks 54 = .ok (.if_icmp .le 18, 3) := by decide +kernel
theorem dX11_lacks_57 : decode cX11_lacks 57 = .ok (.iload_n 2, 1) := by decide +kernel
theorem dX11_lacks_58 : decode cX11_lacks 58 = .ok (.aload_n 0, 1) := by decide +kernel
theorem dX11_lacks_59 : decode cX11_lacks 59 = .ok (.getfield 7, 3) := by decide +kernel
theorem dX11_lacks_62 : decode cX11_lacks 62 = .ok (.iload 7, 2) := by decide +kernel
theorem dX11_lacks_64 : decode cX11_lacks 64 = .ok (.iaload, 1) := by decide +kernel
theorem dX11_lacks_65 : decode cX11_lacks 65 = .ok (.iand, 1) := by decide +kernel
theorem dX11_lacks_66 : decode cX11_lacks 66 = .ok (.invokestatic 60, 3) := by decide +kernel
theorem dX11_lacks_69 : decode cX11_lacks 69 = .ok (.goto 5, 3) := by decide +kernel
theorem dX11_lacks_72 : decode cX11_lacks 72 = .ok (.iload 6, 2) := by decide +kernel
theorem dX11_lacks_74 : decode cX11_lacks 74 = .ok (.istore 6, 2) := by decide +kernel
theorem dX11_lacks_76 : decode cX11_lacks 76 = .ok (.iinc 7 1, 3) := by decide +kernel
theorem dX11_lacks_79 : decode cX11_lacks 79 = .ok (.goto (-70), 3) := by decide +kernel
theorem dX11_lacks_82 : decode cX11_lacks 82 = .ok (.iload_n 1, 1) := by decide +kernel
theorem dX11_lacks_83 : decode cX11_lacks 83 = .ok (.iconst 1, 1) := by decide +kernel
theorem dX11_lacks_84 : decode cX11_lacks 84 = .ok (.if_icmp .ne 23, 3) := by decide +kernel
theorem dX11_lacks_87 : decode cX11_lacks 87 = .ok (.iload 5, 2) := by decide +kernel
theorem dX11_lacks_89 : decode cX11_lacks 89 = .ok (.iload_n 2, 1) := by decide +kernel
theorem dX11_lacks_90 : decode cX11_lacks 90 = .ok (.iand, 1) := by decide +kernel
theorem dX11_lacks_91 : decode cX11_lacks 91 = .ok (.invokestatic 60, 3) := by decide +kernel
theorem dX11_lacks_94 : decode cX11_lacks 94 = .ok (.iload 4, 2) := by decide +kernel
theorem dX11_lacks_96 : decode cX11_lacks 96 = .ok (.if_icmp .ge 7, 3) := by decide +kernel
theorem dX11_lacks_99 : decode cX11_lacks 99 = .ok (.iconst 1, 1) := by decide +kernel
theorem dX11_lacks_100 : decode cX11_lacks 100 = .ok (.goto 19, 3) := by decide +kernel
theorem dX11_lacks_103 : decode cX11_lacks 103 = .ok (.iconst 0, 1) := by decide +kernel
theorem dX11_lacks_104 : decode cX11_lacks 104 = .ok (.goto 15, 3) := by decide +kernel
theorem dX11_lacks_107 : decode cX11_lacks 107 = .ok (.iload 6, 2) := by decide +kernel
theorem dX11_lacks_109 : decode cX11_lacks 109 = .ok (.iload 4, 2) := by decide +kernel
theorem dX11_lacks_111 : decode cX11_lacks 111 = .ok (.if_icmp .ge 7, 3) := by decide +kernel
theorem dX11_lacks_114 : decode cX11_lacks 114 = .ok (.iconst 1, 1) := by decide +kernel
theorem dX11_lacks_115 : decode cX11_lacks 115 = .ok (.goto 4, 3) := by decide +kernel
theorem dX11_lacks_118 : decode cX11_lacks 118 = .ok (.iconst 0, 1) := by decide +kernel
theorem dX11_lacks_119 : decode cX11_lacks 119 = .ok (.ireturn, 1) := by decide +kernel
set_option maxRecDepth 20000 in
theorem ggX11_breachOf_X11_isOwed : GoodIn wsX11_breachOf wsX11_isOwed := goodIn_r _ [7, 1, 8, 9, 10, 11, 12, 6, 13, 14, 15, 16, 17, 22, 23, 24, 25, 26, 27, 28, 29, 30, 31, 32, 33, 34, 35, 36, 37, 38] (by decide +kernel) (by decide +kernel)
set_option maxRecDepth 20000 in
theorem gX11_breachOf_X11_isOwed : GoodIn wsX11_breachOf (wsV RX11 151 RX11 yX11_isOwed wsX11_isOwed) := goodIn_app (goodIn_of _ (by decide +kernel)) ggX11_breachOf_X11_isOwed
set_option maxRecDepth 20000 in
theorem ggX11_breachOf_X11_lacks : GoodIn wsX11_breachOf wsX11_lacks := goodIn_r _ [21, 1, 8, 11, 12, 6, 13, 22, 23, 24, 25, 26, 27, 28, 29, 30, 31, 32, 33, 34, 35, 36, 37, 38] (by decide +kernel) (by decide +kernel)
set_option maxRecDepth 20000 in
theorem gX11_breachOf_X11_lacks : GoodIn wsX11_breachOf (wsV RX11 154 RX11 yX11_lacks wsX11_lacks) := goodIn_app (goodIn_of _ (by decide +kernel)) ggX11_breachOf_X11_lacks
theorem dX11_breachOf_0 : decode cX11_breachOf 0 = .ok (.iconst 1, 1) := by decide +kernel
theorem dX11_breachOf_1 : decode cX11_breachOf 1 = .ok (.istore_n 3, 1) := by decide +kernel
theorem dX11_breachOf_2 : decode cX11_breachOf 2 = .ok (.iload_n 3, 1) := by decide +kernel
theorem dX11_breachOf_3 : decode cX11_breachOf 3 = .ok (.iload_n 1, 1) := by decide +kernel
theorem dX11_breachOf_4 : decode cX11_breachOf 4 = .ok (.ifCond .ne 7, 3) := by decide +kernel
theorem dX11_breachOf_7 : decode cX11_breachOf 7 = .ok (.iconst 1, 1) := by decide +kernel
theorem dX11_breachOf_8 : decode cX11_breachOf 8 = .ok (.goto 4, 3) := by decide +kernel
theorem dX11_breachOf_11 : decode cX11_breachOf 11 = .ok (.iconst 4, 1) := by decide +kernel
theorem dX11_breachOf_12 : decode cX11_breachOf 12 = .ok (.if_icmp .gt 59, 3) := by decide +kernel
theorem dX11_breachOf_15 : decode cX11_breachOf 15 = .ok (.iconst 1, 1) := by decide +kernel
theorem dX11_breachOf_16 : decode cX11_breachOf 16 = .ok (.istore 4, 2) := by decide +kernel
theorem dX11_breachOf_18 : decode cX11_breachOf 18 = .ok (.iload 4, 2) := by decide +kernel
theorem dX11_breachOf_20 : decode cX11_breachOf 20 = .ok (.iconst 1, 1) := by decide +kernel
theorem dX11_breachOf_21 : decode cX11_breachOf 21 = .ok (.aload_n 0, 1) := by decide +kernel
theorem dX11_breachOf_22 : decode cX11_breachOf 22 = .ok (.getfield 39, 3) := by decide +kernel
theorem dX11_breachOf_25 : decode cX11_breachOf 25 = .ok (.ishl, 1) := by decide +kernel
theorem dX11_breachOf_26 : decode cX11_breachOf 26 = .ok (.if_icmp .ge 39, 3) := by decide +kernel
theorem dX11_breachOf_29 : decode cX11_breachOf 29 = .ok (.aload_n 0, 1) := by decide +kernel
theorem dX11_breachOf_30 : decode cX11_breachOf 30 = .ok (.iload 4, 2) := by decide +kernel
theorem dX11_breachOf_32 : decode cX11_breachOf 32 = .ok (.iload_n 3, 1) := by decide +kernel
theorem dX11_breachOf_33 : decode cX11_breachOf 33 = .ok (.invokevirtual 151, 3) := by decide +kernel
theorem dX11_breachOf_36 : decode cX11_breachOf 36 = .ok (.ifCond .eq 23, 3) := by decide +kernel
theorem dX11_breachOf_39 : decode cX11_breachOf 39 = .ok (.aload_n 0, 1) := by decide +kernel
theorem dX11_breachOf_40 : decode cX11_breachOf 40 = .ok (.iload_n 1, 1) := by decide +kernel
theorem dX11_breachOf_41 : decode cX11_breachOf 41 = .ok (.iload_n 2, 1) := by decide +kernel
theorem dX11_breachOf_42 : decode cX11_breachOf 42 = .ok (.iload 4, 2) := by decide +kernel
theorem dX11_breachOf_44 : decode cX11_breachOf 44 = .ok (.iload_n 3, 1) := by decide +kernel
theorem dX11_breachOf_45 : decode cX11_breachOf 45 = .ok (.invokevirtual 154, 3) := by decide +kernel
theorem dX11_breachOf_48 : decode cX11_breachOf 48 = .ok (.ifCond .eq 11, 3) := by decide +kernel
theorem dX11_breachOf_51 : decode cX11_breachOf 51 = .ok (.aload_n 0, 1) := by decide +kernel
theorem dX11_breachOf_52 : decode cX11_breachOf 52 = .ok (.iload 4, 2) := by decide +kernel
theorem dX11_breachOf_54 : decode cX11_breachOf 54 = .ok (.putfield 158, 3) := by decide +kernel
theorem dX11_breachOf_57 : decode cX11_breachOf 57 = .ok (.iload_n 3, 1) := by decide +kernel
theorem dX11_breachOf_58 : decode cX11_breachOf 58 = .ok (.ireturn, 1) := by decide +kernel
theorem dX11_breachOf_59 : decode cX11_breachOf 59 = .ok (.iinc 4 1, 3) := by decide +kernel
theorem dX11_breachOf_62 : decode cX11_breachOf 62 = .ok (.goto (-44), 3) := by decide +kernel
theorem dX11_breachOf_65 : decode cX11_breachOf 65 = .ok (.iinc 3 1, 3) := by decide +kernel
theorem dX11_breachOf_68 : decode cX11_breachOf 68 = .ok (.goto (-66), 3) := by decide +kernel
theorem dX11_breachOf_71 : decode cX11_breachOf 71 = .ok (.aload_n 0, 1) := by decide +kernel
theorem dX11_breachOf_72 : decode cX11_breachOf 72 = .ok (.bipush (-6), 2) := by decide +kernel
theorem dX11_breachOf_74 : decode cX11_breachOf 74 = .ok (.putfield 158, 3) := by decide +kernel
theorem dX11_breachOf_77 : decode cX11_breachOf 77 = .ok (.bipush (-6), 2) := by decide +kernel
theorem dX11_breachOf_79 : decode cX11_breachOf 79 = .ok (.ireturn, 1) := by decide +kernel
set_option maxRecDepth 20000 in
theorem ggX11_isLaw_X11_in : GoodIn wsX11_isLaw wsX11_in := goodIn_r _ [4] (by decide +kernel) (by decide +kernel)
set_option maxRecDepth 20000 in
theorem gX11_isLaw_X11_in : GoodIn wsX11_isLaw (va_wsS RX11 42 yX11_in wsX11_in) := goodIn_app (goodIn_of _ (by decide +kernel)) ggX11_isLaw_X11_in
theorem dX11_isLaw_0 : decode cX11_isLaw 0 = .ok (.iload_n 0, 1) := by decide +kernel
theorem dX11_isLaw_1 : decode cX11_isLaw 1 = .ok (.iconst 0, 1) := by decide +kernel
theorem dX11_isLaw_2 : decode cX11_isLaw 2 = .ok (.iconst 2, 1) := by decide +kernel
theorem dX11_isLaw_3 : decode cX11_isLaw 3 = .ok (.invokestatic 42, 3) := by decide +kernel
theorem dX11_isLaw_6 : decode cX11_isLaw 6 = .ok (.ireturn, 1) := by decide +kernel
set_option maxRecDepth 20000 in
theorem ggX11_breach_X11_isLaw : GoodIn wsX11_breach wsX11_isLaw := goodIn_r _ [5, 6, 7, 4, 8] (by decide +kernel) (by decide +kernel)
set_option maxRecDepth 20000 in
theorem gX11_breach_X11_isLaw : GoodIn wsX11_breach (va_wsS RX11 161 yX11_isLaw wsX11_isLaw) := goodIn_app (goodIn_of _ (by decide +kernel)) ggX11_breach_X11_isLaw
set_option maxRecDepth 20000 in
theorem ggX11_breach_X11_isCommittee : GoodIn wsX11_breach wsX11_isCommittee := goodIn_r _ [12, 13, 6, 7, 4, 8, 14, 15, 16, 36, 37, 38, 39, 40, 41, 42, 43, 44, 45, 46, 47, 48, 49, 50, 51, 52] (by decide +kernel) (by decide +kernel)
set_option maxRecDepth 20000 in
theorem gX11_breach_X11_isCommittee : GoodIn wsX11_breach (wsV RX11 64 RX11 yX11_isCommittee wsX11_isCommittee) := goodIn_app (goodIn_of _ (by decide +kernel)) ggX11_breach_X11_isCommittee
set_option maxRecDepth 20000 in
theorem ggX11_breach_X11_in : GoodIn wsX11_breach wsX11_in := goodIn_r _ [8] (by decide +kernel) (by decide +kernel)
set_option maxRecDepth 20000 in
theorem gX11_breach_X11_in : GoodIn wsX11_breach (va_wsS RX11 42 yX11_in wsX11_in) := goodIn_app (goodIn_of _ (by decide +kernel)) ggX11_breach_X11_in
set_option maxRecDepth 20000 in
theorem ggX11_breach_X11_breachOf : GoodIn wsX11_breach wsX11_breachOf := goodIn_r _ [20, 21, 1, 22, 23, 24, 4, 25, 26, 27, 13, 14, 15, 16, 28, 29, 30, 31, 32, 33, 34, 35, 36, 37, 38, 39, 40, 41, 42, 43, 44, 45, 46, 47, 48, 49, 50, 51, 52] (by decide +kernel) (by decide +kernel)
set_option maxRecDepth 20000 in
theorem gX11_breach_X11_breachOf : GoodIn wsX11_breach (wsV RX11 164 RX11 yX11_breachOf wsX11_breachOf) := goodIn_app (goodIn_of _ (by decide +kernel)) ggX11_breach_X11_breachOf
theorem dX11_breach_0 : decode cX11_breach 0 = .ok (.iload_n 1, 1) := by decide +kernel
theorem dX11_breach_1 : decode cX11_breach 1 = .ok (.invokestatic 161, 3) := by decide +kernel
theorem dX11_breach_4 : decode cX11_breach 4 = .ok (.ifCond .ne 5, 3) := by decide +kernel
theorem dX11_breach_7 : decode cX11_breach 7 = .ok (.iconst (-1), 1) := by decide +kernel
theorem dX11_breach_8 : decode cX11_breach 8 = .ok (.ireturn, 1) := by decide +kernel
theorem dX11_breach_9 : decode cX11_breach 9 = .ok (.aload_n 0, 1) := by decide +kernel
theorem dX11_breach_10 : decode cX11_breach 10 = .ok (.iload_n 2, 1) := by decide +kernel
theorem dX11_breach_11 : decode cX11_breach 11 = .ok (.invokevirtual 64, 3) := by decide +kernel
theorem dX11_breach_14 : decode cX11_breach 14 = .ok (.ifCond .eq 12, 3) := by decide +kernel
theorem dX11_breach_17 : decode cX11_breach 17 = .ok (.iload_n 3, 1) := by decide +kernel
theorem dX11_breach_18 : decode cX11_breach 18 = .ok (.iconst 0, 1) := by decide +kernel
theorem dX11_breach_19 : decode cX11_breach 19 = .ok (.iconst 2, 1) := by decide +kernel
theorem dX11_breach_20 : decode cX11_breach 20 = .ok (.invokestatic 42, 3) := by decide +kernel
theorem dX11_breach_23 : decode cX11_breach 23 = .ok (.ifCond .ne 6, 3) := by decide +kernel
theorem dX11_breach_26 : decode cX11_breach 26 = .ok (.bipush (-2), 2) := by decide +kernel
theorem dX11_breach_28 : decode cX11_breach 28 = .ok (.ireturn, 1) := by decide +kernel
theorem dX11_breach_29 : decode cX11_breach 29 = .ok (.aload_n 0, 1) := by decide +kernel
theorem dX11_breach_30 : decode cX11_breach 30 = .ok (.iload_n 1, 1) := by decide +kernel
theorem dX11_breach_31 : decode cX11_breach 31 = .ok (.iload_n 2, 1) := by decide +kernel
theorem dX11_breach_32 : decode cX11_breach 32 = .ok (.invokevirtual 164, 3) := by decide +kernel
theorem dX11_breach_35 : decode cX11_breach 35 = .ok (.istore 4, 2) := by decide +kernel
theorem dX11_breach_37 : decode cX11_breach 37 = .ok (.iload_n 3, 1) := by decide +kernel
theorem dX11_breach_38 : decode cX11_breach 38 = .ok (.ifCond .ne 16, 3) := by decide +kernel
theorem dX11_breach_41 : decode cX11_breach 41 = .ok (.iload 4, 2) := by decide +kernel
theorem dX11_breach_43 : decode cX11_breach 43 = .ok (.ifCond .ge 7, 3) := by decide +kernel
theorem dX11_breach_46 : decode cX11_breach 46 = .ok (.iconst 0, 1) := by decide +kernel
theorem dX11_breach_47 : decode cX11_breach 47 = .ok (.goto 21, 3) := by decide +kernel
theorem dX11_breach_50 : decode cX11_breach 50 = .ok (.iconst 1, 1) := by decide +kernel
theorem dX11_breach_51 : decode cX11_breach 51 = .ok (.goto 17, 3) := by decide +kernel
theorem dX11_breach_54 : decode cX11_breach 54 = .ok (.iload_n 3, 1) := by decide +kernel
theorem dX11_breach_55 : decode cX11_breach 55 = .ok (.iconst 1, 1) := by decide +kernel
theorem dX11_breach_56 : decode cX11_breach 56 = .ok (.if_icmp .ne 8, 3) := by decide +kernel
theorem dX11_breach_59 : decode cX11_breach 59 = .ok (.iload 4, 2) := by decide +kernel
theorem dX11_breach_61 : decode cX11_breach 61 = .ok (.goto 7, 3) := by decide +kernel
theorem dX11_breach_64 : decode cX11_breach 64 = .ok (.aload_n 0, 1) := by decide +kernel
theorem dX11_breach_65 : decode cX11_breach 65 = .ok (.getfield 158, 3) := by decide +kernel
theorem dX11_breach_68 : decode cX11_breach 68 = .ok (.ireturn, 1) := by decide +kernel
set_option maxRecDepth 20000 in
theorem ggX11_isKept_X11_isCommittee : GoodIn wsX11_isKept wsX11_isCommittee := goodIn_r _ [5, 6, 7, 8, 4, 9, 10, 11, 12, 39, 40, 41, 42, 43, 44, 45, 46, 47, 48, 49, 50, 51, 52, 53, 54, 55] (by decide +kernel) (by decide +kernel)
set_option maxRecDepth 20000 in
theorem gX11_isKept_X11_isCommittee : GoodIn wsX11_isKept (wsV RX11 64 RX11 yX11_isCommittee wsX11_isCommittee) := goodIn_app (goodIn_of _ (by decide +kernel)) ggX11_isKept_X11_isCommittee
set_option maxRecDepth 20000 in
theorem ggX11_isKept_X11_barOf : GoodIn wsX11_isKept wsX11_barOf := goodIn_r _ [16, 17, 18, 7, 8, 4, 9, 10, 11, 12, 39, 40, 41, 42, 43, 44, 45, 46, 47, 48, 49, 50, 51, 52, 53, 54, 55] (by decide +kernel) (by decide +kernel)
set_option maxRecDepth 20000 in
theorem gX11_isKept_X11_barOf : GoodIn wsX11_isKept (wsV RX11 67 RX11 yX11_barOf wsX11_barOf) := goodIn_app (goodIn_of _ (by decide +kernel)) ggX11_isKept_X11_barOf
set_option maxRecDepth 20000 in
theorem ggX11_isKept_X11_breachOf : GoodIn wsX11_isKept wsX11_breachOf := goodIn_r _ [22, 23, 24, 25, 26, 27, 4, 28, 29, 30, 6, 10, 11, 12, 31, 32, 33, 34, 35, 36, 37, 38, 39, 40, 41, 42, 43, 44, 45, 46, 47, 48, 49, 50, 51, 52, 53, 54, 55] (by decide +kernel) (by decide +kernel)
set_option maxRecDepth 20000 in
theorem gX11_isKept_X11_breachOf : GoodIn wsX11_isKept (wsV RX11 164 RX11 yX11_breachOf wsX11_breachOf) := goodIn_app (goodIn_of _ (by decide +kernel)) ggX11_isKept_X11_breachOf
theorem dX11_isKept_0 : decode cX11_isKept 0 = .ok (.aload_n 0, 1) := by decide +kernel
theorem dX11_isKept_1 : decode cX11_isKept 1 = .ok (.iload_n 2, 1) := by decide +kernel
theorem dX11_isKept_2 : decode cX11_isKept 2 = .ok (.invokevirtual 64, 3) := by decide +kernel
theorem dX11_isKept_5 : decode cX11_isKept 5 = .ok (.ifCond .eq 24, 3) := by decide +kernel
theorem dX11_isKept_8 : decode cX11_isKept 8 = .ok (.aload_n 0, 1) := by decide +kernel
theorem dX11_isKept_9 : decode cX11_isKept 9 = .ok (.iload_n 2, 1) := by decide +kernel
theorem dX11_isKept_10 : decode cX11_isKept 10 = .ok (.invokevirtual 67, 3) := by decide +kernel
theorem dX11_isKept_13 : decode cX11_isKept 13 = .ok (.ifCond .ge 16, 3) := by decide +kernel
theorem dX11_isKept_16 : decode cX11_isKept 16 = .ok (.aload_n 0, 1) := by decide +kernel
theorem dX11_isKept_17 : decode cX11_isKept 17 = .ok (.iload_n 1, 1) := by decide +kernel
theorem dX11_isKept_18 : decode cX11_isKept 18 = .ok (.iload_n 2, 1) := by decide +kernel
theorem dX11_isKept_19 : decode cX11_isKept 19 = .ok (.invokevirtual 164, 3) := by decide +kernel
theorem dX11_isKept_22 : decode cX11_isKept 22 = .ok (.ifCond .ge 7, 3) := by decide +kernel
theorem dX11_isKept_25 : decode cX11_isKept 25 = .ok (.iconst 1, 1) := by decide +kernel
theorem dX11_isKept_26 : decode cX11_isKept 26 = .ok (.goto 4, 3) := by decide +kernel
theorem dX11_isKept_29 : decode cX11_isKept 29 = .ok (.iconst 0, 1) := by decide +kernel
theorem dX11_isKept_30 : decode cX11_isKept 30 = .ok (.ireturn, 1) := by decide +kernel
set_option maxRecDepth 20000 in
theorem ggX11_kept_X11_isLaw : GoodIn wsX11_kept wsX11_isLaw := goodIn_r _ [4, 5, 6, 3, 7] (by decide +kernel) (by decide +kernel)
set_option maxRecDepth 20000 in
theorem gX11_kept_X11_isLaw : GoodIn wsX11_kept (va_wsS RX11 161 yX11_isLaw wsX11_isLaw) := goodIn_app (goodIn_of _ (by decide +kernel)) ggX11_kept_X11_isLaw
set_option maxRecDepth 20000 in
theorem ggX11_kept_X11_isKept : GoodIn wsX11_kept wsX11_isKept := goodIn_r _ [11, 12, 13, 14, 3, 15, 16, 5, 6, 7, 17, 18, 19, 20, 21, 22, 23, 24, 25, 26, 27, 28, 29, 30, 31, 32, 33, 34, 35, 36, 37, 38, 39, 40, 41, 42, 43, 44, 45, 46, 47, 48, 49, 50, 51, 52, 53, 54, 55, 56, 57, 58, 59, 60, 61, 62] (by decide +kernel) (by decide +kernel)
set_option maxRecDepth 20000 in
theorem gX11_kept_X11_isKept : GoodIn wsX11_kept (wsV RX11 167 RX11 yX11_isKept wsX11_isKept) := goodIn_app (goodIn_of _ (by decide +kernel)) ggX11_kept_X11_isKept
theorem dX11_kept_0 : decode cX11_kept 0 = .ok (.iload_n 1, 1) := by decide +kernel
theorem dX11_kept_1 : decode cX11_kept 1 = .ok (.invokestatic 161, 3) := by decide +kernel
theorem dX11_kept_4 : decode cX11_kept 4 = .ok (.ifCond .ne 5, 3) := by decide +kernel
theorem dX11_kept_7 : decode cX11_kept 7 = .ok (.iconst (-1), 1) := by decide +kernel
theorem dX11_kept_8 : decode cX11_kept 8 = .ok (.ireturn, 1) := by decide +kernel
theorem dX11_kept_9 : decode cX11_kept 9 = .ok (.iconst 0, 1) := by decide +kernel
theorem dX11_kept_10 : decode cX11_kept 10 = .ok (.istore_n 3, 1) := by decide +kernel
theorem dX11_kept_11 : decode cX11_kept 11 = .ok (.iconst 0, 1) := by decide +kernel
theorem dX11_kept_12 : decode cX11_kept 12 = .ok (.istore 4, 2) := by decide +kernel
theorem dX11_kept_14 : decode cX11_kept 14 = .ok (.iload 4, 2) := by decide +kernel
theorem dX11_kept_16 : decode cX11_kept 16 = .ok (.sipush 256, 3) := by decide +kernel
theorem dX11_kept_19 : decode cX11_kept 19 = .ok (.if_icmp .ge 30, 3) := by decide +kernel
theorem dX11_kept_22 : decode cX11_kept 22 = .ok (.aload_n 0, 1) := by decide +kernel
theorem dX11_kept_23 : decode cX11_kept 23 = .ok (.iload_n 1, 1) := by decide +kernel
theorem dX11_kept_24 : decode cX11_kept 24 = .ok (.iload 4, 2) := by decide +kernel
theorem dX11_kept_26 : decode cX11_kept 26 = .ok (.invokevirtual 167, 3) := by decide +kernel
theorem dX11_kept_29 : decode cX11_kept 29 = .ok (.ifCond .eq 14, 3) := by decide +kernel
theorem dX11_kept_32 : decode cX11_kept 32 = .ok (.iload_n 3, 1) := by decide +kernel
theorem dX11_kept_33 : decode cX11_kept 33 = .ok (.iload_n 2, 1) := by decide +kernel
theorem dX11_kept_34 : decode cX11_kept 34 = .ok (.if_icmp .ne 6, 3) := by decide +kernel
theorem dX11_kept_37 : decode cX11_kept 37 = .ok (.iload 4, 2) := by decide +kernel
theorem dX11_kept_39 : decode cX11_kept 39 = .ok (.ireturn, 1) := by decide +kernel
theorem dX11_kept_40 : decode cX11_kept 40 = .ok (.iinc 3 1, 3) := by decide +kernel
theorem dX11_kept_43 : decode cX11_kept 43 = .ok (.iinc 4 1, 3) := by decide +kernel
theorem dX11_kept_46 : decode cX11_kept 46 = .ok (.goto (-32), 3) := by decide +kernel
theorem dX11_kept_49 : decode cX11_kept 49 = .ok (.iload_n 2, 1) := by decide +kernel
theorem dX11_kept_50 : decode cX11_kept 50 = .ok (.iconst (-1), 1) := by decide +kernel
theorem dX11_kept_51 : decode cX11_kept 51 = .ok (.if_icmp .ne 7, 3) := by decide +kernel
theorem dX11_kept_54 : decode cX11_kept 54 = .ok (.iload_n 3, 1) := by decide +kernel
theorem dX11_kept_55 : decode cX11_kept 55 = .ok (.goto 5, 3) := by decide +kernel
theorem dX11_kept_58 : decode cX11_kept 58 = .ok (.bipush (-6), 2) := by decide +kernel
theorem dX11_kept_60 : decode cX11_kept 60 = .ok (.ireturn, 1) := by decide +kernel
set_option maxRecDepth 20000 in
theorem ggX11_least_X11_in : GoodIn wsX11_least wsX11_in := goodIn_r _ [4] (by decide +kernel) (by decide +kernel)
set_option maxRecDepth 20000 in
theorem gX11_least_X11_in : GoodIn wsX11_least (va_wsS RX11 42 yX11_in wsX11_in) := goodIn_app (goodIn_of _ (by decide +kernel)) ggX11_least_X11_in
set_option maxRecDepth 20000 in
theorem ggX11_least_X11_isCommittee : GoodIn wsX11_least wsX11_isCommittee := goodIn_r _ [8, 9, 1, 2, 3, 4, 10, 11, 12, 26, 27, 28, 29, 30, 31, 32, 33, 34, 35, 36, 37, 38, 39, 40, 41, 42] (by decide +kernel) (by decide +kernel)
set_option maxRecDepth 20000 in
theorem gX11_least_X11_isCommittee : GoodIn wsX11_least (wsV RX11 64 RX11 yX11_isCommittee wsX11_isCommittee) := goodIn_app (goodIn_of _ (by decide +kernel)) ggX11_least_X11_isCommittee
set_option maxRecDepth 20000 in
theorem ggX11_least_X11_barOf : GoodIn wsX11_least wsX11_barOf := goodIn_r _ [16, 17, 18, 1, 2, 3, 4, 10, 11, 12, 26, 27, 28, 29, 30, 31, 32, 33, 34, 35, 36, 37, 38, 39, 40, 41, 42] (by decide +kernel) (by decide +kernel)
set_option maxRecDepth 20000 in
theorem gX11_least_X11_barOf : GoodIn wsX11_least (wsV RX11 67 RX11 yX11_barOf wsX11_barOf) := goodIn_app (goodIn_of _ (by decide +kernel)) ggX11_least_X11_barOf
set_option maxRecDepth 20000 in
theorem ggX11_least_X11_wronged : GoodIn wsX11_least wsX11_wronged := goodIn_r _ [22, 23, 24, 25, 26, 27, 28, 29, 30, 31, 32, 33, 34, 35, 36, 37, 38, 39, 40, 41, 42] (by decide +kernel) (by decide +kernel)
set_option maxRecDepth 20000 in
theorem gX11_least_X11_wronged : GoodIn wsX11_least (wsV RX11 73 RX11 yX11_wronged wsX11_wronged) := goodIn_app (goodIn_of _ (by decide +kernel)) ggX11_least_X11_wronged
theorem dX11_least_0 : decode cX11_least 0 = .ok (.iload_n 1, 1) := by decide +kernel
theorem dX11_least_1 : decode cX11_least 1 = .ok (.iconst 0, 1) := by decide +kernel
theorem dX11_least_2 : decode cX11_least 2 = .ok (.iconst 1, 1) := by decide +kernel
theorem dX11_least_3 : decode cX11_least 3 = .ok (.invokestatic 42, 3) := by decide +kernel
theorem dX11_least_6 : decode cX11_least 6 = .ok (.ifCond .ne 6, 3) := by decide +kernel
theorem dX11_least_9 : decode cX11_least 9 = .ok (.bipush (-2), 2) := by decide +kernel
theorem dX11_least_11 : decode cX11_least 11 = .ok (.ireturn, 1) := by decide +kernel
theorem dX11_least_12 : decode cX11_least 12 = .ok (.bipush (-6), 2) := by decide +kernel
theorem dX11_least_14 : decode cX11_least 14 = .ok (.istore_n 2, 1) := by decide +kernel
theorem dX11_least_15 : decode cX11_least 15 = .ok (.iconst 0, 1) := by decide +kernel
theorem dX11_least_16 : decode cX11_least 16 = .ok (.istore_n 3, 1) := by decide +kernel
theorem dX11_least_17 : decode cX11_least 17 = .ok (.iload_n 3, 1) := by decide +kernel
theorem dX11_least_18 : decode cX11_least 18 = .ok (.sipush 256, 3) := by decide +kernel
theorem dX11_least_21 : decode cX11_least 21 = .ok (.if_icmp .ge 60, 3) := by decide +kernel
theorem dX11_least_24 : decode cX11_least 24 = .ok (.aload_n 0, 1) := by decide +kernel
theorem dX11_least_25 : decode cX11_least 25 = .ok (.iload_n 3, 1) := by decide +kernel
theorem dX11_least_26 : decode cX11_least 26 = .ok (.invokevirtual 64, 3) := by decide +kernel
theorem dX11_least_29 : decode cX11_least 29 = .ok (.ifCond .eq 15, 3) := by decide +kernel
theorem dX11_least_32 : decode cX11_least 32 = .ok (.aload_n 0, 1) := by decide +kernel
theorem dX11_least_33 : decode cX11_least 33 = .ok (.iload_n 3, 1) := by decide +kernel
theorem dX11_least_34 : decode cX11_least 34 = .ok (.invokevirtual 67, 3) := by decide +kernel
theorem dX11_least_37 : decode cX11_least 37 = .ok (.ifCond .ge 7, 3) := by decide +kernel
theorem dX11_least_40 : decode cX11_least 40 = .ok (.iconst 1, 1) := by decide +kernel
theorem dX11_least_41 : decode cX11_least 41 = .ok (.goto 4, 3) := by decide +kernel
theorem dX11_least_44 : decode cX11_least 44 = .ok (.iconst 0, 1) := by decide +kernel
theorem dX11_least_45 : decode cX11_least 45 = .ok (.istore 4, 2) := by decide +kernel
theorem dX11_least_47 : decode cX11_least 47 = .ok (.iload 4, 2) := by decide +kernel
theorem dX11_least_49 : decode cX11_least 49 = .ok (.ifCond .eq 24, 3) := by decide +kernel
theorem dX11_least_52 : decode cX11_least 52 = .ok (.iload_n 2, 1) := by decide +kernel
theorem dX11_least_53 : decode cX11_least 53 = .ok (.ifCond .lt 16, 3) := by decide +kernel
theorem dX11_least_56 : decode cX11_least 56 = .ok (.aload_n 0, 1) := by decide +kernel
theorem dX11_least_57 : decode cX11_least 57 = .ok (.iload_n 3, 1) := by decide +kernel
theorem dX11_least_58 : decode cX11_least 58 = .ok (.invokevirtual 73, 3) := by decide +kernel
theorem dX11_least_61 : decode cX11_least 61 = .ok (.aload_n 0, 1) := by decide +kernel
theorem dX11_least_62 : decode cX11_least 62 = .ok (.iload_n 2, 1) := by decide +kernel
theorem dX11_least_63 : decode cX11_least 63 = .ok (.invokevirtual 73, 3) := by decide +kernel
theorem dX11_least_66 : decode cX11_least 66 = .ok (.if_icmp .ge 7, 3) := by decide +kernel
theorem dX11_least_69 : decode cX11_least 69 = .ok (.iload_n 3, 1) := by decide +kernel
theorem dX11_least_70 : decode cX11_least 70 = .ok (.goto 4, 3) := by decide +kernel
theorem dX11_least_73 : decode cX11_least 73 = .ok (.iload_n 2, 1) := by decide +kernel
theorem dX11_least_74 : decode cX11_least 74 = .ok (.istore_n 2, 1) := by decide +kernel
theorem dX11_least_75 : decode cX11_least 75 = .ok (.iinc 3 1, 3) := by decide +kernel
theorem dX11_least_78 : decode cX11_least 78 = .ok (.goto (-61), 3) := by decide +kernel
theorem dX11_least_81 : decode cX11_least 81 = .ok (.iload_n 2, 1) := by decide +kernel
theorem dX11_least_82 : decode cX11_least 82 = .ok (.ifCond .lt 7, 3) := by decide +kernel
theorem dX11_least_85 : decode cX11_least 85 = .ok (.iload_n 1, 1) := by decide +kernel
theorem dX11_least_86 : decode cX11_least 86 = .ok (.ifCond .ne 7, 3) := by decide +kernel
theorem dX11_least_89 : decode cX11_least 89 = .ok (.iload_n 2, 1) := by decide +kernel
theorem dX11_least_90 : decode cX11_least 90 = .ok (.goto 8, 3) := by decide +kernel
theorem dX11_least_93 : decode cX11_least 93 = .ok (.aload_n 0, 1) := by decide +kernel
theorem dX11_least_94 : decode cX11_least 94 = .ok (.iload_n 2, 1) := by decide +kernel
theorem dX11_least_95 : decode cX11_least 95 = .ok (.invokevirtual 73, 3) := by decide +kernel
theorem dX11_least_98 : decode cX11_least 98 = .ok (.ireturn, 1) := by decide +kernel
set_option maxRecDepth 20000 in
theorem ggX11_nearest_X11_isLaw : GoodIn wsX11_nearest wsX11_isLaw := goodIn_r _ [4, 5, 6, 3, 7] (by decide +kernel) (by decide +kernel)
set_option maxRecDepth 20000 in
theorem gX11_nearest_X11_isLaw : GoodIn wsX11_nearest (va_wsS RX11 161 yX11_isLaw wsX11_isLaw) := goodIn_app (goodIn_of _ (by decide +kernel)) ggX11_nearest_X11_isLaw
set_option maxRecDepth 20000 in
theorem ggX11_nearest_X11_isCommittee : GoodIn wsX11_nearest wsX11_isCommittee := goodIn_r _ [11, 12, 5, 6, 3, 7, 13, 14, 15, 46, 47, 48, 49, 50, 51, 52, 53, 54, 55, 56, 57, 58, 59, 60, 61, 62] (by decide +kernel) (by decide +kernel)
set_option maxRecDepth 20000 in
theorem gX11_nearest_X11_isCommittee : GoodIn wsX11_nearest (wsV RX11 64 RX11 yX11_isCommittee wsX11_isCommittee) := goodIn_app (goodIn_of _ (by decide +kernel)) ggX11_nearest_X11_isCommittee
set_option maxRecDepth 20000 in
theorem ggX11_nearest_X11_bits : GoodIn wsX11_nearest wsX11_bits := goodIn_r _ [15] (by decide +kernel) (by decide +kernel)
set_option maxRecDepth 20000 in
theorem gX11_nearest_X11_bits : GoodIn wsX11_nearest (va_wsS RX11 60 yX11_bits wsX11_bits) := goodIn_app (goodIn_of _ (by decide +kernel)) ggX11_nearest_X11_bits
set_option maxRecDepth 20000 in
theorem ggX11_nearest_X11_isKept : GoodIn wsX11_nearest wsX11_isKept := goodIn_r _ [19, 8, 9, 10, 3, 11, 12, 5, 6, 7, 13, 14, 15, 20, 21, 22, 23, 24, 25, 26, 27, 28, 29, 30, 31, 32, 33, 34, 35, 36, 37, 38, 39, 40, 41, 42, 43, 44, 45, 46, 47, 48, 49, 50, 51, 52, 53, 54, 55, 56, 57, 58, 59, 60, 61, 62] (by decide +kernel) (by decide +kernel)
set_option maxRecDepth 20000 in
theorem gX11_nearest_X11_isKept : GoodIn wsX11_nearest (wsV RX11 167 RX11 yX11_isKept wsX11_isKept) := goodIn_app (goodIn_of _ (by decide +kernel)) ggX11_nearest_X11_isKept
theorem dX11_nearest_0 : decode cX11_nearest 0 = .ok (.iload_n 1, 1) := by decide +kernel
theorem dX11_nearest_1 : decode cX11_nearest 1 = .ok (.invokestatic 161, 3) := by decide +kernel
theorem dX11_nearest_4 : decode cX11_nearest 4 = .ok (.ifCond .ne 5, 3) := by decide +kernel
theorem dX11_nearest_7 : decode cX11_nearest 7 = .ok (.iconst (-1), 1) := by decide +kernel
theorem dX11_nearest_8 : decode cX11_nearest 8 = .ok (.ireturn, 1) := by decide +kernel
theorem dX11_nearest_9 : decode cX11_nearest 9 = .ok (.aload_n 0, 1) := by decide +kernel
theorem dX11_nearest_10 : decode cX11_nearest 10 = .ok (.iload_n 2, 1) := by decide +kernel
theorem dX11_nearest_11 : decode cX11_nearest 11 = .ok (.invokevirtual 64, 3) := by decide +kernel
theorem dX11_nearest_14 : decode cX11_nearest 14 = .ok (.ifCond .ne 6, 3) := by decide +kernel
theorem dX11_nearest_17 : decode cX11_nearest 17 = .ok (.bipush (-2), 2) := by decide +kernel
theorem dX11_nearest_19 : decode cX11_nearest 19 = .ok (.ireturn, 1) := by decide +kernel
theorem dX11_nearest_20 : decode cX11_nearest 20 = .ok (.bipush (-6), 2) := by decide +kernel
theorem dX11_nearest_22 : decode cX11_nearest 22 = .ok (.istore_n 3, 1) := by decide +kernel
theorem dX11_nearest_23 : decode cX11_nearest 23 = .ok (.iconst 0, 1) := by decide +kernel
theorem dX11_nearest_24 : decode cX11_nearest 24 = .ok (.istore 4, 2) := by decide +kernel
theorem dX11_nearest_26 : decode cX11_nearest 26 = .ok (.iload 4, 2) := by decide +kernel
theorem dX11_nearest_28 : decode cX11_nearest 28 = .ok (.sipush 256, 3) := by decide +kernel
theorem dX11_nearest_31 : decode cX11_nearest 31 = .ok (.if_icmp .ge 62, 3) := by decide +kernel
theorem dX11_nearest_34 : decode cX11_nearest 34 = .ok (.iload_n 3, 1) := by decide +kernel
theorem dX11_nearest_35 : decode cX11_nearest 35 = .ok (.ifCond .lt 23, 3) := by decide +kernel
theorem dX11_nearest_38 : decode cX11_nearest 38 = .ok (.iload 4, 2) := by decide +kernel
theorem dX11_nearest_40 : decode cX11_nearest 40 = .ok (.iload_n 2, 1) := by decide +kernel
theorem dX11_nearest_41 : decode cX11_nearest 41 = .ok (.iconst (-1), 1) := by decide +kernel
theorem dX11_nearest_42 : decode cX11_nearest 42 = .ok (.ixor, 1) := by decide +kernel
theorem dX11_nearest_43 : decode cX11_nearest 43 = .ok (.iand, 1) := by decide +kernel
theorem dX11_nearest_44 : decode cX11_nearest 44 = .ok (.invokestatic 60, 3) := by decide +kernel
theorem dX11_nearest_47 : decode cX11_nearest 47 = .ok (.iload_n 3, 1) := by decide +kernel
theorem dX11_nearest_48 : decode cX11_nearest 48 = .ok (.iload_n 2, 1) := by decide +kernel
theorem dX11_nearest_49 : decode cX11_nearest 49 = .ok (.iconst (-1), 1) := by decide +kernel
theorem dX11_nearest_50 : decode cX11_nearest 50 = .ok (.ixor, 1) := by decide +kernel
theorem dX11_nearest_51 : decode cX11_nearest 51 = .ok (.iand, 1) := by decide +kernel
theorem dX11_nearest_52 : decode cX11_nearest 52 = .ok (.invokestatic 60, 3) := by decide +kernel
theorem dX11_nearest_55 : decode cX11_nearest 55 = .ok (.if_icmp .ge 7, 3) := by decide +kernel
theorem dX11_nearest_58 : decode cX11_nearest 58 = .ok (.iconst 1, 1) := by decide +kernel
theorem dX11_nearest_59 : decode cX11_nearest 59 = .ok (.goto 4, 3) := by decide +kernel
theorem dX11_nearest_62 : decode cX11_nearest 62 = .ok (.iconst 0, 1) := by decide +kernel
theorem dX11_nearest_63 : decode cX11_nearest 63 = .ok (.istore 5, 2) := by decide +kernel
theorem dX11_nearest_65 : decode cX11_nearest 65 = .ok (.iload 5, 2) := by decide +kernel
theorem dX11_nearest_67 : decode cX11_nearest 67 = .ok (.ifCond .eq 18, 3) := by decide +kernel
theorem dX11_nearest_70 : decode cX11_nearest 70 = .ok (.aload_n 0, 1) := by decide +kernel
theorem dX11_nearest_71 : decode cX11_nearest 71 = .ok (.iload_n 1, 1) := by decide +kernel
theorem dX11_nearest_72 : decode cX11_nearest 72 = .ok (.iload 4, 2) := by decide +kernel
theorem dX11_nearest_74 : decode cX11_nearest 74 = .ok (.invokevirtual 167, 3) := by decide +kernel
theorem dX11_nearest_77 : decode cX11_nearest 77 = .ok (.ifCond .eq 8, 3) := by decide +kernel
theorem dX11_nearest_80 : decode cX11_nearest 80 = .ok (.iload 4, 2) := by decide +kernel
theorem dX11_nearest_82 : decode cX11_nearest 82 = .ok (.goto 4, 3) := by decide +kernel
theorem dX11_nearest_85 : decode cX11_nearest 85 = .ok (.iload_n 3, 1) := by decide +kernel
theorem dX11_nearest_86 : decode cX11_nearest 86 = .ok (.istore_n 3, 1) := by decide +kernel
theorem dX11_nearest_87 : decode cX11_nearest 87 = .ok (.iinc 4 1, 3) := by decide +kernel
theorem dX11_nearest_90 : decode cX11_nearest 90 = .ok (.goto (-64), 3) := by decide +kernel
theorem dX11_nearest_93 : decode cX11_nearest 93 = .ok (.iload_n 3, 1) := by decide +kernel
theorem dX11_nearest_94 : decode cX11_nearest 94 = .ok (.ireturn, 1) := by decide +kernel
set_option maxRecDepth 20000 in
theorem ggX11_more_X11_isWay : GoodIn wsX11_more wsX11_isWay := goodIn_r _ [6, 7, 8, 5, 9] (by decide +kernel) (by decide +kernel)
set_option maxRecDepth 20000 in
theorem gX11_more_X11_isWay : GoodIn wsX11_more (va_wsS RX11 129 yX11_isWay wsX11_isWay) := goodIn_app (goodIn_of _ (by decide +kernel)) ggX11_more_X11_isWay
set_option maxRecDepth 20000 in
theorem ggX11_more_X11_in : GoodIn wsX11_more wsX11_in := goodIn_r _ [9] (by decide +kernel) (by decide +kernel)
set_option maxRecDepth 20000 in
theorem gX11_more_X11_in : GoodIn wsX11_more (va_wsS RX11 42 yX11_in wsX11_in) := goodIn_app (goodIn_of _ (by decide +kernel)) ggX11_more_X11_in
set_option maxRecDepth 20000 in
theorem ggX11_more_X11_layWay : GoodIn wsX11_more wsX11_layWay := goodIn_r _ [13, 2, 14, 15, 16, 1, 17, 18, 19, 5, 20, 21, 22, 23, 24, 25, 26, 27, 28, 29, 30, 31, 32, 33, 34, 35, 36, 37, 38, 39, 40, 41, 42, 43, 44, 45, 46, 47, 48, 49, 50, 51, 52, 53, 54, 55, 56, 57, 58, 59, 60, 61, 62, 63, 64, 65, 66, 67, 68, 69, 70, 71, 72, 73, 74, 75, 76, 77, 78, 79, 80, 7, 8, 9, 81, 82, 83, 84, 85, 86, 87, 88, 89, 90, 91, 92, 93, 94, 95, 96, 97, 98, 99, 100, 101] (by decide +kernel) (by decide +kernel)
set_option maxRecDepth 20000 in
theorem gX11_more_X11_layWay : GoodIn wsX11_more (wsV RX11 132 RX11 yX11_layWay wsX11_layWay) := goodIn_app (goodIn_of _ (by decide +kernel)) ggX11_more_X11_layWay
theorem dX11_more_0 : decode cX11_more 0 = .ok (.iload_n 1, 1) := by decide +kernel
theorem dX11_more_1 : decode cX11_more 1 = .ok (.invokestatic 129, 3) := by decide +kernel
theorem dX11_more_4 : decode cX11_more 4 = .ok (.ifCond .ne 5, 3) := by decide +kernel
theorem dX11_more_7 : decode cX11_more 7 = .ok (.iconst (-1), 1) := by decide +kernel
theorem dX11_more_8 : decode cX11_more 8 = .ok (.ireturn, 1) := by decide +kernel
theorem dX11_more_9 : decode cX11_more 9 = .ok (.iload_n 2, 1) := by decide +kernel
theorem dX11_more_10 : decode cX11_more 10 = .ok (.iconst 0, 1) := by decide +kernel
theorem dX11_more_11 : decode cX11_more 11 = .ok (.iconst 1, 1) := by decide +kernel
theorem dX11_more_12 : decode cX11_more 12 = .ok (.invokestatic 42, 3) := by decide +kernel
theorem dX11_more_15 : decode cX11_more 15 = .ok (.ifCond .ne 6, 3) := by decide +kernel
theorem dX11_more_18 : decode cX11_more 18 = .ok (.bipush (-2), 2) := by decide +kernel
theorem dX11_more_20 : decode cX11_more 20 = .ok (.ireturn, 1) := by decide +kernel
theorem dX11_more_21 : decode cX11_more 21 = .ok (.aload_n 0, 1) := by decide +kernel
theorem dX11_more_22 : decode cX11_more 22 = .ok (.getfield 16, 3) := by decide +kernel
theorem dX11_more_25 : decode cX11_more 25 = .ok (.iconst 4, 1) := by decide +kernel
theorem dX11_more_26 : decode cX11_more 26 = .ok (.if_icmp .ne 6, 3) := by decide +kernel
theorem dX11_more_29 : decode cX11_more 29 = .ok (.bipush (-3), 2) := by decide +kernel
theorem dX11_more_31 : decode cX11_more 31 = .ok (.ireturn, 1) := by decide +kernel
theorem dX11_more_32 : decode cX11_more 32 = .ok (.aload_n 0, 1) := by decide +kernel
theorem dX11_more_33 : decode cX11_more 33 = .ok (.iload_n 1, 1) := by decide +kernel
theorem dX11_more_34 : decode cX11_more 34 = .ok (.invokevirtual 132, 3) := by decide +kernel
theorem dX11_more_37 : decode cX11_more 37 = .ok (.aload_n 0, 1) := by decide +kernel
theorem dX11_more_38 : decode cX11_more 38 = .ok (.getfield 76, 3) := by decide +kernel
theorem dX11_more_41 : decode cX11_more 41 = .ok (.istore_n 3, 1) := by decide +kernel
theorem dX11_more_42 : decode cX11_more 42 = .ok (.aload_n 0, 1) := by decide +kernel
theorem dX11_more_43 : decode cX11_more 43 = .ok (.dup, 1) := by decide +kernel
theorem dX11_more_44 : decode cX11_more 44 = .ok (.getfield 16, 3) := by decide +kernel
theorem dX11_more_47 : decode cX11_more 47 = .ok (.iconst 1, 1) := by decide +kernel
theorem dX11_more_48 : decode cX11_more 48 = .ok (.iadd, 1) := by decide +kernel
theorem dX11_more_49 : decode cX11_more 49 = .ok (.putfield 16, 3) := by decide +kernel
theorem dX11_more_52 : decode cX11_more 52 = .ok (.aload_n 0, 1) := by decide +kernel
theorem dX11_more_53 : decode cX11_more 53 = .ok (.iload_n 1, 1) := by decide +kernel
theorem dX11_more_54 : decode cX11_more 54 = .ok (.invokevirtual 132, 3) := by decide +kernel
theorem dX11_more_57 : decode cX11_more 57 = .ok (.aload_n 0, 1) := by decide +kernel
theorem dX11_more_58 : decode cX11_more 58 = .ok (.dup, 1) := by decide +kernel
theorem dX11_more_59 : decode cX11_more 59 = .ok (.getfield 16, 3) := by decide +kernel
theorem dX11_more_62 : decode cX11_more 62 = .ok (.iconst 1, 1) := by decide +kernel
theorem dX11_more_63 : decode cX11_more 63 = .ok (.isub, 1) := by decide +kernel
theorem dX11_more_64 : decode cX11_more 64 = .ok (.putfield 16, 3) := by decide +kernel
theorem dX11_more_67 : decode cX11_more 67 = .ok (.iload_n 2, 1) := by decide +kernel
theorem dX11_more_68 : decode cX11_more 68 = .ok (.ifCond .ne 14, 3) := by decide +kernel
theorem dX11_more_71 : decode cX11_more 71 = .ok (.aload_n 0, 1) := by decide +kernel
theorem dX11_more_72 : decode cX11_more 72 = .ok (.getfield 76, 3) := by decide +kernel
theorem dX11_more_75 : decode cX11_more 75 = .ok (.iload_n 3, 1) := by decide +kernel
theorem dX11_more_76 : decode cX11_more 76 = .ok (.iconst (-1), 1) := by decide +kernel
theorem dX11_more_77 : decode cX11_more 77 = .ok (.ixor, 1) := by decide +kernel
theorem dX11_more_78 : decode cX11_more 78 = .ok (.iand, 1) := by decide +kernel
theorem dX11_more_79 : decode cX11_more 79 = .ok (.goto 11, 3) := by decide +kernel
theorem dX11_more_82 : decode cX11_more 82 = .ok (.iload_n 3, 1) := by decide +kernel
theorem dX11_more_83 : decode cX11_more 83 = .ok (.aload_n 0, 1) := by decide +kernel
theorem dX11_more_84 : decode cX11_more 84 = .ok (.getfield 76, 3) := by decide +kernel
theorem dX11_more_87 : decode cX11_more 87 = .ok (.iconst (-1), 1) := by decide +kernel
theorem dX11_more_88 : decode cX11_more 88 = .ok (.ixor, 1) := by decide +kernel
theorem dX11_more_89 : decode cX11_more 89 = .ok (.iand, 1) := by decide +kernel
theorem dX11_more_90 : decode cX11_more 90 = .ok (.ireturn, 1) := by decide +kernel
set_option maxRecDepth 20000 in
theorem ggX11_turn_X11_isWay : GoodIn wsX11_turn wsX11_isWay := goodIn_r _ [7, 8, 9, 6, 10] (by decide +kernel) (by decide +kernel)
set_option maxRecDepth 20000 in
theorem gX11_turn_X11_isWay : GoodIn wsX11_turn (va_wsS RX11 129 yX11_isWay wsX11_isWay) := goodIn_app (goodIn_of _ (by decide +kernel)) ggX11_turn_X11_isWay
set_option maxRecDepth 20000 in
theorem ggX11_turn_X11_isHeap : GoodIn wsX11_turn wsX11_isHeap := goodIn_r _ [14, 2, 8, 9, 6, 10, 89, 90, 91, 92, 93, 94, 95, 96, 97, 98, 99, 100, 101, 102, 103, 104, 105] (by decide +kernel) (by decide +kernel)
set_option maxRecDepth 20000 in
theorem gX11_turn_X11_isHeap : GoodIn wsX11_turn (wsV RX11 46 RX11 yX11_isHeap wsX11_isHeap) := goodIn_app (goodIn_of _ (by decide +kernel)) ggX11_turn_X11_isHeap
set_option maxRecDepth 20000 in
theorem ggX11_turn_X11_in : GoodIn wsX11_turn wsX11_in := goodIn_r _ [10] (by decide +kernel) (by decide +kernel)
set_option maxRecDepth 20000 in
theorem gX11_turn_X11_in : GoodIn wsX11_turn (va_wsS RX11 42 yX11_in wsX11_in) := goodIn_app (goodIn_of _ (by decide +kernel)) ggX11_turn_X11_in
set_option maxRecDepth 20000 in
theorem ggX11_turn_X11_layWay : GoodIn wsX11_turn wsX11_layWay := goodIn_r _ [18, 19, 20, 21, 22, 23, 24, 25, 26, 6, 27, 28, 29, 30, 31, 32, 33, 34, 35, 2, 3, 1, 36, 37, 38, 39, 40, 41, 42, 43, 44, 45, 46, 47, 48, 49, 50, 51, 52, 53, 54, 55, 56, 57, 58, 59, 60, 61, 62, 63, 64, 65, 66, 67, 68, 69, 70, 71, 72, 73, 74, 75, 76, 77, 78, 79, 80, 81, 82, 83, 84, 8, 9, 10, 85, 86, 87, 88, 89, 90, 91, 92, 93, 94, 95, 96, 97, 98, 99, 100, 101, 102, 103, 104, 105] (by decide +kernel) (by decide +kernel)
set_option maxRecDepth 20000 in
theorem gX11_turn_X11_layWay : GoodIn wsX11_turn (wsV RX11 132 RX11 yX11_layWay wsX11_layWay) := goodIn_app (goodIn_of _ (by decide +kernel)) ggX11_turn_X11_layWay
set_option maxRecDepth 20000 in
theorem ggX11_turn_X11_isLeft : GoodIn wsX11_turn wsX11_isLeft := goodIn_r _ [31, 19, 89, 90, 91, 92, 93, 94, 95, 96, 97, 98, 99, 100, 101, 102, 103, 104, 105] (by decide +kernel) (by decide +kernel)
set_option maxRecDepth 20000 in
theorem gX11_turn_X11_isLeft : GoodIn wsX11_turn (wsV RX11 79 RX11 yX11_isLeft wsX11_isLeft) := goodIn_app (goodIn_of _ (by decide +kernel)) ggX11_turn_X11_isLeft
theorem dX11_turn_0 : decode cX11_turn 0 = .ok (.iload_n 1, 1) := by decide +kernel
theorem dX11_turn_1 : decode cX11_turn 1 = .ok (.invokestatic 129, 3) := by decide +kernel
theorem dX11_turn_4 : decode cX11_turn 4 = .ok (.ifCond .eq 21, 3) := by decide +kernel
theorem dX11_turn_7 : decode cX11_turn 7 = .ok (.aload_n 0, 1) := by decide +kernel
theorem dX11_turn_8 : decode cX11_turn 8 = .ok (.iload_n 2, 1) := by decide +kernel
theorem dX11_turn_9 : decode cX11_turn 9 = .ok (.invokevirtual 46, 3) := by decide +kernel
theorem dX11_turn_12 : decode cX11_turn 12 = .ok (.ifCond .eq 13, 3) := by decide +kernel
theorem dX11_turn_15 : decode cX11_turn 15 = .ok (.iload_n 3, 1) := by decide +kernel
theorem dX11_turn_16 : decode cX11_turn 16 = .ok (.iconst 0, 1) := by decide +kernel
theorem dX11_turn_17 : decode cX11_turn 17 = .ok (.bipush 7, 2) := by decide +kernel
theorem dX11_turn_19 : decode cX11_turn 19 = .ok (.invokestatic 42, 3) := by decide +kernel
theorem dX11_turn_22 : decode cX11_turn 22 = .ok (.ifCond .ne 5, 3) := by decide +kernel
theorem dX11_turn_25 : decode cX11_turn 25 = .ok (.iconst (-1), 1) := by decide +kernel
theorem dX11_turn_26 : decode cX11_turn 26 = .ok (.ireturn, 1) := by decide +kernel
theorem dX11_turn_27 : decode cX11_turn 27 = .ok (.aload_n 0, 1) := by decide +kernel
theorem dX11_turn_28 : decode cX11_turn 28 = .ok (.getfield 13, 3) := by decide +kernel
theorem dX11_turn_31 : decode cX11_turn 31 = .ok (.iload_n 2, 1) := by decide +kernel
theorem dX11_turn_32 : decode cX11_turn 32 = .ok (.iaload, 1) := by decide +kernel
theorem dX11_turn_33 : decode cX11_turn 33 = .ok (.istore 4, 2) := by decide +kernel
theorem dX11_turn_35 : decode cX11_turn 35 = .ok (.bipush (-6), 2) := by decide +kernel
theorem dX11_turn_37 : decode cX11_turn 37 = .ok (.istore 5, 2) := by decide +kernel
theorem dX11_turn_39 : decode cX11_turn 39 = .ok (.aload_n 0, 1) := by decide +kernel
theorem dX11_turn_40 : decode cX11_turn 40 = .ok (.iload_n 1, 1) := by decide +kernel
theorem dX11_turn_41 : decode cX11_turn 41 = .ok (.invokevirtual 132, 3) := by decide +kernel
theorem dX11_turn_44 : decode cX11_turn 44 = .ok (.aload_n 0, 1) := by decide +kernel
theorem dX11_turn_45 : decode cX11_turn 45 = .ok (.iload_n 3, 1) := by decide +kernel
theorem dX11_turn_46 : decode cX11_turn 46 = .ok (.invokevirtual 79, 3) := by decide +kernel
theorem dX11_turn_49 : decode cX11_turn 49 = .ok (.ifCond .eq 8, 3) := by decide +kernel
theorem dX11_turn_52 : decode cX11_turn 52 = .ok (.bipush (-6), 2) := by decide +kernel
theorem dX11_turn_54 : decode cX11_turn 54 = .ok (.goto 4, 3) := by decide +kernel
theorem dX11_turn_57 : decode cX11_turn 57 = .ok (.iconst 0, 1) := by decide +kernel
theorem dX11_turn_58 : decode cX11_turn 58 = .ok (.istore 5, 2) := by decide +kernel
theorem dX11_turn_60 : decode cX11_turn 60 = .ok (.aload_n 0, 1) := by decide +kernel
theorem dX11_turn_61 : decode cX11_turn 61 = .ok (.dup, 1) := by decide +kernel
theorem dX11_turn_62 : decode cX11_turn 62 = .ok (.getfield 39, 3) := by decide +kernel
theorem dX11_turn_65 : decode cX11_turn 65 = .ok (.iconst 1, 1) := by decide +kernel
theorem dX11_turn_66 : decode cX11_turn 66 = .ok (.iadd, 1) := by decide +kernel
theorem dX11_turn_67 : decode cX11_turn 67 = .ok (.putfield 39, 3) := by decide +kernel
theorem dX11_turn_70 : decode cX11_turn 70 = .ok (.iconst 1, 1) := by decide +kernel
theorem dX11_turn_71 : decode cX11_turn 71 = .ok (.istore 6, 2) := by decide +kernel
theorem dX11_turn_73 : decode cX11_turn 73 = .ok (.iload 6, 2) := by decide +kernel
theorem dX11_turn_75 : decode cX11_turn 75 = .ok (.iload 4, 2) := by decide +kernel
theorem dX11_turn_77 : decode cX11_turn 77 = .ok (.if_icmp .gt 74, 3) := by decide +kernel
theorem dX11_turn_80 : decode cX11_turn 80 = .ok (.iload 5, 2) := by decide +kernel
theorem dX11_turn_82 : decode cX11_turn 82 = .ok (.ifCond .ge 69, 3) := by decide +kernel
theorem dX11_turn_85 : decode cX11_turn 85 = .ok (.aload_n 0, 1) := by decide +kernel
theorem dX11_turn_86 : decode cX11_turn 86 = .ok (.getfield 13, 3) := by decide +kernel
theorem dX11_turn_89 : decode cX11_turn 89 = .ok (.iload_n 2, 1) := by decide +kernel
theorem dX11_turn_90 : decode cX11_turn 90 = .ok (.iload 4, 2) := by decide +kernel
theorem dX11_turn_92 : decode cX11_turn 92 = .ok (.iload 6, 2) := by decide +kernel
theorem dX11_turn_94 : decode cX11_turn 94 = .ok (.isub, 1) := by decide +kernel
theorem dX11_turn_95 : decode cX11_turn 95 = .ok (.iastore, 1) := by decide +kernel
theorem dX11_turn_96 : decode cX11_turn 96 = .ok (.aload_n 0, 1) := by decide +kernel
theorem dX11_turn_97 : decode cX11_turn 97 = .ok (.getfield 7, 3) := by decide +kernel
theorem dX11_turn_100 : decode cX11_turn 100 = .ok (.aload_n 0, 1) := by decide +kernel
theorem dX11_turn_101 : decode cX11_turn 101 = .ok (.getfield 39, 3) := by decide +kernel
theorem dX11_turn_104 : decode cX11_turn 104 = .ok (.iconst 1, 1) := by decide +kernel
theorem dX11_turn_105 : decode cX11_turn 105 = .ok (.isub, 1) := by decide +kernel
theorem dX11_turn_106 : decode cX11_turn 106 = .ok (.iconst 1, 1) := by decide +kernel
theorem dX11_turn_107 : decode cX11_turn 107 = .ok (.iload_n 3, 1) := by decide +kernel
theorem dX11_turn_108 : decode cX11_turn 108 = .ok (.ishl, 1) := by decide +kernel
theorem dX11_turn_109 : decode cX11_turn 109 = .ok (.iastore, 1) := by decide +kernel
theorem dX11_turn_110 : decode cX11_turn 110 = .ok (.aload_n 0, 1) := by decide +kernel
theorem dX11_turn_111 : decode cX11_turn 111 = .ok (.getfield 13, 3) := by decide +kernel
theorem dX11_turn_114 : decode cX11_turn 114 = .ok (.aload_n 0, 1) := by decide +kernel
theorem dX11_turn_115 : decode cX11_turn 115 = .ok (.getfield 39, 3) := by decide +kernel
theorem dX11_turn_118 : decode cX11_turn 118 = .ok (.iconst 1, 1) := by decide +kernel
theorem dX11_turn_119 : decode cX11_turn 119 = .ok (.isub, 1) := by decide +kernel
theorem dX11_turn_120 : decode cX11_turn 120 = .ok (.iload 6, 2) := by decide +kernel
theorem dX11_turn_122 : decode cX11_turn 122 = .ok (.iastore, 1) := by decide +kernel
theorem dX11_turn_123 : decode cX11_turn 123 = .ok (.aload_n 0, 1) := by decide +kernel
theorem dX11_turn_124 : decode cX11_turn 124 = .ok (.iload_n 1, 1) := by decide +kernel
theorem dX11_turn_125 : decode cX11_turn 125 = .ok (.invokevirtual 132, 3) := by decide +kernel
theorem dX11_turn_128 : decode cX11_turn 128 = .ok (.aload_n 0, 1) := by decide +kernel
theorem dX11_turn_129 : decode cX11_turn 129 = .ok (.iload_n 3, 1) := by decide +kernel
theorem dX11_turn_130 : decode cX11_turn 130 = .ok (.invokevirtual 79, 3) := by decide +kernel
theorem dX11_turn_133 : decode cX11_turn 133 = .ok (.ifCond .eq 8, 3) := by decide +kernel
theorem dX11_turn_136 : decode cX11_turn 136 = .ok (.bipush (-6), 2) := by decide +kernel
theorem dX11_turn_138 : decode cX11_turn 138 = .ok (.goto 5, 3) := by decide +kernel
theorem dX11_turn_141 : decode cX11_turn 141 = .ok (.iload 6, 2) := by decide +kernel
theorem dX11_turn_143 : decode cX11_turn 143 = .ok (.istore 5, 2) := by decide +kernel
theorem dX11_turn_145 : decode cX11_turn 145 = .ok (.iinc 6 1, 3) := by decide +kernel
theorem dX11_turn_148 : decode cX11_turn 148 = .ok (.goto (-75), 3) := by decide +kernel
theorem dX11_turn_151 : decode cX11_turn 151 = .ok (.aload_n 0, 1) := by decide +kernel
theorem dX11_turn_152 : decode cX11_turn 152 = .ok (.dup, 1) := by decide +kernel
theorem dX11_turn_153 : decode cX11_turn 153 = .ok (.getfield 39, 3) := by decide +kernel
theorem dX11_turn_156 : decode cX11_turn 156 = .ok (.iconst 1, 1) := by decide +kernel
theorem dX11_turn_157 : decode cX11_turn 157 = .ok (.isub, 1) := by decide +kernel
theorem dX11_turn_158 : decode cX11_turn 158 = .ok (.putfield 39, 3) := by decide +kernel
theorem dX11_turn_161 : decode cX11_turn 161 = .ok (.aload_n 0, 1) := by decide +kernel
theorem dX11_turn_162 : decode cX11_turn 162 = .ok (.getfield 13, 3) := by decide +kernel
theorem dX11_turn_165 : decode cX11_turn 165 = .ok (.iload_n 2, 1) := by decide +kernel
theorem dX11_turn_166 : decode cX11_turn 166 = .ok (.iload 4, 2) := by decide +kernel
theorem dX11_turn_168 : decode cX11_turn 168 = .ok (.iastore, 1) := by decide +kernel
theorem dX11_turn_169 : decode cX11_turn 169 = .ok (.iload 5, 2) := by decide +kernel
theorem dX11_turn_171 : decode cX11_turn 171 = .ok (.ireturn, 1) := by decide +kernel
set_option maxRecDepth 20000 in
theorem ggX11_told_X11_in : GoodIn wsX11_told wsX11_in := goodIn_r _ [12] (by decide +kernel) (by decide +kernel)
set_option maxRecDepth 20000 in
theorem gX11_told_X11_in : GoodIn wsX11_told (va_wsS RX11 42 yX11_in wsX11_in) := goodIn_app (goodIn_of _ (by decide +kernel)) ggX11_told_X11_in
set_option maxRecDepth 20000 in
theorem ggX11_told_X11_isHeap : GoodIn wsX11_told wsX11_isHeap := goodIn_r _ [16, 6, 9, 10, 11, 12, 21, 22, 23, 24, 25, 26, 27, 28, 29, 30, 31, 32, 33, 34, 35, 36, 37] (by decide +kernel) (by decide +kernel)
set_option maxRecDepth 20000 in
theorem gX11_told_X11_isHeap : GoodIn wsX11_told (wsV RX11 46 RX11 yX11_isHeap wsX11_isHeap) := goodIn_app (goodIn_of _ (by decide +kernel)) ggX11_told_X11_isHeap
set_option maxRecDepth 20000 in
theorem ggX11_told_X11_allPapers : GoodIn wsX11_told wsX11_allPapers := goodIn_r _ [20, 6, 4, 21, 22, 23, 24, 25, 26, 27, 28, 29, 30, 31, 32, 33, 34, 35, 36, 37] (by decide +kernel) (by decide +kernel)
set_option maxRecDepth 20000 in
theorem gX11_told_X11_allPapers : GoodIn wsX11_told (wsV RX11 96 RX11 yX11_allPapers wsX11_allPapers) := goodIn_app (goodIn_of _ (by decide +kernel)) ggX11_told_X11_allPapers
theorem dX11_told_0 : decode cX11_told 0 = .ok (.aload_n 0, 1) := by decide +kernel
theorem dX11_told_1 : decode cX11_told 1 = .ok (.getfield 57, 3) := by decide +kernel
theorem dX11_told_4 : decode cX11_told 4 = .ok (.ifCond .le 7, 3) := by decide +kernel
theorem dX11_told_7 : decode cX11_told 7 = .ok (.iconst 1, 1) := by decide +kernel
theorem dX11_told_8 : decode cX11_told 8 = .ok (.goto 4, 3) := by decide +kernel
theorem dX11_told_11 : decode cX11_told 11 = .ok (.iconst 0, 1) := by decide +kernel
theorem dX11_told_12 : decode cX11_told 12 = .ok (.istore_n 2, 1) := by decide +kernel
theorem dX11_told_13 : decode cX11_told 13 = .ok (.iconst 0, 1) := by decide +kernel
theorem dX11_told_14 : decode cX11_told 14 = .ok (.istore_n 3, 1) := by decide +kernel
theorem dX11_told_15 : decode cX11_told 15 = .ok (.iload_n 3, 1) := by decide +kernel
theorem dX11_told_16 : decode cX11_told 16 = .ok (.aload_n 0, 1) := by decide +kernel
theorem dX11_told_17 : decode cX11_told 17 = .ok (.getfield 57, 3) := by decide +kernel
theorem dX11_told_20 : decode cX11_told 20 = .ok (.if_icmp .ge 28, 3) := by decide +kernel
theorem dX11_told_23 : decode cX11_told 23 = .ok (.iload_n 2, 1) := by decide +kernel
theorem dX11_told_24 : decode cX11_told 24 = .ok (.aload_n 0, 1) := by decide +kernel
theorem dX11_told_25 : decode cX11_told 25 = .ok (.getfield 26, 3) := by decide +kernel
theorem dX11_told_28 : decode cX11_told 28 = .ok (.iload_n 3, 1) := by decide +kernel
theorem dX11_told_29 : decode cX11_told 29 = .ok (.iaload, 1) := by decide +kernel
theorem dX11_told_30 : decode cX11_told 30 = .ok (.bipush 59, 2) := by decide +kernel
theorem dX11_told_32 : decode cX11_told 32 = .ok (.if_icmp .ne 7, 3) := by decide +kernel
theorem dX11_told_35 : decode cX11_told 35 = .ok (.iconst 1, 1) := by decide +kernel
theorem dX11_told_36 : decode cX11_told 36 = .ok (.goto 4, 3) := by decide +kernel
theorem dX11_told_39 : decode cX11_told 39 = .ok (.iconst 0, 1) := by decide +kernel
theorem dX11_told_40 : decode cX11_told 40 = .ok (.iadd, 1) := by decide +kernel
theorem dX11_told_41 : decode cX11_told 41 = .ok (.istore_n 2, 1) := by decide +kernel
theorem dX11_told_42 : decode cX11_told 42 = .ok (.iinc 3 1, 3) := by decide +kernel
theorem dX11_told_45 : decode cX11_told 45 = .ok (.goto (-30), 3) := by decide +kernel
theorem dX11_told_48 : decode cX11_told 48 = .ok (.iload_n 1, 1) := by decide +kernel
theorem dX11_told_49 : decode cX11_told 49 = .ok (.bipush 10, 2) := by decide +kernel
theorem dX11_told_51 : decode cX11_told 51 = .ok (.bipush 13, 2) := by decide +kernel
theorem dX11_told_53 : decode cX11_told 53 = .ok (.invokestatic 42, 3) := by decide +kernel
theorem dX11_told_56 : decode cX11_told 56 = .ok (.ifCond .eq 13, 3) := by decide +kernel
theorem dX11_told_59 : decode cX11_told 59 = .ok (.aload_n 0, 1) := by decide +kernel
theorem dX11_told_60 : decode cX11_told 60 = .ok (.getfield 20, 3) := by decide +kernel
theorem dX11_told_63 : decode cX11_told 63 = .ok (.iload_n 1, 1) := by decide +kernel
theorem dX11_told_64 : decode cX11_told 64 = .ok (.bipush 10, 2) := by decide +kernel
theorem dX11_told_66 : decode cX11_told 66 = .ok (.isub, 1) := by decide +kernel
theorem dX11_told_67 : decode cX11_told 67 = .ok (.iaload, 1) := by decide +kernel
theorem dX11_told_68 : decode cX11_told 68 = .ok (.ireturn, 1) := by decide +kernel
theorem dX11_told_69 : decode cX11_told 69 = .ok (.iload_n 1, 1) := by decide +kernel
theorem dX11_told_70 : decode cX11_told 70 = .ok (.bipush 20, 2) := by decide +kernel
theorem dX11_told_72 : decode cX11_told 72 = .ok (.bipush 25, 2) := by decide +kernel
theorem dX11_told_74 : decode cX11_told 74 = .ok (.invokestatic 42, 3) := by decide +kernel
theorem dX11_told_77 : decode cX11_told 77 = .ok (.ifCond .eq 29, 3) := by decide +kernel
theorem dX11_told_80 : decode cX11_told 80 = .ok (.aload_n 0, 1) := by decide +kernel
theorem dX11_told_81 : decode cX11_told 81 = .ok (.iload_n 1, 1) := by decide +kernel
theorem dX11_told_82 : decode cX11_told 82 = .ok (.bipush 20, 2) := by decide +kernel
theorem dX11_told_84 : decode cX11_told 84 = .ok (.isub, 1) := by decide +kernel
theorem dX11_told_85 : decode cX11_told 85 = .ok (.invokevirtual 46, 3) := by decide +kernel
theorem dX11_told_88 : decode cX11_told 88 = .ok (.ifCond .eq 15, 3) := by decide +kernel
theorem dX11_told_91 : decode cX11_told 91 = .ok (.aload_n 0, 1) := by decide +kernel
theorem dX11_told_92 : decode cX11_told 92 = .ok (.getfield 13, 3) := by decide +kernel
theorem dX11_told_95 : decode cX11_told 95 = .ok (.iload_n 1, 1) := by decide +kernel
theorem dX11_told_96 : decode cX11_told 96 = .ok (.bipush 20, 2) := by decide +kernel
theorem dX11_told_98 : decode cX11_told 98 = .ok (.isub, 1) := by decide +kernel
theorem dX11_told_99 : decode cX11_told 99 = .ok (.iaload, 1) := by decide +kernel
theorem dX11_told_100 : decode cX11_told 100 = .ok (.goto 5, 3) := by decide +kernel
theorem dX11_told_103 : decode cX11_told 103 = .ok (.bipush (-6), 2) := by decide +kernel
theorem dX11_told_105 : decode cX11_told 105 = .ok (.ireturn, 1) := by decide +kernel
theorem dX11_told_106 : decode cX11_told 106 = .ok (.iload_n 1, 1) := by decide +kernel
theorem dX11_told_107 : decode cX11_told 107 = .ok (.bipush 30, 2) := by decide +kernel
theorem dX11_told_109 : decode cX11_told 109 = .ok (.bipush 35, 2) := by decide +kernel
theorem dX11_told_111 : decode cX11_told 111 = .ok (.invokestatic 42, 3) := by decide +kernel
theorem dX11_told_114 : decode cX11_told 114 = .ok (.ifCond .eq 29, 3) := by decide +kernel
theorem dX11_told_117 : decode cX11_told 117 = .ok (.aload_n 0, 1) := by decide +kernel
theorem dX11_told_118 : decode cX11_told 118 = .ok (.iload_n 1, 1) := by decide +kernel
theorem dX11_told_119 : decode cX11_told 119 = .ok (.bipush 30, 2) := by decide +kernel
theorem dX11_told_121 : decode cX11_told 121 = .ok (.isub, 1) := by decide +kernel
theorem dX11_told_122 : decode cX11_told 122 = .ok (.invokevirtual 46, 3) := by decide +kernel
theorem dX11_told_125 : decode cX11_told 125 = .ok (.ifCond .eq 15, 3) := by decide +kernel
theorem dX11_told_128 : decode cX11_told 128 = .ok (.aload_n 0, 1) := by decide +kernel
theorem dX11_told_129 : decode cX11_told 129 = .ok (.getfield 7, 3) := by decide +kernel
theorem dX11_told_132 : decode cX11_told 132 = .ok (.iload_n 1, 1) := by decide +kernel
theorem dX11_told_133 : decode cX11_told 133 = .ok (.bipush 30, 2) := by decide +kernel
theorem dX11_told_135 : decode cX11_told 135 = .ok (.isub, 1) := by decide +kernel
theorem dX11_told_136 : decode cX11_told 136 = .ok (.iaload, 1) := by decide +kernel
theorem dX11_told_137 : decode cX11_told 137 = .ok (.goto 5, 3) := by decide +kernel
theorem dX11_told_140 : decode cX11_told 140 = .ok (.bipush (-6), 2) := by decide +kernel
theorem dX11_told_142 : decode cX11_told 142 = .ok (.ireturn, 1) := by decide +kernel
theorem dX11_told_143 : decode cX11_told 143 = .ok (.iload_n 1, 1) := by decide +kernel
theorem dX11_told_144 : decode cX11_told 144 = .ok (.ifCond .ne 10, 3) := by decide +kernel
theorem dX11_told_147 : decode cX11_told 147 = .ok (.aload_n 0, 1) := by decide +kernel
theorem dX11_told_148 : decode cX11_told 148 = .ok (.getfield 39, 3) := by decide +kernel
theorem dX11_told_151 : decode cX11_told 151 = .ok (.goto 50, 3) := by decide +kernel
theorem dX11_told_154 : decode cX11_told 154 = .ok (.iload_n 1, 1) := by decide +kernel
theorem dX11_told_155 : decode cX11_told 155 = .ok (.iconst 1, 1) := by decide +kernel
theorem dX11_told_156 : decode cX11_told 156 = .ok (.if_icmp .ne 10, 3) := by decide +kernel
theorem dX11_told_159 : decode cX11_told 159 = .ok (.aload_n 0, 1) := by decide +kernel
theorem dX11_told_160 : decode cX11_told 160 = .ok (.invokevirtual 96, 3) := by decide +kernel
theorem dX11_told_163 : decode cX11_told 163 = .ok (.goto 38, 3) := by decide +kernel
theorem dX11_told_166 : decode cX11_told 166 = .ok (.iload_n 1, 1) := by decide +kernel
theorem dX11_told_167 : decode cX11_told 167 = .ok (.iconst 2, 1) := by decide +kernel
theorem dX11_told_168 : decode cX11_told 168 = .ok (.if_icmp .ne 10, 3) := by decide +kernel
theorem dX11_told_171 : decode cX11_told 171 = .ok (.aload_n 0, 1) := by decide +kernel
theorem dX11_told_172 : decode cX11_told 172 = .ok (.getfield 16, 3) := by decide +kernel
theorem dX11_told_175 : decode cX11_told 175 = .ok (.goto 26, 3) := by decide +kernel
theorem dX11_told_178 : decode cX11_told 178 = .ok (.iload_n 1, 1) := by decide +kernel
theorem dX11_told_179 : decode cX11_told 179 = .ok (.iconst 3, 1) := by decide +kernel
theorem dX11_told_180 : decode cX11_told 180 = .ok (.if_icmp .ne 10, 3) := by decide +kernel
theorem dX11_told_183 : decode cX11_told 183 = .ok (.aload_n 0, 1) := by decide +kernel
theorem dX11_told_184 : decode cX11_told 184 = .ok (.getfield 50, 3) := by decide +kernel
theorem dX11_told_187 : decode cX11_told 187 = .ok (.goto 14, 3) := by decide +kernel
theorem dX11_told_190 : decode cX11_told 190 = .ok (.iload_n 1, 1) := by decide +kernel
theorem dX11_told_191 : decode cX11_told 191 = .ok (.iconst 4, 1) := by decide +kernel
theorem dX11_told_192 : decode cX11_told 192 = .ok (.if_icmp .ne 7, 3) := by decide +kernel
theorem dX11_told_195 : decode cX11_told 195 = .ok (.iload_n 2, 1) := by decide +kernel
theorem dX11_told_196 : decode cX11_told 196 = .ok (.goto 5, 3) := by decide +kernel
theorem dX11_told_199 : decode cX11_told 199 = .ok (.bipush (-2), 2) := by decide +kernel
theorem dX11_told_201 : decode cX11_told 201 = .ok (.ireturn, 1) := by decide +kernel
theorem dJ6_bitCount_0f7a4_0 : decode cJ6_bitCount_0f7a4 0 = .ok (.iload_n 0, 1) := by decide +kernel
theorem dJ6_bitCount_0f7a4_1 : decode cJ6_bitCount_0f7a4 1 = .ok (.iload_n 0, 1) := by decide +kernel
theorem dJ6_bitCount_0f7a4_2 : decode cJ6_bitCount_0f7a4 2 = .ok (.iconst 1, 1) := by decide +kernel
theorem dJ6_bitCount_0f7a4_3 : decode cJ6_bitCount_0f7a4 3 = .ok (.iushr, 1) := by decide +kernel
theorem dJ6_bitCount_0f7a4_4 : decode cJ6_bitCount_0f7a4 4 = .ok (.ldc_w 265, 3) := by decide +kernel
theorem dJ6_bitCount_0f7a4_7 : decode cJ6_bitCount_0f7a4 7 = .ok (.iand, 1) := by decide +kernel
theorem dJ6_bitCount_0f7a4_8 : decode cJ6_bitCount_0f7a4 8 = .ok (.isub, 1) := by decide +kernel
theorem dJ6_bitCount_0f7a4_9 : decode cJ6_bitCount_0f7a4 9 = .ok (.istore_n 0, 1) := by decide +kernel
theorem dJ6_bitCount_0f7a4_10 : decode cJ6_bitCount_0f7a4 10 = .ok (.iload_n 0, 1) := by decide +kernel
theorem dJ6_bitCount_0f7a4_11 : decode cJ6_bitCount_0f7a4 11 = .ok (.ldc_w 266, 3) := by decide +kernel
theorem dJ6_bitCount_0f7a4_14 : decode cJ6_bitCount_0f7a4 14 = .ok (.iand, 1) := by decide +kernel
theorem dJ6_bitCount_0f7a4_15 : decode cJ6_bitCount_0f7a4 15 = .ok (.iload_n 0, 1) := by decide +kernel
theorem dJ6_bitCount_0f7a4_16 : decode cJ6_bitCount_0f7a4 16 = .ok (.iconst 2, 1) := by decide +kernel
theorem dJ6_bitCount_0f7a4_17 : decode cJ6_bitCount_0f7a4 17 = .ok (.iushr, 1) := by decide +kernel
theorem dJ6_bitCount_0f7a4_18 : decode cJ6_bitCount_0f7a4 18 = .ok (.ldc_w 266, 3) := by decide +kernel
theorem dJ6_bitCount_0f7a4_21 : decode cJ6_bitCount_0f7a4 21 = .ok (.iand, 1) := by decide +kernel
theorem dJ6_bitCount_0f7a4_22 : decode cJ6_bitCount_0f7a4 22 = .ok (.iadd, 1) := by decide +kernel
theorem dJ6_bitCount_0f7a4_23 : decode cJ6_bitCount_0f7a4 23 = .ok (.istore_n 0, 1) := by decide +kernel
theorem dJ6_bitCount_0f7a4_24 : decode cJ6_bitCount_0f7a4 24 = .ok (.iload_n 0, 1) := by decide +kernel
theorem dJ6_bitCount_0f7a4_25 : decode cJ6_bitCount_0f7a4 25 = .ok (.iload_n 0, 1) := by decide +kernel
theorem dJ6_bitCount_0f7a4_26 : decode cJ6_bitCount_0f7a4 26 = .ok (.iconst 4, 1) := by decide +kernel
theorem dJ6_bitCount_0f7a4_27 : decode cJ6_bitCount_0f7a4 27 = .ok (.iushr, 1) := by decide +kernel
theorem dJ6_bitCount_0f7a4_28 : decode cJ6_bitCount_0f7a4 28 = .ok (.iadd, 1) := by decide +kernel
theorem dJ6_bitCount_0f7a4_29 : decode cJ6_bitCount_0f7a4 29 = .ok (.ldc_w 267, 3) := by decide +kernel
theorem dJ6_bitCount_0f7a4_32 : decode cJ6_bitCount_0f7a4 32 = .ok (.iand, 1) := by decide +kernel
theorem dJ6_bitCount_0f7a4_33 : decode cJ6_bitCount_0f7a4 33 = .ok (.istore_n 0, 1) := by decide +kernel
theorem dJ6_bitCount_0f7a4_34 : decode cJ6_bitCount_0f7a4 34 = .ok (.iload_n 0, 1) := by decide +kernel
theorem dJ6_bitCount_0f7a4_35 : decode cJ6_bitCount_0f7a4 35 = .ok (.iload_n 0, 1) := by decide +kernel
theorem dJ6_bitCount_0f7a4_36 : decode cJ6_bitCount_0f7a4 36 = .ok (.bipush 8, 2) := by decide +kernel
theorem dJ6_bitCount_0f7a4_38 : decode cJ6_bitCount_0f7a4 38 = .ok (.iushr, 1) := by decide +kernel
theorem dJ6_bitCount_0f7a4_39 : decode cJ6_bitCount_0f7a4 39 = .ok (.iadd, 1) := by decide +kernel
theorem dJ6_bitCount_0f7a4_40 : decode cJ6_bitCount_0f7a4 40 = .ok (.istore_n 0, 1) := by decide +kernel
theorem dJ6_bitCount_0f7a4_41 : decode cJ6_bitCount_0f7a4 41 = .ok (.iload_n 0, 1) := by decide +kernel
theorem dJ6_bitCount_0f7a4_42 : decode cJ6_bitCount_0f7a4 42 = .ok (.iload_n 0, 1) := by decide +kernel
theorem dJ6_bitCount_0f7a4_43 : decode cJ6_bitCount_0f7a4 43 = .ok (.bipush 16, 2) := by decide +kernel
theorem dJ6_bitCount_0f7a4_45 : decode cJ6_bitCount_0f7a4 45 = .ok (.iushr, 1) := by decide +kernel
theorem dJ6_bitCount_0f7a4_46 : decode cJ6_bitCount_0f7a4 46 = .ok (.iadd, 1) := by decide +kernel
theorem dJ6_bitCount_0f7a4_47 : decode cJ6_bitCount_0f7a4 47 = .ok (.istore_n 0, 1) := by decide +kernel
theorem dJ6_bitCount_0f7a4_48 : decode cJ6_bitCount_0f7a4 48 = .ok (.iload_n 0, 1) := by decide +kernel
theorem dJ6_bitCount_0f7a4_49 : decode cJ6_bitCount_0f7a4 49 = .ok (.bipush 63, 2) := by decide +kernel
theorem dJ6_bitCount_0f7a4_51 : decode cJ6_bitCount_0f7a4 51 = .ok (.iand, 1) := by decide +kernel
theorem dJ6_bitCount_0f7a4_52 : decode cJ6_bitCount_0f7a4 52 = .ok (.ireturn, 1) := by decide +kernel
theorem dJ9_max_7cf53_0 : decode cJ9_max_7cf53 0 = .ok (.iload_n 0, 1) := by decide +kernel
theorem dJ9_max_7cf53_1 : decode cJ9_max_7cf53 1 = .ok (.iload_n 1, 1) := by decide +kernel
theorem dJ9_max_7cf53_2 : decode cJ9_max_7cf53 2 = .ok (.if_icmp .lt 7, 3) := by decide +kernel
theorem dJ9_max_7cf53_5 : decode cJ9_max_7cf53 5 = .ok (.iload_n 0, 1) := by decide +kernel
theorem dJ9_max_7cf53_6 : decode cJ9_max_7cf53 6 = .ok (.goto 4, 3) := by decide +kernel
theorem dJ9_max_7cf53_9 : decode cJ9_max_7cf53 9 = .ok (.iload_n 1, 1) := by decide +kernel
theorem dJ9_max_7cf53_10 : decode cJ9_max_7cf53 10 = .ok (.ireturn, 1) := by decide +kernel
theorem dJ9_max_f86c9_0 : decode cJ9_max_f86c9 0 = .ok (.lload_n 0, 1) := by decide +kernel
theorem dJ9_max_f86c9_1 : decode cJ9_max_f86c9 1 = .ok (.lload_n 2, 1) := by decide +kernel
theorem dJ9_max_f86c9_2 : decode cJ9_max_f86c9 2 = .ok (.lcmp, 1) := by decide +kernel
theorem dJ9_max_f86c9_3 : decode cJ9_max_f86c9 3 = .ok (.ifCond .lt 7, 3) := by decide +kernel
theorem dJ9_max_f86c9_6 : decode cJ9_max_f86c9 6 = .ok (.lload_n 0, 1) := by decide +kernel
theorem dJ9_max_f86c9_7 : decode cJ9_max_f86c9 7 = .ok (.goto 4, 3) := by decide +kernel
theorem dJ9_max_f86c9_10 : decode cJ9_max_f86c9 10 = .ok (.lload_n 2, 1) := by decide +kernel
theorem dJ9_max_f86c9_11 : decode cJ9_max_f86c9 11 = .ok (.lreturn, 1) := by decide +kernel
theorem dJ9_min_7cf53_0 : decode cJ9_min_7cf53 0 = .ok (.iload_n 0, 1) := by decide +kernel
theorem dJ9_min_7cf53_1 : decode cJ9_min_7cf53 1 = .ok (.iload_n 1, 1) := by decide +kernel
theorem dJ9_min_7cf53_2 : decode cJ9_min_7cf53 2 = .ok (.if_icmp .gt 7, 3) := by decide +kernel
theorem dJ9_min_7cf53_5 : decode cJ9_min_7cf53 5 = .ok (.iload_n 0, 1) := by decide +kernel
theorem dJ9_min_7cf53_6 : decode cJ9_min_7cf53 6 = .ok (.goto 4, 3) := by decide +kernel
theorem dJ9_min_7cf53_9 : decode cJ9_min_7cf53 9 = .ok (.iload_n 1, 1) := by decide +kernel
theorem dJ9_min_7cf53_10 : decode cJ9_min_7cf53 10 = .ok (.ireturn, 1) := by decide +kernel
set_option maxRecDepth 20000 in
theorem ggL_law_X10_init : GoodIn wsL_law wsX10_init := goodIn_r _ [8, 9, 10, 11, 12, 13, 14, 15, 16, 17, 18, 19, 20, 21, 22, 23, 24, 25, 26, 27, 28, 29, 30, 31, 32, 33, 34, 35, 36, 37, 38, 39, 40, 41, 42, 43, 44, 45, 46, 47, 48, 49, 50, 51, 52, 53, 54, 55, 56, 57, 58, 59, 60, 61, 62, 63, 64, 65, 66, 67, 68, 69, 70, 71, 72, 73, 74, 75, 76, 77, 78, 79, 80, 81, 82, 83, 84, 85, 86, 87, 88, 89, 90, 91, 92, 93, 94, 95, 96, 97, 98, 99, 100, 101, 102, 103, 104, 105, 106, 107, 780, 781, 754, 755, 756, 757, 758, 759, 760, 761, 762, 782, 783, 784, 785, 786, 787, 788, 789, 790, 791, 792, 793, 794, 795, 796, 797, 798, 799, 800, 801, 802, 803, 804, 805, 806, 807, 808, 809, 810, 811, 812, 813, 814, 815] (by decide +kernel) (by decide +kernel)
set_option maxRecDepth 20000 in
theorem gL_law_X10_init : GoodIn wsL_law (wsX10_init) := ggL_law_X10_init
set_option maxRecDepth 20000 in
theorem ggL_law_X11_init : GoodIn wsL_law wsX11_init := goodIn_r _ [110, 111, 10, 11, 46, 112, 113, 114, 115, 116, 117, 118, 104, 119, 120, 763, 764, 765, 766, 767, 768, 769, 770, 771, 772, 773, 774, 775, 776, 777, 778, 779] (by decide +kernel) (by decide +kernel)
set_option maxRecDepth 20000 in
theorem gL_law_X11_init : GoodIn wsL_law (wsX11_init) := ggL_law_X11_init
set_option maxRecDepth 20000 in
theorem ggL_law_X10_heap : GoodIn wsL_law wsX10_heap := goodIn_r _ [124, 19, 125, 126, 127, 2, 128, 129, 130, 131, 132, 133, 134, 18, 135, 136, 57, 58, 754, 755, 756, 757, 758, 759, 760, 761, 762, 782, 783, 784, 785] (by decide +kernel) (by decide +kernel)
set_option maxRecDepth 20000 in
theorem gL_law_X10_heap : GoodIn wsL_law (wsV RL 13 RX10 yX10_heap wsX10_heap) := goodIn_app (goodIn_of _ (by decide +kernel)) ggL_law_X10_heap
set_option maxRecDepth 20000 in
theorem ggL_law_X11_heap : GoodIn wsL_law wsX11_heap := goodIn_r _ [140, 141, 112, 113, 142, 143, 5, 144, 763, 764, 765, 766, 767, 768, 769, 770, 771, 772, 773, 774, 775, 776, 777, 778, 779] (by decide +kernel) (by decide +kernel)
set_option maxRecDepth 20000 in
theorem gL_law_X11_heap : GoodIn wsL_law (wsV RL 17 RX11 yX11_heap wsX11_heap) := goodIn_app (goodIn_of _ (by decide +kernel)) ggL_law_X11_heap
set_option maxRecDepth 20000 in
theorem ggL_law_X10_change : GoodIn wsL_law wsX10_change := goodIn_r _ [148, 19, 149, 150, 151, 152, 153, 2, 154, 125, 126, 127, 128, 129, 130, 131, 754, 755, 756, 757, 758, 759, 760, 761, 762, 782, 783, 784, 785] (by decide +kernel) (by decide +kernel)
set_option maxRecDepth 20000 in
theorem gL_law_X10_change : GoodIn wsL_law (wsV RL 18 RX10 yX10_change wsX10_change) := goodIn_app (goodIn_of _ (by decide +kernel)) ggL_law_X10_change
set_option maxRecDepth 20000 in
theorem ggL_law_X11_change : GoodIn wsL_law wsX11_change := goodIn_r _ [158, 112, 113, 159, 160, 161, 5, 162, 141, 142, 143, 144, 763, 764, 765, 766, 767, 768, 769, 770, 771, 772, 773, 774, 775, 776, 777, 778, 779] (by decide +kernel) (by decide +kernel)
set_option maxRecDepth 20000 in
theorem gL_law_X11_change : GoodIn wsL_law (wsV RL 22 RX11 yX11_change wsX11_change) := goodIn_app (goodIn_of _ (by decide +kernel)) ggL_law_X11_change
set_option maxRecDepth 20000 in
theorem ggL_law_X10_drop : GoodIn wsL_law wsX10_drop := goodIn_r _ [166, 19, 125, 754, 755, 756, 757, 758, 759, 760, 761, 762, 782, 783, 784, 785] (by decide +kernel) (by decide +kernel)
set_option maxRecDepth 20000 in
theorem gL_law_X10_drop : GoodIn wsL_law (wsV RL 23 RX10 yX10_drop wsX10_drop) := goodIn_app (goodIn_of _ (by decide +kernel)) ggL_law_X10_drop
set_option maxRecDepth 20000 in
theorem ggL_law_X11_drop : GoodIn wsL_law wsX11_drop := goodIn_r _ [170, 141, 763, 764, 765, 766, 767, 768, 769, 770, 771, 772, 773, 774, 775, 776, 777, 778, 779] (by decide +kernel) (by decide +kernel)
set_option maxRecDepth 20000 in
theorem gL_law_X11_drop : GoodIn wsL_law (wsV RL 27 RX11 yX11_drop wsX11_drop) := goodIn_app (goodIn_of _ (by decide +kernel)) ggL_law_X11_drop
set_option maxRecDepth 20000 in
theorem ggL_law_X10_seats : GoodIn wsL_law wsX10_seats := goodIn_r _ [174, 41, 754, 755, 756, 757, 758, 759, 760, 761, 762] (by decide +kernel) (by decide +kernel)
set_option maxRecDepth 20000 in
theorem gL_law_X10_seats : GoodIn wsL_law (wsV RL 28 RX10 yX10_seats wsX10_seats) := goodIn_app (goodIn_of _ (by decide +kernel)) ggL_law_X10_seats
set_option maxRecDepth 20000 in
theorem ggL_law_X11_seats : GoodIn wsL_law wsX11_seats := goodIn_r _ [178, 114, 142, 143, 5, 144, 763, 764, 765, 766, 767, 768, 769, 770, 771, 772, 773, 774, 775, 776, 777, 778, 779] (by decide +kernel) (by decide +kernel)
set_option maxRecDepth 20000 in
theorem gL_law_X11_seats : GoodIn wsL_law (wsV RL 32 RX11 yX11_seats wsX11_seats) := goodIn_app (goodIn_of _ (by decide +kernel)) ggL_law_X11_seats
set_option maxRecDepth 20000 in
theorem ggL_law_X10_worth : GoodIn wsL_law wsX10_worth := goodIn_r _ [182, 15, 183, 184, 185, 186, 14, 187, 47, 188, 189, 190, 191, 49, 50, 51, 52, 48, 754, 755, 756, 757, 758, 759, 760, 761, 762, 780, 781] (by decide +kernel) (by decide +kernel)
set_option maxRecDepth 20000 in
theorem gL_law_X10_worth : GoodIn wsL_law (wsV RL 33 RX10 yX10_worth wsX10_worth) := goodIn_app (goodIn_of _ (by decide +kernel)) ggL_law_X10_worth
set_option maxRecDepth 20000 in
theorem ggL_law_X11_worth : GoodIn wsL_law wsX11_worth := goodIn_r _ [195, 115, 142, 143, 5, 144, 763, 764, 765, 766, 767, 768, 769, 770, 771, 772, 773, 774, 775, 776, 777, 778, 779] (by decide +kernel) (by decide +kernel)
set_option maxRecDepth 20000 in
theorem gL_law_X11_worth : GoodIn wsL_law (wsV RL 36 RX11 yX11_worth wsX11_worth) := goodIn_app (goodIn_of _ (by decide +kernel)) ggL_law_X11_worth
set_option maxRecDepth 20000 in
theorem ggL_law_X10_say : GoodIn wsL_law wsX10_say := goodIn_r _ [199, 24, 200, 201, 202, 203, 23, 204, 205, 63, 754, 755, 756, 757, 758, 759, 760, 761, 762, 786, 787] (by decide +kernel) (by decide +kernel)
set_option maxRecDepth 20000 in
theorem gL_law_X10_say : GoodIn wsL_law (wsV RL 37 RX10 yX10_say wsX10_say) := goodIn_app (goodIn_of _ (by decide +kernel)) ggL_law_X10_say
set_option maxRecDepth 20000 in
theorem ggL_law_X11_say : GoodIn wsL_law wsX11_say := goodIn_r _ [209, 210, 116, 142, 143, 5, 144, 763, 764, 765, 766, 767, 768, 769, 770, 771, 772, 773, 774, 775, 776, 777, 778, 779] (by decide +kernel) (by decide +kernel)
set_option maxRecDepth 20000 in
theorem gL_law_X11_say : GoodIn wsL_law (wsV RL 40 RX11 yX11_say wsX11_say) := goodIn_app (goodIn_of _ (by decide +kernel)) ggL_law_X11_say
set_option maxRecDepth 20000 in
theorem ggL_law_X10_wipe : GoodIn wsL_law wsX10_wipe := goodIn_r _ [214, 24, 200, 754, 755, 756, 757, 758, 759, 760, 761, 762, 786, 787] (by decide +kernel) (by decide +kernel)
set_option maxRecDepth 20000 in
theorem gL_law_X10_wipe : GoodIn wsL_law (wsV RL 41 RX10 yX10_wipe wsX10_wipe) := goodIn_app (goodIn_of _ (by decide +kernel)) ggL_law_X10_wipe
set_option maxRecDepth 20000 in
theorem ggL_law_X11_wipe : GoodIn wsL_law wsX11_wipe := goodIn_r _ [218, 210, 763, 764, 765, 766, 767, 768, 769, 770, 771, 772, 773, 774, 775, 776, 777, 778, 779] (by decide +kernel) (by decide +kernel)
set_option maxRecDepth 20000 in
theorem gL_law_X11_wipe : GoodIn wsL_law (wsV RL 44 RX11 yX11_wipe wsX11_wipe) := goodIn_app (goodIn_of _ (by decide +kernel)) ggL_law_X11_wipe
set_option maxRecDepth 20000 in
theorem ggL_law_X10_fault : GoodIn wsL_law wsX10_fault := goodIn_r _ [222, 24, 223, 224, 225, 23, 226, 205, 63, 227, 228, 229, 754, 755, 756, 757, 758, 759, 760, 761, 762, 786, 787] (by decide +kernel) (by decide +kernel)
set_option maxRecDepth 20000 in
theorem gL_law_X10_fault : GoodIn wsL_law (wsV RL 45 RX10 yX10_fault wsX10_fault) := goodIn_app (goodIn_of _ (by decide +kernel)) ggL_law_X10_fault
set_option maxRecDepth 20000 in
theorem ggL_law_X11_fault : GoodIn wsL_law wsX11_fault := goodIn_r _ [233, 234, 235, 236, 5, 237, 210, 116, 142, 143, 144, 763, 764, 765, 766, 767, 768, 769, 770, 771, 772, 773, 774, 775, 776, 777, 778, 779] (by decide +kernel) (by decide +kernel)
set_option maxRecDepth 20000 in
theorem gL_law_X11_fault : GoodIn wsL_law (wsV RL 48 RX11 yX11_fault wsX11_fault) := goodIn_app (goodIn_of _ (by decide +kernel)) ggL_law_X11_fault
set_option maxRecDepth 20000 in
theorem ggL_law_X10_hall : GoodIn wsL_law wsX10_hall := goodIn_r _ [241, 24, 28, 200, 223, 224, 225, 23, 226, 205, 63, 227, 228, 229, 242, 243, 244, 27, 245, 246, 247, 248, 249, 250, 251, 252, 67, 70, 68, 754, 755, 756, 757, 758, 759, 760, 761, 762, 786, 787, 788, 789, 790, 791] (by decide +kernel) (by decide +kernel)
set_option maxRecDepth 20000 in
theorem gL_law_X10_hall : GoodIn wsL_law (wsV RL 49 RX10 yX10_hall wsX10_hall) := goodIn_app (goodIn_of _ (by decide +kernel)) ggL_law_X10_hall
set_option maxRecDepth 20000 in
theorem ggL_law_X11_hall : GoodIn wsL_law wsX11_hall := goodIn_r _ [256, 210, 257, 117, 116, 234, 235, 236, 5, 237, 142, 143, 144, 763, 764, 765, 766, 767, 768, 769, 770, 771, 772, 773, 774, 775, 776, 777, 778, 779] (by decide +kernel) (by decide +kernel)
set_option maxRecDepth 20000 in
theorem gL_law_X11_hall : GoodIn wsL_law (wsV RL 52 RX11 yX11_hall wsX11_hall) := goodIn_app (goodIn_of _ (by decide +kernel)) ggL_law_X11_hall
set_option maxRecDepth 20000 in
theorem ggL_law_X10_open : GoodIn wsL_law wsX10_open := goodIn_r _ [261, 28, 262, 754, 755, 756, 757, 758, 759, 760, 761, 762, 788, 789, 790, 791] (by decide +kernel) (by decide +kernel)
set_option maxRecDepth 20000 in
theorem gL_law_X10_open : GoodIn wsL_law (wsV RL 53 RX10 yX10_open wsX10_open) := goodIn_app (goodIn_of _ (by decide +kernel)) ggL_law_X10_open
set_option maxRecDepth 20000 in
theorem ggL_law_X11_open : GoodIn wsL_law wsX11_open := goodIn_r _ [266, 257, 763, 764, 765, 766, 767, 768, 769, 770, 771, 772, 773, 774, 775, 776, 777, 778, 779] (by decide +kernel) (by decide +kernel)
set_option maxRecDepth 20000 in
theorem gL_law_X11_open : GoodIn wsL_law (wsV RL 56 RX11 yX11_open wsX11_open) := goodIn_app (goodIn_of _ (by decide +kernel)) ggL_law_X11_open
set_option maxRecDepth 20000 in
theorem ggL_law_X10_of : GoodIn wsL_law wsX10_of := goodIn_r _ [270, 28, 19, 271, 272, 273, 2, 274, 41, 126, 127, 128, 275, 276, 277, 278, 279, 280, 281, 282, 283, 284, 27, 285, 286, 287, 288, 289, 246, 67, 70, 68, 290, 291, 292, 293, 18, 294, 136, 58, 59, 295, 57, 296, 297, 298, 299, 300, 301, 754, 755, 756, 757, 758, 759, 760, 761, 762, 788, 789, 790, 791, 782, 783, 784, 785, 780, 781] (by decide +kernel) (by decide +kernel)
set_option maxRecDepth 20000 in
theorem gL_law_X10_of : GoodIn wsL_law (wsV RL 57 RX10 yX10_of wsX10_of) := goodIn_app (goodIn_of _ (by decide +kernel)) ggL_law_X10_of
set_option maxRecDepth 20000 in
theorem ggL_law_X11_of : GoodIn wsL_law wsX11_of := goodIn_r _ [305, 306, 307, 308, 5, 309, 114, 142, 143, 144, 310, 311, 312, 313, 314, 315, 316, 257, 117, 317, 318, 319, 320, 141, 112, 113, 115, 321, 322, 323, 324, 763, 764, 765, 766, 767, 768, 769, 770, 771, 772, 773, 774, 775, 776, 777, 778, 779] (by decide +kernel) (by decide +kernel)
set_option maxRecDepth 20000 in
theorem gL_law_X11_of : GoodIn wsL_law (wsV RL 60 RX11 yX11_of wsX11_of) := goodIn_app (goodIn_of _ (by decide +kernel)) ggL_law_X11_of
set_option maxRecDepth 20000 in
theorem ggL_law_X10_choose : GoodIn wsL_law wsX10_choose := goodIn_r _ [328, 41, 40, 329, 330, 331, 2, 332, 333, 334, 335, 336, 32, 28, 19, 337, 338, 339, 31, 340, 341, 74, 342, 276, 277, 278, 279, 280, 281, 343, 283, 284, 27, 285, 286, 287, 288, 289, 246, 67, 70, 68, 290, 344, 345, 346, 39, 347, 97, 348, 349, 350, 351, 352, 353, 354, 355, 356, 357, 358, 359, 360, 361, 362, 363, 364, 18, 365, 136, 58, 366, 367, 368, 369, 57, 370, 371, 372, 373, 96, 374, 375, 376, 377, 378, 292, 293, 294, 59, 295, 296, 379, 380, 381, 382, 91, 383, 384, 385, 386, 101, 387, 105, 388, 389, 390, 391, 90, 392, 393, 394, 395, 396, 397, 398, 399, 400, 401, 402, 403, 404, 405, 406, 407, 408, 409, 410, 411, 412, 413, 414, 415, 416, 417, 418, 419, 420, 95, 421, 422, 423, 424, 425, 426, 427, 94, 428, 429, 430, 431, 432, 433, 434, 435, 436, 437, 438, 439, 440, 441, 442, 443, 444, 445, 446, 447, 448, 449, 450, 451, 452, 453, 454, 455, 456, 457, 458, 459, 460, 461, 462, 463, 464, 465, 466, 467, 468, 469, 470, 471, 472, 473, 474, 475, 476, 477, 478, 479, 480, 754, 755, 756, 757, 758, 759, 760, 761, 762, 803, 804, 805, 806, 807, 808, 809, 792, 793, 788, 789, 790, 791, 782, 783, 784, 785, 780, 781, 810, 811, 812, 813, 814, 815] (by decide +kernel) (by decide +kernel)
set_option maxRecDepth 20000 in
theorem gL_law_X10_choose : GoodIn wsL_law (wsV RL 61 RX10 yX10_choose wsX10_choose) := goodIn_app (goodIn_of _ (by decide +kernel)) ggL_law_X10_choose
set_option maxRecDepth 20000 in
theorem ggL_law_X11_choose : GoodIn wsL_law wsX11_choose := goodIn_r _ [484, 485, 114, 118, 486, 487, 5, 488, 142, 143, 144, 489, 490, 491, 492, 493, 120, 119, 494, 495, 496, 497, 498, 499, 500, 501, 502, 503, 504, 505, 141, 112, 113, 506, 507, 508, 509, 510, 511, 512, 513, 317, 318, 319, 320, 115, 310, 311, 312, 514, 515, 516, 517, 518, 519, 520, 521, 522, 523, 524, 525, 526, 527, 528, 529, 530, 531, 532, 533, 534, 535, 536, 537, 538, 539, 313, 314, 315, 316, 257, 117, 540, 541, 542, 543, 544, 545, 546, 763, 764, 765, 766, 767, 768, 769, 770, 771, 772, 773, 774, 775, 776, 777, 778, 779] (by decide +kernel) (by decide +kernel)
set_option maxRecDepth 20000 in
theorem gL_law_X11_choose : GoodIn wsL_law (wsV RL 64 RX11 yX11_choose wsX11_choose) := goodIn_app (goodIn_of _ (by decide +kernel)) ggL_law_X11_choose
set_option maxRecDepth 20000 in
theorem ggL_law_X10_load : GoodIn wsL_law wsX10_load := goodIn_r _ [550, 551, 40, 19, 552, 553, 554, 555, 2, 556, 41, 151, 152, 153, 154, 125, 557, 380, 381, 39, 382, 91, 353, 348, 349, 350, 351, 352, 383, 384, 385, 386, 101, 387, 105, 388, 389, 390, 391, 90, 392, 393, 394, 395, 363, 364, 18, 365, 136, 58, 366, 367, 368, 369, 57, 396, 397, 398, 399, 400, 401, 402, 403, 404, 405, 406, 407, 408, 409, 410, 411, 412, 413, 414, 415, 416, 370, 371, 372, 373, 96, 558, 559, 560, 561, 562, 563, 564, 565, 754, 755, 756, 757, 758, 759, 760, 761, 762, 803, 804, 805, 806, 807, 808, 809, 782, 783, 784, 785, 810, 811, 812, 813, 814, 815] (by decide +kernel) (by decide +kernel)
set_option maxRecDepth 20000 in
theorem gL_law_X10_load : GoodIn wsL_law (wsV RL 65 RX10 yX10_load wsX10_load) := goodIn_app (goodIn_of _ (by decide +kernel)) ggL_law_X10_load
set_option maxRecDepth 20000 in
theorem ggL_law_X11_load : GoodIn wsL_law wsX11_load := goodIn_r _ [569, 570, 571, 572, 5, 573, 574, 114, 575, 119, 120, 159, 160, 161, 162, 141, 142, 143, 144, 489, 490, 491, 492, 485, 493, 494, 495, 496, 497, 498, 499, 500, 501, 502, 503, 504, 505, 112, 113, 506, 507, 508, 509, 118, 510, 511, 512, 513, 317, 318, 319, 320, 115, 310, 311, 312, 514, 515, 516, 517, 518, 519, 520, 521, 522, 523, 524, 525, 526, 527, 528, 529, 530, 531, 532, 533, 534, 535, 536, 537, 538, 539, 313, 314, 315, 316, 257, 117, 540, 541, 542, 543, 576, 577, 578, 763, 764, 765, 766, 767, 768, 769, 770, 771, 772, 773, 774, 775, 776, 777, 778, 779] (by decide +kernel) (by decide +kernel)
set_option maxRecDepth 20000 in
theorem gL_law_X11_load : GoodIn wsL_law (wsV RL 69 RX11 yX11_load wsX11_load) := goodIn_app (goodIn_of _ (by decide +kernel)) ggL_law_X11_load
set_option maxRecDepth 20000 in
theorem ggL_law_X10_purse : GoodIn wsL_law wsX10_purse := goodIn_r _ [582, 551, 40, 19, 41, 583, 553, 554, 555, 2, 556, 151, 152, 153, 154, 125, 584, 418, 419, 39, 420, 95, 421, 353, 348, 349, 350, 351, 352, 422, 423, 424, 386, 101, 387, 105, 388, 425, 426, 427, 94, 428, 429, 430, 431, 432, 433, 434, 435, 18, 436, 136, 58, 437, 363, 364, 365, 366, 367, 368, 369, 57, 438, 439, 440, 399, 400, 401, 402, 403, 441, 442, 443, 444, 445, 446, 447, 448, 449, 450, 451, 452, 453, 454, 455, 456, 457, 458, 459, 460, 414, 415, 370, 371, 372, 373, 96, 354, 355, 356, 357, 358, 359, 360, 361, 362, 585, 586, 587, 561, 562, 563, 564, 565, 754, 755, 756, 757, 758, 759, 760, 761, 762, 803, 804, 805, 806, 807, 808, 809, 782, 783, 784, 785, 810, 811, 812, 813, 814, 815] (by decide +kernel) (by decide +kernel)
set_option maxRecDepth 20000 in
theorem gL_law_X10_purse : GoodIn wsL_law (wsV RL 70 RX10 yX10_purse wsX10_purse) := goodIn_app (goodIn_of _ (by decide +kernel)) ggL_law_X10_purse
set_option maxRecDepth 20000 in
theorem ggL_law_X11_purse : GoodIn wsL_law wsX11_purse := goodIn_r _ [591, 570, 571, 572, 5, 573, 574, 114, 575, 119, 120, 159, 160, 161, 162, 141, 142, 143, 144, 489, 490, 491, 492, 485, 493, 494, 495, 496, 497, 498, 499, 500, 501, 502, 503, 504, 505, 112, 113, 506, 507, 508, 509, 118, 510, 511, 512, 513, 317, 318, 319, 320, 115, 310, 311, 312, 514, 515, 516, 517, 518, 519, 520, 521, 522, 523, 524, 525, 526, 527, 528, 529, 530, 531, 532, 533, 534, 535, 536, 537, 538, 539, 313, 314, 315, 316, 257, 117, 540, 541, 542, 543, 576, 577, 578, 763, 764, 765, 766, 767, 768, 769, 770, 771, 772, 773, 774, 775, 776, 777, 778, 779] (by decide +kernel) (by decide +kernel)
set_option maxRecDepth 20000 in
theorem gL_law_X11_purse : GoodIn wsL_law (wsV RL 73 RX11 yX11_purse wsX11_purse) := goodIn_app (goodIn_of _ (by decide +kernel)) ggL_law_X11_purse
set_option maxRecDepth 20000 in
theorem ggL_law_X10_paid : GoodIn wsL_law wsX10_paid := goodIn_r _ [595, 40, 19, 41, 596, 584, 418, 419, 39, 420, 95, 421, 353, 348, 349, 350, 351, 352, 422, 423, 424, 386, 101, 387, 105, 388, 425, 426, 427, 94, 428, 429, 430, 431, 432, 433, 434, 435, 18, 436, 136, 58, 437, 363, 364, 365, 366, 367, 368, 369, 57, 438, 439, 440, 399, 400, 401, 402, 403, 441, 442, 443, 444, 445, 446, 447, 448, 449, 450, 451, 452, 453, 454, 455, 456, 457, 458, 459, 460, 414, 415, 370, 371, 372, 373, 96, 354, 355, 356, 357, 358, 359, 360, 361, 362, 754, 755, 756, 757, 758, 759, 760, 761, 762, 803, 804, 805, 806, 807, 808, 809, 810, 811, 812, 813, 814, 815, 782, 783, 784, 785] (by decide +kernel) (by decide +kernel)
set_option maxRecDepth 20000 in
theorem gL_law_X10_paid : GoodIn wsL_law (wsV RL 74 RX10 yX10_paid wsX10_paid) := goodIn_app (goodIn_of _ (by decide +kernel)) ggL_law_X10_paid
set_option maxRecDepth 20000 in
theorem ggL_law_X11_paid : GoodIn wsL_law wsX11_paid := goodIn_r _ [600, 493, 489, 490, 491, 5, 492, 485, 120, 119, 114, 494, 495, 496, 497, 498, 499, 500, 501, 502, 503, 504, 505, 141, 112, 113, 506, 507, 508, 509, 118, 510, 511, 512, 513, 317, 318, 319, 320, 115, 310, 311, 312, 514, 515, 516, 517, 518, 519, 520, 521, 522, 523, 524, 525, 526, 527, 528, 529, 530, 531, 532, 533, 534, 535, 536, 537, 538, 539, 313, 314, 315, 316, 257, 117, 142, 143, 144, 540, 541, 542, 543, 763, 764, 765, 766, 767, 768, 769, 770, 771, 772, 773, 774, 775, 776, 777, 778, 779] (by decide +kernel) (by decide +kernel)
set_option maxRecDepth 20000 in
theorem gL_law_X11_paid : GoodIn wsL_law (wsV RL 77 RX11 yX11_paid wsX11_paid) := goodIn_app (goodIn_of _ (by decide +kernel)) ggL_law_X11_paid
set_option maxRecDepth 20000 in
theorem ggL_law_X10_owed : GoodIn wsL_law wsX10_owed := goodIn_r _ [604, 19, 125, 36, 41, 605, 606, 607, 608, 35, 609, 610, 611, 612, 456, 613, 614, 78, 83, 615, 79, 80, 616, 81, 617, 434, 435, 18, 436, 136, 58, 618, 619, 620, 621, 276, 277, 278, 279, 280, 281, 754, 755, 756, 757, 758, 759, 760, 761, 762, 782, 783, 784, 785, 794, 795, 796, 797, 798, 799, 800, 801, 802] (by decide +kernel) (by decide +kernel)
set_option maxRecDepth 20000 in
theorem gL_law_X10_owed : GoodIn wsL_law (wsV RL 78 RX10 yX10_owed wsX10_owed) := goodIn_app (goodIn_of _ (by decide +kernel)) ggL_law_X10_owed
set_option maxRecDepth 20000 in
theorem ggL_law_X11_owed : GoodIn wsL_law wsX11_owed := goodIn_r _ [625, 141, 142, 143, 5, 144, 626, 627, 628, 629, 112, 113, 114, 310, 311, 312, 532, 533, 534, 535, 763, 764, 765, 766, 767, 768, 769, 770, 771, 772, 773, 774, 775, 776, 777, 778, 779] (by decide +kernel) (by decide +kernel)
set_option maxRecDepth 20000 in
theorem gL_law_X11_owed : GoodIn wsL_law (wsV RL 81 RX11 yX11_owed wsX11_owed) := goodIn_app (goodIn_of _ (by decide +kernel)) ggL_law_X11_owed
set_option maxRecDepth 20000 in
theorem ggL_law_X10_breach : GoodIn wsL_law wsX10_breach := goodIn_r _ [633, 36, 19, 41, 634, 635, 636, 637, 2, 638, 271, 272, 273, 274, 126, 127, 128, 275, 276, 277, 278, 279, 280, 281, 606, 607, 608, 35, 609, 610, 611, 612, 456, 613, 614, 78, 83, 615, 79, 80, 616, 81, 617, 434, 435, 18, 436, 136, 58, 618, 619, 620, 621, 639, 640, 641, 642, 643, 644, 82, 645, 646, 647, 648, 649, 650, 651, 754, 755, 756, 757, 758, 759, 760, 761, 762, 794, 795, 796, 797, 798, 799, 800, 801, 802, 782, 783, 784, 785] (by decide +kernel) (by decide +kernel)
set_option maxRecDepth 20000 in
theorem gL_law_X10_breach : GoodIn wsL_law (wsV RL 82 RX10 yX10_breach wsX10_breach) := goodIn_app (goodIn_of _ (by decide +kernel)) ggL_law_X10_breach
set_option maxRecDepth 20000 in
theorem ggL_law_X11_breach : GoodIn wsL_law wsX11_breach := goodIn_r _ [655, 656, 657, 658, 5, 659, 142, 143, 144, 306, 307, 308, 309, 114, 310, 311, 312, 660, 661, 662, 663, 141, 626, 627, 628, 629, 112, 113, 532, 533, 534, 535, 664, 665, 666, 667, 763, 764, 765, 766, 767, 768, 769, 770, 771, 772, 773, 774, 775, 776, 777, 778, 779] (by decide +kernel) (by decide +kernel)
set_option maxRecDepth 20000 in
theorem gL_law_X11_breach : GoodIn wsL_law (wsV RL 85 RX11 yX11_breach wsX11_breach) := goodIn_app (goodIn_of _ (by decide +kernel)) ggL_law_X11_breach
set_option maxRecDepth 20000 in
theorem ggL_law_X10_kept : GoodIn wsL_law wsX10_kept := goodIn_r _ [671, 32, 672, 636, 637, 2, 638, 673, 674, 675, 676, 28, 41, 36, 19, 337, 338, 339, 31, 340, 341, 74, 342, 276, 277, 278, 279, 280, 281, 343, 283, 284, 27, 285, 286, 287, 288, 289, 246, 67, 70, 68, 290, 606, 607, 608, 35, 609, 610, 611, 612, 456, 613, 614, 78, 83, 615, 79, 80, 616, 81, 617, 434, 435, 18, 436, 136, 58, 618, 619, 620, 621, 677, 678, 679, 680, 681, 682, 640, 641, 642, 643, 644, 82, 645, 646, 647, 648, 649, 650, 651, 683, 684, 685, 686, 754, 755, 756, 757, 758, 759, 760, 761, 762, 792, 793, 788, 789, 790, 791, 782, 783, 784, 785, 794, 795, 796, 797, 798, 799, 800, 801, 802] (by decide +kernel) (by decide +kernel)
set_option maxRecDepth 20000 in
theorem gL_law_X10_kept : GoodIn wsL_law (wsV RL 86 RX10 yX10_kept wsX10_kept) := goodIn_app (goodIn_of _ (by decide +kernel)) ggL_law_X10_kept
set_option maxRecDepth 20000 in
theorem ggL_law_X11_kept : GoodIn wsL_law wsX11_kept := goodIn_r _ [690, 657, 658, 5, 659, 142, 143, 144, 691, 692, 693, 694, 306, 307, 308, 309, 114, 310, 311, 312, 313, 314, 315, 316, 257, 117, 660, 661, 662, 663, 141, 656, 626, 627, 628, 629, 112, 113, 532, 533, 534, 535, 664, 665, 666, 667, 763, 764, 765, 766, 767, 768, 769, 770, 771, 772, 773, 774, 775, 776, 777, 778, 779] (by decide +kernel) (by decide +kernel)
set_option maxRecDepth 20000 in
theorem gL_law_X11_kept : GoodIn wsL_law (wsV RL 89 RX11 yX11_kept wsX11_kept) := goodIn_app (goodIn_of _ (by decide +kernel)) ggL_law_X11_kept
set_option maxRecDepth 20000 in
theorem ggL_law_X10_least : GoodIn wsL_law wsX10_least := goodIn_r _ [698, 32, 28, 41, 19, 337, 338, 339, 31, 340, 341, 74, 342, 276, 277, 278, 279, 280, 281, 343, 283, 284, 27, 285, 286, 287, 288, 289, 246, 67, 70, 68, 290, 699, 700, 701, 702, 703, 298, 299, 18, 300, 136, 57, 58, 297, 754, 755, 756, 757, 758, 759, 760, 761, 762, 792, 793, 788, 789, 790, 791, 782, 783, 784, 785] (by decide +kernel) (by decide +kernel)
set_option maxRecDepth 20000 in
theorem gL_law_X10_least : GoodIn wsL_law (wsV RL 90 RX10 yX10_least wsX10_least) := goodIn_app (goodIn_of _ (by decide +kernel)) ggL_law_X10_least
set_option maxRecDepth 20000 in
theorem ggL_law_X11_least : GoodIn wsL_law wsX11_least := goodIn_r _ [707, 142, 143, 5, 144, 306, 307, 308, 309, 114, 310, 311, 312, 313, 314, 315, 316, 257, 117, 321, 322, 323, 324, 141, 112, 113, 763, 764, 765, 766, 767, 768, 769, 770, 771, 772, 773, 774, 775, 776, 777, 778, 779] (by decide +kernel) (by decide +kernel)
set_option maxRecDepth 20000 in
theorem gL_law_X11_least : GoodIn wsL_law (wsV RL 93 RX11 yX11_least wsX11_least) := goodIn_app (goodIn_of _ (by decide +kernel)) ggL_law_X11_least
set_option maxRecDepth 20000 in
theorem ggL_law_X10_nearest : GoodIn wsL_law wsX10_nearest := goodIn_r _ [711, 32, 636, 637, 2, 638, 271, 272, 273, 274, 41, 126, 127, 128, 275, 276, 277, 278, 279, 280, 281, 673, 674, 675, 676, 28, 36, 19, 337, 338, 339, 31, 340, 341, 74, 342, 343, 283, 284, 27, 285, 286, 287, 288, 289, 246, 67, 70, 68, 290, 606, 607, 608, 35, 609, 610, 611, 612, 456, 613, 614, 78, 83, 615, 79, 80, 616, 81, 617, 434, 435, 18, 436, 136, 58, 618, 619, 620, 621, 677, 678, 679, 680, 681, 682, 640, 641, 642, 643, 644, 82, 645, 646, 647, 648, 649, 650, 651, 712, 713, 714, 715, 754, 755, 756, 757, 758, 759, 760, 761, 762, 792, 793, 788, 789, 790, 791, 782, 783, 784, 785, 794, 795, 796, 797, 798, 799, 800, 801, 802] (by decide +kernel) (by decide +kernel)
set_option maxRecDepth 20000 in
theorem gL_law_X10_nearest : GoodIn wsL_law (wsV RL 94 RX10 yX10_nearest wsX10_nearest) := goodIn_app (goodIn_of _ (by decide +kernel)) ggL_law_X10_nearest
set_option maxRecDepth 20000 in
theorem ggL_law_X11_nearest : GoodIn wsL_law wsX11_nearest := goodIn_r _ [719, 657, 658, 5, 659, 142, 143, 144, 306, 307, 308, 309, 114, 310, 311, 312, 691, 692, 693, 694, 313, 314, 315, 316, 257, 117, 660, 661, 662, 663, 141, 656, 626, 627, 628, 629, 112, 113, 532, 533, 534, 535, 664, 665, 666, 667, 763, 764, 765, 766, 767, 768, 769, 770, 771, 772, 773, 774, 775, 776, 777, 778, 779] (by decide +kernel) (by decide +kernel)
set_option maxRecDepth 20000 in
theorem gL_law_X11_nearest : GoodIn wsL_law (wsV RL 97 RX11 yX11_nearest wsX11_nearest) := goodIn_app (goodIn_of _ (by decide +kernel)) ggL_law_X11_nearest
set_option maxRecDepth 20000 in
theorem ggL_law_X10_more : GoodIn wsL_law wsX10_more := goodIn_r _ [723, 41, 40, 329, 330, 331, 2, 332, 333, 334, 335, 336, 32, 28, 19, 337, 338, 339, 31, 340, 341, 74, 342, 276, 277, 278, 279, 280, 281, 343, 283, 284, 27, 285, 286, 287, 288, 289, 246, 67, 70, 68, 290, 344, 345, 346, 39, 347, 97, 348, 349, 350, 351, 352, 353, 354, 355, 356, 357, 358, 359, 360, 361, 362, 363, 364, 18, 365, 136, 58, 366, 367, 368, 369, 57, 370, 371, 372, 373, 96, 374, 375, 376, 377, 378, 292, 293, 294, 59, 295, 296, 379, 380, 381, 382, 91, 383, 384, 385, 386, 101, 387, 105, 388, 389, 390, 391, 90, 392, 393, 394, 395, 396, 397, 398, 399, 400, 401, 402, 403, 404, 405, 406, 407, 408, 409, 410, 411, 412, 413, 414, 415, 416, 417, 418, 419, 420, 95, 421, 422, 423, 424, 425, 426, 427, 94, 428, 429, 430, 431, 432, 433, 434, 435, 436, 437, 438, 439, 440, 441, 442, 443, 444, 445, 446, 447, 448, 449, 450, 451, 452, 453, 454, 455, 456, 457, 458, 459, 460, 461, 462, 463, 464, 465, 466, 467, 468, 469, 470, 471, 472, 473, 474, 475, 476, 754, 755, 756, 757, 758, 759, 760, 761, 762, 803, 804, 805, 806, 807, 808, 809, 792, 793, 788, 789, 790, 791, 782, 783, 784, 785, 780, 781, 810, 811, 812, 813, 814, 815] (by decide +kernel) (by decide +kernel)
set_option maxRecDepth 20000 in
theorem gL_law_X10_more : GoodIn wsL_law (wsV RL 98 RX10 yX10_more wsX10_more) := goodIn_app (goodIn_of _ (by decide +kernel)) ggL_law_X10_more
set_option maxRecDepth 20000 in
theorem ggL_law_X11_more : GoodIn wsL_law wsX11_more := goodIn_r _ [727, 114, 485, 486, 487, 5, 488, 142, 143, 144, 489, 490, 491, 492, 493, 120, 119, 494, 495, 496, 497, 498, 499, 500, 501, 502, 503, 504, 505, 141, 112, 113, 506, 507, 508, 509, 118, 510, 511, 512, 513, 317, 318, 319, 320, 115, 310, 311, 312, 514, 515, 516, 517, 518, 519, 520, 521, 522, 523, 524, 525, 526, 527, 528, 529, 530, 531, 532, 533, 534, 535, 536, 537, 538, 539, 313, 314, 315, 316, 257, 117, 540, 541, 542, 543, 763, 764, 765, 766, 767, 768, 769, 770, 771, 772, 773, 774, 775, 776, 777, 778, 779] (by decide +kernel) (by decide +kernel)
set_option maxRecDepth 20000 in
theorem gL_law_X11_more : GoodIn wsL_law (wsV RL 101 RX11 yX11_more wsX11_more) := goodIn_app (goodIn_of _ (by decide +kernel)) ggL_law_X11_more
set_option maxRecDepth 20000 in
theorem ggL_law_X10_turn : GoodIn wsL_law wsX10_turn := goodIn_r _ [731, 32, 28, 41, 20, 19, 150, 40, 330, 331, 2, 332, 151, 152, 153, 154, 125, 337, 338, 339, 31, 340, 341, 74, 342, 276, 277, 278, 279, 280, 281, 343, 283, 284, 27, 285, 286, 287, 288, 289, 246, 67, 70, 68, 290, 732, 733, 734, 18, 735, 57, 58, 136, 132, 133, 134, 135, 344, 345, 346, 39, 347, 97, 348, 349, 350, 351, 352, 353, 354, 355, 356, 357, 358, 359, 360, 361, 362, 363, 364, 365, 366, 367, 368, 369, 370, 371, 372, 373, 96, 374, 375, 376, 377, 378, 292, 293, 294, 59, 295, 296, 379, 380, 381, 382, 91, 383, 384, 385, 386, 101, 387, 105, 388, 389, 390, 391, 90, 392, 393, 394, 395, 396, 397, 398, 399, 400, 401, 402, 403, 404, 405, 406, 407, 408, 409, 410, 411, 412, 413, 414, 415, 416, 417, 418, 419, 420, 95, 421, 422, 423, 424, 425, 426, 427, 94, 428, 429, 430, 431, 432, 433, 434, 435, 436, 437, 438, 439, 440, 441, 442, 443, 444, 445, 446, 447, 448, 449, 450, 451, 452, 453, 454, 455, 456, 457, 458, 459, 460, 461, 462, 463, 464, 465, 466, 467, 468, 469, 470, 471, 472, 473, 474, 475, 476, 736, 737, 738, 739, 740, 754, 755, 756, 757, 758, 759, 760, 761, 762, 782, 783, 784, 785, 792, 793, 788, 789, 790, 791, 803, 804, 805, 806, 807, 808, 809, 780, 781, 810, 811, 812, 813, 814, 815] (by decide +kernel) (by decide +kernel)
set_option maxRecDepth 20000 in
theorem gL_law_X10_turn : GoodIn wsL_law (wsV RL 102 RX10 yX10_turn wsX10_turn) := goodIn_app (goodIn_of _ (by decide +kernel)) ggL_law_X10_turn
set_option maxRecDepth 20000 in
theorem ggL_law_X11_turn : GoodIn wsL_law wsX11_turn := goodIn_r _ [744, 113, 141, 112, 486, 487, 5, 488, 142, 143, 144, 159, 160, 161, 162, 489, 490, 491, 492, 485, 493, 120, 119, 114, 494, 495, 496, 497, 498, 499, 500, 501, 502, 503, 504, 505, 506, 507, 508, 509, 118, 510, 511, 512, 513, 317, 318, 319, 320, 115, 310, 311, 312, 514, 515, 516, 517, 518, 519, 520, 521, 522, 523, 524, 525, 526, 527, 528, 529, 530, 531, 532, 533, 534, 535, 536, 537, 538, 539, 313, 314, 315, 316, 257, 117, 540, 541, 542, 543, 763, 764, 765, 766, 767, 768, 769, 770, 771, 772, 773, 774, 775, 776, 777, 778, 779] (by decide +kernel) (by decide +kernel)
set_option maxRecDepth 20000 in
theorem gL_law_X11_turn : GoodIn wsL_law (wsV RL 105 RX11 yX11_turn wsX11_turn) := goodIn_app (goodIn_of _ (by decide +kernel)) ggL_law_X11_turn
set_option maxRecDepth 20000 in
theorem ggL_law_X10_told : GoodIn wsL_law wsX10_told := goodIn_r _ [748, 15, 183, 19, 150, 149, 125, 41, 24, 200, 28, 262, 151, 152, 153, 2, 154, 749, 434, 435, 18, 436, 136, 58, 754, 755, 756, 757, 758, 759, 760, 761, 762, 780, 781, 782, 783, 784, 785, 786, 787, 788, 789, 790, 791] (by decide +kernel) (by decide +kernel)
set_option maxRecDepth 20000 in
theorem gL_law_X10_told : GoodIn wsL_law (wsV RL 106 RX10 yX10_told wsX10_told) := goodIn_app (goodIn_of _ (by decide +kernel)) ggL_law_X10_told
set_option maxRecDepth 20000 in
theorem ggL_law_X11_told : GoodIn wsL_law wsX11_told := goodIn_r _ [753, 257, 117, 115, 113, 112, 141, 114, 210, 142, 143, 5, 144, 159, 160, 161, 162, 532, 533, 534, 535, 763, 764, 765, 766, 767, 768, 769, 770, 771, 772, 773, 774, 775, 776, 777, 778, 779] (by decide +kernel) (by decide +kernel)
set_option maxRecDepth 20000 in
theorem gL_law_X11_told : GoodIn wsL_law (wsV RL 109 RX11 yX11_told wsX11_told) := goodIn_app (goodIn_of _ (by decide +kernel)) ggL_law_X11_told
theorem dL_law_0 : decode cL_law 0 = .ok (.new 7, 3) := by decide +kernel
theorem dL_law_3 : decode cL_law 3 = .ok (.dup, 1) := by decide +kernel
theorem dL_law_4 : decode cL_law 4 = .ok (.invokespecial 9, 3) := by decide +kernel
theorem dL_law_7 : decode cL_law 7 = .ok (.astore_n 1, 1) := by decide +kernel
theorem dL_law_8 : decode cL_law 8 = .ok (.new 10, 3) := by decide +kernel
theorem dL_law_11 : decode cL_law 11 = .ok (.dup, 1) := by decide +kernel
theorem dL_law_12 : decode cL_law 12 = .ok (.invokespecial 12, 3) := by decide +kernel
theorem dL_law_15 : decode cL_law 15 = .ok (.astore_n 2, 1) := by decide +kernel
theorem dL_law_16 : decode cL_law 16 = .ok (.iconst 0, 1) := by decide +kernel
theorem dL_law_17 : decode cL_law 17 = .ok (.istore_n 3, 1) := by decide +kernel
theorem dL_law_18 : decode cL_law 18 = .ok (.iload_n 3, 1) := by decide +kernel
theorem dL_law_19 : decode cL_law 19 = .ok (.aload_n 0, 1) := by decide +kernel
theorem dL_law_20 : decode cL_law 20 = .ok (.arraylength, 1) := by decide +kernel
theorem dL_law_21 : decode cL_law 21 = .ok (.iconst 4, 1) := by decide +kernel
theorem dL_law_22 : decode cL_law 22 = .ok (.isub, 1) := by decide +kernel
theorem dL_law_23 : decode cL_law 23 = .ok (.if_icmp .gt 774, 3) := by decide +kernel
theorem dL_law_26 : decode cL_law 26 = .ok (.aload_n 0, 1) := by decide +kernel
theorem dL_law_27 : decode cL_law 27 = .ok (.iload_n 3, 1) := by decide +kernel
theorem dL_law_28 : decode cL_law 28 = .ok (.iaload, 1) := by decide +kernel
theorem dL_law_29 : decode cL_law 29 = .ok (.bipush 31, 2) := by decide +kernel
theorem dL_law_31 : decode cL_law 31 = .ok (.iand, 1) := by decide +kernel
theorem dL_law_32 : decode cL_law 32 = .ok (.tableswitch 759 0 22 #[108, 141, 184, 197, 220, 253, 276, 289, 302, 315, 328, 361, 394, 438, 482, 495, 528, 571, 604, 627, 660, 693, 736], 108) := by decide +kernel
theorem dL_law_140 : decode cL_law 140 = .ok (.aload_n 1, 1) := by decide +kernel
theorem dL_law_141 : decode cL_law 141 = .ok (.aload_n 0, 1) := by decide +kernel
theorem dL_law_142 : decode cL_law 142 = .ok (.iload_n 3, 1) := by decide +kernel
theorem dL_law_143 : decode cL_law 143 = .ok (.iconst 1, 1) := by decide +kernel
theorem dL_law_144 : decode cL_law 144 = .ok (.iadd, 1) := by decide +kernel
theorem dL_law_145 : decode cL_law 145 = .ok (.iaload, 1) := by decide +kernel
theorem dL_law_146 : decode cL_law 146 = .ok (.aload_n 0, 1) := by decide +kernel
theorem dL_law_147 : decode cL_law 147 = .ok (.iload_n 3, 1) := by decide +kernel
theorem dL_law_148 : decode cL_law 148 = .ok (.iconst 2, 1) := by decide +kernel
theorem dL_law_149 : decode cL_law 149 = .ok (.iadd, 1) := by decide +kernel
theorem dL_law_150 : decode cL_law 150 = .ok (.iaload, 1) := by decide +kernel
theorem dL_law_151 : decode cL_law 151 = .ok (.invokevirtual 13, 3) := by decide +kernel
theorem dL_law_154 : decode cL_law 154 = .ok (.aload_n 2, 1) := by decide +kernel
theorem dL_law_155 : decode cL_law 155 = .ok (.aload_n 0, 1) := by decide +kernel
theorem dL_law_156 : decode cL_law 156 = .ok (.iload_n 3, 1) := by decide +kernel
theorem dL_law_157 : decode cL_law 157 = .ok (.iconst 1, 1) := by decide +kernel
theorem dL_law_158 : decode cL_law 158 = .ok (.iadd, 1) := by decide +kernel
theorem dL_law_159 : decode cL_law 159 = .ok (.iaload, 1) := by decide +kernel
theorem dL_law_160 : decode cL_law 160 = .ok (.aload_n 0, 1) := by decide +kernel
theorem dL_law_161 : decode cL_law 161 = .ok (.iload_n 3, 1) := by decide +kernel
theorem dL_law_162 : decode cL_law 162 = .ok (.iconst 2, 1) := by decide +kernel
theorem dL_law_163 : decode cL_law 163 = .ok (.iadd, 1) := by decide +kernel
theorem dL_law_164 : decode cL_law 164 = .ok (.iaload, 1) := by decide +kernel
theorem dL_law_165 : decode cL_law 165 = .ok (.invokevirtual 17, 3) := by decide +kernel
theorem dL_law_168 : decode cL_law 168 = .ok (.if_icmp .eq 623, 3) := by decide +kernel
theorem dL_law_171 : decode cL_law 171 = .ok (.iconst 0, 1) := by decide +kernel
theorem dL_law_172 : decode cL_law 172 = .ok (.ireturn, 1) := by decide +kernel
theorem dL_law_173 : decode cL_law 173 = .ok (.aload_n 1, 1) := by decide +kernel
theorem dL_law_174 : decode cL_law 174 = .ok (.aload_n 0, 1) := by decide +kernel
theorem dL_law_175 : decode cL_law 175 = .ok (.iload_n 3, 1) := by decide +kernel
theorem dL_law_176 : decode cL_law 176 = .ok (.iconst 1, 1) := by decide +kernel
theorem dL_law_177 : decode cL_law 177 = .ok (.iadd, 1) := by decide +kernel
theorem dL_law_178 : decode cL_law 178 = .ok (.iaload, 1) := by decide +kernel
theorem dL_law_179 : decode cL_law 179 = .ok (.aload_n 0, 1) := by decide +kernel
theorem dL_law_180 : decode cL_law 180 = .ok (.iload_n 3, 1) := by decide +kernel
theorem dL_law_181 : decode cL_law 181 = .ok (.iconst 2, 1) := by decide +kernel
theorem dL_law_182 : decode cL_law 182 = .ok (.iadd, 1) := by decide +kernel
theorem dL_law_183 : decode cL_law 183 = .ok (.iaload, 1) := by decide +kernel
theorem dL_law_184 : decode cL_law 184 = .ok (.aload_n 0, 1) := by decide +kernel
theorem dL_law_185 : decode cL_law 185 = .ok (.iload_n 3, 1) := by decide +kernel
theorem dL_law_186 : decode cL_law 186 = .ok (.iconst 3, 1) := by decide +kernel
theorem dL_law_187 : decode cL_law 187 = .ok (.iadd, 1) := by decide +kernel
theorem dL_law_188 : decode cL_law 188 = .ok (.iaload, 1) := by decide +kernel
theorem dL_law_189 : decode cL_law 189 = .ok (.invokevirtual 18, 3) := by decide +kernel
theorem dL_law_192 : decode cL_law 192 = .ok (.aload_n 2, 1) := by decide +kernel
theorem dL_law_193 : decode cL_law 193 = .ok (.aload_n 0, 1) := by decide +kernel
theorem dL_law_194 : decode cL_law 194 = .ok (.iload_n 3, 1) := by decide +kernel
theorem dL_law_195 : decode cL_law 195 = .ok (.iconst 1, 1) := by decide +kernel
theorem dL_law_196 : decode cL_law 196 = .ok (.iadd, 1) := by decide +kernel
theorem dL_law_197 : decode cL_law 197 = .ok (.iaload, 1) := by decide +kernel
theorem dL_law_198 : decode cL_law 198 = .ok (.aload_n 0, 1) := by decide +kernel
theorem dL_law_199 : decode cL_law 199 = .ok (.iload_n 3, 1) := by decide +kernel
theorem dL_law_200 : decode cL_law 200 = .ok (.iconst 2, 1) := by decide +kernel
theorem dL_law_201 : decode cL_law 201 = .ok (.iadd, 1) := by decide +kernel
theorem dL_law_202 : decode cL_law 202 = .ok (.iaload, 1) := by decide +kernel
theorem dL_law_203 : decode cL_law 203 = .ok (.aload_n 0, 1) := by decide +kernel
theorem dL_law_204 : decode cL_law 204 = .ok (.iload_n 3, 1) := by decide +kernel
theorem dL_law_205 : decode cL_law 205 = .ok (.iconst 3, 1) := by decide +kernel
theorem dL_law_206 : decode cL_law 206 = .ok (.iadd, 1) := by decide +kernel
theorem dL_law_207 : decode cL_law 207 = .ok (.iaload, 1) := by decide +kernel
theorem dL_law_208 : decode cL_law 208 = .ok (.invokevirtual 22, 3) := by decide +kernel
theorem dL_law_211 : decode cL_law 211 = .ok (.if_icmp .eq 580, 3) := by decide +kernel
theorem dL_law_214 : decode cL_law 214 = .ok (.iconst 0, 1) := by decide +kernel
theorem dL_law_215 : decode cL_law 215 = .ok (.ireturn, 1) := by decide +kernel
theorem dL_law_216 : decode cL_law 216 = .ok (.aload_n 1, 1) := by decide +kernel
theorem dL_law_217 : decode cL_law 217 = .ok (.invokevirtual 23, 3) := by decide +kernel
theorem dL_law_220 : decode cL_law 220 = .ok (.aload_n 2, 1) := by decide +kernel
theorem dL_law_221 : decode cL_law 221 = .ok (.invokevirtual 27, 3) := by decide +kernel
theorem dL_law_224 : decode cL_law 224 = .ok (.if_icmp .eq 567, 3) := by decide +kernel
theorem dL_law_227 : decode cL_law 227 = .ok (.iconst 0, 1) := by decide +kernel
theorem dL_law_228 : decode cL_law 228 = .ok (.ireturn, 1) := by decide +kernel
theorem dL_law_229 : decode cL_law 229 = .ok (.aload_n 1, 1) := by decide +kernel
theorem dL_law_230 : decode cL_law 230 = .ok (.aload_n 0, 1) := by decide +kernel
theorem dL_law_231 : decode cL_law 231 = .ok (.iload_n 3, 1) := by decide +kernel
theorem dL_law_232 : decode cL_law 232 = .ok (.iconst 1, 1) := by decide +kernel
theorem dL_law_233 : decode cL_law 233 = .ok (.iadd, 1) := by decide +kernel
theorem dL_law_234 : decode cL_law 234 = .ok (.iaload, 1) := by decide +kernel
theorem dL_law_235 : decode cL_law 235 = .ok (.invokevirtual 28, 3) := by decide +kernel
theorem dL_law_238 : decode cL_law 238 = .ok (.aload_n 2, 1) := by decide +kernel
theorem dL_law_239 : decode cL_law 239 = .ok (.aload_n 0, 1) := by decide +kernel
theorem dL_law_240 : decode cL_law 240 = .ok (.iload_n 3, 1) := by decide +kernel
theorem dL_law_241 : decode cL_law 241 = .ok (.iconst 1, 1) := by decide +kernel
theorem dL_law_242 : decode cL_law 242 = .ok (.iadd, 1) := by decide +kernel
theorem dL_law_243 : decode cL_law 243 = .ok (.iaload, 1) := by decide +kernel
theorem dL_law_244 : decode cL_law 244 = .ok (.invokevirtual 32, 3) := by decide +kernel
theorem dL_law_247 : decode cL_law 247 = .ok (.if_icmp .eq 544, 3) := by decide +kernel
theorem dL_law_250 : decode cL_law 250 = .ok (.iconst 0, 1) := by decide +kernel
theorem dL_law_251 : decode cL_law 251 = .ok (.ireturn, 1) := by decide +kernel
theorem dL_law_252 : decode cL_law 252 = .ok (.aload_n 1, 1) := by decide +kernel
theorem dL_law_253 : decode cL_law 253 = .ok (.aload_n 0, 1) := by decide +kernel
theorem dL_law_254 : decode cL_law 254 = .ok (.iload_n 3, 1) := by decide +kernel
theorem dL_law_255 : decode cL_law 255 = .ok (.iconst 1, 1) := by decide +kernel
theorem dL_law_256 : decode cL_law 256 = .ok (.iadd, 1) := by decide +kernel
theorem dL_law_257 : decode cL_law 257 = .ok (.iaload, 1) := by decide +kernel
theorem dL_law_258 : decode cL_law 258 = .ok (.aload_n 0, 1) := by decide +kernel
theorem dL_law_259 : decode cL_law 259 = .ok (.iload_n 3, 1) := by decide +kernel
theorem dL_law_260 : decode cL_law 260 = .ok (.iconst 2, 1) := by decide +kernel
theorem dL_law_261 : decode cL_law 261 = .ok (.iadd, 1) := by decide +kernel
theorem dL_law_262 : decode cL_law 262 = .ok (.iaload, 1) := by decide +kernel
theorem dL_law_263 : decode cL_law 263 = .ok (.invokevirtual 33, 3) := by decide +kernel
theorem dL_law_266 : decode cL_law 266 = .ok (.aload_n 2, 1) := by decide +kernel
theorem dL_law_267 : decode cL_law 267 = .ok (.aload_n 0, 1) := by decide +kernel
theorem dL_law_268 : decode cL_law 268 = .ok (.iload_n 3, 1) := by decide +kernel
theorem dL_law_269 : decode cL_law 269 = .ok (.iconst 1, 1) := by decide +kernel
theorem dL_law_270 : decode cL_law 270 = .ok (.iadd, 1) := by decide +kernel
theorem dL_law_271 : decode cL_law 271 = .ok (.iaload, 1) := by decide +kernel
theorem dL_law_272 : decode cL_law 272 = .ok (.aload_n 0, 1) := by decide +kernel
theorem dL_law_273 : decode cL_law 273 = .ok (.iload_n 3, 1) := by decide +kernel
theorem dL_law_274 : decode cL_law 274 = .ok (.iconst 2, 1) := by decide +kernel
theorem dL_law_275 : decode cL_law 275 = .ok (.iadd, 1) := by decide +kernel
theorem dL_law_276 : decode cL_law 276 = .ok (.iaload, 1) := by decide +kernel
theorem dL_law_277 : decode cL_law 277 = .ok (.invokevirtual 36, 3) := by decide +kernel
theorem dL_law_280 : decode cL_law 280 = .ok (.if_icmp .eq 511, 3) := by decide +kernel
theorem dL_law_283 : decode cL_law 283 = .ok (.iconst 0, 1) := by decide +kernel
theorem dL_law_284 : decode cL_law 284 = .ok (.ireturn, 1) := by decide +kernel
theorem dL_law_285 : decode cL_law 285 = .ok (.aload_n 1, 1) := by decide +kernel
theorem dL_law_286 : decode cL_law 286 = .ok (.aload_n 0, 1) := by decide +kernel
theorem dL_law_287 : decode cL_law 287 = .ok (.iload_n 3, 1) := by decide +kernel
theorem dL_law_288 : decode cL_law 288 = .ok (.iconst 1, 1) := by decide +kernel
theorem dL_law_289 : decode cL_law 289 = .ok (.iadd, 1) := by decide +kernel
theorem dL_law_290 : decode cL_law 290 = .ok (.iaload, 1) := by decide +kernel
theorem dL_law_291 : decode cL_law 291 = .ok (.invokevirtual 37, 3) := by decide +kernel
theorem dL_law_294 : decode cL_law 294 = .ok (.aload_n 2, 1) := by decide +kernel
theorem dL_law_295 : decode cL_law 295 = .ok (.aload_n 0, 1) := by decide +kernel
theorem dL_law_296 : decode cL_law 296 = .ok (.iload_n 3, 1) := by decide +kernel
theorem dL_law_297 : decode cL_law 297 = .ok (.iconst 1, 1) := by decide +kernel
theorem dL_law_298 : decode cL_law 298 = .ok (.iadd, 1) := by decide +kernel
theorem dL_law_299 : decode cL_law 299 = .ok (.iaload, 1) := by decide +kernel
theorem dL_law_300 : decode cL_law 300 = .ok (.invokevirtual 40, 3) := by decide +kernel
theorem dL_law_303 : decode cL_law 303 = .ok (.if_icmp .eq 488, 3) := by decide +kernel
theorem dL_law_306 : decode cL_law 306 = .ok (.iconst 0, 1) := by decide +kernel
theorem dL_law_307 : decode cL_law 307 = .ok (.ireturn, 1) := by decide +kernel
theorem dL_law_308 : decode cL_law 308 = .ok (.aload_n 1, 1) := by decide +kernel
theorem dL_law_309 : decode cL_law 309 = .ok (.invokevirtual 41, 3) := by decide +kernel
theorem dL_law_312 : decode cL_law 312 = .ok (.aload_n 2, 1) := by decide +kernel
theorem dL_law_313 : decode cL_law 313 = .ok (.invokevirtual 44, 3) := by decide +kernel
theorem dL_law_316 : decode cL_law 316 = .ok (.if_icmp .eq 475, 3) := by decide +kernel
theorem dL_law_319 : decode cL_law 319 = .ok (.iconst 0, 1) := by decide +kernel
theorem dL_law_320 : decode cL_law 320 = .ok (.ireturn, 1) := by decide +kernel
theorem dL_law_321 : decode cL_law 321 = .ok (.aload_n 1, 1) := by decide +kernel
theorem dL_law_322 : decode cL_law 322 = .ok (.invokevirtual 45, 3) := by decide +kernel
theorem dL_law_325 : decode cL_law 325 = .ok (.aload_n 2, 1) := by decide +kernel
theorem dL_law_326 : decode cL_law 326 = .ok (.invokevirtual 48, 3) := by decide +kernel
theorem dL_law_329 : decode cL_law 329 = .ok (.if_icmp .eq 462, 3) := by decide +kernel
theorem dL_law_332 : decode cL_law 332 = .ok (.iconst 0, 1) := by decide +kernel
theorem dL_law_333 : decode cL_law 333 = .ok (.ireturn, 1) := by decide +kernel
theorem dL_law_334 : decode cL_law 334 = .ok (.aload_n 1, 1) := by decide +kernel
theorem dL_law_335 : decode cL_law 335 = .ok (.invokevirtual 49, 3) := by decide +kernel
theorem dL_law_338 : decode cL_law 338 = .ok (.aload_n 2, 1) := by decide +kernel
theorem dL_law_339 : decode cL_law 339 = .ok (.invokevirtual 52, 3) := by decide +kernel
theorem dL_law_342 : decode cL_law 342 = .ok (.if_icmp .eq 449, 3) := by decide +kernel
theorem dL_law_345 : decode cL_law 345 = .ok (.iconst 0, 1) := by decide +kernel
theorem dL_law_346 : decode cL_law 346 = .ok (.ireturn, 1) := by decide +kernel
theorem dL_law_347 : decode cL_law 347 = .ok (.aload_n 1, 1) := by decide +kernel
theorem dL_law_348 : decode cL_law 348 = .ok (.invokevirtual 53, 3) := by decide +kernel
theorem dL_law_351 : decode cL_law 351 = .ok (.aload_n 2, 1) := by decide +kernel
theorem dL_law_352 : decode cL_law 352 = .ok (.invokevirtual 56, 3) := by decide +kernel
theorem dL_law_355 : decode cL_law 355 = .ok (.if_icmp .eq 436, 3) := by decide +kernel
theorem dL_law_358 : decode cL_law 358 = .ok (.iconst 0, 1) := by decide +kernel
theorem dL_law_359 : decode cL_law 359 = .ok (.ireturn, 1) := by decide +kernel
theorem dL_law_360 : decode cL_law 360 = .ok (.aload_n 1, 1) := by decide +kernel
theorem dL_law_361 : decode cL_law 361 = .ok (.aload_n 0, 1) := by decide +kernel
theorem dL_law_362 : decode cL_law 362 = .ok (.iload_n 3, 1) := by decide +kernel
theorem dL_law_363 : decode cL_law 363 = .ok (.iconst 1, 1) := by decide +kernel
theorem dL_law_364 : decode cL_law 364 = .ok (.iadd, 1) := by decide +kernel
theorem dL_law_365 : decode cL_law 365 = .ok (.iaload, 1) := by decide +kernel
theorem dL_law_366 : decode cL_law 366 = .ok (.aload_n 0, 1) := by decide +kernel
theorem dL_law_367 : decode cL_law 367 = .ok (.iload_n 3, 1) := by decide +kernel
theorem dL_law_368 : decode cL_law 368 = .ok (.iconst 2, 1) := by decide +kernel
theorem dL_law_369 : decode cL_law 369 = .ok (.iadd, 1) := by decide +kernel
theorem dL_law_370 : decode cL_law 370 = .ok (.iaload, 1) := by decide +kernel
theorem dL_law_371 : decode cL_law 371 = .ok (.invokevirtual 57, 3) := by decide +kernel
theorem dL_law_374 : decode cL_law 374 = .ok (.aload_n 2, 1) := by decide +kernel
theorem dL_law_375 : decode cL_law 375 = .ok (.aload_n 0, 1) := by decide +kernel
theorem dL_law_376 : decode cL_law 376 = .ok (.iload_n 3, 1) := by decide +kernel
theorem dL_law_377 : decode cL_law 377 = .ok (.iconst 1, 1) := by decide +kernel
theorem dL_law_378 : decode cL_law 378 = .ok (.iadd, 1) := by decide +kernel
theorem dL_law_379 : decode cL_law 379 = .ok (.iaload, 1) := by decide +kernel
theorem dL_law_380 : decode cL_law 380 = .ok (.aload_n 0, 1) := by decide +kernel
theorem dL_law_381 : decode cL_law 381 = .ok (.iload_n 3, 1) := by decide +kernel
theorem dL_law_382 : decode cL_law 382 = .ok (.iconst 2, 1) := by decide +kernel
theorem dL_law_383 : decode cL_law 383 = .ok (.iadd, 1) := by decide +kernel
theorem dL_law_384 : decode cL_law 384 = .ok (.iaload, 1) := by decide +kernel
theorem dL_law_385 : decode cL_law 385 = .ok (.invokevirtual 60, 3) := by decide +kernel
theorem dL_law_388 : decode cL_law 388 = .ok (.if_icmp .eq 403, 3) := by decide +kernel
theorem dL_law_391 : decode cL_law 391 = .ok (.iconst 0, 1) := by decide +kernel
theorem dL_law_392 : decode cL_law 392 = .ok (.ireturn, 1) := by decide +kernel
theorem dL_law_393 : decode cL_law 393 = .ok (.aload_n 1, 1) := by decide +kernel
theorem dL_law_394 : decode cL_law 394 = .ok (.aload_n 0, 1) := by decide +kernel
theorem dL_law_395 : decode cL_law 395 = .ok (.iload_n 3, 1) := by decide +kernel
theorem dL_law_396 : decode cL_law 396 = .ok (.iconst 1, 1) := by decide +kernel
theorem dL_law_397 : decode cL_law 397 = .ok (.iadd, 1) := by decide +kernel
theorem dL_law_398 : decode cL_law 398 = .ok (.iaload, 1) := by decide +kernel
theorem dL_law_399 : decode cL_law 399 = .ok (.aload_n 0, 1) := by decide +kernel
theorem dL_law_400 : decode cL_law 400 = .ok (.iload_n 3, 1) := by decide +kernel
theorem dL_law_401 : decode cL_law 401 = .ok (.iconst 2, 1) := by decide +kernel
theorem dL_law_402 : decode cL_law 402 = .ok (.iadd, 1) := by decide +kernel
theorem dL_law_403 : decode cL_law 403 = .ok (.iaload, 1) := by decide +kernel
theorem dL_law_404 : decode cL_law 404 = .ok (.invokevirtual 61, 3) := by decide +kernel
theorem dL_law_407 : decode cL_law 407 = .ok (.aload_n 2, 1) := by decide +kernel
theorem dL_law_408 : decode cL_law 408 = .ok (.aload_n 0, 1) := by decide +kernel
theorem dL_law_409 : decode cL_law 409 = .ok (.iload_n 3, 1) := by decide +kernel
theorem dL_law_410 : decode cL_law 410 = .ok (.iconst 1, 1) := by decide +kernel
theorem dL_law_411 : decode cL_law 411 = .ok (.iadd, 1) := by decide +kernel
theorem dL_law_412 : decode cL_law 412 = .ok (.iaload, 1) := by decide +kernel
theorem dL_law_413 : decode cL_law 413 = .ok (.aload_n 0, 1) := by decide +kernel
theorem dL_law_414 : decode cL_law 414 = .ok (.iload_n 3, 1) := by decide +kernel
theorem dL_law_415 : decode cL_law 415 = .ok (.iconst 2, 1) := by decide +kernel
theorem dL_law_416 : decode cL_law 416 = .ok (.iadd, 1) := by decide +kernel
theorem dL_law_417 : decode cL_law 417 = .ok (.iaload, 1) := by decide +kernel
theorem dL_law_418 : decode cL_law 418 = .ok (.invokevirtual 64, 3) := by decide +kernel
theorem dL_law_421 : decode cL_law 421 = .ok (.if_icmp .eq 370, 3) := by decide +kernel
theorem dL_law_424 : decode cL_law 424 = .ok (.iconst 0, 1) := by decide +kernel
theorem dL_law_425 : decode cL_law 425 = .ok (.ireturn, 1) := by decide +kernel
theorem dL_law_426 : decode cL_law 426 = .ok (.aload_n 1, 1) := by decide +kernel
theorem dL_law_427 : decode cL_law 427 = .ok (.aload_n 0, 1) := by decide +kernel
theorem dL_law_428 : decode cL_law 428 = .ok (.iload_n 3, 1) := by decide +kernel
theorem dL_law_429 : decode cL_law 429 = .ok (.iconst 1, 1) := by decide +kernel
theorem dL_law_430 : decode cL_law 430 = .ok (.iadd, 1) := by decide +kernel
theorem dL_law_431 : decode cL_law 431 = .ok (.iaload, 1) := by decide +kernel
theorem dL_law_432 : decode cL_law 432 = .ok (.aload_n 0, 1) := by decide +kernel
theorem dL_law_433 : decode cL_law 433 = .ok (.iload_n 3, 1) := by decide +kernel
theorem dL_law_434 : decode cL_law 434 = .ok (.iconst 2, 1) := by decide +kernel
theorem dL_law_435 : decode cL_law 435 = .ok (.iadd, 1) := by decide +kernel
theorem dL_law_436 : decode cL_law 436 = .ok (.iaload, 1) := by decide +kernel
theorem dL_law_437 : decode cL_law 437 = .ok (.aload_n 0, 1) := by decide +kernel
theorem dL_law_438 : decode cL_law 438 = .ok (.iload_n 3, 1) := by decide +kernel
theorem dL_law_439 : decode cL_law 439 = .ok (.iconst 3, 1) := by decide +kernel
theorem dL_law_440 : decode cL_law 440 = .ok (.iadd, 1) := by decide +kernel
theorem dL_law_441 : decode cL_law 441 = .ok (.iaload, 1) := by decide +kernel
theorem dL_law_442 : decode cL_law 442 = .ok (.invokevirtual 65, 3) := by decide +kernel
theorem dL_law_445 : decode cL_law 445 = .ok (.aload_n 2, 1) := by decide +kernel
theorem dL_law_446 : decode cL_law 446 = .ok (.aload_n 0, 1) := by decide +kernel
theorem dL_law_447 : decode cL_law 447 = .ok (.iload_n 3, 1) := by decide +kernel
theorem dL_law_448 : decode cL_law 448 = .ok (.iconst 1, 1) := by decide +kernel
theorem dL_law_449 : decode cL_law 449 = .ok (.iadd, 1) := by decide +kernel
theorem dL_law_450 : decode cL_law 450 = .ok (.iaload, 1) := by decide +kernel
theorem dL_law_451 : decode cL_law 451 = .ok (.aload_n 0, 1) := by decide +kernel
theorem dL_law_452 : decode cL_law 452 = .ok (.iload_n 3, 1) := by decide +kernel
theorem dL_law_453 : decode cL_law 453 = .ok (.iconst 2, 1) := by decide +kernel
theorem dL_law_454 : decode cL_law 454 = .ok (.iadd, 1) := by decide +kernel
theorem dL_law_455 : decode cL_law 455 = .ok (.iaload, 1) := by decide +kernel
theorem dL_law_456 : decode cL_law 456 = .ok (.aload_n 0, 1) := by decide +kernel
theorem dL_law_457 : decode cL_law 457 = .ok (.iload_n 3, 1) := by decide +kernel
theorem dL_law_458 : decode cL_law 458 = .ok (.iconst 3, 1) := by decide +kernel
theorem dL_law_459 : decode cL_law 459 = .ok (.iadd, 1) := by decide +kernel
theorem dL_law_460 : decode cL_law 460 = .ok (.iaload, 1) := by decide +kernel
theorem dL_law_461 : decode cL_law 461 = .ok (.invokevirtual 69, 3) := by decide +kernel
theorem dL_law_464 : decode cL_law 464 = .ok (.lcmp, 1) := by decide +kernel
theorem dL_law_465 : decode cL_law 465 = .ok (.ifCond .eq 326, 3) := by decide +kernel
theorem dL_law_468 : decode cL_law 468 = .ok (.iconst 0, 1) := by decide +kernel
theorem dL_law_469 : decode cL_law 469 = .ok (.ireturn, 1) := by decide +kernel
theorem dL_law_470 : decode cL_law 470 = .ok (.aload_n 1, 1) := by decide +kernel
theorem dL_law_471 : decode cL_law 471 = .ok (.aload_n 0, 1) := by decide +kernel
theorem dL_law_472 : decode cL_law 472 = .ok (.iload_n 3, 1) := by decide +kernel
theorem dL_law_473 : decode cL_law 473 = .ok (.iconst 1, 1) := by decide +kernel
theorem dL_law_474 : decode cL_law 474 = .ok (.iadd, 1) := by decide +kernel
theorem dL_law_475 : decode cL_law 475 = .ok (.iaload, 1) := by decide +kernel
theorem dL_law_476 : decode cL_law 476 = .ok (.aload_n 0, 1) := by decide +kernel
theorem dL_law_477 : decode cL_law 477 = .ok (.iload_n 3, 1) := by decide +kernel
theorem dL_law_478 : decode cL_law 478 = .ok (.iconst 2, 1) := by decide +kernel
theorem dL_law_479 : decode cL_law 479 = .ok (.iadd, 1) := by decide +kernel
theorem dL_law_480 : decode cL_law 480 = .ok (.iaload, 1) := by decide +kernel
theorem dL_law_481 : decode cL_law 481 = .ok (.aload_n 0, 1) := by decide +kernel
theorem dL_law_482 : decode cL_law 482 = .ok (.iload_n 3, 1) := by decide +kernel
theorem dL_law_483 : decode cL_law 483 = .ok (.iconst 3, 1) := by decide +kernel
theorem dL_law_484 : decode cL_law 484 = .ok (.iadd, 1) := by decide +kernel
theorem dL_law_485 : decode cL_law 485 = .ok (.iaload, 1) := by decide +kernel
theorem dL_law_486 : decode cL_law 486 = .ok (.invokevirtual 70, 3) := by decide +kernel
theorem dL_law_489 : decode cL_law 489 = .ok (.aload_n 2, 1) := by decide +kernel
theorem dL_law_490 : decode cL_law 490 = .ok (.aload_n 0, 1) := by decide +kernel
theorem dL_law_491 : decode cL_law 491 = .ok (.iload_n 3, 1) := by decide +kernel
theorem dL_law_492 : decode cL_law 492 = .ok (.iconst 1, 1) := by decide +kernel
theorem dL_law_493 : decode cL_law 493 = .ok (.iadd, 1) := by decide +kernel
theorem dL_law_494 : decode cL_law 494 = .ok (.iaload, 1) := by decide +kernel
theorem dL_law_495 : decode cL_law 495 = .ok (.aload_n 0, 1) := by decide +kernel
theorem dL_law_496 : decode cL_law 496 = .ok (.iload_n 3, 1) := by decide +kernel
theorem dL_law_497 : decode cL_law 497 = .ok (.iconst 2, 1) := by decide +kernel
theorem dL_law_498 : decode cL_law 498 = .ok (.iadd, 1) := by decide +kernel
theorem dL_law_499 : decode cL_law 499 = .ok (.iaload, 1) := by decide +kernel
theorem dL_law_500 : decode cL_law 500 = .ok (.aload_n 0, 1) := by decide +kernel
theorem dL_law_501 : decode cL_law 501 = .ok (.iload_n 3, 1) := by decide +kernel
theorem dL_law_502 : decode cL_law 502 = .ok (.iconst 3, 1) := by decide +kernel
theorem dL_law_503 : decode cL_law 503 = .ok (.iadd, 1) := by decide +kernel
theorem dL_law_504 : decode cL_law 504 = .ok (.iaload, 1) := by decide +kernel
theorem dL_law_505 : decode cL_law 505 = .ok (.invokevirtual 73, 3) := by decide +kernel
theorem dL_law_508 : decode cL_law 508 = .ok (.lcmp, 1) := by decide +kernel
theorem dL_law_509 : decode cL_law 509 = .ok (.ifCond .eq 282, 3) := by decide +kernel
theorem dL_law_512 : decode cL_law 512 = .ok (.iconst 0, 1) := by decide +kernel
theorem dL_law_513 : decode cL_law 513 = .ok (.ireturn, 1) := by decide +kernel
theorem dL_law_514 : decode cL_law 514 = .ok (.aload_n 1, 1) := by decide +kernel
theorem dL_law_515 : decode cL_law 515 = .ok (.invokevirtual 74, 3) := by decide +kernel
theorem dL_law_518 : decode cL_law 518 = .ok (.aload_n 2, 1) := by decide +kernel
theorem dL_law_519 : decode cL_law 519 = .ok (.invokevirtual 77, 3) := by decide +kernel
theorem dL_law_522 : decode cL_law 522 = .ok (.if_icmp .eq 269, 3) := by decide +kernel
theorem dL_law_525 : decode cL_law 525 = .ok (.iconst 0, 1) := by decide +kernel
theorem dL_law_526 : decode cL_law 526 = .ok (.ireturn, 1) := by decide +kernel
theorem dL_law_527 : decode cL_law 527 = .ok (.aload_n 1, 1) := by decide +kernel
theorem dL_law_528 : decode cL_law 528 = .ok (.aload_n 0, 1) := by decide +kernel
theorem dL_law_529 : decode cL_law 529 = .ok (.iload_n 3, 1) := by decide +kernel
theorem dL_law_530 : decode cL_law 530 = .ok (.iconst 1, 1) := by decide +kernel
theorem dL_law_531 : decode cL_law 531 = .ok (.iadd, 1) := by decide +kernel
theorem dL_law_532 : decode cL_law 532 = .ok (.iaload, 1) := by decide +kernel
theorem dL_law_533 : decode cL_law 533 = .ok (.aload_n 0, 1) := by decide +kernel
theorem dL_law_534 : decode cL_law 534 = .ok (.iload_n 3, 1) := by decide +kernel
theorem dL_law_535 : decode cL_law 535 = .ok (.iconst 2, 1) := by decide +kernel
theorem dL_law_536 : decode cL_law 536 = .ok (.iadd, 1) := by decide +kernel
theorem dL_law_537 : decode cL_law 537 = .ok (.iaload, 1) := by decide +kernel
theorem dL_law_538 : decode cL_law 538 = .ok (.invokevirtual 78, 3) := by decide +kernel
theorem dL_law_541 : decode cL_law 541 = .ok (.aload_n 2, 1) := by decide +kernel
theorem dL_law_542 : decode cL_law 542 = .ok (.aload_n 0, 1) := by decide +kernel
theorem dL_law_543 : decode cL_law 543 = .ok (.iload_n 3, 1) := by decide +kernel
theorem dL_law_544 : decode cL_law 544 = .ok (.iconst 1, 1) := by decide +kernel
theorem dL_law_545 : decode cL_law 545 = .ok (.iadd, 1) := by decide +kernel
theorem dL_law_546 : decode cL_law 546 = .ok (.iaload, 1) := by decide +kernel
theorem dL_law_547 : decode cL_law 547 = .ok (.aload_n 0, 1) := by decide +kernel
theorem dL_law_548 : decode cL_law 548 = .ok (.iload_n 3, 1) := by decide +kernel
theorem dL_law_549 : decode cL_law 549 = .ok (.iconst 2, 1) := by decide +kernel
theorem dL_law_550 : decode cL_law 550 = .ok (.iadd, 1) := by decide +kernel
theorem dL_law_551 : decode cL_law 551 = .ok (.iaload, 1) := by decide +kernel
theorem dL_law_552 : decode cL_law 552 = .ok (.invokevirtual 81, 3) := by decide +kernel
theorem dL_law_555 : decode cL_law 555 = .ok (.if_icmp .eq 236, 3) := by decide +kernel
theorem dL_law_558 : decode cL_law 558 = .ok (.iconst 0, 1) := by decide +kernel
theorem dL_law_559 : decode cL_law 559 = .ok (.ireturn, 1) := by decide +kernel
theorem dL_law_560 : decode cL_law 560 = .ok (.aload_n 1, 1) := by decide +kernel
theorem dL_law_561 : decode cL_law 561 = .ok (.aload_n 0, 1) := by decide +kernel
theorem dL_law_562 : decode cL_law 562 = .ok (.iload_n 3, 1) := by decide +kernel
theorem dL_law_563 : decode cL_law 563 = .ok (.iconst 1, 1) := by decide +kernel
theorem dL_law_564 : decode cL_law 564 = .ok (.iadd, 1) := by decide +kernel
theorem dL_law_565 : decode cL_law 565 = .ok (.iaload, 1) := by decide +kernel
theorem dL_law_566 : decode cL_law 566 = .ok (.aload_n 0, 1) := by decide +kernel
theorem dL_law_567 : decode cL_law 567 = .ok (.iload_n 3, 1) := by decide +kernel
theorem dL_law_568 : decode cL_law 568 = .ok (.iconst 2, 1) := by decide +kernel
theorem dL_law_569 : decode cL_law 569 = .ok (.iadd, 1) := by decide +kernel
theorem dL_law_570 : decode cL_law 570 = .ok (.iaload, 1) := by decide +kernel
theorem dL_law_571 : decode cL_law 571 = .ok (.aload_n 0, 1) := by decide +kernel
theorem dL_law_572 : decode cL_law 572 = .ok (.iload_n 3, 1) := by decide +kernel
theorem dL_law_573 : decode cL_law 573 = .ok (.iconst 3, 1) := by decide +kernel
theorem dL_law_574 : decode cL_law 574 = .ok (.iadd, 1) := by decide +kernel
theorem dL_law_575 : decode cL_law 575 = .ok (.iaload, 1) := by decide +kernel
theorem dL_law_576 : decode cL_law 576 = .ok (.invokevirtual 82, 3) := by decide +kernel
theorem dL_law_579 : decode cL_law 579 = .ok (.aload_n 2, 1) := by decide +kernel
theorem dL_law_580 : decode cL_law 580 = .ok (.aload_n 0, 1) := by decide +kernel
theorem dL_law_581 : decode cL_law 581 = .ok (.iload_n 3, 1) := by decide +kernel
theorem dL_law_582 : decode cL_law 582 = .ok (.iconst 1, 1) := by decide +kernel
theorem dL_law_583 : decode cL_law 583 = .ok (.iadd, 1) := by decide +kernel
theorem dL_law_584 : decode cL_law 584 = .ok (.iaload, 1) := by decide +kernel
theorem dL_law_585 : decode cL_law 585 = .ok (.aload_n 0, 1) := by decide +kernel
theorem dL_law_586 : decode cL_law 586 = .ok (.iload_n 3, 1) := by decide +kernel
theorem dL_law_587 : decode cL_law 587 = .ok (.iconst 2, 1) := by decide +kernel
theorem dL_law_588 : decode cL_law 588 = .ok (.iadd, 1) := by decide +kernel
theorem dL_law_589 : decode cL_law 589 = .ok (.iaload, 1) := by decide +kernel
theorem dL_law_590 : decode cL_law 590 = .ok (.aload_n 0, 1) := by decide +kernel
theorem dL_law_591 : decode cL_law 591 = .ok (.iload_n 3, 1) := by decide +kernel
theorem dL_law_592 : decode cL_law 592 = .ok (.iconst 3, 1) := by decide +kernel
theorem dL_law_593 : decode cL_law 593 = .ok (.iadd, 1) := by decide +kernel
theorem dL_law_594 : decode cL_law 594 = .ok (.iaload, 1) := by decide +kernel
theorem dL_law_595 : decode cL_law 595 = .ok (.invokevirtual 85, 3) := by decide +kernel
theorem dL_law_598 : decode cL_law 598 = .ok (.if_icmp .eq 193, 3) := by decide +kernel
theorem dL_law_601 : decode cL_law 601 = .ok (.iconst 0, 1) := by decide +kernel
theorem dL_law_602 : decode cL_law 602 = .ok (.ireturn, 1) := by decide +kernel
theorem dL_law_603 : decode cL_law 603 = .ok (.aload_n 1, 1) := by decide +kernel
theorem dL_law_604 : decode cL_law 604 = .ok (.aload_n 0, 1) := by decide +kernel
theorem dL_law_605 : decode cL_law 605 = .ok (.iload_n 3, 1) := by decide +kernel
theorem dL_law_606 : decode cL_law 606 = .ok (.iconst 1, 1) := by decide +kernel
theorem dL_law_607 : decode cL_law 607 = .ok (.iadd, 1) := by decide +kernel
theorem dL_law_608 : decode cL_law 608 = .ok (.iaload, 1) := by decide +kernel
theorem dL_law_609 : decode cL_law 609 = .ok (.aload_n 0, 1) := by decide +kernel
theorem dL_law_610 : decode cL_law 610 = .ok (.iload_n 3, 1) := by decide +kernel
theorem dL_law_611 : decode cL_law 611 = .ok (.iconst 2, 1) := by decide +kernel
theorem dL_law_612 : decode cL_law 612 = .ok (.iadd, 1) := by decide +kernel
theorem dL_law_613 : decode cL_law 613 = .ok (.iaload, 1) := by decide +kernel
theorem dL_law_614 : decode cL_law 614 = .ok (.invokevirtual 86, 3) := by decide +kernel
theorem dL_law_617 : decode cL_law 617 = .ok (.aload_n 2, 1) := by decide +kernel
theorem dL_law_618 : decode cL_law 618 = .ok (.aload_n 0, 1) := by decide +kernel
theorem dL_law_619 : decode cL_law 619 = .ok (.iload_n 3, 1) := by decide +kernel
theorem dL_law_620 : decode cL_law 620 = .ok (.iconst 1, 1) := by decide +kernel
theorem dL_law_621 : decode cL_law 621 = .ok (.iadd, 1) := by decide +kernel
theorem dL_law_622 : decode cL_law 622 = .ok (.iaload, 1) := by decide +kernel
theorem dL_law_623 : decode cL_law 623 = .ok (.aload_n 0, 1) := by decide +kernel
theorem dL_law_624 : decode cL_law 624 = .ok (.iload_n 3, 1) := by decide +kernel
theorem dL_law_625 : decode cL_law 625 = .ok (.iconst 2, 1) := by decide +kernel
theorem dL_law_626 : decode cL_law 626 = .ok (.iadd, 1) := by decide +kernel
theorem dL_law_627 : decode cL_law 627 = .ok (.iaload, 1) := by decide +kernel
theorem dL_law_628 : decode cL_law 628 = .ok (.invokevirtual 89, 3) := by decide +kernel
theorem dL_law_631 : decode cL_law 631 = .ok (.if_icmp .eq 160, 3) := by decide +kernel
theorem dL_law_634 : decode cL_law 634 = .ok (.iconst 0, 1) := by decide +kernel
theorem dL_law_635 : decode cL_law 635 = .ok (.ireturn, 1) := by decide +kernel
theorem dL_law_636 : decode cL_law 636 = .ok (.aload_n 1, 1) := by decide +kernel
theorem dL_law_637 : decode cL_law 637 = .ok (.aload_n 0, 1) := by decide +kernel
theorem dL_law_638 : decode cL_law 638 = .ok (.iload_n 3, 1) := by decide +kernel
theorem dL_law_639 : decode cL_law 639 = .ok (.iconst 1, 1) := by decide +kernel
theorem dL_law_640 : decode cL_law 640 = .ok (.iadd, 1) := by decide +kernel
theorem dL_law_641 : decode cL_law 641 = .ok (.iaload, 1) := by decide +kernel
theorem dL_law_642 : decode cL_law 642 = .ok (.invokevirtual 90, 3) := by decide +kernel
theorem dL_law_645 : decode cL_law 645 = .ok (.aload_n 2, 1) := by decide +kernel
theorem dL_law_646 : decode cL_law 646 = .ok (.aload_n 0, 1) := by decide +kernel
theorem dL_law_647 : decode cL_law 647 = .ok (.iload_n 3, 1) := by decide +kernel
theorem dL_law_648 : decode cL_law 648 = .ok (.iconst 1, 1) := by decide +kernel
theorem dL_law_649 : decode cL_law 649 = .ok (.iadd, 1) := by decide +kernel
theorem dL_law_650 : decode cL_law 650 = .ok (.iaload, 1) := by decide +kernel
theorem dL_law_651 : decode cL_law 651 = .ok (.invokevirtual 93, 3) := by decide +kernel
theorem dL_law_654 : decode cL_law 654 = .ok (.if_icmp .eq 137, 3) := by decide +kernel
theorem dL_law_657 : decode cL_law 657 = .ok (.iconst 0, 1) := by decide +kernel
theorem dL_law_658 : decode cL_law 658 = .ok (.ireturn, 1) := by decide +kernel
theorem dL_law_659 : decode cL_law 659 = .ok (.aload_n 1, 1) := by decide +kernel
theorem dL_law_660 : decode cL_law 660 = .ok (.aload_n 0, 1) := by decide +kernel
theorem dL_law_661 : decode cL_law 661 = .ok (.iload_n 3, 1) := by decide +kernel
theorem dL_law_662 : decode cL_law 662 = .ok (.iconst 1, 1) := by decide +kernel
theorem dL_law_663 : decode cL_law 663 = .ok (.iadd, 1) := by decide +kernel
theorem dL_law_664 : decode cL_law 664 = .ok (.iaload, 1) := by decide +kernel
theorem dL_law_665 : decode cL_law 665 = .ok (.aload_n 0, 1) := by decide +kernel
theorem dL_law_666 : decode cL_law 666 = .ok (.iload_n 3, 1) := by decide +kernel
theorem dL_law_667 : decode cL_law 667 = .ok (.iconst 2, 1) := by decide +kernel
theorem dL_law_668 : decode cL_law 668 = .ok (.iadd, 1) := by decide +kernel
theorem dL_law_669 : decode cL_law 669 = .ok (.iaload, 1) := by decide +kernel
theorem dL_law_670 : decode cL_law 670 = .ok (.invokevirtual 94, 3) := by decide +kernel
theorem dL_law_673 : decode cL_law 673 = .ok (.aload_n 2, 1) := by decide +kernel
theorem dL_law_674 : decode cL_law 674 = .ok (.aload_n 0, 1) := by decide +kernel
theorem dL_law_675 : decode cL_law 675 = .ok (.iload_n 3, 1) := by decide +kernel
theorem dL_law_676 : decode cL_law 676 = .ok (.iconst 1, 1) := by decide +kernel
theorem dL_law_677 : decode cL_law 677 = .ok (.iadd, 1) := by decide +kernel
theorem dL_law_678 : decode cL_law 678 = .ok (.iaload, 1) := by decide +kernel
theorem dL_law_679 : decode cL_law 679 = .ok (.aload_n 0, 1) := by decide +kernel
theorem dL_law_680 : decode cL_law 680 = .ok (.iload_n 3, 1) := by decide +kernel
theorem dL_law_681 : decode cL_law 681 = .ok (.iconst 2, 1) := by decide +kernel
theorem dL_law_682 : decode cL_law 682 = .ok (.iadd, 1) := by decide +kernel
theorem dL_law_683 : decode cL_law 683 = .ok (.iaload, 1) := by decide +kernel
theorem dL_law_684 : decode cL_law 684 = .ok (.invokevirtual 97, 3) := by decide +kernel
theorem dL_law_687 : decode cL_law 687 = .ok (.if_icmp .eq 104, 3) := by decide +kernel
theorem dL_law_690 : decode cL_law 690 = .ok (.iconst 0, 1) := by decide +kernel
theorem dL_law_691 : decode cL_law 691 = .ok (.ireturn, 1) := by decide +kernel
theorem dL_law_692 : decode cL_law 692 = .ok (.aload_n 1, 1) := by decide +kernel
theorem dL_law_693 : decode cL_law 693 = .ok (.aload_n 0, 1) := by decide +kernel
theorem dL_law_694 : decode cL_law 694 = .ok (.iload_n 3, 1) := by decide +kernel
theorem dL_law_695 : decode cL_law 695 = .ok (.iconst 1, 1) := by decide +kernel
theorem dL_law_696 : decode cL_law 696 = .ok (.iadd, 1) := by decide +kernel
theorem dL_law_697 : decode cL_law 697 = .ok (.iaload, 1) := by decide +kernel
theorem dL_law_698 : decode cL_law 698 = .ok (.aload_n 0, 1) := by decide +kernel
theorem dL_law_699 : decode cL_law 699 = .ok (.iload_n 3, 1) := by decide +kernel
theorem dL_law_700 : decode cL_law 700 = .ok (.iconst 2, 1) := by decide +kernel
theorem dL_law_701 : decode cL_law 701 = .ok (.iadd, 1) := by decide +kernel
theorem dL_law_702 : decode cL_law 702 = .ok (.iaload, 1) := by decide +kernel
theorem dL_law_703 : decode cL_law 703 = .ok (.invokevirtual 98, 3) := by decide +kernel
theorem dL_law_706 : decode cL_law 706 = .ok (.aload_n 2, 1) := by decide +kernel
theorem dL_law_707 : decode cL_law 707 = .ok (.aload_n 0, 1) := by decide +kernel
theorem dL_law_708 : decode cL_law 708 = .ok (.iload_n 3, 1) := by decide +kernel
theorem dL_law_709 : decode cL_law 709 = .ok (.iconst 1, 1) := by decide +kernel
theorem dL_law_710 : decode cL_law 710 = .ok (.iadd, 1) := by decide +kernel
theorem dL_law_711 : decode cL_law 711 = .ok (.iaload, 1) := by decide +kernel
theorem dL_law_712 : decode cL_law 712 = .ok (.aload_n 0, 1) := by decide +kernel
theorem dL_law_713 : decode cL_law 713 = .ok (.iload_n 3, 1) := by decide +kernel
theorem dL_law_714 : decode cL_law 714 = .ok (.iconst 2, 1) := by decide +kernel
theorem dL_law_715 : decode cL_law 715 = .ok (.iadd, 1) := by decide +kernel
theorem dL_law_716 : decode cL_law 716 = .ok (.iaload, 1) := by decide +kernel
theorem dL_law_717 : decode cL_law 717 = .ok (.invokevirtual 101, 3) := by decide +kernel
theorem dL_law_720 : decode cL_law 720 = .ok (.if_icmp .eq 71, 3) := by decide +kernel
theorem dL_law_723 : decode cL_law 723 = .ok (.iconst 0, 1) := by decide +kernel
theorem dL_law_724 : decode cL_law 724 = .ok (.ireturn, 1) := by decide +kernel
theorem dL_law_725 : decode cL_law 725 = .ok (.aload_n 1, 1) := by decide +kernel
theorem dL_law_726 : decode cL_law 726 = .ok (.aload_n 0, 1) := by decide +kernel
theorem dL_law_727 : decode cL_law 727 = .ok (.iload_n 3, 1) := by decide +kernel
theorem dL_law_728 : decode cL_law 728 = .ok (.iconst 1, 1) := by decide +kernel
theorem dL_law_729 : decode cL_law 729 = .ok (.iadd, 1) := by decide +kernel
theorem dL_law_730 : decode cL_law 730 = .ok (.iaload, 1) := by decide +kernel
theorem dL_law_731 : decode cL_law 731 = .ok (.aload_n 0, 1) := by decide +kernel
theorem dL_law_732 : decode cL_law 732 = .ok (.iload_n 3, 1) := by decide +kernel
theorem dL_law_733 : decode cL_law 733 = .ok (.iconst 2, 1) := by decide +kernel
theorem dL_law_734 : decode cL_law 734 = .ok (.iadd, 1) := by decide +kernel
theorem dL_law_735 : decode cL_law 735 = .ok (.iaload, 1) := by decide +kernel
theorem dL_law_736 : decode cL_law 736 = .ok (.aload_n 0, 1) := by decide +kernel
theorem dL_law_737 : decode cL_law 737 = .ok (.iload_n 3, 1) := by decide +kernel
theorem dL_law_738 : decode cL_law 738 = .ok (.iconst 3, 1) := by decide +kernel
theorem dL_law_739 : decode cL_law 739 = .ok (.iadd, 1) := by decide +kernel
theorem dL_law_740 : decode cL_law 740 = .ok (.iaload, 1) := by decide +kernel
theorem dL_law_741 : decode cL_law 741 = .ok (.invokevirtual 102, 3) := by decide +kernel
theorem dL_law_744 : decode cL_law 744 = .ok (.aload_n 2, 1) := by decide +kernel
theorem dL_law_745 : decode cL_law 745 = .ok (.aload_n 0, 1) := by decide +kernel
theorem dL_law_746 : decode cL_law 746 = .ok (.iload_n 3, 1) := by decide +kernel
theorem dL_law_747 : decode cL_law 747 = .ok (.iconst 1, 1) := by decide +kernel
theorem dL_law_748 : decode cL_law 748 = .ok (.iadd, 1) := by decide +kernel
theorem dL_law_749 : decode cL_law 749 = .ok (.iaload, 1) := by decide +kernel
theorem dL_law_750 : decode cL_law 750 = .ok (.aload_n 0, 1) := by decide +kernel
theorem dL_law_751 : decode cL_law 751 = .ok (.iload_n 3, 1) := by decide +kernel
theorem dL_law_752 : decode cL_law 752 = .ok (.iconst 2, 1) := by decide +kernel
theorem dL_law_753 : decode cL_law 753 = .ok (.iadd, 1) := by decide +kernel
theorem dL_law_754 : decode cL_law 754 = .ok (.iaload, 1) := by decide +kernel
theorem dL_law_755 : decode cL_law 755 = .ok (.aload_n 0, 1) := by decide +kernel
theorem dL_law_756 : decode cL_law 756 = .ok (.iload_n 3, 1) := by decide +kernel
theorem dL_law_757 : decode cL_law 757 = .ok (.iconst 3, 1) := by decide +kernel
theorem dL_law_758 : decode cL_law 758 = .ok (.iadd, 1) := by decide +kernel
theorem dL_law_759 : decode cL_law 759 = .ok (.iaload, 1) := by decide +kernel
theorem dL_law_760 : decode cL_law 760 = .ok (.invokevirtual 105, 3) := by decide +kernel
theorem dL_law_763 : decode cL_law 763 = .ok (.if_icmp .eq 28, 3) := by decide +kernel
theorem dL_law_766 : decode cL_law 766 = .ok (.iconst 0, 1) := by decide +kernel
theorem dL_law_767 : decode cL_law 767 = .ok (.ireturn, 1) := by decide +kernel
theorem dL_law_768 : decode cL_law 768 = .ok (.aload_n 1, 1) := by decide +kernel
theorem dL_law_769 : decode cL_law 769 = .ok (.aload_n 0, 1) := by decide +kernel
theorem dL_law_770 : decode cL_law 770 = .ok (.iload_n 3, 1) := by decide +kernel
theorem dL_law_771 : decode cL_law 771 = .ok (.iconst 1, 1) := by decide +kernel
theorem dL_law_772 : decode cL_law 772 = .ok (.iadd, 1) := by decide +kernel
theorem dL_law_773 : decode cL_law 773 = .ok (.iaload, 1) := by decide +kernel
theorem dL_law_774 : decode cL_law 774 = .ok (.invokevirtual 106, 3) := by decide +kernel
theorem dL_law_777 : decode cL_law 777 = .ok (.aload_n 2, 1) := by decide +kernel
theorem dL_law_778 : decode cL_law 778 = .ok (.aload_n 0, 1) := by decide +kernel
theorem dL_law_779 : decode cL_law 779 = .ok (.iload_n 3, 1) := by decide +kernel
theorem dL_law_780 : decode cL_law 780 = .ok (.iconst 1, 1) := by decide +kernel
theorem dL_law_781 : decode cL_law 781 = .ok (.iadd, 1) := by decide +kernel
theorem dL_law_782 : decode cL_law 782 = .ok (.iaload, 1) := by decide +kernel
theorem dL_law_783 : decode cL_law 783 = .ok (.invokevirtual 109, 3) := by decide +kernel
theorem dL_law_786 : decode cL_law 786 = .ok (.if_icmp .eq 5, 3) := by decide +kernel
theorem dL_law_789 : decode cL_law 789 = .ok (.iconst 0, 1) := by decide +kernel
theorem dL_law_790 : decode cL_law 790 = .ok (.ireturn, 1) := by decide +kernel
theorem dL_law_791 : decode cL_law 791 = .ok (.iinc 3 4, 3) := by decide +kernel
theorem dL_law_794 : decode cL_law 794 = .ok (.goto (-776), 3) := by decide +kernel
theorem dL_law_797 : decode cL_law 797 = .ok (.iconst 1, 1) := by decide +kernel
theorem dL_law_798 : decode cL_law 798 = .ok (.ireturn, 1) := by decide +kernel
abbrev vwCl : List vw_C := [(RX0, TX0, 2), (RX2, TX2, 9), (RX3, TX3, 4), (RX4, TX4, 4), (RX5, TX5, 2), (RX6, TX6, 4), (RX7, TX7, 2), (RX8, TX8, 7), (RX9, TX9, 2), (RX10, TX10, 9), (RX11, TX11, 17)]
