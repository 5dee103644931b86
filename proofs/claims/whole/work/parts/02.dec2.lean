theorem dX11_share_3 : decode cX11_share 3 = .ok (.lconst 0, 1) := by decide +kernel
theorem dX11_share_4 : decode cX11_share 4 = .ok (.lstore_n 3, 1) := by decide +kernel
theorem dX11_share_5 : decode cX11_share 5 = .ok (.lconst 1, 1) := by decide +kernel
theorem dX11_share_6 : decode cX11_share 6 = .ok (.lstore 5, 2) := by decide +kernel
theorem dX11_share_8 : decode cX11_share 8 = .ok (.iconst 0, 1) := by decide +kernel
theorem dX11_share_9 : decode cX11_share 9 = .ok (.istore 7, 2) := by decide +kernel
theorem dX11_share_11 : decode cX11_share 11 = .ok (.iload 7, 2) := by decide +kernel
theorem dX11_share_13 : decode cX11_share 13 = .ok (.bipush 8, 2) := by decide +kernel
theorem dX11_share_15 : decode cX11_share 15 = .ok (.if_icmp .ge 63, 3) := by decide +kernel
theorem dX11_share_18 : decode cX11_share 18 = .ok (.aload_n 0, 1) := by decide +kernel
theorem dX11_share_19 : decode cX11_share 19 = .ok (.iload 7, 2) := by decide +kernel
theorem dX11_share_21 : decode cX11_share 21 = .ok (.invokevirtual 79, 3) := by decide +kernel
theorem dX11_share_24 : decode cX11_share 24 = .ok (.ifCond .eq 48, 3) := by decide +kernel
theorem dX11_share_27 : decode cX11_share 27 = .ok (.aload_n 0, 1) := by decide +kernel
theorem dX11_share_28 : decode cX11_share 28 = .ok (.iload_n 1, 1) := by decide +kernel
theorem dX11_share_29 : decode cX11_share 29 = .ok (.iload 7, 2) := by decide +kernel
theorem dX11_share_31 : decode cX11_share 31 = .ok (.invokevirtual 106, 3) := by decide +kernel
theorem dX11_share_34 : decode cX11_share 34 = .ok (.ifCond .eq 38, 3) := by decide +kernel
theorem dX11_share_37 : decode cX11_share 37 = .ok (.iload_n 2, 1) := by decide +kernel
theorem dX11_share_38 : decode cX11_share 38 = .ok (.ifCond .lt 20, 3) := by decide +kernel
theorem dX11_share_41 : decode cX11_share 41 = .ok (.aload_n 0, 1) := by decide +kernel
theorem dX11_share_42 : decode cX11_share 42 = .ok (.getfield 99, 3) := by decide +kernel
theorem dX11_share_45 : decode cX11_share 45 = .ok (.lload 5, 2) := by decide +kernel
theorem dX11_share_47 : decode cX11_share 47 = .ok (.lmul, 1) := by decide +kernel
theorem dX11_share_48 : decode cX11_share 48 = .ok (.lload_n 3, 1) := by decide +kernel
theorem dX11_share_49 : decode cX11_share 49 = .ok (.aload_n 0, 1) := by decide +kernel
theorem dX11_share_50 : decode cX11_share 50 = .ok (.getfield 103, 3) := by decide +kernel
theorem dX11_share_53 : decode cX11_share 53 = .ok (.lmul, 1) := by decide +kernel
theorem dX11_share_54 : decode cX11_share 54 = .ok (.lcmp, 1) := by decide +kernel
theorem dX11_share_55 : decode cX11_share 55 = .ok (.ifCond .ge 17, 3) := by decide +kernel
theorem dX11_share_58 : decode cX11_share 58 = .ok (.iload 7, 2) := by decide +kernel
theorem dX11_share_60 : decode cX11_share 60 = .ok (.istore_n 2, 1) := by decide +kernel
theorem dX11_share_61 : decode cX11_share 61 = .ok (.aload_n 0, 1) := by decide +kernel
theorem dX11_share_62 : decode cX11_share 62 = .ok (.getfield 99, 3) := by decide +kernel
theorem dX11_share_65 : decode cX11_share 65 = .ok (.lstore_n 3, 1) := by decide +kernel
theorem dX11_share_66 : decode cX11_share 66 = .ok (.aload_n 0, 1) := by decide +kernel
theorem dX11_share_67 : decode cX11_share 67 = .ok (.getfield 103, 3) := by decide +kernel
theorem dX11_share_70 : decode cX11_share 70 = .ok (.lstore 5, 2) := by decide +kernel
theorem dX11_share_72 : decode cX11_share 72 = .ok (.iinc 7 1, 3) := by decide +kernel
theorem dX11_share_75 : decode cX11_share 75 = .ok (.goto (-64), 3) := by decide +kernel
theorem dX11_share_78 : decode cX11_share 78 = .ok (.aload_n 0, 1) := by decide +kernel
theorem dX11_share_79 : decode cX11_share 79 = .ok (.iload_n 1, 1) := by decide +kernel
theorem dX11_share_80 : decode cX11_share 80 = .ok (.lload 5, 2) := by decide +kernel
theorem dX11_share_82 : decode cX11_share 82 = .ok (.invokevirtual 85, 3) := by decide +kernel
theorem dX11_share_85 : decode cX11_share 85 = .ok (.iconst 0, 1) := by decide +kernel
theorem dX11_share_86 : decode cX11_share 86 = .ok (.istore 7, 2) := by decide +kernel
theorem dX11_share_88 : decode cX11_share 88 = .ok (.iload 7, 2) := by decide +kernel
theorem dX11_share_90 : decode cX11_share 90 = .ok (.aload_n 0, 1) := by decide +kernel
theorem dX11_share_91 : decode cX11_share 91 = .ok (.getfield 39, 3) := by decide +kernel
theorem dX11_share_94 : decode cX11_share 94 = .ok (.if_icmp .ge 73, 3) := by decide +kernel
theorem dX11_share_97 : decode cX11_share 97 = .ok (.iload_n 2, 1) := by decide +kernel
theorem dX11_share_98 : decode cX11_share 98 = .ok (.ifCond .lt 69, 3) := by decide +kernel
theorem dX11_share_101 : decode cX11_share 101 = .ok (.aload_n 0, 1) := by decide +kernel
theorem dX11_share_102 : decode cX11_share 102 = .ok (.getfield 7, 3) := by decide +kernel
theorem dX11_share_105 : decode cX11_share 105 = .ok (.iload 7, 2) := by decide +kernel
theorem dX11_share_107 : decode cX11_share 107 = .ok (.iaload, 1) := by decide +kernel
theorem dX11_share_108 : decode cX11_share 108 = .ok (.iload_n 2, 1) := by decide +kernel
theorem dX11_share_109 : decode cX11_share 109 = .ok (.ishr, 1) := by decide +kernel
theorem dX11_share_110 : decode cX11_share 110 = .ok (.iconst 1, 1) := by decide +kernel
theorem dX11_share_111 : decode cX11_share 111 = .ok (.iand, 1) := by decide +kernel
theorem dX11_share_112 : decode cX11_share 112 = .ok (.iconst 1, 1) := by decide +kernel
theorem dX11_share_113 : decode cX11_share 113 = .ok (.if_icmp .ne 48, 3) := by decide +kernel
theorem dX11_share_116 : decode cX11_share 116 = .ok (.aload_n 0, 1) := by decide +kernel
theorem dX11_share_117 : decode cX11_share 117 = .ok (.getfield 32, 3) := by decide +kernel
theorem dX11_share_120 : decode cX11_share 120 = .ok (.bipush 7, 2) := by decide +kernel
theorem dX11_share_122 : decode cX11_share 122 = .ok (.iload_n 1, 1) := by decide +kernel
theorem dX11_share_123 : decode cX11_share 123 = .ok (.iconst 1, 1) := by decide +kernel
theorem dX11_share_124 : decode cX11_share 124 = .ok (.iadd, 1) := by decide +kernel
theorem dX11_share_125 : decode cX11_share 125 = .ok (.imul, 1) := by decide +kernel
theorem dX11_share_126 : decode cX11_share 126 = .ok (.iload 7, 2) := by decide +kernel
theorem dX11_share_128 : decode cX11_share 128 = .ok (.iadd, 1) := by decide +kernel
theorem dX11_share_129 : decode cX11_share 129 = .ok (.laload, 1) := by decide +kernel
theorem dX11_share_130 : decode cX11_share 130 = .ok (.lload_n 3, 1) := by decide +kernel
theorem dX11_share_131 : decode cX11_share 131 = .ok (.lsub, 1) := by decide +kernel
theorem dX11_share_132 : decode cX11_share 132 = .ok (.lstore 8, 2) := by decide +kernel
theorem dX11_share_134 : decode cX11_share 134 = .ok (.aload_n 0, 1) := by decide +kernel
theorem dX11_share_135 : decode cX11_share 135 = .ok (.getfield 32, 3) := by decide +kernel
theorem dX11_share_138 : decode cX11_share 138 = .ok (.bipush 7, 2) := by decide +kernel
theorem dX11_share_140 : decode cX11_share 140 = .ok (.iload_n 1, 1) := by decide +kernel
theorem dX11_share_141 : decode cX11_share 141 = .ok (.iconst 1, 1) := by decide +kernel
theorem dX11_share_142 : decode cX11_share 142 = .ok (.iadd, 1) := by decide +kernel
theorem dX11_share_143 : decode cX11_share 143 = .ok (.imul, 1) := by decide +kernel
theorem dX11_share_144 : decode cX11_share 144 = .ok (.iload 7, 2) := by decide +kernel
theorem dX11_share_146 : decode cX11_share 146 = .ok (.iadd, 1) := by decide +kernel
theorem dX11_share_147 : decode cX11_share 147 = .ok (.lload 8, 2) := by decide +kernel
theorem dX11_share_149 : decode cX11_share 149 = .ok (.lconst 0, 1) := by decide +kernel
theorem dX11_share_150 : decode cX11_share 150 = .ok (.lcmp, 1) := by decide +kernel
theorem dX11_share_151 : decode cX11_share 151 = .ok (.ifCond .ge 7, 3) := by decide +kernel
theorem dX11_share_154 : decode cX11_share 154 = .ok (.lconst 0, 1) := by decide +kernel
theorem dX11_share_155 : decode cX11_share 155 = .ok (.goto 5, 3) := by decide +kernel
theorem dX11_share_158 : decode cX11_share 158 = .ok (.lload 8, 2) := by decide +kernel
theorem dX11_share_160 : decode cX11_share 160 = .ok (.lastore, 1) := by decide +kernel
theorem dX11_share_161 : decode cX11_share 161 = .ok (.iinc 7 1, 3) := by decide +kernel
theorem dX11_share_164 : decode cX11_share 164 = .ok (.goto (-76), 3) := by decide +kernel
theorem dX11_share_167 : decode cX11_share 167 = .ok (.aload_n 0, 1) := by decide +kernel
theorem dX11_share_168 : decode cX11_share 168 = .ok (.dup, 1) := by decide +kernel
theorem dX11_share_169 : decode cX11_share 169 = .ok (.getfield 110, 3) := by decide +kernel
theorem dX11_share_172 : decode cX11_share 172 = .ok (.iload_n 2, 1) := by decide +kernel
theorem dX11_share_173 : decode cX11_share 173 = .ok (.ifCond .ge 7, 3) := by decide +kernel
theorem dX11_share_176 : decode cX11_share 176 = .ok (.iconst 0, 1) := by decide +kernel
theorem dX11_share_177 : decode cX11_share 177 = .ok (.goto 4, 3) := by decide +kernel
theorem dX11_share_180 : decode cX11_share 180 = .ok (.iconst 1, 1) := by decide +kernel
theorem dX11_share_181 : decode cX11_share 181 = .ok (.iadd, 1) := by decide +kernel
theorem dX11_share_182 : decode cX11_share 182 = .ok (.putfield 110, 3) := by decide +kernel
theorem dX11_share_185 : decode cX11_share 185 = .ok (.aload_n 0, 1) := by decide +kernel
theorem dX11_share_186 : decode cX11_share 186 = .ok (.iload_n 1, 1) := by decide +kernel
theorem dX11_share_187 : decode cX11_share 187 = .ok (.iload_n 2, 1) := by decide +kernel
theorem dX11_share_188 : decode cX11_share 188 = .ok (.ifCond .ge 10, 3) := by decide +kernel
theorem dX11_share_191 : decode cX11_share 191 = .ok (.aload_n 0, 1) := by decide +kernel
theorem dX11_share_192 : decode cX11_share 192 = .ok (.invokevirtual 89, 3) := by decide +kernel
theorem dX11_share_195 : decode cX11_share 195 = .ok (.goto 4, 3) := by decide +kernel
theorem dX11_share_198 : decode cX11_share 198 = .ok (.iload_n 2, 1) := by decide +kernel
theorem dX11_share_199 : decode cX11_share 199 = .ok (.invokevirtual 92, 3) := by decide +kernel
theorem dX11_share_202 : decode cX11_share 202 = .ok (.return_, 1) := by decide +kernel
set_option maxRecDepth 20000 in
theorem ggX11_layWay_X11_mostOf : GoodIn wsX11_layWay wsX11_mostOf := goodIn_r _ [10, 11, 12, 13, 9, 14, 1, 15, 16, 17, 18, 19, 20, 21, 78, 79, 80, 81, 82, 83, 84, 85, 86, 87, 88, 89, 90, 91, 92, 93, 94] (by decide +kernel) (by decide +kernel)
set_option maxRecDepth 20000 in
theorem gX11_layWay_X11_mostOf : GoodIn wsX11_layWay (wsV RX11 89 RX11 yX11_mostOf wsX11_mostOf) := goodIn_app (goodIn_of _ (by decide +kernel)) ggX11_layWay_X11_mostOf
set_option maxRecDepth 20000 in
theorem ggX11_layWay_X11_pick : GoodIn wsX11_layWay wsX11_pick := goodIn_r _ [25, 26, 1, 78, 79, 80, 81, 82, 83, 84, 85, 86, 87, 88, 89, 90, 91, 92, 93, 94] (by decide +kernel) (by decide +kernel)
set_option maxRecDepth 20000 in
theorem gX11_layWay_X11_pick : GoodIn wsX11_layWay (wsV RX11 92 RX11 yX11_pick wsX11_pick) := goodIn_app (goodIn_of _ (by decide +kernel)) ggX11_layWay_X11_pick
set_option maxRecDepth 20000 in
theorem ggX11_layWay_X11_greedyOf : GoodIn wsX11_layWay wsX11_greedyOf := goodIn_r _ [30, 1, 11, 12, 13, 9, 14, 31, 32, 33, 34, 19, 20, 21, 35, 36, 37, 38, 78, 79, 80, 81, 82, 83, 84, 85, 86, 87, 88, 89, 90, 91, 92, 93, 94] (by decide +kernel) (by decide +kernel)
set_option maxRecDepth 20000 in
theorem gX11_layWay_X11_greedyOf : GoodIn wsX11_layWay (wsV RX11 113 RX11 yX11_greedyOf wsX11_greedyOf) := goodIn_app (goodIn_of _ (by decide +kernel)) ggX11_layWay_X11_greedyOf
set_option maxRecDepth 20000 in
theorem ggX11_layWay_X11_loadOne : GoodIn wsX11_layWay wsX11_loadOne := goodIn_r _ [42, 3, 19, 20, 21, 4, 15, 16, 17, 9, 18, 11, 12, 13, 14, 1, 43, 44, 45, 46, 6, 7, 8, 10, 22, 23, 24, 25, 26, 78, 79, 80, 81, 82, 83, 84, 85, 86, 87, 88, 89, 90, 91, 92, 93, 94] (by decide +kernel) (by decide +kernel)
set_option maxRecDepth 20000 in
theorem gX11_layWay_X11_loadOne : GoodIn wsX11_layWay (wsV RX11 116 RX11 yX11_loadOne wsX11_loadOne) := goodIn_app (goodIn_of _ (by decide +kernel)) ggX11_layWay_X11_loadOne
set_option maxRecDepth 20000 in
theorem ggX11_layWay_X11_share : GoodIn wsX11_layWay wsX11_share := goodIn_r _ [50, 51, 52, 19, 20, 4, 2, 11, 12, 13, 9, 14, 1, 53, 54, 55, 56, 3, 21, 57, 58, 59, 60, 15, 16, 17, 18, 43, 44, 45, 46, 6, 7, 8, 10, 22, 23, 24, 25, 26, 78, 79, 80, 81, 82, 83, 84, 85, 86, 87, 88, 89, 90, 91, 92, 93, 94] (by decide +kernel) (by decide +kernel)
set_option maxRecDepth 20000 in
theorem gX11_layWay_X11_share : GoodIn wsX11_layWay (wsV RX11 120 RX11 yX11_share wsX11_share) := goodIn_app (goodIn_of _ (by decide +kernel)) ggX11_layWay_X11_share
set_option maxRecDepth 20000 in
theorem ggX11_layWay_X11_bestOf : GoodIn wsX11_layWay wsX11_bestOf := goodIn_r _ [64, 5, 36, 37, 9, 38, 31, 32, 33, 34, 19, 20, 21, 35, 65, 66, 67, 68, 69, 70, 71, 72, 73, 78, 79, 80, 81, 82, 83, 84, 85, 86, 87, 88, 89, 90, 91, 92, 93, 94] (by decide +kernel) (by decide +kernel)
set_option maxRecDepth 20000 in
theorem gX11_layWay_X11_bestOf : GoodIn wsX11_layWay (wsV RX11 123 RX11 yX11_bestOf wsX11_bestOf) := goodIn_app (goodIn_of _ (by decide +kernel)) ggX11_layWay_X11_bestOf
set_option maxRecDepth 20000 in
theorem ggX11_layWay_X11_mend : GoodIn wsX11_layWay wsX11_mend := goodIn_r _ [77, 1, 11, 12, 13, 9, 14, 31, 32, 33, 34, 19, 20, 21, 35, 36, 37, 38, 78, 79, 80, 81, 82, 83, 84, 85, 86, 87, 88, 89, 90, 91, 92, 93, 94] (by decide +kernel) (by decide +kernel)
set_option maxRecDepth 20000 in
theorem gX11_layWay_X11_mend : GoodIn wsX11_layWay (wsV RX11 126 RX11 yX11_mend wsX11_mend) := goodIn_app (goodIn_of _ (by decide +kernel)) ggX11_layWay_X11_mend
theorem dX11_layWay_0 : decode cX11_layWay 0 = .ok (.aload_n 0, 1) := by decide +kernel
theorem dX11_layWay_1 : decode cX11_layWay 1 = .ok (.iconst 0, 1) := by decide +kernel
theorem dX11_layWay_2 : decode cX11_layWay 2 = .ok (.putfield 76, 3) := by decide +kernel
theorem dX11_layWay_5 : decode cX11_layWay 5 = .ok (.aload_n 0, 1) := by decide +kernel
theorem dX11_layWay_6 : decode cX11_layWay 6 = .ok (.iconst 0, 1) := by decide +kernel
theorem dX11_layWay_7 : decode cX11_layWay 7 = .ok (.putfield 110, 3) := by decide +kernel
theorem dX11_layWay_10 : decode cX11_layWay 10 = .ok (.aload_n 0, 1) := by decide +kernel
theorem dX11_layWay_11 : decode cX11_layWay 11 = .ok (.getfield 36, 3) := by decide +kernel
theorem dX11_layWay_14 : decode cX11_layWay 14 = .ok (.iconst 0, 1) := by decide +kernel
theorem dX11_layWay_15 : decode cX11_layWay 15 = .ok (.lconst 1, 1) := by decide +kernel
theorem dX11_layWay_16 : decode cX11_layWay 16 = .ok (.lastore, 1) := by decide +kernel
theorem dX11_layWay_17 : decode cX11_layWay 17 = .ok (.iconst 0, 1) := by decide +kernel
theorem dX11_layWay_18 : decode cX11_layWay 18 = .ok (.istore_n 2, 1) := by decide +kernel
theorem dX11_layWay_19 : decode cX11_layWay 19 = .ok (.iload_n 2, 1) := by decide +kernel
theorem dX11_layWay_20 : decode cX11_layWay 20 = .ok (.bipush 7, 2) := by decide +kernel
theorem dX11_layWay_22 : decode cX11_layWay 22 = .ok (.if_icmp .ge 29, 3) := by decide +kernel
theorem dX11_layWay_25 : decode cX11_layWay 25 = .ok (.aload_n 0, 1) := by decide +kernel
theorem dX11_layWay_26 : decode cX11_layWay 26 = .ok (.getfield 32, 3) := by decide +kernel
theorem dX11_layWay_29 : decode cX11_layWay 29 = .ok (.iload_n 2, 1) := by decide +kernel
theorem dX11_layWay_30 : decode cX11_layWay 30 = .ok (.iload_n 1, 1) := by decide +kernel
theorem dX11_layWay_31 : decode cX11_layWay 31 = .ok (.iconst 3, 1) := by decide +kernel
theorem dX11_layWay_32 : decode cX11_layWay 32 = .ok (.if_icmp .ne 11, 3) := by decide +kernel
theorem dX11_layWay_35 : decode cX11_layWay 35 = .ok (.aload_n 0, 1) := by decide +kernel
theorem dX11_layWay_36 : decode cX11_layWay 36 = .ok (.getfield 16, 3) := by decide +kernel
theorem dX11_layWay_39 : decode cX11_layWay 39 = .ok (.i2l, 1) := by decide +kernel
theorem dX11_layWay_40 : decode cX11_layWay 40 = .ok (.goto 4, 3) := by decide +kernel
theorem dX11_layWay_43 : decode cX11_layWay 43 = .ok (.lconst 0, 1) := by decide +kernel
theorem dX11_layWay_44 : decode cX11_layWay 44 = .ok (.lastore, 1) := by decide +kernel
theorem dX11_layWay_45 : decode cX11_layWay 45 = .ok (.iinc 2 1, 3) := by decide +kernel
theorem dX11_layWay_48 : decode cX11_layWay 48 = .ok (.goto (-29), 3) := by decide +kernel
theorem dX11_layWay_51 : decode cX11_layWay 51 = .ok (.iconst 0, 1) := by decide +kernel
theorem dX11_layWay_52 : decode cX11_layWay 52 = .ok (.istore_n 2, 1) := by decide +kernel
theorem dX11_layWay_53 : decode cX11_layWay 53 = .ok (.iload_n 2, 1) := by decide +kernel
theorem dX11_layWay_54 : decode cX11_layWay 54 = .ok (.aload_n 0, 1) := by decide +kernel
theorem dX11_layWay_55 : decode cX11_layWay 55 = .ok (.getfield 16, 3) := by decide +kernel
theorem dX11_layWay_58 : decode cX11_layWay 58 = .ok (.if_icmp .ge 70, 3) := by decide +kernel
theorem dX11_layWay_61 : decode cX11_layWay 61 = .ok (.iload_n 1, 1) := by decide +kernel
theorem dX11_layWay_62 : decode cX11_layWay 62 = .ok (.iconst 4, 1) := by decide +kernel
theorem dX11_layWay_63 : decode cX11_layWay 63 = .ok (.if_icmp .eq 65, 3) := by decide +kernel
theorem dX11_layWay_66 : decode cX11_layWay 66 = .ok (.iload_n 1, 1) := by decide +kernel
theorem dX11_layWay_67 : decode cX11_layWay 67 = .ok (.ifCond .ne 15, 3) := by decide +kernel
theorem dX11_layWay_70 : decode cX11_layWay 70 = .ok (.aload_n 0, 1) := by decide +kernel
theorem dX11_layWay_71 : decode cX11_layWay 71 = .ok (.iload_n 2, 1) := by decide +kernel
theorem dX11_layWay_72 : decode cX11_layWay 72 = .ok (.aload_n 0, 1) := by decide +kernel
theorem dX11_layWay_73 : decode cX11_layWay 73 = .ok (.invokevirtual 89, 3) := by decide +kernel
theorem dX11_layWay_76 : decode cX11_layWay 76 = .ok (.invokevirtual 92, 3) := by decide +kernel
theorem dX11_layWay_79 : decode cX11_layWay 79 = .ok (.goto 43, 3) := by decide +kernel
theorem dX11_layWay_82 : decode cX11_layWay 82 = .ok (.iload_n 1, 1) := by decide +kernel
theorem dX11_layWay_83 : decode cX11_layWay 83 = .ok (.iconst 1, 1) := by decide +kernel
theorem dX11_layWay_84 : decode cX11_layWay 84 = .ok (.if_icmp .eq 8, 3) := by decide +kernel
theorem dX11_layWay_87 : decode cX11_layWay 87 = .ok (.iload_n 1, 1) := by decide +kernel
theorem dX11_layWay_88 : decode cX11_layWay 88 = .ok (.iconst 5, 1) := by decide +kernel
theorem dX11_layWay_89 : decode cX11_layWay 89 = .ok (.if_icmp .ne 15, 3) := by decide +kernel
theorem dX11_layWay_92 : decode cX11_layWay 92 = .ok (.aload_n 0, 1) := by decide +kernel
theorem dX11_layWay_93 : decode cX11_layWay 93 = .ok (.iload_n 2, 1) := by decide +kernel
theorem dX11_layWay_94 : decode cX11_layWay 94 = .ok (.aload_n 0, 1) := by decide +kernel
theorem dX11_layWay_95 : decode cX11_layWay 95 = .ok (.invokevirtual 113, 3) := by decide +kernel
theorem dX11_layWay_98 : decode cX11_layWay 98 = .ok (.invokevirtual 92, 3) := by decide +kernel
theorem dX11_layWay_101 : decode cX11_layWay 101 = .ok (.goto 21, 3) := by decide +kernel
theorem dX11_layWay_104 : decode cX11_layWay 104 = .ok (.iload_n 1, 1) := by decide +kernel
theorem dX11_layWay_105 : decode cX11_layWay 105 = .ok (.iconst 2, 1) := by decide +kernel
theorem dX11_layWay_106 : decode cX11_layWay 106 = .ok (.if_icmp .ne 11, 3) := by decide +kernel
theorem dX11_layWay_109 : decode cX11_layWay 109 = .ok (.aload_n 0, 1) := by decide +kernel
theorem dX11_layWay_110 : decode cX11_layWay 110 = .ok (.iload_n 2, 1) := by decide +kernel
theorem dX11_layWay_111 : decode cX11_layWay 111 = .ok (.invokevirtual 116, 3) := by decide +kernel
theorem dX11_layWay_114 : decode cX11_layWay 114 = .ok (.goto 8, 3) := by decide +kernel
theorem dX11_layWay_117 : decode cX11_layWay 117 = .ok (.aload_n 0, 1) := by decide +kernel
theorem dX11_layWay_118 : decode cX11_layWay 118 = .ok (.iload_n 2, 1) := by decide +kernel
theorem dX11_layWay_119 : decode cX11_layWay 119 = .ok (.invokevirtual 120, 3) := by decide +kernel
theorem dX11_layWay_122 : decode cX11_layWay 122 = .ok (.iinc 2 1, 3) := by decide +kernel
theorem dX11_layWay_125 : decode cX11_layWay 125 = .ok (.goto (-72), 3) := by decide +kernel
theorem dX11_layWay_128 : decode cX11_layWay 128 = .ok (.iload_n 1, 1) := by decide +kernel
theorem dX11_layWay_129 : decode cX11_layWay 129 = .ok (.iconst 4, 1) := by decide +kernel
theorem dX11_layWay_130 : decode cX11_layWay 130 = .ok (.if_icmp .ne 11, 3) := by decide +kernel
theorem dX11_layWay_133 : decode cX11_layWay 133 = .ok (.aload_n 0, 1) := by decide +kernel
theorem dX11_layWay_134 : decode cX11_layWay 134 = .ok (.aload_n 0, 1) := by decide +kernel
theorem dX11_layWay_135 : decode cX11_layWay 135 = .ok (.invokevirtual 123, 3) := by decide +kernel
theorem dX11_layWay_138 : decode cX11_layWay 138 = .ok (.putfield 76, 3) := by decide +kernel
theorem dX11_layWay_141 : decode cX11_layWay 141 = .ok (.iload_n 1, 1) := by decide +kernel
theorem dX11_layWay_142 : decode cX11_layWay 142 = .ok (.iconst 5, 1) := by decide +kernel
theorem dX11_layWay_143 : decode cX11_layWay 143 = .ok (.if_icmp .ne 7, 3) := by decide +kernel
theorem dX11_layWay_146 : decode cX11_layWay 146 = .ok (.aload_n 0, 1) := by decide +kernel
theorem dX11_layWay_147 : decode cX11_layWay 147 = .ok (.invokevirtual 126, 3) := by decide +kernel
theorem dX11_layWay_150 : decode cX11_layWay 150 = .ok (.return_, 1) := by decide +kernel
set_option maxRecDepth 20000 in
theorem ggX11_bestOf_X11_bits : GoodIn wsX11_bestOf wsX11_bits := goodIn_r _ [5] (by decide +kernel) (by decide +kernel)
set_option maxRecDepth 20000 in
theorem gX11_bestOf_X11_bits : GoodIn wsX11_bestOf (va_wsS RX11 60 yX11_bits wsX11_bits) := goodIn_app (goodIn_of _ (by decide +kernel)) ggX11_bestOf_X11_bits
set_option maxRecDepth 20000 in
theorem ggX11_bestOf_X11_worthOf : GoodIn wsX11_bestOf wsX11_worthOf := goodIn_r _ [9, 10, 11, 12, 13, 2, 3, 4, 5, 23, 24, 25, 26, 27, 28, 29, 30, 31, 32, 33, 34, 35, 36, 37, 38, 39] (by decide +kernel) (by decide +kernel)
set_option maxRecDepth 20000 in
theorem gX11_bestOf_X11_worthOf : GoodIn wsX11_bestOf (wsV RX11 70 RX11 yX11_worthOf wsX11_worthOf) := goodIn_app (goodIn_of _ (by decide +kernel)) ggX11_bestOf_X11_worthOf
set_option maxRecDepth 20000 in
theorem ggX11_bestOf_X11_barOf : GoodIn wsX11_bestOf wsX11_barOf := goodIn_r _ [17, 18, 19, 20, 21, 4, 22, 2, 3, 5, 23, 24, 25, 26, 27, 28, 29, 30, 31, 32, 33, 34, 35, 36, 37, 38, 39] (by decide +kernel) (by decide +kernel)
set_option maxRecDepth 20000 in
theorem gX11_bestOf_X11_barOf : GoodIn wsX11_bestOf (wsV RX11 67 RX11 yX11_barOf wsX11_barOf) := goodIn_app (goodIn_of _ (by decide +kernel)) ggX11_bestOf_X11_barOf
theorem dX11_bestOf_0 : decode cX11_bestOf 0 = .ok (.iconst 0, 1) := by decide +kernel
theorem dX11_bestOf_1 : decode cX11_bestOf 1 = .ok (.istore_n 1, 1) := by decide +kernel
theorem dX11_bestOf_2 : decode cX11_bestOf 2 = .ok (.iconst (-1), 1) := by decide +kernel
theorem dX11_bestOf_3 : decode cX11_bestOf 3 = .ok (.istore_n 2, 1) := by decide +kernel
theorem dX11_bestOf_4 : decode cX11_bestOf 4 = .ok (.iconst 0, 1) := by decide +kernel
theorem dX11_bestOf_5 : decode cX11_bestOf 5 = .ok (.istore_n 3, 1) := by decide +kernel
theorem dX11_bestOf_6 : decode cX11_bestOf 6 = .ok (.iload_n 3, 1) := by decide +kernel
theorem dX11_bestOf_7 : decode cX11_bestOf 7 = .ok (.sipush 256, 3) := by decide +kernel
theorem dX11_bestOf_10 : decode cX11_bestOf 10 = .ok (.if_icmp .ge 45, 3) := by decide +kernel
theorem dX11_bestOf_13 : decode cX11_bestOf 13 = .ok (.iload_n 3, 1) := by decide +kernel
theorem dX11_bestOf_14 : decode cX11_bestOf 14 = .ok (.invokestatic 60, 3) := by decide +kernel
theorem dX11_bestOf_17 : decode cX11_bestOf 17 = .ok (.aload_n 0, 1) := by decide +kernel
theorem dX11_bestOf_18 : decode cX11_bestOf 18 = .ok (.getfield 16, 3) := by decide +kernel
theorem dX11_bestOf_21 : decode cX11_bestOf 21 = .ok (.if_icmp .ne 28, 3) := by decide +kernel
theorem dX11_bestOf_24 : decode cX11_bestOf 24 = .ok (.aload_n 0, 1) := by decide +kernel
theorem dX11_bestOf_25 : decode cX11_bestOf 25 = .ok (.iload_n 3, 1) := by decide +kernel
theorem dX11_bestOf_26 : decode cX11_bestOf 26 = .ok (.invokevirtual 70, 3) := by decide +kernel
theorem dX11_bestOf_29 : decode cX11_bestOf 29 = .ok (.iload_n 2, 1) := by decide +kernel
theorem dX11_bestOf_30 : decode cX11_bestOf 30 = .ok (.if_icmp .le 19, 3) := by decide +kernel
theorem dX11_bestOf_33 : decode cX11_bestOf 33 = .ok (.aload_n 0, 1) := by decide +kernel
theorem dX11_bestOf_34 : decode cX11_bestOf 34 = .ok (.iload_n 3, 1) := by decide +kernel
theorem dX11_bestOf_35 : decode cX11_bestOf 35 = .ok (.invokevirtual 67, 3) := by decide +kernel
theorem dX11_bestOf_38 : decode cX11_bestOf 38 = .ok (.ifCond .ge 11, 3) := by decide +kernel
theorem dX11_bestOf_41 : decode cX11_bestOf 41 = .ok (.iload_n 3, 1) := by decide +kernel
theorem dX11_bestOf_42 : decode cX11_bestOf 42 = .ok (.istore_n 1, 1) := by decide +kernel
theorem dX11_bestOf_43 : decode cX11_bestOf 43 = .ok (.aload_n 0, 1) := by decide +kernel
theorem dX11_bestOf_44 : decode cX11_bestOf 44 = .ok (.iload_n 3, 1) := by decide +kernel
theorem dX11_bestOf_45 : decode cX11_bestOf 45 = .ok (.invokevirtual 70, 3) := by decide +kernel
theorem dX11_bestOf_48 : decode cX11_bestOf 48 = .ok (.istore_n 2, 1) := by decide +kernel
theorem dX11_bestOf_49 : decode cX11_bestOf 49 = .ok (.iinc 3 1, 3) := by decide +kernel
theorem dX11_bestOf_52 : decode cX11_bestOf 52 = .ok (.goto (-46), 3) := by decide +kernel
theorem dX11_bestOf_55 : decode cX11_bestOf 55 = .ok (.iload_n 1, 1) := by decide +kernel
theorem dX11_bestOf_56 : decode cX11_bestOf 56 = .ok (.ireturn, 1) := by decide +kernel
set_option maxRecDepth 20000 in
theorem ggX11_mend_X11_isLeft : GoodIn wsX11_mend wsX11_isLeft := goodIn_r _ [6, 1, 18, 19, 20, 21, 22, 23, 24, 25, 26, 27, 28, 29, 30, 31, 32, 33, 34] (by decide +kernel) (by decide +kernel)
set_option maxRecDepth 20000 in
theorem gX11_mend_X11_isLeft : GoodIn wsX11_mend (wsV RX11 79 RX11 yX11_isLeft wsX11_isLeft) := goodIn_app (goodIn_of _ (by decide +kernel)) ggX11_mend_X11_isLeft
set_option maxRecDepth 20000 in
theorem ggX11_mend_X11_worthOf : GoodIn wsX11_mend wsX11_worthOf := goodIn_r _ [10, 11, 12, 13, 14, 15, 16, 5, 17, 18, 19, 20, 21, 22, 23, 24, 25, 26, 27, 28, 29, 30, 31, 32, 33, 34] (by decide +kernel) (by decide +kernel)
set_option maxRecDepth 20000 in
theorem gX11_mend_X11_worthOf : GoodIn wsX11_mend (wsV RX11 70 RX11 yX11_worthOf wsX11_worthOf) := goodIn_app (goodIn_of _ (by decide +kernel)) ggX11_mend_X11_worthOf
theorem dX11_mend_0 : decode cX11_mend 0 = .ok (.iconst 1, 1) := by decide +kernel
theorem dX11_mend_1 : decode cX11_mend 1 = .ok (.istore_n 1, 1) := by decide +kernel
theorem dX11_mend_2 : decode cX11_mend 2 = .ok (.iload_n 1, 1) := by decide +kernel
theorem dX11_mend_3 : decode cX11_mend 3 = .ok (.ifCond .eq 115, 3) := by decide +kernel
theorem dX11_mend_6 : decode cX11_mend 6 = .ok (.aload_n 0, 1) := by decide +kernel
theorem dX11_mend_7 : decode cX11_mend 7 = .ok (.getfield 76, 3) := by decide +kernel
theorem dX11_mend_10 : decode cX11_mend 10 = .ok (.istore_n 2, 1) := by decide +kernel
theorem dX11_mend_11 : decode cX11_mend 11 = .ok (.iconst 0, 1) := by decide +kernel
theorem dX11_mend_12 : decode cX11_mend 12 = .ok (.istore_n 3, 1) := by decide +kernel
theorem dX11_mend_13 : decode cX11_mend 13 = .ok (.iload_n 3, 1) := by decide +kernel
theorem dX11_mend_14 : decode cX11_mend 14 = .ok (.bipush 8, 2) := by decide +kernel
theorem dX11_mend_16 : decode cX11_mend 16 = .ok (.if_icmp .ge 80, 3) := by decide +kernel
theorem dX11_mend_19 : decode cX11_mend 19 = .ok (.iconst 0, 1) := by decide +kernel
theorem dX11_mend_20 : decode cX11_mend 20 = .ok (.istore 4, 2) := by decide +kernel
theorem dX11_mend_22 : decode cX11_mend 22 = .ok (.iload 4, 2) := by decide +kernel
theorem dX11_mend_24 : decode cX11_mend 24 = .ok (.bipush 8, 2) := by decide +kernel
theorem dX11_mend_26 : decode cX11_mend 26 = .ok (.if_icmp .ge 64, 3) := by decide +kernel
theorem dX11_mend_29 : decode cX11_mend 29 = .ok (.aload_n 0, 1) := by decide +kernel
theorem dX11_mend_30 : decode cX11_mend 30 = .ok (.iload_n 3, 1) := by decide +kernel
theorem dX11_mend_31 : decode cX11_mend 31 = .ok (.invokevirtual 79, 3) := by decide +kernel
theorem dX11_mend_34 : decode cX11_mend 34 = .ok (.ifCond .ne 56, 3) := by decide +kernel
theorem dX11_mend_37 : decode cX11_mend 37 = .ok (.aload_n 0, 1) := by decide +kernel
theorem dX11_mend_38 : decode cX11_mend 38 = .ok (.getfield 76, 3) := by decide +kernel
theorem dX11_mend_41 : decode cX11_mend 41 = .ok (.iconst 1, 1) := by decide +kernel
theorem dX11_mend_42 : decode cX11_mend 42 = .ok (.iload_n 3, 1) := by decide +kernel
theorem dX11_mend_43 : decode cX11_mend 43 = .ok (.ishl, 1) := by decide +kernel
theorem dX11_mend_44 : decode cX11_mend 44 = .ok (.iconst (-1), 1) := by decide +kernel
theorem dX11_mend_45 : decode cX11_mend 45 = .ok (.ixor, 1) := by decide +kernel
theorem dX11_mend_46 : decode cX11_mend 46 = .ok (.iand, 1) := by decide +kernel
theorem dX11_mend_47 : decode cX11_mend 47 = .ok (.iconst 1, 1) := by decide +kernel
theorem dX11_mend_48 : decode cX11_mend 48 = .ok (.iload 4, 2) := by decide +kernel
theorem dX11_mend_50 : decode cX11_mend 50 = .ok (.ishl, 1) := by decide +kernel
theorem dX11_mend_51 : decode cX11_mend 51 = .ok (.ior, 1) := by decide +kernel
theorem dX11_mend_52 : decode cX11_mend 52 = .ok (.istore 5, 2) := by decide +kernel
theorem dX11_mend_54 : decode cX11_mend 54 = .ok (.aload_n 0, 1) := by decide +kernel
theorem dX11_mend_55 : decode cX11_mend 55 = .ok (.iload 4, 2) := by decide +kernel
theorem dX11_mend_57 : decode cX11_mend 57 = .ok (.invokevirtual 79, 3) := by decide +kernel
theorem dX11_mend_60 : decode cX11_mend 60 = .ok (.ifCond .eq 22, 3) := by decide +kernel
theorem dX11_mend_63 : decode cX11_mend 63 = .ok (.aload_n 0, 1) := by decide +kernel
theorem dX11_mend_64 : decode cX11_mend 64 = .ok (.iload 5, 2) := by decide +kernel
theorem dX11_mend_66 : decode cX11_mend 66 = .ok (.invokevirtual 70, 3) := by decide +kernel
theorem dX11_mend_69 : decode cX11_mend 69 = .ok (.aload_n 0, 1) := by decide +kernel
theorem dX11_mend_70 : decode cX11_mend 70 = .ok (.iload_n 2, 1) := by decide +kernel
theorem dX11_mend_71 : decode cX11_mend 71 = .ok (.invokevirtual 70, 3) := by decide +kernel
theorem dX11_mend_74 : decode cX11_mend 74 = .ok (.if_icmp .le 8, 3) := by decide +kernel
theorem dX11_mend_77 : decode cX11_mend 77 = .ok (.iload 5, 2) := by decide +kernel
theorem dX11_mend_79 : decode cX11_mend 79 = .ok (.goto 4, 3) := by decide +kernel
theorem dX11_mend_82 : decode cX11_mend 82 = .ok (.iload_n 2, 1) := by decide +kernel
theorem dX11_mend_83 : decode cX11_mend 83 = .ok (.istore_n 2, 1) := by decide +kernel
theorem dX11_mend_84 : decode cX11_mend 84 = .ok (.iinc 4 1, 3) := by decide +kernel
theorem dX11_mend_87 : decode cX11_mend 87 = .ok (.goto (-65), 3) := by decide +kernel
theorem dX11_mend_90 : decode cX11_mend 90 = .ok (.iinc 3 1, 3) := by decide +kernel
theorem dX11_mend_93 : decode cX11_mend 93 = .ok (.goto (-80), 3) := by decide +kernel
theorem dX11_mend_96 : decode cX11_mend 96 = .ok (.iload_n 2, 1) := by decide +kernel
theorem dX11_mend_97 : decode cX11_mend 97 = .ok (.aload_n 0, 1) := by decide +kernel
theorem dX11_mend_98 : decode cX11_mend 98 = .ok (.getfield 76, 3) := by decide +kernel
theorem dX11_mend_101 : decode cX11_mend 101 = .ok (.if_icmp .eq 7, 3) := by decide +kernel
theorem dX11_mend_104 : decode cX11_mend 104 = .ok (.iconst 1, 1) := by decide +kernel
theorem dX11_mend_105 : decode cX11_mend 105 = .ok (.goto 4, 3) := by decide +kernel
theorem dX11_mend_108 : decode cX11_mend 108 = .ok (.iconst 0, 1) := by decide +kernel
theorem dX11_mend_109 : decode cX11_mend 109 = .ok (.istore_n 1, 1) := by decide +kernel
theorem dX11_mend_110 : decode cX11_mend 110 = .ok (.aload_n 0, 1) := by decide +kernel
theorem dX11_mend_111 : decode cX11_mend 111 = .ok (.iload_n 2, 1) := by decide +kernel
theorem dX11_mend_112 : decode cX11_mend 112 = .ok (.putfield 76, 3) := by decide +kernel
theorem dX11_mend_115 : decode cX11_mend 115 = .ok (.goto (-113), 3) := by decide +kernel
theorem dX11_mend_118 : decode cX11_mend 118 = .ok (.return_, 1) := by decide +kernel
set_option maxRecDepth 20000 in
theorem ggX11_isWay_X11_in : GoodIn wsX11_isWay wsX11_in := goodIn_r _ [4] (by decide +kernel) (by decide +kernel)
set_option maxRecDepth 20000 in
theorem gX11_isWay_X11_in : GoodIn wsX11_isWay (va_wsS RX11 42 yX11_in wsX11_in) := goodIn_app (goodIn_of _ (by decide +kernel)) ggX11_isWay_X11_in
theorem dX11_isWay_0 : decode cX11_isWay 0 = .ok (.iload_n 0, 1) := by decide +kernel
theorem dX11_isWay_1 : decode cX11_isWay 1 = .ok (.iconst 0, 1) := by decide +kernel
theorem dX11_isWay_2 : decode cX11_isWay 2 = .ok (.iconst 5, 1) := by decide +kernel
theorem dX11_isWay_3 : decode cX11_isWay 3 = .ok (.invokestatic 42, 3) := by decide +kernel
theorem dX11_isWay_6 : decode cX11_isWay 6 = .ok (.ireturn, 1) := by decide +kernel
theorem dX11_nth_0 : decode cX11_nth 0 = .ok (.iconst 0, 1) := by decide +kernel
theorem dX11_nth_1 : decode cX11_nth 1 = .ok (.istore_n 2, 1) := by decide +kernel
theorem dX11_nth_2 : decode cX11_nth 2 = .ok (.iconst 0, 1) := by decide +kernel
theorem dX11_nth_3 : decode cX11_nth 3 = .ok (.istore_n 3, 1) := by decide +kernel
theorem dX11_nth_4 : decode cX11_nth 4 = .ok (.iload_n 3, 1) := by decide +kernel
theorem dX11_nth_5 : decode cX11_nth 5 = .ok (.bipush 8, 2) := by decide +kernel
theorem dX11_nth_7 : decode cX11_nth 7 = .ok (.if_icmp .ge 28, 3) := by decide +kernel
theorem dX11_nth_10 : decode cX11_nth 10 = .ok (.iload_n 0, 1) := by decide +kernel
theorem dX11_nth_11 : decode cX11_nth 11 = .ok (.iload_n 3, 1) := by decide +kernel
theorem dX11_nth_12 : decode cX11_nth 12 = .ok (.ishr, 1) := by decide +kernel
theorem dX11_nth_13 : decode cX11_nth 13 = .ok (.iconst 1, 1) := by decide +kernel
theorem dX11_nth_14 : decode cX11_nth 14 = .ok (.iand, 1) := by decide +kernel
theorem dX11_nth_15 : decode cX11_nth 15 = .ok (.iconst 1, 1) := by decide +kernel
theorem dX11_nth_16 : decode cX11_nth 16 = .ok (.if_icmp .ne 13, 3) := by decide +kernel
theorem dX11_nth_19 : decode cX11_nth 19 = .ok (.iload_n 2, 1) := by decide +kernel
theorem dX11_nth_20 : decode cX11_nth 20 = .ok (.iload_n 1, 1) := by decide +kernel
theorem dX11_nth_21 : decode cX11_nth 21 = .ok (.if_icmp .ne 5, 3) := by decide +kernel
theorem dX11_nth_24 : decode cX11_nth 24 = .ok (.iload_n 3, 1) := by decide +kernel
theorem dX11_nth_25 : decode cX11_nth 25 = .ok (.ireturn, 1) := by decide +kernel
theorem dX11_nth_26 : decode cX11_nth 26 = .ok (.iinc 2 1, 3) := by decide +kernel
theorem dX11_nth_29 : decode cX11_nth 29 = .ok (.iinc 3 1, 3) := by decide +kernel
theorem dX11_nth_32 : decode cX11_nth 32 = .ok (.goto (-28), 3) := by decide +kernel
theorem dX11_nth_35 : decode cX11_nth 35 = .ok (.bipush (-6), 2) := by decide +kernel
theorem dX11_nth_37 : decode cX11_nth 37 = .ok (.ireturn, 1) := by decide +kernel
set_option maxRecDepth 20000 in
theorem ggX11_choose_X11_isWay : GoodIn wsX11_choose wsX11_isWay := goodIn_r _ [7, 8, 9, 6, 10] (by decide +kernel) (by decide +kernel)
set_option maxRecDepth 20000 in
theorem gX11_choose_X11_isWay : GoodIn wsX11_choose (va_wsS RX11 129 yX11_isWay wsX11_isWay) := goodIn_app (goodIn_of _ (by decide +kernel)) ggX11_choose_X11_isWay
set_option maxRecDepth 20000 in
theorem ggX11_choose_X11_layWay : GoodIn wsX11_choose wsX11_layWay := goodIn_r _ [14, 1, 15, 16, 17, 2, 18, 19, 20, 6, 21, 22, 23, 24, 25, 26, 27, 28, 29, 30, 31, 32, 33, 34, 35, 36, 3, 37, 38, 39, 40, 41, 42, 43, 44, 45, 46, 47, 48, 49, 50, 51, 52, 53, 54, 55, 56, 57, 58, 59, 60, 61, 62, 63, 64, 65, 66, 67, 68, 69, 70, 71, 72, 73, 74, 75, 76, 77, 78, 79, 80, 8, 9, 10, 81, 82, 83, 84, 88, 89, 90, 91, 92, 93, 94, 95, 96, 97, 98, 99, 100, 101, 102, 103, 104] (by decide +kernel) (by decide +kernel)
set_option maxRecDepth 20000 in
theorem gX11_choose_X11_layWay : GoodIn wsX11_choose (wsV RX11 132 RX11 yX11_layWay wsX11_layWay) := goodIn_app (goodIn_of _ (by decide +kernel)) ggX11_choose_X11_layWay
set_option maxRecDepth 20000 in
theorem ggX11_choose_X11_nth : GoodIn wsX11_choose wsX11_nth := goodIn_r _ [87] (by decide +kernel) (by decide +kernel)
set_option maxRecDepth 20000 in
theorem gX11_choose_X11_nth : GoodIn wsX11_choose (va_wsS RX11 135 yX11_nth wsX11_nth) := goodIn_app (goodIn_of _ (by decide +kernel)) ggX11_choose_X11_nth
set_option maxRecDepth 20000 in
theorem ggX11_choose_X11_in : GoodIn wsX11_choose wsX11_in := goodIn_r _ [10] (by decide +kernel) (by decide +kernel)
set_option maxRecDepth 20000 in
theorem gX11_choose_X11_in : GoodIn wsX11_choose (va_wsS RX11 42 yX11_in wsX11_in) := goodIn_app (goodIn_of _ (by decide +kernel)) ggX11_choose_X11_in
theorem dX11_choose_0 : decode cX11_choose 0 = .ok (.iload_n 1, 1) := by decide +kernel
theorem dX11_choose_1 : decode cX11_choose 1 = .ok (.invokestatic 129, 3) := by decide +kernel
theorem dX11_choose_4 : decode cX11_choose 4 = .ok (.ifCond .ne 5, 3) := by decide +kernel
theorem dX11_choose_7 : decode cX11_choose 7 = .ok (.iconst (-1), 1) := by decide +kernel
theorem dX11_choose_8 : decode cX11_choose 8 = .ok (.ireturn, 1) := by decide +kernel
theorem dX11_choose_9 : decode cX11_choose 9 = .ok (.aload_n 0, 1) := by decide +kernel
theorem dX11_choose_10 : decode cX11_choose 10 = .ok (.iload_n 1, 1) := by decide +kernel
theorem dX11_choose_11 : decode cX11_choose 11 = .ok (.invokevirtual 132, 3) := by decide +kernel
theorem dX11_choose_14 : decode cX11_choose 14 = .ok (.iload_n 2, 1) := by decide +kernel
theorem dX11_choose_15 : decode cX11_choose 15 = .ok (.iconst (-1), 1) := by decide +kernel
theorem dX11_choose_16 : decode cX11_choose 16 = .ok (.if_icmp .ne 10, 3) := by decide +kernel
theorem dX11_choose_19 : decode cX11_choose 19 = .ok (.aload_n 0, 1) := by decide +kernel
theorem dX11_choose_20 : decode cX11_choose 20 = .ok (.getfield 76, 3) := by decide +kernel
theorem dX11_choose_23 : decode cX11_choose 23 = .ok (.goto 44, 3) := by decide +kernel
theorem dX11_choose_26 : decode cX11_choose 26 = .ok (.iload_n 1, 1) := by decide +kernel
theorem dX11_choose_27 : decode cX11_choose 27 = .ok (.iconst 3, 1) := by decide +kernel
theorem dX11_choose_28 : decode cX11_choose 28 = .ok (.if_icmp .le 14, 3) := by decide +kernel
theorem dX11_choose_31 : decode cX11_choose 31 = .ok (.aload_n 0, 1) := by decide +kernel
theorem dX11_choose_32 : decode cX11_choose 32 = .ok (.getfield 76, 3) := by decide +kernel
theorem dX11_choose_35 : decode cX11_choose 35 = .ok (.iload_n 2, 1) := by decide +kernel
theorem dX11_choose_36 : decode cX11_choose 36 = .ok (.invokestatic 135, 3) := by decide +kernel
theorem dX11_choose_39 : decode cX11_choose 39 = .ok (.goto 28, 3) := by decide +kernel
theorem dX11_choose_42 : decode cX11_choose 42 = .ok (.iload_n 2, 1) := by decide +kernel
theorem dX11_choose_43 : decode cX11_choose 43 = .ok (.iconst 0, 1) := by decide +kernel
theorem dX11_choose_44 : decode cX11_choose 44 = .ok (.aload_n 0, 1) := by decide +kernel
theorem dX11_choose_45 : decode cX11_choose 45 = .ok (.getfield 16, 3) := by decide +kernel
theorem dX11_choose_48 : decode cX11_choose 48 = .ok (.iconst 1, 1) := by decide +kernel
theorem dX11_choose_49 : decode cX11_choose 49 = .ok (.isub, 1) := by decide +kernel
theorem dX11_choose_50 : decode cX11_choose 50 = .ok (.invokestatic 42, 3) := by decide +kernel
theorem dX11_choose_53 : decode cX11_choose 53 = .ok (.ifCond .eq 12, 3) := by decide +kernel
theorem dX11_choose_56 : decode cX11_choose 56 = .ok (.aload_n 0, 1) := by decide +kernel
theorem dX11_choose_57 : decode cX11_choose 57 = .ok (.getfield 29, 3) := by decide +kernel
theorem dX11_choose_60 : decode cX11_choose 60 = .ok (.iload_n 2, 1) := by decide +kernel
theorem dX11_choose_61 : decode cX11_choose 61 = .ok (.iaload, 1) := by decide +kernel
theorem dX11_choose_62 : decode cX11_choose 62 = .ok (.goto 5, 3) := by decide +kernel
theorem dX11_choose_65 : decode cX11_choose 65 = .ok (.bipush (-6), 2) := by decide +kernel
theorem dX11_choose_67 : decode cX11_choose 67 = .ok (.ireturn, 1) := by decide +kernel
theorem dX11_term_0 : decode cX11_term 0 = .ok (.lload_n 0, 1) := by decide +kernel
theorem dX11_term_1 : decode cX11_term 1 = .ok (.lstore 5, 2) := by decide +kernel
theorem dX11_term_3 : decode cX11_term 3 = .ok (.lload_n 2, 1) := by decide +kernel
theorem dX11_term_4 : decode cX11_term 4 = .ok (.lstore 7, 2) := by decide +kernel
theorem dX11_term_6 : decode cX11_term 6 = .ok (.lload 7, 2) := by decide +kernel
theorem dX11_term_8 : decode cX11_term 8 = .ok (.lconst 0, 1) := by decide +kernel
theorem dX11_term_9 : decode cX11_term 9 = .ok (.lcmp, 1) := by decide +kernel
theorem dX11_term_10 : decode cX11_term 10 = .ok (.ifCond .eq 21, 3) := by decide +kernel
theorem dX11_term_13 : decode cX11_term 13 = .ok (.lload 5, 2) := by decide +kernel
theorem dX11_term_15 : decode cX11_term 15 = .ok (.lload 7, 2) := by decide +kernel
theorem dX11_term_17 : decode cX11_term 17 = .ok (.lrem, 1) := by decide +kernel
theorem dX11_term_18 : decode cX11_term 18 = .ok (.lstore 9, 2) := by decide +kernel
theorem dX11_term_20 : decode cX11_term 20 = .ok (.lload 7, 2) := by decide +kernel
theorem dX11_term_22 : decode cX11_term 22 = .ok (.lstore 5, 2) := by decide +kernel
theorem dX11_term_24 : decode cX11_term 24 = .ok (.lload 9, 2) := by decide +kernel
theorem dX11_term_26 : decode cX11_term 26 = .ok (.lstore 7, 2) := by decide +kernel
theorem dX11_term_28 : decode cX11_term 28 = .ok (.goto (-22), 3) := by decide +kernel
theorem dX11_term_31 : decode cX11_term 31 = .ok (.iload 4, 2) := by decide +kernel
theorem dX11_term_33 : decode cX11_term 33 = .ok (.ifCond .ne 10, 3) := by decide +kernel
theorem dX11_term_36 : decode cX11_term 36 = .ok (.lload_n 0, 1) := by decide +kernel
theorem dX11_term_37 : decode cX11_term 37 = .ok (.lload 5, 2) := by decide +kernel
theorem dX11_term_39 : decode cX11_term 39 = .ok (.ldiv, 1) := by decide +kernel
theorem dX11_term_40 : decode cX11_term 40 = .ok (.goto 7, 3) := by decide +kernel
theorem dX11_term_43 : decode cX11_term 43 = .ok (.lload_n 2, 1) := by decide +kernel
theorem dX11_term_44 : decode cX11_term 44 = .ok (.lload 5, 2) := by decide +kernel
theorem dX11_term_46 : decode cX11_term 46 = .ok (.ldiv, 1) := by decide +kernel
theorem dX11_term_47 : decode cX11_term 47 = .ok (.lreturn, 1) := by decide +kernel
set_option maxRecDepth 20000 in
theorem ggX11_behind_X11_isHeap : GoodIn wsX11_behind wsX11_isHeap := goodIn_r _ [10, 11, 12, 13, 9, 14, 91, 92, 93, 94, 95, 96, 97, 98, 99, 100, 101, 102, 103, 104, 105, 106, 107] (by decide +kernel) (by decide +kernel)
set_option maxRecDepth 20000 in
theorem gX11_behind_X11_isHeap : GoodIn wsX11_behind (wsV RX11 46 RX11 yX11_isHeap wsX11_isHeap) := goodIn_app (goodIn_of _ (by decide +kernel)) ggX11_behind_X11_isHeap
set_option maxRecDepth 20000 in
theorem ggX11_behind_X11_in : GoodIn wsX11_behind wsX11_in := goodIn_r _ [14] (by decide +kernel) (by decide +kernel)
set_option maxRecDepth 20000 in
theorem gX11_behind_X11_in : GoodIn wsX11_behind (va_wsS RX11 42 yX11_in wsX11_in) := goodIn_app (goodIn_of _ (by decide +kernel)) ggX11_behind_X11_in
set_option maxRecDepth 20000 in
theorem ggX11_behind_X11_layWay : GoodIn wsX11_behind wsX11_layWay := goodIn_r _ [18, 19, 20, 5, 4, 2, 21, 22, 23, 9, 24, 25, 26, 27, 28, 29, 30, 31, 32, 11, 33, 34, 35, 36, 37, 38, 39, 40, 41, 42, 43, 44, 45, 46, 47, 48, 49, 50, 51, 52, 53, 54, 55, 56, 57, 58, 59, 60, 61, 62, 63, 64, 65, 66, 67, 68, 69, 70, 71, 72, 73, 74, 75, 76, 77, 78, 79, 80, 81, 82, 83, 12, 13, 14, 84, 85, 86, 87, 91, 92, 93, 94, 95, 96, 97, 98, 99, 100, 101, 102, 103, 104, 105, 106, 107] (by decide +kernel) (by decide +kernel)
set_option maxRecDepth 20000 in
theorem gX11_behind_X11_layWay : GoodIn wsX11_behind (wsV RX11 132 RX11 yX11_layWay wsX11_layWay) := goodIn_app (goodIn_of _ (by decide +kernel)) ggX11_behind_X11_layWay
set_option maxRecDepth 20000 in
theorem ggX11_behind_X11_term : GoodIn wsX11_behind wsX11_term := goodIn_r _ [90] (by decide +kernel) (by decide +kernel)
set_option maxRecDepth 20000 in
theorem gX11_behind_X11_term : GoodIn wsX11_behind (va_wsS RX11 143 yX11_term wsX11_term) := goodIn_app (goodIn_of _ (by decide +kernel)) ggX11_behind_X11_term
theorem dX11_behind_0 : decode cX11_behind 0 = .ok (.aload_n 0, 1) := by decide +kernel
theorem dX11_behind_1 : decode cX11_behind 1 = .ok (.iload_n 2, 1) := by decide +kernel
theorem dX11_behind_2 : decode cX11_behind 2 = .ok (.invokevirtual 46, 3) := by decide +kernel
theorem dX11_behind_5 : decode cX11_behind 5 = .ok (.ifCond .ne 7, 3) := by decide +kernel
theorem dX11_behind_8 : decode cX11_behind 8 = .ok (.ldc2_w 139, 3) := by decide +kernel
theorem dX11_behind_11 : decode cX11_behind 11 = .ok (.lreturn, 1) := by decide +kernel
theorem dX11_behind_12 : decode cX11_behind 12 = .ok (.iload_n 3, 1) := by decide +kernel
theorem dX11_behind_13 : decode cX11_behind 13 = .ok (.iconst 0, 1) := by decide +kernel
theorem dX11_behind_14 : decode cX11_behind 14 = .ok (.aload_n 0, 1) := by decide +kernel
theorem dX11_behind_15 : decode cX11_behind 15 = .ok (.getfield 16, 3) := by decide +kernel
theorem dX11_behind_18 : decode cX11_behind 18 = .ok (.invokestatic 42, 3) := by decide +kernel
theorem dX11_behind_21 : decode cX11_behind 21 = .ok (.ifCond .eq 13, 3) := by decide +kernel
theorem dX11_behind_24 : decode cX11_behind 24 = .ok (.iload 4, 2) := by decide +kernel
theorem dX11_behind_26 : decode cX11_behind 26 = .ok (.iconst 0, 1) := by decide +kernel
theorem dX11_behind_27 : decode cX11_behind 27 = .ok (.iconst 1, 1) := by decide +kernel
theorem dX11_behind_28 : decode cX11_behind 28 = .ok (.invokestatic 42, 3) := by decide +kernel
theorem dX11_behind_31 : decode cX11_behind 31 = .ok (.ifCond .ne 7, 3) := by decide +kernel
theorem dX11_behind_34 : decode cX11_behind 34 = .ok (.ldc2_w 141, 3) := by decide +kernel
theorem dX11_behind_37 : decode cX11_behind 37 = .ok (.lreturn, 1) := by decide +kernel
theorem dX11_behind_38 : decode cX11_behind 38 = .ok (.aload_n 0, 1) := by decide +kernel
theorem dX11_behind_39 : decode cX11_behind 39 = .ok (.iload_n 1, 1) := by decide +kernel
theorem dX11_behind_40 : decode cX11_behind 40 = .ok (.invokevirtual 132, 3) := by decide +kernel
theorem dX11_behind_43 : decode cX11_behind 43 = .ok (.aload_n 0, 1) := by decide +kernel
theorem dX11_behind_44 : decode cX11_behind 44 = .ok (.getfield 32, 3) := by decide +kernel
theorem dX11_behind_47 : decode cX11_behind 47 = .ok (.bipush 7, 2) := by decide +kernel
theorem dX11_behind_49 : decode cX11_behind 49 = .ok (.iload_n 3, 1) := by decide +kernel
theorem dX11_behind_50 : decode cX11_behind 50 = .ok (.imul, 1) := by decide +kernel
theorem dX11_behind_51 : decode cX11_behind 51 = .ok (.iload_n 2, 1) := by decide +kernel
theorem dX11_behind_52 : decode cX11_behind 52 = .ok (.iadd, 1) := by decide +kernel
theorem dX11_behind_53 : decode cX11_behind 53 = .ok (.laload, 1) := by decide +kernel
theorem dX11_behind_54 : decode cX11_behind 54 = .ok (.aload_n 0, 1) := by decide +kernel
theorem dX11_behind_55 : decode cX11_behind 55 = .ok (.getfield 36, 3) := by decide +kernel
theorem dX11_behind_58 : decode cX11_behind 58 = .ok (.iload_n 3, 1) := by decide +kernel
theorem dX11_behind_59 : decode cX11_behind 59 = .ok (.laload, 1) := by decide +kernel
theorem dX11_behind_60 : decode cX11_behind 60 = .ok (.iload 4, 2) := by decide +kernel
theorem dX11_behind_62 : decode cX11_behind 62 = .ok (.invokestatic 143, 3) := by decide +kernel
theorem dX11_behind_65 : decode cX11_behind 65 = .ok (.lreturn, 1) := by decide +kernel
set_option maxRecDepth 20000 in
theorem ggX11_load_X11_behind : GoodIn wsX11_load wsX11_behind := goodIn_r _ [5, 6, 7, 8, 9, 10, 11, 12, 13, 4, 14, 15, 16, 17, 18, 19, 20, 21, 22, 23, 24, 25, 26, 27, 28, 29, 30, 31, 32, 33, 34, 35, 36, 37, 38, 39, 40, 41, 42, 43, 44, 45, 46, 47, 48, 49, 50, 51, 52, 53, 54, 55, 56, 57, 58, 59, 60, 61, 62, 63, 64, 65, 66, 67, 68, 69, 70, 71, 72, 73, 74, 75, 76, 77, 78, 79, 80, 81, 82, 83, 84, 85, 86, 87, 88, 89, 90, 91, 92, 93, 94, 95, 96, 97, 98, 99, 100, 101, 102, 103, 104, 105, 106, 107, 108, 109, 110, 111] (by decide +kernel) (by decide +kernel)
set_option maxRecDepth 20000 in
theorem gX11_load_X11_behind : GoodIn wsX11_load (wsV RX11 147 RX11 yX11_behind wsX11_behind) := goodIn_app (goodIn_of _ (by decide +kernel)) ggX11_load_X11_behind
theorem dX11_load_0 : decode cX11_load 0 = .ok (.aload_n 0, 1) := by decide +kernel
theorem dX11_load_1 : decode cX11_load 1 = .ok (.iconst 2, 1) := by decide +kernel
theorem dX11_load_2 : decode cX11_load 2 = .ok (.iload_n 1, 1) := by decide +kernel
theorem dX11_load_3 : decode cX11_load 3 = .ok (.iload_n 2, 1) := by decide +kernel
theorem dX11_load_4 : decode cX11_load 4 = .ok (.iload_n 3, 1) := by decide +kernel
theorem dX11_load_5 : decode cX11_load 5 = .ok (.invokevirtual 147, 3) := by decide +kernel
theorem dX11_load_8 : decode cX11_load 8 = .ok (.lreturn, 1) := by decide +kernel
set_option maxRecDepth 20000 in
theorem ggX11_purse_X11_behind : GoodIn wsX11_purse wsX11_behind := goodIn_r _ [5, 6, 7, 8, 9, 10, 11, 12, 13, 4, 14, 15, 16, 17, 18, 19, 20, 21, 22, 23, 24, 25, 26, 27, 28, 29, 30, 31, 32, 33, 34, 35, 36, 37, 38, 39, 40, 41, 42, 43, 44, 45, 46, 47, 48, 49, 50, 51, 52, 53, 54, 55, 56, 57, 58, 59, 60, 61, 62, 63, 64, 65, 66, 67, 68, 69, 70, 71, 72, 73, 74, 75, 76, 77, 78, 79, 80, 81, 82, 83, 84, 85, 86, 87, 88, 89, 90, 91, 92, 93, 94, 95, 96, 97, 98, 99, 100, 101, 102, 103, 104, 105, 106, 107, 108, 109, 110, 111] (by decide +kernel) (by decide +kernel)
set_option maxRecDepth 20000 in
theorem gX11_purse_X11_behind : GoodIn wsX11_purse (wsV RX11 147 RX11 yX11_behind wsX11_behind) := goodIn_app (goodIn_of _ (by decide +kernel)) ggX11_purse_X11_behind
theorem dX11_purse_0 : decode cX11_purse 0 = .ok (.aload_n 0, 1) := by decide +kernel
theorem dX11_purse_1 : decode cX11_purse 1 = .ok (.iconst 3, 1) := by decide +kernel
theorem dX11_purse_2 : decode cX11_purse 2 = .ok (.iload_n 1, 1) := by decide +kernel
theorem dX11_purse_3 : decode cX11_purse 3 = .ok (.iload_n 2, 1) := by decide +kernel
theorem dX11_purse_4 : decode cX11_purse 4 = .ok (.iload_n 3, 1) := by decide +kernel
theorem dX11_purse_5 : decode cX11_purse 5 = .ok (.invokevirtual 147, 3) := by decide +kernel
theorem dX11_purse_8 : decode cX11_purse 8 = .ok (.lreturn, 1) := by decide +kernel
set_option maxRecDepth 20000 in
theorem ggX11_paid_X11_layWay : GoodIn wsX11_paid wsX11_layWay := goodIn_r _ [6, 7, 1, 8, 9, 10, 11, 12, 13, 5, 14, 15, 16, 17, 18, 19, 20, 21, 22, 23, 24, 25, 26, 27, 28, 29, 30, 31, 32, 33, 34, 35, 36, 37, 38, 39, 40, 41, 42, 43, 44, 45, 46, 47, 48, 49, 50, 51, 52, 53, 54, 55, 56, 57, 58, 59, 60, 61, 62, 63, 64, 65, 66, 67, 68, 69, 70, 71, 72, 73, 74, 75, 76, 77, 78, 79, 80, 81, 82, 83, 84, 85, 86, 87, 88, 89, 90, 91, 92, 93, 94, 95, 96, 97, 98] (by decide +kernel) (by decide +kernel)
set_option maxRecDepth 20000 in
theorem gX11_paid_X11_layWay : GoodIn wsX11_paid (wsV RX11 132 RX11 yX11_layWay wsX11_layWay) := goodIn_app (goodIn_of _ (by decide +kernel)) ggX11_paid_X11_layWay
theorem dX11_paid_0 : decode cX11_paid 0 = .ok (.aload_n 0, 1) := by decide +kernel
theorem dX11_paid_1 : decode cX11_paid 1 = .ok (.iconst 3, 1) := by decide +kernel
theorem dX11_paid_2 : decode cX11_paid 2 = .ok (.invokevirtual 132, 3) := by decide +kernel
theorem dX11_paid_5 : decode cX11_paid 5 = .ok (.aload_n 0, 1) := by decide +kernel
theorem dX11_paid_6 : decode cX11_paid 6 = .ok (.getfield 110, 3) := by decide +kernel
theorem dX11_paid_9 : decode cX11_paid 9 = .ok (.ireturn, 1) := by decide +kernel
set_option maxRecDepth 20000 in
theorem ggX11_isOwed_X11_bits : GoodIn wsX11_isOwed wsX11_bits := goodIn_r _ [8] (by decide +kernel) (by decide +kernel)
set_option maxRecDepth 20000 in
theorem gX11_isOwed_X11_bits : GoodIn wsX11_isOwed (va_wsS RX11 60 yX11_bits wsX11_bits) := goodIn_app (goodIn_of _ (by decide +kernel)) ggX11_isOwed_X11_bits
set_option maxRecDepth 20000 in
theorem ggX11_isOwed_X11_allPapers : GoodIn wsX11_isOwed wsX11_allPapers := goodIn_r _ [12, 1, 3, 13, 14, 15, 16, 17, 18, 19, 20, 21, 22, 23, 24, 25, 26, 27, 28, 29] (by decide +kernel) (by decide +kernel)
set_option maxRecDepth 20000 in
theorem gX11_isOwed_X11_allPapers : GoodIn wsX11_isOwed (wsV RX11 96 RX11 yX11_allPapers wsX11_allPapers) := goodIn_app (goodIn_of _ (by decide +kernel)) ggX11_isOwed_X11_allPapers
theorem dX11_isOwed_0 : decode cX11_isOwed 0 = .ok (.sipush 255, 3) := by decide +kernel
theorem dX11_isOwed_3 : decode cX11_isOwed 3 = .ok (.istore_n 3, 1) := by decide +kernel
theorem dX11_isOwed_4 : decode cX11_isOwed 4 = .ok (.iconst 0, 1) := by decide +kernel
theorem dX11_isOwed_5 : decode cX11_isOwed 5 = .ok (.istore 4, 2) := by decide +kernel
theorem dX11_isOwed_7 : decode cX11_isOwed 7 = .ok (.iconst 0, 1) := by decide +kernel
theorem dX11_isOwed_8 : decode cX11_isOwed 8 = .ok (.istore 5, 2) := by decide +kernel
theorem dX11_isOwed_10 : decode cX11_isOwed 10 = .ok (.iload 5, 2) := by decide +kernel
theorem dX11_isOwed_12 : decode cX11_isOwed 12 = .ok (.aload_n 0, 1) := by decide +kernel
theorem dX11_isOwed_13 : decode cX11_isOwed 13 = .ok (.getfield 39, 3) := by decide +kernel
theorem dX11_isOwed_16 : decode cX11_isOwed 16 = .ok (.if_icmp .ge 41, 3) := by decide +kernel
theorem dX11_isOwed_19 : decode cX11_isOwed 19 = .ok (.iload_n 1, 1) := by decide +kernel
theorem dX11_isOwed_20 : decode cX11_isOwed 20 = .ok (.iload 5, 2) := by decide +kernel
theorem dX11_isOwed_22 : decode cX11_isOwed 22 = .ok (.ishr, 1) := by decide +kernel
theorem dX11_isOwed_23 : decode cX11_isOwed 23 = .ok (.iconst 1, 1) := by decide +kernel
theorem dX11_isOwed_24 : decode cX11_isOwed 24 = .ok (.iand, 1) := by decide +kernel
theorem dX11_isOwed_25 : decode cX11_isOwed 25 = .ok (.iconst 1, 1) := by decide +kernel
theorem dX11_isOwed_26 : decode cX11_isOwed 26 = .ok (.if_icmp .ne 25, 3) := by decide +kernel
theorem dX11_isOwed_29 : decode cX11_isOwed 29 = .ok (.iload_n 3, 1) := by decide +kernel
theorem dX11_isOwed_30 : decode cX11_isOwed 30 = .ok (.aload_n 0, 1) := by decide +kernel
theorem dX11_isOwed_31 : decode cX11_isOwed 31 = .ok (.getfield 7, 3) := by decide +kernel
theorem dX11_isOwed_34 : decode cX11_isOwed 34 = .ok (.iload 5, 2) := by decide +kernel
theorem dX11_isOwed_36 : decode cX11_isOwed 36 = .ok (.iaload, 1) := by decide +kernel
theorem dX11_isOwed_37 : decode cX11_isOwed 37 = .ok (.iand, 1) := by decide +kernel
theorem dX11_isOwed_38 : decode cX11_isOwed 38 = .ok (.istore_n 3, 1) := by decide +kernel
theorem dX11_isOwed_39 : decode cX11_isOwed 39 = .ok (.iload 4, 2) := by decide +kernel
theorem dX11_isOwed_41 : decode cX11_isOwed 41 = .ok (.aload_n 0, 1) := by decide +kernel
theorem dX11_isOwed_42 : decode cX11_isOwed 42 = .ok (.getfield 13, 3) := by decide +kernel
theorem dX11_isOwed_45 : decode cX11_isOwed 45 = .ok (.iload 5, 2) := by decide +kernel
theorem dX11_isOwed_47 : decode cX11_isOwed 47 = .ok (.iaload, 1) := by decide +kernel
theorem dX11_isOwed_48 : decode cX11_isOwed 48 = .ok (.iadd, 1) := by decide +kernel
theorem dX11_isOwed_49 : decode cX11_isOwed 49 = .ok (.istore 4, 2) := by decide +kernel
theorem dX11_isOwed_51 : decode cX11_isOwed 51 = .ok (.iinc 5 1, 3) := by decide +kernel
theorem dX11_isOwed_54 : decode cX11_isOwed 54 = .ok (.goto (-44), 3) := by decide +kernel
theorem dX11_isOwed_57 : decode cX11_isOwed 57 = .ok (.iload_n 3, 1) := by decide +kernel
theorem dX11_isOwed_58 : decode cX11_isOwed 58 = .ok (.invokestatic 60, 3) := by decide +kernel
theorem dX11_isOwed_61 : decode cX11_isOwed 61 = .ok (.iload_n 2, 1) := by decide +kernel
theorem dX11_isOwed_62 : decode cX11_isOwed 62 = .ok (.if_icmp .lt 23, 3) := by decide +kernel
theorem dX11_isOwed_65 : decode cX11_isOwed 65 = .ok (.iload 4, 2) := by decide +kernel
theorem dX11_isOwed_67 : decode cX11_isOwed 67 = .ok (.aload_n 0, 1) := by decide +kernel
theorem dX11_isOwed_68 : decode cX11_isOwed 68 = .ok (.getfield 16, 3) := by decide +kernel
theorem dX11_isOwed_71 : decode cX11_isOwed 71 = .ok (.imul, 1) := by decide +kernel
theorem dX11_isOwed_72 : decode cX11_isOwed 72 = .ok (.iload_n 2, 1) := by decide +kernel
theorem dX11_isOwed_73 : decode cX11_isOwed 73 = .ok (.aload_n 0, 1) := by decide +kernel
theorem dX11_isOwed_74 : decode cX11_isOwed 74 = .ok (.invokevirtual 96, 3) := by decide +kernel
theorem dX11_isOwed_77 : decode cX11_isOwed 77 = .ok (.imul, 1) := by decide +kernel
theorem dX11_isOwed_78 : decode cX11_isOwed 78 = .ok (.if_icmp .lt 7, 3) := by decide +kernel
theorem dX11_isOwed_81 : decode cX11_isOwed 81 = .ok (.iconst 1, 1) := by decide +kernel
theorem dX11_isOwed_82 : decode cX11_isOwed 82 = .ok (.goto 4, 3) := by decide +kernel
theorem dX11_isOwed_85 : decode cX11_isOwed 85 = .ok (.iconst 0, 1) := by decide +kernel
theorem dX11_isOwed_86 : decode cX11_isOwed 86 = .ok (.ireturn, 1) := by decide +kernel
set_option maxRecDepth 20000 in
theorem ggX11_owed_X11_in : GoodIn wsX11_owed wsX11_in := goodIn_r _ [5] (by decide +kernel) (by decide +kernel)
set_option maxRecDepth 20000 in
theorem gX11_owed_X11_in : GoodIn wsX11_owed (va_wsS RX11 42 yX11_in wsX11_in) := goodIn_app (goodIn_of _ (by decide +kernel)) ggX11_owed_X11_in
set_option maxRecDepth 20000 in
theorem ggX11_owed_X11_isOwed : GoodIn wsX11_owed wsX11_isOwed := goodIn_r _ [9, 1, 10, 11, 12, 13, 14, 4, 15, 16, 17, 18, 19, 20, 21, 22, 23, 24, 25, 26, 27, 28, 29, 30, 31, 32, 33, 34, 35, 36] (by decide +kernel) (by decide +kernel)
set_option maxRecDepth 20000 in
theorem gX11_owed_X11_isOwed : GoodIn wsX11_owed (wsV RX11 151 RX11 yX11_isOwed wsX11_isOwed) := goodIn_app (goodIn_of _ (by decide +kernel)) ggX11_owed_X11_isOwed
theorem dX11_owed_0 : decode cX11_owed 0 = .ok (.iload_n 2, 1) := by decide +kernel
theorem dX11_owed_1 : decode cX11_owed 1 = .ok (.iconst 1, 1) := by decide +kernel
theorem dX11_owed_2 : decode cX11_owed 2 = .ok (.iconst 4, 1) := by decide +kernel
theorem dX11_owed_3 : decode cX11_owed 3 = .ok (.invokestatic 42, 3) := by decide +kernel
theorem dX11_owed_6 : decode cX11_owed 6 = .ok (.ifCond .eq 19, 3) := by decide +kernel
theorem dX11_owed_9 : decode cX11_owed 9 = .ok (.iload_n 1, 1) := by decide +kernel
theorem dX11_owed_10 : decode cX11_owed 10 = .ok (.iconst 1, 1) := by decide +kernel
theorem dX11_owed_11 : decode cX11_owed 11 = .ok (.iconst 1, 1) := by decide +kernel
theorem dX11_owed_12 : decode cX11_owed 12 = .ok (.aload_n 0, 1) := by decide +kernel
theorem dX11_owed_13 : decode cX11_owed 13 = .ok (.getfield 39, 3) := by decide +kernel
theorem dX11_owed_16 : decode cX11_owed 16 = .ok (.ishl, 1) := by decide +kernel
theorem dX11_owed_17 : decode cX11_owed 17 = .ok (.iconst 1, 1) := by decide +kernel
theorem dX11_owed_18 : decode cX11_owed 18 = .ok (.isub, 1) := by decide +kernel
theorem dX11_owed_19 : decode cX11_owed 19 = .ok (.invokestatic 42, 3) := by decide +kernel
theorem dX11_owed_22 : decode cX11_owed 22 = .ok (.ifCond .ne 6, 3) := by decide +kernel
theorem dX11_owed_25 : decode cX11_owed 25 = .ok (.bipush (-2), 2) := by decide +kernel
theorem dX11_owed_27 : decode cX11_owed 27 = .ok (.ireturn, 1) := by decide +kernel
theorem dX11_owed_28 : decode cX11_owed 28 = .ok (.aload_n 0, 1) := by decide +kernel
theorem dX11_owed_29 : decode cX11_owed 29 = .ok (.iload_n 1, 1) := by decide +kernel
theorem dX11_owed_30 : decode cX11_owed 30 = .ok (.iload_n 2, 1) := by decide +kernel
theorem dX11_owed_31 : decode cX11_owed 31 = .ok (.invokevirtual 151, 3) := by decide +kernel
theorem dX11_owed_34 : decode cX11_owed 34 = .ok (.ifCond .eq 7, 3) := by decide +kernel
theorem dX11_owed_37 : decode cX11_owed 37 = .ok (.iconst 1, 1) := by decide +kernel
theorem dX11_owed_38 : decode cX11_owed 38 = .ok (.goto 4, 3) := by decide +kernel
theorem dX11_owed_41 : decode cX11_owed 41 = .ok (.iconst 0, 1) := by decide +kernel
theorem dX11_owed_42 : decode cX11_owed 42 = .ok (.ireturn, 1) := by decide +kernel
set_option maxRecDepth 20000 in
theorem ggX11_lacks_X11_bits : GoodIn wsX11_lacks wsX11_bits := goodIn_r _ [6] (by decide +kernel) (by decide +kernel)
set_option maxRecDepth 20000 in
theorem gX11_lacks_X11_bits : GoodIn wsX11_lacks (va_wsS RX11 60 yX11_bits wsX11_bits) := goodIn_app (goodIn_of _ (by decide +kernel)) ggX11_lacks_X11_bits
theorem dX11_lacks_0 : decode cX11_lacks 0 = .ok (.iconst 0, 1) := by decide +kernel
theorem dX11_lacks_1 : decode cX11_lacks 1 = .ok (.istore 5, 2) := by decide +kernel
theorem dX11_lacks_3 : decode cX11_lacks 3 = .ok (.iconst 0, 1) := by decide +kernel
theorem dX11_lacks_4 : decode cX11_lacks 4 = .ok (.istore 6, 2) := by decide +kernel
theorem dX11_lacks_6 : decode cX11_lacks 6 = .ok (.iconst 0, 1) := by decide +kernel
theorem dX11_lacks_7 : decode cX11_lacks 7 = .ok (.istore 7, 2) := by decide +kernel
theorem dX11_lacks_9 : decode cX11_lacks 9 = .ok (.iload 7, 2) := by decide +kernel
theorem dX11_lacks_11 : decode cX11_lacks 11 = .ok (.aload_n 0, 1) := by decide +kernel
theorem dX11_lacks_12 : decode cX11_lacks 12 = .ok (.getfield 39, 3) := by decide +kernel
theorem dX11_lacks_15 : decode cX11_lacks 15 = .ok (.if_icmp .ge 67, 3) := by decide +kernel
theorem dX11_lacks_18 : decode cX11_lacks 18 = .ok (.iload_n 3, 1) := by decide +kernel
theorem dX11_lacks_19 : decode cX11_lacks 19 = .ok (.iload 7, 2) := by decide +kernel
theorem dX11_lacks_21 : decode cX11_lacks 21 = .ok (.ishr, 1) := by decide +kernel
theorem dX11_lacks_22 : decode cX11_lacks 22 = .ok (.iconst 1, 1) := by decide +kernel
theorem dX11_lacks_23 : decode cX11_lacks 23 = .ok (.iand, 1) := by decide +kernel
theorem dX11_lacks_24 : decode cX11_lacks 24 = .ok (.iconst 1, 1) := by decide +kernel
theorem dX11_lacks_25 : decode cX11_lacks 25 = .ok (.if_icmp .ne 51, 3) := by decide +kernel
theorem dX11_lacks_28 : decode cX11_lacks 28 = .ok (.iload 5, 2) := by decide +kernel
theorem dX11_lacks_30 : decode cX11_lacks 30 = .ok (.aload_n 0, 1) := by decide +kernel
theorem dX11_lacks_31 : decode cX11_lacks 31 = .ok (.getfield 7, 3) := by decide +kernel
theorem dX11_lacks_34 : decode cX11_lacks 34 = .ok (.iload 7, 2) := by decide +kernel
theorem dX11_lacks_36 : decode cX11_lacks 36 = .ok (.iaload, 1) := by decide +kernel
theorem dX11_lacks_37 : decode cX11_lacks 37 = .ok (.ior, 1) := by decide +kernel
theorem dX11_lacks_38 : decode cX11_lacks 38 = .ok (.istore 5, 2) := by decide +kernel
theorem dX11_lacks_40 : decode cX11_lacks 40 = .ok (.iload_n 2, 1) := by decide +kernel
theorem dX11_lacks_41 : decode cX11_lacks 41 = .ok (.aload_n 0, 1) := by decide +kernel
theorem dX11_lacks_42 : decode cX11_lacks 42 = .ok (.getfield 7, 3) := by decide +kernel
theorem dX11_lacks_45 : decode cX11_lacks 45 = .ok (.iload 7, 2) := by decide +kernel
theorem dX11_lacks_47 : decode cX11_lacks 47 = .ok (.iaload, 1) := by decide +kernel
theorem dX11_lacks_48 : decode cX11_lacks 48 = .ok (.iand, 1) := by decide +kernel
theorem dX11_lacks_49 : decode cX11_lacks 49 = .ok (.invokestatic 60, 3) := by decide +kernel
theorem dX11_lacks_52 : decode cX11_lacks 52 = .ok (.iload 6, 2) := by decide +kernel
theorem dX11_lacks_54 : decode cX11_lacks 54 = .ok (.if_icmp .le 18, 3) := by decide +kernel
theorem dX11_lacks_57 : decode cX11_lacks 57 = .ok (.iload_n 2, 1) := by decide +kernel
theorem dX11_lacks_58 : decode cX11_lacks 58 = .ok (.aload_n 0, 1) := by decide +kernel
theorem dX11_lacks_59 : decode cX11_lacks 59 = .ok (.getfield 7, 3) := by decide +kernel
theorem dX11_lacks_62 : decode cX11_lacks 62 = .ok (.iload 7, 2) := by decide +kernel
theorem dX11_lacks_64 : decode cX11_lacks 64 = .ok (.iaload, 1) := by decide +kernel
theorem dX11_lacks_65 : decode cX11_lacks 65 = .ok (.iand, 1) := by decide +kernel
theorem dX11_lacks_66 : decode cX11_lacks 66 = .ok (.invokestatic 60, 3) := by decide +kernel
theorem dX11_lacks_69 : decode cX11_lacks 69 = .ok (.goto 5, 3) := by decide +kernel
theorem dX11_lacks_72 : decode cX11_lacks 72 = .ok (.iload 6, 2) := by decide +kernel
theorem dX11_lacks_74 : decode cX11_lacks 74 = .ok (.istore 6, 2) := by decide +kernel
theorem dX11_lacks_76 : decode cX11_lacks 76 = .ok (.iinc 7 1, 3) := by decide +kernel
theorem dX11_lacks_79 : decode cX11_lacks 79 = .ok (.goto (-70), 3) := by decide +kernel
theorem dX11_lacks_82 : decode cX11_lacks 82 = .ok (.iload_n 1, 1) := by decide +kernel
theorem dX11_lacks_83 : decode cX11_lacks 83 = .ok (.iconst 1, 1) := by decide +kernel
theorem dX11_lacks_84 : decode cX11_lacks 84 = .ok (.if_icmp .ne 23, 3) := by decide +kernel
theorem dX11_lacks_87 : decode cX11_lacks 87 = .ok (.iload 5, 2) := by decide +kernel
theorem dX11_lacks_89 : decode cX11_lacks 89 = .ok (.iload_n 2, 1) := by decide +kernel
theorem dX11_lacks_90 : decode cX11_lacks 90 = .ok (.iand, 1) := by decide +kernel
theorem dX11_lacks_91 : decode cX11_lacks 91 = .ok (.invokestatic 60, 3) := by decide +kernel
theorem dX11_lacks_94 : decode cX11_lacks 94 = .ok (.iload 4, 2) := by decide +kernel
theorem dX11_lacks_96 : decode cX11_lacks 96 = .ok (.if_icmp .ge 7, 3) := by decide +kernel
theorem dX11_lacks_99 : decode cX11_lacks 99 = .ok (.iconst 1, 1) := by decide +kernel
theorem dX11_lacks_100 : decode cX11_lacks 100 = .ok (.goto 19, 3) := by decide +kernel
theorem dX11_lacks_103 : decode cX11_lacks 103 = .ok (.iconst 0, 1) := by decide +kernel
theorem dX11_lacks_104 : decode cX11_lacks 104 = .ok (.goto 15, 3) := by decide +kernel
theorem dX11_lacks_107 : decode cX11_lacks 107 = .ok (.iload 6, 2) := by decide +kernel
theorem dX11_lacks_109 : decode cX11_lacks 109 = .ok (.iload 4, 2) := by decide +kernel
theorem dX11_lacks_111 : decode cX11_lacks 111 = .ok (.if_icmp .ge 7, 3) := by decide +kernel
theorem dX11_lacks_114 : decode cX11_lacks 114 = .ok (.iconst 1, 1) := by decide +kernel
theorem dX11_lacks_115 : decode cX11_lacks 115 = .ok (.goto 4, 3) := by decide +kernel
theorem dX11_lacks_118 : decode cX11_lacks 118 = .ok (.iconst 0, 1) := by decide +kernel
theorem dX11_lacks_119 : decode cX11_lacks 119 = .ok (.ireturn, 1) := by decide +kernel
set_option maxRecDepth 20000 in
theorem ggX11_breachOf_X11_isOwed : GoodIn wsX11_breachOf wsX11_isOwed := goodIn_r _ [7, 1, 8, 9, 10, 11, 12, 6, 13, 14, 15, 16, 17, 22, 23, 24, 25, 26, 27, 28, 29, 30, 31, 32, 33, 34, 35, 36, 37, 38] (by decide +kernel) (by decide +kernel)
set_option maxRecDepth 20000 in
theorem gX11_breachOf_X11_isOwed : GoodIn wsX11_breachOf (wsV RX11 151 RX11 yX11_isOwed wsX11_isOwed) := goodIn_app (goodIn_of _ (by decide +kernel)) ggX11_breachOf_X11_isOwed
set_option maxRecDepth 20000 in
theorem ggX11_breachOf_X11_lacks : GoodIn wsX11_breachOf wsX11_lacks := goodIn_r _ [21, 1, 8, 11, 12, 6, 13, 22, 23, 24, 25, 26, 27, 28, 29, 30, 31, 32, 33, 34, 35, 36, 37, 38] (by decide +kernel) (by decide +kernel)
set_option maxRecDepth 20000 in
theorem gX11_breachOf_X11_lacks : GoodIn wsX11_breachOf (wsV RX11 154 RX11 yX11_lacks wsX11_lacks) := goodIn_app (goodIn_of _ (by decide +kernel)) ggX11_breachOf_X11_lacks
theorem dX11_breachOf_0 : decode cX11_breachOf 0 = .ok (.iconst 1, 1) := by decide +kernel
theorem dX11_breachOf_1 : decode cX11_breachOf 1 = .ok (.istore_n 3, 1) := by decide +kernel
theorem dX11_breachOf_2 : decode cX11_breachOf 2 = .ok (.iload_n 3, 1) := by decide +kernel
theorem dX11_breachOf_3 : decode cX11_breachOf 3 = .ok (.iload_n 1, 1) := by decide +kernel
theorem dX11_breachOf_4 : decode cX11_breachOf 4 = .ok (.ifCond .ne 7, 3) := by decide +kernel
theorem dX11_breachOf_7 : decode cX11_breachOf 7 = .ok (.iconst 1, 1) := by decide +kernel
theorem dX11_breachOf_8 : decode cX11_breachOf 8 = .ok (.goto 4, 3) := by decide +kernel
theorem dX11_breachOf_11 : decode cX11_breachOf 11 = .ok (.iconst 4, 1) := by decide +kernel
theorem dX11_breachOf_12 : decode cX11_breachOf 12 = .ok (.if_icmp .gt 59, 3) := by decide +kernel
theorem dX11_breachOf_15 : decode cX11_breachOf 15 = .ok (.iconst 1, 1) := by decide +kernel
theorem dX11_breachOf_16 : decode cX11_breachOf 16 = .ok (.istore 4, 2) := by decide +kernel
theorem dX11_breachOf_18 : decode cX11_breachOf 18 = .ok (.iload 4, 2) := by decide +kernel
theorem dX11_breachOf_20 : decode cX11_breachOf 20 = .ok (.iconst 1, 1) := by decide +kernel
theorem dX11_breachOf_21 : decode cX11_breachOf 21 = .ok (.aload_n 0, 1) := by decide +kernel
theorem dX11_breachOf_22 : decode cX11_breachOf 22 = .ok (.getfield 39, 3) := by decide +kernel
theorem dX11_breachOf_25 : decode cX11_breachOf 25 = .ok (.ishl, 1) := by decide +kernel
theorem dX11_breachOf_26 : decode cX11_breachOf 26 = .ok (.if_icmp .ge 39, 3) := by decide +kernel
theorem dX11_breachOf_29 : decode cX11_breachOf 29 = .ok (.aload_n 0, 1) := by decide +kernel
theorem dX11_breachOf_30 : decode cX11_breachOf 30 = .ok (.iload 4, 2) := by decide +kernel
theorem dX11_breachOf_32 : decode cX11_breachOf 32 = .ok (.iload_n 3, 1) := by decide +kernel
theorem dX11_breachOf_33 : decode cX11_breachOf 33 = .ok (.invokevirtual 151, 3) := by decide +kernel
theorem dX11_breachOf_36 : decode cX11_breachOf 36 = .ok (.ifCond .eq 23, 3) := by decide +kernel
theorem dX11_breachOf_39 : decode cX11_breachOf 39 = .ok (.aload_n 0, 1) := by decide +kernel
theorem dX11_breachOf_40 : decode cX11_breachOf 40 = .ok (.iload_n 1, 1) := by decide +kernel
theorem dX11_breachOf_41 : decode cX11_breachOf 41 = .ok (.iload_n 2, 1) := by decide +kernel
theorem dX11_breachOf_42 : decode cX11_breachOf 42 = .ok (.iload 4, 2) := by decide +kernel
theorem dX11_breachOf_44 : decode cX11_breachOf 44 = .ok (.iload_n 3, 1) := by decide +kernel
theorem dX11_breachOf_45 : decode cX11_breachOf 45 = .ok (.invokevirtual 154, 3) := by decide +kernel
theorem dX11_breachOf_48 : decode cX11_breachOf 48 = .ok (.ifCond .eq 11, 3) := by decide +kernel
theorem dX11_breachOf_51 : decode cX11_breachOf 51 = .ok (.aload_n 0, 1) := by decide +kernel
theorem dX11_breachOf_52 : decode cX11_breachOf 52 = .ok (.iload 4, 2) := by decide +kernel
theorem dX11_breachOf_54 : decode cX11_breachOf 54 = .ok (.putfield 158, 3) := by decide +kernel
theorem dX11_breachOf_57 : decode cX11_breachOf 57 = .ok (.iload_n 3, 1) := by decide +kernel
theorem dX11_breachOf_58 : decode cX11_breachOf 58 = .ok (.ireturn, 1) := by decide +kernel
theorem dX11_breachOf_59 : decode cX11_breachOf 59 = .ok (.iinc 4 1, 3) := by decide +kernel
theorem dX11_breachOf_62 : decode cX11_breachOf 62 = .ok (.goto (-44), 3) := by decide +kernel
theorem dX11_breachOf_65 : decode cX11_breachOf 65 = .ok (.iinc 3 1, 3) := by decide +kernel
theorem dX11_breachOf_68 : decode cX11_breachOf 68 = .ok (.goto (-66), 3) := by decide +kernel
theorem dX11_breachOf_71 : decode cX11_breachOf 71 = .ok (.aload_n 0, 1) := by decide +kernel
theorem dX11_breachOf_72 : decode cX11_breachOf 72 = .ok (.bipush (-6), 2) := by decide +kernel
theorem dX11_breachOf_74 : decode cX11_breachOf 74 = .ok (.putfield 158, 3) := by decide +kernel
theorem dX11_breachOf_77 : decode cX11_breachOf 77 = .ok (.bipush (-6), 2) := by decide +kernel
theorem dX11_breachOf_79 : decode cX11_breachOf 79 = .ok (.ireturn, 1) := by decide +kernel
set_option maxRecDepth 20000 in
theorem ggX11_isLaw_X11_in : GoodIn wsX11_isLaw wsX11_in := goodIn_r _ [4] (by decide +kernel) (by decide +kernel)
set_option maxRecDepth 20000 in
theorem gX11_isLaw_X11_in : GoodIn wsX11_isLaw (va_wsS RX11 42 yX11_in wsX11_in) := goodIn_app (goodIn_of _ (by decide +kernel)) ggX11_isLaw_X11_in
theorem dX11_isLaw_0 : decode cX11_isLaw 0 = .ok (.iload_n 0, 1) := by decide +kernel
theorem dX11_isLaw_1 : decode cX11_isLaw 1 = .ok (.iconst 0, 1) := by decide +kernel
theorem dX11_isLaw_2 : decode cX11_isLaw 2 = .ok (.iconst 2, 1) := by decide +kernel
theorem dX11_isLaw_3 : decode cX11_isLaw 3 = .ok (.invokestatic 42, 3) := by decide +kernel
theorem dX11_isLaw_6 : decode cX11_isLaw 6 = .ok (.ireturn, 1) := by decide +kernel
set_option maxRecDepth 20000 in
theorem ggX11_breach_X11_isLaw : GoodIn wsX11_breach wsX11_isLaw := goodIn_r _ [5, 6, 7, 4, 8] (by decide +kernel) (by decide +kernel)
set_option maxRecDepth 20000 in
theorem gX11_breach_X11_isLaw : GoodIn wsX11_breach (va_wsS RX11 161 yX11_isLaw wsX11_isLaw) := goodIn_app (goodIn_of _ (by decide +kernel)) ggX11_breach_X11_isLaw
set_option maxRecDepth 20000 in
theorem ggX11_breach_X11_isCommittee : GoodIn wsX11_breach wsX11_isCommittee := goodIn_r _ [12, 13, 6, 7, 4, 8, 14, 15, 16, 36, 37, 38, 39, 40, 41, 42, 43, 44, 45, 46, 47, 48, 49, 50, 51, 52] (by decide +kernel) (by decide +kernel)
set_option maxRecDepth 20000 in
theorem gX11_breach_X11_isCommittee : GoodIn wsX11_breach (wsV RX11 64 RX11 yX11_isCommittee wsX11_isCommittee) := goodIn_app (goodIn_of _ (by decide +kernel)) ggX11_breach_X11_isCommittee
set_option maxRecDepth 20000 in
theorem ggX11_breach_X11_in : GoodIn wsX11_breach wsX11_in := goodIn_r _ [8] (by decide +kernel) (by decide +kernel)
set_option maxRecDepth 20000 in
theorem gX11_breach_X11_in : GoodIn wsX11_breach (va_wsS RX11 42 yX11_in wsX11_in) := goodIn_app (goodIn_of _ (by decide +kernel)) ggX11_breach_X11_in
set_option maxRecDepth 20000 in
theorem ggX11_breach_X11_breachOf : GoodIn wsX11_breach wsX11_breachOf := goodIn_r _ [20, 21, 1, 22, 23, 24, 4, 25, 26, 27, 13, 14, 15, 16, 28, 29, 30, 31, 32, 33, 34, 35, 36, 37, 38, 39, 40, 41, 42, 43, 44, 45, 46, 47, 48, 49, 50, 51, 52] (by decide +kernel) (by decide +kernel)
set_option maxRecDepth 20000 in
theorem gX11_breach_X11_breachOf : GoodIn wsX11_breach (wsV RX11 164 RX11 yX11_breachOf wsX11_breachOf) := goodIn_app (goodIn_of _ (by decide +kernel)) ggX11_breach_X11_breachOf
theorem dX11_breach_0 : decode cX11_breach 0 = .ok (.iload_n 1, 1) := by decide +kernel
theorem dX11_breach_1 : decode cX11_breach 1 = .ok (.invokestatic 161, 3) := by decide +kernel
theorem dX11_breach_4 : decode cX11_breach 4 = .ok (.ifCond .ne 5, 3) := by decide +kernel
theorem dX11_breach_7 : decode cX11_breach 7 = .ok (.iconst (-1), 1) := by decide +kernel
theorem dX11_breach_8 : decode cX11_breach 8 = .ok (.ireturn, 1) := by decide +kernel
theorem dX11_breach_9 : decode cX11_breach 9 = .ok (.aload_n 0, 1) := by decide +kernel
theorem dX11_breach_10 : decode cX11_breach 10 = .ok (.iload_n 2, 1) := by decide +kernel
theorem dX11_breach_11 : decode cX11_breach 11 = .ok (.invokevirtual 64, 3) := by decide +kernel
theorem dX11_breach_14 : decode cX11_breach 14 = .ok (.ifCond .eq 12, 3) := by decide +kernel
theorem dX11_breach_17 : decode cX11_breach 17 = .ok (.iload_n 3, 1) := by decide +kernel
theorem dX11_breach_18 : decode cX11_breach 18 = .ok (.iconst 0, 1) := by decide +kernel
theorem dX11_breach_19 : decode cX11_breach 19 = .ok (.iconst 2, 1) := by decide +kernel
theorem dX11_breach_20 : decode cX11_breach 20 = .ok (.invokestatic 42, 3) := by decide +kernel
theorem dX11_breach_23 : decode cX11_breach 23 = .ok (.ifCond .ne 6, 3) := by decide +kernel
theorem dX11_breach_26 : decode cX11_breach 26 = .ok (.bipush (-2), 2) := by decide +kernel
theorem dX11_breach_28 : decode cX11_breach 28 = .ok (.ireturn, 1) := by decide +kernel
theorem dX11_breach_29 : decode cX11_breach 29 = .ok (.aload_n 0, 1) := by decide +kernel
theorem dX11_breach_30 : decode cX11_breach 30 = .ok (.iload_n 1, 1) := by decide +kernel
theorem dX11_breach_31 : decode cX11_breach 31 = .ok (.iload_n 2, 1) := by decide +kernel
theorem dX11_breach_32 : decode cX11_breach 32 = .ok (.invokevirtual 164, 3) := by decide +kernel
theorem dX11_breach_35 : decode cX11_breach 35 = .ok (.istore 4, 2) := by decide +kernel
theorem dX11_breach_37 : decode cX11_breach 37 = .ok (.iload_n 3, 1) := by decide +kernel
theorem dX11_breach_38 : decode cX11_breach 38 = .ok (.ifCond .ne 16, 3) := by decide +kernel
theorem dX11_breach_41 : decode cX11_breach 41 = .ok (.iload 4, 2) := by decide +kernel
theorem dX11_breach_43 : decode cX11_breach 43 = .ok (.ifCond .ge 7, 3) := by decide +kernel
theorem dX11_breach_46 : decode cX11_breach 46 = .ok (.iconst 0, 1) := by decide +kernel
theorem dX11_breach_47 : decode cX11_breach 47 = .ok (.goto 21, 3) := by decide +kernel
theorem dX11_breach_50 : decode cX11_breach 50 = .ok (.iconst 1, 1) := by decide +kernel
theorem dX11_breach_51 : decode cX11_breach 51 = .ok (.goto 17, 3) := by decide +kernel
theorem dX11_breach_54 : decode cX11_breach 54 = .ok (.iload_n 3, 1) := by decide +kernel
theorem dX11_breach_55 : decode cX11_breach 55 = .ok (.iconst 1, 1) := by decide +kernel
theorem dX11_breach_56 : decode cX11_breach 56 = .ok (.if_icmp .ne 8, 3) := by decide +kernel
theorem dX11_breach_59 : decode cX11_breach 59 = .ok (.iload 4, 2) := by decide +kernel
theorem dX11_breach_61 : decode cX11_breach 61 = .ok (.goto 7, 3) := by decide +kernel
theorem dX11_breach_64 : decode cX11_breach 64 = .ok (.aload_n 0, 1) := by decide +kernel
theorem dX11_breach_65 : decode cX11_breach 65 = .ok (.getfield 158, 3) := by decide +kernel
theorem dX11_breach_68 : decode cX11_breach 68 = .ok (.ireturn, 1) := by decide +kernel
set_option maxRecDepth 20000 in
theorem ggX11_isKept_X11_isCommittee : GoodIn wsX11_isKept wsX11_isCommittee := goodIn_r _ [5, 6, 7, 8, 4, 9, 10, 11, 12, 39, 40, 41, 42, 43, 44, 45, 46, 47, 48, 49, 50, 51, 52, 53, 54, 55] (by decide +kernel) (by decide +kernel)
set_option maxRecDepth 20000 in
theorem gX11_isKept_X11_isCommittee : GoodIn wsX11_isKept (wsV RX11 64 RX11 yX11_isCommittee wsX11_isCommittee) := goodIn_app (goodIn_of _ (by decide +kernel)) ggX11_isKept_X11_isCommittee
set_option maxRecDepth 20000 in
theorem ggX11_isKept_X11_barOf : GoodIn wsX11_isKept wsX11_barOf := goodIn_r _ [16, 17, 18, 7, 8, 4, 9, 10, 11, 12, 39, 40, 41, 42, 43, 44, 45, 46, 47, 48, 49, 50, 51, 52, 53, 54, 55] (by decide +kernel) (by decide +kernel)
set_option maxRecDepth 20000 in
theorem gX11_isKept_X11_barOf : GoodIn wsX11_isKept (wsV RX11 67 RX11 yX11_barOf wsX11_barOf) := goodIn_app (goodIn_of _ (by decide +kernel)) ggX11_isKept_X11_barOf
set_option maxRecDepth 20000 in
theorem ggX11_isKept_X11_breachOf : GoodIn wsX11_isKept wsX11_breachOf := goodIn_r _ [22, 23, 24, 25, 26, 27, 4, 28, 29, 30, 6, 10, 11, 12, 31, 32, 33, 34, 35, 36, 37, 38, 39, 40, 41, 42, 43, 44, 45, 46, 47, 48, 49, 50, 51, 52, 53, 54, 55] (by decide +kernel) (by decide +kernel)
set_option maxRecDepth 20000 in
theorem gX11_isKept_X11_breachOf : GoodIn wsX11_isKept (wsV RX11 164 RX11 yX11_breachOf wsX11_breachOf) := goodIn_app (goodIn_of _ (by decide +kernel)) ggX11_isKept_X11_breachOf
theorem dX11_isKept_0 : decode cX11_isKept 0 = .ok (.aload_n 0, 1) := by decide +kernel
theorem dX11_isKept_1 : decode cX11_isKept 1 = .ok (.iload_n 2, 1) := by decide +kernel
theorem dX11_isKept_2 : decode cX11_isKept 2 = .ok (.invokevirtual 64, 3) := by decide +kernel
theorem dX11_isKept_5 : decode cX11_isKept 5 = .ok (.ifCond .eq 24, 3) := by decide +kernel
theorem dX11_isKept_8 : decode cX11_isKept 8 = .ok (.aload_n 0, 1) := by decide +kernel
theorem dX11_isKept_9 : decode cX11_isKept 9 = .ok (.iload_n 2, 1) := by decide +kernel
theorem dX11_isKept_10 : decode cX11_isKept 10 = .ok (.invokevirtual 67, 3) := by decide +kernel
theorem dX11_isKept_13 : decode cX11_isKept 13 = .ok (.ifCond .ge 16, 3) := by decide +kernel
theorem dX11_isKept_16 : decode cX11_isKept 16 = .ok (.aload_n 0, 1) := by decide +kernel
theorem dX11_isKept_17 : decode cX11_isKept 17 = .ok (.iload_n 1, 1) := by decide +kernel
theorem dX11_isKept_18 : decode cX11_isKept 18 = .ok (.iload_n 2, 1) := by decide +kernel
theorem dX11_isKept_19 : decode cX11_isKept 19 = .ok (.invokevirtual 164, 3) := by decide +kernel
theorem dX11_isKept_22 : decode cX11_isKept 22 = .ok (.ifCond .ge 7, 3) := by decide +kernel
theorem dX11_isKept_25 : decode cX11_isKept 25 = .ok (.iconst 1, 1) := by decide +kernel
theorem dX11_isKept_26 : decode cX11_isKept 26 = .ok (.goto 4, 3) := by decide +kernel
theorem dX11_isKept_29 : decode cX11_isKept 29 = .ok (.iconst 0, 1) := by decide +kernel
theorem dX11_isKept_30 : decode cX11_isKept 30 = .ok (.ireturn, 1) := by decide +kernel
set_option maxRecDepth 20000 in
theorem ggX11_kept_X11_isLaw : GoodIn wsX11_kept wsX11_isLaw := goodIn_r _ [4, 5, 6, 3, 7] (by decide +kernel) (by decide +kernel)
set_option maxRecDepth 20000 in
theorem gX11_kept_X11_isLaw : GoodIn wsX11_kept (va_wsS RX11 161 yX11_isLaw wsX11_isLaw) := goodIn_app (goodIn_of _ (by decide +kernel)) ggX11_kept_X11_isLaw
set_option maxRecDepth 20000 in
theorem ggX11_kept_X11_isKept : GoodIn wsX11_kept wsX11_isKept := goodIn_r _ [11, 12, 13, 14, 3, 15, 16, 5, 6, 7, 17, 18, 19, 20, 21, 22, 23, 24, 25, 26, 27, 28, 29, 30, 31, 32, 33, 34, 35, 36, 37, 38, 39, 40, 41, 42, 43, 44, 45, 46, 47, 48, 49, 50, 51, 52, 53, 54, 55, 56, 57, 58, 59, 60, 61, 62] (by decide +kernel) (by decide +kernel)
set_option maxRecDepth 20000 in
theorem gX11_kept_X11_isKept : GoodIn wsX11_kept (wsV RX11 167 RX11 yX11_isKept wsX11_isKept) := goodIn_app (goodIn_of _ (by decide +kernel)) ggX11_kept_X11_isKept
theorem dX11_kept_0 : decode cX11_kept 0 = .ok (.iload_n 1, 1) := by decide +kernel
theorem dX11_kept_1 : decode cX11_kept 1 = .ok (.invokestatic 161, 3) := by decide +kernel
theorem dX11_kept_4 : decode cX11_kept 4 = .ok (.ifCond .ne 5, 3) := by decide +kernel
theorem dX11_kept_7 : decode cX11_kept 7 = .ok (.iconst (-1), 1) := by decide +kernel
theorem dX11_kept_8 : decode cX11_kept 8 = .ok (.ireturn, 1) := by decide +kernel
theorem dX11_kept_9 : decode cX11_kept 9 = .ok (.iconst 0, 1) := by decide +kernel
theorem dX11_kept_10 : decode cX11_kept 10 = .ok (.istore_n 3, 1) := by decide +kernel
theorem dX11_kept_11 : decode cX11_kept 11 = .ok (.iconst 0, 1) := by decide +kernel
theorem dX11_kept_12 : decode cX11_kept 12 = .ok (.istore 4, 2) := by decide +kernel
theorem dX11_kept_14 : decode cX11_kept 14 = .ok (.iload 4, 2) := by decide +kernel
theorem dX11_kept_16 : decode cX11_kept 16 = .ok (.sipush 256, 3) := by decide +kernel
theorem dX11_kept_19 : decode cX11_kept 19 = .ok (.if_icmp .ge 30, 3) := by decide +kernel
theorem dX11_kept_22 : decode cX11_kept 22 = .ok (.aload_n 0, 1) := by decide +kernel
theorem dX11_kept_23 : decode cX11_kept 23 = .ok (.iload_n 1, 1) := by decide +kernel
theorem dX11_kept_24 : decode cX11_kept 24 = .ok (.iload 4, 2) := by decide +kernel
theorem dX11_kept_26 : decode cX11_kept 26 = .ok (.invokevirtual 167, 3) := by decide +kernel
theorem dX11_kept_29 : decode cX11_kept 29 = .ok (.ifCond .eq 14, 3) := by decide +kernel
theorem dX11_kept_32 : decode cX11_kept 32 = .ok (.iload_n 3, 1) := by decide +kernel
theorem dX11_kept_33 : decode cX11_kept 33 = .ok (.iload_n 2, 1) := by decide +kernel
theorem dX11_kept_34 : decode cX11_kept 34 = .ok (.if_icmp .ne 6, 3) := by decide +kernel
theorem dX11_kept_37 : decode cX11_kept 37 = .ok (.iload 4, 2) := by decide +kernel
theorem dX11_kept_39 : decode cX11_kept 39 = .ok (.ireturn, 1) := by decide +kernel
theorem dX11_kept_40 : decode cX11_kept 40 = .ok (.iinc 3 1, 3) := by decide +kernel
theorem dX11_kept_43 : decode cX11_kept 43 = .ok (.iinc 4 1, 3) := by decide +kernel
theorem dX11_kept_46 : decode cX11_kept 46 = .ok (.goto (-32), 3) := by decide +kernel
theorem dX11_kept_49 : decode cX11_kept 49 = .ok (.iload_n 2, 1) := by decide +kernel
theorem dX11_kept_50 : decode cX11_kept 50 = .ok (.iconst (-1), 1) := by decide +kernel
theorem dX11_kept_51 : decode cX11_kept 51 = .ok (.if_icmp .ne 7, 3) := by decide +kernel
theorem dX11_kept_54 : decode cX11_kept 54 = .ok (.iload_n 3, 1) := by decide +kernel
theorem dX11_kept_55 : decode cX11_kept 55 = .ok (.goto 5, 3) := by decide +kernel
theorem dX11_kept_58 : decode cX11_kept 58 = .ok (.bipush (-6), 2) := by decide +kernel
theorem dX11_kept_60 : decode cX11_kept 60 = .ok (.ireturn, 1) := by decide +kernel
set_option maxRecDepth 20000 in
theorem ggX11_least_X11_in : GoodIn wsX11_least wsX11_in := goodIn_r _ [4] (by decide +kernel) (by decide +kernel)
set_option maxRecDepth 20000 in
theorem gX11_least_X11_in : GoodIn wsX11_least (va_wsS RX11 42 yX11_in wsX11_in) := goodIn_app (goodIn_of _ (by decide +kernel)) ggX11_least_X11_in
set_option maxRecDepth 20000 in
theorem ggX11_least_X11_isCommittee : GoodIn wsX11_least wsX11_isCommittee := goodIn_r _ [8, 9, 1, 2, 3, 4, 10, 11, 12, 26, 27, 28, 29, 30, 31, 32, 33, 34, 35, 36, 37, 38, 39, 40, 41, 42] (by decide +kernel) (by decide +kernel)
set_option maxRecDepth 20000 in
theorem gX11_least_X11_isCommittee : GoodIn wsX11_least (wsV RX11 64 RX11 yX11_isCommittee wsX11_isCommittee) := goodIn_app (goodIn_of _ (by decide +kernel)) ggX11_least_X11_isCommittee
set_option maxRecDepth 20000 in
theorem ggX11_least_X11_barOf : GoodIn wsX11_least wsX11_barOf := goodIn_r _ [16, 17, 18, 1, 2, 3, 4, 10, 11, 12, 26, 27, 28, 29, 30, 31, 32, 33, 34, 35, 36, 37, 38, 39, 40, 41, 42] (by decide +kernel) (by decide +kernel)
set_option maxRecDepth 20000 in
theorem gX11_least_X11_barOf : GoodIn wsX11_least (wsV RX11 67 RX11 yX11_barOf wsX11_barOf) := goodIn_app (goodIn_of _ (by decide +kernel)) ggX11_least_X11_barOf
set_option maxRecDepth 20000 in
theorem ggX11_least_X11_wronged : GoodIn wsX11_least wsX11_wronged := goodIn_r _ [22, 23, 24, 25, 26, 27, 28, 29, 30, 31, 32, 33, 34, 35, 36, 37, 38, 39, 40, 41, 42] (by decide +kernel) (by decide +kernel)
set_option maxRecDepth 20000 in
theorem gX11_least_X11_wronged : GoodIn wsX11_least (wsV RX11 73 RX11 yX11_wronged wsX11_wronged) := goodIn_app (goodIn_of _ (by decide +kernel)) ggX11_least_X11_wronged
theorem dX11_least_0 : decode cX11_least 0 = .ok (.iload_n 1, 1) := by decide +kernel
theorem dX11_least_1 : decode cX11_least 1 = .ok (.iconst 0, 1) := by decide +kernel
theorem dX11_least_2 : decode cX11_least 2 = .ok (.iconst 1, 1) := by decide +kernel
theorem dX11_least_3 : decode cX11_least 3 = .ok (.invokestatic 42, 3) := by decide +kernel
theorem dX11_least_6 : decode cX11_least 6 = .ok (.ifCond .ne 6, 3) := by decide +kernel
theorem dX11_least_9 : decode cX11_least 9 = .ok (.bipush (-2), 2) := by decide +kernel
theorem dX11_least_11 : decode cX11_least 11 = .ok (.ireturn, 1) := by decide +kernel
theorem dX11_least_12 : decode cX11_least 12 = .ok (.bipush (-6), 2) := by decide +kernel
theorem dX11_least_14 : decode cX11_least 14 = .ok (.istore_n 2, 1) := by decide +kernel
theorem dX11_least_15 : decode cX11_least 15 = .ok (.iconst 0, 1) := by decide +kernel
theorem dX11_least_16 : decode cX11_least 16 = .ok (.istore_n 3, 1) := by decide +kernel
theorem dX11_least_17 : decode cX11_least 17 = .ok (.iload_n 3, 1) := by decide +kernel
theorem dX11_least_18 : decode cX11_least 18 = .ok (.sipush 256, 3) := by decide +kernel
theorem dX11_least_21 : decode cX11_least 21 = .ok (.if_icmp .ge 60, 3) := by decide +kernel
theorem dX11_least_24 : decode cX11_least 24 = .ok (.aload_n 0, 1) := by decide +kernel
theorem dX11_least_25 : decode cX11_least 25 = .ok (.iload_n 3, 1) := by decide +kernel
theorem dX11_least_26 : decode cX11_least 26 = .ok (.invokevirtual 64, 3) := by decide +kernel
theorem dX11_least_29 : decode cX11_least 29 = .ok (.ifCond .eq 15, 3) := by decide +kernel
theorem dX11_least_32 : decode cX11_least 32 = .ok (.aload_n 0, 1) := by decide +kernel
theorem dX11_least_33 : decode cX11_least 33 = .ok (.iload_n 3, 1) := by decide +kernel
theorem dX11_least_34 : decode cX11_least 34 = .ok (.invokevirtual 67, 3) := by decide +kernel
theorem dX11_least_37 : decode cX11_least 37 = .ok (.ifCond .ge 7, 3) := by decide +kernel
theorem dX11_least_40 : decode cX11_least 40 = .ok (.iconst 1, 1) := by decide +kernel
theorem dX11_least_41 : decode cX11_least 41 = .ok (.goto 4, 3) := by decide +kernel
theorem dX11_least_44 : decode cX11_least 44 = .ok (.iconst 0, 1) := by decide +kernel
theorem dX11_least_45 : decode cX11_least 45 = .ok (.istore 4, 2) := by decide +kernel
theorem dX11_least_47 : decode cX11_least 47 = .ok (.iload 4, 2) := by decide +kernel
theorem dX11_least_49 : decode cX11_least 49 = .ok (.ifCond .eq 24, 3) := by decide +kernel
theorem dX11_least_52 : decode cX11_least 52 = .ok (.iload_n 2, 1) := by decide +kernel
theorem dX11_least_53 : decode cX11_least 53 = .ok (.ifCond .lt 16, 3) := by decide +kernel
theorem dX11_least_56 : decode cX11_least 56 = .ok (.aload_n 0, 1) := by decide +kernel
theorem dX11_least_57 : decode cX11_least 57 = .ok (.iload_n 3, 1) := by decide +kernel
theorem dX11_least_58 : decode cX11_least 58 = .ok (.invokevirtual 73, 3) := by decide +kernel
theorem dX11_least_61 : decode cX11_least 61 = .ok (.aload_n 0, 1) := by decide +kernel
theorem dX11_least_62 : decode cX11_least 62 = .ok (.iload_n 2, 1) := by decide +kernel
theorem dX11_least_63 : decode cX11_least 63 = .ok (.invokevirtual 73, 3) := by decide +kernel
theorem dX11_least_66 : decode cX11_least 66 = .ok (.if_icmp .ge 7, 3) := by decide +kernel
theorem dX11_least_69 : decode cX11_least 69 = .ok (.iload_n 3, 1) := by decide +kernel
theorem dX11_least_70 : decode cX11_least 70 = .ok (.goto 4, 3) := by decide +kernel
theorem dX11_least_73 : decode cX11_least 73 = .ok (.iload_n 2, 1) := by decide +kernel
theorem dX11_least_74 : decode cX11_least 74 = .ok (.istore_n 2, 1) := by decide +kernel
theorem dX11_least_75 : decode cX11_least 75 = .ok (.iinc 3 1, 3) := by decide +kernel
theorem dX11_least_78 : decode cX11_least 78 = .ok (.goto (-61), 3) := by decide +kernel
theorem dX11_least_81 : decode cX11_least 81 = .ok (.iload_n 2, 1) := by decide +kernel
theorem dX11_least_82 : decode cX11_least 82 = .ok (.ifCond .lt 7, 3) := by decide +kernel
theorem dX11_least_85 : decode cX11_least 85 = .ok (.iload_n 1, 1) := by decide +kernel
theorem dX11_least_86 : decode cX11_least 86 = .ok (.ifCond .ne 7, 3) := by decide +kernel
theorem dX11_least_89 : decode cX11_least 89 = .ok (.iload_n 2, 1) := by decide +kernel
theorem dX11_least_90 : decode cX11_least 90 = .ok (.goto 8, 3) := by decide +kernel
theorem dX11_least_93 : decode cX11_least 93 = .ok (.aload_n 0, 1) := by decide +kernel
theorem dX11_least_94 : decode cX11_least 94 = .ok (.iload_n 2, 1) := by decide +kernel
theorem dX11_least_95 : decode cX11_least 95 = .ok (.invokevirtual 73, 3) := by decide +kernel
theorem dX11_least_98 : decode cX11_least 98 = .ok (.ireturn, 1) := by decide +kernel
set_option maxRecDepth 20000 in
theorem ggX11_nearest_X11_isLaw : GoodIn wsX11_nearest wsX11_isLaw := goodIn_r _ [4, 5, 6, 3, 7] (by decide +kernel) (by decide +kernel)
set_option maxRecDepth 20000 in
theorem gX11_nearest_X11_isLaw : GoodIn wsX11_nearest (va_wsS RX11 161 yX11_isLaw wsX11_isLaw) := goodIn_app (goodIn_of _ (by decide +kernel)) ggX11_nearest_X11_isLaw
set_option maxRecDepth 20000 in
theorem ggX11_nearest_X11_isCommittee : GoodIn wsX11_nearest wsX11_isCommittee := goodIn_r _ [11, 12, 5, 6, 3, 7, 13, 14, 15, 46, 47, 48, 49, 50, 51, 52, 53, 54, 55, 56, 57, 58, 59, 60, 61, 62] (by decide +kernel) (by decide +kernel)
set_option maxRecDepth 20000 in
theorem gX11_nearest_X11_isCommittee : GoodIn wsX11_nearest (wsV RX11 64 RX11 yX11_isCommittee wsX11_isCommittee) := goodIn_app (goodIn_of _ (by decide +kernel)) ggX11_nearest_X11_isCommittee
set_option maxRecDepth 20000 in
theorem ggX11_nearest_X11_bits : GoodIn wsX11_nearest wsX11_bits := goodIn_r _ [15] (by decide +kernel) (by decide +kernel)
set_option maxRecDepth 20000 in
theorem gX11_nearest_X11_bits : GoodIn wsX11_nearest (va_wsS RX11 60 yX11_bits wsX11_bits) := goodIn_app (goodIn_of _ (by decide +kernel)) ggX11_nearest_X11_bits
set_option maxRecDepth 20000 in
theorem ggX11_nearest_X11_isKept : GoodIn wsX11_nearest wsX11_isKept := goodIn_r _ [19, 8, 9, 10, 3, 11, 12, 5, 6, 7, 13, 14, 15, 20, 21, 22, 23, 24, 25, 26, 27, 28, 29, 30, 31, 32, 33, 34, 35, 36, 37, 38, 39, 40, 41, 42, 43, 44, 45, 46, 47, 48, 49, 50, 51, 52, 53, 54, 55, 56, 57, 58, 59, 60, 61, 62] (by decide +kernel) (by decide +kernel)
set_option maxRecDepth 20000 in
theorem gX11_nearest_X11_isKept : GoodIn wsX11_nearest (wsV RX11 167 RX11 yX11_isKept wsX11_isKept) := goodIn_app (goodIn_of _ (by decide +kernel)) ggX11_nearest_X11_isKept
theorem dX11_nearest_0 : decode cX11_nearest 0 = .ok (.iload_n 1, 1) := by decide +kernel
theorem dX11_nearest_1 : decode cX11_nearest 1 = .ok (.invokestatic 161, 3) := by decide +kernel
theorem dX11_nearest_4 : decode cX11_nearest 4 = .ok (.ifCond .ne 5, 3) := by decide +kernel
theorem dX11_nearest_7 : decode cX11_nearest 7 = .ok (.iconst (-1), 1) := by decide +kernel
theorem dX11_nearest_8 : decode cX11_nearest 8 = .ok (.ireturn, 1) := by decide +kernel
theorem dX11_nearest_9 : decode cX11_nearest 9 = .ok (.aload_n 0, 1) := by decide +kernel
theorem dX11_nearest_10 : decode cX11_nearest 10 = .ok (.iload_n 2, 1) := by decide +kernel
theorem dX11_nearest_11 : decode cX11_nearest 11 = .ok (.invokevirtual 64, 3) := by decide +kernel
theorem dX11_nearest_14 : decode cX11_nearest 14 = .ok (.ifCond .ne 6, 3) := by decide +kernel
theorem dX11_nearest_17 : decode cX11_nearest 17 = .ok (.bipush (-2), 2) := by decide +kernel
theorem dX11_nearest_19 : decode cX11_nearest 19 = .ok (.ireturn, 1) := by decide +kernel
theorem dX11_nearest_20 : decode cX11_nearest 20 = .ok (.bipush (-6), 2) := by decide +kernel
theorem dX11_nearest_22 : decode cX11_nearest 22 = .ok (.istore_n 3, 1) := by decide +kernel
theorem dX11_nearest_23 : decode cX11_nearest 23 = .ok (.iconst 0, 1) := by decide +kernel
theorem dX11_nearest_24 : decode cX11_nearest 24 = .ok (.istore 4, 2) := by decide +kernel
theorem dX11_nearest_26 : decode cX11_nearest 26 = .ok (.iload 4, 2) := by decide +kernel
theorem dX11_nearest_28 : decode cX11_nearest 28 = .ok (.sipush 256, 3) := by decide +kernel
theorem dX11_nearest_31 : decode cX11_nearest 31 = .ok (.if_icmp .ge 62, 3) := by decide +kernel
theorem dX11_nearest_34 : decode cX11_nearest 34 = .ok (.iload_n 3, 1) := by decide +kernel
theorem dX11_nearest_35 : decode cX11_nearest 35 = .ok (.ifCond .lt 23, 3) := by decide +kernel
theorem dX11_nearest_38 : decode cX11_nearest 38 = .ok (.iload 4, 2) := by decide +kernel
theorem dX11_nearest_40 : decode cX11_nearest 40 = .ok (.iload_n 2, 1) := by decide +kernel
theorem dX11_nearest_41 : decode cX11_nearest 41 = .ok (.iconst (-1), 1) := by decide +kernel
theorem dX11_nearest_42 : decode cX11_nearest 42 = .ok (.ixor, 1) := by decide +kernel
theorem dX11_nearest_43 : decode cX11_nearest 43 = .ok (.iand, 1) := by decide +kernel
theorem dX11_nearest_44 : decode cX11_nearest 44 = .ok (.invokestatic 60, 3) := by decide +kernel
theorem dX11_nearest_47 : decode cX11_nearest 47 = .ok (.iload_n 3, 1) := by decide +kernel
theorem dX11_nearest_48 : decode cX11_nearest 48 = .ok (.iload_n 2, 1) := by decide +kernel
theorem dX11_nearest_49 : decode cX11_nearest 49 = .ok (.iconst (-1), 1) := by decide +kernel
theorem dX11_nearest_50 : decode cX11_nearest 50 = .ok (.ixor, 1) := by decide +kernel
theorem dX11_nearest_51 : decode cX11_nearest 51 = .ok (.iand, 1) := by decide +kernel
theorem dX11_nearest_52 : decode cX11_nearest 52 = .ok (.invokestatic 60, 3) := by decide +kernel
theorem dX11_nearest_55 : decode cX11_nearest 55 = .ok (.if_icmp .ge 7, 3) := by decide +kernel
theorem dX11_nearest_58 : decode cX11_nearest 58 = .ok (.iconst 1, 1) := by decide +kernel
theorem dX11_nearest_59 : decode cX11_nearest 59 = .ok (.goto 4, 3) := by decide +kernel
theorem dX11_nearest_62 : decode cX11_nearest 62 = .ok (.iconst 0, 1) := by decide +kernel
theorem dX11_nearest_63 : decode cX11_nearest 63 = .ok (.istore 5, 2) := by decide +kernel
theorem dX11_nearest_65 : decode cX11_nearest 65 = .ok (.iload 5, 2) := by decide +kernel
theorem dX11_nearest_67 : decode cX11_nearest 67 = .ok (.ifCond .eq 18, 3) := by decide +kernel
theorem dX11_nearest_70 : decode cX11_nearest 70 = .ok (.aload_n 0, 1) := by decide +kernel
theorem dX11_nearest_71 : decode cX11_nearest 71 = .ok (.iload_n 1, 1) := by decide +kernel
theorem dX11_nearest_72 : decode cX11_nearest 72 = .ok (.iload 4, 2) := by decide +kernel
theorem dX11_nearest_74 : decode cX11_nearest 74 = .ok (.invokevirtual 167, 3) := by decide +kernel
theorem dX11_nearest_77 : decode cX11_nearest 77 = .ok (.ifCond .eq 8, 3) := by decide +kernel
theorem dX11_nearest_80 : decode cX11_nearest 80 = .ok (.iload 4, 2) := by decide +kernel
theorem dX11_nearest_82 : decode cX11_nearest 82 = .ok (.goto 4, 3) := by decide +kernel
theorem dX11_nearest_85 : decode cX11_nearest 85 = .ok (.iload_n 3, 1) := by decide +kernel
theorem dX11_nearest_86 : decode cX11_nearest 86 = .ok (.istore_n 3, 1) := by decide +kernel
theorem dX11_nearest_87 : decode cX11_nearest 87 = .ok (.iinc 4 1, 3) := by decide +kernel
theorem dX11_nearest_90 : decode cX11_nearest 90 = .ok (.goto (-64), 3) := by decide +kernel
theorem dX11_nearest_93 : decode cX11_nearest 93 = .ok (.iload_n 3, 1) := by decide +kernel
theorem dX11_nearest_94 : decode cX11_nearest 94 = .ok (.ireturn, 1) := by decide +kernel
set_option maxRecDepth 20000 in
theorem ggX11_more_X11_isWay : GoodIn wsX11_more wsX11_isWay := goodIn_r _ [6, 7, 8, 5, 9] (by decide +kernel) (by decide +kernel)
set_option maxRecDepth 20000 in
theorem gX11_more_X11_isWay : GoodIn wsX11_more (va_wsS RX11 129 yX11_isWay wsX11_isWay) := goodIn_app (goodIn_of _ (by decide +kernel)) ggX11_more_X11_isWay
set_option maxRecDepth 20000 in
theorem ggX11_more_X11_in : GoodIn wsX11_more wsX11_in := goodIn_r _ [9] (by decide +kernel) (by decide +kernel)
set_option maxRecDepth 20000 in
theorem gX11_more_X11_in : GoodIn wsX11_more (va_wsS RX11 42 yX11_in wsX11_in) := goodIn_app (goodIn_of _ (by decide +kernel)) ggX11_more_X11_in
set_option maxRecDepth 20000 in
theorem ggX11_more_X11_layWay : GoodIn wsX11_more wsX11_layWay := goodIn_r _ [13, 2, 14, 15, 16, 1, 17, 18, 19, 5, 20, 21, 22, 23, 24, 25, 26, 27, 28, 29, 30, 31, 32, 33, 34, 35, 36, 37, 38, 39, 40, 41, 42, 43, 44, 45, 46, 47, 48, 49, 50, 51, 52, 53, 54, 55, 56, 57, 58, 59, 60, 61, 62, 63, 64, 65, 66, 67, 68, 69, 70, 71, 72, 73, 74, 75, 76, 77, 78, 79, 80, 7, 8, 9, 81, 82, 83, 84, 85, 86, 87, 88, 89, 90, 91, 92, 93, 94, 95, 96, 97, 98, 99, 100, 101] (by decide +kernel) (by decide +kernel)
set_option maxRecDepth 20000 in
theorem gX11_more_X11_layWay : GoodIn wsX11_more (wsV RX11 132 RX11 yX11_layWay wsX11_layWay) := goodIn_app (goodIn_of _ (by decide +kernel)) ggX11_more_X11_layWay
theorem dX11_more_0 : decode cX11_more 0 = .ok (.iload_n 1, 1) := by decide +kernel
theorem dX11_more_1 : decode cX11_more 1 = .ok (.invokestatic 129, 3) := by decide +kernel
theorem dX11_more_4 : decode cX11_more 4 = .ok (.ifCond .ne 5, 3) := by decide +kernel
theorem dX11_more_7 : decode cX11_more 7 = .ok (.iconst (-1), 1) := by decide +kernel
theorem dX11_more_8 : decode cX11_more 8 = .ok (.ireturn, 1) := by decide +kernel
theorem dX11_more_9 : decode cX11_more 9 = .ok (.iload_n 2, 1) := by decide +kernel
theorem dX11_more_10 : decode cX11_more 10 = .ok (.iconst 0, 1) := by decide +kernel
theorem dX11_more_11 : decode cX11_more 11 = .ok (.iconst 1, 1) := by decide +kernel
theorem dX11_more_12 : decode cX11_more 12 = .ok (.invokestatic 42, 3) := by decide +kernel
theorem dX11_more_15 : decode cX11_more 15 = .ok (.ifCond .ne 6, 3) := by decide +kernel
theorem dX11_more_18 : decode cX11_more 18 = .ok (.bipush (-2), 2) := by decide +kernel
theorem dX11_more_20 : decode cX11_more 20 = .ok (.ireturn, 1) := by decide +kernel
theorem dX11_more_21 : decode cX11_more 21 = .ok (.aload_n 0, 1) := by decide +kernel
theorem dX11_more_22 : decode cX11_more 22 = .ok (.getfield 16, 3) := by decide +kernel
theorem dX11_more_25 : decode cX11_more 25 = .ok (.iconst 4, 1) := by decide +kernel
theorem dX11_more_26 : decode cX11_more 26 = .ok (.if_icmp .ne 6, 3) := by decide +kernel
theorem dX11_more_29 : decode cX11_more 29 = .ok (.bipush (-3), 2) := by decide +kernel
theorem dX11_more_31 : decode cX11_more 31 = .ok (.ireturn, 1) := by decide +kernel
theorem dX11_more_32 : decode cX11_more 32 = .ok (.aload_n 0, 1) := by decide +kernel
theorem dX11_more_33 : decode cX11_more 33 = .ok (.iload_n 1, 1) := by decide +kernel
theorem dX11_more_34 : decode cX11_more 34 = .ok (.invokevirtual 132, 3) := by decide +kernel
theorem dX11_more_37 : decode cX11_more 37 = .ok (.aload_n 0, 1) := by decide +kernel
theorem dX11_more_38 : decode cX11_more 38 = .ok (.getfield 76, 3) := by decide +kernel
theorem dX11_more_41 : decode cX11_more 41 = .ok (.istore_n 3, 1) := by decide +kernel
theorem dX11_more_42 : decode cX11_more 42 = .ok (.aload_n 0, 1) := by decide +kernel
theorem dX11_more_43 : decode cX11_more 43 = .ok (.dup, 1) := by decide +kernel
theorem dX11_more_44 : decode cX11_more 44 = .ok (.getfield 16, 3) := by decide +kernel
theorem dX11_more_47 : decode cX11_more 47 = .ok (.iconst 1, 1) := by decide +kernel
theorem dX11_more_48 : decode cX11_more 48 = .ok (.iadd, 1) := by decide +kernel
theorem dX11_more_49 : decode cX11_more 49 = .ok (.putfield 16, 3) := by decide +kernel
theorem dX11_more_52 : decode cX11_more 52 = .ok (.aload_n 0, 1) := by decide +kernel
theorem dX11_more_53 : decode cX11_more 53 = .ok (.iload_n 1, 1) := by decide +kernel
theorem dX11_more_54 : decode cX11_more 54 = .ok (.invokevirtual 132, 3) := by decide +kernel
theorem dX11_more_57 : decode cX11_more 57 = .ok (.aload_n 0, 1) := by decide +kernel
theorem dX11_more_58 : decode cX11_more 58 = .ok (.dup, 1) := by decide +kernel
theorem dX11_more_59 : decode cX11_more 59 = .ok (.getfield 16, 3) := by decide +kernel
theorem dX11_more_62 : decode cX11_more 62 = .ok (.iconst 1, 1) := by decide +kernel
theorem dX11_more_63 : decode cX11_more 63 = .ok (.isub, 1) := by decide +kernel
theorem dX11_more_64 : decode cX11_more 64 = .ok (.putfield 16, 3) := by decide +kernel
theorem dX11_more_67 : decode cX11_more 67 = .ok (.iload_n 2, 1) := by decide +kernel
theorem dX11_more_68 : decode cX11_more 68 = .ok (.ifCond .ne 14, 3) := by decide +kernel
theorem dX11_more_71 : decode cX11_more 71 = .ok (.aload_n 0, 1) := by decide +kernel
theorem dX11_more_72 : decode cX11_more 72 = .ok (.getfield 76, 3) := by decide +kernel
theorem dX11_more_75 : decode cX11_more 75 = .ok (.iload_n 3, 1) := by decide +kernel
theorem dX11_more_76 : decode cX11_more 76 = .ok (.iconst (-1), 1) := by decide +kernel
theorem dX11_more_77 : decode cX11_more 77 = .ok (.ixor, 1) := by decide +kernel
theorem dX11_more_78 : decode cX11_more 78 = .ok (.iand, 1) := by decide +kernel
theorem dX11_more_79 : decode cX11_more 79 = .ok (.goto 11, 3) := by decide +kernel
theorem dX11_more_82 : decode cX11_more 82 = .ok (.iload_n 3, 1) := by decide +kernel
theorem dX11_more_83 : decode cX11_more 83 = .ok (.aload_n 0, 1) := by decide +kernel
theorem dX11_more_84 : decode cX11_more 84 = .ok (.getfield 76, 3) := by decide +kernel
theorem dX11_more_87 : decode cX11_more 87 = .ok (.iconst (-1), 1) := by decide +kernel
theorem dX11_more_88 : decode cX11_more 88 = .ok (.ixor, 1) := by decide +kernel
theorem dX11_more_89 : decode cX11_more 89 = .ok (.iand, 1) := by decide +kernel
theorem dX11_more_90 : decode cX11_more 90 = .ok (.ireturn, 1) := by decide +kernel
set_option maxRecDepth 20000 in
theorem ggX11_turn_X11_isWay : GoodIn wsX11_turn wsX11_isWay := goodIn_r _ [7, 8, 9, 6, 10] (by decide +kernel) (by decide +kernel)
set_option maxRecDepth 20000 in
theorem gX11_turn_X11_isWay : GoodIn wsX11_turn (va_wsS RX11 129 yX11_isWay wsX11_isWay) := goodIn_app (goodIn_of _ (by decide +kernel)) ggX11_turn_X11_isWay
set_option maxRecDepth 20000 in
theorem ggX11_turn_X11_isHeap : GoodIn wsX11_turn wsX11_isHeap := goodIn_r _ [14, 2, 8, 9, 6, 10, 89, 90, 91, 92, 93, 94, 95, 96, 97, 98, 99, 100, 101, 102, 103, 104, 105] (by decide +kernel) (by decide +kernel)
set_option maxRecDepth 20000 in
theorem gX11_turn_X11_isHeap : GoodIn wsX11_turn (wsV RX11 46 RX11 yX11_isHeap wsX11_isHeap) := goodIn_app (goodIn_of _ (by decide +kernel)) ggX11_turn_X11_isHeap
set_option maxRecDepth 20000 in
theorem ggX11_turn_X11_in : GoodIn wsX11_turn wsX11_in := goodIn_r _ [10] (by decide +kernel) (by decide +kernel)
set_option maxRecDepth 20000 in
theorem gX11_turn_X11_in : GoodIn wsX11_turn (va_wsS RX11 42 yX11_in wsX11_in) := goodIn_app (goodIn_of _ (by decide +kernel)) ggX11_turn_X11_in
set_option maxRecDepth 20000 in
theorem ggX11_turn_X11_layWay : GoodIn wsX11_turn wsX11_layWay := goodIn_r _ [18, 19, 20, 21, 22, 23, 24, 25, 26, 6, 27, 28, 29, 30, 31, 32, 33, 34, 35, 2, 3, 1, 36, 37, 38, 39, 40, 41, 42, 43, 44, 45, 46, 47, 48, 49, 50, 51, 52, 53, 54, 55, 56, 57, 58, 59, 60, 61, 62, 63, 64, 65, 66, 67, 68, 69, 70, 71, 72, 73, 74, 75, 76, 77, 78, 79, 80, 81, 82, 83, 84, 8, 9, 10, 85, 86, 87, 88, 89, 90, 91, 92, 93, 94, 95, 96, 97, 98, 99, 100, 101, 102, 103, 104, 105] (by decide +kernel) (by decide +kernel)
set_option maxRecDepth 20000 in
theorem gX11_turn_X11_layWay : GoodIn wsX11_turn (wsV RX11 132 RX11 yX11_layWay wsX11_layWay) := goodIn_app (goodIn_of _ (by decide +kernel)) ggX11_turn_X11_layWay
set_option maxRecDepth 20000 in
theorem ggX11_turn_X11_isLeft : GoodIn wsX11_turn wsX11_isLeft := goodIn_r _ [31, 19, 89, 90, 91, 92, 93, 94, 95, 96, 97, 98, 99, 100, 101, 102, 103, 104, 105] (by decide +kernel) (by decide +kernel)
set_option maxRecDepth 20000 in
theorem gX11_turn_X11_isLeft : GoodIn wsX11_turn (wsV RX11 79 RX11 yX11_isLeft wsX11_isLeft) := goodIn_app (goodIn_of _ (by decide +kernel)) ggX11_turn_X11_isLeft
theorem dX11_turn_0 : decode cX11_turn 0 = .ok (.iload_n 1, 1) := by decide +kernel
theorem dX11_turn_1 : decode cX11_turn 1 = .ok (.invokestatic 129, 3) := by decide +kernel
theorem dX11_turn_4 : decode cX11_turn 4 = .ok (.ifCond .eq 21, 3) := by decide +kernel
theorem dX11_turn_7 : decode cX11_turn 7 = .ok (.aload_n 0, 1) := by decide +kernel
theorem dX11_turn_8 : decode cX11_turn 8 = .ok (.iload_n 2, 1) := by decide +kernel
theorem dX11_turn_9 : decode cX11_turn 9 = .ok (.invokevirtual 46, 3) := by decide +kernel
theorem dX11_turn_12 : decode cX11_turn 12 = .ok (.ifCond .eq 13, 3) := by decide +kernel
theorem dX11_turn_15 : decode cX11_turn 15 = .ok (.iload_n 3, 1) := by decide +kernel
theorem dX11_turn_16 : decode cX11_turn 16 = .ok (.iconst 0, 1) := by decide +kernel
theorem dX11_turn_17 : decode cX11_turn 17 = .ok (.bipush 7, 2) := by decide +kernel
theorem dX11_turn_19 : decode cX11_turn 19 = .ok (.invokestatic 42, 3) := by decide +kernel
theorem dX11_turn_22 : decode cX11_turn 22 = .ok (.ifCond .ne 5, 3) := by decide +kernel
theorem dX11_turn_25 : decode cX11_turn 25 = .ok (.iconst (-1), 1) := by decide +kernel
theorem dX11_turn_26 : decode cX11_turn 26 = .ok (.ireturn, 1) := by decide +kernel
theorem dX11_turn_27 : decode cX11_turn 27 = .ok (.aload_n 0, 1) := by decide +kernel
theorem dX11_turn_28 : decode cX11_turn 28 = .ok (.getfield 13, 3) := by decide +kernel
theorem dX11_turn_31 : decode cX11_turn 31 = .ok (.iload_n 2, 1) := by decide +kernel
theorem dX11_turn_32 : decode cX11_turn 32 = .ok (.iaload, 1) := by decide +kernel
theorem dX11_turn_33 : decode cX11_turn 33 = .ok (.istore 4, 2) := by decide +kernel
theorem dX11_turn_35 : decode cX11_turn 35 = .ok (.bipush (-6), 2) := by decide +kernel
theorem dX11_turn_37 : decode cX11_turn 37 = .ok (.istore 5, 2) := by decide +kernel
theorem dX11_turn_39 : decode cX11_turn 39 = .ok (.aload_n 0, 1) := by decide +kernel
theorem dX11_turn_40 : decode cX11_turn 40 = .ok (.iload_n 1, 1) := by decide +kernel
theorem dX11_turn_41 : decode cX11_turn 41 = .ok (.invokevirtual 132, 3) := by decide +kernel
theorem dX11_turn_44 : decode cX11_turn 44 = .ok (.aload_n 0, 1) := by decide +kernel
theorem dX11_turn_45 : decode cX11_turn 45 = .ok (.iload_n 3, 1) := by decide +kernel
theorem dX11_turn_46 : decode cX11_turn 46 = .ok (.invokevirtual 79, 3) := by decide +kernel
theorem dX11_turn_49 : decode cX11_turn 49 = .ok (.ifCond .eq 8, 3) := by decide +kernel
theorem dX11_turn_52 : decode cX11_turn 52 = .ok (.bipush (-6), 2) := by decide +kernel
theorem dX11_turn_54 : decode cX11_turn 54 = .ok (.goto 4, 3) := by decide +kernel
theorem dX11_turn_57 : decode cX11_turn 57 = .ok (.iconst 0, 1) := by decide +kernel
theorem dX11_turn_58 : decode cX11_turn 58 = .ok (.istore 5, 2) := by decide +kernel
theorem dX11_turn_60 : decode cX11_turn 60 = .ok (.aload_n 0, 1) := by decide +kernel
theorem dX11_turn_61 : decode cX11_turn 61 = .ok (.dup, 1) := by decide +kernel
theorem dX11_turn_62 : decode cX11_turn 62 = .ok (.getfield 39, 3) := by decide +kernel
theorem dX11_turn_65 : decode cX11_turn 65 = .ok (.iconst 1, 1) := by decide +kernel
theorem dX11_turn_66 : decode cX11_turn 66 = .ok (.iadd, 1) := by decide +kernel
theorem dX11_turn_67 : decode cX11_turn 67 = .ok (.putfield 39, 3) := by decide +kernel
theorem dX11_turn_70 : decode cX11_turn 70 = .ok (.iconst 1, 1) := by decide +kernel
theorem dX11_turn_71 : decode cX11_turn 71 = .ok (.istore 6, 2) := by decide +kernel
theorem dX11_turn_73 : decode cX11_turn 73 = .ok (.iload 6, 2) := by decide +kernel
theorem dX11_turn_75 : decode cX11_turn 75 = .ok (.iload 4, 2) := by decide +kernel
theorem dX11_turn_77 : decode cX11_turn 77 = .ok (.if_icmp .gt 74, 3) := by decide +kernel
theorem dX11_turn_80 : decode cX11_turn 80 = .ok (.iload 5, 2) := by decide +kernel
theorem dX11_turn_82 : decode cX11_turn 82 = .ok (.ifCond .ge 69, 3) := by decide +kernel
theorem dX11_turn_85 : decode cX11_turn 85 = .ok (.aload_n 0, 1) := by decide +kernel
theorem dX11_turn_86 : decode cX11_turn 86 = .ok (.getfield 13, 3) := by decide +kernel
theorem dX11_turn_89 : decode cX11_turn 89 = .ok (.iload_n 2, 1) := by decide +kernel
theorem dX11_turn_90 : decode cX11_turn 90 = .ok (.iload 4, 2) := by decide +kernel
theorem dX11_turn_92 : decode cX11_turn 92 = .ok (.iload 6, 2) := by decide +kernel
theorem dX11_turn_94 : decode cX11_turn 94 = .ok (.isub, 1) := by decide +kernel
theorem dX11_turn_95 : decode cX11_turn 95 = .ok (.iastore, 1) := by decide +kernel
theorem dX11_turn_96 : decode cX11_turn 96 = .ok (.aload_n 0, 1) := by decide +kernel
theorem dX11_turn_97 : decode cX11_turn 97 = .ok (.getfield 7, 3) := by decide +kernel
theorem dX11_turn_100 : decode cX11_turn 100 = .ok (.aload_n 0, 1) := by decide +kernel
theorem dX11_turn_101 : decode cX11_turn 101 = .ok (.getfield 39, 3) := by decide +kernel
theorem dX11_turn_104 : decode cX11_turn 104 = .ok (.iconst 1, 1) := by decide +kernel
theorem dX11_turn_105 : decode cX11_turn 105 = .ok (.isub, 1) := by decide +kernel
theorem dX11_turn_106 : decode cX11_turn 106 = .ok (.iconst 1, 1) := by decide +kernel
theorem dX11_turn_107 : decode cX11_turn 107 = .ok (.iload_n 3, 1) := by decide +kernel
theorem dX11_turn_108 : decode cX11_turn 108 = .ok (.ishl, 1) := by decide +kernel
theorem dX11_turn_109 : decode cX11_turn 109 = .ok (.iastore, 1) := by decide +kernel
theorem dX11_turn_110 : decode cX11_turn 110 = .ok (.aload_n 0, 1) := by decide +kernel
theorem dX11_turn_111 : decode cX11_turn 111 = .ok (.getfield 13, 3) := by decide +kernel
theorem dX11_turn_114 : decode cX11_turn 114 = .ok (.aload_n 0, 1) := by decide +kernel
theorem dX11_turn_115 : decode cX11_turn 115 = .ok (.getfield 39, 3) := by decide +kernel
theorem dX11_turn_118 : decode cX11_turn 118 = .ok (.iconst 1, 1) := by decide +kernel
theorem dX11_turn_119 : decode cX11_turn 119 = .ok (.isub, 1) := by decide +kernel
theorem dX11_turn_120 : decode cX11_turn 120 = .ok (.iload 6, 2) := by decide +kernel
theorem dX11_turn_122 : decode cX11_turn 122 = .ok (.iastore, 1) := by decide +kernel
theorem dX11_turn_123 : decode cX11_turn 123 = .ok (.aload_n 0, 1) := by decide +kernel
theorem dX11_turn_124 : decode cX11_turn 124 = .ok (.iload_n 1, 1) := by decide +kernel
theorem dX11_turn_125 : decode cX11_turn 125 = .ok (.invokevirtual 132, 3) := by decide +kernel
theorem dX11_turn_128 : decode cX11_turn 128 = .ok (.aload_n 0, 1) := by decide +kernel
theorem dX11_turn_129 : decode cX11_turn 129 = .ok (.iload_n 3, 1) := by decide +kernel
theorem dX11_turn_130 : decode cX11_turn 130 = .ok (.invokevirtual 79, 3) := by decide +kernel
theorem dX11_turn_133 : decode cX11_turn 133 = .ok (.ifCond .eq 8, 3) := by decide +kernel
theorem dX11_turn_136 : decode cX11_turn 136 = .ok (.bipush (-6), 2) := by decide +kernel
theorem dX11_turn_138 : decode cX11_turn 138 = .ok (.goto 5, 3) := by decide +kernel
theorem dX11_turn_141 : decode cX11_turn 141 = .ok (.iload 6, 2) := by decide +kernel
theorem dX11_turn_143 : decode cX11_turn 143 = .ok (.istore 5, 2) := by decide +kernel
theorem dX11_turn_145 : decode cX11_turn 145 = .ok (.iinc 6 1, 3) := by decide +kernel
theorem dX11_turn_148 : decode cX11_turn 148 = .ok (.goto (-75), 3) := by decide +kernel
theorem dX11_turn_151 : decode cX11_turn 151 = .ok (.aload_n 0, 1) := by decide +kernel
theorem dX11_turn_152 : decode cX11_turn 152 = .ok (.dup, 1) := by decide +kernel
theorem dX11_turn_153 : decode cX11_turn 153 = .ok (.getfield 39, 3) := by decide +kernel
theorem dX11_turn_156 : decode cX11_turn 156 = .ok (.iconst 1, 1) := by decide +kernel
theorem dX11_turn_157 : decode cX11_turn 157 = .ok (.isub, 1) := by decide +kernel
theorem dX11_turn_158 : decode cX11_turn 158 = .ok (.putfield 39, 3) := by decide +kernel
theorem dX11_turn_161 : decode cX11_turn 161 = .ok (.aload_n 0, 1) := by decide +kernel
theorem dX11_turn_162 : decode cX11_turn 162 = .ok (.getfield 13, 3) := by decide +kernel
theorem dX11_turn_165 : decode cX11_turn 165 = .ok (.iload_n 2, 1) := by decide +kernel
theorem dX11_turn_166 : decode cX11_turn 166 = .ok (.iload 4, 2) := by decide +kernel
theorem dX11_turn_168 : decode cX11_turn 168 = .ok (.iastore, 1) := by decide +kernel
theorem dX11_turn_169 : decode cX11_turn 169 = .ok (.iload 5, 2) := by decide +kernel
theorem dX11_turn_171 : decode cX11_turn 171 = .ok (.ireturn, 1) := by decide +kernel
set_option maxRecDepth 20000 in
theorem ggX11_told_X11_in : GoodIn wsX11_told wsX11_in := goodIn_r _ [12] (by decide +kernel) (by decide +kernel)
set_option maxRecDepth 20000 in
theorem gX11_told_X11_in : GoodIn wsX11_told (va_wsS RX11 42 yX11_in wsX11_in) := goodIn_app (goodIn_of _ (by decide +kernel)) ggX11_told_X11_in
set_option maxRecDepth 20000 in
theorem ggX11_told_X11_isHeap : GoodIn wsX11_told wsX11_isHeap := goodIn_r _ [16, 6, 9, 10, 11, 12, 21, 22, 23, 24, 25, 26, 27, 28, 29, 30, 31, 32, 33, 34, 35, 36, 37] (by decide +kernel) (by decide +kernel)
set_option maxRecDepth 20000 in
theorem gX11_told_X11_isHeap : GoodIn wsX11_told (wsV RX11 46 RX11 yX11_isHeap wsX11_isHeap) := goodIn_app (goodIn_of _ (by decide +kernel)) ggX11_told_X11_isHeap
set_option maxRecDepth 20000 in
theorem ggX11_told_X11_allPapers : GoodIn wsX11_told wsX11_allPapers := goodIn_r _ [20, 6, 4, 21, 22, 23, 24, 25, 26, 27, 28, 29, 30, 31, 32, 33, 34, 35, 36, 37] (by decide +kernel) (by decide +kernel)
set_option maxRecDepth 20000 in
theorem gX11_told_X11_allPapers : GoodIn wsX11_told (wsV RX11 96 RX11 yX11_allPapers wsX11_allPapers) := goodIn_app (goodIn_of _ (by decide +kernel)) ggX11_told_X11_allPapers
theorem dX11_told_0 : decode cX11_told 0 = .ok (.aload_n 0, 1) := by decide +kernel
theorem dX11_told_1 : decode cX11_told 1 = .ok (.getfield 57, 3) := by decide +kernel
theorem dX11_told_4 : decode cX11_told 4 = .ok (.ifCond .le 7, 3) := by decide +kernel
theorem dX11_told_7 : decode cX11_told 7 = .ok (.iconst 1, 1) := by decide +kernel
theorem dX11_told_8 : decode cX11_told 8 = .ok (.goto 4, 3) := by decide +kernel
theorem dX11_told_11 : decode cX11_told 11 = .ok (.iconst 0, 1) := by decide +kernel
theorem dX11_told_12 : decode cX11_told 12 = .ok (.istore_n 2, 1) := by decide +kernel
theorem dX11_told_13 : decode cX11_told 13 = .ok (.iconst 0, 1) := by decide +kernel
theorem dX11_told_14 : decode cX11_told 14 = .ok (.istore_n 3, 1) := by decide +kernel
theorem dX11_told_15 : decode cX11_told 15 = .ok (.iload_n 3, 1) := by decide +kernel
theorem dX11_told_16 : decode cX11_told 16 = .ok (.aload_n 0, 1) := by decide +kernel
theorem dX11_told_17 : decode cX11_told 17 = .ok (.getfield 57, 3) := by decide +kernel
theorem dX11_told_20 : decode cX11_told 20 = .ok (.if_icmp .ge 28, 3) := by decide +kernel
theorem dX11_told_23 : decode cX11_told 23 = .ok (.iload_n 2, 1) := by decide +kernel
theorem dX11_told_24 : decode cX11_told 24 = .ok (.aload_n 0, 1) := by decide +kernel
theorem dX11_told_25 : decode cX11_told 25 = .ok (.getfield 26, 3) := by decide +kernel
theorem dX11_told_28 : decode cX11_told 28 = .ok (.iload_n 3, 1) := by decide +kernel
theorem dX11_told_29 : decode cX11_told 29 = .ok (.iaload, 1) := by decide +kernel
theorem dX11_told_30 : decode cX11_told 30 = .ok (.bipush 59, 2) := by decide +kernel
theorem dX11_told_32 : decode cX11_told 32 = .ok (.if_icmp .ne 7, 3) := by decide +kernel
theorem dX11_told_35 : decode cX11_told 35 = .ok (.iconst 1, 1) := by decide +kernel
theorem dX11_told_36 : decode cX11_told 36 = .ok (.goto 4, 3) := by decide +kernel
theorem dX11_told_39 : decode cX11_told 39 = .ok (.iconst 0, 1) := by decide +kernel
theorem dX11_told_40 : decode cX11_told 40 = .ok (.iadd, 1) := by decide +kernel
theorem dX11_told_41 : decode cX11_told 41 = .ok (.istore_n 2, 1) := by decide +kernel
theorem dX11_told_42 : decode cX11_told 42 = .ok (.iinc 3 1, 3) := by decide +kernel
theorem dX11_told_45 : decode cX11_told 45 = .ok (.goto (-30), 3) := by decide +kernel
theorem dX11_told_48 : decode cX11_told 48 = .ok (.iload_n 1, 1) := by decide +kernel
theorem dX11_told_49 : decode cX11_told 49 = .ok (.bipush 10, 2) := by decide +kernel
theorem dX11_told_51 : decode cX11_told 51 = .ok (.bipush 13, 2) := by decide +kernel
theorem dX11_told_53 : decode cX11_told 53 = .ok (.invokestatic 42, 3) := by decide +kernel
theorem dX11_told_56 : decode cX11_told 56 = .ok (.ifCond .eq 13, 3) := by decide +kernel
theorem dX11_told_59 : decode cX11_told 59 = .ok (.aload_n 0, 1) := by decide +kernel
theorem dX11_told_60 : decode cX11_told 60 = .ok (.getfield 20, 3) := by decide +kernel
theorem dX11_told_63 : decode cX11_told 63 = .ok (.iload_n 1, 1) := by decide +kernel
theorem dX11_told_64 : decode cX11_told 64 = .ok (.bipush 10, 2) := by decide +kernel
theorem dX11_told_66 : decode cX11_told 66 = .ok (.isub, 1) := by decide +kernel
theorem dX11_told_67 : decode cX11_told 67 = .ok (.iaload, 1) := by decide +kernel
theorem dX11_told_68 : decode cX11_told 68 = .ok (.ireturn, 1) := by decide +kernel
theorem dX11_told_69 : decode cX11_told 69 = .ok (.iload_n 1, 1) := by decide +kernel
theorem dX11_told_70 : decode cX11_told 70 = .ok (.bipush 20, 2) := by decide +kernel
theorem dX11_told_72 : decode cX11_told 72 = .ok (.bipush 25, 2) := by decide +kernel
theorem dX11_told_74 : decode cX11_told 74 = .ok (.invokestatic 42, 3) := by decide +kernel
theorem dX11_told_77 : decode cX11_told 77 = .ok (.ifCond .eq 29, 3) := by decide +kernel
theorem dX11_told_80 : decode cX11_told 80 = .ok (.aload_n 0, 1) := by decide +kernel
theorem dX11_told_81 : decode cX11_told 81 = .ok (.iload_n 1, 1) := by decide +kernel
theorem dX11_told_82 : decode cX11_told 82 = .ok (.bipush 20, 2) := by decide +kernel
theorem dX11_told_84 : decode cX11_told 84 = .ok (.isub, 1) := by decide +kernel
theorem dX11_told_85 : decode cX11_told 85 = .ok (.invokevirtual 46, 3) := by decide +kernel
theorem dX11_told_88 : decode cX11_told 88 = .ok (.ifCond .eq 15, 3) := by decide +kernel
theorem dX11_told_91 : decode cX11_told 91 = .ok (.aload_n 0, 1) := by decide +kernel
theorem dX11_told_92 : decode cX11_told 92 = .ok (.getfield 13, 3) := by decide +kernel
theorem dX11_told_95 : decode cX11_told 95 = .ok (.iload_n 1, 1) := by decide +kernel
theorem dX11_told_96 : decode cX11_told 96 = .ok (.bipush 20, 2) := by decide +kernel
theorem dX11_told_98 : decode cX11_told 98 = .ok (.isub, 1) := by decide +kernel
theorem dX11_told_99 : decode cX11_told 99 = .ok (.iaload, 1) := by decide +kernel
theorem dX11_told_100 : decode cX11_told 100 = .ok (.goto 5, 3) := by decide +kernel
theorem dX11_told_103 : decode cX11_told 103 = .ok (.bipush (-6), 2) := by decide +kernel
theorem dX11_told_105 : decode cX11_told 105 = .ok (.ireturn, 1) := by decide +kernel
theorem dX11_told_106 : decode cX11_told 106 = .ok (.iload_n 1, 1) := by decide +kernel
theorem dX11_told_107 : decode cX11_told 107 = .ok (.bipush 30, 2) := by decide +kernel
theorem dX11_told_109 : decode cX11_told 109 = .ok (.bipush 35, 2) := by decide +kernel
theorem dX11_told_111 : decode cX11_told 111 = .ok (.invokestatic 42, 3) := by decide +kernel
theorem dX11_told_114 : decode cX11_told 114 = .ok (.ifCond .eq 29, 3) := by decide +kernel
theorem dX11_told_117 : decode cX11_told 117 = .ok (.aload_n 0, 1) := by decide +kernel
theorem dX11_told_118 : decode cX11_told 118 = .ok (.iload_n 1, 1) := by decide +kernel
theorem dX11_told_119 : decode cX11_told 119 = .ok (.bipush 30, 2) := by decide +kernel
theorem dX11_told_121 : decode cX11_told 121 = .ok (.isub, 1) := by decide +kernel
theorem dX11_told_122 : decode cX11_told 122 = .ok (.invokevirtual 46, 3) := by decide +kernel
theorem dX11_told_125 : decode cX11_told 125 = .ok (.ifCond .eq 15, 3) := by decide +kernel
theorem dX11_told_128 : decode cX11_told 128 = .ok (.aload_n 0, 1) := by decide +kernel
theorem dX11_told_129 : decode cX11_told 129 = .ok (.getfield 7, 3) := by decide +kernel
theorem dX11_told_132 : decode cX11_told 132 = .ok (.iload_n 1, 1) := by decide +kernel
theorem dX11_told_133 : decode cX11_told 133 = .ok (.bipush 30, 2) := by decide +kernel
theorem dX11_told_135 : decode cX11_told 135 = .ok (.isub, 1) := by decide +kernel
theorem dX11_told_136 : decode cX11_told 136 = .ok (.iaload, 1) := by decide +kernel
theorem dX11_told_137 : decode cX11_told 137 = .ok (.goto 5, 3) := by decide +kernel
theorem dX11_told_140 : decode cX11_told 140 = .ok (.bipush (-6), 2) := by decide +kernel
theorem dX11_told_142 : decode cX11_told 142 = .ok (.ireturn, 1) := by decide +kernel
theorem dX11_told_143 : decode cX11_told 143 = .ok (.iload_n 1, 1) := by decide +kernel
theorem dX11_told_144 : decode cX11_told 144 = .ok (.ifCond .ne 10, 3) := by decide +kernel
theorem dX11_told_147 : decode cX11_told 147 = .ok (.aload_n 0, 1) := by decide +kernel
theorem dX11_told_148 : decode cX11_told 148 = .ok (.getfield 39, 3) := by decide +kernel
theorem dX11_told_151 : decode cX11_told 151 = .ok (.goto 50, 3) := by decide +kernel
theorem dX11_told_154 : decode cX11_told 154 = .ok (.iload_n 1, 1) := by decide +kernel
theorem dX11_told_155 : decode cX11_told 155 = .ok (.iconst 1, 1) := by decide +kernel
theorem dX11_told_156 : decode cX11_told 156 = .ok (.if_icmp .ne 10, 3) := by decide +kernel
theorem dX11_told_159 : decode cX11_told 159 = .ok (.aload_n 0, 1) := by decide +kernel
theorem dX11_told_160 : decode cX11_told 160 = .ok (.invokevirtual 96, 3) := by decide +kernel
theorem dX11_told_163 : decode cX11_told 163 = .ok (.goto 38, 3) := by decide +kernel
theorem dX11_told_166 : decode cX11_told 166 = .ok (.iload_n 1, 1) := by decide +kernel
theorem dX11_told_167 : decode cX11_told 167 = .ok (.iconst 2, 1) := by decide +kernel
theorem dX11_told_168 : decode cX11_told 168 = .ok (.if_icmp .ne 10, 3) := by decide +kernel
theorem dX11_told_171 : decode cX11_told 171 = .ok (.aload_n 0, 1) := by decide +kernel
theorem dX11_told_172 : decode cX11_told 172 = .ok (.getfield 16, 3) := by decide +kernel
theorem dX11_told_175 : decode cX11_told 175 = .ok (.goto 26, 3) := by decide +kernel
theorem dX11_told_178 : decode cX11_told 178 = .ok (.iload_n 1, 1) := by decide +kernel
theorem dX11_told_179 : decode cX11_told 179 = .ok (.iconst 3, 1) := by decide +kernel
theorem dX11_told_180 : decode cX11_told 180 = .ok (.if_icmp .ne 10, 3) := by decide +kernel
theorem dX11_told_183 : decode cX11_told 183 = .ok (.aload_n 0, 1) := by decide +kernel
theorem dX11_told_184 : decode cX11_told 184 = .ok (.getfield 50, 3) := by decide +kernel
theorem dX11_told_187 : decode cX11_told 187 = .ok (.goto 14, 3) := by decide +kernel
theorem dX11_told_190 : decode cX11_told 190 = .ok (.iload_n 1, 1) := by decide +kernel
theorem dX11_told_191 : decode cX11_told 191 = .ok (.iconst 4, 1) := by decide +kernel
theorem dX11_told_192 : decode cX11_told 192 = .ok (.if_icmp .ne 7, 3) := by decide +kernel
theorem dX11_told_195 : decode cX11_told 195 = .ok (.iload_n 2, 1) := by decide +kernel
theorem dX11_told_196 : decode cX11_told 196 = .ok (.goto 5, 3) := by decide +kernel
theorem dX11_told_199 : decode cX11_told 199 = .ok (.bipush (-2), 2) := by decide +kernel
theorem dX11_told_201 : decode cX11_told 201 = .ok (.ireturn, 1) := by decide +kernel
theorem dJ6_bitCount_0f7a4_0 : decode cJ6_bitCount_0f7a4 0 = .ok (.iload_n 0, 1) := by decide +kernel
theorem dJ6_bitCount_0f7a4_1 : decode cJ6_bitCount_0f7a4 1 = .ok (.iload_n 0, 1) := by decide +kernel
theorem dJ6_bitCount_0f7a4_2 : decode cJ6_bitCount_0f7a4 2 = .ok (.iconst 1, 1) := by decide +kernel
theorem dJ6_bitCount_0f7a4_3 : decode cJ6_bitCount_0f7a4 3 = .ok (.iushr, 1) := by decide +kernel
theorem dJ6_bitCount_0f7a4_4 : decode cJ6_bitCount_0f7a4 4 = .ok (.ldc_w 265, 3) := by decide +kernel
theorem dJ6_bitCount_0f7a4_7 : decode cJ6_bitCount_0f7a4 7 = .ok (.iand, 1) := by decide +kernel
theorem dJ6_bitCount_0f7a4_8 : decode cJ6_bitCount_0f7a4 8 = .ok (.isub, 1) := by decide +kernel
theorem dJ6_bitCount_0f7a4_9 : decode cJ6_bitCount_0f7a4 9 = .ok (.istore_n 0, 1) := by decide +kernel
theorem dJ6_bitCount_0f7a4_10 : decode cJ6_bitCount_0f7a4 10 = .ok (.iload_n 0, 1) := by decide +kernel
theorem dJ6_bitCount_0f7a4_11 : decode cJ6_bitCount_0f7a4 11 = .ok (.ldc_w 266, 3) := by decide +kernel
theorem dJ6_bitCount_0f7a4_14 : decode cJ6_bitCount_0f7a4 14 = .ok (.iand, 1) := by decide +kernel
theorem dJ6_bitCount_0f7a4_15 : decode cJ6_bitCount_0f7a4 15 = .ok (.iload_n 0, 1) := by decide +kernel
theorem dJ6_bitCount_0f7a4_16 : decode cJ6_bitCount_0f7a4 16 = .ok (.iconst 2, 1) := by decide +kernel
theorem dJ6_bitCount_0f7a4_17 : decode cJ6_bitCount_0f7a4 17 = .ok (.iushr, 1) := by decide +kernel
theorem dJ6_bitCount_0f7a4_18 : decode cJ6_bitCount_0f7a4 18 = .ok (.ldc_w 266, 3) := by decide +kernel
theorem dJ6_bitCount_0f7a4_21 : decode cJ6_bitCount_0f7a4 21 = .ok (.iand, 1) := by decide +kernel
theorem dJ6_bitCount_0f7a4_22 : decode cJ6_bitCount_0f7a4 22 = .ok (.iadd, 1) := by decide +kernel
theorem dJ6_bitCount_0f7a4_23 : decode cJ6_bitCount_0f7a4 23 = .ok (.istore_n 0, 1) := by decide +kernel
theorem dJ6_bitCount_0f7a4_24 : decode cJ6_bitCount_0f7a4 24 = .ok (.iload_n 0, 1) := by decide +kernel
theorem dJ6_bitCount_0f7a4_25 : decode cJ6_bitCount_0f7a4 25 = .ok (.iload_n 0, 1) := by decide +kernel
theorem dJ6_bitCount_0f7a4_26 : decode cJ6_bitCount_0f7a4 26 = .ok (.iconst 4, 1) := by decide +kernel
theorem dJ6_bitCount_0f7a4_27 : decode cJ6_bitCount_0f7a4 27 = .ok (.iushr, 1) := by decide +kernel
theorem dJ6_bitCount_0f7a4_28 : decode cJ6_bitCount_0f7a4 28 = .ok (.iadd, 1) := by decide +kernel
theorem dJ6_bitCount_0f7a4_29 : decode cJ6_bitCount_0f7a4 29 = .ok (.ldc_w 267, 3) := by decide +kernel
theorem dJ6_bitCount_0f7a4_32 : decode cJ6_bitCount_0f7a4 32 = .ok (.iand, 1) := by decide +kernel
theorem dJ6_bitCount_0f7a4_33 : decode cJ6_bitCount_0f7a4 33 = .ok (.istore_n 0, 1) := by decide +kernel
theorem dJ6_bitCount_0f7a4_34 : decode cJ6_bitCount_0f7a4 34 = .ok (.iload_n 0, 1) := by decide +kernel
theorem dJ6_bitCount_0f7a4_35 : decode cJ6_bitCount_0f7a4 35 = .ok (.iload_n 0, 1) := by decide +kernel
theorem dJ6_bitCount_0f7a4_36 : decode cJ6_bitCount_0f7a4 36 = .ok (.bipush 8, 2) := by decide +kernel
theorem dJ6_bitCount_0f7a4_38 : decode cJ6_bitCount_0f7a4 38 = .ok (.iushr, 1) := by decide +kernel
theorem dJ6_bitCount_0f7a4_39 : decode cJ6_bitCount_0f7a4 39 = .ok (.iadd, 1) := by decide +kernel
theorem dJ6_bitCount_0f7a4_40 : decode cJ6_bitCount_0f7a4 40 = .ok (.istore_n 0, 1) := by decide +kernel
theorem dJ6_bitCount_0f7a4_41 : decode cJ6_bitCount_0f7a4 41 = .ok (.iload_n 0, 1) := by decide +kernel
theorem dJ6_bitCount_0f7a4_42 : decode cJ6_bitCount_0f7a4 42 = .ok (.iload_n 0, 1) := by decide +kernel
theorem dJ6_bitCount_0f7a4_43 : decode cJ6_bitCount_0f7a4 43 = .ok (.bipush 16, 2) := by decide +kernel
theorem dJ6_bitCount_0f7a4_45 : decode cJ6_bitCount_0f7a4 45 = .ok (.iushr, 1) := by decide +kernel
theorem dJ6_bitCount_0f7a4_46 : decode cJ6_bitCount_0f7a4 46 = .ok (.iadd, 1) := by decide +kernel
theorem dJ6_bitCount_0f7a4_47 : decode cJ6_bitCount_0f7a4 47 = .ok (.istore_n 0, 1) := by decide +kernel
theorem dJ6_bitCount_0f7a4_48 : decode cJ6_bitCount_0f7a4 48 = .ok (.iload_n 0, 1) := by decide +kernel
theorem dJ6_bitCount_0f7a4_49 : decode cJ6_bitCount_0f7a4 49 = .ok (.bipush 63, 2) := by decide +kernel
theorem dJ6_bitCount_0f7a4_51 : decode cJ6_bitCount_0f7a4 51 = .ok (.iand, 1) := by decide +kernel
theorem dJ6_bitCount_0f7a4_52 : decode cJ6_bitCount_0f7a4 52 = .ok (.ireturn, 1) := by decide +kernel
theorem dJ9_max_7cf53_0 : decode cJ9_max_7cf53 0 = .ok (.iload_n 0, 1) := by decide +kernel
theorem dJ9_max_7cf53_1 : decode cJ9_max_7cf53 1 = .ok (.iload_n 1, 1) := by decide +kernel
theorem dJ9_max_7cf53_2 : decode cJ9_max_7cf53 2 = .ok (.if_icmp .lt 7, 3) := by decide +kernel
theorem dJ9_max_7cf53_5 : decode cJ9_max_7cf53 5 = .ok (.iload_n 0, 1) := by decide +kernel
theorem dJ9_max_7cf53_6 : decode cJ9_max_7cf53 6 = .ok (.goto 4, 3) := by decide +kernel
theorem dJ9_max_7cf53_9 : decode cJ9_max_7cf53 9 = .ok (.iload_n 1, 1) := by decide +kernel
theorem dJ9_max_7cf53_10 : decode cJ9_max_7cf53 10 = .ok (.ireturn, 1) := by decide +kernel
theorem dJ9_max_f86c9_0 : decode cJ9_max_f86c9 0 = .ok (.lload_n 0, 1) := by decide +kernel
theorem dJ9_max_f86c9_1 : decode cJ9_max_f86c9 1 = .ok (.lload_n 2, 1) := by decide +kernel
theorem dJ9_max_f86c9_2 : decode cJ9_max_f86c9 2 = .ok (.lcmp, 1) := by decide +kernel
theorem dJ9_max_f86c9_3 : decode cJ9_max_f86c9 3 = .ok (.ifCond .lt 7, 3) := by decide +kernel
theorem dJ9_max_f86c9_6 : decode cJ9_max_f86c9 6 = .ok (.lload_n 0, 1) := by decide +kernel
theorem dJ9_max_f86c9_7 : decode cJ9_max_f86c9 7 = .ok (.goto 4, 3) := by decide +kernel
theorem dJ9_max_f86c9_10 : decode cJ9_max_f86c9 10 = .ok (.lload_n 2, 1) := by decide +kernel
theorem dJ9_max_f86c9_11 : decode cJ9_max_f86c9 11 = .ok (.lreturn, 1) := by decide +kernel
theorem dJ9_min_7cf53_0 : decode cJ9_min_7cf53 0 = .ok (.iload_n 0, 1) := by decide +kernel
theorem dJ9_min_7cf53_1 : decode cJ9_min_7cf53 1 = .ok (.iload_n 1, 1) := by decide +kernel
theorem dJ9_min_7cf53_2 : decode cJ9_min_7cf53 2 = .ok (.if_icmp .gt 7, 3) := by decide +kernel
theorem dJ9_min_7cf53_5 : decode cJ9_min_7cf53 5 = .ok (.iload_n 0, 1) := by decide +kernel
theorem dJ9_min_7cf53_6 : decode cJ9_min_7cf53 6 = .ok (.goto 4, 3) := by decide +kernel
theorem dJ9_min_7cf53_9 : decode cJ9_min_7cf53 9 = .ok (.iload_n 1, 1) := by decide +kernel
theorem dJ9_min_7cf53_10 : decode cJ9_min_7cf53 10 = .ok (.ireturn, 1) := by decide +kernel
abbrev vwCl : List vw_C := [(RX0, TX0, 2), (RX2, TX2, 9), (RX3, TX3, 4), (RX4, TX4, 4), (RX5, TX5, 2), (RX6, TX6, 4), (RX7, TX7, 2), (RX8, TX8, 7), (RX9, TX9, 2), (RX10, TX10, 9), (RX11, TX11, 17)]
