theorem dX0_fineFromCoarse_0 : decode cX0_fineFromCoarse 0 = .ok (.getstatic 7, 3) := by decide +kernel
theorem dX0_fineFromCoarse_3 : decode cX0_fineFromCoarse 3 = .ok (.lload_n 0, 1) := by decide +kernel
theorem dX0_fineFromCoarse_4 : decode cX0_fineFromCoarse 4 = .ok (.invokevirtual 51, 3) := by decide +kernel
theorem dX0_fineFromCoarse_7 : decode cX0_fineFromCoarse 7 = .ok (.lstore_n 2, 1) := by decide +kernel
theorem dX0_fineFromCoarse_8 : decode cX0_fineFromCoarse 8 = .ok (.lload_n 2, 1) := by decide +kernel
theorem dX0_fineFromCoarse_9 : decode cX0_fineFromCoarse 9 = .ok (.lconst 0, 1) := by decide +kernel
theorem dX0_fineFromCoarse_10 : decode cX0_fineFromCoarse 10 = .ok (.lcmp, 1) := by decide +kernel
theorem dX0_fineFromCoarse_11 : decode cX0_fineFromCoarse 11 = .ok (.ifCond .ne 9, 3) := by decide +kernel
theorem dX0_fineFromCoarse_14 : decode cX0_fineFromCoarse 14 = .ok (.lconst 0, 1) := by decide +kernel
theorem dX0_fineFromCoarse_15 : decode cX0_fineFromCoarse 15 = .ok (.lstore 4, 2) := by decide +kernel
theorem dX0_fineFromCoarse_17 : decode cX0_fineFromCoarse 17 = .ok (.goto 85, 3) := by decide +kernel
theorem dX0_fineFromCoarse_20 : decode cX0_fineFromCoarse 20 = .ok (.lload_n 2, 1) := by decide +kernel
theorem dX0_fineFromCoarse_21 : decode cX0_fineFromCoarse 21 = .ok (.getstatic 7, 3) := by decide +kernel
theorem dX0_fineFromCoarse_24 : decode cX0_fineFromCoarse 24 = .ok (.getfield 48, 3) := by decide +kernel
theorem dX0_fineFromCoarse_27 : decode cX0_fineFromCoarse 27 = .ok (.lcmp, 1) := by decide +kernel
theorem dX0_fineFromCoarse_28 : decode cX0_fineFromCoarse 28 = .ok (.ifCond .ne 14, 3) := by decide +kernel
theorem dX0_fineFromCoarse_31 : decode cX0_fineFromCoarse 31 = .ok (.getstatic 3, 3) := by decide +kernel
theorem dX0_fineFromCoarse_34 : decode cX0_fineFromCoarse 34 = .ok (.getfield 48, 3) := by decide +kernel
theorem dX0_fineFromCoarse_37 : decode cX0_fineFromCoarse 37 = .ok (.lstore 4, 2) := by decide +kernel
theorem dX0_fineFromCoarse_39 : decode cX0_fineFromCoarse 39 = .ok (.goto 63, 3) := by decide +kernel
theorem dX0_fineFromCoarse_42 : decode cX0_fineFromCoarse 42 = .ok (.getstatic 3, 3) := by decide +kernel
theorem dX0_fineFromCoarse_45 : decode cX0_fineFromCoarse 45 = .ok (.getfield 29, 3) := by decide +kernel
theorem dX0_fineFromCoarse_48 : decode cX0_fineFromCoarse 48 = .ok (.getstatic 7, 3) := by decide +kernel
theorem dX0_fineFromCoarse_51 : decode cX0_fineFromCoarse 51 = .ok (.getfield 29, 3) := by decide +kernel
theorem dX0_fineFromCoarse_54 : decode cX0_fineFromCoarse 54 = .ok (.isub, 1) := by decide +kernel
theorem dX0_fineFromCoarse_55 : decode cX0_fineFromCoarse 55 = .ok (.iconst 3, 1) := by decide +kernel
theorem dX0_fineFromCoarse_56 : decode cX0_fineFromCoarse 56 = .ok (.iadd, 1) := by decide +kernel
theorem dX0_fineFromCoarse_57 : decode cX0_fineFromCoarse 57 = .ok (.istore 6, 2) := by decide +kernel
theorem dX0_fineFromCoarse_59 : decode cX0_fineFromCoarse 59 = .ok (.getstatic 7, 3) := by decide +kernel
theorem dX0_fineFromCoarse_62 : decode cX0_fineFromCoarse 62 = .ok (.lload_n 2, 1) := by decide +kernel
theorem dX0_fineFromCoarse_63 : decode cX0_fineFromCoarse 63 = .ok (.invokevirtual 55, 3) := by decide +kernel
theorem dX0_fineFromCoarse_66 : decode cX0_fineFromCoarse 66 = .ok (.getstatic 7, 3) := by decide +kernel
theorem dX0_fineFromCoarse_69 : decode cX0_fineFromCoarse 69 = .ok (.getfield 33, 3) := by decide +kernel
theorem dX0_fineFromCoarse_72 : decode cX0_fineFromCoarse 72 = .ok (.isub, 1) := by decide +kernel
theorem dX0_fineFromCoarse_73 : decode cX0_fineFromCoarse 73 = .ok (.getstatic 3, 3) := by decide +kernel
theorem dX0_fineFromCoarse_76 : decode cX0_fineFromCoarse 76 = .ok (.getfield 33, 3) := by decide +kernel
theorem dX0_fineFromCoarse_79 : decode cX0_fineFromCoarse 79 = .ok (.iadd, 1) := by decide +kernel
theorem dX0_fineFromCoarse_80 : decode cX0_fineFromCoarse 80 = .ok (.istore 7, 2) := by decide +kernel
theorem dX0_fineFromCoarse_82 : decode cX0_fineFromCoarse 82 = .ok (.getstatic 3, 3) := by decide +kernel
theorem dX0_fineFromCoarse_85 : decode cX0_fineFromCoarse 85 = .ok (.getstatic 7, 3) := by decide +kernel
theorem dX0_fineFromCoarse_88 : decode cX0_fineFromCoarse 88 = .ok (.lload_n 2, 1) := by decide +kernel
theorem dX0_fineFromCoarse_89 : decode cX0_fineFromCoarse 89 = .ok (.invokevirtual 59, 3) := by decide +kernel
theorem dX0_fineFromCoarse_92 : decode cX0_fineFromCoarse 92 = .ok (.iload 6, 2) := by decide +kernel
theorem dX0_fineFromCoarse_94 : decode cX0_fineFromCoarse 94 = .ok (.lshl, 1) := by decide +kernel
theorem dX0_fineFromCoarse_95 : decode cX0_fineFromCoarse 95 = .ok (.iload 7, 2) := by decide +kernel
theorem dX0_fineFromCoarse_97 : decode cX0_fineFromCoarse 97 = .ok (.invokevirtual 62, 3) := by decide +kernel
theorem dX0_fineFromCoarse_100 : decode cX0_fineFromCoarse 100 = .ok (.lstore 4, 2) := by decide +kernel
theorem dX0_fineFromCoarse_102 : decode cX0_fineFromCoarse 102 = .ok (.getstatic 3, 3) := by decide +kernel
theorem dX0_fineFromCoarse_105 : decode cX0_fineFromCoarse 105 = .ok (.lload 4, 2) := by decide +kernel
theorem dX0_fineFromCoarse_107 : decode cX0_fineFromCoarse 107 = .ok (.lload_n 0, 1) := by decide +kernel
theorem dX0_fineFromCoarse_108 : decode cX0_fineFromCoarse 108 = .ok (.invokevirtual 66, 3) := by decide +kernel
theorem dX0_fineFromCoarse_111 : decode cX0_fineFromCoarse 111 = .ok (.lreturn, 1) := by decide +kernel
theorem dX0_trimmed_0 : decode cX0_trimmed 0 = .ok (.aload_n 0, 1) := by decide +kernel
theorem dX0_trimmed_1 : decode cX0_trimmed 1 = .ok (.getstatic 7, 3) := by decide +kernel
theorem dX0_trimmed_4 : decode cX0_trimmed 4 = .ok (.if_acmp .ne 9, 3) := by decide +kernel
theorem dX0_trimmed_7 : decode cX0_trimmed 7 = .ok (.lload_n 1, 1) := by decide +kernel
theorem dX0_trimmed_8 : decode cX0_trimmed 8 = .ok (.l2i, 1) := by decide +kernel
theorem dX0_trimmed_9 : decode cX0_trimmed 9 = .ok (.i2l, 1) := by decide +kernel
theorem dX0_trimmed_10 : decode cX0_trimmed 10 = .ok (.goto 4, 3) := by decide +kernel
theorem dX0_trimmed_13 : decode cX0_trimmed 13 = .ok (.lload_n 1, 1) := by decide +kernel
theorem dX0_trimmed_14 : decode cX0_trimmed 14 = .ok (.lreturn, 1) := by decide +kernel
set_option maxRecDepth 20000 in
theorem ggX0_isNumber_X0_sizeOf : GoodIn wsX0_isNumber wsX0_sizeOf := goodIn_r _ [6, 7, 8] (by decide +kernel) (by decide +kernel)
set_option maxRecDepth 20000 in
theorem gX0_isNumber_X0_sizeOf : GoodIn wsX0_isNumber (wsV RX0 51 RX0 yX0_sizeOf wsX0_sizeOf) := goodIn_app (goodIn_of _ (by decide +kernel)) ggX0_isNumber_X0_sizeOf
theorem dX0_isNumber_0 : decode cX0_isNumber 0 = .ok (.aload_n 0, 1) := by decide +kernel
theorem dX0_isNumber_1 : decode cX0_isNumber 1 = .ok (.lload_n 1, 1) := by decide +kernel
theorem dX0_isNumber_2 : decode cX0_isNumber 2 = .ok (.invokevirtual 51, 3) := by decide +kernel
theorem dX0_isNumber_5 : decode cX0_isNumber 5 = .ok (.aload_n 0, 1) := by decide +kernel
theorem dX0_isNumber_6 : decode cX0_isNumber 6 = .ok (.getfield 48, 3) := by decide +kernel
theorem dX0_isNumber_9 : decode cX0_isNumber 9 = .ok (.lcmp, 1) := by decide +kernel
theorem dX0_isNumber_10 : decode cX0_isNumber 10 = .ok (.ifCond .gt 7, 3) := by decide +kernel
theorem dX0_isNumber_13 : decode cX0_isNumber 13 = .ok (.iconst 1, 1) := by decide +kernel
theorem dX0_isNumber_14 : decode cX0_isNumber 14 = .ok (.goto 4, 3) := by decide +kernel
theorem dX0_isNumber_17 : decode cX0_isNumber 17 = .ok (.iconst 0, 1) := by decide +kernel
theorem dX0_isNumber_18 : decode cX0_isNumber 18 = .ok (.ireturn, 1) := by decide +kernel
theorem dX0_sizeOf_0 : decode cX0_sizeOf 0 = .ok (.lload_n 1, 1) := by decide +kernel
theorem dX0_sizeOf_1 : decode cX0_sizeOf 1 = .ok (.aload_n 0, 1) := by decide +kernel
theorem dX0_sizeOf_2 : decode cX0_sizeOf 2 = .ok (.getfield 36, 3) := by decide +kernel
theorem dX0_sizeOf_5 : decode cX0_sizeOf 5 = .ok (.ldc2_w 70, 3) := by decide +kernel
theorem dX0_sizeOf_8 : decode cX0_sizeOf 8 = .ok (.lxor, 1) := by decide +kernel
theorem dX0_sizeOf_9 : decode cX0_sizeOf 9 = .ok (.land, 1) := by decide +kernel
theorem dX0_sizeOf_10 : decode cX0_sizeOf 10 = .ok (.lreturn, 1) := by decide +kernel
set_option maxRecDepth 20000 in
theorem ggX0_withSideOf_X0_sizeOf : GoodIn wsX0_withSideOf wsX0_sizeOf := goodIn_r _ [6, 1, 7] (by decide +kernel) (by decide +kernel)
set_option maxRecDepth 20000 in
theorem gX0_withSideOf_X0_sizeOf : GoodIn wsX0_withSideOf (wsV RX0 51 RX0 yX0_sizeOf wsX0_sizeOf) := goodIn_app (goodIn_of _ (by decide +kernel)) ggX0_withSideOf_X0_sizeOf
theorem dX0_withSideOf_0 : decode cX0_withSideOf 0 = .ok (.lload_n 3, 1) := by decide +kernel
theorem dX0_withSideOf_1 : decode cX0_withSideOf 1 = .ok (.lconst 0, 1) := by decide +kernel
theorem dX0_withSideOf_2 : decode cX0_withSideOf 2 = .ok (.lcmp, 1) := by decide +kernel
theorem dX0_withSideOf_3 : decode cX0_withSideOf 3 = .ok (.ifCond .ge 12, 3) := by decide +kernel
theorem dX0_withSideOf_6 : decode cX0_withSideOf 6 = .ok (.lload_n 1, 1) := by decide +kernel
theorem dX0_withSideOf_7 : decode cX0_withSideOf 7 = .ok (.aload_n 0, 1) := by decide +kernel
theorem dX0_withSideOf_8 : decode cX0_withSideOf 8 = .ok (.getfield 36, 3) := by decide +kernel
theorem dX0_withSideOf_11 : decode cX0_withSideOf 11 = .ok (.lor, 1) := by decide +kernel
theorem dX0_withSideOf_12 : decode cX0_withSideOf 12 = .ok (.goto 8, 3) := by decide +kernel
theorem dX0_withSideOf_15 : decode cX0_withSideOf 15 = .ok (.aload_n 0, 1) := by decide +kernel
theorem dX0_withSideOf_16 : decode cX0_withSideOf 16 = .ok (.lload_n 1, 1) := by decide +kernel
theorem dX0_withSideOf_17 : decode cX0_withSideOf 17 = .ok (.invokevirtual 51, 3) := by decide +kernel
theorem dX0_withSideOf_20 : decode cX0_withSideOf 20 = .ok (.lreturn, 1) := by decide +kernel
set_option maxRecDepth 20000 in
theorem ggX0_negated_X0_sizeOf : GoodIn wsX0_negated wsX0_sizeOf := goodIn_r _ [6, 1, 7] (by decide +kernel) (by decide +kernel)
set_option maxRecDepth 20000 in
theorem gX0_negated_X0_sizeOf : GoodIn wsX0_negated (wsV RX0 51 RX0 yX0_sizeOf wsX0_sizeOf) := goodIn_app (goodIn_of _ (by decide +kernel)) ggX0_negated_X0_sizeOf
theorem dX0_negated_0 : decode cX0_negated 0 = .ok (.lload_n 1, 1) := by decide +kernel
theorem dX0_negated_1 : decode cX0_negated 1 = .ok (.lconst 0, 1) := by decide +kernel
theorem dX0_negated_2 : decode cX0_negated 2 = .ok (.lcmp, 1) := by decide +kernel
theorem dX0_negated_3 : decode cX0_negated 3 = .ok (.ifCond .ge 11, 3) := by decide +kernel
theorem dX0_negated_6 : decode cX0_negated 6 = .ok (.aload_n 0, 1) := by decide +kernel
theorem dX0_negated_7 : decode cX0_negated 7 = .ok (.lload_n 1, 1) := by decide +kernel
theorem dX0_negated_8 : decode cX0_negated 8 = .ok (.invokevirtual 51, 3) := by decide +kernel
theorem dX0_negated_11 : decode cX0_negated 11 = .ok (.goto 9, 3) := by decide +kernel
theorem dX0_negated_14 : decode cX0_negated 14 = .ok (.lload_n 1, 1) := by decide +kernel
theorem dX0_negated_15 : decode cX0_negated 15 = .ok (.aload_n 0, 1) := by decide +kernel
theorem dX0_negated_16 : decode cX0_negated 16 = .ok (.getfield 36, 3) := by decide +kernel
theorem dX0_negated_19 : decode cX0_negated 19 = .ok (.lor, 1) := by decide +kernel
theorem dX0_negated_20 : decode cX0_negated 20 = .ok (.lreturn, 1) := by decide +kernel
set_option maxRecDepth 20000 in
theorem ggX0_unitOf_X0_sizeOf : GoodIn wsX0_unitOf wsX0_sizeOf := goodIn_r _ [6, 7, 8] (by decide +kernel) (by decide +kernel)
set_option maxRecDepth 20000 in
theorem gX0_unitOf_X0_sizeOf : GoodIn wsX0_unitOf (wsV RX0 51 RX0 yX0_sizeOf wsX0_sizeOf) := goodIn_app (goodIn_of _ (by decide +kernel)) ggX0_unitOf_X0_sizeOf
set_option maxRecDepth 20000 in
theorem ggX0_unitOf_X0_withSideOf : GoodIn wsX0_unitOf wsX0_withSideOf := goodIn_r _ [12, 7, 2, 3, 4, 5, 6, 8] (by decide +kernel) (by decide +kernel)
set_option maxRecDepth 20000 in
theorem gX0_unitOf_X0_withSideOf : GoodIn wsX0_unitOf (wsV RX0 66 RX0 yX0_withSideOf wsX0_withSideOf) := goodIn_app (goodIn_of _ (by decide +kernel)) ggX0_unitOf_X0_withSideOf
theorem dX0_unitOf_0 : decode cX0_unitOf 0 = .ok (.aload_n 0, 1) := by decide +kernel
theorem dX0_unitOf_1 : decode cX0_unitOf 1 = .ok (.lload_n 1, 1) := by decide +kernel
theorem dX0_unitOf_2 : decode cX0_unitOf 2 = .ok (.invokevirtual 51, 3) := by decide +kernel
theorem dX0_unitOf_5 : decode cX0_unitOf 5 = .ok (.lconst 0, 1) := by decide +kernel
theorem dX0_unitOf_6 : decode cX0_unitOf 6 = .ok (.lcmp, 1) := by decide +kernel
theorem dX0_unitOf_7 : decode cX0_unitOf 7 = .ok (.ifCond .ne 7, 3) := by decide +kernel
theorem dX0_unitOf_10 : decode cX0_unitOf 10 = .ok (.lload_n 1, 1) := by decide +kernel
theorem dX0_unitOf_11 : decode cX0_unitOf 11 = .ok (.goto 12, 3) := by decide +kernel
theorem dX0_unitOf_14 : decode cX0_unitOf 14 = .ok (.aload_n 0, 1) := by decide +kernel
theorem dX0_unitOf_15 : decode cX0_unitOf 15 = .ok (.aload_n 0, 1) := by decide +kernel
theorem dX0_unitOf_16 : decode cX0_unitOf 16 = .ok (.getfield 43, 3) := by decide +kernel
theorem dX0_unitOf_19 : decode cX0_unitOf 19 = .ok (.lload_n 1, 1) := by decide +kernel
theorem dX0_unitOf_20 : decode cX0_unitOf 20 = .ok (.invokevirtual 66, 3) := by decide +kernel
theorem dX0_unitOf_23 : decode cX0_unitOf 23 = .ok (.lreturn, 1) := by decide +kernel
set_option maxRecDepth 20000 in
theorem ggX0_isBelow_X0_rankOf : GoodIn wsX0_isBelow wsX0_rankOf := goodIn_r _ [5, 6, 7] (by decide +kernel) (by decide +kernel)
set_option maxRecDepth 20000 in
theorem gX0_isBelow_X0_rankOf : GoodIn wsX0_isBelow (wsV RX0 72 RX0 yX0_rankOf wsX0_rankOf) := goodIn_app (goodIn_of _ (by decide +kernel)) ggX0_isBelow_X0_rankOf
theorem dX0_isBelow_0 : decode cX0_isBelow 0 = .ok (.aload_n 0, 1) := by decide +kernel
theorem dX0_isBelow_1 : decode cX0_isBelow 1 = .ok (.lload_n 1, 1) := by decide +kernel
theorem dX0_isBelow_2 : decode cX0_isBelow 2 = .ok (.invokevirtual 72, 3) := by decide +kernel
theorem dX0_isBelow_5 : decode cX0_isBelow 5 = .ok (.aload_n 0, 1) := by decide +kernel
theorem dX0_isBelow_6 : decode cX0_isBelow 6 = .ok (.lload_n 3, 1) := by decide +kernel
theorem dX0_isBelow_7 : decode cX0_isBelow 7 = .ok (.invokevirtual 72, 3) := by decide +kernel
theorem dX0_isBelow_10 : decode cX0_isBelow 10 = .ok (.lcmp, 1) := by decide +kernel
theorem dX0_isBelow_11 : decode cX0_isBelow 11 = .ok (.ifCond .ge 7, 3) := by decide +kernel
theorem dX0_isBelow_14 : decode cX0_isBelow 14 = .ok (.iconst 1, 1) := by decide +kernel
theorem dX0_isBelow_15 : decode cX0_isBelow 15 = .ok (.goto 4, 3) := by decide +kernel
theorem dX0_isBelow_18 : decode cX0_isBelow 18 = .ok (.iconst 0, 1) := by decide +kernel
theorem dX0_isBelow_19 : decode cX0_isBelow 19 = .ok (.ireturn, 1) := by decide +kernel
set_option maxRecDepth 20000 in
theorem ggX0_lesserOf_X0_isBelow : GoodIn wsX0_lesserOf wsX0_isBelow := goodIn_r _ [5, 6, 7, 8, 4, 9, 10, 11] (by decide +kernel) (by decide +kernel)
set_option maxRecDepth 20000 in
theorem gX0_lesserOf_X0_isBelow : GoodIn wsX0_lesserOf (wsV RX0 75 RX0 yX0_isBelow wsX0_isBelow) := goodIn_app (goodIn_of _ (by decide +kernel)) ggX0_lesserOf_X0_isBelow
theorem dX0_lesserOf_0 : decode cX0_lesserOf 0 = .ok (.aload_n 0, 1) := by decide +kernel
theorem dX0_lesserOf_1 : decode cX0_lesserOf 1 = .ok (.lload_n 3, 1) := by decide +kernel
theorem dX0_lesserOf_2 : decode cX0_lesserOf 2 = .ok (.lload_n 1, 1) := by decide +kernel
theorem dX0_lesserOf_3 : decode cX0_lesserOf 3 = .ok (.invokevirtual 75, 3) := by decide +kernel
theorem dX0_lesserOf_6 : decode cX0_lesserOf 6 = .ok (.ifCond .eq 7, 3) := by decide +kernel
theorem dX0_lesserOf_9 : decode cX0_lesserOf 9 = .ok (.lload_n 3, 1) := by decide +kernel
theorem dX0_lesserOf_10 : decode cX0_lesserOf 10 = .ok (.goto 4, 3) := by decide +kernel
theorem dX0_lesserOf_13 : decode cX0_lesserOf 13 = .ok (.lload_n 1, 1) := by decide +kernel
theorem dX0_lesserOf_14 : decode cX0_lesserOf 14 = .ok (.lreturn, 1) := by decide +kernel
set_option maxRecDepth 20000 in
theorem ggX0_greaterOf_X0_isBelow : GoodIn wsX0_greaterOf wsX0_isBelow := goodIn_r _ [5, 6, 7, 8, 4, 9, 10, 11] (by decide +kernel) (by decide +kernel)
set_option maxRecDepth 20000 in
theorem gX0_greaterOf_X0_isBelow : GoodIn wsX0_greaterOf (wsV RX0 75 RX0 yX0_isBelow wsX0_isBelow) := goodIn_app (goodIn_of _ (by decide +kernel)) ggX0_greaterOf_X0_isBelow
theorem dX0_greaterOf_0 : decode cX0_greaterOf 0 = .ok (.aload_n 0, 1) := by decide +kernel
theorem dX0_greaterOf_1 : decode cX0_greaterOf 1 = .ok (.lload_n 1, 1) := by decide +kernel
theorem dX0_greaterOf_2 : decode cX0_greaterOf 2 = .ok (.lload_n 3, 1) := by decide +kernel
theorem dX0_greaterOf_3 : decode cX0_greaterOf 3 = .ok (.invokevirtual 75, 3) := by decide +kernel
theorem dX0_greaterOf_6 : decode cX0_greaterOf 6 = .ok (.ifCond .eq 7, 3) := by decide +kernel
theorem dX0_greaterOf_9 : decode cX0_greaterOf 9 = .ok (.lload_n 3, 1) := by decide +kernel
theorem dX0_greaterOf_10 : decode cX0_greaterOf 10 = .ok (.goto 4, 3) := by decide +kernel
theorem dX0_greaterOf_13 : decode cX0_greaterOf 13 = .ok (.lload_n 1, 1) := by decide +kernel
theorem dX0_greaterOf_14 : decode cX0_greaterOf 14 = .ok (.lreturn, 1) := by decide +kernel
set_option maxRecDepth 20000 in
theorem ggX0_areAlike_X0_sizeOf : GoodIn wsX0_areAlike wsX0_sizeOf := goodIn_r _ [5, 6, 7] (by decide +kernel) (by decide +kernel)
set_option maxRecDepth 20000 in
theorem gX0_areAlike_X0_sizeOf : GoodIn wsX0_areAlike (wsV RX0 51 RX0 yX0_sizeOf wsX0_sizeOf) := goodIn_app (goodIn_of _ (by decide +kernel)) ggX0_areAlike_X0_sizeOf
theorem dX0_areAlike_0 : decode cX0_areAlike 0 = .ok (.lload_n 1, 1) := by decide +kernel
theorem dX0_areAlike_1 : decode cX0_areAlike 1 = .ok (.lload_n 3, 1) := by decide +kernel
theorem dX0_areAlike_2 : decode cX0_areAlike 2 = .ok (.lcmp, 1) := by decide +kernel
theorem dX0_areAlike_3 : decode cX0_areAlike 3 = .ok (.ifCond .eq 23, 3) := by decide +kernel
theorem dX0_areAlike_6 : decode cX0_areAlike 6 = .ok (.aload_n 0, 1) := by decide +kernel
theorem dX0_areAlike_7 : decode cX0_areAlike 7 = .ok (.lload_n 1, 1) := by decide +kernel
theorem dX0_areAlike_8 : decode cX0_areAlike 8 = .ok (.invokevirtual 51, 3) := by decide +kernel
theorem dX0_areAlike_11 : decode cX0_areAlike 11 = .ok (.lconst 0, 1) := by decide +kernel
theorem dX0_areAlike_12 : decode cX0_areAlike 12 = .ok (.lcmp, 1) := by decide +kernel
theorem dX0_areAlike_13 : decode cX0_areAlike 13 = .ok (.ifCond .ne 17, 3) := by decide +kernel
theorem dX0_areAlike_16 : decode cX0_areAlike 16 = .ok (.aload_n 0, 1) := by decide +kernel
theorem dX0_areAlike_17 : decode cX0_areAlike 17 = .ok (.lload_n 3, 1) := by decide +kernel
theorem dX0_areAlike_18 : decode cX0_areAlike 18 = .ok (.invokevirtual 51, 3) := by decide +kernel
theorem dX0_areAlike_21 : decode cX0_areAlike 21 = .ok (.lconst 0, 1) := by decide +kernel
theorem dX0_areAlike_22 : decode cX0_areAlike 22 = .ok (.lcmp, 1) := by decide +kernel
theorem dX0_areAlike_23 : decode cX0_areAlike 23 = .ok (.ifCond .ne 7, 3) := by decide +kernel
theorem dX0_areAlike_26 : decode cX0_areAlike 26 = .ok (.iconst 1, 1) := by decide +kernel
theorem dX0_areAlike_27 : decode cX0_areAlike 27 = .ok (.goto 4, 3) := by decide +kernel
theorem dX0_areAlike_30 : decode cX0_areAlike 30 = .ok (.iconst 0, 1) := by decide +kernel
theorem dX0_areAlike_31 : decode cX0_areAlike 31 = .ok (.ireturn, 1) := by decide +kernel
set_option maxRecDepth 20000 in
theorem ggX0_areOppositeInfinities_X0_sizeOf : GoodIn wsX0_areOppositeInfinities wsX0_sizeOf := goodIn_r _ [6, 7, 8] (by decide +kernel) (by decide +kernel)
set_option maxRecDepth 20000 in
theorem gX0_areOppositeInfinities_X0_sizeOf : GoodIn wsX0_areOppositeInfinities (wsV RX0 51 RX0 yX0_sizeOf wsX0_sizeOf) := goodIn_app (goodIn_of _ (by decide +kernel)) ggX0_areOppositeInfinities_X0_sizeOf
set_option maxRecDepth 20000 in
theorem ggX0_areOppositeInfinities_X0_negated : GoodIn wsX0_areOppositeInfinities wsX0_negated := goodIn_r _ [12, 7, 2, 3, 4, 5, 6, 8] (by decide +kernel) (by decide +kernel)
set_option maxRecDepth 20000 in
theorem gX0_areOppositeInfinities_X0_negated : GoodIn wsX0_areOppositeInfinities (wsV RX0 79 RX0 yX0_negated wsX0_negated) := goodIn_app (goodIn_of _ (by decide +kernel)) ggX0_areOppositeInfinities_X0_negated
theorem dX0_areOppositeInfinities_0 : decode cX0_areOppositeInfinities 0 = .ok (.aload_n 0, 1) := by decide +kernel
theorem dX0_areOppositeInfinities_1 : decode cX0_areOppositeInfinities 1 = .ok (.lload_n 1, 1) := by decide +kernel
theorem dX0_areOppositeInfinities_2 : decode cX0_areOppositeInfinities 2 = .ok (.invokevirtual 51, 3) := by decide +kernel
theorem dX0_areOppositeInfinities_5 : decode cX0_areOppositeInfinities 5 = .ok (.aload_n 0, 1) := by decide +kernel
theorem dX0_areOppositeInfinities_6 : decode cX0_areOppositeInfinities 6 = .ok (.getfield 48, 3) := by decide +kernel
theorem dX0_areOppositeInfinities_9 : decode cX0_areOppositeInfinities 9 = .ok (.lcmp, 1) := by decide +kernel
theorem dX0_areOppositeInfinities_10 : decode cX0_areOppositeInfinities 10 = .ok (.ifCond .ne 17, 3) := by decide +kernel
theorem dX0_areOppositeInfinities_13 : decode cX0_areOppositeInfinities 13 = .ok (.lload_n 3, 1) := by decide +kernel
theorem dX0_areOppositeInfinities_14 : decode cX0_areOppositeInfinities 14 = .ok (.aload_n 0, 1) := by decide +kernel
theorem dX0_areOppositeInfinities_15 : decode cX0_areOppositeInfinities 15 = .ok (.lload_n 1, 1) := by decide +kernel
theorem dX0_areOppositeInfinities_16 : decode cX0_areOppositeInfinities 16 = .ok (.invokevirtual 79, 3) := by decide +kernel
theorem dX0_areOppositeInfinities_19 : decode cX0_areOppositeInfinities 19 = .ok (.lcmp, 1) := by decide +kernel
theorem dX0_areOppositeInfinities_20 : decode cX0_areOppositeInfinities 20 = .ok (.ifCond .ne 7, 3) := by decide +kernel
theorem dX0_areOppositeInfinities_23 : decode cX0_areOppositeInfinities 23 = .ok (.iconst 1, 1) := by decide +kernel
theorem dX0_areOppositeInfinities_24 : decode cX0_areOppositeInfinities 24 = .ok (.goto 4, 3) := by decide +kernel
theorem dX0_areOppositeInfinities_27 : decode cX0_areOppositeInfinities 27 = .ok (.iconst 0, 1) := by decide +kernel
theorem dX0_areOppositeInfinities_28 : decode cX0_areOppositeInfinities 28 = .ok (.ireturn, 1) := by decide +kernel
set_option maxRecDepth 20000 in
theorem ggX0_sum_X0_sizeOf : GoodIn wsX0_sum wsX0_sizeOf := goodIn_r _ [5, 6, 7] (by decide +kernel) (by decide +kernel)
set_option maxRecDepth 20000 in
theorem gX0_sum_X0_sizeOf : GoodIn wsX0_sum (wsV RX0 51 RX0 yX0_sizeOf wsX0_sizeOf) := goodIn_app (goodIn_of _ (by decide +kernel)) ggX0_sum_X0_sizeOf
set_option maxRecDepth 20000 in
theorem ggX0_sum_X0_sumByLarger : GoodIn wsX0_sum wsX0_sumByLarger := goodIn_r _ [11, 12, 1, 2, 3, 4, 5, 6, 7, 13, 14, 15, 16, 17, 18, 19, 20, 21, 22, 23, 24, 25, 26, 27, 28, 29, 30, 31, 32, 33, 34, 35, 36, 37, 38, 39, 40, 41, 42, 43, 44, 45, 46] (by decide +kernel) (by decide +kernel)
set_option maxRecDepth 20000 in
theorem gX0_sum_X0_sumByLarger : GoodIn wsX0_sum (wsV RX0 82 RX0 yX0_sumByLarger wsX0_sumByLarger) := goodIn_app (goodIn_of _ (by decide +kernel)) ggX0_sum_X0_sumByLarger
theorem dX0_sum_0 : decode cX0_sum 0 = .ok (.aload_n 0, 1) := by decide +kernel
theorem dX0_sum_1 : decode cX0_sum 1 = .ok (.lload_n 1, 1) := by decide +kernel
theorem dX0_sum_2 : decode cX0_sum 2 = .ok (.invokevirtual 51, 3) := by decide +kernel
theorem dX0_sum_5 : decode cX0_sum 5 = .ok (.aload_n 0, 1) := by decide +kernel
theorem dX0_sum_6 : decode cX0_sum 6 = .ok (.lload_n 3, 1) := by decide +kernel
theorem dX0_sum_7 : decode cX0_sum 7 = .ok (.invokevirtual 51, 3) := by decide +kernel
theorem dX0_sum_10 : decode cX0_sum 10 = .ok (.lcmp, 1) := by decide +kernel
theorem dX0_sum_11 : decode cX0_sum 11 = .ok (.ifCond .ge 12, 3) := by decide +kernel
theorem dX0_sum_14 : decode cX0_sum 14 = .ok (.aload_n 0, 1) := by decide +kernel
theorem dX0_sum_15 : decode cX0_sum 15 = .ok (.lload_n 3, 1) := by decide +kernel
theorem dX0_sum_16 : decode cX0_sum 16 = .ok (.lload_n 1, 1) := by decide +kernel
theorem dX0_sum_17 : decode cX0_sum 17 = .ok (.invokevirtual 82, 3) := by decide +kernel
theorem dX0_sum_20 : decode cX0_sum 20 = .ok (.goto 9, 3) := by decide +kernel
theorem dX0_sum_23 : decode cX0_sum 23 = .ok (.aload_n 0, 1) := by decide +kernel
theorem dX0_sum_24 : decode cX0_sum 24 = .ok (.lload_n 1, 1) := by decide +kernel
theorem dX0_sum_25 : decode cX0_sum 25 = .ok (.lload_n 3, 1) := by decide +kernel
theorem dX0_sum_26 : decode cX0_sum 26 = .ok (.invokevirtual 82, 3) := by decide +kernel
theorem dX0_sum_29 : decode cX0_sum 29 = .ok (.lreturn, 1) := by decide +kernel
set_option maxRecDepth 20000 in
theorem ggX0_wholeOf_X0_sizeOf : GoodIn wsX0_wholeOf wsX0_sizeOf := goodIn_r _ [7, 8, 9] (by decide +kernel) (by decide +kernel)
set_option maxRecDepth 20000 in
theorem gX0_wholeOf_X0_sizeOf : GoodIn wsX0_wholeOf (wsV RX0 51 RX0 yX0_sizeOf wsX0_sizeOf) := goodIn_app (goodIn_of _ (by decide +kernel)) ggX0_wholeOf_X0_sizeOf
set_option maxRecDepth 20000 in
theorem ggX0_wholeOf_X0_exponentOf : GoodIn wsX0_wholeOf wsX0_exponentOf := goodIn_r _ [13, 2, 14, 15, 16, 17] (by decide +kernel) (by decide +kernel)
set_option maxRecDepth 20000 in
theorem gX0_wholeOf_X0_exponentOf : GoodIn wsX0_wholeOf (wsV RX0 55 RX0 yX0_exponentOf wsX0_exponentOf) := goodIn_app (goodIn_of _ (by decide +kernel)) ggX0_wholeOf_X0_exponentOf
set_option maxRecDepth 20000 in
theorem ggX0_wholeOf_X0_wholeOfPart : GoodIn wsX0_wholeOf wsX0_wholeOfPart := goodIn_r _ [21, 22, 23, 3, 4, 5, 6, 7, 8, 9, 24, 25, 26] (by decide +kernel) (by decide +kernel)
set_option maxRecDepth 20000 in
theorem gX0_wholeOf_X0_wholeOfPart : GoodIn wsX0_wholeOf (wsV RX0 85 RX0 yX0_wholeOfPart wsX0_wholeOfPart) := goodIn_app (goodIn_of _ (by decide +kernel)) ggX0_wholeOf_X0_wholeOfPart
set_option maxRecDepth 20000 in
theorem ggX0_wholeOf_X0_wholeOfMixed : GoodIn wsX0_wholeOf wsX0_wholeOfMixed := goodIn_r _ [30, 3, 4, 5, 6, 7, 8, 9, 31, 32, 33, 34, 23, 35, 36, 37, 24, 25, 26] (by decide +kernel) (by decide +kernel)
set_option maxRecDepth 20000 in
theorem gX0_wholeOf_X0_wholeOfMixed : GoodIn wsX0_wholeOf (wsV RX0 88 RX0 yX0_wholeOfMixed wsX0_wholeOfMixed) := goodIn_app (goodIn_of _ (by decide +kernel)) ggX0_wholeOf_X0_wholeOfMixed
set_option maxRecDepth 20000 in
theorem ggX0_wholeOf_X0_withSideOf : GoodIn wsX0_wholeOf wsX0_withSideOf := goodIn_r _ [41, 8, 3, 4, 5, 6, 7, 9] (by decide +kernel) (by decide +kernel)
set_option maxRecDepth 20000 in
theorem gX0_wholeOf_X0_withSideOf : GoodIn wsX0_wholeOf (wsV RX0 66 RX0 yX0_withSideOf wsX0_withSideOf) := goodIn_app (goodIn_of _ (by decide +kernel)) ggX0_wholeOf_X0_withSideOf
theorem dX0_wholeOf_0 : decode cX0_wholeOf 0 = .ok (.aload_n 0, 1) := by decide +kernel
theorem dX0_wholeOf_1 : decode cX0_wholeOf 1 = .ok (.lload_n 1, 1) := by decide +kernel
theorem dX0_wholeOf_2 : decode cX0_wholeOf 2 = .ok (.invokevirtual 51, 3) := by decide +kernel
theorem dX0_wholeOf_5 : decode cX0_wholeOf 5 = .ok (.lstore 4, 2) := by decide +kernel
theorem dX0_wholeOf_7 : decode cX0_wholeOf 7 = .ok (.aload_n 0, 1) := by decide +kernel
theorem dX0_wholeOf_8 : decode cX0_wholeOf 8 = .ok (.lload 4, 2) := by decide +kernel
theorem dX0_wholeOf_10 : decode cX0_wholeOf 10 = .ok (.invokevirtual 55, 3) := by decide +kernel
theorem dX0_wholeOf_13 : decode cX0_wholeOf 13 = .ok (.aload_n 0, 1) := by decide +kernel
theorem dX0_wholeOf_14 : decode cX0_wholeOf 14 = .ok (.getfield 33, 3) := by decide +kernel
theorem dX0_wholeOf_17 : decode cX0_wholeOf 17 = .ok (.isub, 1) := by decide +kernel
theorem dX0_wholeOf_18 : decode cX0_wholeOf 18 = .ok (.istore 6, 2) := by decide +kernel
theorem dX0_wholeOf_20 : decode cX0_wholeOf 20 = .ok (.lload 4, 2) := by decide +kernel
theorem dX0_wholeOf_22 : decode cX0_wholeOf 22 = .ok (.lconst 0, 1) := by decide +kernel
theorem dX0_wholeOf_23 : decode cX0_wholeOf 23 = .ok (.lcmp, 1) := by decide +kernel
theorem dX0_wholeOf_24 : decode cX0_wholeOf 24 = .ok (.ifCond .eq 12, 3) := by decide +kernel
theorem dX0_wholeOf_27 : decode cX0_wholeOf 27 = .ok (.iload 6, 2) := by decide +kernel
theorem dX0_wholeOf_29 : decode cX0_wholeOf 29 = .ok (.aload_n 0, 1) := by decide +kernel
theorem dX0_wholeOf_30 : decode cX0_wholeOf 30 = .ok (.getfield 29, 3) := by decide +kernel
theorem dX0_wholeOf_33 : decode cX0_wholeOf 33 = .ok (.if_icmp .lt 5, 3) := by decide +kernel
theorem dX0_wholeOf_36 : decode cX0_wholeOf 36 = .ok (.lload_n 1, 1) := by decide +kernel
theorem dX0_wholeOf_37 : decode cX0_wholeOf 37 = .ok (.lreturn, 1) := by decide +kernel
theorem dX0_wholeOf_38 : decode cX0_wholeOf 38 = .ok (.iload 6, 2) := by decide +kernel
theorem dX0_wholeOf_40 : decode cX0_wholeOf 40 = .ok (.ifCond .ge 12, 3) := by decide +kernel
theorem dX0_wholeOf_43 : decode cX0_wholeOf 43 = .ok (.aload_n 0, 1) := by decide +kernel
theorem dX0_wholeOf_44 : decode cX0_wholeOf 44 = .ok (.lload_n 1, 1) := by decide +kernel
theorem dX0_wholeOf_45 : decode cX0_wholeOf 45 = .ok (.iload_n 3, 1) := by decide +kernel
theorem dX0_wholeOf_46 : decode cX0_wholeOf 46 = .ok (.invokevirtual 85, 3) := by decide +kernel
theorem dX0_wholeOf_49 : decode cX0_wholeOf 49 = .ok (.goto 16, 3) := by decide +kernel
theorem dX0_wholeOf_52 : decode cX0_wholeOf 52 = .ok (.aload_n 0, 1) := by decide +kernel
theorem dX0_wholeOf_53 : decode cX0_wholeOf 53 = .ok (.lload_n 1, 1) := by decide +kernel
theorem dX0_wholeOf_54 : decode cX0_wholeOf 54 = .ok (.iload_n 3, 1) := by decide +kernel
theorem dX0_wholeOf_55 : decode cX0_wholeOf 55 = .ok (.aload_n 0, 1) := by decide +kernel
theorem dX0_wholeOf_56 : decode cX0_wholeOf 56 = .ok (.getfield 29, 3) := by decide +kernel
theorem dX0_wholeOf_59 : decode cX0_wholeOf 59 = .ok (.iload 6, 2) := by decide +kernel
theorem dX0_wholeOf_61 : decode cX0_wholeOf 61 = .ok (.isub, 1) := by decide +kernel
theorem dX0_wholeOf_62 : decode cX0_wholeOf 62 = .ok (.invokevirtual 88, 3) := by decide +kernel
theorem dX0_wholeOf_65 : decode cX0_wholeOf 65 = .ok (.lstore 7, 2) := by decide +kernel
theorem dX0_wholeOf_67 : decode cX0_wholeOf 67 = .ok (.aload_n 0, 1) := by decide +kernel
theorem dX0_wholeOf_68 : decode cX0_wholeOf 68 = .ok (.lload 7, 2) := by decide +kernel
theorem dX0_wholeOf_70 : decode cX0_wholeOf 70 = .ok (.lload_n 1, 1) := by decide +kernel
theorem dX0_wholeOf_71 : decode cX0_wholeOf 71 = .ok (.invokevirtual 66, 3) := by decide +kernel
theorem dX0_wholeOf_74 : decode cX0_wholeOf 74 = .ok (.lreturn, 1) := by decide +kernel
theorem dX0_rankOf_0 : decode cX0_rankOf 0 = .ok (.lload_n 1, 1) := by decide +kernel
theorem dX0_rankOf_1 : decode cX0_rankOf 1 = .ok (.lconst 0, 1) := by decide +kernel
theorem dX0_rankOf_2 : decode cX0_rankOf 2 = .ok (.lcmp, 1) := by decide +kernel
theorem dX0_rankOf_3 : decode cX0_rankOf 3 = .ok (.ifCond .ge 16, 3) := by decide +kernel
theorem dX0_rankOf_6 : decode cX0_rankOf 6 = .ok (.lload_n 1, 1) := by decide +kernel
theorem dX0_rankOf_7 : decode cX0_rankOf 7 = .ok (.aload_n 0, 1) := by decide +kernel
theorem dX0_rankOf_8 : decode cX0_rankOf 8 = .ok (.getfield 36, 3) := by decide +kernel
theorem dX0_rankOf_11 : decode cX0_rankOf 11 = .ok (.ldc2_w 70, 3) := by decide +kernel
theorem dX0_rankOf_14 : decode cX0_rankOf 14 = .ok (.lxor, 1) := by decide +kernel
theorem dX0_rankOf_15 : decode cX0_rankOf 15 = .ok (.lxor, 1) := by decide +kernel
theorem dX0_rankOf_16 : decode cX0_rankOf 16 = .ok (.goto 4, 3) := by decide +kernel
theorem dX0_rankOf_19 : decode cX0_rankOf 19 = .ok (.lload_n 1, 1) := by decide +kernel
theorem dX0_rankOf_20 : decode cX0_rankOf 20 = .ok (.lreturn, 1) := by decide +kernel
theorem dX0_exponentOf_0 : decode cX0_exponentOf 0 = .ok (.iconst 1, 1) := by decide +kernel
theorem dX0_exponentOf_1 : decode cX0_exponentOf 1 = .ok (.lload_n 1, 1) := by decide +kernel
theorem dX0_exponentOf_2 : decode cX0_exponentOf 2 = .ok (.aload_n 0, 1) := by decide +kernel
theorem dX0_exponentOf_3 : decode cX0_exponentOf 3 = .ok (.getfield 29, 3) := by decide +kernel
theorem dX0_exponentOf_6 : decode cX0_exponentOf 6 = .ok (.lshr, 1) := by decide +kernel
theorem dX0_exponentOf_7 : decode cX0_exponentOf 7 = .ok (.l2i, 1) := by decide +kernel
theorem dX0_exponentOf_8 : decode cX0_exponentOf 8 = .ok (.invokestatic 92, 3) := by decide +kernel
theorem dX0_exponentOf_11 : decode cX0_exponentOf 11 = .ok (.ireturn, 1) := by decide +kernel
theorem dX0_significandOf_0 : decode cX0_significandOf 0 = .ok (.lload_n 1, 1) := by decide +kernel
theorem dX0_significandOf_1 : decode cX0_significandOf 1 = .ok (.aload_n 0, 1) := by decide +kernel
theorem dX0_significandOf_2 : decode cX0_significandOf 2 = .ok (.getfield 40, 3) := by decide +kernel
theorem dX0_significandOf_5 : decode cX0_significandOf 5 = .ok (.lconst 1, 1) := by decide +kernel
theorem dX0_significandOf_6 : decode cX0_significandOf 6 = .ok (.lsub, 1) := by decide +kernel
theorem dX0_significandOf_7 : decode cX0_significandOf 7 = .ok (.land, 1) := by decide +kernel
theorem dX0_significandOf_8 : decode cX0_significandOf 8 = .ok (.lstore_n 3, 1) := by decide +kernel
theorem dX0_significandOf_9 : decode cX0_significandOf 9 = .ok (.lload_n 1, 1) := by decide +kernel
theorem dX0_significandOf_10 : decode cX0_significandOf 10 = .ok (.aload_n 0, 1) := by decide +kernel
theorem dX0_significandOf_11 : decode cX0_significandOf 11 = .ok (.getfield 40, 3) := by decide +kernel
theorem dX0_significandOf_14 : decode cX0_significandOf 14 = .ok (.lcmp, 1) := by decide +kernel
theorem dX0_significandOf_15 : decode cX0_significandOf 15 = .ok (.ifCond .ge 7, 3) := by decide +kernel
theorem dX0_significandOf_18 : decode cX0_significandOf 18 = .ok (.lload_n 3, 1) := by decide +kernel
theorem dX0_significandOf_19 : decode cX0_significandOf 19 = .ok (.goto 9, 3) := by decide +kernel
theorem dX0_significandOf_22 : decode cX0_significandOf 22 = .ok (.lload_n 3, 1) := by decide +kernel
theorem dX0_significandOf_23 : decode cX0_significandOf 23 = .ok (.aload_n 0, 1) := by decide +kernel
theorem dX0_significandOf_24 : decode cX0_significandOf 24 = .ok (.getfield 40, 3) := by decide +kernel
theorem dX0_significandOf_27 : decode cX0_significandOf 27 = .ok (.lor, 1) := by decide +kernel
theorem dX0_significandOf_28 : decode cX0_significandOf 28 = .ok (.lreturn, 1) := by decide +kernel
set_option maxRecDepth 20000 in
theorem ggX0_sumByLarger_X0_sizeOf : GoodIn wsX0_sumByLarger wsX0_sizeOf := goodIn_r _ [6, 7, 8] (by decide +kernel) (by decide +kernel)
set_option maxRecDepth 20000 in
theorem gX0_sumByLarger_X0_sizeOf : GoodIn wsX0_sumByLarger (wsV RX0 51 RX0 yX0_sizeOf wsX0_sizeOf) := goodIn_app (goodIn_of _ (by decide +kernel)) ggX0_sumByLarger_X0_sizeOf
set_option maxRecDepth 20000 in
theorem ggX0_sumByLarger_X0_exponentOf : GoodIn wsX0_sumByLarger wsX0_exponentOf := goodIn_r _ [12, 13, 14, 15, 16, 17] (by decide +kernel) (by decide +kernel)
set_option maxRecDepth 20000 in
theorem gX0_sumByLarger_X0_exponentOf : GoodIn wsX0_sumByLarger (wsV RX0 55 RX0 yX0_exponentOf wsX0_exponentOf) := goodIn_app (goodIn_of _ (by decide +kernel)) ggX0_sumByLarger_X0_exponentOf
set_option maxRecDepth 20000 in
theorem ggX0_sumByLarger_X0_significandOf : GoodIn wsX0_sumByLarger wsX0_significandOf := goodIn_r _ [21, 22] (by decide +kernel) (by decide +kernel)
set_option maxRecDepth 20000 in
theorem gX0_sumByLarger_X0_significandOf : GoodIn wsX0_sumByLarger (wsV RX0 59 RX0 yX0_significandOf wsX0_significandOf) := goodIn_app (goodIn_of _ (by decide +kernel)) ggX0_sumByLarger_X0_significandOf
set_option maxRecDepth 20000 in
theorem ggX0_sumByLarger_X0_shiftedDown : GoodIn wsX0_sumByLarger wsX0_shiftedDown := goodIn_r _ [25] (by decide +kernel) (by decide +kernel)
set_option maxRecDepth 20000 in
theorem gX0_sumByLarger_X0_shiftedDown : GoodIn wsX0_sumByLarger (va_wsS RX0 98 yX0_shiftedDown wsX0_shiftedDown) := goodIn_app (goodIn_of _ (by decide +kernel)) ggX0_sumByLarger_X0_shiftedDown
set_option maxRecDepth 20000 in
theorem ggX0_sumByLarger_X0_sizeFrom : GoodIn wsX0_sumByLarger wsX0_sizeFrom := goodIn_r _ [29, 22, 30, 1, 13, 23, 24, 5, 25, 31, 32, 33, 34, 35, 36, 37, 38] (by decide +kernel) (by decide +kernel)
set_option maxRecDepth 20000 in
theorem gX0_sumByLarger_X0_sizeFrom : GoodIn wsX0_sumByLarger (wsV RX0 62 RX0 yX0_sizeFrom wsX0_sizeFrom) := goodIn_app (goodIn_of _ (by decide +kernel)) ggX0_sumByLarger_X0_sizeFrom
set_option maxRecDepth 20000 in
theorem ggX0_sumByLarger_X0_withSideOf : GoodIn wsX0_sumByLarger wsX0_withSideOf := goodIn_r _ [42, 7, 2, 3, 4, 5, 6, 8] (by decide +kernel) (by decide +kernel)
set_option maxRecDepth 20000 in
theorem gX0_sumByLarger_X0_withSideOf : GoodIn wsX0_sumByLarger (wsV RX0 66 RX0 yX0_withSideOf wsX0_withSideOf) := goodIn_app (goodIn_of _ (by decide +kernel)) ggX0_sumByLarger_X0_withSideOf
theorem dX0_sumByLarger_0 : decode cX0_sumByLarger 0 = .ok (.aload_n 0, 1) := by decide +kernel
theorem dX0_sumByLarger_1 : decode cX0_sumByLarger 1 = .ok (.lload_n 1, 1) := by decide +kernel
theorem dX0_sumByLarger_2 : decode cX0_sumByLarger 2 = .ok (.invokevirtual 51, 3) := by decide +kernel
theorem dX0_sumByLarger_5 : decode cX0_sumByLarger 5 = .ok (.lstore 5, 2) := by decide +kernel
theorem dX0_sumByLarger_7 : decode cX0_sumByLarger 7 = .ok (.lload 5, 2) := by decide +kernel
theorem dX0_sumByLarger_9 : decode cX0_sumByLarger 9 = .ok (.aload_n 0, 1) := by decide +kernel
theorem dX0_sumByLarger_10 : decode cX0_sumByLarger 10 = .ok (.getfield 48, 3) := by decide +kernel
theorem dX0_sumByLarger_13 : decode cX0_sumByLarger 13 = .ok (.lcmp, 1) := by decide +kernel
theorem dX0_sumByLarger_14 : decode cX0_sumByLarger 14 = .ok (.ifCond .ne 5, 3) := by decide +kernel
theorem dX0_sumByLarger_17 : decode cX0_sumByLarger 17 = .ok (.lload_n 1, 1) := by decide +kernel
theorem dX0_sumByLarger_18 : decode cX0_sumByLarger 18 = .ok (.lreturn, 1) := by decide +kernel
theorem dX0_sumByLarger_19 : decode cX0_sumByLarger 19 = .ok (.aload_n 0, 1) := by decide +kernel
theorem dX0_sumByLarger_20 : decode cX0_sumByLarger 20 = .ok (.lload_n 3, 1) := by decide +kernel
theorem dX0_sumByLarger_21 : decode cX0_sumByLarger 21 = .ok (.invokevirtual 51, 3) := by decide +kernel
theorem dX0_sumByLarger_24 : decode cX0_sumByLarger 24 = .ok (.lstore 7, 2) := by decide +kernel
theorem dX0_sumByLarger_26 : decode cX0_sumByLarger 26 = .ok (.aload_n 0, 1) := by decide +kernel
theorem dX0_sumByLarger_27 : decode cX0_sumByLarger 27 = .ok (.lload 5, 2) := by decide +kernel
theorem dX0_sumByLarger_29 : decode cX0_sumByLarger 29 = .ok (.invokevirtual 55, 3) := by decide +kernel
theorem dX0_sumByLarger_32 : decode cX0_sumByLarger 32 = .ok (.istore 9, 2) := by decide +kernel
theorem dX0_sumByLarger_34 : decode cX0_sumByLarger 34 = .ok (.aload_n 0, 1) := by decide +kernel
theorem dX0_sumByLarger_35 : decode cX0_sumByLarger 35 = .ok (.lload 5, 2) := by decide +kernel
theorem dX0_sumByLarger_37 : decode cX0_sumByLarger 37 = .ok (.invokevirtual 59, 3) := by decide +kernel
theorem dX0_sumByLarger_40 : decode cX0_sumByLarger 40 = .ok (.iconst 3, 1) := by decide +kernel
theorem dX0_sumByLarger_41 : decode cX0_sumByLarger 41 = .ok (.lshl, 1) := by decide +kernel
theorem dX0_sumByLarger_42 : decode cX0_sumByLarger 42 = .ok (.lstore 10, 2) := by decide +kernel
theorem dX0_sumByLarger_44 : decode cX0_sumByLarger 44 = .ok (.aload_n 0, 1) := by decide +kernel
theorem dX0_sumByLarger_45 : decode cX0_sumByLarger 45 = .ok (.lload 7, 2) := by decide +kernel
theorem dX0_sumByLarger_47 : decode cX0_sumByLarger 47 = .ok (.invokevirtual 59, 3) := by decide +kernel
theorem dX0_sumByLarger_50 : decode cX0_sumByLarger 50 = .ok (.iconst 3, 1) := by decide +kernel
theorem dX0_sumByLarger_51 : decode cX0_sumByLarger 51 = .ok (.lshl, 1) := by decide +kernel
theorem dX0_sumByLarger_52 : decode cX0_sumByLarger 52 = .ok (.iload 9, 2) := by decide +kernel
theorem dX0_sumByLarger_54 : decode cX0_sumByLarger 54 = .ok (.aload_n 0, 1) := by decide +kernel
theorem dX0_sumByLarger_55 : decode cX0_sumByLarger 55 = .ok (.lload 7, 2) := by decide +kernel
theorem dX0_sumByLarger_57 : decode cX0_sumByLarger 57 = .ok (.invokevirtual 55, 3) := by decide +kernel
theorem dX0_sumByLarger_60 : decode cX0_sumByLarger 60 = .ok (.isub, 1) := by decide +kernel
theorem dX0_sumByLarger_61 : decode cX0_sumByLarger 61 = .ok (.invokestatic 98, 3) := by decide +kernel
theorem dX0_sumByLarger_64 : decode cX0_sumByLarger 64 = .ok (.lstore 12, 2) := by decide +kernel
theorem dX0_sumByLarger_66 : decode cX0_sumByLarger 66 = .ok (.lload_n 1, 1) := by decide +kernel
theorem dX0_sumByLarger_67 : decode cX0_sumByLarger 67 = .ok (.lconst 0, 1) := by decide +kernel
theorem dX0_sumByLarger_68 : decode cX0_sumByLarger 68 = .ok (.lcmp, 1) := by decide +kernel
theorem dX0_sumByLarger_69 : decode cX0_sumByLarger 69 = .ok (.ifCond .ge 7, 3) := by decide +kernel
theorem dX0_sumByLarger_72 : decode cX0_sumByLarger 72 = .ok (.iconst 1, 1) := by decide +kernel
theorem dX0_sumByLarger_73 : decode cX0_sumByLarger 73 = .ok (.goto 4, 3) := by decide +kernel
theorem dX0_sumByLarger_76 : decode cX0_sumByLarger 76 = .ok (.iconst 0, 1) := by decide +kernel
theorem dX0_sumByLarger_77 : decode cX0_sumByLarger 77 = .ok (.lload_n 3, 1) := by decide +kernel
theorem dX0_sumByLarger_78 : decode cX0_sumByLarger 78 = .ok (.lconst 0, 1) := by decide +kernel
theorem dX0_sumByLarger_79 : decode cX0_sumByLarger 79 = .ok (.lcmp, 1) := by decide +kernel
theorem dX0_sumByLarger_80 : decode cX0_sumByLarger 80 = .ok (.ifCond .ge 7, 3) := by decide +kernel
theorem dX0_sumByLarger_83 : decode cX0_sumByLarger 83 = .ok (.iconst 1, 1) := by decide +kernel
theorem dX0_sumByLarger_84 : decode cX0_sumByLarger 84 = .ok (.goto 4, 3) := by decide +kernel
theorem dX0_sumByLarger_87 : decode cX0_sumByLarger 87 = .ok (.iconst 0, 1) := by decide +kernel
theorem dX0_sumByLarger_88 : decode cX0_sumByLarger 88 = .ok (.if_icmp .ne 7, 3) := by decide +kernel
theorem dX0_sumByLarger_91 : decode cX0_sumByLarger 91 = .ok (.iconst 1, 1) := by decide +kernel
theorem dX0_sumByLarger_92 : decode cX0_sumByLarger 92 = .ok (.goto 4, 3) := by decide +kernel
theorem dX0_sumByLarger_95 : decode cX0_sumByLarger 95 = .ok (.iconst 0, 1) := by decide +kernel
theorem dX0_sumByLarger_96 : decode cX0_sumByLarger 96 = .ok (.istore 14, 2) := by decide +kernel
theorem dX0_sumByLarger_98 : decode cX0_sumByLarger 98 = .ok (.iload 14, 2) := by decide +kernel
theorem dX0_sumByLarger_100 : decode cX0_sumByLarger 100 = .ok (.ifCond .eq 11, 3) := by decide +kernel
theorem dX0_sumByLarger_103 : decode cX0_sumByLarger 103 = .ok (.lload 10, 2) := by decide +kernel
theorem dX0_sumByLarger_105 : decode cX0_sumByLarger 105 = .ok (.lload 12, 2) := by decide +kernel
theorem dX0_sumByLarger_107 : decode cX0_sumByLarger 107 = .ok (.ladd, 1) := by decide +kernel
theorem dX0_sumByLarger_108 : decode cX0_sumByLarger 108 = .ok (.goto 8, 3) := by decide +kernel
theorem dX0_sumByLarger_111 : decode cX0_sumByLarger 111 = .ok (.lload 10, 2) := by decide +kernel
theorem dX0_sumByLarger_113 : decode cX0_sumByLarger 113 = .ok (.lload 12, 2) := by decide +kernel
theorem dX0_sumByLarger_115 : decode cX0_sumByLarger 115 = .ok (.lsub, 1) := by decide +kernel
theorem dX0_sumByLarger_116 : decode cX0_sumByLarger 116 = .ok (.lstore 15, 2) := by decide +kernel
theorem dX0_sumByLarger_118 : decode cX0_sumByLarger 118 = .ok (.lload 15, 2) := by decide +kernel
theorem dX0_sumByLarger_120 : decode cX0_sumByLarger 120 = .ok (.lconst 0, 1) := by decide +kernel
theorem dX0_sumByLarger_121 : decode cX0_sumByLarger 121 = .ok (.lcmp, 1) := by decide +kernel
theorem dX0_sumByLarger_122 : decode cX0_sumByLarger 122 = .ok (.ifCond .ne 14, 3) := by decide +kernel
theorem dX0_sumByLarger_125 : decode cX0_sumByLarger 125 = .ok (.iload 14, 2) := by decide +kernel
theorem dX0_sumByLarger_127 : decode cX0_sumByLarger 127 = .ok (.ifCond .eq 7, 3) := by decide +kernel
theorem dX0_sumByLarger_130 : decode cX0_sumByLarger 130 = .ok (.lload_n 1, 1) := by decide +kernel
theorem dX0_sumByLarger_131 : decode cX0_sumByLarger 131 = .ok (.goto 4, 3) := by decide +kernel
theorem dX0_sumByLarger_134 : decode cX0_sumByLarger 134 = .ok (.lconst 0, 1) := by decide +kernel
theorem dX0_sumByLarger_135 : decode cX0_sumByLarger 135 = .ok (.lreturn, 1) := by decide +kernel
theorem dX0_sumByLarger_136 : decode cX0_sumByLarger 136 = .ok (.aload_n 0, 1) := by decide +kernel
theorem dX0_sumByLarger_137 : decode cX0_sumByLarger 137 = .ok (.aload_n 0, 1) := by decide +kernel
theorem dX0_sumByLarger_138 : decode cX0_sumByLarger 138 = .ok (.lload 15, 2) := by decide +kernel
theorem dX0_sumByLarger_140 : decode cX0_sumByLarger 140 = .ok (.iload 9, 2) := by decide +kernel
theorem dX0_sumByLarger_142 : decode cX0_sumByLarger 142 = .ok (.invokevirtual 62, 3) := by decide +kernel
theorem dX0_sumByLarger_145 : decode cX0_sumByLarger 145 = .ok (.lload_n 1, 1) := by decide +kernel
theorem dX0_sumByLarger_146 : decode cX0_sumByLarger 146 = .ok (.invokevirtual 66, 3) := by decide +kernel
theorem dX0_sumByLarger_149 : decode cX0_sumByLarger 149 = .ok (.lreturn, 1) := by decide +kernel
theorem dX0_shiftedDown_0 : decode cX0_shiftedDown 0 = .ok (.iload_n 2, 1) := by decide +kernel
theorem dX0_shiftedDown_1 : decode cX0_shiftedDown 1 = .ok (.bipush 64, 2) := by decide +kernel
theorem dX0_shiftedDown_3 : decode cX0_shiftedDown 3 = .ok (.if_icmp .lt 15, 3) := by decide +kernel
theorem dX0_shiftedDown_6 : decode cX0_shiftedDown 6 = .ok (.lload_n 0, 1) := by decide +kernel
theorem dX0_shiftedDown_7 : decode cX0_shiftedDown 7 = .ok (.lconst 0, 1) := by decide +kernel
theorem dX0_shiftedDown_8 : decode cX0_shiftedDown 8 = .ok (.lcmp, 1) := by decide +kernel
theorem dX0_shiftedDown_9 : decode cX0_shiftedDown 9 = .ok (.ifCond .ne 7, 3) := by decide +kernel
theorem dX0_shiftedDown_12 : decode cX0_shiftedDown 12 = .ok (.lconst 0, 1) := by decide +kernel
theorem dX0_shiftedDown_13 : decode cX0_shiftedDown 13 = .ok (.goto 4, 3) := by decide +kernel
theorem dX0_shiftedDown_16 : decode cX0_shiftedDown 16 = .ok (.lconst 1, 1) := by decide +kernel
theorem dX0_shiftedDown_17 : decode cX0_shiftedDown 17 = .ok (.lreturn, 1) := by decide +kernel
theorem dX0_shiftedDown_18 : decode cX0_shiftedDown 18 = .ok (.lload_n 0, 1) := by decide +kernel
theorem dX0_shiftedDown_19 : decode cX0_shiftedDown 19 = .ok (.iload_n 2, 1) := by decide +kernel
theorem dX0_shiftedDown_20 : decode cX0_shiftedDown 20 = .ok (.lshr, 1) := by decide +kernel
theorem dX0_shiftedDown_21 : decode cX0_shiftedDown 21 = .ok (.lstore_n 3, 1) := by decide +kernel
theorem dX0_shiftedDown_22 : decode cX0_shiftedDown 22 = .ok (.lload_n 3, 1) := by decide +kernel
theorem dX0_shiftedDown_23 : decode cX0_shiftedDown 23 = .ok (.iload_n 2, 1) := by decide +kernel
theorem dX0_shiftedDown_24 : decode cX0_shiftedDown 24 = .ok (.lshl, 1) := by decide +kernel
theorem dX0_shiftedDown_25 : decode cX0_shiftedDown 25 = .ok (.lload_n 0, 1) := by decide +kernel
theorem dX0_shiftedDown_26 : decode cX0_shiftedDown 26 = .ok (.lcmp, 1) := by decide +kernel
theorem dX0_shiftedDown_27 : decode cX0_shiftedDown 27 = .ok (.ifCond .ne 7, 3) := by decide +kernel
theorem dX0_shiftedDown_30 : decode cX0_shiftedDown 30 = .ok (.lload_n 3, 1) := by decide +kernel
theorem dX0_shiftedDown_31 : decode cX0_shiftedDown 31 = .ok (.goto 6, 3) := by decide +kernel
theorem dX0_shiftedDown_34 : decode cX0_shiftedDown 34 = .ok (.lload_n 3, 1) := by decide +kernel
theorem dX0_shiftedDown_35 : decode cX0_shiftedDown 35 = .ok (.lconst 1, 1) := by decide +kernel
theorem dX0_shiftedDown_36 : decode cX0_shiftedDown 36 = .ok (.lor, 1) := by decide +kernel
theorem dX0_shiftedDown_37 : decode cX0_shiftedDown 37 = .ok (.lreturn, 1) := by decide +kernel
set_option maxRecDepth 20000 in
theorem ggX0_sizeFrom_X0_shiftedDown : GoodIn wsX0_sizeFrom wsX0_shiftedDown := goodIn_r _ [8] (by decide +kernel) (by decide +kernel)
set_option maxRecDepth 20000 in
theorem gX0_sizeFrom_X0_shiftedDown : GoodIn wsX0_sizeFrom (va_wsS RX0 98 yX0_shiftedDown wsX0_shiftedDown) := goodIn_app (goodIn_of _ (by decide +kernel)) ggX0_sizeFrom_X0_shiftedDown
set_option maxRecDepth 20000 in
theorem ggX0_sizeFrom_X0_roundedOff : GoodIn wsX0_sizeFrom wsX0_roundedOff := goodIn_r _ [11, 12, 13, 14, 15, 7, 16] (by decide +kernel) (by decide +kernel)
set_option maxRecDepth 20000 in
theorem gX0_sizeFrom_X0_roundedOff : GoodIn wsX0_sizeFrom (va_wsS RX0 101 yX0_roundedOff wsX0_roundedOff) := goodIn_app (goodIn_of _ (by decide +kernel)) ggX0_sizeFrom_X0_roundedOff
theorem dX0_sizeFrom_0 : decode cX0_sizeFrom 0 = .ok (.aload_n 0, 1) := by decide +kernel
theorem dX0_sizeFrom_1 : decode cX0_sizeFrom 1 = .ok (.getfield 40, 3) := by decide +kernel
theorem dX0_sizeFrom_4 : decode cX0_sizeFrom 4 = .ok (.iconst 3, 1) := by decide +kernel
theorem dX0_sizeFrom_5 : decode cX0_sizeFrom 5 = .ok (.lshl, 1) := by decide +kernel
theorem dX0_sizeFrom_6 : decode cX0_sizeFrom 6 = .ok (.lstore 4, 2) := by decide +kernel
theorem dX0_sizeFrom_8 : decode cX0_sizeFrom 8 = .ok (.lload_n 1, 1) := by decide +kernel
theorem dX0_sizeFrom_9 : decode cX0_sizeFrom 9 = .ok (.lstore 6, 2) := by decide +kernel
theorem dX0_sizeFrom_11 : decode cX0_sizeFrom 11 = .ok (.iload_n 3, 1) := by decide +kernel
theorem dX0_sizeFrom_12 : decode cX0_sizeFrom 12 = .ok (.istore 8, 2) := by decide +kernel
theorem dX0_sizeFrom_14 : decode cX0_sizeFrom 14 = .ok (.lload 6, 2) := by decide +kernel
theorem dX0_sizeFrom_16 : decode cX0_sizeFrom 16 = .ok (.lload 4, 2) := by decide +kernel
theorem dX0_sizeFrom_18 : decode cX0_sizeFrom 18 = .ok (.iconst 1, 1) := by decide +kernel
theorem dX0_sizeFrom_19 : decode cX0_sizeFrom 19 = .ok (.lshl, 1) := by decide +kernel
theorem dX0_sizeFrom_20 : decode cX0_sizeFrom 20 = .ok (.lcmp, 1) := by decide +kernel
theorem dX0_sizeFrom_21 : decode cX0_sizeFrom 21 = .ok (.ifCond .lt 14, 3) := by decide +kernel
theorem dX0_sizeFrom_24 : decode cX0_sizeFrom 24 = .ok (.lload 6, 2) := by decide +kernel
theorem dX0_sizeFrom_26 : decode cX0_sizeFrom 26 = .ok (.iconst 1, 1) := by decide +kernel
theorem dX0_sizeFrom_27 : decode cX0_sizeFrom 27 = .ok (.invokestatic 98, 3) := by decide +kernel
theorem dX0_sizeFrom_30 : decode cX0_sizeFrom 30 = .ok (.lstore 6, 2) := by decide +kernel
theorem dX0_sizeFrom_32 : decode cX0_sizeFrom 32 = .ok (.iinc 8 1, 3) := by decide +kernel
theorem dX0_sizeFrom_35 : decode cX0_sizeFrom 35 = .ok (.iconst 0, 1) := by decide +kernel
theorem dX0_sizeFrom_36 : decode cX0_sizeFrom 36 = .ok (.istore 9, 2) := by decide +kernel
theorem dX0_sizeFrom_38 : decode cX0_sizeFrom 38 = .ok (.iload 9, 2) := by decide +kernel
theorem dX0_sizeFrom_40 : decode cX0_sizeFrom 40 = .ok (.bipush 64, 2) := by decide +kernel
theorem dX0_sizeFrom_42 : decode cX0_sizeFrom 42 = .ok (.if_icmp .ge 32, 3) := by decide +kernel
theorem dX0_sizeFrom_45 : decode cX0_sizeFrom 45 = .ok (.lload 6, 2) := by decide +kernel
theorem dX0_sizeFrom_47 : decode cX0_sizeFrom 47 = .ok (.lload 4, 2) := by decide +kernel
theorem dX0_sizeFrom_49 : decode cX0_sizeFrom 49 = .ok (.lcmp, 1) := by decide +kernel
theorem dX0_sizeFrom_50 : decode cX0_sizeFrom 50 = .ok (.ifCond .ge 24, 3) := by decide +kernel
theorem dX0_sizeFrom_53 : decode cX0_sizeFrom 53 = .ok (.iload 8, 2) := by decide +kernel
theorem dX0_sizeFrom_55 : decode cX0_sizeFrom 55 = .ok (.iconst 1, 1) := by decide +kernel
theorem dX0_sizeFrom_56 : decode cX0_sizeFrom 56 = .ok (.if_icmp .le 18, 3) := by decide +kernel
theorem dX0_sizeFrom_59 : decode cX0_sizeFrom 59 = .ok (.lload 6, 2) := by decide +kernel
theorem dX0_sizeFrom_61 : decode cX0_sizeFrom 61 = .ok (.iconst 1, 1) := by decide +kernel
theorem dX0_sizeFrom_62 : decode cX0_sizeFrom 62 = .ok (.lshl, 1) := by decide +kernel
theorem dX0_sizeFrom_63 : decode cX0_sizeFrom 63 = .ok (.lstore 6, 2) := by decide +kernel
theorem dX0_sizeFrom_65 : decode cX0_sizeFrom 65 = .ok (.iinc 8 (-1), 3) := by decide +kernel
theorem dX0_sizeFrom_68 : decode cX0_sizeFrom 68 = .ok (.iinc 9 1, 3) := by decide +kernel
theorem dX0_sizeFrom_71 : decode cX0_sizeFrom 71 = .ok (.goto (-33), 3) := by decide +kernel
theorem dX0_sizeFrom_74 : decode cX0_sizeFrom 74 = .ok (.iload 8, 2) := by decide +kernel
theorem dX0_sizeFrom_76 : decode cX0_sizeFrom 76 = .ok (.iconst 2, 1) := by decide +kernel
theorem dX0_sizeFrom_77 : decode cX0_sizeFrom 77 = .ok (.aload_n 0, 1) := by decide +kernel
theorem dX0_sizeFrom_78 : decode cX0_sizeFrom 78 = .ok (.getfield 33, 3) := by decide +kernel
theorem dX0_sizeFrom_81 : decode cX0_sizeFrom 81 = .ok (.imul, 1) := by decide +kernel
theorem dX0_sizeFrom_82 : decode cX0_sizeFrom 82 = .ok (.if_icmp .le 8, 3) := by decide +kernel
theorem dX0_sizeFrom_85 : decode cX0_sizeFrom 85 = .ok (.aload_n 0, 1) := by decide +kernel
theorem dX0_sizeFrom_86 : decode cX0_sizeFrom 86 = .ok (.getfield 48, 3) := by decide +kernel
theorem dX0_sizeFrom_89 : decode cX0_sizeFrom 89 = .ok (.lreturn, 1) := by decide +kernel
theorem dX0_sizeFrom_90 : decode cX0_sizeFrom 90 = .ok (.iload 8, 2) := by decide +kernel
theorem dX0_sizeFrom_92 : decode cX0_sizeFrom 92 = .ok (.i2l, 1) := by decide +kernel
theorem dX0_sizeFrom_93 : decode cX0_sizeFrom 93 = .ok (.lconst 1, 1) := by decide +kernel
theorem dX0_sizeFrom_94 : decode cX0_sizeFrom 94 = .ok (.lsub, 1) := by decide +kernel
theorem dX0_sizeFrom_95 : decode cX0_sizeFrom 95 = .ok (.aload_n 0, 1) := by decide +kernel
theorem dX0_sizeFrom_96 : decode cX0_sizeFrom 96 = .ok (.getfield 29, 3) := by decide +kernel
theorem dX0_sizeFrom_99 : decode cX0_sizeFrom 99 = .ok (.lshl, 1) := by decide +kernel
theorem dX0_sizeFrom_100 : decode cX0_sizeFrom 100 = .ok (.lload 6, 2) := by decide +kernel
theorem dX0_sizeFrom_102 : decode cX0_sizeFrom 102 = .ok (.invokestatic 101, 3) := by decide +kernel
theorem dX0_sizeFrom_105 : decode cX0_sizeFrom 105 = .ok (.ladd, 1) := by decide +kernel
theorem dX0_sizeFrom_106 : decode cX0_sizeFrom 106 = .ok (.lreturn, 1) := by decide +kernel
set_option maxRecDepth 20000 in
theorem ggX0_roundedOff_X0_isRoundedUp : GoodIn wsX0_roundedOff wsX0_isRoundedUp := goodIn_r _ [6] (by decide +kernel) (by decide +kernel)
set_option maxRecDepth 20000 in
theorem gX0_roundedOff_X0_isRoundedUp : GoodIn wsX0_roundedOff (va_wsS RX0 108 yX0_isRoundedUp wsX0_isRoundedUp) := goodIn_app (goodIn_of _ (by decide +kernel)) ggX0_roundedOff_X0_isRoundedUp
theorem dX0_roundedOff_0 : decode cX0_roundedOff 0 = .ok (.lload_n 0, 1) := by decide +kernel
theorem dX0_roundedOff_1 : decode cX0_roundedOff 1 = .ok (.iconst 3, 1) := by decide +kernel
theorem dX0_roundedOff_2 : decode cX0_roundedOff 2 = .ok (.lshr, 1) := by decide +kernel
theorem dX0_roundedOff_3 : decode cX0_roundedOff 3 = .ok (.lstore_n 2, 1) := by decide +kernel
theorem dX0_roundedOff_4 : decode cX0_roundedOff 4 = .ok (.lload_n 0, 1) := by decide +kernel
theorem dX0_roundedOff_5 : decode cX0_roundedOff 5 = .ok (.ldc2_w 104, 3) := by decide +kernel
theorem dX0_roundedOff_8 : decode cX0_roundedOff 8 = .ok (.land, 1) := by decide +kernel
theorem dX0_roundedOff_9 : decode cX0_roundedOff 9 = .ok (.ldc2_w 106, 3) := by decide +kernel
theorem dX0_roundedOff_12 : decode cX0_roundedOff 12 = .ok (.lload_n 2, 1) := by decide +kernel
theorem dX0_roundedOff_13 : decode cX0_roundedOff 13 = .ok (.invokestatic 108, 3) := by decide +kernel
theorem dX0_roundedOff_16 : decode cX0_roundedOff 16 = .ok (.ifCond .eq 9, 3) := by decide +kernel
theorem dX0_roundedOff_19 : decode cX0_roundedOff 19 = .ok (.lload_n 2, 1) := by decide +kernel
theorem dX0_roundedOff_20 : decode cX0_roundedOff 20 = .ok (.lconst 1, 1) := by decide +kernel
theorem dX0_roundedOff_21 : decode cX0_roundedOff 21 = .ok (.ladd, 1) := by decide +kernel
theorem dX0_roundedOff_22 : decode cX0_roundedOff 22 = .ok (.goto 4, 3) := by decide +kernel
theorem dX0_roundedOff_25 : decode cX0_roundedOff 25 = .ok (.lload_n 2, 1) := by decide +kernel
theorem dX0_roundedOff_26 : decode cX0_roundedOff 26 = .ok (.lreturn, 1) := by decide +kernel
theorem dX0_isRoundedUp_0 : decode cX0_isRoundedUp 0 = .ok (.lload_n 0, 1) := by decide +kernel
theorem dX0_isRoundedUp_1 : decode cX0_isRoundedUp 1 = .ok (.lload_n 2, 1) := by decide +kernel
theorem dX0_isRoundedUp_2 : decode cX0_isRoundedUp 2 = .ok (.lcmp, 1) := by decide +kernel
theorem dX0_isRoundedUp_3 : decode cX0_isRoundedUp 3 = .ok (.ifCond .gt 18, 3) := by decide +kernel
theorem dX0_isRoundedUp_6 : decode cX0_isRoundedUp 6 = .ok (.lload_n 0, 1) := by decide +kernel
theorem dX0_isRoundedUp_7 : decode cX0_isRoundedUp 7 = .ok (.lload_n 2, 1) := by decide +kernel
theorem dX0_isRoundedUp_8 : decode cX0_isRoundedUp 8 = .ok (.lcmp, 1) := by decide +kernel
theorem dX0_isRoundedUp_9 : decode cX0_isRoundedUp 9 = .ok (.ifCond .ne 16, 3) := by decide +kernel
theorem dX0_isRoundedUp_12 : decode cX0_isRoundedUp 12 = .ok (.lload 4, 2) := by decide +kernel
theorem dX0_isRoundedUp_14 : decode cX0_isRoundedUp 14 = .ok (.lconst 1, 1) := by decide +kernel
theorem dX0_isRoundedUp_15 : decode cX0_isRoundedUp 15 = .ok (.land, 1) := by decide +kernel
theorem dX0_isRoundedUp_16 : decode cX0_isRoundedUp 16 = .ok (.lconst 1, 1) := by decide +kernel
theorem dX0_isRoundedUp_17 : decode cX0_isRoundedUp 17 = .ok (.lcmp, 1) := by decide +kernel
theorem dX0_isRoundedUp_18 : decode cX0_isRoundedUp 18 = .ok (.ifCond .ne 7, 3) := by decide +kernel
theorem dX0_isRoundedUp_21 : decode cX0_isRoundedUp 21 = .ok (.iconst 1, 1) := by decide +kernel
theorem dX0_isRoundedUp_22 : decode cX0_isRoundedUp 22 = .ok (.goto 4, 3) := by decide +kernel
theorem dX0_isRoundedUp_25 : decode cX0_isRoundedUp 25 = .ok (.iconst 0, 1) := by decide +kernel
theorem dX0_isRoundedUp_26 : decode cX0_isRoundedUp 26 = .ok (.ireturn, 1) := by decide +kernel
set_option maxRecDepth 20000 in
theorem ggX0_wholeOfPart_X0_sizeOf : GoodIn wsX0_wholeOfPart wsX0_sizeOf := goodIn_r _ [7, 8, 9] (by decide +kernel) (by decide +kernel)
set_option maxRecDepth 20000 in
theorem gX0_wholeOfPart_X0_sizeOf : GoodIn wsX0_wholeOfPart (wsV RX0 51 RX0 yX0_sizeOf wsX0_sizeOf) := goodIn_app (goodIn_of _ (by decide +kernel)) ggX0_wholeOfPart_X0_sizeOf
set_option maxRecDepth 20000 in
theorem ggX0_wholeOfPart_X0_growsBy : GoodIn wsX0_wholeOfPart wsX0_growsBy := goodIn_r _ [12] (by decide +kernel) (by decide +kernel)
set_option maxRecDepth 20000 in
theorem gX0_wholeOfPart_X0_growsBy : GoodIn wsX0_wholeOfPart (va_wsS RX0 112 yX0_growsBy wsX0_growsBy) := goodIn_app (goodIn_of _ (by decide +kernel)) ggX0_wholeOfPart_X0_growsBy
theorem dX0_wholeOfPart_0 : decode cX0_wholeOfPart 0 = .ok (.aload_n 0, 1) := by decide +kernel
theorem dX0_wholeOfPart_1 : decode cX0_wholeOfPart 1 = .ok (.getfield 43, 3) := by decide +kernel
theorem dX0_wholeOfPart_4 : decode cX0_wholeOfPart 4 = .ok (.aload_n 0, 1) := by decide +kernel
theorem dX0_wholeOfPart_5 : decode cX0_wholeOfPart 5 = .ok (.getfield 40, 3) := by decide +kernel
theorem dX0_wholeOfPart_8 : decode cX0_wholeOfPart 8 = .ok (.lsub, 1) := by decide +kernel
theorem dX0_wholeOfPart_9 : decode cX0_wholeOfPart 9 = .ok (.lstore 4, 2) := by decide +kernel
theorem dX0_wholeOfPart_11 : decode cX0_wholeOfPart 11 = .ok (.iload_n 3, 1) := by decide +kernel
theorem dX0_wholeOfPart_12 : decode cX0_wholeOfPart 12 = .ok (.iconst 2, 1) := by decide +kernel
theorem dX0_wholeOfPart_13 : decode cX0_wholeOfPart 13 = .ok (.if_icmp .ne 22, 3) := by decide +kernel
theorem dX0_wholeOfPart_16 : decode cX0_wholeOfPart 16 = .ok (.aload_n 0, 1) := by decide +kernel
theorem dX0_wholeOfPart_17 : decode cX0_wholeOfPart 17 = .ok (.lload_n 1, 1) := by decide +kernel
theorem dX0_wholeOfPart_18 : decode cX0_wholeOfPart 18 = .ok (.invokevirtual 51, 3) := by decide +kernel
theorem dX0_wholeOfPart_21 : decode cX0_wholeOfPart 21 = .ok (.lload 4, 2) := by decide +kernel
theorem dX0_wholeOfPart_23 : decode cX0_wholeOfPart 23 = .ok (.lcmp, 1) := by decide +kernel
theorem dX0_wholeOfPart_24 : decode cX0_wholeOfPart 24 = .ok (.ifCond .le 7, 3) := by decide +kernel
theorem dX0_wholeOfPart_27 : decode cX0_wholeOfPart 27 = .ok (.iconst 1, 1) := by decide +kernel
theorem dX0_wholeOfPart_28 : decode cX0_wholeOfPart 28 = .ok (.goto 12, 3) := by decide +kernel
theorem dX0_wholeOfPart_31 : decode cX0_wholeOfPart 31 = .ok (.iconst 0, 1) := by decide +kernel
theorem dX0_wholeOfPart_32 : decode cX0_wholeOfPart 32 = .ok (.goto 8, 3) := by decide +kernel
theorem dX0_wholeOfPart_35 : decode cX0_wholeOfPart 35 = .ok (.iload_n 3, 1) := by decide +kernel
theorem dX0_wholeOfPart_36 : decode cX0_wholeOfPart 36 = .ok (.lload_n 1, 1) := by decide +kernel
theorem dX0_wholeOfPart_37 : decode cX0_wholeOfPart 37 = .ok (.invokestatic 112, 3) := by decide +kernel
theorem dX0_wholeOfPart_40 : decode cX0_wholeOfPart 40 = .ok (.istore 6, 2) := by decide +kernel
theorem dX0_wholeOfPart_42 : decode cX0_wholeOfPart 42 = .ok (.iload 6, 2) := by decide +kernel
theorem dX0_wholeOfPart_44 : decode cX0_wholeOfPart 44 = .ok (.ifCond .eq 10, 3) := by decide +kernel
theorem dX0_wholeOfPart_47 : decode cX0_wholeOfPart 47 = .ok (.aload_n 0, 1) := by decide +kernel
theorem dX0_wholeOfPart_48 : decode cX0_wholeOfPart 48 = .ok (.getfield 43, 3) := by decide +kernel
theorem dX0_wholeOfPart_51 : decode cX0_wholeOfPart 51 = .ok (.goto 4, 3) := by decide +kernel
theorem dX0_wholeOfPart_54 : decode cX0_wholeOfPart 54 = .ok (.lconst 0, 1) := by decide +kernel
theorem dX0_wholeOfPart_55 : decode cX0_wholeOfPart 55 = .ok (.lreturn, 1) := by decide +kernel
set_option maxRecDepth 20000 in
theorem ggX0_wholeOfMixed_X0_sizeOf : GoodIn wsX0_wholeOfMixed wsX0_sizeOf := goodIn_r _ [5, 6, 7] (by decide +kernel) (by decide +kernel)
set_option maxRecDepth 20000 in
theorem gX0_wholeOfMixed_X0_sizeOf : GoodIn wsX0_wholeOfMixed (wsV RX0 51 RX0 yX0_sizeOf wsX0_sizeOf) := goodIn_app (goodIn_of _ (by decide +kernel)) ggX0_wholeOfMixed_X0_sizeOf
set_option maxRecDepth 20000 in
theorem ggX0_wholeOfMixed_X0_significandOf : GoodIn wsX0_wholeOfMixed wsX0_significandOf := goodIn_r _ [11, 12] (by decide +kernel) (by decide +kernel)
set_option maxRecDepth 20000 in
theorem gX0_wholeOfMixed_X0_significandOf : GoodIn wsX0_wholeOfMixed (wsV RX0 59 RX0 yX0_significandOf wsX0_significandOf) := goodIn_app (goodIn_of _ (by decide +kernel)) ggX0_wholeOfMixed_X0_significandOf
set_option maxRecDepth 20000 in
theorem ggX0_wholeOfMixed_X0_isRoundedUp : GoodIn wsX0_wholeOfMixed wsX0_isRoundedUp := goodIn_r _ [15] (by decide +kernel) (by decide +kernel)
set_option maxRecDepth 20000 in
theorem gX0_wholeOfMixed_X0_isRoundedUp : GoodIn wsX0_wholeOfMixed (va_wsS RX0 108 yX0_isRoundedUp wsX0_isRoundedUp) := goodIn_app (goodIn_of _ (by decide +kernel)) ggX0_wholeOfMixed_X0_isRoundedUp
set_option maxRecDepth 20000 in
theorem ggX0_wholeOfMixed_X0_growsBy : GoodIn wsX0_wholeOfMixed wsX0_growsBy := goodIn_r _ [18] (by decide +kernel) (by decide +kernel)
set_option maxRecDepth 20000 in
theorem gX0_wholeOfMixed_X0_growsBy : GoodIn wsX0_wholeOfMixed (va_wsS RX0 112 yX0_growsBy wsX0_growsBy) := goodIn_app (goodIn_of _ (by decide +kernel)) ggX0_wholeOfMixed_X0_growsBy
theorem dX0_wholeOfMixed_0 : decode cX0_wholeOfMixed 0 = .ok (.aload_n 0, 1) := by decide +kernel
theorem dX0_wholeOfMixed_1 : decode cX0_wholeOfMixed 1 = .ok (.lload_n 1, 1) := by decide +kernel
theorem dX0_wholeOfMixed_2 : decode cX0_wholeOfMixed 2 = .ok (.invokevirtual 51, 3) := by decide +kernel
theorem dX0_wholeOfMixed_5 : decode cX0_wholeOfMixed 5 = .ok (.lstore 5, 2) := by decide +kernel
theorem dX0_wholeOfMixed_7 : decode cX0_wholeOfMixed 7 = .ok (.lconst 1, 1) := by decide +kernel
theorem dX0_wholeOfMixed_8 : decode cX0_wholeOfMixed 8 = .ok (.iload 4, 2) := by decide +kernel
theorem dX0_wholeOfMixed_10 : decode cX0_wholeOfMixed 10 = .ok (.lshl, 1) := by decide +kernel
theorem dX0_wholeOfMixed_11 : decode cX0_wholeOfMixed 11 = .ok (.lstore 7, 2) := by decide +kernel
theorem dX0_wholeOfMixed_13 : decode cX0_wholeOfMixed 13 = .ok (.lload 5, 2) := by decide +kernel
theorem dX0_wholeOfMixed_15 : decode cX0_wholeOfMixed 15 = .ok (.lload 7, 2) := by decide +kernel
theorem dX0_wholeOfMixed_17 : decode cX0_wholeOfMixed 17 = .ok (.lconst 1, 1) := by decide +kernel
theorem dX0_wholeOfMixed_18 : decode cX0_wholeOfMixed 18 = .ok (.lsub, 1) := by decide +kernel
theorem dX0_wholeOfMixed_19 : decode cX0_wholeOfMixed 19 = .ok (.land, 1) := by decide +kernel
theorem dX0_wholeOfMixed_20 : decode cX0_wholeOfMixed 20 = .ok (.lstore 9, 2) := by decide +kernel
theorem dX0_wholeOfMixed_22 : decode cX0_wholeOfMixed 22 = .ok (.lload 5, 2) := by decide +kernel
theorem dX0_wholeOfMixed_24 : decode cX0_wholeOfMixed 24 = .ok (.lload 9, 2) := by decide +kernel
theorem dX0_wholeOfMixed_26 : decode cX0_wholeOfMixed 26 = .ok (.lsub, 1) := by decide +kernel
theorem dX0_wholeOfMixed_27 : decode cX0_wholeOfMixed 27 = .ok (.lstore 11, 2) := by decide +kernel
theorem dX0_wholeOfMixed_29 : decode cX0_wholeOfMixed 29 = .ok (.lload 9, 2) := by decide +kernel
theorem dX0_wholeOfMixed_31 : decode cX0_wholeOfMixed 31 = .ok (.lconst 0, 1) := by decide +kernel
theorem dX0_wholeOfMixed_32 : decode cX0_wholeOfMixed 32 = .ok (.lcmp, 1) := by decide +kernel
theorem dX0_wholeOfMixed_33 : decode cX0_wholeOfMixed 33 = .ok (.ifCond .ne 6, 3) := by decide +kernel
theorem dX0_wholeOfMixed_36 : decode cX0_wholeOfMixed 36 = .ok (.lload 5, 2) := by decide +kernel
theorem dX0_wholeOfMixed_38 : decode cX0_wholeOfMixed 38 = .ok (.lreturn, 1) := by decide +kernel
theorem dX0_wholeOfMixed_39 : decode cX0_wholeOfMixed 39 = .ok (.iload_n 3, 1) := by decide +kernel
theorem dX0_wholeOfMixed_40 : decode cX0_wholeOfMixed 40 = .ok (.iconst 2, 1) := by decide +kernel
theorem dX0_wholeOfMixed_41 : decode cX0_wholeOfMixed 41 = .ok (.if_icmp .ne 24, 3) := by decide +kernel
theorem dX0_wholeOfMixed_44 : decode cX0_wholeOfMixed 44 = .ok (.lload 9, 2) := by decide +kernel
theorem dX0_wholeOfMixed_46 : decode cX0_wholeOfMixed 46 = .ok (.lload 7, 2) := by decide +kernel
theorem dX0_wholeOfMixed_48 : decode cX0_wholeOfMixed 48 = .ok (.iconst 1, 1) := by decide +kernel
theorem dX0_wholeOfMixed_49 : decode cX0_wholeOfMixed 49 = .ok (.lshr, 1) := by decide +kernel
theorem dX0_wholeOfMixed_50 : decode cX0_wholeOfMixed 50 = .ok (.aload_n 0, 1) := by decide +kernel
theorem dX0_wholeOfMixed_51 : decode cX0_wholeOfMixed 51 = .ok (.lload 5, 2) := by decide +kernel
theorem dX0_wholeOfMixed_53 : decode cX0_wholeOfMixed 53 = .ok (.invokevirtual 59, 3) := by decide +kernel
theorem dX0_wholeOfMixed_56 : decode cX0_wholeOfMixed 56 = .ok (.iload 4, 2) := by decide +kernel
theorem dX0_wholeOfMixed_58 : decode cX0_wholeOfMixed 58 = .ok (.lshr, 1) := by decide +kernel
theorem dX0_wholeOfMixed_59 : decode cX0_wholeOfMixed 59 = .ok (.invokestatic 108, 3) := by decide +kernel
theorem dX0_wholeOfMixed_62 : decode cX0_wholeOfMixed 62 = .ok (.goto 8, 3) := by decide +kernel
theorem dX0_wholeOfMixed_65 : decode cX0_wholeOfMixed 65 = .ok (.iload_n 3, 1) := by decide +kernel
theorem dX0_wholeOfMixed_66 : decode cX0_wholeOfMixed 66 = .ok (.lload_n 1, 1) := by decide +kernel
theorem dX0_wholeOfMixed_67 : decode cX0_wholeOfMixed 67 = .ok (.invokestatic 112, 3) := by decide +kernel
theorem dX0_wholeOfMixed_70 : decode cX0_wholeOfMixed 70 = .ok (.istore 13, 2) := by decide +kernel
theorem dX0_wholeOfMixed_72 : decode cX0_wholeOfMixed 72 = .ok (.iload 13, 2) := by decide +kernel
theorem dX0_wholeOfMixed_74 : decode cX0_wholeOfMixed 74 = .ok (.ifCond .eq 11, 3) := by decide +kernel
theorem dX0_wholeOfMixed_77 : decode cX0_wholeOfMixed 77 = .ok (.lload 11, 2) := by decide +kernel
theorem dX0_wholeOfMixed_79 : decode cX0_wholeOfMixed 79 = .ok (.lload 7, 2) := by decide +kernel
theorem dX0_wholeOfMixed_81 : decode cX0_wholeOfMixed 81 = .ok (.ladd, 1) := by decide +kernel
theorem dX0_wholeOfMixed_82 : decode cX0_wholeOfMixed 82 = .ok (.goto 5, 3) := by decide +kernel
theorem dX0_wholeOfMixed_85 : decode cX0_wholeOfMixed 85 = .ok (.lload 11, 2) := by decide +kernel
theorem dX0_wholeOfMixed_87 : decode cX0_wholeOfMixed 87 = .ok (.lreturn, 1) := by decide +kernel
theorem dX0_growsBy_0 : decode cX0_growsBy 0 = .ok (.iload_n 0, 1) := by decide +kernel
theorem dX0_growsBy_1 : decode cX0_growsBy 1 = .ok (.iconst 1, 1) := by decide +kernel
theorem dX0_growsBy_2 : decode cX0_growsBy 2 = .ok (.if_icmp .ne 17, 3) := by decide +kernel
theorem dX0_growsBy_5 : decode cX0_growsBy 5 = .ok (.lload_n 1, 1) := by decide +kernel
theorem dX0_growsBy_6 : decode cX0_growsBy 6 = .ok (.lconst 0, 1) := by decide +kernel
theorem dX0_growsBy_7 : decode cX0_growsBy 7 = .ok (.lcmp, 1) := by decide +kernel
theorem dX0_growsBy_8 : decode cX0_growsBy 8 = .ok (.ifCond .lt 7, 3) := by decide +kernel
theorem dX0_growsBy_11 : decode cX0_growsBy 11 = .ok (.iconst 1, 1) := by decide +kernel
theorem dX0_growsBy_12 : decode cX0_growsBy 12 = .ok (.goto 18, 3) := by decide +kernel
theorem dX0_growsBy_15 : decode cX0_growsBy 15 = .ok (.iconst 0, 1) := by decide +kernel
theorem dX0_growsBy_16 : decode cX0_growsBy 16 = .ok (.goto 14, 3) := by decide +kernel
theorem dX0_growsBy_19 : decode cX0_growsBy 19 = .ok (.lload_n 1, 1) := by decide +kernel
theorem dX0_growsBy_20 : decode cX0_growsBy 20 = .ok (.lconst 0, 1) := by decide +kernel
theorem dX0_growsBy_21 : decode cX0_growsBy 21 = .ok (.lcmp, 1) := by decide +kernel
theorem dX0_growsBy_22 : decode cX0_growsBy 22 = .ok (.ifCond .ge 7, 3) := by decide +kernel
theorem dX0_growsBy_25 : decode cX0_growsBy 25 = .ok (.iconst 1, 1) := by decide +kernel
theorem dX0_growsBy_26 : decode cX0_growsBy 26 = .ok (.goto 4, 3) := by decide +kernel
theorem dX0_growsBy_29 : decode cX0_growsBy 29 = .ok (.iconst 0, 1) := by decide +kernel
theorem dX0_growsBy_30 : decode cX0_growsBy 30 = .ok (.ireturn, 1) := by decide +kernel
set_option maxRecDepth 20000 in
theorem ggX1_init_X1_startAgain : GoodIn wsX1_init wsX1_startAgain := goodIn_r _ [13, 14, 15, 16, 4, 17, 18, 19, 20, 12, 21, 5, 6, 22, 23, 24, 25, 26, 27, 28, 29, 30, 31, 32, 33, 34, 35, 36, 37, 38, 39, 40, 41, 42, 43, 44, 45, 46, 47, 48, 49, 50, 51, 52] (by decide +kernel) (by decide +kernel)
set_option maxRecDepth 20000 in
theorem gX1_init_X1_startAgain : GoodIn wsX1_init (wsV RX1 28 RX1 yX1_startAgain wsX1_startAgain) := goodIn_app (goodIn_of _ (by decide +kernel)) ggX1_init_X1_startAgain
theorem dX1_init_0 : decode cX1_init 0 = .ok (.aload_n 0, 1) := by decide +kernel
theorem dX1_init_1 : decode cX1_init 1 = .ok (.invokespecial 1, 3) := by decide +kernel
theorem dX1_init_4 : decode cX1_init 4 = .ok (.aload_n 0, 1) := by decide +kernel
theorem dX1_init_5 : decode cX1_init 5 = .ok (.aload_n 1, 1) := by decide +kernel
theorem dX1_init_6 : decode cX1_init 6 = .ok (.putfield 7, 3) := by decide +kernel
theorem dX1_init_9 : decode cX1_init 9 = .ok (.aload_n 0, 1) := by decide +kernel
theorem dX1_init_10 : decode cX1_init 10 = .ok (.lload_n 2, 1) := by decide +kernel
theorem dX1_init_11 : decode cX1_init 11 = .ok (.putfield 13, 3) := by decide +kernel
theorem dX1_init_14 : decode cX1_init 14 = .ok (.aload_n 0, 1) := by decide +kernel
theorem dX1_init_15 : decode cX1_init 15 = .ok (.lload 4, 2) := by decide +kernel
theorem dX1_init_17 : decode cX1_init 17 = .ok (.putfield 17, 3) := by decide +kernel
theorem dX1_init_20 : decode cX1_init 20 = .ok (.aload_n 0, 1) := by decide +kernel
theorem dX1_init_21 : decode cX1_init 21 = .ok (.aload_n 1, 1) := by decide +kernel
theorem dX1_init_22 : decode cX1_init 22 = .ok (.getfield 20, 3) := by decide +kernel
theorem dX1_init_25 : decode cX1_init 25 = .ok (.putfield 25, 3) := by decide +kernel
theorem dX1_init_28 : decode cX1_init 28 = .ok (.aload_n 0, 1) := by decide +kernel
theorem dX1_init_29 : decode cX1_init 29 = .ok (.invokevirtual 28, 3) := by decide +kernel
theorem dX1_init_32 : decode cX1_init 32 = .ok (.return_, 1) := by decide +kernel
set_option maxRecDepth 20000 in
theorem ggX1_startAgain_X1_withinLimits : GoodIn wsX1_startAgain wsX1_withinLimits := goodIn_r _ [10, 4, 11, 12, 13, 14, 15, 16, 17, 18, 19, 20, 21, 22, 23, 24, 25, 26, 27, 28, 29, 30, 31, 36, 37, 38, 39, 40, 41, 42, 43] (by decide +kernel) (by decide +kernel)
set_option maxRecDepth 20000 in
theorem gX1_startAgain_X1_withinLimits : GoodIn wsX1_startAgain (wsV RX1 31 RX1 yX1_withinLimits wsX1_withinLimits) := goodIn_app (goodIn_of _ (by decide +kernel)) ggX1_startAgain_X1_withinLimits
set_option maxRecDepth 20000 in
theorem ggX1_startAgain_X0_sizeOf : GoodIn wsX1_startAgain wsX0_sizeOf := goodIn_r _ [35, 26, 27] (by decide +kernel) (by decide +kernel)
set_option maxRecDepth 20000 in
theorem gX1_startAgain_X0_sizeOf : GoodIn wsX1_startAgain (wsV RX1 44 RX0 yX0_sizeOf wsX0_sizeOf) := goodIn_app (goodIn_of _ (by decide +kernel)) ggX1_startAgain_X0_sizeOf
theorem dX1_startAgain_0 : decode cX1_startAgain 0 = .ok (.aload_n 0, 1) := by decide +kernel
theorem dX1_startAgain_1 : decode cX1_startAgain 1 = .ok (.aload_n 0, 1) := by decide +kernel
theorem dX1_startAgain_2 : decode cX1_startAgain 2 = .ok (.lconst 0, 1) := by decide +kernel
theorem dX1_startAgain_3 : decode cX1_startAgain 3 = .ok (.invokevirtual 31, 3) := by decide +kernel
theorem dX1_startAgain_6 : decode cX1_startAgain 6 = .ok (.putfield 35, 3) := by decide +kernel
theorem dX1_startAgain_9 : decode cX1_startAgain 9 = .ok (.aload_n 0, 1) := by decide +kernel
theorem dX1_startAgain_10 : decode cX1_startAgain 10 = .ok (.aload_n 0, 1) := by decide +kernel
theorem dX1_startAgain_11 : decode cX1_startAgain 11 = .ok (.getfield 35, 3) := by decide +kernel
theorem dX1_startAgain_14 : decode cX1_startAgain 14 = .ok (.putfield 38, 3) := by decide +kernel
theorem dX1_startAgain_17 : decode cX1_startAgain 17 = .ok (.aload_n 0, 1) := by decide +kernel
theorem dX1_startAgain_18 : decode cX1_startAgain 18 = .ok (.aload_n 0, 1) := by decide +kernel
theorem dX1_startAgain_19 : decode cX1_startAgain 19 = .ok (.getfield 35, 3) := by decide +kernel
theorem dX1_startAgain_22 : decode cX1_startAgain 22 = .ok (.putfield 41, 3) := by decide +kernel
theorem dX1_startAgain_25 : decode cX1_startAgain 25 = .ok (.aload_n 0, 1) := by decide +kernel
theorem dX1_startAgain_26 : decode cX1_startAgain 26 = .ok (.aload_n 0, 1) := by decide +kernel
theorem dX1_startAgain_27 : decode cX1_startAgain 27 = .ok (.getfield 7, 3) := by decide +kernel
theorem dX1_startAgain_30 : decode cX1_startAgain 30 = .ok (.aload_n 0, 1) := by decide +kernel
theorem dX1_startAgain_31 : decode cX1_startAgain 31 = .ok (.getfield 35, 3) := by decide +kernel
theorem dX1_startAgain_34 : decode cX1_startAgain 34 = .ok (.invokevirtual 44, 3) := by decide +kernel
theorem dX1_startAgain_37 : decode cX1_startAgain 37 = .ok (.putfield 47, 3) := by decide +kernel
theorem dX1_startAgain_40 : decode cX1_startAgain 40 = .ok (.return_, 1) := by decide +kernel
set_option maxRecDepth 20000 in
theorem ggX1_moveTo_X1_withinLimits : GoodIn wsX1_moveTo wsX1_withinLimits := goodIn_r _ [14, 2, 15, 16, 17, 18, 19, 20, 21, 22, 23, 24, 25, 26, 27, 28, 29, 30, 31, 32, 33, 34, 35, 40, 41, 42, 43, 44, 45, 46, 47] (by decide +kernel) (by decide +kernel)
set_option maxRecDepth 20000 in
theorem gX1_moveTo_X1_withinLimits : GoodIn wsX1_moveTo (wsV RX1 31 RX1 yX1_withinLimits wsX1_withinLimits) := goodIn_app (goodIn_of _ (by decide +kernel)) ggX1_moveTo_X1_withinLimits
set_option maxRecDepth 20000 in
theorem ggX1_moveTo_X0_greaterOf : GoodIn wsX1_moveTo wsX0_greaterOf := goodIn_r _ [21, 22, 23, 24, 20, 25, 26, 27, 28, 29, 30, 31] (by decide +kernel) (by decide +kernel)
set_option maxRecDepth 20000 in
theorem gX1_moveTo_X0_greaterOf : GoodIn wsX1_moveTo (wsV RX1 50 RX0 yX0_greaterOf wsX0_greaterOf) := goodIn_app (goodIn_of _ (by decide +kernel)) ggX1_moveTo_X0_greaterOf
set_option maxRecDepth 20000 in
theorem ggX1_moveTo_X0_lesserOf : GoodIn wsX1_moveTo wsX0_lesserOf := goodIn_r _ [35, 22, 23, 24, 20, 25, 26, 27, 28, 29, 30, 31] (by decide +kernel) (by decide +kernel)
set_option maxRecDepth 20000 in
theorem gX1_moveTo_X0_lesserOf : GoodIn wsX1_moveTo (wsV RX1 54 RX0 yX0_lesserOf wsX0_lesserOf) := goodIn_app (goodIn_of _ (by decide +kernel)) ggX1_moveTo_X0_lesserOf
set_option maxRecDepth 20000 in
theorem ggX1_moveTo_X0_sizeOf : GoodIn wsX1_moveTo wsX0_sizeOf := goodIn_r _ [39, 30, 31] (by decide +kernel) (by decide +kernel)
set_option maxRecDepth 20000 in
theorem gX1_moveTo_X0_sizeOf : GoodIn wsX1_moveTo (wsV RX1 44 RX0 yX0_sizeOf wsX0_sizeOf) := goodIn_app (goodIn_of _ (by decide +kernel)) ggX1_moveTo_X0_sizeOf
theorem dX1_moveTo_0 : decode cX1_moveTo 0 = .ok (.aload_n 0, 1) := by decide +kernel
theorem dX1_moveTo_1 : decode cX1_moveTo 1 = .ok (.aload_n 0, 1) := by decide +kernel
theorem dX1_moveTo_2 : decode cX1_moveTo 2 = .ok (.lload_n 1, 1) := by decide +kernel
theorem dX1_moveTo_3 : decode cX1_moveTo 3 = .ok (.invokevirtual 31, 3) := by decide +kernel
theorem dX1_moveTo_6 : decode cX1_moveTo 6 = .ok (.putfield 35, 3) := by decide +kernel
theorem dX1_moveTo_9 : decode cX1_moveTo 9 = .ok (.aload_n 0, 1) := by decide +kernel
theorem dX1_moveTo_10 : decode cX1_moveTo 10 = .ok (.aload_n 0, 1) := by decide +kernel
theorem dX1_moveTo_11 : decode cX1_moveTo 11 = .ok (.getfield 7, 3) := by decide +kernel
theorem dX1_moveTo_14 : decode cX1_moveTo 14 = .ok (.aload_n 0, 1) := by decide +kernel
theorem dX1_moveTo_15 : decode cX1_moveTo 15 = .ok (.getfield 38, 3) := by decide +kernel
theorem dX1_moveTo_18 : decode cX1_moveTo 18 = .ok (.aload_n 0, 1) := by decide +kernel
theorem dX1_moveTo_19 : decode cX1_moveTo 19 = .ok (.getfield 35, 3) := by decide +kernel
theorem dX1_moveTo_22 : decode cX1_moveTo 22 = .ok (.invokevirtual 50, 3) := by decide +kernel
theorem dX1_moveTo_25 : decode cX1_moveTo 25 = .ok (.putfield 38, 3) := by decide +kernel
theorem dX1_moveTo_28 : decode cX1_moveTo 28 = .ok (.aload_n 0, 1) := by decide +kernel
theorem dX1_moveTo_29 : decode cX1_moveTo 29 = .ok (.aload_n 0, 1) := by decide +kernel
theorem dX1_moveTo_30 : decode cX1_moveTo 30 = .ok (.getfield 7, 3) := by decide +kernel
theorem dX1_moveTo_33 : decode cX1_moveTo 33 = .ok (.aload_n 0, 1) := by decide +kernel
theorem dX1_moveTo_34 : decode cX1_moveTo 34 = .ok (.getfield 41, 3) := by decide +kernel
theorem dX1_moveTo_37 : decode cX1_moveTo 37 = .ok (.aload_n 0, 1) := by decide +kernel
theorem dX1_moveTo_38 : decode cX1_moveTo 38 = .ok (.getfield 35, 3) := by decide +kernel
theorem dX1_moveTo_41 : decode cX1_moveTo 41 = .ok (.invokevirtual 54, 3) := by decide +kernel
theorem dX1_moveTo_44 : decode cX1_moveTo 44 = .ok (.putfield 41, 3) := by decide +kernel
theorem dX1_moveTo_47 : decode cX1_moveTo 47 = .ok (.aload_n 0, 1) := by decide +kernel
theorem dX1_moveTo_48 : decode cX1_moveTo 48 = .ok (.aload_n 0, 1) := by decide +kernel
theorem dX1_moveTo_49 : decode cX1_moveTo 49 = .ok (.getfield 47, 3) := by decide +kernel
theorem dX1_moveTo_52 : decode cX1_moveTo 52 = .ok (.aload_n 0, 1) := by decide +kernel
theorem dX1_moveTo_53 : decode cX1_moveTo 53 = .ok (.getfield 7, 3) := by decide +kernel
theorem dX1_moveTo_56 : decode cX1_moveTo 56 = .ok (.aload_n 0, 1) := by decide +kernel
theorem dX1_moveTo_57 : decode cX1_moveTo 57 = .ok (.getfield 35, 3) := by decide +kernel
theorem dX1_moveTo_60 : decode cX1_moveTo 60 = .ok (.invokevirtual 44, 3) := by decide +kernel
theorem dX1_moveTo_63 : decode cX1_moveTo 63 = .ok (.invokestatic 57, 3) := by decide +kernel
theorem dX1_moveTo_66 : decode cX1_moveTo 66 = .ok (.putfield 47, 3) := by decide +kernel
theorem dX1_moveTo_69 : decode cX1_moveTo 69 = .ok (.return_, 1) := by decide +kernel
set_option maxRecDepth 20000 in
theorem ggX1_stepTowards_X0_areAlike : GoodIn wsX1_stepTowards wsX0_areAlike := goodIn_r _ [8, 9, 10, 11, 7, 12, 13, 14] (by decide +kernel) (by decide +kernel)
set_option maxRecDepth 20000 in
theorem gX1_stepTowards_X0_areAlike : GoodIn wsX1_stepTowards (wsV RX1 62 RX0 yX0_areAlike wsX0_areAlike) := goodIn_app (goodIn_of _ (by decide +kernel)) ggX1_stepTowards_X0_areAlike
set_option maxRecDepth 20000 in
theorem ggX1_stepTowards_X0_negated : GoodIn wsX1_stepTowards wsX0_negated := goodIn_r _ [18, 13, 9, 10, 11, 7, 12, 14] (by decide +kernel) (by decide +kernel)
set_option maxRecDepth 20000 in
theorem gX1_stepTowards_X0_negated : GoodIn wsX1_stepTowards (wsV RX1 66 RX0 yX0_negated wsX0_negated) := goodIn_app (goodIn_of _ (by decide +kernel)) ggX1_stepTowards_X0_negated
set_option maxRecDepth 20000 in
theorem ggX1_stepTowards_X0_sum : GoodIn wsX1_stepTowards wsX0_sum := goodIn_r _ [22, 9, 10, 11, 7, 12, 13, 14, 23, 24, 25, 26, 27, 28, 29, 30, 31, 32, 33, 34, 35, 36, 37, 38, 39, 40, 41, 42, 43, 44, 45, 46, 47, 48, 49, 50, 51, 52, 53, 54, 55, 56, 57, 58, 59, 60, 61] (by decide +kernel) (by decide +kernel)
set_option maxRecDepth 20000 in
theorem gX1_stepTowards_X0_sum : GoodIn wsX1_stepTowards (wsV RX1 69 RX0 yX0_sum wsX0_sum) := goodIn_app (goodIn_of _ (by decide +kernel)) ggX1_stepTowards_X0_sum
set_option maxRecDepth 20000 in
theorem ggX1_stepTowards_X0_sizeOf : GoodIn wsX1_stepTowards wsX0_sizeOf := goodIn_r _ [12, 13, 14] (by decide +kernel) (by decide +kernel)
set_option maxRecDepth 20000 in
theorem gX1_stepTowards_X0_sizeOf : GoodIn wsX1_stepTowards (wsV RX1 44 RX0 yX0_sizeOf wsX0_sizeOf) := goodIn_app (goodIn_of _ (by decide +kernel)) ggX1_stepTowards_X0_sizeOf
set_option maxRecDepth 20000 in
theorem ggX1_stepTowards_X0_withSideOf : GoodIn wsX1_stepTowards wsX0_withSideOf := goodIn_r _ [61, 13, 9, 10, 11, 7, 12, 14] (by decide +kernel) (by decide +kernel)
set_option maxRecDepth 20000 in
theorem gX1_stepTowards_X0_withSideOf : GoodIn wsX1_stepTowards (wsV RX1 72 RX0 yX0_withSideOf wsX0_withSideOf) := goodIn_app (goodIn_of _ (by decide +kernel)) ggX1_stepTowards_X0_withSideOf
theorem dX1_stepTowards_0 : decode cX1_stepTowards 0 = .ok (.aload_n 0, 1) := by decide +kernel
theorem dX1_stepTowards_1 : decode cX1_stepTowards 1 = .ok (.getfield 7, 3) := by decide +kernel
theorem dX1_stepTowards_4 : decode cX1_stepTowards 4 = .ok (.aload_n 0, 1) := by decide +kernel
theorem dX1_stepTowards_5 : decode cX1_stepTowards 5 = .ok (.getfield 35, 3) := by decide +kernel
theorem dX1_stepTowards_8 : decode cX1_stepTowards 8 = .ok (.lload_n 1, 1) := by decide +kernel
theorem dX1_stepTowards_9 : decode cX1_stepTowards 9 = .ok (.invokevirtual 62, 3) := by decide +kernel
theorem dX1_stepTowards_12 : decode cX1_stepTowards 12 = .ok (.ifCond .eq 5, 3) := by decide +kernel
theorem dX1_stepTowards_15 : decode cX1_stepTowards 15 = .ok (.lload_n 1, 1) := by decide +kernel
theorem dX1_stepTowards_16 : decode cX1_stepTowards 16 = .ok (.lreturn, 1) := by decide +kernel
theorem dX1_stepTowards_17 : decode cX1_stepTowards 17 = .ok (.aload_n 0, 1) := by decide +kernel
theorem dX1_stepTowards_18 : decode cX1_stepTowards 18 = .ok (.getfield 7, 3) := by decide +kernel
theorem dX1_stepTowards_21 : decode cX1_stepTowards 21 = .ok (.lload_n 1, 1) := by decide +kernel
theorem dX1_stepTowards_22 : decode cX1_stepTowards 22 = .ok (.aload_n 0, 1) := by decide +kernel
theorem dX1_stepTowards_23 : decode cX1_stepTowards 23 = .ok (.getfield 7, 3) := by decide +kernel
theorem dX1_stepTowards_26 : decode cX1_stepTowards 26 = .ok (.aload_n 0, 1) := by decide +kernel
theorem dX1_stepTowards_27 : decode cX1_stepTowards 27 = .ok (.getfield 35, 3) := by decide +kernel
theorem dX1_stepTowards_30 : decode cX1_stepTowards 30 = .ok (.invokevirtual 66, 3) := by decide +kernel
theorem dX1_stepTowards_33 : decode cX1_stepTowards 33 = .ok (.invokevirtual 69, 3) := by decide +kernel
theorem dX1_stepTowards_36 : decode cX1_stepTowards 36 = .ok (.lstore_n 3, 1) := by decide +kernel
theorem dX1_stepTowards_37 : decode cX1_stepTowards 37 = .ok (.aload_n 0, 1) := by decide +kernel
theorem dX1_stepTowards_38 : decode cX1_stepTowards 38 = .ok (.getfield 7, 3) := by decide +kernel
theorem dX1_stepTowards_41 : decode cX1_stepTowards 41 = .ok (.lload_n 3, 1) := by decide +kernel
theorem dX1_stepTowards_42 : decode cX1_stepTowards 42 = .ok (.invokevirtual 44, 3) := by decide +kernel
theorem dX1_stepTowards_45 : decode cX1_stepTowards 45 = .ok (.aload_n 0, 1) := by decide +kernel
theorem dX1_stepTowards_46 : decode cX1_stepTowards 46 = .ok (.getfield 25, 3) := by decide +kernel
