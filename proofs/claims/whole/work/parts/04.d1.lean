theorem dX1_stepTowards_49 : decode cX1_stepTowards 49 = .ok (.lcmp, 1) := by decide +kernel
theorem dX1_stepTowards_50 : decode cX1_stepTowards 50 = .ok (.ifCond .gt 5, 3) := by decide +kernel
theorem dX1_stepTowards_53 : decode cX1_stepTowards 53 = .ok (.lload_n 1, 1) := by decide +kernel
theorem dX1_stepTowards_54 : decode cX1_stepTowards 54 = .ok (.lreturn, 1) := by decide +kernel
theorem dX1_stepTowards_55 : decode cX1_stepTowards 55 = .ok (.aload_n 0, 1) := by decide +kernel
theorem dX1_stepTowards_56 : decode cX1_stepTowards 56 = .ok (.getfield 7, 3) := by decide +kernel
theorem dX1_stepTowards_59 : decode cX1_stepTowards 59 = .ok (.aload_n 0, 1) := by decide +kernel
theorem dX1_stepTowards_60 : decode cX1_stepTowards 60 = .ok (.getfield 35, 3) := by decide +kernel
theorem dX1_stepTowards_63 : decode cX1_stepTowards 63 = .ok (.aload_n 0, 1) := by decide +kernel
theorem dX1_stepTowards_64 : decode cX1_stepTowards 64 = .ok (.getfield 7, 3) := by decide +kernel
theorem dX1_stepTowards_67 : decode cX1_stepTowards 67 = .ok (.aload_n 0, 1) := by decide +kernel
theorem dX1_stepTowards_68 : decode cX1_stepTowards 68 = .ok (.getfield 25, 3) := by decide +kernel
theorem dX1_stepTowards_71 : decode cX1_stepTowards 71 = .ok (.lload_n 3, 1) := by decide +kernel
theorem dX1_stepTowards_72 : decode cX1_stepTowards 72 = .ok (.invokevirtual 72, 3) := by decide +kernel
theorem dX1_stepTowards_75 : decode cX1_stepTowards 75 = .ok (.invokevirtual 69, 3) := by decide +kernel
theorem dX1_stepTowards_78 : decode cX1_stepTowards 78 = .ok (.lreturn, 1) := by decide +kernel
set_option maxRecDepth 20000 in
theorem ggX1_fineValue_X0_fineFromCoarse : GoodIn wsX1_fineValue wsX0_fineFromCoarse := goodIn_r _ [7, 8, 9, 10, 11, 12, 13, 14, 15, 6, 16, 17, 18, 19, 20, 21, 22, 23, 24, 25, 26, 27, 28, 29, 30, 31, 32, 33, 34, 35, 36, 37, 38, 39, 40, 41, 42, 43, 44, 45, 46, 47, 48, 49, 50] (by decide +kernel) (by decide +kernel)
set_option maxRecDepth 20000 in
theorem gX1_fineValue_X0_fineFromCoarse : GoodIn wsX1_fineValue (va_wsS RX1 78 yX0_fineFromCoarse wsX0_fineFromCoarse) := goodIn_app (goodIn_of _ (by decide +kernel)) ggX1_fineValue_X0_fineFromCoarse
theorem dX1_fineValue_0 : decode cX1_fineValue 0 = .ok (.aload_n 0, 1) := by decide +kernel
theorem dX1_fineValue_1 : decode cX1_fineValue 1 = .ok (.getfield 7, 3) := by decide +kernel
theorem dX1_fineValue_4 : decode cX1_fineValue 4 = .ok (.getstatic 75, 3) := by decide +kernel
theorem dX1_fineValue_7 : decode cX1_fineValue 7 = .ok (.if_acmp .ne 10, 3) := by decide +kernel
theorem dX1_fineValue_10 : decode cX1_fineValue 10 = .ok (.aload_n 0, 1) := by decide +kernel
theorem dX1_fineValue_11 : decode cX1_fineValue 11 = .ok (.getfield 35, 3) := by decide +kernel
theorem dX1_fineValue_14 : decode cX1_fineValue 14 = .ok (.goto 10, 3) := by decide +kernel
theorem dX1_fineValue_17 : decode cX1_fineValue 17 = .ok (.aload_n 0, 1) := by decide +kernel
theorem dX1_fineValue_18 : decode cX1_fineValue 18 = .ok (.getfield 35, 3) := by decide +kernel
theorem dX1_fineValue_21 : decode cX1_fineValue 21 = .ok (.invokestatic 78, 3) := by decide +kernel
theorem dX1_fineValue_24 : decode cX1_fineValue 24 = .ok (.lreturn, 1) := by decide +kernel
set_option maxRecDepth 20000 in
theorem ggX1_isCounted_X0_sizeOf : GoodIn wsX1_isCounted wsX0_sizeOf := goodIn_r _ [10, 11, 12] (by decide +kernel) (by decide +kernel)
set_option maxRecDepth 20000 in
theorem gX1_isCounted_X0_sizeOf : GoodIn wsX1_isCounted (wsV RX1 44 RX0 yX0_sizeOf wsX0_sizeOf) := goodIn_app (goodIn_of _ (by decide +kernel)) ggX1_isCounted_X0_sizeOf
theorem dX1_isCounted_0 : decode cX1_isCounted 0 = .ok (.iload_n 1, 1) := by decide +kernel
theorem dX1_isCounted_1 : decode cX1_isCounted 1 = .ok (.lookupswitch 65 #[(1, 27), (2, 43)], 27) := by decide +kernel
theorem dX1_isCounted_28 : decode cX1_isCounted 28 = .ok (.aload_n 0, 1) := by decide +kernel
theorem dX1_isCounted_29 : decode cX1_isCounted 29 = .ok (.getfield 7, 3) := by decide +kernel
theorem dX1_isCounted_32 : decode cX1_isCounted 32 = .ok (.getstatic 75, 3) := by decide +kernel
theorem dX1_isCounted_35 : decode cX1_isCounted 35 = .ok (.if_acmp .ne 7, 3) := by decide +kernel
theorem dX1_isCounted_38 : decode cX1_isCounted 38 = .ok (.iconst 1, 1) := by decide +kernel
theorem dX1_isCounted_39 : decode cX1_isCounted 39 = .ok (.goto 4, 3) := by decide +kernel
theorem dX1_isCounted_42 : decode cX1_isCounted 42 = .ok (.iconst 0, 1) := by decide +kernel
theorem dX1_isCounted_43 : decode cX1_isCounted 43 = .ok (.ireturn, 1) := by decide +kernel
theorem dX1_isCounted_44 : decode cX1_isCounted 44 = .ok (.aload_n 0, 1) := by decide +kernel
theorem dX1_isCounted_45 : decode cX1_isCounted 45 = .ok (.getfield 7, 3) := by decide +kernel
theorem dX1_isCounted_48 : decode cX1_isCounted 48 = .ok (.aload_n 0, 1) := by decide +kernel
theorem dX1_isCounted_49 : decode cX1_isCounted 49 = .ok (.getfield 35, 3) := by decide +kernel
theorem dX1_isCounted_52 : decode cX1_isCounted 52 = .ok (.invokevirtual 44, 3) := by decide +kernel
theorem dX1_isCounted_55 : decode cX1_isCounted 55 = .ok (.lconst 0, 1) := by decide +kernel
theorem dX1_isCounted_56 : decode cX1_isCounted 56 = .ok (.lcmp, 1) := by decide +kernel
theorem dX1_isCounted_57 : decode cX1_isCounted 57 = .ok (.ifCond .ne 7, 3) := by decide +kernel
theorem dX1_isCounted_60 : decode cX1_isCounted 60 = .ok (.iconst 1, 1) := by decide +kernel
theorem dX1_isCounted_61 : decode cX1_isCounted 61 = .ok (.goto 4, 3) := by decide +kernel
theorem dX1_isCounted_64 : decode cX1_isCounted 64 = .ok (.iconst 0, 1) := by decide +kernel
theorem dX1_isCounted_65 : decode cX1_isCounted 65 = .ok (.ireturn, 1) := by decide +kernel
theorem dX1_isCounted_66 : decode cX1_isCounted 66 = .ok (.aload_n 0, 1) := by decide +kernel
theorem dX1_isCounted_67 : decode cX1_isCounted 67 = .ok (.getfield 35, 3) := by decide +kernel
theorem dX1_isCounted_70 : decode cX1_isCounted 70 = .ok (.aload_n 0, 1) := by decide +kernel
theorem dX1_isCounted_71 : decode cX1_isCounted 71 = .ok (.getfield 13, 3) := by decide +kernel
theorem dX1_isCounted_74 : decode cX1_isCounted 74 = .ok (.lcmp, 1) := by decide +kernel
theorem dX1_isCounted_75 : decode cX1_isCounted 75 = .ok (.ifCond .eq 15, 3) := by decide +kernel
theorem dX1_isCounted_78 : decode cX1_isCounted 78 = .ok (.aload_n 0, 1) := by decide +kernel
theorem dX1_isCounted_79 : decode cX1_isCounted 79 = .ok (.getfield 35, 3) := by decide +kernel
theorem dX1_isCounted_82 : decode cX1_isCounted 82 = .ok (.aload_n 0, 1) := by decide +kernel
theorem dX1_isCounted_83 : decode cX1_isCounted 83 = .ok (.getfield 17, 3) := by decide +kernel
theorem dX1_isCounted_86 : decode cX1_isCounted 86 = .ok (.lcmp, 1) := by decide +kernel
theorem dX1_isCounted_87 : decode cX1_isCounted 87 = .ok (.ifCond .ne 7, 3) := by decide +kernel
theorem dX1_isCounted_90 : decode cX1_isCounted 90 = .ok (.iconst 1, 1) := by decide +kernel
theorem dX1_isCounted_91 : decode cX1_isCounted 91 = .ok (.goto 4, 3) := by decide +kernel
theorem dX1_isCounted_94 : decode cX1_isCounted 94 = .ok (.iconst 0, 1) := by decide +kernel
theorem dX1_isCounted_95 : decode cX1_isCounted 95 = .ok (.ireturn, 1) := by decide +kernel
set_option maxRecDepth 20000 in
theorem ggX1_withinLimits_X0_greaterOf : GoodIn wsX1_withinLimits wsX0_greaterOf := goodIn_r _ [8, 9, 10, 11, 7, 12, 13, 14, 15, 16, 17, 18] (by decide +kernel) (by decide +kernel)
set_option maxRecDepth 20000 in
theorem gX1_withinLimits_X0_greaterOf : GoodIn wsX1_withinLimits (wsV RX1 50 RX0 yX0_greaterOf wsX0_greaterOf) := goodIn_app (goodIn_of _ (by decide +kernel)) ggX1_withinLimits_X0_greaterOf
set_option maxRecDepth 20000 in
theorem ggX1_withinLimits_X0_lesserOf : GoodIn wsX1_withinLimits wsX0_lesserOf := goodIn_r _ [22, 9, 10, 11, 7, 12, 13, 14, 15, 16, 17, 18] (by decide +kernel) (by decide +kernel)
set_option maxRecDepth 20000 in
theorem gX1_withinLimits_X0_lesserOf : GoodIn wsX1_withinLimits (wsV RX1 54 RX0 yX0_lesserOf wsX0_lesserOf) := goodIn_app (goodIn_of _ (by decide +kernel)) ggX1_withinLimits_X0_lesserOf
theorem dX1_withinLimits_0 : decode cX1_withinLimits 0 = .ok (.aload_n 0, 1) := by decide +kernel
theorem dX1_withinLimits_1 : decode cX1_withinLimits 1 = .ok (.getfield 7, 3) := by decide +kernel
theorem dX1_withinLimits_4 : decode cX1_withinLimits 4 = .ok (.aload_n 0, 1) := by decide +kernel
theorem dX1_withinLimits_5 : decode cX1_withinLimits 5 = .ok (.getfield 7, 3) := by decide +kernel
theorem dX1_withinLimits_8 : decode cX1_withinLimits 8 = .ok (.lload_n 1, 1) := by decide +kernel
theorem dX1_withinLimits_9 : decode cX1_withinLimits 9 = .ok (.aload_n 0, 1) := by decide +kernel
theorem dX1_withinLimits_10 : decode cX1_withinLimits 10 = .ok (.getfield 13, 3) := by decide +kernel
theorem dX1_withinLimits_13 : decode cX1_withinLimits 13 = .ok (.invokevirtual 50, 3) := by decide +kernel
theorem dX1_withinLimits_16 : decode cX1_withinLimits 16 = .ok (.aload_n 0, 1) := by decide +kernel
theorem dX1_withinLimits_17 : decode cX1_withinLimits 17 = .ok (.getfield 17, 3) := by decide +kernel
theorem dX1_withinLimits_20 : decode cX1_withinLimits 20 = .ok (.invokevirtual 54, 3) := by decide +kernel
theorem dX1_withinLimits_23 : decode cX1_withinLimits 23 = .ok (.lreturn, 1) := by decide +kernel
theorem dX2_init_0 : decode cX2_init 0 = .ok (.aload_n 0, 1) := by decide +kernel
theorem dX2_init_1 : decode cX2_init 1 = .ok (.invokespecial 1, 3) := by decide +kernel
theorem dX2_init_4 : decode cX2_init 4 = .ok (.aload_n 0, 1) := by decide +kernel
theorem dX2_init_5 : decode cX2_init 5 = .ok (.bipush 8, 2) := by decide +kernel
theorem dX2_init_7 : decode cX2_init 7 = .ok (.anewarray 9, 3) := by decide +kernel
theorem dX2_init_10 : decode cX2_init 10 = .ok (.putfield 11, 3) := by decide +kernel
theorem dX2_init_13 : decode cX2_init 13 = .ok (.return_, 1) := by decide +kernel
set_option maxRecDepth 20000 in
theorem ggX2_needle_X2_numberFrom : GoodIn wsX2_needle wsX2_numberFrom := goodIn_ca (goodIn_r _ [15, 1, 2, 16, 17, 18, 19, 20, 21, 22, 23, 24, 25, 26, 27, 28, 29, 30, 31, 32] (by decide +kernel) (by decide +kernel)) (goodIn_sub (fun _ h => List.mem_cons_of_mem _ (List.mem_append_left _ (List.mem_append_right _ h))) (by decide +kernel))
set_option maxRecDepth 20000 in
theorem gX2_needle_X2_numberFrom : GoodIn wsX2_needle (va_wsS RX2 24 yX2_numberFrom wsX2_numberFrom) := goodIn_app (goodIn_of _ (by decide +kernel)) ggX2_needle_X2_numberFrom
set_option maxRecDepth 20000 in
theorem ggX2_needle_X0_isBelow : GoodIn wsX2_needle wsX0_isBelow := goodIn_r _ [36, 37, 38, 39, 19, 40, 31, 32] (by decide +kernel) (by decide +kernel)
set_option maxRecDepth 20000 in
theorem gX2_needle_X0_isBelow : GoodIn wsX2_needle (wsV RX2 28 RX0 yX0_isBelow wsX0_isBelow) := goodIn_app (goodIn_of _ (by decide +kernel)) ggX2_needle_X0_isBelow
set_option maxRecDepth 20000 in
theorem ggX2_needle_X1_init : GoodIn wsX2_needle wsX1_init := goodIn_r _ [43, 44, 45, 46, 47, 48, 49, 50, 51, 52, 53, 54, 11, 55, 56, 57, 58, 59, 60, 61, 62, 63, 64, 65, 66, 19, 67, 68, 34, 35, 36, 37, 38, 39, 40, 31, 32, 69, 70, 71, 72, 73, 28, 29, 30, 79, 80, 81, 82, 83, 84, 85, 86] (by decide +kernel) (by decide +kernel)
set_option maxRecDepth 20000 in
theorem gX2_needle_X1_init : GoodIn wsX2_needle (wsX1_init) := ggX2_needle_X1_init
theorem dX2_needle_0 : decode cX2_needle 0 = .ok (.iload_n 1, 1) := by decide +kernel
theorem dX2_needle_1 : decode cX2_needle 1 = .ok (.ifCond .eq 9, 3) := by decide +kernel
theorem dX2_needle_4 : decode cX2_needle 4 = .ok (.getstatic 15, 3) := by decide +kernel
theorem dX2_needle_7 : decode cX2_needle 7 = .ok (.goto 6, 3) := by decide +kernel
theorem dX2_needle_10 : decode cX2_needle 10 = .ok (.getstatic 21, 3) := by decide +kernel
theorem dX2_needle_13 : decode cX2_needle 13 = .ok (.astore 6, 2) := by decide +kernel
theorem dX2_needle_15 : decode cX2_needle 15 = .ok (.aload 6, 2) := by decide +kernel
theorem dX2_needle_17 : decode cX2_needle 17 = .ok (.lload_n 2, 1) := by decide +kernel
theorem dX2_needle_18 : decode cX2_needle 18 = .ok (.invokestatic 24, 3) := by decide +kernel
theorem dX2_needle_21 : decode cX2_needle 21 = .ok (.lstore 7, 2) := by decide +kernel
theorem dX2_needle_23 : decode cX2_needle 23 = .ok (.aload 6, 2) := by decide +kernel
theorem dX2_needle_25 : decode cX2_needle 25 = .ok (.lload 4, 2) := by decide +kernel
theorem dX2_needle_27 : decode cX2_needle 27 = .ok (.invokestatic 24, 3) := by decide +kernel
theorem dX2_needle_30 : decode cX2_needle 30 = .ok (.lstore 9, 2) := by decide +kernel
theorem dX2_needle_32 : decode cX2_needle 32 = .ok (.aload 6, 2) := by decide +kernel
theorem dX2_needle_34 : decode cX2_needle 34 = .ok (.lload 9, 2) := by decide +kernel
theorem dX2_needle_36 : decode cX2_needle 36 = .ok (.lload 7, 2) := by decide +kernel
theorem dX2_needle_38 : decode cX2_needle 38 = .ok (.invokevirtual 28, 3) := by decide +kernel
theorem dX2_needle_41 : decode cX2_needle 41 = .ok (.ifCond .eq 13, 3) := by decide +kernel
theorem dX2_needle_44 : decode cX2_needle 44 = .ok (.new 32, 3) := by decide +kernel
theorem dX2_needle_47 : decode cX2_needle 47 = .ok (.dup, 1) := by decide +kernel
theorem dX2_needle_48 : decode cX2_needle 48 = .ok (.ldc 34, 2) := by decide +kernel
theorem dX2_needle_50 : decode cX2_needle 50 = .ok (.invokespecial 36, 3) := by decide +kernel
theorem dX2_needle_53 : decode cX2_needle 53 = .ok (.athrow, 1) := by decide +kernel
theorem dX2_needle_54 : decode cX2_needle 54 = .ok (.aload_n 0, 1) := by decide +kernel
theorem dX2_needle_55 : decode cX2_needle 55 = .ok (.getfield 39, 3) := by decide +kernel
theorem dX2_needle_58 : decode cX2_needle 58 = .ok (.aload_n 0, 1) := by decide +kernel
theorem dX2_needle_59 : decode cX2_needle 59 = .ok (.getfield 11, 3) := by decide +kernel
theorem dX2_needle_62 : decode cX2_needle 62 = .ok (.arraylength, 1) := by decide +kernel
theorem dX2_needle_63 : decode cX2_needle 63 = .ok (.if_icmp .lt 13, 3) := by decide +kernel
theorem dX2_needle_66 : decode cX2_needle 66 = .ok (.new 43, 3) := by decide +kernel
theorem dX2_needle_69 : decode cX2_needle 69 = .ok (.dup, 1) := by decide +kernel
theorem dX2_needle_70 : decode cX2_needle 70 = .ok (.ldc 45, 2) := by decide +kernel
theorem dX2_needle_72 : decode cX2_needle 72 = .ok (.invokespecial 47, 3) := by decide +kernel
theorem dX2_needle_75 : decode cX2_needle 75 = .ok (.athrow, 1) := by decide +kernel
theorem dX2_needle_76 : decode cX2_needle 76 = .ok (.aload_n 0, 1) := by decide +kernel
theorem dX2_needle_77 : decode cX2_needle 77 = .ok (.getfield 11, 3) := by decide +kernel
theorem dX2_needle_80 : decode cX2_needle 80 = .ok (.aload_n 0, 1) := by decide +kernel
theorem dX2_needle_81 : decode cX2_needle 81 = .ok (.getfield 39, 3) := by decide +kernel
theorem dX2_needle_84 : decode cX2_needle 84 = .ok (.new 9, 3) := by decide +kernel
theorem dX2_needle_87 : decode cX2_needle 87 = .ok (.dup, 1) := by decide +kernel
theorem dX2_needle_88 : decode cX2_needle 88 = .ok (.aload 6, 2) := by decide +kernel
theorem dX2_needle_90 : decode cX2_needle 90 = .ok (.lload 7, 2) := by decide +kernel
theorem dX2_needle_92 : decode cX2_needle 92 = .ok (.lload 9, 2) := by decide +kernel
theorem dX2_needle_94 : decode cX2_needle 94 = .ok (.invokespecial 48, 3) := by decide +kernel
theorem dX2_needle_97 : decode cX2_needle 97 = .ok (.aastore, 1) := by decide +kernel
theorem dX2_needle_98 : decode cX2_needle 98 = .ok (.aload_n 0, 1) := by decide +kernel
theorem dX2_needle_99 : decode cX2_needle 99 = .ok (.dup, 1) := by decide +kernel
theorem dX2_needle_100 : decode cX2_needle 100 = .ok (.getfield 39, 3) := by decide +kernel
theorem dX2_needle_103 : decode cX2_needle 103 = .ok (.iconst 1, 1) := by decide +kernel
theorem dX2_needle_104 : decode cX2_needle 104 = .ok (.iadd, 1) := by decide +kernel
theorem dX2_needle_105 : decode cX2_needle 105 = .ok (.putfield 39, 3) := by decide +kernel
theorem dX2_needle_108 : decode cX2_needle 108 = .ok (.aload_n 0, 1) := by decide +kernel
theorem dX2_needle_109 : decode cX2_needle 109 = .ok (.getfield 39, 3) := by decide +kernel
theorem dX2_needle_112 : decode cX2_needle 112 = .ok (.iconst 1, 1) := by decide +kernel
theorem dX2_needle_113 : decode cX2_needle 113 = .ok (.isub, 1) := by decide +kernel
theorem dX2_needle_114 : decode cX2_needle 114 = .ok (.ireturn, 1) := by decide +kernel
set_option maxRecDepth 20000 in
theorem ggX2_put_X2_needleAt : GoodIn wsX2_put wsX2_needleAt := goodIn_ca (goodIn_r _ [8, 9, 10, 11, 79, 80, 81, 82, 83] (by decide +kernel) (by decide +kernel)) (goodIn_sub (fun _ h => List.mem_cons_of_mem _ (List.mem_append_left _ (List.mem_append_right _ h))) (by decide +kernel))
set_option maxRecDepth 20000 in
theorem gX2_put_X2_needleAt : GoodIn wsX2_put (wsV RX2 51 RX2 yX2_needleAt wsX2_needleAt) := goodIn_app (goodIn_of _ (by decide +kernel)) ggX2_put_X2_needleAt
set_option maxRecDepth 20000 in
theorem ggX2_put_X2_numberFrom : GoodIn wsX2_put wsX2_numberFrom := goodIn_ca (goodIn_r _ [14, 15, 16, 17, 18, 19, 20, 21, 22, 23, 24, 25, 26, 27, 28, 29, 30, 31, 32, 33] (by decide +kernel) (by decide +kernel)) (goodIn_sub (fun _ h => List.mem_cons_of_mem _ (List.mem_append_right _ h)) (by decide +kernel))
set_option maxRecDepth 20000 in
theorem gX2_put_X2_numberFrom : GoodIn wsX2_put (va_wsS RX2 24 yX2_numberFrom wsX2_numberFrom) := goodIn_app (goodIn_of _ (by decide +kernel)) ggX2_put_X2_numberFrom
set_option maxRecDepth 20000 in
theorem ggX2_put_X1_moveTo : GoodIn wsX2_put wsX1_moveTo := goodIn_r _ [38, 39, 40, 41, 42, 43, 44, 45, 46, 47, 48, 49, 50, 37, 51, 52, 53, 54, 55, 56, 20, 57, 58, 59, 60, 61, 62, 63, 64, 65, 32, 33, 66, 67, 68, 69, 70, 29, 30, 31, 71, 72, 73, 74, 75, 76, 77, 78] (by decide +kernel) (by decide +kernel)
set_option maxRecDepth 20000 in
theorem gX2_put_X1_moveTo : GoodIn wsX2_put (wsV RX2 58 RX1 yX1_moveTo wsX1_moveTo) := goodIn_app (goodIn_of _ (by decide +kernel)) ggX2_put_X1_moveTo
theorem dX2_put_0 : decode cX2_put 0 = .ok (.aload_n 0, 1) := by decide +kernel
theorem dX2_put_1 : decode cX2_put 1 = .ok (.iload_n 1, 1) := by decide +kernel
theorem dX2_put_2 : decode cX2_put 2 = .ok (.invokevirtual 51, 3) := by decide +kernel
theorem dX2_put_5 : decode cX2_put 5 = .ok (.astore 4, 2) := by decide +kernel
theorem dX2_put_7 : decode cX2_put 7 = .ok (.aload 4, 2) := by decide +kernel
theorem dX2_put_9 : decode cX2_put 9 = .ok (.aload 4, 2) := by decide +kernel
theorem dX2_put_11 : decode cX2_put 11 = .ok (.getfield 55, 3) := by decide +kernel
theorem dX2_put_14 : decode cX2_put 14 = .ok (.lload_n 2, 1) := by decide +kernel
theorem dX2_put_15 : decode cX2_put 15 = .ok (.invokestatic 24, 3) := by decide +kernel
theorem dX2_put_18 : decode cX2_put 18 = .ok (.invokevirtual 58, 3) := by decide +kernel
theorem dX2_put_21 : decode cX2_put 21 = .ok (.aload_n 0, 1) := by decide +kernel
theorem dX2_put_22 : decode cX2_put 22 = .ok (.dup, 1) := by decide +kernel
theorem dX2_put_23 : decode cX2_put 23 = .ok (.getfield 62, 3) := by decide +kernel
theorem dX2_put_26 : decode cX2_put 26 = .ok (.iconst 1, 1) := by decide +kernel
theorem dX2_put_27 : decode cX2_put 27 = .ok (.iadd, 1) := by decide +kernel
theorem dX2_put_28 : decode cX2_put 28 = .ok (.putfield 62, 3) := by decide +kernel
theorem dX2_put_31 : decode cX2_put 31 = .ok (.aload 4, 2) := by decide +kernel
theorem dX2_put_33 : decode cX2_put 33 = .ok (.getfield 65, 3) := by decide +kernel
theorem dX2_put_36 : decode cX2_put 36 = .ok (.lreturn, 1) := by decide +kernel
set_option maxRecDepth 20000 in
theorem ggX2_turn_X2_needleAt : GoodIn wsX2_turn wsX2_needleAt := goodIn_ca (goodIn_r _ [10, 11, 12, 13, 130, 131, 132, 133, 134] (by decide +kernel) (by decide +kernel)) (goodIn_sub (fun _ h => List.mem_cons_of_mem _ (List.mem_append_left _ (List.mem_append_right _ h))) (by decide +kernel))
set_option maxRecDepth 20000 in
theorem gX2_turn_X2_needleAt : GoodIn wsX2_turn (wsV RX2 51 RX2 yX2_needleAt wsX2_needleAt) := goodIn_app (goodIn_of _ (by decide +kernel)) ggX2_turn_X2_needleAt
set_option maxRecDepth 20000 in
theorem ggX2_turn_X2_numberFrom : GoodIn wsX2_turn wsX2_numberFrom := goodIn_ca (goodIn_r _ [16, 17, 18, 19, 20, 21, 22, 23, 24, 25, 26, 27, 28, 29, 30, 31, 32, 33, 34, 35] (by decide +kernel) (by decide +kernel)) (goodIn_sub (fun _ h => List.mem_cons_of_mem _ (List.mem_append_right _ h)) (by decide +kernel))
set_option maxRecDepth 20000 in
theorem gX2_turn_X2_numberFrom : GoodIn wsX2_turn (va_wsS RX2 24 yX2_numberFrom wsX2_numberFrom) := goodIn_app (goodIn_of _ (by decide +kernel)) ggX2_turn_X2_numberFrom
set_option maxRecDepth 20000 in
theorem ggX2_turn_X0_areOppositeInfinities : GoodIn wsX2_turn wsX0_areOppositeInfinities := goodIn_r _ [39, 29, 30, 31, 32, 22, 33, 34, 35, 40, 41, 42, 43] (by decide +kernel) (by decide +kernel)
set_option maxRecDepth 20000 in
theorem gX2_turn_X0_areOppositeInfinities : GoodIn wsX2_turn (wsV RX2 69 RX0 yX0_areOppositeInfinities wsX0_areOppositeInfinities) := goodIn_app (goodIn_of _ (by decide +kernel)) ggX2_turn_X0_areOppositeInfinities
set_option maxRecDepth 20000 in
theorem ggX2_turn_X0_sum : GoodIn wsX2_turn wsX0_sum := goodIn_r _ [47, 30, 31, 32, 22, 33, 34, 35, 48, 49, 50, 51, 29, 52, 53, 54, 55, 56, 57, 58, 59, 60, 61, 62, 63, 64, 65, 66, 67, 68, 69, 70, 71, 72, 73, 74, 75, 76, 77, 78, 79, 80, 81, 82, 83, 84, 85] (by decide +kernel) (by decide +kernel)
set_option maxRecDepth 20000 in
theorem gX2_turn_X0_sum : GoodIn wsX2_turn (wsV RX2 74 RX0 yX0_sum wsX0_sum) := goodIn_app (goodIn_of _ (by decide +kernel)) ggX2_turn_X0_sum
set_option maxRecDepth 20000 in
theorem ggX2_turn_X1_moveTo : GoodIn wsX2_turn wsX1_moveTo := goodIn_r _ [90, 91, 92, 93, 94, 95, 96, 97, 59, 98, 99, 100, 101, 89, 102, 103, 104, 105, 106, 107, 22, 108, 109, 110, 111, 112, 113, 114, 115, 116, 34, 35, 117, 118, 119, 120, 121, 31, 32, 33, 122, 123, 124, 125, 126, 127, 128, 129] (by decide +kernel) (by decide +kernel)
set_option maxRecDepth 20000 in
theorem gX2_turn_X1_moveTo : GoodIn wsX2_turn (wsV RX2 58 RX1 yX1_moveTo wsX1_moveTo) := goodIn_app (goodIn_of _ (by decide +kernel)) ggX2_turn_X1_moveTo
theorem dX2_turn_0 : decode cX2_turn 0 = .ok (.aload_n 0, 1) := by decide +kernel
theorem dX2_turn_1 : decode cX2_turn 1 = .ok (.iload_n 1, 1) := by decide +kernel
theorem dX2_turn_2 : decode cX2_turn 2 = .ok (.invokevirtual 51, 3) := by decide +kernel
theorem dX2_turn_5 : decode cX2_turn 5 = .ok (.astore 4, 2) := by decide +kernel
theorem dX2_turn_7 : decode cX2_turn 7 = .ok (.aload 4, 2) := by decide +kernel
theorem dX2_turn_9 : decode cX2_turn 9 = .ok (.getfield 55, 3) := by decide +kernel
theorem dX2_turn_12 : decode cX2_turn 12 = .ok (.lload_n 2, 1) := by decide +kernel
theorem dX2_turn_13 : decode cX2_turn 13 = .ok (.invokestatic 24, 3) := by decide +kernel
theorem dX2_turn_16 : decode cX2_turn 16 = .ok (.lstore 5, 2) := by decide +kernel
theorem dX2_turn_18 : decode cX2_turn 18 = .ok (.aload 4, 2) := by decide +kernel
theorem dX2_turn_20 : decode cX2_turn 20 = .ok (.getfield 55, 3) := by decide +kernel
theorem dX2_turn_23 : decode cX2_turn 23 = .ok (.aload 4, 2) := by decide +kernel
theorem dX2_turn_25 : decode cX2_turn 25 = .ok (.getfield 65, 3) := by decide +kernel
theorem dX2_turn_28 : decode cX2_turn 28 = .ok (.lload 5, 2) := by decide +kernel
theorem dX2_turn_30 : decode cX2_turn 30 = .ok (.invokevirtual 69, 3) := by decide +kernel
theorem dX2_turn_33 : decode cX2_turn 33 = .ok (.ifCond .eq 13, 3) := by decide +kernel
theorem dX2_turn_36 : decode cX2_turn 36 = .ok (.new 43, 3) := by decide +kernel
theorem dX2_turn_39 : decode cX2_turn 39 = .ok (.dup, 1) := by decide +kernel
theorem dX2_turn_40 : decode cX2_turn 40 = .ok (.ldc 72, 2) := by decide +kernel
theorem dX2_turn_42 : decode cX2_turn 42 = .ok (.invokespecial 47, 3) := by decide +kernel
theorem dX2_turn_45 : decode cX2_turn 45 = .ok (.athrow, 1) := by decide +kernel
theorem dX2_turn_46 : decode cX2_turn 46 = .ok (.aload 4, 2) := by decide +kernel
theorem dX2_turn_48 : decode cX2_turn 48 = .ok (.aload 4, 2) := by decide +kernel
theorem dX2_turn_50 : decode cX2_turn 50 = .ok (.getfield 55, 3) := by decide +kernel
theorem dX2_turn_53 : decode cX2_turn 53 = .ok (.aload 4, 2) := by decide +kernel
theorem dX2_turn_55 : decode cX2_turn 55 = .ok (.getfield 65, 3) := by decide +kernel
theorem dX2_turn_58 : decode cX2_turn 58 = .ok (.lload 5, 2) := by decide +kernel
theorem dX2_turn_60 : decode cX2_turn 60 = .ok (.invokevirtual 74, 3) := by decide +kernel
theorem dX2_turn_63 : decode cX2_turn 63 = .ok (.invokevirtual 58, 3) := by decide +kernel
theorem dX2_turn_66 : decode cX2_turn 66 = .ok (.aload_n 0, 1) := by decide +kernel
theorem dX2_turn_67 : decode cX2_turn 67 = .ok (.dup, 1) := by decide +kernel
theorem dX2_turn_68 : decode cX2_turn 68 = .ok (.getfield 62, 3) := by decide +kernel
theorem dX2_turn_71 : decode cX2_turn 71 = .ok (.iconst 1, 1) := by decide +kernel
theorem dX2_turn_72 : decode cX2_turn 72 = .ok (.iadd, 1) := by decide +kernel
theorem dX2_turn_73 : decode cX2_turn 73 = .ok (.putfield 62, 3) := by decide +kernel
theorem dX2_turn_76 : decode cX2_turn 76 = .ok (.aload 4, 2) := by decide +kernel
theorem dX2_turn_78 : decode cX2_turn 78 = .ok (.getfield 65, 3) := by decide +kernel
theorem dX2_turn_81 : decode cX2_turn 81 = .ok (.lreturn, 1) := by decide +kernel
set_option maxRecDepth 20000 in
theorem ggX2_damp_X2_needleAt : GoodIn wsX2_damp wsX2_needleAt := goodIn_ca (goodIn_r _ [7, 8, 9, 10, 42, 43, 44, 45, 46] (by decide +kernel) (by decide +kernel)) (goodIn_sub (fun _ h => List.mem_cons_of_mem _ (List.mem_append_left _ (List.mem_append_right _ h))) (by decide +kernel))
set_option maxRecDepth 20000 in
theorem gX2_damp_X2_needleAt : GoodIn wsX2_damp (wsV RX2 51 RX2 yX2_needleAt wsX2_needleAt) := goodIn_app (goodIn_of _ (by decide +kernel)) ggX2_damp_X2_needleAt
set_option maxRecDepth 20000 in
theorem ggX2_damp_X2_numberFrom : GoodIn wsX2_damp wsX2_numberFrom := goodIn_ca (goodIn_r _ [13, 14, 15, 16, 17, 18, 19, 20, 21, 22, 23, 24, 25, 26, 27, 28, 29, 30, 31, 32] (by decide +kernel) (by decide +kernel)) (goodIn_sub (fun _ h => List.mem_cons_of_mem _ (List.mem_append_right _ h)) (by decide +kernel))
set_option maxRecDepth 20000 in
theorem gX2_damp_X2_numberFrom : GoodIn wsX2_damp (va_wsS RX2 24 yX2_numberFrom wsX2_numberFrom) := goodIn_app (goodIn_of _ (by decide +kernel)) ggX2_damp_X2_numberFrom
set_option maxRecDepth 20000 in
theorem ggX2_damp_X0_sizeOf : GoodIn wsX2_damp wsX0_sizeOf := goodIn_r _ [30, 31, 32] (by decide +kernel) (by decide +kernel)
set_option maxRecDepth 20000 in
theorem gX2_damp_X0_sizeOf : GoodIn wsX2_damp (wsV RX2 78 RX0 yX0_sizeOf wsX0_sizeOf) := goodIn_app (goodIn_of _ (by decide +kernel)) ggX2_damp_X0_sizeOf
theorem dX2_damp_0 : decode cX2_damp 0 = .ok (.aload_n 0, 1) := by decide +kernel
theorem dX2_damp_1 : decode cX2_damp 1 = .ok (.iload_n 1, 1) := by decide +kernel
theorem dX2_damp_2 : decode cX2_damp 2 = .ok (.invokevirtual 51, 3) := by decide +kernel
theorem dX2_damp_5 : decode cX2_damp 5 = .ok (.astore 4, 2) := by decide +kernel
theorem dX2_damp_7 : decode cX2_damp 7 = .ok (.aload 4, 2) := by decide +kernel
theorem dX2_damp_9 : decode cX2_damp 9 = .ok (.aload 4, 2) := by decide +kernel
theorem dX2_damp_11 : decode cX2_damp 11 = .ok (.getfield 55, 3) := by decide +kernel
theorem dX2_damp_14 : decode cX2_damp 14 = .ok (.aload 4, 2) := by decide +kernel
theorem dX2_damp_16 : decode cX2_damp 16 = .ok (.getfield 55, 3) := by decide +kernel
theorem dX2_damp_19 : decode cX2_damp 19 = .ok (.lload_n 2, 1) := by decide +kernel
theorem dX2_damp_20 : decode cX2_damp 20 = .ok (.invokestatic 24, 3) := by decide +kernel
theorem dX2_damp_23 : decode cX2_damp 23 = .ok (.invokevirtual 78, 3) := by decide +kernel
theorem dX2_damp_26 : decode cX2_damp 26 = .ok (.putfield 82, 3) := by decide +kernel
theorem dX2_damp_29 : decode cX2_damp 29 = .ok (.aload 4, 2) := by decide +kernel
theorem dX2_damp_31 : decode cX2_damp 31 = .ok (.getfield 82, 3) := by decide +kernel
theorem dX2_damp_34 : decode cX2_damp 34 = .ok (.lreturn, 1) := by decide +kernel
set_option maxRecDepth 20000 in
theorem ggX2_pull_X2_needleAt : GoodIn wsX2_pull wsX2_needleAt := goodIn_ca (goodIn_r _ [8, 9, 10, 11, 135, 136, 137, 138, 139] (by decide +kernel) (by decide +kernel)) (goodIn_sub (fun _ h => List.mem_cons_of_mem _ (List.mem_append_left _ (List.mem_append_right _ h))) (by decide +kernel))
set_option maxRecDepth 20000 in
theorem gX2_pull_X2_needleAt : GoodIn wsX2_pull (wsV RX2 51 RX2 yX2_needleAt wsX2_needleAt) := goodIn_app (goodIn_of _ (by decide +kernel)) ggX2_pull_X2_needleAt
set_option maxRecDepth 20000 in
theorem ggX2_pull_X2_numberFrom : GoodIn wsX2_pull wsX2_numberFrom := goodIn_ca (goodIn_r _ [14, 15, 16, 17, 18, 19, 20, 21, 22, 23, 24, 25, 26, 27, 28, 29, 30, 31, 32, 33] (by decide +kernel) (by decide +kernel)) (goodIn_sub (fun _ h => List.mem_cons_of_mem _ (List.mem_append_right _ h)) (by decide +kernel))
set_option maxRecDepth 20000 in
theorem gX2_pull_X2_numberFrom : GoodIn wsX2_pull (va_wsS RX2 24 yX2_numberFrom wsX2_numberFrom) := goodIn_app (goodIn_of _ (by decide +kernel)) ggX2_pull_X2_numberFrom
set_option maxRecDepth 20000 in
theorem ggX2_pull_X1_stepTowards : GoodIn wsX2_pull wsX1_stepTowards := goodIn_r _ [38, 39, 40, 41, 42, 43, 44, 20, 45, 28, 29, 30, 31, 32, 33, 46, 47, 48, 49, 50, 51, 52, 53, 54, 55, 56, 57, 27, 58, 59, 60, 61, 62, 63, 64, 65, 66, 67, 68, 69, 70, 71, 72, 73, 74, 75, 76, 77, 78, 79, 80, 81, 82, 83, 84, 85, 86, 87, 88, 89, 90, 91, 92, 93, 127, 128, 129, 130, 131, 132, 133, 134] (by decide +kernel) (by decide +kernel)
set_option maxRecDepth 20000 in
theorem gX2_pull_X1_stepTowards : GoodIn wsX2_pull (wsV RX2 85 RX1 yX1_stepTowards wsX1_stepTowards) := goodIn_app (goodIn_of _ (by decide +kernel)) ggX2_pull_X1_stepTowards
set_option maxRecDepth 20000 in
theorem ggX2_pull_X1_moveTo : GoodIn wsX2_pull wsX1_moveTo := goodIn_r _ [97, 40, 39, 98, 99, 100, 101, 102, 65, 103, 104, 105, 106, 37, 107, 108, 109, 110, 111, 112, 20, 113, 114, 115, 116, 117, 118, 119, 120, 121, 32, 33, 122, 123, 124, 125, 92, 29, 30, 31, 127, 128, 129, 130, 131, 132, 133, 134] (by decide +kernel) (by decide +kernel)
set_option maxRecDepth 20000 in
theorem gX2_pull_X1_moveTo : GoodIn wsX2_pull (wsV RX2 58 RX1 yX1_moveTo wsX1_moveTo) := goodIn_app (goodIn_of _ (by decide +kernel)) ggX2_pull_X1_moveTo
set_option maxRecDepth 20000 in
theorem ggX2_pull_X0_areAlike : GoodIn wsX2_pull wsX0_areAlike := goodIn_r _ [45, 28, 29, 30, 20, 31, 32, 33] (by decide +kernel) (by decide +kernel)
set_option maxRecDepth 20000 in
theorem gX2_pull_X0_areAlike : GoodIn wsX2_pull (wsV RX2 88 RX0 yX0_areAlike wsX0_areAlike) := goodIn_app (goodIn_of _ (by decide +kernel)) ggX2_pull_X0_areAlike
theorem dX2_pull_0 : decode cX2_pull 0 = .ok (.aload_n 0, 1) := by decide +kernel
theorem dX2_pull_1 : decode cX2_pull 1 = .ok (.iload_n 1, 1) := by decide +kernel
theorem dX2_pull_2 : decode cX2_pull 2 = .ok (.invokevirtual 51, 3) := by decide +kernel
theorem dX2_pull_5 : decode cX2_pull 5 = .ok (.astore 4, 2) := by decide +kernel
theorem dX2_pull_7 : decode cX2_pull 7 = .ok (.aload 4, 2) := by decide +kernel
theorem dX2_pull_9 : decode cX2_pull 9 = .ok (.getfield 55, 3) := by decide +kernel
theorem dX2_pull_12 : decode cX2_pull 12 = .ok (.lload_n 2, 1) := by decide +kernel
theorem dX2_pull_13 : decode cX2_pull 13 = .ok (.invokestatic 24, 3) := by decide +kernel
theorem dX2_pull_16 : decode cX2_pull 16 = .ok (.lstore 5, 2) := by decide +kernel
theorem dX2_pull_18 : decode cX2_pull 18 = .ok (.aload 4, 2) := by decide +kernel
theorem dX2_pull_20 : decode cX2_pull 20 = .ok (.aload 4, 2) := by decide +kernel
theorem dX2_pull_22 : decode cX2_pull 22 = .ok (.lload 5, 2) := by decide +kernel
theorem dX2_pull_24 : decode cX2_pull 24 = .ok (.invokevirtual 85, 3) := by decide +kernel
theorem dX2_pull_27 : decode cX2_pull 27 = .ok (.invokevirtual 58, 3) := by decide +kernel
theorem dX2_pull_30 : decode cX2_pull 30 = .ok (.aload_n 0, 1) := by decide +kernel
theorem dX2_pull_31 : decode cX2_pull 31 = .ok (.dup, 1) := by decide +kernel
theorem dX2_pull_32 : decode cX2_pull 32 = .ok (.getfield 62, 3) := by decide +kernel
theorem dX2_pull_35 : decode cX2_pull 35 = .ok (.iconst 1, 1) := by decide +kernel
theorem dX2_pull_36 : decode cX2_pull 36 = .ok (.iadd, 1) := by decide +kernel
theorem dX2_pull_37 : decode cX2_pull 37 = .ok (.putfield 62, 3) := by decide +kernel
theorem dX2_pull_40 : decode cX2_pull 40 = .ok (.aload 4, 2) := by decide +kernel
theorem dX2_pull_42 : decode cX2_pull 42 = .ok (.getfield 55, 3) := by decide +kernel
theorem dX2_pull_45 : decode cX2_pull 45 = .ok (.aload 4, 2) := by decide +kernel
theorem dX2_pull_47 : decode cX2_pull 47 = .ok (.getfield 65, 3) := by decide +kernel
theorem dX2_pull_50 : decode cX2_pull 50 = .ok (.lload 5, 2) := by decide +kernel
theorem dX2_pull_52 : decode cX2_pull 52 = .ok (.invokevirtual 88, 3) := by decide +kernel
theorem dX2_pull_55 : decode cX2_pull 55 = .ok (.ireturn, 1) := by decide +kernel
set_option maxRecDepth 20000 in
theorem ggX2_rest_X2_needleAt : GoodIn wsX2_rest wsX2_needleAt := goodIn_ca (goodIn_r _ [10, 11, 12, 13, 103, 104, 105, 106, 107] (by decide +kernel) (by decide +kernel)) (goodIn_sub (fun _ h => List.mem_cons_of_mem _ (List.mem_append_right _ h)) (by decide +kernel))
set_option maxRecDepth 20000 in
theorem gX2_rest_X2_needleAt : GoodIn wsX2_rest (wsV RX2 51 RX2 yX2_needleAt wsX2_needleAt) := goodIn_app (goodIn_of _ (by decide +kernel)) ggX2_rest_X2_needleAt
set_option maxRecDepth 20000 in
theorem ggX2_rest_X0_wholeOf : GoodIn wsX2_rest wsX0_wholeOf := goodIn_r _ [18, 19, 20, 21, 22, 23, 17, 24, 25, 26, 27, 28, 29, 30, 31, 32, 33, 34, 35, 36, 37, 38, 39, 40, 41, 42, 43, 44, 45, 46, 47, 48, 49, 50, 51, 52, 53, 54, 55, 56, 57, 58] (by decide +kernel) (by decide +kernel)
set_option maxRecDepth 20000 in
theorem gX2_rest_X0_wholeOf : GoodIn wsX2_rest (wsV RX2 93 RX0 yX0_wholeOf wsX0_wholeOf) := goodIn_app (goodIn_of _ (by decide +kernel)) ggX2_rest_X0_wholeOf
set_option maxRecDepth 20000 in
theorem ggX2_rest_X1_moveTo : GoodIn wsX2_rest wsX1_moveTo := goodIn_r _ [63, 64, 65, 66, 67, 68, 69, 70, 33, 71, 72, 73, 74, 62, 75, 76, 77, 78, 79, 80, 17, 81, 82, 83, 84, 85, 86, 87, 88, 89, 25, 26, 90, 91, 92, 93, 94, 22, 23, 24, 95, 96, 97, 98, 99, 100, 101, 102] (by decide +kernel) (by decide +kernel)
set_option maxRecDepth 20000 in
theorem gX2_rest_X1_moveTo : GoodIn wsX2_rest (wsV RX2 58 RX1 yX1_moveTo wsX1_moveTo) := goodIn_app (goodIn_of _ (by decide +kernel)) ggX2_rest_X1_moveTo
theorem dX2_rest_0 : decode cX2_rest 0 = .ok (.aload_n 0, 1) := by decide +kernel
theorem dX2_rest_1 : decode cX2_rest 1 = .ok (.iload_n 1, 1) := by decide +kernel
theorem dX2_rest_2 : decode cX2_rest 2 = .ok (.invokevirtual 51, 3) := by decide +kernel
theorem dX2_rest_5 : decode cX2_rest 5 = .ok (.astore_n 3, 1) := by decide +kernel
theorem dX2_rest_6 : decode cX2_rest 6 = .ok (.iload_n 2, 1) := by decide +kernel
theorem dX2_rest_7 : decode cX2_rest 7 = .ok (.ifCond .lt 8, 3) := by decide +kernel
theorem dX2_rest_10 : decode cX2_rest 10 = .ok (.iload_n 2, 1) := by decide +kernel
theorem dX2_rest_11 : decode cX2_rest 11 = .ok (.iconst 2, 1) := by decide +kernel
theorem dX2_rest_12 : decode cX2_rest 12 = .ok (.if_icmp .le 13, 3) := by decide +kernel
theorem dX2_rest_15 : decode cX2_rest 15 = .ok (.new 32, 3) := by decide +kernel
theorem dX2_rest_18 : decode cX2_rest 18 = .ok (.dup, 1) := by decide +kernel
theorem dX2_rest_19 : decode cX2_rest 19 = .ok (.ldc 91, 2) := by decide +kernel
theorem dX2_rest_21 : decode cX2_rest 21 = .ok (.invokespecial 36, 3) := by decide +kernel
theorem dX2_rest_24 : decode cX2_rest 24 = .ok (.athrow, 1) := by decide +kernel
theorem dX2_rest_25 : decode cX2_rest 25 = .ok (.aload_n 3, 1) := by decide +kernel
theorem dX2_rest_26 : decode cX2_rest 26 = .ok (.aload_n 3, 1) := by decide +kernel
theorem dX2_rest_27 : decode cX2_rest 27 = .ok (.getfield 55, 3) := by decide +kernel
theorem dX2_rest_30 : decode cX2_rest 30 = .ok (.aload_n 3, 1) := by decide +kernel
theorem dX2_rest_31 : decode cX2_rest 31 = .ok (.getfield 65, 3) := by decide +kernel
theorem dX2_rest_34 : decode cX2_rest 34 = .ok (.iload_n 2, 1) := by decide +kernel
theorem dX2_rest_35 : decode cX2_rest 35 = .ok (.invokevirtual 93, 3) := by decide +kernel
theorem dX2_rest_38 : decode cX2_rest 38 = .ok (.invokevirtual 58, 3) := by decide +kernel
theorem dX2_rest_41 : decode cX2_rest 41 = .ok (.aload_n 0, 1) := by decide +kernel
theorem dX2_rest_42 : decode cX2_rest 42 = .ok (.dup, 1) := by decide +kernel
theorem dX2_rest_43 : decode cX2_rest 43 = .ok (.getfield 62, 3) := by decide +kernel
theorem dX2_rest_46 : decode cX2_rest 46 = .ok (.iconst 1, 1) := by decide +kernel
theorem dX2_rest_47 : decode cX2_rest 47 = .ok (.iadd, 1) := by decide +kernel
theorem dX2_rest_48 : decode cX2_rest 48 = .ok (.putfield 62, 3) := by decide +kernel
theorem dX2_rest_51 : decode cX2_rest 51 = .ok (.aload_n 3, 1) := by decide +kernel
theorem dX2_rest_52 : decode cX2_rest 52 = .ok (.getfield 65, 3) := by decide +kernel
theorem dX2_rest_55 : decode cX2_rest 55 = .ok (.lreturn, 1) := by decide +kernel
set_option maxRecDepth 20000 in
theorem ggX2_face_X2_needleAt : GoodIn wsX2_face wsX2_needleAt := goodIn_ca (goodIn_r _ [8, 9, 10, 11, 68, 69, 70, 71, 72] (by decide +kernel) (by decide +kernel)) (goodIn_sub (fun _ h => List.mem_cons_of_mem _ (List.mem_append_right _ h)) (by decide +kernel))
set_option maxRecDepth 20000 in
theorem gX2_face_X2_needleAt : GoodIn wsX2_face (wsV RX2 51 RX2 yX2_needleAt wsX2_needleAt) := goodIn_app (goodIn_of _ (by decide +kernel)) ggX2_face_X2_needleAt
set_option maxRecDepth 20000 in
theorem ggX2_face_X0_withSideOf : GoodIn wsX2_face wsX0_withSideOf := goodIn_r _ [16, 17, 18, 19, 20, 15, 21, 22] (by decide +kernel) (by decide +kernel)
set_option maxRecDepth 20000 in
theorem gX2_face_X0_withSideOf : GoodIn wsX2_face (wsV RX2 97 RX0 yX0_withSideOf wsX0_withSideOf) := goodIn_app (goodIn_of _ (by decide +kernel)) ggX2_face_X0_withSideOf
set_option maxRecDepth 20000 in
theorem ggX2_face_X1_moveTo : GoodIn wsX2_face wsX1_moveTo := goodIn_r _ [27, 28, 29, 30, 31, 32, 33, 34, 35, 36, 37, 38, 39, 26, 40, 41, 42, 43, 44, 45, 15, 46, 47, 48, 49, 50, 51, 52, 53, 54, 17, 22, 55, 56, 57, 58, 59, 19, 20, 21, 60, 61, 62, 63, 64, 65, 66, 67] (by decide +kernel) (by decide +kernel)
set_option maxRecDepth 20000 in
theorem gX2_face_X1_moveTo : GoodIn wsX2_face (wsV RX2 58 RX1 yX1_moveTo wsX1_moveTo) := goodIn_app (goodIn_of _ (by decide +kernel)) ggX2_face_X1_moveTo
theorem dX2_face_0 : decode cX2_face 0 = .ok (.aload_n 0, 1) := by decide +kernel
theorem dX2_face_1 : decode cX2_face 1 = .ok (.iload_n 1, 1) := by decide +kernel
theorem dX2_face_2 : decode cX2_face 2 = .ok (.invokevirtual 51, 3) := by decide +kernel
theorem dX2_face_5 : decode cX2_face 5 = .ok (.astore_n 3, 1) := by decide +kernel
theorem dX2_face_6 : decode cX2_face 6 = .ok (.aload_n 0, 1) := by decide +kernel
theorem dX2_face_7 : decode cX2_face 7 = .ok (.iload_n 2, 1) := by decide +kernel
theorem dX2_face_8 : decode cX2_face 8 = .ok (.invokevirtual 51, 3) := by decide +kernel
theorem dX2_face_11 : decode cX2_face 11 = .ok (.astore 4, 2) := by decide +kernel
theorem dX2_face_13 : decode cX2_face 13 = .ok (.aload_n 3, 1) := by decide +kernel
theorem dX2_face_14 : decode cX2_face 14 = .ok (.aload_n 3, 1) := by decide +kernel
theorem dX2_face_15 : decode cX2_face 15 = .ok (.getfield 55, 3) := by decide +kernel
theorem dX2_face_18 : decode cX2_face 18 = .ok (.aload_n 3, 1) := by decide +kernel
theorem dX2_face_19 : decode cX2_face 19 = .ok (.getfield 65, 3) := by decide +kernel
theorem dX2_face_22 : decode cX2_face 22 = .ok (.aload 4, 2) := by decide +kernel
theorem dX2_face_24 : decode cX2_face 24 = .ok (.getfield 65, 3) := by decide +kernel
theorem dX2_face_27 : decode cX2_face 27 = .ok (.invokevirtual 97, 3) := by decide +kernel
theorem dX2_face_30 : decode cX2_face 30 = .ok (.invokevirtual 58, 3) := by decide +kernel
theorem dX2_face_33 : decode cX2_face 33 = .ok (.aload_n 0, 1) := by decide +kernel
theorem dX2_face_34 : decode cX2_face 34 = .ok (.dup, 1) := by decide +kernel
theorem dX2_face_35 : decode cX2_face 35 = .ok (.getfield 62, 3) := by decide +kernel
theorem dX2_face_38 : decode cX2_face 38 = .ok (.iconst 1, 1) := by decide +kernel
theorem dX2_face_39 : decode cX2_face 39 = .ok (.iadd, 1) := by decide +kernel
theorem dX2_face_40 : decode cX2_face 40 = .ok (.putfield 62, 3) := by decide +kernel
theorem dX2_face_43 : decode cX2_face 43 = .ok (.aload_n 3, 1) := by decide +kernel
theorem dX2_face_44 : decode cX2_face 44 = .ok (.getfield 65, 3) := by decide +kernel
theorem dX2_face_47 : decode cX2_face 47 = .ok (.lreturn, 1) := by decide +kernel
set_option maxRecDepth 20000 in
theorem ggX2_read_X2_needleAt : GoodIn wsX2_read wsX2_needleAt := goodIn_ca (goodIn_r _ [15, 16, 17, 18, 44, 45, 46, 47, 48] (by decide +kernel) (by decide +kernel)) (goodIn_sub (fun _ h => List.mem_cons_of_mem _ (List.mem_append_right _ h)) (by decide +kernel))
set_option maxRecDepth 20000 in
theorem gX2_read_X2_needleAt : GoodIn wsX2_read (wsV RX2 51 RX2 yX2_needleAt wsX2_needleAt) := goodIn_app (goodIn_of _ (by decide +kernel)) ggX2_read_X2_needleAt
set_option maxRecDepth 20000 in
theorem ggX2_read_X0_sizeOf : GoodIn wsX2_read wsX0_sizeOf := goodIn_r _ [23, 24, 25] (by decide +kernel) (by decide +kernel)
set_option maxRecDepth 20000 in
theorem gX2_read_X0_sizeOf : GoodIn wsX2_read (wsV RX2 78 RX0 yX0_sizeOf wsX0_sizeOf) := goodIn_app (goodIn_of _ (by decide +kernel)) ggX2_read_X0_sizeOf
set_option maxRecDepth 20000 in
theorem ggX2_read_X0_unitOf : GoodIn wsX2_read wsX0_unitOf := goodIn_r _ [29, 30, 31, 20, 21, 22, 23, 24, 25, 32, 33, 34, 35] (by decide +kernel) (by decide +kernel)
set_option maxRecDepth 20000 in
theorem gX2_read_X0_unitOf : GoodIn wsX2_read (wsV RX2 115 RX0 yX0_unitOf wsX0_unitOf) := goodIn_app (goodIn_of _ (by decide +kernel)) ggX2_read_X0_unitOf
theorem dX2_read_0 : decode cX2_read 0 = .ok (.aload_n 0, 1) := by decide +kernel
theorem dX2_read_1 : decode cX2_read 1 = .ok (.iload_n 1, 1) := by decide +kernel
theorem dX2_read_2 : decode cX2_read 2 = .ok (.invokevirtual 51, 3) := by decide +kernel
theorem dX2_read_5 : decode cX2_read 5 = .ok (.astore_n 3, 1) := by decide +kernel
theorem dX2_read_6 : decode cX2_read 6 = .ok (.iload_n 2, 1) := by decide +kernel
theorem dX2_read_7 : decode cX2_read 7 = .ok (.tableswitch 108 0 8 #[49, 54, 59, 64, 69, 74, 79, 84, 96], 49) := by decide +kernel
theorem dX2_read_56 : decode cX2_read 56 = .ok (.aload_n 3, 1) := by decide +kernel
theorem dX2_read_57 : decode cX2_read 57 = .ok (.getfield 65, 3) := by decide +kernel
theorem dX2_read_60 : decode cX2_read 60 = .ok (.lreturn, 1) := by decide +kernel
theorem dX2_read_61 : decode cX2_read 61 = .ok (.aload_n 3, 1) := by decide +kernel
theorem dX2_read_62 : decode cX2_read 62 = .ok (.getfield 100, 3) := by decide +kernel
theorem dX2_read_65 : decode cX2_read 65 = .ok (.lreturn, 1) := by decide +kernel
theorem dX2_read_66 : decode cX2_read 66 = .ok (.aload_n 3, 1) := by decide +kernel
theorem dX2_read_67 : decode cX2_read 67 = .ok (.getfield 103, 3) := by decide +kernel
theorem dX2_read_70 : decode cX2_read 70 = .ok (.lreturn, 1) := by decide +kernel
theorem dX2_read_71 : decode cX2_read 71 = .ok (.aload_n 3, 1) := by decide +kernel
theorem dX2_read_72 : decode cX2_read 72 = .ok (.getfield 106, 3) := by decide +kernel
theorem dX2_read_75 : decode cX2_read 75 = .ok (.lreturn, 1) := by decide +kernel
theorem dX2_read_76 : decode cX2_read 76 = .ok (.aload_n 3, 1) := by decide +kernel
theorem dX2_read_77 : decode cX2_read 77 = .ok (.getfield 109, 3) := by decide +kernel
theorem dX2_read_80 : decode cX2_read 80 = .ok (.lreturn, 1) := by decide +kernel
theorem dX2_read_81 : decode cX2_read 81 = .ok (.aload_n 3, 1) := by decide +kernel
theorem dX2_read_82 : decode cX2_read 82 = .ok (.getfield 112, 3) := by decide +kernel
theorem dX2_read_85 : decode cX2_read 85 = .ok (.lreturn, 1) := by decide +kernel
theorem dX2_read_86 : decode cX2_read 86 = .ok (.aload_n 3, 1) := by decide +kernel
theorem dX2_read_87 : decode cX2_read 87 = .ok (.getfield 82, 3) := by decide +kernel
theorem dX2_read_90 : decode cX2_read 90 = .ok (.lreturn, 1) := by decide +kernel
theorem dX2_read_91 : decode cX2_read 91 = .ok (.aload_n 3, 1) := by decide +kernel
theorem dX2_read_92 : decode cX2_read 92 = .ok (.getfield 55, 3) := by decide +kernel
theorem dX2_read_95 : decode cX2_read 95 = .ok (.aload_n 3, 1) := by decide +kernel
theorem dX2_read_96 : decode cX2_read 96 = .ok (.getfield 65, 3) := by decide +kernel
theorem dX2_read_99 : decode cX2_read 99 = .ok (.invokevirtual 78, 3) := by decide +kernel
theorem dX2_read_102 : decode cX2_read 102 = .ok (.lreturn, 1) := by decide +kernel
theorem dX2_read_103 : decode cX2_read 103 = .ok (.aload_n 3, 1) := by decide +kernel
theorem dX2_read_104 : decode cX2_read 104 = .ok (.getfield 55, 3) := by decide +kernel
theorem dX2_read_107 : decode cX2_read 107 = .ok (.aload_n 3, 1) := by decide +kernel
theorem dX2_read_108 : decode cX2_read 108 = .ok (.getfield 65, 3) := by decide +kernel
theorem dX2_read_111 : decode cX2_read 111 = .ok (.invokevirtual 115, 3) := by decide +kernel
theorem dX2_read_114 : decode cX2_read 114 = .ok (.lreturn, 1) := by decide +kernel
theorem dX2_read_115 : decode cX2_read 115 = .ok (.new 32, 3) := by decide +kernel
theorem dX2_read_118 : decode cX2_read 118 = .ok (.dup, 1) := by decide +kernel
theorem dX2_read_119 : decode cX2_read 119 = .ok (.ldc 118, 2) := by decide +kernel
theorem dX2_read_121 : decode cX2_read 121 = .ok (.invokespecial 36, 3) := by decide +kernel
theorem dX2_read_124 : decode cX2_read 124 = .ok (.athrow, 1) := by decide +kernel
set_option maxRecDepth 20000 in
theorem ggX2_between_X2_needleAt : GoodIn wsX2_between wsX2_needleAt := goodIn_ca (goodIn_r _ [16, 17, 18, 19, 51, 52, 53, 54, 55] (by decide +kernel) (by decide +kernel)) (goodIn_sub (fun _ h => List.mem_cons_of_mem _ (List.mem_append_right _ h)) (by decide +kernel))
set_option maxRecDepth 20000 in
theorem gX2_between_X2_needleAt : GoodIn wsX2_between (wsV RX2 51 RX2 yX2_needleAt wsX2_needleAt) := goodIn_app (goodIn_of _ (by decide +kernel)) ggX2_between_X2_needleAt
set_option maxRecDepth 20000 in
theorem ggX2_between_X0_lesserOf : GoodIn wsX2_between wsX0_lesserOf := goodIn_r _ [24, 25, 26, 27, 23, 28, 29, 30, 31, 32, 33, 34] (by decide +kernel) (by decide +kernel)
set_option maxRecDepth 20000 in
theorem gX2_between_X0_lesserOf : GoodIn wsX2_between (wsV RX2 122 RX0 yX0_lesserOf wsX0_lesserOf) := goodIn_app (goodIn_of _ (by decide +kernel)) ggX2_between_X0_lesserOf
set_option maxRecDepth 20000 in
theorem ggX2_between_X0_greaterOf : GoodIn wsX2_between wsX0_greaterOf := goodIn_r _ [38, 25, 26, 27, 23, 28, 29, 30, 31, 32, 33, 34] (by decide +kernel) (by decide +kernel)
set_option maxRecDepth 20000 in
theorem gX2_between_X0_greaterOf : GoodIn wsX2_between (wsV RX2 125 RX0 yX0_greaterOf wsX0_greaterOf) := goodIn_app (goodIn_of _ (by decide +kernel)) ggX2_between_X0_greaterOf
set_option maxRecDepth 20000 in
theorem ggX2_between_X0_sizeOf : GoodIn wsX2_between wsX0_sizeOf := goodIn_r _ [42, 33, 34] (by decide +kernel) (by decide +kernel)
set_option maxRecDepth 20000 in
theorem gX2_between_X0_sizeOf : GoodIn wsX2_between (wsV RX2 78 RX0 yX0_sizeOf wsX0_sizeOf) := goodIn_app (goodIn_of _ (by decide +kernel)) ggX2_between_X0_sizeOf
theorem dX2_between_0 : decode cX2_between 0 = .ok (.aload_n 0, 1) := by decide +kernel
theorem dX2_between_1 : decode cX2_between 1 = .ok (.iload_n 1, 1) := by decide +kernel
theorem dX2_between_2 : decode cX2_between 2 = .ok (.invokevirtual 51, 3) := by decide +kernel
theorem dX2_between_5 : decode cX2_between 5 = .ok (.astore 4, 2) := by decide +kernel
theorem dX2_between_7 : decode cX2_between 7 = .ok (.aload_n 0, 1) := by decide +kernel
theorem dX2_between_8 : decode cX2_between 8 = .ok (.iload_n 2, 1) := by decide +kernel
theorem dX2_between_9 : decode cX2_between 9 = .ok (.invokevirtual 51, 3) := by decide +kernel
theorem dX2_between_12 : decode cX2_between 12 = .ok (.astore 5, 2) := by decide +kernel
theorem dX2_between_14 : decode cX2_between 14 = .ok (.aload 4, 2) := by decide +kernel
theorem dX2_between_16 : decode cX2_between 16 = .ok (.getfield 55, 3) := by decide +kernel
theorem dX2_between_19 : decode cX2_between 19 = .ok (.astore 6, 2) := by decide +kernel
theorem dX2_between_21 : decode cX2_between 21 = .ok (.aload 6, 2) := by decide +kernel
theorem dX2_between_23 : decode cX2_between 23 = .ok (.aload 5, 2) := by decide +kernel
theorem dX2_between_25 : decode cX2_between 25 = .ok (.getfield 55, 3) := by decide +kernel
theorem dX2_between_28 : decode cX2_between 28 = .ok (.if_acmp .eq 13, 3) := by decide +kernel
theorem dX2_between_31 : decode cX2_between 31 = .ok (.new 32, 3) := by decide +kernel
theorem dX2_between_34 : decode cX2_between 34 = .ok (.dup, 1) := by decide +kernel
theorem dX2_between_35 : decode cX2_between 35 = .ok (.ldc 120, 2) := by decide +kernel
theorem dX2_between_37 : decode cX2_between 37 = .ok (.invokespecial 36, 3) := by decide +kernel
theorem dX2_between_40 : decode cX2_between 40 = .ok (.athrow, 1) := by decide +kernel
theorem dX2_between_41 : decode cX2_between 41 = .ok (.iload_n 3, 1) := by decide +kernel
theorem dX2_between_42 : decode cX2_between 42 = .ok (.tableswitch 110 0 3 #[30, 46, 62, 86], 30) := by decide +kernel
theorem dX2_between_72 : decode cX2_between 72 = .ok (.aload 6, 2) := by decide +kernel
theorem dX2_between_74 : decode cX2_between 74 = .ok (.aload 4, 2) := by decide +kernel
theorem dX2_between_76 : decode cX2_between 76 = .ok (.getfield 65, 3) := by decide +kernel
theorem dX2_between_79 : decode cX2_between 79 = .ok (.aload 5, 2) := by decide +kernel
theorem dX2_between_81 : decode cX2_between 81 = .ok (.getfield 65, 3) := by decide +kernel
theorem dX2_between_84 : decode cX2_between 84 = .ok (.invokevirtual 122, 3) := by decide +kernel
theorem dX2_between_87 : decode cX2_between 87 = .ok (.lreturn, 1) := by decide +kernel
theorem dX2_between_88 : decode cX2_between 88 = .ok (.aload 6, 2) := by decide +kernel
theorem dX2_between_90 : decode cX2_between 90 = .ok (.aload 4, 2) := by decide +kernel
theorem dX2_between_92 : decode cX2_between 92 = .ok (.getfield 65, 3) := by decide +kernel
theorem dX2_between_95 : decode cX2_between 95 = .ok (.aload 5, 2) := by decide +kernel
theorem dX2_between_97 : decode cX2_between 97 = .ok (.getfield 65, 3) := by decide +kernel
theorem dX2_between_100 : decode cX2_between 100 = .ok (.invokevirtual 125, 3) := by decide +kernel
theorem dX2_between_103 : decode cX2_between 103 = .ok (.lreturn, 1) := by decide +kernel
theorem dX2_between_104 : decode cX2_between 104 = .ok (.aload 6, 2) := by decide +kernel
theorem dX2_between_106 : decode cX2_between 106 = .ok (.aload 4, 2) := by decide +kernel
theorem dX2_between_108 : decode cX2_between 108 = .ok (.getfield 65, 3) := by decide +kernel
theorem dX2_between_111 : decode cX2_between 111 = .ok (.invokevirtual 78, 3) := by decide +kernel
theorem dX2_between_114 : decode cX2_between 114 = .ok (.aload 6, 2) := by decide +kernel
theorem dX2_between_116 : decode cX2_between 116 = .ok (.aload 5, 2) := by decide +kernel
theorem dX2_between_118 : decode cX2_between 118 = .ok (.getfield 65, 3) := by decide +kernel
theorem dX2_between_121 : decode cX2_between 121 = .ok (.invokevirtual 78, 3) := by decide +kernel
theorem dX2_between_124 : decode cX2_between 124 = .ok (.invokestatic 128, 3) := by decide +kernel
theorem dX2_between_127 : decode cX2_between 127 = .ok (.lreturn, 1) := by decide +kernel
theorem dX2_between_128 : decode cX2_between 128 = .ok (.aload 6, 2) := by decide +kernel
theorem dX2_between_130 : decode cX2_between 130 = .ok (.aload 4, 2) := by decide +kernel
theorem dX2_between_132 : decode cX2_between 132 = .ok (.getfield 65, 3) := by decide +kernel
theorem dX2_between_135 : decode cX2_between 135 = .ok (.invokevirtual 78, 3) := by decide +kernel
theorem dX2_between_138 : decode cX2_between 138 = .ok (.aload 6, 2) := by decide +kernel
theorem dX2_between_140 : decode cX2_between 140 = .ok (.aload 5, 2) := by decide +kernel
theorem dX2_between_142 : decode cX2_between 142 = .ok (.getfield 65, 3) := by decide +kernel
theorem dX2_between_145 : decode cX2_between 145 = .ok (.invokevirtual 78, 3) := by decide +kernel
theorem dX2_between_148 : decode cX2_between 148 = .ok (.invokestatic 133, 3) := by decide +kernel
theorem dX2_between_151 : decode cX2_between 151 = .ok (.lreturn, 1) := by decide +kernel
theorem dX2_between_152 : decode cX2_between 152 = .ok (.new 32, 3) := by decide +kernel
theorem dX2_between_155 : decode cX2_between 155 = .ok (.dup, 1) := by decide +kernel
theorem dX2_between_156 : decode cX2_between 156 = .ok (.ldc 136, 2) := by decide +kernel
theorem dX2_between_158 : decode cX2_between 158 = .ok (.invokespecial 36, 3) := by decide +kernel
theorem dX2_between_161 : decode cX2_between 161 = .ok (.athrow, 1) := by decide +kernel
set_option maxRecDepth 20000 in
theorem ggX2_order_X2_needleAt : GoodIn wsX2_order wsX2_needleAt := goodIn_ca (goodIn_r _ [6, 7, 8, 9, 73, 74, 75, 76, 77] (by decide +kernel) (by decide +kernel)) (goodIn_sub (fun _ h => List.mem_cons_of_mem _ (List.mem_append_right _ h)) (by decide +kernel))
set_option maxRecDepth 20000 in
theorem gX2_order_X2_needleAt : GoodIn wsX2_order (wsV RX2 51 RX2 yX2_needleAt wsX2_needleAt) := goodIn_app (goodIn_of _ (by decide +kernel)) ggX2_order_X2_needleAt
set_option maxRecDepth 20000 in
theorem ggX2_order_X1_fineValue : GoodIn wsX2_order wsX1_fineValue := goodIn_r _ [14, 15, 16, 17, 18, 19, 20, 21, 22, 23, 24, 25, 26, 27, 28, 29, 30, 31, 32, 33, 34, 35, 36, 37, 38, 39, 40, 41, 42, 43, 44, 45, 46, 47, 48, 49, 50, 51, 52, 53, 54, 55, 56, 57, 58, 59, 60, 61, 62, 63, 64, 78, 79, 80, 81, 82, 83, 84, 85] (by decide +kernel) (by decide +kernel)
set_option maxRecDepth 20000 in
theorem gX2_order_X1_fineValue : GoodIn wsX2_order (wsV RX2 138 RX1 yX1_fineValue wsX1_fineValue) := goodIn_app (goodIn_of _ (by decide +kernel)) ggX2_order_X1_fineValue
set_option maxRecDepth 20000 in
theorem ggX2_order_X0_isBelow : GoodIn wsX2_order wsX0_isBelow := goodIn_r _ [68, 69, 70, 71, 20, 72, 31, 32] (by decide +kernel) (by decide +kernel)
set_option maxRecDepth 20000 in
theorem gX2_order_X0_isBelow : GoodIn wsX2_order (wsV RX2 28 RX0 yX0_isBelow wsX0_isBelow) := goodIn_app (goodIn_of _ (by decide +kernel)) ggX2_order_X0_isBelow
theorem dX2_order_0 : decode cX2_order 0 = .ok (.aload_n 0, 1) := by decide +kernel
theorem dX2_order_1 : decode cX2_order 1 = .ok (.iload_n 1, 1) := by decide +kernel
theorem dX2_order_2 : decode cX2_order 2 = .ok (.invokevirtual 51, 3) := by decide +kernel
theorem dX2_order_5 : decode cX2_order 5 = .ok (.invokevirtual 138, 3) := by decide +kernel
theorem dX2_order_8 : decode cX2_order 8 = .ok (.lstore_n 3, 1) := by decide +kernel
theorem dX2_order_9 : decode cX2_order 9 = .ok (.aload_n 0, 1) := by decide +kernel
theorem dX2_order_10 : decode cX2_order 10 = .ok (.iload_n 2, 1) := by decide +kernel
theorem dX2_order_11 : decode cX2_order 11 = .ok (.invokevirtual 51, 3) := by decide +kernel
theorem dX2_order_14 : decode cX2_order 14 = .ok (.invokevirtual 138, 3) := by decide +kernel
theorem dX2_order_17 : decode cX2_order 17 = .ok (.lstore 5, 2) := by decide +kernel
theorem dX2_order_19 : decode cX2_order 19 = .ok (.getstatic 15, 3) := by decide +kernel
theorem dX2_order_22 : decode cX2_order 22 = .ok (.lload_n 3, 1) := by decide +kernel
theorem dX2_order_23 : decode cX2_order 23 = .ok (.lload 5, 2) := by decide +kernel
theorem dX2_order_25 : decode cX2_order 25 = .ok (.invokevirtual 28, 3) := by decide +kernel
theorem dX2_order_28 : decode cX2_order 28 = .ok (.ifCond .eq 5, 3) := by decide +kernel
theorem dX2_order_31 : decode cX2_order 31 = .ok (.iconst (-1), 1) := by decide +kernel
theorem dX2_order_32 : decode cX2_order 32 = .ok (.ireturn, 1) := by decide +kernel
theorem dX2_order_33 : decode cX2_order 33 = .ok (.lload_n 3, 1) := by decide +kernel
theorem dX2_order_34 : decode cX2_order 34 = .ok (.lload 5, 2) := by decide +kernel
theorem dX2_order_36 : decode cX2_order 36 = .ok (.lcmp, 1) := by decide +kernel
theorem dX2_order_37 : decode cX2_order 37 = .ok (.ifCond .ne 7, 3) := by decide +kernel
theorem dX2_order_40 : decode cX2_order 40 = .ok (.iconst 0, 1) := by decide +kernel
theorem dX2_order_41 : decode cX2_order 41 = .ok (.goto 4, 3) := by decide +kernel
theorem dX2_order_44 : decode cX2_order 44 = .ok (.iconst 1, 1) := by decide +kernel
theorem dX2_order_45 : decode cX2_order 45 = .ok (.ireturn, 1) := by decide +kernel
set_option maxRecDepth 20000 in
theorem ggX2_back_X2_needleAt : GoodIn wsX2_back wsX2_needleAt := goodIn_ca (goodIn_r _ [5, 6, 7, 8, 48, 49, 50, 51, 52] (by decide +kernel) (by decide +kernel)) (goodIn_sub (fun _ h => List.mem_cons_of_mem _ (List.mem_append_right _ h)) (by decide +kernel))
set_option maxRecDepth 20000 in
theorem gX2_back_X2_needleAt : GoodIn wsX2_back (wsV RX2 51 RX2 yX2_needleAt wsX2_needleAt) := goodIn_app (goodIn_of _ (by decide +kernel)) ggX2_back_X2_needleAt
set_option maxRecDepth 20000 in
theorem ggX2_back_X1_startAgain : GoodIn wsX2_back wsX1_startAgain := goodIn_r _ [13, 14, 15, 16, 17, 18, 19, 20, 21, 12, 22, 23, 24, 25, 26, 27, 28, 29, 30, 31, 32, 33, 34, 35, 36, 37, 38, 39, 40, 41, 42, 43, 44, 45, 46, 47, 53, 54, 55, 56, 57, 58, 59, 60] (by decide +kernel) (by decide +kernel)
set_option maxRecDepth 20000 in
theorem gX2_back_X1_startAgain : GoodIn wsX2_back (wsV RX2 142 RX1 yX1_startAgain wsX1_startAgain) := goodIn_app (goodIn_of _ (by decide +kernel)) ggX2_back_X1_startAgain
theorem dX2_back_0 : decode cX2_back 0 = .ok (.aload_n 0, 1) := by decide +kernel
theorem dX2_back_1 : decode cX2_back 1 = .ok (.iload_n 1, 1) := by decide +kernel
theorem dX2_back_2 : decode cX2_back 2 = .ok (.invokevirtual 51, 3) := by decide +kernel
theorem dX2_back_5 : decode cX2_back 5 = .ok (.invokevirtual 142, 3) := by decide +kernel
theorem dX2_back_8 : decode cX2_back 8 = .ok (.return_, 1) := by decide +kernel
set_option maxRecDepth 20000 in
theorem ggX2_tally_X2_tallied : GoodIn wsX2_tally wsX2_tallied := goodIn_r _ [8, 9, 10, 11, 12, 13, 14, 15, 16, 17, 18] (by decide +kernel) (by decide +kernel)
set_option maxRecDepth 20000 in
theorem gX2_tally_X2_tallied : GoodIn wsX2_tally (va_wsS RX2 150 yX2_tallied wsX2_tallied) := goodIn_app (goodIn_of _ (by decide +kernel)) ggX2_tally_X2_tallied
theorem dX2_tally_0 : decode cX2_tally 0 = .ok (.iload_n 2, 1) := by decide +kernel
theorem dX2_tally_1 : decode cX2_tally 1 = .ok (.ifCond .lt 8, 3) := by decide +kernel
theorem dX2_tally_4 : decode cX2_tally 4 = .ok (.iload_n 2, 1) := by decide +kernel
theorem dX2_tally_5 : decode cX2_tally 5 = .ok (.iconst 4, 1) := by decide +kernel
theorem dX2_tally_6 : decode cX2_tally 6 = .ok (.if_icmp .le 13, 3) := by decide +kernel
theorem dX2_tally_9 : decode cX2_tally 9 = .ok (.new 32, 3) := by decide +kernel
theorem dX2_tally_12 : decode cX2_tally 12 = .ok (.dup, 1) := by decide +kernel
theorem dX2_tally_13 : decode cX2_tally 13 = .ok (.ldc 145, 2) := by decide +kernel
theorem dX2_tally_15 : decode cX2_tally 15 = .ok (.invokespecial 36, 3) := by decide +kernel
theorem dX2_tally_18 : decode cX2_tally 18 = .ok (.athrow, 1) := by decide +kernel
theorem dX2_tally_19 : decode cX2_tally 19 = .ok (.iload_n 1, 1) := by decide +kernel
theorem dX2_tally_20 : decode cX2_tally 20 = .ok (.ifCond .eq 21, 3) := by decide +kernel
theorem dX2_tally_23 : decode cX2_tally 23 = .ok (.aload_n 0, 1) := by decide +kernel
theorem dX2_tally_24 : decode cX2_tally 24 = .ok (.iload_n 2, 1) := by decide +kernel
theorem dX2_tally_25 : decode cX2_tally 25 = .ok (.aload_n 0, 1) := by decide +kernel
theorem dX2_tally_26 : decode cX2_tally 26 = .ok (.getfield 147, 3) := by decide +kernel
theorem dX2_tally_29 : decode cX2_tally 29 = .ok (.lload_n 3, 1) := by decide +kernel
theorem dX2_tally_30 : decode cX2_tally 30 = .ok (.invokestatic 150, 3) := by decide +kernel
theorem dX2_tally_33 : decode cX2_tally 33 = .ok (.putfield 147, 3) := by decide +kernel
theorem dX2_tally_36 : decode cX2_tally 36 = .ok (.aload_n 0, 1) := by decide +kernel
theorem dX2_tally_37 : decode cX2_tally 37 = .ok (.getfield 147, 3) := by decide +kernel
theorem dX2_tally_40 : decode cX2_tally 40 = .ok (.lreturn, 1) := by decide +kernel
theorem dX2_tally_41 : decode cX2_tally 41 = .ok (.aload_n 0, 1) := by decide +kernel
theorem dX2_tally_42 : decode cX2_tally 42 = .ok (.iload_n 2, 1) := by decide +kernel
theorem dX2_tally_43 : decode cX2_tally 43 = .ok (.aload_n 0, 1) := by decide +kernel
theorem dX2_tally_44 : decode cX2_tally 44 = .ok (.getfield 154, 3) := by decide +kernel
theorem dX2_tally_47 : decode cX2_tally 47 = .ok (.i2l, 1) := by decide +kernel
theorem dX2_tally_48 : decode cX2_tally 48 = .ok (.lload_n 3, 1) := by decide +kernel
theorem dX2_tally_49 : decode cX2_tally 49 = .ok (.l2i, 1) := by decide +kernel
theorem dX2_tally_50 : decode cX2_tally 50 = .ok (.i2l, 1) := by decide +kernel
theorem dX2_tally_51 : decode cX2_tally 51 = .ok (.invokestatic 150, 3) := by decide +kernel
theorem dX2_tally_54 : decode cX2_tally 54 = .ok (.l2i, 1) := by decide +kernel
theorem dX2_tally_55 : decode cX2_tally 55 = .ok (.putfield 154, 3) := by decide +kernel
theorem dX2_tally_58 : decode cX2_tally 58 = .ok (.aload_n 0, 1) := by decide +kernel
theorem dX2_tally_59 : decode cX2_tally 59 = .ok (.getfield 154, 3) := by decide +kernel
theorem dX2_tally_62 : decode cX2_tally 62 = .ok (.i2l, 1) := by decide +kernel
theorem dX2_tally_63 : decode cX2_tally 63 = .ok (.lreturn, 1) := by decide +kernel
set_option maxRecDepth 20000 in
theorem ggX2_count_X2_countNeedles : GoodIn wsX2_count wsX2_countNeedles := goodIn_r _ [7, 8, 9, 10, 11, 12, 13, 14, 15, 16, 17, 18, 19, 20, 21, 22, 23, 24, 25, 26, 27, 28, 29, 30, 31, 32, 33, 34, 35, 36, 37, 38] (by decide +kernel) (by decide +kernel)
set_option maxRecDepth 20000 in
theorem gX2_count_X2_countNeedles : GoodIn wsX2_count (wsV RX2 157 RX2 yX2_countNeedles wsX2_countNeedles) := goodIn_app (goodIn_of _ (by decide +kernel)) ggX2_count_X2_countNeedles
theorem dX2_count_0 : decode cX2_count 0 = .ok (.iload_n 1, 1) := by decide +kernel
theorem dX2_count_1 : decode cX2_count 1 = .ok (.tableswitch 51 0 4 #[35, 40, 40, 40, 46], 35) := by decide +kernel
theorem dX2_count_36 : decode cX2_count 36 = .ok (.aload_n 0, 1) := by decide +kernel
theorem dX2_count_37 : decode cX2_count 37 = .ok (.getfield 39, 3) := by decide +kernel
theorem dX2_count_40 : decode cX2_count 40 = .ok (.ireturn, 1) := by decide +kernel
theorem dX2_count_41 : decode cX2_count 41 = .ok (.aload_n 0, 1) := by decide +kernel
theorem dX2_count_42 : decode cX2_count 42 = .ok (.iload_n 1, 1) := by decide +kernel
theorem dX2_count_43 : decode cX2_count 43 = .ok (.invokevirtual 157, 3) := by decide +kernel
theorem dX2_count_46 : decode cX2_count 46 = .ok (.ireturn, 1) := by decide +kernel
theorem dX2_count_47 : decode cX2_count 47 = .ok (.aload_n 0, 1) := by decide +kernel
theorem dX2_count_48 : decode cX2_count 48 = .ok (.getfield 62, 3) := by decide +kernel
theorem dX2_count_51 : decode cX2_count 51 = .ok (.ireturn, 1) := by decide +kernel
theorem dX2_count_52 : decode cX2_count 52 = .ok (.iconst (-1), 1) := by decide +kernel
theorem dX2_count_53 : decode cX2_count 53 = .ok (.ireturn, 1) := by decide +kernel
theorem dX2_needleAt_0 : decode cX2_needleAt 0 = .ok (.iload_n 1, 1) := by decide +kernel
theorem dX2_needleAt_1 : decode cX2_needleAt 1 = .ok (.ifCond .lt 12, 3) := by decide +kernel
theorem dX2_needleAt_4 : decode cX2_needleAt 4 = .ok (.iload_n 1, 1) := by decide +kernel
theorem dX2_needleAt_5 : decode cX2_needleAt 5 = .ok (.aload_n 0, 1) := by decide +kernel
theorem dX2_needleAt_6 : decode cX2_needleAt 6 = .ok (.getfield 11, 3) := by decide +kernel
theorem dX2_needleAt_9 : decode cX2_needleAt 9 = .ok (.arraylength, 1) := by decide +kernel
theorem dX2_needleAt_10 : decode cX2_needleAt 10 = .ok (.if_icmp .lt 7, 3) := by decide +kernel
theorem dX2_needleAt_13 : decode cX2_needleAt 13 = .ok (.aconst_null, 1) := by decide +kernel
theorem dX2_needleAt_14 : decode cX2_needleAt 14 = .ok (.goto 9, 3) := by decide +kernel
theorem dX2_needleAt_17 : decode cX2_needleAt 17 = .ok (.aload_n 0, 1) := by decide +kernel
theorem dX2_needleAt_18 : decode cX2_needleAt 18 = .ok (.getfield 11, 3) := by decide +kernel
theorem dX2_needleAt_21 : decode cX2_needleAt 21 = .ok (.iload_n 1, 1) := by decide +kernel
theorem dX2_needleAt_22 : decode cX2_needleAt 22 = .ok (.aaload, 1) := by decide +kernel
theorem dX2_needleAt_23 : decode cX2_needleAt 23 = .ok (.astore_n 2, 1) := by decide +kernel
theorem dX2_needleAt_24 : decode cX2_needleAt 24 = .ok (.aload_n 2, 1) := by decide +kernel
theorem dX2_needleAt_25 : decode cX2_needleAt 25 = .ok (.ifnonnull 13, 3) := by decide +kernel
theorem dX2_needleAt_28 : decode cX2_needleAt 28 = .ok (.new 161, 3) := by decide +kernel
theorem dX2_needleAt_31 : decode cX2_needleAt 31 = .ok (.dup, 1) := by decide +kernel
theorem dX2_needleAt_32 : decode cX2_needleAt 32 = .ok (.ldc 163, 2) := by decide +kernel
theorem dX2_needleAt_34 : decode cX2_needleAt 34 = .ok (.invokespecial 165, 3) := by decide +kernel
theorem dX2_needleAt_37 : decode cX2_needleAt 37 = .ok (.athrow, 1) := by decide +kernel
theorem dX2_needleAt_38 : decode cX2_needleAt 38 = .ok (.aload_n 2, 1) := by decide +kernel
theorem dX2_needleAt_39 : decode cX2_needleAt 39 = .ok (.areturn, 1) := by decide +kernel
set_option maxRecDepth 20000 in
theorem ggX2_numberFrom_X0_trimmed : GoodIn wsX2_numberFrom wsX0_trimmed := goodIn_r _ [7, 8] (by decide +kernel) (by decide +kernel)
set_option maxRecDepth 20000 in
theorem gX2_numberFrom_X0_trimmed : GoodIn wsX2_numberFrom (wsV RX2 166 RX0 yX0_trimmed wsX0_trimmed) := goodIn_app (goodIn_of _ (by decide +kernel)) ggX2_numberFrom_X0_trimmed
set_option maxRecDepth 20000 in
theorem ggX2_numberFrom_X0_isNumber : GoodIn wsX2_numberFrom wsX0_isNumber := goodIn_r _ [12, 13, 14, 15, 16, 6, 17, 18, 19] (by decide +kernel) (by decide +kernel)
set_option maxRecDepth 20000 in
theorem gX2_numberFrom_X0_isNumber : GoodIn wsX2_numberFrom (wsV RX2 169 RX0 yX0_isNumber wsX0_isNumber) := goodIn_app (goodIn_of _ (by decide +kernel)) ggX2_numberFrom_X0_isNumber
theorem dX2_numberFrom_0 : decode cX2_numberFrom 0 = .ok (.aload_n 0, 1) := by decide +kernel
theorem dX2_numberFrom_1 : decode cX2_numberFrom 1 = .ok (.lload_n 1, 1) := by decide +kernel
theorem dX2_numberFrom_2 : decode cX2_numberFrom 2 = .ok (.invokevirtual 166, 3) := by decide +kernel
theorem dX2_numberFrom_5 : decode cX2_numberFrom 5 = .ok (.lstore_n 3, 1) := by decide +kernel
theorem dX2_numberFrom_6 : decode cX2_numberFrom 6 = .ok (.aload_n 0, 1) := by decide +kernel
theorem dX2_numberFrom_7 : decode cX2_numberFrom 7 = .ok (.lload_n 3, 1) := by decide +kernel
theorem dX2_numberFrom_8 : decode cX2_numberFrom 8 = .ok (.invokevirtual 169, 3) := by decide +kernel
theorem dX2_numberFrom_11 : decode cX2_numberFrom 11 = .ok (.ifCond .ne 13, 3) := by decide +kernel
theorem dX2_numberFrom_14 : decode cX2_numberFrom 14 = .ok (.new 32, 3) := by decide +kernel
theorem dX2_numberFrom_17 : decode cX2_numberFrom 17 = .ok (.dup, 1) := by decide +kernel
theorem dX2_numberFrom_18 : decode cX2_numberFrom 18 = .ok (.ldc 173, 2) := by decide +kernel
theorem dX2_numberFrom_20 : decode cX2_numberFrom 20 = .ok (.invokespecial 36, 3) := by decide +kernel
theorem dX2_numberFrom_23 : decode cX2_numberFrom 23 = .ok (.athrow, 1) := by decide +kernel
theorem dX2_numberFrom_24 : decode cX2_numberFrom 24 = .ok (.lload_n 3, 1) := by decide +kernel
theorem dX2_numberFrom_25 : decode cX2_numberFrom 25 = .ok (.lreturn, 1) := by decide +kernel
theorem dX2_tallied_0 : decode cX2_tallied 0 = .ok (.iload_n 0, 1) := by decide +kernel
theorem dX2_tallied_1 : decode cX2_tallied 1 = .ok (.tableswitch 50 0 3 #[31, 33, 39, 45], 31) := by decide +kernel
theorem dX2_tallied_32 : decode cX2_tallied 32 = .ok (.lload_n 3, 1) := by decide +kernel
theorem dX2_tallied_33 : decode cX2_tallied 33 = .ok (.lreturn, 1) := by decide +kernel
theorem dX2_tallied_34 : decode cX2_tallied 34 = .ok (.lload_n 1, 1) := by decide +kernel
theorem dX2_tallied_35 : decode cX2_tallied 35 = .ok (.lload_n 3, 1) := by decide +kernel
theorem dX2_tallied_36 : decode cX2_tallied 36 = .ok (.invokestatic 133, 3) := by decide +kernel
theorem dX2_tallied_39 : decode cX2_tallied 39 = .ok (.lreturn, 1) := by decide +kernel
theorem dX2_tallied_40 : decode cX2_tallied 40 = .ok (.lload_n 1, 1) := by decide +kernel
theorem dX2_tallied_41 : decode cX2_tallied 41 = .ok (.lload_n 3, 1) := by decide +kernel
theorem dX2_tallied_42 : decode cX2_tallied 42 = .ok (.invokestatic 128, 3) := by decide +kernel
theorem dX2_tallied_45 : decode cX2_tallied 45 = .ok (.lreturn, 1) := by decide +kernel
theorem dX2_tallied_46 : decode cX2_tallied 46 = .ok (.lload_n 3, 1) := by decide +kernel
theorem dX2_tallied_47 : decode cX2_tallied 47 = .ok (.invokestatic 175, 3) := by decide +kernel
theorem dX2_tallied_50 : decode cX2_tallied 50 = .ok (.lreturn, 1) := by decide +kernel
theorem dX2_tallied_51 : decode cX2_tallied 51 = .ok (.lload_n 1, 1) := by decide +kernel
theorem dX2_tallied_52 : decode cX2_tallied 52 = .ok (.invokestatic 175, 3) := by decide +kernel
theorem dX2_tallied_55 : decode cX2_tallied 55 = .ok (.lload_n 3, 1) := by decide +kernel
theorem dX2_tallied_56 : decode cX2_tallied 56 = .ok (.invokestatic 175, 3) := by decide +kernel
theorem dX2_tallied_59 : decode cX2_tallied 59 = .ok (.lsub, 1) := by decide +kernel
theorem dX2_tallied_60 : decode cX2_tallied 60 = .ok (.lreturn, 1) := by decide +kernel
set_option maxRecDepth 20000 in
theorem ggX2_countNeedles_X1_isCounted : GoodIn wsX2_countNeedles wsX1_isCounted := goodIn_r _ [6, 7, 8, 9, 10, 11, 12, 13, 14, 15, 16, 17, 18, 24, 25, 26, 27, 28, 29, 30, 31] (by decide +kernel) (by decide +kernel)
set_option maxRecDepth 20000 in
theorem gX2_countNeedles_X1_isCounted : GoodIn wsX2_countNeedles (wsV RX2 178 RX1 yX1_isCounted wsX1_isCounted) := goodIn_app (goodIn_of _ (by decide +kernel)) ggX2_countNeedles_X1_isCounted
theorem dX2_countNeedles_0 : decode cX2_countNeedles 0 = .ok (.iconst 0, 1) := by decide +kernel
theorem dX2_countNeedles_1 : decode cX2_countNeedles 1 = .ok (.istore_n 2, 1) := by decide +kernel
theorem dX2_countNeedles_2 : decode cX2_countNeedles 2 = .ok (.aload_n 0, 1) := by decide +kernel
theorem dX2_countNeedles_3 : decode cX2_countNeedles 3 = .ok (.getfield 11, 3) := by decide +kernel
theorem dX2_countNeedles_6 : decode cX2_countNeedles 6 = .ok (.astore_n 3, 1) := by decide +kernel
theorem dX2_countNeedles_7 : decode cX2_countNeedles 7 = .ok (.aload_n 3, 1) := by decide +kernel
theorem dX2_countNeedles_8 : decode cX2_countNeedles 8 = .ok (.arraylength, 1) := by decide +kernel
theorem dX2_countNeedles_9 : decode cX2_countNeedles 9 = .ok (.istore 4, 2) := by decide +kernel
theorem dX2_countNeedles_11 : decode cX2_countNeedles 11 = .ok (.iconst 0, 1) := by decide +kernel
theorem dX2_countNeedles_12 : decode cX2_countNeedles 12 = .ok (.istore 5, 2) := by decide +kernel
theorem dX2_countNeedles_14 : decode cX2_countNeedles 14 = .ok (.iload 5, 2) := by decide +kernel
theorem dX2_countNeedles_16 : decode cX2_countNeedles 16 = .ok (.iload 4, 2) := by decide +kernel
theorem dX2_countNeedles_18 : decode cX2_countNeedles 18 = .ok (.if_icmp .ge 32, 3) := by decide +kernel
theorem dX2_countNeedles_21 : decode cX2_countNeedles 21 = .ok (.aload_n 3, 1) := by decide +kernel
theorem dX2_countNeedles_22 : decode cX2_countNeedles 22 = .ok (.iload 5, 2) := by decide +kernel
theorem dX2_countNeedles_24 : decode cX2_countNeedles 24 = .ok (.aaload, 1) := by decide +kernel
theorem dX2_countNeedles_25 : decode cX2_countNeedles 25 = .ok (.astore 6, 2) := by decide +kernel
theorem dX2_countNeedles_27 : decode cX2_countNeedles 27 = .ok (.aload 6, 2) := by decide +kernel
theorem dX2_countNeedles_29 : decode cX2_countNeedles 29 = .ok (.ifnull 15, 3) := by decide +kernel
theorem dX2_countNeedles_32 : decode cX2_countNeedles 32 = .ok (.aload 6, 2) := by decide +kernel
theorem dX2_countNeedles_34 : decode cX2_countNeedles 34 = .ok (.iload_n 1, 1) := by decide +kernel
theorem dX2_countNeedles_35 : decode cX2_countNeedles 35 = .ok (.invokevirtual 178, 3) := by decide +kernel
theorem dX2_countNeedles_38 : decode cX2_countNeedles 38 = .ok (.ifCond .eq 6, 3) := by decide +kernel
theorem dX2_countNeedles_41 : decode cX2_countNeedles 41 = .ok (.iinc 2 1, 3) := by decide +kernel
theorem dX2_countNeedles_44 : decode cX2_countNeedles 44 = .ok (.iinc 5 1, 3) := by decide +kernel
theorem dX2_countNeedles_47 : decode cX2_countNeedles 47 = .ok (.goto (-33), 3) := by decide +kernel
theorem dX2_countNeedles_50 : decode cX2_countNeedles 50 = .ok (.iload_n 2, 1) := by decide +kernel
theorem dX2_countNeedles_51 : decode cX2_countNeedles 51 = .ok (.ireturn, 1) := by decide +kernel
theorem dX3_init_0 : decode cX3_init 0 = .ok (.aload_n 0, 1) := by decide +kernel
theorem dX3_init_1 : decode cX3_init 1 = .ok (.invokespecial 1, 3) := by decide +kernel
theorem dX3_init_4 : decode cX3_init 4 = .ok (.aload_n 0, 1) := by decide +kernel
theorem dX3_init_5 : decode cX3_init 5 = .ok (.bipush 8, 2) := by decide +kernel
theorem dX3_init_7 : decode cX3_init 7 = .ok (.newarray .boolean, 2) := by decide +kernel
theorem dX3_init_9 : decode cX3_init 9 = .ok (.putfield 7, 3) := by decide +kernel
theorem dX3_init_12 : decode cX3_init 12 = .ok (.aload_n 0, 1) := by decide +kernel
theorem dX3_init_13 : decode cX3_init 13 = .ok (.bipush 56, 2) := by decide +kernel
theorem dX3_init_15 : decode cX3_init 15 = .ok (.newarray .long, 2) := by decide +kernel
theorem dX3_init_17 : decode cX3_init 17 = .ok (.putfield 13, 3) := by decide +kernel
theorem dX3_init_20 : decode cX3_init 20 = .ok (.return_, 1) := by decide +kernel
theorem dX3_thrown_0 : decode cX3_thrown 0 = .ok (.aload_n 0, 1) := by decide +kernel
theorem dX3_thrown_1 : decode cX3_thrown 1 = .ok (.getfield 17, 3) := by decide +kernel
theorem dX3_thrown_4 : decode cX3_thrown 4 = .ok (.ireturn, 1) := by decide +kernel
theorem dX3_own_0 : decode cX3_own 0 = .ok (.iload_n 0, 1) := by decide +kernel
theorem dX3_own_1 : decode cX3_own 1 = .ok (.ifCond .eq 7, 3) := by decide +kernel
theorem dX3_own_4 : decode cX3_own 4 = .ok (.lload_n 1, 1) := by decide +kernel
theorem dX3_own_5 : decode cX3_own 5 = .ok (.goto 6, 3) := by decide +kernel
theorem dX3_own_8 : decode cX3_own 8 = .ok (.lload_n 1, 1) := by decide +kernel
theorem dX3_own_9 : decode cX3_own 9 = .ok (.l2i, 1) := by decide +kernel
theorem dX3_own_10 : decode cX3_own 10 = .ok (.i2l, 1) := by decide +kernel
theorem dX3_own_11 : decode cX3_own 11 = .ok (.lreturn, 1) := by decide +kernel
theorem dX3_sizeOf_0 : decode cX3_sizeOf 0 = .ok (.lload_n 1, 1) := by decide +kernel
theorem dX3_sizeOf_1 : decode cX3_sizeOf 1 = .ok (.iload_n 0, 1) := by decide +kernel
theorem dX3_sizeOf_2 : decode cX3_sizeOf 2 = .ok (.ifCond .eq 9, 3) := by decide +kernel
theorem dX3_sizeOf_5 : decode cX3_sizeOf 5 = .ok (.ldc2_w 21, 3) := by decide +kernel
theorem dX3_sizeOf_8 : decode cX3_sizeOf 8 = .ok (.goto 6, 3) := by decide +kernel
theorem dX3_sizeOf_11 : decode cX3_sizeOf 11 = .ok (.ldc2_w 23, 3) := by decide +kernel
theorem dX3_sizeOf_14 : decode cX3_sizeOf 14 = .ok (.land, 1) := by decide +kernel
theorem dX3_sizeOf_15 : decode cX3_sizeOf 15 = .ok (.lreturn, 1) := by decide +kernel
set_option maxRecDepth 20000 in
theorem ggX3_isNumber_X3_sizeOf : GoodIn wsX3_isNumber wsX3_sizeOf := goodIn_r _ [6, 7, 8] (by decide +kernel) (by decide +kernel)
set_option maxRecDepth 20000 in
theorem gX3_isNumber_X3_sizeOf : GoodIn wsX3_isNumber (va_wsS RX3 25 yX3_sizeOf wsX3_sizeOf) := goodIn_app (goodIn_of _ (by decide +kernel)) ggX3_isNumber_X3_sizeOf
theorem dX3_isNumber_0 : decode cX3_isNumber 0 = .ok (.iload_n 0, 1) := by decide +kernel
theorem dX3_isNumber_1 : decode cX3_isNumber 1 = .ok (.lload_n 1, 1) := by decide +kernel
theorem dX3_isNumber_2 : decode cX3_isNumber 2 = .ok (.invokestatic 25, 3) := by decide +kernel
theorem dX3_isNumber_5 : decode cX3_isNumber 5 = .ok (.iload_n 0, 1) := by decide +kernel
theorem dX3_isNumber_6 : decode cX3_isNumber 6 = .ok (.ifCond .eq 9, 3) := by decide +kernel
theorem dX3_isNumber_9 : decode cX3_isNumber 9 = .ok (.ldc2_w 29, 3) := by decide +kernel
theorem dX3_isNumber_12 : decode cX3_isNumber 12 = .ok (.goto 6, 3) := by decide +kernel
theorem dX3_isNumber_15 : decode cX3_isNumber 15 = .ok (.ldc2_w 31, 3) := by decide +kernel
theorem dX3_isNumber_18 : decode cX3_isNumber 18 = .ok (.lcmp, 1) := by decide +kernel
theorem dX3_isNumber_19 : decode cX3_isNumber 19 = .ok (.ifCond .gt 7, 3) := by decide +kernel
theorem dX3_isNumber_22 : decode cX3_isNumber 22 = .ok (.iconst 1, 1) := by decide +kernel
theorem dX3_isNumber_23 : decode cX3_isNumber 23 = .ok (.goto 4, 3) := by decide +kernel
theorem dX3_isNumber_26 : decode cX3_isNumber 26 = .ok (.iconst 0, 1) := by decide +kernel
theorem dX3_isNumber_27 : decode cX3_isNumber 27 = .ok (.ireturn, 1) := by decide +kernel
set_option maxRecDepth 20000 in
theorem ggX3_isEndless_X3_sizeOf : GoodIn wsX3_isEndless wsX3_sizeOf := goodIn_r _ [6, 7, 8] (by decide +kernel) (by decide +kernel)
set_option maxRecDepth 20000 in
theorem gX3_isEndless_X3_sizeOf : GoodIn wsX3_isEndless (va_wsS RX3 25 yX3_sizeOf wsX3_sizeOf) := goodIn_app (goodIn_of _ (by decide +kernel)) ggX3_isEndless_X3_sizeOf
theorem dX3_isEndless_0 : decode cX3_isEndless 0 = .ok (.iload_n 0, 1) := by decide +kernel
theorem dX3_isEndless_1 : decode cX3_isEndless 1 = .ok (.lload_n 1, 1) := by decide +kernel
theorem dX3_isEndless_2 : decode cX3_isEndless 2 = .ok (.invokestatic 25, 3) := by decide +kernel
theorem dX3_isEndless_5 : decode cX3_isEndless 5 = .ok (.iload_n 0, 1) := by decide +kernel
theorem dX3_isEndless_6 : decode cX3_isEndless 6 = .ok (.ifCond .eq 9, 3) := by decide +kernel
theorem dX3_isEndless_9 : decode cX3_isEndless 9 = .ok (.ldc2_w 29, 3) := by decide +kernel
theorem dX3_isEndless_12 : decode cX3_isEndless 12 = .ok (.goto 6, 3) := by decide +kernel
theorem dX3_isEndless_15 : decode cX3_isEndless 15 = .ok (.ldc2_w 31, 3) := by decide +kernel
theorem dX3_isEndless_18 : decode cX3_isEndless 18 = .ok (.lcmp, 1) := by decide +kernel
theorem dX3_isEndless_19 : decode cX3_isEndless 19 = .ok (.ifCond .ne 7, 3) := by decide +kernel
theorem dX3_isEndless_22 : decode cX3_isEndless 22 = .ok (.iconst 1, 1) := by decide +kernel
theorem dX3_isEndless_23 : decode cX3_isEndless 23 = .ok (.goto 4, 3) := by decide +kernel
theorem dX3_isEndless_26 : decode cX3_isEndless 26 = .ok (.iconst 0, 1) := by decide +kernel
theorem dX3_isEndless_27 : decode cX3_isEndless 27 = .ok (.ireturn, 1) := by decide +kernel
set_option maxRecDepth 20000 in
theorem ggX3_isNought_X3_sizeOf : GoodIn wsX3_isNought wsX3_sizeOf := goodIn_r _ [4, 5, 6] (by decide +kernel) (by decide +kernel)
set_option maxRecDepth 20000 in
theorem gX3_isNought_X3_sizeOf : GoodIn wsX3_isNought (va_wsS RX3 25 yX3_sizeOf wsX3_sizeOf) := goodIn_app (goodIn_of _ (by decide +kernel)) ggX3_isNought_X3_sizeOf
theorem dX3_isNought_0 : decode cX3_isNought 0 = .ok (.iload_n 0, 1) := by decide +kernel
theorem dX3_isNought_1 : decode cX3_isNought 1 = .ok (.lload_n 1, 1) := by decide +kernel
theorem dX3_isNought_2 : decode cX3_isNought 2 = .ok (.invokestatic 25, 3) := by decide +kernel
theorem dX3_isNought_5 : decode cX3_isNought 5 = .ok (.lconst 0, 1) := by decide +kernel
theorem dX3_isNought_6 : decode cX3_isNought 6 = .ok (.lcmp, 1) := by decide +kernel
theorem dX3_isNought_7 : decode cX3_isNought 7 = .ok (.ifCond .ne 7, 3) := by decide +kernel
theorem dX3_isNought_10 : decode cX3_isNought 10 = .ok (.iconst 1, 1) := by decide +kernel
theorem dX3_isNought_11 : decode cX3_isNought 11 = .ok (.goto 4, 3) := by decide +kernel
theorem dX3_isNought_14 : decode cX3_isNought 14 = .ok (.iconst 0, 1) := by decide +kernel
theorem dX3_isNought_15 : decode cX3_isNought 15 = .ok (.ireturn, 1) := by decide +kernel
set_option maxRecDepth 20000 in
theorem ggX3_rank_X3_sizeOf : GoodIn wsX3_rank wsX3_sizeOf := goodIn_r _ [5, 6, 7] (by decide +kernel) (by decide +kernel)
set_option maxRecDepth 20000 in
theorem gX3_rank_X3_sizeOf : GoodIn wsX3_rank (va_wsS RX3 25 yX3_sizeOf wsX3_sizeOf) := goodIn_app (goodIn_of _ (by decide +kernel)) ggX3_rank_X3_sizeOf
theorem dX3_rank_0 : decode cX3_rank 0 = .ok (.lload_n 1, 1) := by decide +kernel
theorem dX3_rank_1 : decode cX3_rank 1 = .ok (.lconst 0, 1) := by decide +kernel
theorem dX3_rank_2 : decode cX3_rank 2 = .ok (.lcmp, 1) := by decide +kernel
theorem dX3_rank_3 : decode cX3_rank 3 = .ok (.ifCond .ge 15, 3) := by decide +kernel
theorem dX3_rank_6 : decode cX3_rank 6 = .ok (.ldc2_w 33, 3) := by decide +kernel
theorem dX3_rank_9 : decode cX3_rank 9 = .ok (.iload_n 0, 1) := by decide +kernel
theorem dX3_rank_10 : decode cX3_rank 10 = .ok (.lload_n 1, 1) := by decide +kernel
theorem dX3_rank_11 : decode cX3_rank 11 = .ok (.invokestatic 25, 3) := by decide +kernel
theorem dX3_rank_14 : decode cX3_rank 14 = .ok (.lsub, 1) := by decide +kernel
theorem dX3_rank_15 : decode cX3_rank 15 = .ok (.goto 4, 3) := by decide +kernel
theorem dX3_rank_18 : decode cX3_rank 18 = .ok (.lload_n 1, 1) := by decide +kernel
theorem dX3_rank_19 : decode cX3_rank 19 = .ok (.lreturn, 1) := by decide +kernel
theorem dX3_sided_0 : decode cX3_sided 0 = .ok (.iload_n 3, 1) := by decide +kernel
theorem dX3_sided_1 : decode cX3_sided 1 = .ok (.ifCond .ne 5, 3) := by decide +kernel
theorem dX3_sided_4 : decode cX3_sided 4 = .ok (.lload_n 1, 1) := by decide +kernel
theorem dX3_sided_5 : decode cX3_sided 5 = .ok (.lreturn, 1) := by decide +kernel
theorem dX3_sided_6 : decode cX3_sided 6 = .ok (.iload_n 0, 1) := by decide +kernel
theorem dX3_sided_7 : decode cX3_sided 7 = .ok (.ifCond .eq 11, 3) := by decide +kernel
theorem dX3_sided_10 : decode cX3_sided 10 = .ok (.lload_n 1, 1) := by decide +kernel
theorem dX3_sided_11 : decode cX3_sided 11 = .ok (.ldc2_w 35, 3) := by decide +kernel
theorem dX3_sided_14 : decode cX3_sided 14 = .ok (.lor, 1) := by decide +kernel
theorem dX3_sided_15 : decode cX3_sided 15 = .ok (.goto 8, 3) := by decide +kernel
theorem dX3_sided_18 : decode cX3_sided 18 = .ok (.lload_n 1, 1) := by decide +kernel
theorem dX3_sided_19 : decode cX3_sided 19 = .ok (.ldc2_w 37, 3) := by decide +kernel
theorem dX3_sided_22 : decode cX3_sided 22 = .ok (.lsub, 1) := by decide +kernel
theorem dX3_sided_23 : decode cX3_sided 23 = .ok (.lreturn, 1) := by decide +kernel
set_option maxRecDepth 20000 in
theorem ggX3_wideBits_Jxe99ae_doubleToLongBits_ccdee : GoodIn wsX3_wideBits wsJxe99ae_doubleToLongBits_ccdee := goodIn_r _ [8, 9, 10, 11, 12, 13, 14, 15, 7, 16] (by decide +kernel) (by decide +kernel)
set_option maxRecDepth 20000 in
theorem gX3_wideBits_Jxe99ae_doubleToLongBits_ccdee : GoodIn wsX3_wideBits (va_wsS RX3 45 yJxe99ae_doubleToLongBits_ccdee wsJxe99ae_doubleToLongBits_ccdee) := goodIn_app (goodIn_of _ (by decide +kernel)) ggX3_wideBits_Jxe99ae_doubleToLongBits_ccdee
theorem dX3_wideBits_0 : decode cX3_wideBits 0 = .ok (.iload_n 0, 1) := by decide +kernel
theorem dX3_wideBits_1 : decode cX3_wideBits 1 = .ok (.ifCond .eq 7, 3) := by decide +kernel
theorem dX3_wideBits_4 : decode cX3_wideBits 4 = .ok (.lload_n 1, 1) := by decide +kernel
theorem dX3_wideBits_5 : decode cX3_wideBits 5 = .ok (.goto 12, 3) := by decide +kernel
theorem dX3_wideBits_8 : decode cX3_wideBits 8 = .ok (.lload_n 1, 1) := by decide +kernel
theorem dX3_wideBits_9 : decode cX3_wideBits 9 = .ok (.l2i, 1) := by decide +kernel
theorem dX3_wideBits_10 : decode cX3_wideBits 10 = .ok (.invokestatic 39, 3) := by decide +kernel
theorem dX3_wideBits_13 : decode cX3_wideBits 13 = .ok (.f2d, 1) := by decide +kernel
theorem dX3_wideBits_14 : decode cX3_wideBits 14 = .ok (.invokestatic 45, 3) := by decide +kernel
theorem dX3_wideBits_17 : decode cX3_wideBits 17 = .ok (.lreturn, 1) := by decide +kernel
set_option maxRecDepth 20000 in
theorem ggX3_sum_Jxe99ae_doubleToLongBits_ccdee : GoodIn wsX3_sum wsJxe99ae_doubleToLongBits_ccdee := goodIn_r _ [12, 13, 14, 15, 4, 16, 17, 18, 11, 19] (by decide +kernel) (by decide +kernel)
