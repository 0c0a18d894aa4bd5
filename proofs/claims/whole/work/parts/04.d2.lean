set_option maxRecDepth 20000 in
theorem gX3_sum_Jxe99ae_doubleToLongBits_ccdee : GoodIn wsX3_sum (va_wsS RX3 45 yJxe99ae_doubleToLongBits_ccdee wsJxe99ae_doubleToLongBits_ccdee) := goodIn_app (goodIn_of _ (by decide +kernel)) ggX3_sum_Jxe99ae_doubleToLongBits_ccdee
set_option maxRecDepth 20000 in
theorem ggX3_sum_Jxf58ca_floatToIntBits_5c35a : GoodIn wsX3_sum wsJxf58ca_floatToIntBits_5c35a := goodIn_r _ [23, 24, 25, 26, 8, 27, 28, 29, 22, 30] (by decide +kernel) (by decide +kernel)
set_option maxRecDepth 20000 in
theorem gX3_sum_Jxf58ca_floatToIntBits_5c35a : GoodIn wsX3_sum (va_wsS RX3 55 yJxf58ca_floatToIntBits_5c35a wsJxf58ca_floatToIntBits_5c35a) := goodIn_app (goodIn_of _ (by decide +kernel)) ggX3_sum_Jxf58ca_floatToIntBits_5c35a
theorem dX3_sum_0 : decode cX3_sum 0 = .ok (.iload_n 0, 1) := by decide +kernel
theorem dX3_sum_1 : decode cX3_sum 1 = .ok (.ifCond .eq 16, 3) := by decide +kernel
theorem dX3_sum_4 : decode cX3_sum 4 = .ok (.lload_n 1, 1) := by decide +kernel
theorem dX3_sum_5 : decode cX3_sum 5 = .ok (.invokestatic 51, 3) := by decide +kernel
theorem dX3_sum_8 : decode cX3_sum 8 = .ok (.lload_n 3, 1) := by decide +kernel
theorem dX3_sum_9 : decode cX3_sum 9 = .ok (.invokestatic 51, 3) := by decide +kernel
theorem dX3_sum_12 : decode cX3_sum 12 = .ok (.dadd, 1) := by decide +kernel
theorem dX3_sum_13 : decode cX3_sum 13 = .ok (.invokestatic 45, 3) := by decide +kernel
theorem dX3_sum_16 : decode cX3_sum 16 = .ok (.lreturn, 1) := by decide +kernel
theorem dX3_sum_17 : decode cX3_sum 17 = .ok (.lload_n 1, 1) := by decide +kernel
theorem dX3_sum_18 : decode cX3_sum 18 = .ok (.l2i, 1) := by decide +kernel
theorem dX3_sum_19 : decode cX3_sum 19 = .ok (.invokestatic 39, 3) := by decide +kernel
theorem dX3_sum_22 : decode cX3_sum 22 = .ok (.lload_n 3, 1) := by decide +kernel
theorem dX3_sum_23 : decode cX3_sum 23 = .ok (.l2i, 1) := by decide +kernel
theorem dX3_sum_24 : decode cX3_sum 24 = .ok (.invokestatic 39, 3) := by decide +kernel
theorem dX3_sum_27 : decode cX3_sum 27 = .ok (.fadd, 1) := by decide +kernel
theorem dX3_sum_28 : decode cX3_sum 28 = .ok (.invokestatic 55, 3) := by decide +kernel
theorem dX3_sum_31 : decode cX3_sum 31 = .ok (.i2l, 1) := by decide +kernel
theorem dX3_sum_32 : decode cX3_sum 32 = .ok (.lreturn, 1) := by decide +kernel
set_option maxRecDepth 20000 in
theorem ggX3_turned_X3_sizeOf : GoodIn wsX3_turned wsX3_sizeOf := goodIn_r _ [4, 5, 6] (by decide +kernel) (by decide +kernel)
set_option maxRecDepth 20000 in
theorem gX3_turned_X3_sizeOf : GoodIn wsX3_turned (va_wsS RX3 25 yX3_sizeOf wsX3_sizeOf) := goodIn_app (goodIn_of _ (by decide +kernel)) ggX3_turned_X3_sizeOf
set_option maxRecDepth 20000 in
theorem ggX3_turned_X3_sided : GoodIn wsX3_turned wsX3_sided := goodIn_r _ [9, 10, 11] (by decide +kernel) (by decide +kernel)
set_option maxRecDepth 20000 in
theorem gX3_turned_X3_sided : GoodIn wsX3_turned (va_wsS RX3 59 yX3_sided wsX3_sided) := goodIn_app (goodIn_of _ (by decide +kernel)) ggX3_turned_X3_sided
theorem dX3_turned_0 : decode cX3_turned 0 = .ok (.iload_n 0, 1) := by decide +kernel
theorem dX3_turned_1 : decode cX3_turned 1 = .ok (.iload_n 0, 1) := by decide +kernel
theorem dX3_turned_2 : decode cX3_turned 2 = .ok (.lload_n 1, 1) := by decide +kernel
theorem dX3_turned_3 : decode cX3_turned 3 = .ok (.invokestatic 25, 3) := by decide +kernel
theorem dX3_turned_6 : decode cX3_turned 6 = .ok (.lload_n 1, 1) := by decide +kernel
theorem dX3_turned_7 : decode cX3_turned 7 = .ok (.lconst 0, 1) := by decide +kernel
theorem dX3_turned_8 : decode cX3_turned 8 = .ok (.lcmp, 1) := by decide +kernel
theorem dX3_turned_9 : decode cX3_turned 9 = .ok (.ifCond .lt 7, 3) := by decide +kernel
theorem dX3_turned_12 : decode cX3_turned 12 = .ok (.iconst 1, 1) := by decide +kernel
theorem dX3_turned_13 : decode cX3_turned 13 = .ok (.goto 4, 3) := by decide +kernel
theorem dX3_turned_16 : decode cX3_turned 16 = .ok (.iconst 0, 1) := by decide +kernel
theorem dX3_turned_17 : decode cX3_turned 17 = .ok (.invokestatic 59, 3) := by decide +kernel
theorem dX3_turned_20 : decode cX3_turned 20 = .ok (.lreturn, 1) := by decide +kernel
set_option maxRecDepth 20000 in
theorem ggX3_alike_X3_isNought : GoodIn wsX3_alike wsX3_isNought := goodIn_r _ [4, 5, 6, 3, 7, 8, 9] (by decide +kernel) (by decide +kernel)
set_option maxRecDepth 20000 in
theorem gX3_alike_X3_isNought : GoodIn wsX3_alike (va_wsS RX3 63 yX3_isNought wsX3_isNought) := goodIn_app (goodIn_of _ (by decide +kernel)) ggX3_alike_X3_isNought
theorem dX3_alike_0 : decode cX3_alike 0 = .ok (.lload_n 1, 1) := by decide +kernel
theorem dX3_alike_1 : decode cX3_alike 1 = .ok (.lload_n 3, 1) := by decide +kernel
theorem dX3_alike_2 : decode cX3_alike 2 = .ok (.lcmp, 1) := by decide +kernel
theorem dX3_alike_3 : decode cX3_alike 3 = .ok (.ifCond .eq 19, 3) := by decide +kernel
theorem dX3_alike_6 : decode cX3_alike 6 = .ok (.iload_n 0, 1) := by decide +kernel
theorem dX3_alike_7 : decode cX3_alike 7 = .ok (.lload_n 1, 1) := by decide +kernel
theorem dX3_alike_8 : decode cX3_alike 8 = .ok (.invokestatic 63, 3) := by decide +kernel
theorem dX3_alike_11 : decode cX3_alike 11 = .ok (.ifCond .eq 15, 3) := by decide +kernel
theorem dX3_alike_14 : decode cX3_alike 14 = .ok (.iload_n 0, 1) := by decide +kernel
theorem dX3_alike_15 : decode cX3_alike 15 = .ok (.lload_n 3, 1) := by decide +kernel
theorem dX3_alike_16 : decode cX3_alike 16 = .ok (.invokestatic 63, 3) := by decide +kernel
theorem dX3_alike_19 : decode cX3_alike 19 = .ok (.ifCond .eq 7, 3) := by decide +kernel
theorem dX3_alike_22 : decode cX3_alike 22 = .ok (.iconst 1, 1) := by decide +kernel
theorem dX3_alike_23 : decode cX3_alike 23 = .ok (.goto 4, 3) := by decide +kernel
theorem dX3_alike_26 : decode cX3_alike 26 = .ok (.iconst 0, 1) := by decide +kernel
theorem dX3_alike_27 : decode cX3_alike 27 = .ok (.ireturn, 1) := by decide +kernel
theorem dX3_isThere_0 : decode cX3_isThere 0 = .ok (.aload_n 0, 1) := by decide +kernel
theorem dX3_isThere_1 : decode cX3_isThere 1 = .ok (.iload_n 1, 1) := by decide +kernel
theorem dX3_isThere_2 : decode cX3_isThere 2 = .ok (.ifCond .lt 15, 3) := by decide +kernel
theorem dX3_isThere_5 : decode cX3_isThere 5 = .ok (.iload_n 1, 1) := by decide +kernel
theorem dX3_isThere_6 : decode cX3_isThere 6 = .ok (.aload_n 0, 1) := by decide +kernel
theorem dX3_isThere_7 : decode cX3_isThere 7 = .ok (.getfield 67, 3) := by decide +kernel
theorem dX3_isThere_10 : decode cX3_isThere 10 = .ok (.if_icmp .ge 7, 3) := by decide +kernel
theorem dX3_isThere_13 : decode cX3_isThere 13 = .ok (.iconst 0, 1) := by decide +kernel
theorem dX3_isThere_14 : decode cX3_isThere 14 = .ok (.goto 4, 3) := by decide +kernel
theorem dX3_isThere_17 : decode cX3_isThere 17 = .ok (.iconst 1, 1) := by decide +kernel
theorem dX3_isThere_18 : decode cX3_isThere 18 = .ok (.putfield 17, 3) := by decide +kernel
theorem dX3_isThere_21 : decode cX3_isThere 21 = .ok (.aload_n 0, 1) := by decide +kernel
theorem dX3_isThere_22 : decode cX3_isThere 22 = .ok (.getfield 17, 3) := by decide +kernel
theorem dX3_isThere_25 : decode cX3_isThere 25 = .ok (.ifCond .ne 7, 3) := by decide +kernel
theorem dX3_isThere_28 : decode cX3_isThere 28 = .ok (.iconst 1, 1) := by decide +kernel
theorem dX3_isThere_29 : decode cX3_isThere 29 = .ok (.goto 4, 3) := by decide +kernel
theorem dX3_isThere_32 : decode cX3_isThere 32 = .ok (.iconst 0, 1) := by decide +kernel
theorem dX3_isThere_33 : decode cX3_isThere 33 = .ok (.ireturn, 1) := by decide +kernel
set_option maxRecDepth 20000 in
theorem ggX3_may_X3_isThere : GoodIn wsX3_may wsX3_isThere := goodIn_r _ [7, 8, 2, 19, 20, 21, 22, 23, 24, 25] (by decide +kernel) (by decide +kernel)
set_option maxRecDepth 20000 in
theorem gX3_may_X3_isThere : GoodIn wsX3_may (wsV RX3 70 RX3 yX3_isThere wsX3_isThere) := goodIn_app (goodIn_of _ (by decide +kernel)) ggX3_may_X3_isThere
set_option maxRecDepth 20000 in
theorem ggX3_may_X3_isNumber : GoodIn wsX3_may wsX3_isNumber := goodIn_r _ [11, 12, 13, 14, 15, 6, 16, 17, 18] (by decide +kernel) (by decide +kernel)
set_option maxRecDepth 20000 in
theorem gX3_may_X3_isNumber : GoodIn wsX3_may (va_wsS RX3 74 yX3_isNumber wsX3_isNumber) := goodIn_app (goodIn_of _ (by decide +kernel)) ggX3_may_X3_isNumber
theorem dX3_may_0 : decode cX3_may 0 = .ok (.aload_n 0, 1) := by decide +kernel
theorem dX3_may_1 : decode cX3_may 1 = .ok (.iload_n 1, 1) := by decide +kernel
theorem dX3_may_2 : decode cX3_may 2 = .ok (.invokevirtual 70, 3) := by decide +kernel
theorem dX3_may_5 : decode cX3_may 5 = .ok (.ifCond .eq 21, 3) := by decide +kernel
theorem dX3_may_8 : decode cX3_may 8 = .ok (.aload_n 0, 1) := by decide +kernel
theorem dX3_may_9 : decode cX3_may 9 = .ok (.getfield 7, 3) := by decide +kernel
theorem dX3_may_12 : decode cX3_may 12 = .ok (.iload_n 1, 1) := by decide +kernel
theorem dX3_may_13 : decode cX3_may 13 = .ok (.baload, 1) := by decide +kernel
theorem dX3_may_14 : decode cX3_may 14 = .ok (.lload_n 2, 1) := by decide +kernel
theorem dX3_may_15 : decode cX3_may 15 = .ok (.invokestatic 74, 3) := by decide +kernel
theorem dX3_may_18 : decode cX3_may 18 = .ok (.ifCond .ne 8, 3) := by decide +kernel
theorem dX3_may_21 : decode cX3_may 21 = .ok (.aload_n 0, 1) := by decide +kernel
theorem dX3_may_22 : decode cX3_may 22 = .ok (.iconst 2, 1) := by decide +kernel
theorem dX3_may_23 : decode cX3_may 23 = .ok (.putfield 17, 3) := by decide +kernel
theorem dX3_may_26 : decode cX3_may 26 = .ok (.aload_n 0, 1) := by decide +kernel
theorem dX3_may_27 : decode cX3_may 27 = .ok (.getfield 17, 3) := by decide +kernel
theorem dX3_may_30 : decode cX3_may 30 = .ok (.ifCond .ne 7, 3) := by decide +kernel
theorem dX3_may_33 : decode cX3_may 33 = .ok (.iconst 1, 1) := by decide +kernel
theorem dX3_may_34 : decode cX3_may 34 = .ok (.goto 4, 3) := by decide +kernel
theorem dX3_may_37 : decode cX3_may 37 = .ok (.iconst 0, 1) := by decide +kernel
theorem dX3_may_38 : decode cX3_may 38 = .ok (.ireturn, 1) := by decide +kernel
theorem dX3_get_0 : decode cX3_get 0 = .ok (.aload_n 0, 1) := by decide +kernel
theorem dX3_get_1 : decode cX3_get 1 = .ok (.getfield 13, 3) := by decide +kernel
theorem dX3_get_4 : decode cX3_get 4 = .ok (.bipush 7, 2) := by decide +kernel
theorem dX3_get_6 : decode cX3_get 6 = .ok (.iload_n 1, 1) := by decide +kernel
theorem dX3_get_7 : decode cX3_get 7 = .ok (.imul, 1) := by decide +kernel
theorem dX3_get_8 : decode cX3_get 8 = .ok (.iload_n 2, 1) := by decide +kernel
theorem dX3_get_9 : decode cX3_get 9 = .ok (.iadd, 1) := by decide +kernel
theorem dX3_get_10 : decode cX3_get 10 = .ok (.laload, 1) := by decide +kernel
theorem dX3_get_11 : decode cX3_get 11 = .ok (.lreturn, 1) := by decide +kernel
theorem dX3_set_0 : decode cX3_set 0 = .ok (.aload_n 0, 1) := by decide +kernel
theorem dX3_set_1 : decode cX3_set 1 = .ok (.getfield 13, 3) := by decide +kernel
theorem dX3_set_4 : decode cX3_set 4 = .ok (.bipush 7, 2) := by decide +kernel
theorem dX3_set_6 : decode cX3_set 6 = .ok (.iload_n 1, 1) := by decide +kernel
theorem dX3_set_7 : decode cX3_set 7 = .ok (.imul, 1) := by decide +kernel
theorem dX3_set_8 : decode cX3_set 8 = .ok (.iload_n 2, 1) := by decide +kernel
theorem dX3_set_9 : decode cX3_set 9 = .ok (.iadd, 1) := by decide +kernel
theorem dX3_set_10 : decode cX3_set 10 = .ok (.lload_n 3, 1) := by decide +kernel
theorem dX3_set_11 : decode cX3_set 11 = .ok (.lastore, 1) := by decide +kernel
theorem dX3_set_12 : decode cX3_set 12 = .ok (.return_, 1) := by decide +kernel
set_option maxRecDepth 20000 in
theorem ggX3_within_X3_rank : GoodIn wsX3_within wsX3_rank := goodIn_r _ [5, 6, 7, 8, 4, 9, 10, 11] (by decide +kernel) (by decide +kernel)
set_option maxRecDepth 20000 in
theorem gX3_within_X3_rank : GoodIn wsX3_within (va_wsS RX3 77 yX3_rank wsX3_rank) := goodIn_app (goodIn_of _ (by decide +kernel)) ggX3_within_X3_rank
set_option maxRecDepth 20000 in
theorem ggX3_within_X3_get : GoodIn wsX3_within wsX3_get := goodIn_r _ [15, 16, 17, 18, 19, 20, 21, 22, 23] (by decide +kernel) (by decide +kernel)
set_option maxRecDepth 20000 in
theorem gX3_within_X3_get : GoodIn wsX3_within (wsV RX3 80 RX3 yX3_get wsX3_get) := goodIn_app (goodIn_of _ (by decide +kernel)) ggX3_within_X3_get
theorem dX3_within_0 : decode cX3_within 0 = .ok (.aload_n 0, 1) := by decide +kernel
theorem dX3_within_1 : decode cX3_within 1 = .ok (.getfield 7, 3) := by decide +kernel
theorem dX3_within_4 : decode cX3_within 4 = .ok (.iload_n 1, 1) := by decide +kernel
theorem dX3_within_5 : decode cX3_within 5 = .ok (.baload, 1) := by decide +kernel
theorem dX3_within_6 : decode cX3_within 6 = .ok (.istore 4, 2) := by decide +kernel
theorem dX3_within_8 : decode cX3_within 8 = .ok (.iload 4, 2) := by decide +kernel
theorem dX3_within_10 : decode cX3_within 10 = .ok (.lload_n 2, 1) := by decide +kernel
theorem dX3_within_11 : decode cX3_within 11 = .ok (.invokestatic 77, 3) := by decide +kernel
theorem dX3_within_14 : decode cX3_within 14 = .ok (.iload 4, 2) := by decide +kernel
theorem dX3_within_16 : decode cX3_within 16 = .ok (.aload_n 0, 1) := by decide +kernel
theorem dX3_within_17 : decode cX3_within 17 = .ok (.iload_n 1, 1) := by decide +kernel
theorem dX3_within_18 : decode cX3_within 18 = .ok (.iconst 0, 1) := by decide +kernel
theorem dX3_within_19 : decode cX3_within 19 = .ok (.invokevirtual 80, 3) := by decide +kernel
theorem dX3_within_22 : decode cX3_within 22 = .ok (.invokestatic 77, 3) := by decide +kernel
theorem dX3_within_25 : decode cX3_within 25 = .ok (.lcmp, 1) := by decide +kernel
theorem dX3_within_26 : decode cX3_within 26 = .ok (.ifCond .ge 10, 3) := by decide +kernel
theorem dX3_within_29 : decode cX3_within 29 = .ok (.aload_n 0, 1) := by decide +kernel
theorem dX3_within_30 : decode cX3_within 30 = .ok (.iload_n 1, 1) := by decide +kernel
theorem dX3_within_31 : decode cX3_within 31 = .ok (.iconst 0, 1) := by decide +kernel
theorem dX3_within_32 : decode cX3_within 32 = .ok (.invokevirtual 80, 3) := by decide +kernel
theorem dX3_within_35 : decode cX3_within 35 = .ok (.lreturn, 1) := by decide +kernel
theorem dX3_within_36 : decode cX3_within 36 = .ok (.iload 4, 2) := by decide +kernel
theorem dX3_within_38 : decode cX3_within 38 = .ok (.lload_n 2, 1) := by decide +kernel
theorem dX3_within_39 : decode cX3_within 39 = .ok (.invokestatic 77, 3) := by decide +kernel
theorem dX3_within_42 : decode cX3_within 42 = .ok (.iload 4, 2) := by decide +kernel
theorem dX3_within_44 : decode cX3_within 44 = .ok (.aload_n 0, 1) := by decide +kernel
theorem dX3_within_45 : decode cX3_within 45 = .ok (.iload_n 1, 1) := by decide +kernel
theorem dX3_within_46 : decode cX3_within 46 = .ok (.iconst 1, 1) := by decide +kernel
theorem dX3_within_47 : decode cX3_within 47 = .ok (.invokevirtual 80, 3) := by decide +kernel
theorem dX3_within_50 : decode cX3_within 50 = .ok (.invokestatic 77, 3) := by decide +kernel
theorem dX3_within_53 : decode cX3_within 53 = .ok (.lcmp, 1) := by decide +kernel
theorem dX3_within_54 : decode cX3_within 54 = .ok (.ifCond .le 12, 3) := by decide +kernel
theorem dX3_within_57 : decode cX3_within 57 = .ok (.aload_n 0, 1) := by decide +kernel
theorem dX3_within_58 : decode cX3_within 58 = .ok (.iload_n 1, 1) := by decide +kernel
theorem dX3_within_59 : decode cX3_within 59 = .ok (.iconst 1, 1) := by decide +kernel
theorem dX3_within_60 : decode cX3_within 60 = .ok (.invokevirtual 80, 3) := by decide +kernel
theorem dX3_within_63 : decode cX3_within 63 = .ok (.goto 4, 3) := by decide +kernel
theorem dX3_within_66 : decode cX3_within 66 = .ok (.lload_n 2, 1) := by decide +kernel
theorem dX3_within_67 : decode cX3_within 67 = .ok (.lreturn, 1) := by decide +kernel
set_option maxRecDepth 20000 in
theorem ggX3_fresh_X3_within : GoodIn wsX3_fresh wsX3_within := goodIn_r _ [6, 1, 7, 8, 5, 9, 10, 11, 12, 13, 14, 15, 16, 17, 18, 19, 20, 25, 26, 27, 28, 29, 30, 31] (by decide +kernel) (by decide +kernel)
set_option maxRecDepth 20000 in
theorem gX3_fresh_X3_within : GoodIn wsX3_fresh (wsV RX3 84 RX3 yX3_within wsX3_within) := goodIn_app (goodIn_of _ (by decide +kernel)) ggX3_fresh_X3_within
set_option maxRecDepth 20000 in
theorem ggX3_fresh_X3_set : GoodIn wsX3_fresh wsX3_set := goodIn_r _ [24, 20, 25, 26, 27, 28, 29, 30, 31] (by decide +kernel) (by decide +kernel)
set_option maxRecDepth 20000 in
theorem gX3_fresh_X3_set : GoodIn wsX3_fresh (wsV RX3 88 RX3 yX3_set wsX3_set) := goodIn_app (goodIn_of _ (by decide +kernel)) ggX3_fresh_X3_set
set_option maxRecDepth 20000 in
theorem ggX3_fresh_X3_sizeOf : GoodIn wsX3_fresh wsX3_sizeOf := goodIn_r _ [13, 14, 15] (by decide +kernel) (by decide +kernel)
set_option maxRecDepth 20000 in
theorem gX3_fresh_X3_sizeOf : GoodIn wsX3_fresh (va_wsS RX3 25 yX3_sizeOf wsX3_sizeOf) := goodIn_app (goodIn_of _ (by decide +kernel)) ggX3_fresh_X3_sizeOf
theorem dX3_fresh_0 : decode cX3_fresh 0 = .ok (.aload_n 0, 1) := by decide +kernel
theorem dX3_fresh_1 : decode cX3_fresh 1 = .ok (.iload_n 1, 1) := by decide +kernel
theorem dX3_fresh_2 : decode cX3_fresh 2 = .ok (.lconst 0, 1) := by decide +kernel
theorem dX3_fresh_3 : decode cX3_fresh 3 = .ok (.invokevirtual 84, 3) := by decide +kernel
theorem dX3_fresh_6 : decode cX3_fresh 6 = .ok (.lstore_n 2, 1) := by decide +kernel
theorem dX3_fresh_7 : decode cX3_fresh 7 = .ok (.aload_n 0, 1) := by decide +kernel
theorem dX3_fresh_8 : decode cX3_fresh 8 = .ok (.iload_n 1, 1) := by decide +kernel
theorem dX3_fresh_9 : decode cX3_fresh 9 = .ok (.iconst 2, 1) := by decide +kernel
theorem dX3_fresh_10 : decode cX3_fresh 10 = .ok (.lload_n 2, 1) := by decide +kernel
theorem dX3_fresh_11 : decode cX3_fresh 11 = .ok (.invokevirtual 88, 3) := by decide +kernel
theorem dX3_fresh_14 : decode cX3_fresh 14 = .ok (.aload_n 0, 1) := by decide +kernel
theorem dX3_fresh_15 : decode cX3_fresh 15 = .ok (.iload_n 1, 1) := by decide +kernel
theorem dX3_fresh_16 : decode cX3_fresh 16 = .ok (.iconst 4, 1) := by decide +kernel
theorem dX3_fresh_17 : decode cX3_fresh 17 = .ok (.lload_n 2, 1) := by decide +kernel
theorem dX3_fresh_18 : decode cX3_fresh 18 = .ok (.invokevirtual 88, 3) := by decide +kernel
theorem dX3_fresh_21 : decode cX3_fresh 21 = .ok (.aload_n 0, 1) := by decide +kernel
theorem dX3_fresh_22 : decode cX3_fresh 22 = .ok (.iload_n 1, 1) := by decide +kernel
theorem dX3_fresh_23 : decode cX3_fresh 23 = .ok (.iconst 5, 1) := by decide +kernel
theorem dX3_fresh_24 : decode cX3_fresh 24 = .ok (.lload_n 2, 1) := by decide +kernel
theorem dX3_fresh_25 : decode cX3_fresh 25 = .ok (.invokevirtual 88, 3) := by decide +kernel
theorem dX3_fresh_28 : decode cX3_fresh 28 = .ok (.aload_n 0, 1) := by decide +kernel
theorem dX3_fresh_29 : decode cX3_fresh 29 = .ok (.iload_n 1, 1) := by decide +kernel
theorem dX3_fresh_30 : decode cX3_fresh 30 = .ok (.bipush 6, 2) := by decide +kernel
theorem dX3_fresh_32 : decode cX3_fresh 32 = .ok (.aload_n 0, 1) := by decide +kernel
theorem dX3_fresh_33 : decode cX3_fresh 33 = .ok (.getfield 7, 3) := by decide +kernel
theorem dX3_fresh_36 : decode cX3_fresh 36 = .ok (.iload_n 1, 1) := by decide +kernel
theorem dX3_fresh_37 : decode cX3_fresh 37 = .ok (.baload, 1) := by decide +kernel
theorem dX3_fresh_38 : decode cX3_fresh 38 = .ok (.lload_n 2, 1) := by decide +kernel
theorem dX3_fresh_39 : decode cX3_fresh 39 = .ok (.invokestatic 25, 3) := by decide +kernel
theorem dX3_fresh_42 : decode cX3_fresh 42 = .ok (.invokevirtual 88, 3) := by decide +kernel
theorem dX3_fresh_45 : decode cX3_fresh 45 = .ok (.return_, 1) := by decide +kernel
set_option maxRecDepth 20000 in
theorem ggX3_becomes_X3_within : GoodIn wsX3_becomes wsX3_within := goodIn_r _ [7, 1, 8, 9, 6, 10, 11, 12, 13, 14, 15, 16, 17, 18, 19, 20, 21, 26, 27, 28, 29, 30, 31, 32] (by decide +kernel) (by decide +kernel)
set_option maxRecDepth 20000 in
theorem gX3_becomes_X3_within : GoodIn wsX3_becomes (wsV RX3 84 RX3 yX3_within wsX3_within) := goodIn_app (goodIn_of _ (by decide +kernel)) ggX3_becomes_X3_within
set_option maxRecDepth 20000 in
theorem ggX3_becomes_X3_set : GoodIn wsX3_becomes wsX3_set := goodIn_r _ [25, 21, 26, 27, 28, 29, 30, 31, 32] (by decide +kernel) (by decide +kernel)
set_option maxRecDepth 20000 in
theorem gX3_becomes_X3_set : GoodIn wsX3_becomes (wsV RX3 88 RX3 yX3_set wsX3_set) := goodIn_app (goodIn_of _ (by decide +kernel)) ggX3_becomes_X3_set
set_option maxRecDepth 20000 in
theorem ggX3_becomes_X3_rank : GoodIn wsX3_becomes wsX3_rank := goodIn_r _ [10, 11, 12, 13, 6, 14, 15, 16] (by decide +kernel) (by decide +kernel)
set_option maxRecDepth 20000 in
theorem gX3_becomes_X3_rank : GoodIn wsX3_becomes (va_wsS RX3 77 yX3_rank wsX3_rank) := goodIn_app (goodIn_of _ (by decide +kernel)) ggX3_becomes_X3_rank
set_option maxRecDepth 20000 in
theorem ggX3_becomes_X3_get : GoodIn wsX3_becomes wsX3_get := goodIn_r _ [20, 21, 26, 27, 28, 29, 30, 31, 32] (by decide +kernel) (by decide +kernel)
set_option maxRecDepth 20000 in
theorem gX3_becomes_X3_get : GoodIn wsX3_becomes (wsV RX3 80 RX3 yX3_get wsX3_get) := goodIn_app (goodIn_of _ (by decide +kernel)) ggX3_becomes_X3_get
set_option maxRecDepth 20000 in
theorem ggX3_becomes_X3_sizeOf : GoodIn wsX3_becomes wsX3_sizeOf := goodIn_r _ [14, 15, 16] (by decide +kernel) (by decide +kernel)
set_option maxRecDepth 20000 in
theorem gX3_becomes_X3_sizeOf : GoodIn wsX3_becomes (va_wsS RX3 25 yX3_sizeOf wsX3_sizeOf) := goodIn_app (goodIn_of _ (by decide +kernel)) ggX3_becomes_X3_sizeOf
theorem dX3_becomes_0 : decode cX3_becomes 0 = .ok (.aload_n 0, 1) := by decide +kernel
theorem dX3_becomes_1 : decode cX3_becomes 1 = .ok (.getfield 7, 3) := by decide +kernel
theorem dX3_becomes_4 : decode cX3_becomes 4 = .ok (.iload_n 1, 1) := by decide +kernel
theorem dX3_becomes_5 : decode cX3_becomes 5 = .ok (.baload, 1) := by decide +kernel
theorem dX3_becomes_6 : decode cX3_becomes 6 = .ok (.istore 4, 2) := by decide +kernel
theorem dX3_becomes_8 : decode cX3_becomes 8 = .ok (.aload_n 0, 1) := by decide +kernel
theorem dX3_becomes_9 : decode cX3_becomes 9 = .ok (.iload_n 1, 1) := by decide +kernel
theorem dX3_becomes_10 : decode cX3_becomes 10 = .ok (.lload_n 2, 1) := by decide +kernel
theorem dX3_becomes_11 : decode cX3_becomes 11 = .ok (.invokevirtual 84, 3) := by decide +kernel
theorem dX3_becomes_14 : decode cX3_becomes 14 = .ok (.lstore 5, 2) := by decide +kernel
theorem dX3_becomes_16 : decode cX3_becomes 16 = .ok (.aload_n 0, 1) := by decide +kernel
theorem dX3_becomes_17 : decode cX3_becomes 17 = .ok (.iload_n 1, 1) := by decide +kernel
theorem dX3_becomes_18 : decode cX3_becomes 18 = .ok (.iconst 2, 1) := by decide +kernel
theorem dX3_becomes_19 : decode cX3_becomes 19 = .ok (.lload 5, 2) := by decide +kernel
theorem dX3_becomes_21 : decode cX3_becomes 21 = .ok (.invokevirtual 88, 3) := by decide +kernel
theorem dX3_becomes_24 : decode cX3_becomes 24 = .ok (.iload 4, 2) := by decide +kernel
theorem dX3_becomes_26 : decode cX3_becomes 26 = .ok (.lload 5, 2) := by decide +kernel
theorem dX3_becomes_28 : decode cX3_becomes 28 = .ok (.invokestatic 77, 3) := by decide +kernel
theorem dX3_becomes_31 : decode cX3_becomes 31 = .ok (.iload 4, 2) := by decide +kernel
theorem dX3_becomes_33 : decode cX3_becomes 33 = .ok (.aload_n 0, 1) := by decide +kernel
theorem dX3_becomes_34 : decode cX3_becomes 34 = .ok (.iload_n 1, 1) := by decide +kernel
theorem dX3_becomes_35 : decode cX3_becomes 35 = .ok (.iconst 4, 1) := by decide +kernel
theorem dX3_becomes_36 : decode cX3_becomes 36 = .ok (.invokevirtual 80, 3) := by decide +kernel
theorem dX3_becomes_39 : decode cX3_becomes 39 = .ok (.invokestatic 77, 3) := by decide +kernel
theorem dX3_becomes_42 : decode cX3_becomes 42 = .ok (.lcmp, 1) := by decide +kernel
theorem dX3_becomes_43 : decode cX3_becomes 43 = .ok (.ifCond .le 11, 3) := by decide +kernel
theorem dX3_becomes_46 : decode cX3_becomes 46 = .ok (.aload_n 0, 1) := by decide +kernel
theorem dX3_becomes_47 : decode cX3_becomes 47 = .ok (.iload_n 1, 1) := by decide +kernel
theorem dX3_becomes_48 : decode cX3_becomes 48 = .ok (.iconst 4, 1) := by decide +kernel
theorem dX3_becomes_49 : decode cX3_becomes 49 = .ok (.lload 5, 2) := by decide +kernel
theorem dX3_becomes_51 : decode cX3_becomes 51 = .ok (.invokevirtual 88, 3) := by decide +kernel
theorem dX3_becomes_54 : decode cX3_becomes 54 = .ok (.iload 4, 2) := by decide +kernel
theorem dX3_becomes_56 : decode cX3_becomes 56 = .ok (.lload 5, 2) := by decide +kernel
theorem dX3_becomes_58 : decode cX3_becomes 58 = .ok (.invokestatic 77, 3) := by decide +kernel
theorem dX3_becomes_61 : decode cX3_becomes 61 = .ok (.iload 4, 2) := by decide +kernel
theorem dX3_becomes_63 : decode cX3_becomes 63 = .ok (.aload_n 0, 1) := by decide +kernel
theorem dX3_becomes_64 : decode cX3_becomes 64 = .ok (.iload_n 1, 1) := by decide +kernel
theorem dX3_becomes_65 : decode cX3_becomes 65 = .ok (.iconst 5, 1) := by decide +kernel
theorem dX3_becomes_66 : decode cX3_becomes 66 = .ok (.invokevirtual 80, 3) := by decide +kernel
theorem dX3_becomes_69 : decode cX3_becomes 69 = .ok (.invokestatic 77, 3) := by decide +kernel
theorem dX3_becomes_72 : decode cX3_becomes 72 = .ok (.lcmp, 1) := by decide +kernel
theorem dX3_becomes_73 : decode cX3_becomes 73 = .ok (.ifCond .ge 11, 3) := by decide +kernel
theorem dX3_becomes_76 : decode cX3_becomes 76 = .ok (.aload_n 0, 1) := by decide +kernel
theorem dX3_becomes_77 : decode cX3_becomes 77 = .ok (.iload_n 1, 1) := by decide +kernel
theorem dX3_becomes_78 : decode cX3_becomes 78 = .ok (.iconst 5, 1) := by decide +kernel
theorem dX3_becomes_79 : decode cX3_becomes 79 = .ok (.lload 5, 2) := by decide +kernel
theorem dX3_becomes_81 : decode cX3_becomes 81 = .ok (.invokevirtual 88, 3) := by decide +kernel
theorem dX3_becomes_84 : decode cX3_becomes 84 = .ok (.iload 4, 2) := by decide +kernel
theorem dX3_becomes_86 : decode cX3_becomes 86 = .ok (.lload 5, 2) := by decide +kernel
theorem dX3_becomes_88 : decode cX3_becomes 88 = .ok (.invokestatic 25, 3) := by decide +kernel
theorem dX3_becomes_91 : decode cX3_becomes 91 = .ok (.aload_n 0, 1) := by decide +kernel
theorem dX3_becomes_92 : decode cX3_becomes 92 = .ok (.iload_n 1, 1) := by decide +kernel
theorem dX3_becomes_93 : decode cX3_becomes 93 = .ok (.bipush 6, 2) := by decide +kernel
theorem dX3_becomes_95 : decode cX3_becomes 95 = .ok (.invokevirtual 80, 3) := by decide +kernel
theorem dX3_becomes_98 : decode cX3_becomes 98 = .ok (.lcmp, 1) := by decide +kernel
theorem dX3_becomes_99 : decode cX3_becomes 99 = .ok (.ifCond .le 17, 3) := by decide +kernel
theorem dX3_becomes_102 : decode cX3_becomes 102 = .ok (.aload_n 0, 1) := by decide +kernel
theorem dX3_becomes_103 : decode cX3_becomes 103 = .ok (.iload_n 1, 1) := by decide +kernel
theorem dX3_becomes_104 : decode cX3_becomes 104 = .ok (.bipush 6, 2) := by decide +kernel
theorem dX3_becomes_106 : decode cX3_becomes 106 = .ok (.iload 4, 2) := by decide +kernel
theorem dX3_becomes_108 : decode cX3_becomes 108 = .ok (.lload 5, 2) := by decide +kernel
theorem dX3_becomes_110 : decode cX3_becomes 110 = .ok (.invokestatic 25, 3) := by decide +kernel
theorem dX3_becomes_113 : decode cX3_becomes 113 = .ok (.invokevirtual 88, 3) := by decide +kernel
theorem dX3_becomes_116 : decode cX3_becomes 116 = .ok (.aload_n 0, 1) := by decide +kernel
theorem dX3_becomes_117 : decode cX3_becomes 117 = .ok (.dup, 1) := by decide +kernel
theorem dX3_becomes_118 : decode cX3_becomes 118 = .ok (.getfield 92, 3) := by decide +kernel
theorem dX3_becomes_121 : decode cX3_becomes 121 = .ok (.iconst 1, 1) := by decide +kernel
theorem dX3_becomes_122 : decode cX3_becomes 122 = .ok (.iadd, 1) := by decide +kernel
theorem dX3_becomes_123 : decode cX3_becomes 123 = .ok (.putfield 92, 3) := by decide +kernel
theorem dX3_becomes_126 : decode cX3_becomes 126 = .ok (.lload 5, 2) := by decide +kernel
theorem dX3_becomes_128 : decode cX3_becomes 128 = .ok (.lreturn, 1) := by decide +kernel
set_option maxRecDepth 20000 in
theorem ggX3_needle_X3_own : GoodIn wsX3_needle wsX3_own := goodIn_r _ [9] (by decide +kernel) (by decide +kernel)
set_option maxRecDepth 20000 in
theorem gX3_needle_X3_own : GoodIn wsX3_needle (va_wsS RX3 95 yX3_own wsX3_own) := goodIn_app (goodIn_of _ (by decide +kernel)) ggX3_needle_X3_own
set_option maxRecDepth 20000 in
theorem ggX3_needle_X3_isNumber : GoodIn wsX3_needle wsX3_isNumber := goodIn_r _ [12, 4, 5, 13, 14, 8, 15, 16, 17] (by decide +kernel) (by decide +kernel)
set_option maxRecDepth 20000 in
theorem gX3_needle_X3_isNumber : GoodIn wsX3_needle (va_wsS RX3 74 yX3_isNumber wsX3_isNumber) := goodIn_app (goodIn_of _ (by decide +kernel)) ggX3_needle_X3_isNumber
set_option maxRecDepth 20000 in
theorem ggX3_needle_X3_rank : GoodIn wsX3_needle wsX3_rank := goodIn_r _ [20, 21, 13, 14, 8, 15, 16, 17] (by decide +kernel) (by decide +kernel)
set_option maxRecDepth 20000 in
theorem gX3_needle_X3_rank : GoodIn wsX3_needle (va_wsS RX3 77 yX3_rank wsX3_rank) := goodIn_app (goodIn_of _ (by decide +kernel)) ggX3_needle_X3_rank
set_option maxRecDepth 20000 in
theorem ggX3_needle_X3_set : GoodIn wsX3_needle wsX3_set := goodIn_r _ [25, 26, 39, 40, 41, 42, 43, 44, 45] (by decide +kernel) (by decide +kernel)
set_option maxRecDepth 20000 in
theorem gX3_needle_X3_set : GoodIn wsX3_needle (wsV RX3 88 RX3 yX3_set wsX3_set) := goodIn_app (goodIn_of _ (by decide +kernel)) ggX3_needle_X3_set
set_option maxRecDepth 20000 in
theorem ggX3_needle_X3_fresh : GoodIn wsX3_needle wsX3_fresh := goodIn_r _ [30, 3, 31, 32, 33, 8, 34, 18, 19, 20, 21, 13, 14, 15, 16, 17, 35, 36, 37, 38, 26, 22, 23, 24, 25, 39, 40, 41, 42, 43, 44, 45] (by decide +kernel) (by decide +kernel)
set_option maxRecDepth 20000 in
theorem gX3_needle_X3_fresh : GoodIn wsX3_needle (wsV RX3 98 RX3 yX3_fresh wsX3_fresh) := goodIn_app (goodIn_of _ (by decide +kernel)) ggX3_needle_X3_fresh
theorem dX3_needle_0 : decode cX3_needle 0 = .ok (.iload_n 1, 1) := by decide +kernel
theorem dX3_needle_1 : decode cX3_needle 1 = .ok (.lload_n 2, 1) := by decide +kernel
theorem dX3_needle_2 : decode cX3_needle 2 = .ok (.invokestatic 95, 3) := by decide +kernel
theorem dX3_needle_5 : decode cX3_needle 5 = .ok (.lstore 6, 2) := by decide +kernel
theorem dX3_needle_7 : decode cX3_needle 7 = .ok (.iload_n 1, 1) := by decide +kernel
theorem dX3_needle_8 : decode cX3_needle 8 = .ok (.lload 4, 2) := by decide +kernel
theorem dX3_needle_10 : decode cX3_needle 10 = .ok (.invokestatic 95, 3) := by decide +kernel
theorem dX3_needle_13 : decode cX3_needle 13 = .ok (.lstore 8, 2) := by decide +kernel
theorem dX3_needle_15 : decode cX3_needle 15 = .ok (.iload_n 1, 1) := by decide +kernel
theorem dX3_needle_16 : decode cX3_needle 16 = .ok (.lload 6, 2) := by decide +kernel
theorem dX3_needle_18 : decode cX3_needle 18 = .ok (.invokestatic 74, 3) := by decide +kernel
theorem dX3_needle_21 : decode cX3_needle 21 = .ok (.ifCond .eq 32, 3) := by decide +kernel
theorem dX3_needle_24 : decode cX3_needle 24 = .ok (.iload_n 1, 1) := by decide +kernel
theorem dX3_needle_25 : decode cX3_needle 25 = .ok (.lload 8, 2) := by decide +kernel
theorem dX3_needle_27 : decode cX3_needle 27 = .ok (.invokestatic 74, 3) := by decide +kernel
theorem dX3_needle_30 : decode cX3_needle 30 = .ok (.ifCond .eq 23, 3) := by decide +kernel
theorem dX3_needle_33 : decode cX3_needle 33 = .ok (.iload_n 1, 1) := by decide +kernel
theorem dX3_needle_34 : decode cX3_needle 34 = .ok (.lload 6, 2) := by decide +kernel
theorem dX3_needle_36 : decode cX3_needle 36 = .ok (.invokestatic 77, 3) := by decide +kernel
theorem dX3_needle_39 : decode cX3_needle 39 = .ok (.iload_n 1, 1) := by decide +kernel
theorem dX3_needle_40 : decode cX3_needle 40 = .ok (.lload 8, 2) := by decide +kernel
theorem dX3_needle_42 : decode cX3_needle 42 = .ok (.invokestatic 77, 3) := by decide +kernel
theorem dX3_needle_45 : decode cX3_needle 45 = .ok (.lcmp, 1) := by decide +kernel
theorem dX3_needle_46 : decode cX3_needle 46 = .ok (.ifCond .gt 7, 3) := by decide +kernel
theorem dX3_needle_49 : decode cX3_needle 49 = .ok (.iconst 1, 1) := by decide +kernel
theorem dX3_needle_50 : decode cX3_needle 50 = .ok (.goto 4, 3) := by decide +kernel
theorem dX3_needle_53 : decode cX3_needle 53 = .ok (.iconst 0, 1) := by decide +kernel
theorem dX3_needle_54 : decode cX3_needle 54 = .ok (.istore 10, 2) := by decide +kernel
theorem dX3_needle_56 : decode cX3_needle 56 = .ok (.aload_n 0, 1) := by decide +kernel
theorem dX3_needle_57 : decode cX3_needle 57 = .ok (.iload 10, 2) := by decide +kernel
theorem dX3_needle_59 : decode cX3_needle 59 = .ok (.ifCond .ne 7, 3) := by decide +kernel
theorem dX3_needle_62 : decode cX3_needle 62 = .ok (.iconst 1, 1) := by decide +kernel
theorem dX3_needle_63 : decode cX3_needle 63 = .ok (.goto 17, 3) := by decide +kernel
theorem dX3_needle_66 : decode cX3_needle 66 = .ok (.aload_n 0, 1) := by decide +kernel
theorem dX3_needle_67 : decode cX3_needle 67 = .ok (.getfield 67, 3) := by decide +kernel
theorem dX3_needle_70 : decode cX3_needle 70 = .ok (.bipush 8, 2) := by decide +kernel
theorem dX3_needle_72 : decode cX3_needle 72 = .ok (.if_icmp .ne 7, 3) := by decide +kernel
theorem dX3_needle_75 : decode cX3_needle 75 = .ok (.iconst 2, 1) := by decide +kernel
theorem dX3_needle_76 : decode cX3_needle 76 = .ok (.goto 4, 3) := by decide +kernel
theorem dX3_needle_79 : decode cX3_needle 79 = .ok (.iconst 0, 1) := by decide +kernel
theorem dX3_needle_80 : decode cX3_needle 80 = .ok (.putfield 17, 3) := by decide +kernel
theorem dX3_needle_83 : decode cX3_needle 83 = .ok (.aload_n 0, 1) := by decide +kernel
theorem dX3_needle_84 : decode cX3_needle 84 = .ok (.getfield 17, 3) := by decide +kernel
theorem dX3_needle_87 : decode cX3_needle 87 = .ok (.ifCond .le 5, 3) := by decide +kernel
theorem dX3_needle_90 : decode cX3_needle 90 = .ok (.iconst 0, 1) := by decide +kernel
theorem dX3_needle_91 : decode cX3_needle 91 = .ok (.ireturn, 1) := by decide +kernel
theorem dX3_needle_92 : decode cX3_needle 92 = .ok (.aload_n 0, 1) := by decide +kernel
theorem dX3_needle_93 : decode cX3_needle 93 = .ok (.getfield 7, 3) := by decide +kernel
theorem dX3_needle_96 : decode cX3_needle 96 = .ok (.aload_n 0, 1) := by decide +kernel
theorem dX3_needle_97 : decode cX3_needle 97 = .ok (.getfield 67, 3) := by decide +kernel
theorem dX3_needle_100 : decode cX3_needle 100 = .ok (.iload_n 1, 1) := by decide +kernel
theorem dX3_needle_101 : decode cX3_needle 101 = .ok (.bastore, 1) := by decide +kernel
theorem dX3_needle_102 : decode cX3_needle 102 = .ok (.aload_n 0, 1) := by decide +kernel
theorem dX3_needle_103 : decode cX3_needle 103 = .ok (.aload_n 0, 1) := by decide +kernel
theorem dX3_needle_104 : decode cX3_needle 104 = .ok (.getfield 67, 3) := by decide +kernel
theorem dX3_needle_107 : decode cX3_needle 107 = .ok (.iconst 0, 1) := by decide +kernel
theorem dX3_needle_108 : decode cX3_needle 108 = .ok (.lload 6, 2) := by decide +kernel
theorem dX3_needle_110 : decode cX3_needle 110 = .ok (.invokevirtual 88, 3) := by decide +kernel
theorem dX3_needle_113 : decode cX3_needle 113 = .ok (.aload_n 0, 1) := by decide +kernel
theorem dX3_needle_114 : decode cX3_needle 114 = .ok (.aload_n 0, 1) := by decide +kernel
theorem dX3_needle_115 : decode cX3_needle 115 = .ok (.getfield 67, 3) := by decide +kernel
theorem dX3_needle_118 : decode cX3_needle 118 = .ok (.iconst 1, 1) := by decide +kernel
theorem dX3_needle_119 : decode cX3_needle 119 = .ok (.lload 8, 2) := by decide +kernel
theorem dX3_needle_121 : decode cX3_needle 121 = .ok (.invokevirtual 88, 3) := by decide +kernel
theorem dX3_needle_124 : decode cX3_needle 124 = .ok (.aload_n 0, 1) := by decide +kernel
theorem dX3_needle_125 : decode cX3_needle 125 = .ok (.aload_n 0, 1) := by decide +kernel
theorem dX3_needle_126 : decode cX3_needle 126 = .ok (.getfield 67, 3) := by decide +kernel
theorem dX3_needle_129 : decode cX3_needle 129 = .ok (.iconst 3, 1) := by decide +kernel
theorem dX3_needle_130 : decode cX3_needle 130 = .ok (.iload_n 1, 1) := by decide +kernel
theorem dX3_needle_131 : decode cX3_needle 131 = .ok (.ifCond .eq 9, 3) := by decide +kernel
theorem dX3_needle_134 : decode cX3_needle 134 = .ok (.ldc2_w 29, 3) := by decide +kernel
theorem dX3_needle_137 : decode cX3_needle 137 = .ok (.goto 6, 3) := by decide +kernel
theorem dX3_needle_140 : decode cX3_needle 140 = .ok (.ldc2_w 31, 3) := by decide +kernel
theorem dX3_needle_143 : decode cX3_needle 143 = .ok (.invokevirtual 88, 3) := by decide +kernel
theorem dX3_needle_146 : decode cX3_needle 146 = .ok (.aload_n 0, 1) := by decide +kernel
theorem dX3_needle_147 : decode cX3_needle 147 = .ok (.aload_n 0, 1) := by decide +kernel
theorem dX3_needle_148 : decode cX3_needle 148 = .ok (.getfield 67, 3) := by decide +kernel
theorem dX3_needle_151 : decode cX3_needle 151 = .ok (.invokevirtual 98, 3) := by decide +kernel
theorem dX3_needle_154 : decode cX3_needle 154 = .ok (.aload_n 0, 1) := by decide +kernel
theorem dX3_needle_155 : decode cX3_needle 155 = .ok (.dup, 1) := by decide +kernel
theorem dX3_needle_156 : decode cX3_needle 156 = .ok (.getfield 67, 3) := by decide +kernel
theorem dX3_needle_159 : decode cX3_needle 159 = .ok (.iconst 1, 1) := by decide +kernel
theorem dX3_needle_160 : decode cX3_needle 160 = .ok (.iadd, 1) := by decide +kernel
theorem dX3_needle_161 : decode cX3_needle 161 = .ok (.putfield 67, 3) := by decide +kernel
theorem dX3_needle_164 : decode cX3_needle 164 = .ok (.aload_n 0, 1) := by decide +kernel
theorem dX3_needle_165 : decode cX3_needle 165 = .ok (.getfield 67, 3) := by decide +kernel
theorem dX3_needle_168 : decode cX3_needle 168 = .ok (.iconst 1, 1) := by decide +kernel
theorem dX3_needle_169 : decode cX3_needle 169 = .ok (.isub, 1) := by decide +kernel
theorem dX3_needle_170 : decode cX3_needle 170 = .ok (.ireturn, 1) := by decide +kernel
set_option maxRecDepth 20000 in
theorem ggX3_put_X3_may : GoodIn wsX3_put wsX3_may := goodIn_r _ [6, 1, 7, 8, 9, 10, 5, 11, 12, 13, 14, 15, 16, 17, 18, 19, 20, 21, 22, 48, 49, 50, 51, 52, 53, 54] (by decide +kernel) (by decide +kernel)
set_option maxRecDepth 20000 in
theorem gX3_put_X3_may : GoodIn wsX3_put (wsV RX3 102 RX3 yX3_may wsX3_may) := goodIn_app (goodIn_of _ (by decide +kernel)) ggX3_put_X3_may
set_option maxRecDepth 20000 in
theorem ggX3_put_X3_own : GoodIn wsX3_put wsX3_own := goodIn_r _ [25] (by decide +kernel) (by decide +kernel)
set_option maxRecDepth 20000 in
theorem gX3_put_X3_own : GoodIn wsX3_put (va_wsS RX3 95 yX3_own wsX3_own) := goodIn_app (goodIn_of _ (by decide +kernel)) ggX3_put_X3_own
set_option maxRecDepth 20000 in
theorem ggX3_put_X3_becomes : GoodIn wsX3_put wsX3_becomes := goodIn_r _ [29, 1, 30, 31, 32, 33, 5, 34, 35, 36, 37, 38, 18, 19, 20, 21, 22, 39, 40, 41, 42, 43, 44, 45, 46, 47, 48, 49, 50, 51, 52, 53, 54] (by decide +kernel) (by decide +kernel)
set_option maxRecDepth 20000 in
theorem gX3_put_X3_becomes : GoodIn wsX3_put (wsV RX3 106 RX3 yX3_becomes wsX3_becomes) := goodIn_app (goodIn_of _ (by decide +kernel)) ggX3_put_X3_becomes
theorem dX3_put_0 : decode cX3_put 0 = .ok (.aload_n 0, 1) := by decide +kernel
theorem dX3_put_1 : decode cX3_put 1 = .ok (.iload_n 1, 1) := by decide +kernel
theorem dX3_put_2 : decode cX3_put 2 = .ok (.lload_n 2, 1) := by decide +kernel
theorem dX3_put_3 : decode cX3_put 3 = .ok (.invokevirtual 102, 3) := by decide +kernel
theorem dX3_put_6 : decode cX3_put 6 = .ok (.ifCond .eq 21, 3) := by decide +kernel
theorem dX3_put_9 : decode cX3_put 9 = .ok (.aload_n 0, 1) := by decide +kernel
theorem dX3_put_10 : decode cX3_put 10 = .ok (.iload_n 1, 1) := by decide +kernel
theorem dX3_put_11 : decode cX3_put 11 = .ok (.aload_n 0, 1) := by decide +kernel
theorem dX3_put_12 : decode cX3_put 12 = .ok (.getfield 7, 3) := by decide +kernel
theorem dX3_put_15 : decode cX3_put 15 = .ok (.iload_n 1, 1) := by decide +kernel
theorem dX3_put_16 : decode cX3_put 16 = .ok (.baload, 1) := by decide +kernel
theorem dX3_put_17 : decode cX3_put 17 = .ok (.lload_n 2, 1) := by decide +kernel
theorem dX3_put_18 : decode cX3_put 18 = .ok (.invokestatic 95, 3) := by decide +kernel
theorem dX3_put_21 : decode cX3_put 21 = .ok (.invokevirtual 106, 3) := by decide +kernel
theorem dX3_put_24 : decode cX3_put 24 = .ok (.goto 4, 3) := by decide +kernel
theorem dX3_put_27 : decode cX3_put 27 = .ok (.lconst 0, 1) := by decide +kernel
theorem dX3_put_28 : decode cX3_put 28 = .ok (.lreturn, 1) := by decide +kernel
set_option maxRecDepth 20000 in
theorem ggX3_turn_X3_may : GoodIn wsX3_turn wsX3_may := goodIn_r _ [7, 1, 2, 8, 9, 10, 6, 11, 12, 13, 14, 15, 16, 17, 18, 19, 20, 21, 22, 84, 85, 86, 87, 88, 89, 90] (by decide +kernel) (by decide +kernel)
set_option maxRecDepth 20000 in
theorem gX3_turn_X3_may : GoodIn wsX3_turn (wsV RX3 102 RX3 yX3_may wsX3_may) := goodIn_app (goodIn_of _ (by decide +kernel)) ggX3_turn_X3_may
set_option maxRecDepth 20000 in
theorem ggX3_turn_X3_own : GoodIn wsX3_turn wsX3_own := goodIn_r _ [25] (by decide +kernel) (by decide +kernel)
set_option maxRecDepth 20000 in
theorem gX3_turn_X3_own : GoodIn wsX3_turn (va_wsS RX3 95 yX3_own wsX3_own) := goodIn_app (goodIn_of _ (by decide +kernel)) ggX3_turn_X3_own
set_option maxRecDepth 20000 in
theorem ggX3_turn_X3_get : GoodIn wsX3_turn wsX3_get := goodIn_r _ [29, 30, 84, 85, 86, 87, 88, 89, 90] (by decide +kernel) (by decide +kernel)
set_option maxRecDepth 20000 in
theorem gX3_turn_X3_get : GoodIn wsX3_turn (wsV RX3 80 RX3 yX3_get wsX3_get) := goodIn_app (goodIn_of _ (by decide +kernel)) ggX3_turn_X3_get
set_option maxRecDepth 20000 in
theorem ggX3_turn_X3_isEndless : GoodIn wsX3_turn wsX3_isEndless := goodIn_r _ [33, 16, 17, 18, 19, 6, 20, 21, 22] (by decide +kernel) (by decide +kernel)
set_option maxRecDepth 20000 in
theorem gX3_turn_X3_isEndless : GoodIn wsX3_turn (va_wsS RX3 109 yX3_isEndless wsX3_isEndless) := goodIn_app (goodIn_of _ (by decide +kernel)) ggX3_turn_X3_isEndless
set_option maxRecDepth 20000 in
theorem ggX3_turn_X3_sum : GoodIn wsX3_turn wsX3_sum := goodIn_r _ [36, 37, 38, 39, 40, 41, 42, 43, 44, 45, 46, 47, 48, 49, 50, 51, 52, 53, 54, 55, 56, 57, 58, 59, 60, 61, 62, 63, 64, 65, 66] (by decide +kernel) (by decide +kernel)
set_option maxRecDepth 20000 in
theorem gX3_turn_X3_sum : GoodIn wsX3_turn (va_wsS RX3 112 yX3_sum wsX3_sum) := goodIn_app (goodIn_of _ (by decide +kernel)) ggX3_turn_X3_sum
set_option maxRecDepth 20000 in
theorem ggX3_turn_X3_becomes : GoodIn wsX3_turn wsX3_becomes := goodIn_r _ [70, 1, 71, 72, 73, 74, 6, 75, 76, 77, 78, 79, 18, 19, 20, 21, 22, 26, 27, 28, 29, 30, 80, 81, 82, 83, 84, 85, 86, 87, 88, 89, 90] (by decide +kernel) (by decide +kernel)
set_option maxRecDepth 20000 in
theorem gX3_turn_X3_becomes : GoodIn wsX3_turn (wsV RX3 106 RX3 yX3_becomes wsX3_becomes) := goodIn_app (goodIn_of _ (by decide +kernel)) ggX3_turn_X3_becomes
theorem dX3_turn_0 : decode cX3_turn 0 = .ok (.aload_n 0, 1) := by decide +kernel
theorem dX3_turn_1 : decode cX3_turn 1 = .ok (.iload_n 1, 1) := by decide +kernel
theorem dX3_turn_2 : decode cX3_turn 2 = .ok (.lload_n 2, 1) := by decide +kernel
theorem dX3_turn_3 : decode cX3_turn 3 = .ok (.invokevirtual 102, 3) := by decide +kernel
theorem dX3_turn_6 : decode cX3_turn 6 = .ok (.ifCond .ne 5, 3) := by decide +kernel
theorem dX3_turn_9 : decode cX3_turn 9 = .ok (.lconst 0, 1) := by decide +kernel
theorem dX3_turn_10 : decode cX3_turn 10 = .ok (.lreturn, 1) := by decide +kernel
theorem dX3_turn_11 : decode cX3_turn 11 = .ok (.aload_n 0, 1) := by decide +kernel
theorem dX3_turn_12 : decode cX3_turn 12 = .ok (.getfield 7, 3) := by decide +kernel
theorem dX3_turn_15 : decode cX3_turn 15 = .ok (.iload_n 1, 1) := by decide +kernel
theorem dX3_turn_16 : decode cX3_turn 16 = .ok (.baload, 1) := by decide +kernel
theorem dX3_turn_17 : decode cX3_turn 17 = .ok (.istore 4, 2) := by decide +kernel
theorem dX3_turn_19 : decode cX3_turn 19 = .ok (.iload 4, 2) := by decide +kernel
theorem dX3_turn_21 : decode cX3_turn 21 = .ok (.lload_n 2, 1) := by decide +kernel
theorem dX3_turn_22 : decode cX3_turn 22 = .ok (.invokestatic 95, 3) := by decide +kernel
theorem dX3_turn_25 : decode cX3_turn 25 = .ok (.lstore 5, 2) := by decide +kernel
theorem dX3_turn_27 : decode cX3_turn 27 = .ok (.aload_n 0, 1) := by decide +kernel
theorem dX3_turn_28 : decode cX3_turn 28 = .ok (.iload_n 1, 1) := by decide +kernel
theorem dX3_turn_29 : decode cX3_turn 29 = .ok (.iconst 2, 1) := by decide +kernel
theorem dX3_turn_30 : decode cX3_turn 30 = .ok (.invokevirtual 80, 3) := by decide +kernel
theorem dX3_turn_33 : decode cX3_turn 33 = .ok (.lstore 7, 2) := by decide +kernel
theorem dX3_turn_35 : decode cX3_turn 35 = .ok (.iload 4, 2) := by decide +kernel
theorem dX3_turn_37 : decode cX3_turn 37 = .ok (.lload 5, 2) := by decide +kernel
theorem dX3_turn_39 : decode cX3_turn 39 = .ok (.invokestatic 109, 3) := by decide +kernel
theorem dX3_turn_42 : decode cX3_turn 42 = .ok (.ifCond .eq 28, 3) := by decide +kernel
theorem dX3_turn_45 : decode cX3_turn 45 = .ok (.iload 4, 2) := by decide +kernel
theorem dX3_turn_47 : decode cX3_turn 47 = .ok (.lload 7, 2) := by decide +kernel
theorem dX3_turn_49 : decode cX3_turn 49 = .ok (.invokestatic 109, 3) := by decide +kernel
theorem dX3_turn_52 : decode cX3_turn 52 = .ok (.ifCond .eq 18, 3) := by decide +kernel
theorem dX3_turn_55 : decode cX3_turn 55 = .ok (.lload 5, 2) := by decide +kernel
theorem dX3_turn_57 : decode cX3_turn 57 = .ok (.lload 7, 2) := by decide +kernel
theorem dX3_turn_59 : decode cX3_turn 59 = .ok (.lcmp, 1) := by decide +kernel
theorem dX3_turn_60 : decode cX3_turn 60 = .ok (.ifCond .eq 10, 3) := by decide +kernel
theorem dX3_turn_63 : decode cX3_turn 63 = .ok (.aload_n 0, 1) := by decide +kernel
theorem dX3_turn_64 : decode cX3_turn 64 = .ok (.iconst 3, 1) := by decide +kernel
theorem dX3_turn_65 : decode cX3_turn 65 = .ok (.putfield 17, 3) := by decide +kernel
theorem dX3_turn_68 : decode cX3_turn 68 = .ok (.lconst 0, 1) := by decide +kernel
theorem dX3_turn_69 : decode cX3_turn 69 = .ok (.lreturn, 1) := by decide +kernel
theorem dX3_turn_70 : decode cX3_turn 70 = .ok (.aload_n 0, 1) := by decide +kernel
theorem dX3_turn_71 : decode cX3_turn 71 = .ok (.iload_n 1, 1) := by decide +kernel
theorem dX3_turn_72 : decode cX3_turn 72 = .ok (.iload 4, 2) := by decide +kernel
theorem dX3_turn_74 : decode cX3_turn 74 = .ok (.lload 7, 2) := by decide +kernel
theorem dX3_turn_76 : decode cX3_turn 76 = .ok (.lload 5, 2) := by decide +kernel
theorem dX3_turn_78 : decode cX3_turn 78 = .ok (.invokestatic 112, 3) := by decide +kernel
theorem dX3_turn_81 : decode cX3_turn 81 = .ok (.invokevirtual 106, 3) := by decide +kernel
theorem dX3_turn_84 : decode cX3_turn 84 = .ok (.lreturn, 1) := by decide +kernel
set_option maxRecDepth 20000 in
theorem ggX3_damp_X3_may : GoodIn wsX3_damp wsX3_may := goodIn_r _ [6, 1, 7, 8, 9, 10, 5, 11, 12, 13, 14, 15, 16, 17, 18, 19, 20, 21, 22, 32, 33, 34, 35, 36, 37, 38] (by decide +kernel) (by decide +kernel)
set_option maxRecDepth 20000 in
theorem gX3_damp_X3_may : GoodIn wsX3_damp (wsV RX3 102 RX3 yX3_may wsX3_may) := goodIn_app (goodIn_of _ (by decide +kernel)) ggX3_damp_X3_may
set_option maxRecDepth 20000 in
theorem ggX3_damp_X3_sizeOf : GoodIn wsX3_damp wsX3_sizeOf := goodIn_r _ [20, 21, 22] (by decide +kernel) (by decide +kernel)
set_option maxRecDepth 20000 in
theorem gX3_damp_X3_sizeOf : GoodIn wsX3_damp (va_wsS RX3 25 yX3_sizeOf wsX3_sizeOf) := goodIn_app (goodIn_of _ (by decide +kernel)) ggX3_damp_X3_sizeOf
set_option maxRecDepth 20000 in
theorem ggX3_damp_X3_set : GoodIn wsX3_damp wsX3_set := goodIn_r _ [26, 27, 32, 33, 34, 35, 36, 37, 38] (by decide +kernel) (by decide +kernel)
set_option maxRecDepth 20000 in
theorem gX3_damp_X3_set : GoodIn wsX3_damp (wsV RX3 88 RX3 yX3_set wsX3_set) := goodIn_app (goodIn_of _ (by decide +kernel)) ggX3_damp_X3_set
set_option maxRecDepth 20000 in
theorem ggX3_damp_X3_get : GoodIn wsX3_damp wsX3_get := goodIn_r _ [31, 27, 32, 33, 34, 35, 36, 37, 38] (by decide +kernel) (by decide +kernel)
set_option maxRecDepth 20000 in
theorem gX3_damp_X3_get : GoodIn wsX3_damp (wsV RX3 80 RX3 yX3_get wsX3_get) := goodIn_app (goodIn_of _ (by decide +kernel)) ggX3_damp_X3_get
theorem dX3_damp_0 : decode cX3_damp 0 = .ok (.aload_n 0, 1) := by decide +kernel
theorem dX3_damp_1 : decode cX3_damp 1 = .ok (.iload_n 1, 1) := by decide +kernel
theorem dX3_damp_2 : decode cX3_damp 2 = .ok (.lload_n 2, 1) := by decide +kernel
theorem dX3_damp_3 : decode cX3_damp 3 = .ok (.invokevirtual 102, 3) := by decide +kernel
theorem dX3_damp_6 : decode cX3_damp 6 = .ok (.ifCond .ne 5, 3) := by decide +kernel
theorem dX3_damp_9 : decode cX3_damp 9 = .ok (.lconst 0, 1) := by decide +kernel
theorem dX3_damp_10 : decode cX3_damp 10 = .ok (.lreturn, 1) := by decide +kernel
theorem dX3_damp_11 : decode cX3_damp 11 = .ok (.aload_n 0, 1) := by decide +kernel
theorem dX3_damp_12 : decode cX3_damp 12 = .ok (.iload_n 1, 1) := by decide +kernel
theorem dX3_damp_13 : decode cX3_damp 13 = .ok (.iconst 3, 1) := by decide +kernel
theorem dX3_damp_14 : decode cX3_damp 14 = .ok (.aload_n 0, 1) := by decide +kernel
theorem dX3_damp_15 : decode cX3_damp 15 = .ok (.getfield 7, 3) := by decide +kernel
theorem dX3_damp_18 : decode cX3_damp 18 = .ok (.iload_n 1, 1) := by decide +kernel
theorem dX3_damp_19 : decode cX3_damp 19 = .ok (.baload, 1) := by decide +kernel
theorem dX3_damp_20 : decode cX3_damp 20 = .ok (.lload_n 2, 1) := by decide +kernel
theorem dX3_damp_21 : decode cX3_damp 21 = .ok (.invokestatic 25, 3) := by decide +kernel
theorem dX3_damp_24 : decode cX3_damp 24 = .ok (.invokevirtual 88, 3) := by decide +kernel
theorem dX3_damp_27 : decode cX3_damp 27 = .ok (.aload_n 0, 1) := by decide +kernel
theorem dX3_damp_28 : decode cX3_damp 28 = .ok (.iload_n 1, 1) := by decide +kernel
theorem dX3_damp_29 : decode cX3_damp 29 = .ok (.iconst 3, 1) := by decide +kernel
theorem dX3_damp_30 : decode cX3_damp 30 = .ok (.invokevirtual 80, 3) := by decide +kernel
theorem dX3_damp_33 : decode cX3_damp 33 = .ok (.lreturn, 1) := by decide +kernel
set_option maxRecDepth 20000 in
theorem ggX3_pull_X3_may : GoodIn wsX3_pull wsX3_may := goodIn_r _ [6, 1, 7, 8, 9, 10, 5, 11, 12, 13, 14, 15, 16, 17, 18, 19, 20, 21, 22, 95, 96, 97, 98, 99, 100, 101] (by decide +kernel) (by decide +kernel)
set_option maxRecDepth 20000 in
theorem gX3_pull_X3_may : GoodIn wsX3_pull (wsV RX3 102 RX3 yX3_may wsX3_may) := goodIn_app (goodIn_of _ (by decide +kernel)) ggX3_pull_X3_may
set_option maxRecDepth 20000 in
theorem ggX3_pull_X3_own : GoodIn wsX3_pull wsX3_own := goodIn_r _ [25] (by decide +kernel) (by decide +kernel)
set_option maxRecDepth 20000 in
theorem gX3_pull_X3_own : GoodIn wsX3_pull (va_wsS RX3 95 yX3_own wsX3_own) := goodIn_app (goodIn_of _ (by decide +kernel)) ggX3_pull_X3_own
set_option maxRecDepth 20000 in
theorem ggX3_pull_X3_get : GoodIn wsX3_pull wsX3_get := goodIn_r _ [29, 30, 95, 96, 97, 98, 99, 100, 101] (by decide +kernel) (by decide +kernel)
set_option maxRecDepth 20000 in
theorem gX3_pull_X3_get : GoodIn wsX3_pull (wsV RX3 80 RX3 yX3_get wsX3_get) := goodIn_app (goodIn_of _ (by decide +kernel)) ggX3_pull_X3_get
set_option maxRecDepth 20000 in
theorem ggX3_pull_X3_alike : GoodIn wsX3_pull wsX3_alike := goodIn_r _ [33, 34, 35, 5, 36, 18, 19, 20, 21, 22] (by decide +kernel) (by decide +kernel)
set_option maxRecDepth 20000 in
theorem gX3_pull_X3_alike : GoodIn wsX3_pull (va_wsS RX3 116 yX3_alike wsX3_alike) := goodIn_app (goodIn_of _ (by decide +kernel)) ggX3_pull_X3_alike
set_option maxRecDepth 20000 in
theorem ggX3_pull_X3_turned : GoodIn wsX3_pull wsX3_turned := goodIn_r _ [39, 18, 19, 5, 20, 21, 22, 40, 41, 42, 43, 44] (by decide +kernel) (by decide +kernel)
set_option maxRecDepth 20000 in
theorem gX3_pull_X3_turned : GoodIn wsX3_pull (va_wsS RX3 120 yX3_turned wsX3_turned) := goodIn_app (goodIn_of _ (by decide +kernel)) ggX3_pull_X3_turned
set_option maxRecDepth 20000 in
theorem ggX3_pull_X3_sum : GoodIn wsX3_pull wsX3_sum := goodIn_r _ [47, 48, 49, 50, 51, 52, 53, 54, 55, 56, 57, 58, 59, 60, 61, 62, 63, 64, 65, 66, 67, 68, 69, 70, 71, 72, 73, 74, 75, 76, 77] (by decide +kernel) (by decide +kernel)
set_option maxRecDepth 20000 in
theorem gX3_pull_X3_sum : GoodIn wsX3_pull (va_wsS RX3 112 yX3_sum wsX3_sum) := goodIn_app (goodIn_of _ (by decide +kernel)) ggX3_pull_X3_sum
set_option maxRecDepth 20000 in
theorem ggX3_pull_X3_sizeOf : GoodIn wsX3_pull wsX3_sizeOf := goodIn_r _ [20, 21, 22] (by decide +kernel) (by decide +kernel)
set_option maxRecDepth 20000 in
theorem gX3_pull_X3_sizeOf : GoodIn wsX3_pull (va_wsS RX3 25 yX3_sizeOf wsX3_sizeOf) := goodIn_app (goodIn_of _ (by decide +kernel)) ggX3_pull_X3_sizeOf
set_option maxRecDepth 20000 in
theorem ggX3_pull_X3_sided : GoodIn wsX3_pull wsX3_sided := goodIn_r _ [42, 43, 44] (by decide +kernel) (by decide +kernel)
set_option maxRecDepth 20000 in
theorem gX3_pull_X3_sided : GoodIn wsX3_pull (va_wsS RX3 59 yX3_sided wsX3_sided) := goodIn_app (goodIn_of _ (by decide +kernel)) ggX3_pull_X3_sided
set_option maxRecDepth 20000 in
theorem ggX3_pull_X3_becomes : GoodIn wsX3_pull wsX3_becomes := goodIn_r _ [81, 1, 82, 83, 84, 85, 5, 86, 87, 88, 89, 90, 18, 19, 20, 21, 22, 26, 27, 28, 29, 30, 91, 92, 93, 94, 95, 96, 97, 98, 99, 100, 101] (by decide +kernel) (by decide +kernel)
set_option maxRecDepth 20000 in
theorem gX3_pull_X3_becomes : GoodIn wsX3_pull (wsV RX3 106 RX3 yX3_becomes wsX3_becomes) := goodIn_app (goodIn_of _ (by decide +kernel)) ggX3_pull_X3_becomes
theorem dX3_pull_0 : decode cX3_pull 0 = .ok (.aload_n 0, 1) := by decide +kernel
theorem dX3_pull_1 : decode cX3_pull 1 = .ok (.iload_n 1, 1) := by decide +kernel
theorem dX3_pull_2 : decode cX3_pull 2 = .ok (.lload_n 2, 1) := by decide +kernel
theorem dX3_pull_3 : decode cX3_pull 3 = .ok (.invokevirtual 102, 3) := by decide +kernel
theorem dX3_pull_6 : decode cX3_pull 6 = .ok (.ifCond .ne 5, 3) := by decide +kernel
theorem dX3_pull_9 : decode cX3_pull 9 = .ok (.iconst 0, 1) := by decide +kernel
theorem dX3_pull_10 : decode cX3_pull 10 = .ok (.ireturn, 1) := by decide +kernel
theorem dX3_pull_11 : decode cX3_pull 11 = .ok (.aload_n 0, 1) := by decide +kernel
theorem dX3_pull_12 : decode cX3_pull 12 = .ok (.getfield 7, 3) := by decide +kernel
theorem dX3_pull_15 : decode cX3_pull 15 = .ok (.iload_n 1, 1) := by decide +kernel
theorem dX3_pull_16 : decode cX3_pull 16 = .ok (.baload, 1) := by decide +kernel
theorem dX3_pull_17 : decode cX3_pull 17 = .ok (.istore 4, 2) := by decide +kernel
theorem dX3_pull_19 : decode cX3_pull 19 = .ok (.iload 4, 2) := by decide +kernel
theorem dX3_pull_21 : decode cX3_pull 21 = .ok (.lload_n 2, 1) := by decide +kernel
theorem dX3_pull_22 : decode cX3_pull 22 = .ok (.invokestatic 95, 3) := by decide +kernel
theorem dX3_pull_25 : decode cX3_pull 25 = .ok (.lstore 5, 2) := by decide +kernel
theorem dX3_pull_27 : decode cX3_pull 27 = .ok (.aload_n 0, 1) := by decide +kernel
theorem dX3_pull_28 : decode cX3_pull 28 = .ok (.iload_n 1, 1) := by decide +kernel
theorem dX3_pull_29 : decode cX3_pull 29 = .ok (.iconst 2, 1) := by decide +kernel
theorem dX3_pull_30 : decode cX3_pull 30 = .ok (.invokevirtual 80, 3) := by decide +kernel
theorem dX3_pull_33 : decode cX3_pull 33 = .ok (.lstore 7, 2) := by decide +kernel
theorem dX3_pull_35 : decode cX3_pull 35 = .ok (.lload 5, 2) := by decide +kernel
theorem dX3_pull_37 : decode cX3_pull 37 = .ok (.lstore 9, 2) := by decide +kernel
theorem dX3_pull_39 : decode cX3_pull 39 = .ok (.iload 4, 2) := by decide +kernel
theorem dX3_pull_41 : decode cX3_pull 41 = .ok (.lload 7, 2) := by decide +kernel
theorem dX3_pull_43 : decode cX3_pull 43 = .ok (.lload 5, 2) := by decide +kernel
theorem dX3_pull_45 : decode cX3_pull 45 = .ok (.invokestatic 116, 3) := by decide +kernel
theorem dX3_pull_48 : decode cX3_pull 48 = .ok (.ifCond .ne 68, 3) := by decide +kernel
theorem dX3_pull_51 : decode cX3_pull 51 = .ok (.iload 4, 2) := by decide +kernel
theorem dX3_pull_53 : decode cX3_pull 53 = .ok (.lload 5, 2) := by decide +kernel
theorem dX3_pull_55 : decode cX3_pull 55 = .ok (.iload 4, 2) := by decide +kernel
theorem dX3_pull_57 : decode cX3_pull 57 = .ok (.lload 7, 2) := by decide +kernel
theorem dX3_pull_59 : decode cX3_pull 59 = .ok (.invokestatic 120, 3) := by decide +kernel
theorem dX3_pull_62 : decode cX3_pull 62 = .ok (.invokestatic 112, 3) := by decide +kernel
theorem dX3_pull_65 : decode cX3_pull 65 = .ok (.lstore 11, 2) := by decide +kernel
theorem dX3_pull_67 : decode cX3_pull 67 = .ok (.iload 4, 2) := by decide +kernel
theorem dX3_pull_69 : decode cX3_pull 69 = .ok (.lload 11, 2) := by decide +kernel
theorem dX3_pull_71 : decode cX3_pull 71 = .ok (.invokestatic 25, 3) := by decide +kernel
theorem dX3_pull_74 : decode cX3_pull 74 = .ok (.aload_n 0, 1) := by decide +kernel
theorem dX3_pull_75 : decode cX3_pull 75 = .ok (.iload_n 1, 1) := by decide +kernel
theorem dX3_pull_76 : decode cX3_pull 76 = .ok (.iconst 3, 1) := by decide +kernel
theorem dX3_pull_77 : decode cX3_pull 77 = .ok (.invokevirtual 80, 3) := by decide +kernel
theorem dX3_pull_80 : decode cX3_pull 80 = .ok (.lcmp, 1) := by decide +kernel
theorem dX3_pull_81 : decode cX3_pull 81 = .ok (.ifCond .le 35, 3) := by decide +kernel
theorem dX3_pull_84 : decode cX3_pull 84 = .ok (.iload 4, 2) := by decide +kernel
theorem dX3_pull_86 : decode cX3_pull 86 = .ok (.lload 7, 2) := by decide +kernel
theorem dX3_pull_88 : decode cX3_pull 88 = .ok (.iload 4, 2) := by decide +kernel
theorem dX3_pull_90 : decode cX3_pull 90 = .ok (.aload_n 0, 1) := by decide +kernel
theorem dX3_pull_91 : decode cX3_pull 91 = .ok (.iload_n 1, 1) := by decide +kernel
theorem dX3_pull_92 : decode cX3_pull 92 = .ok (.iconst 3, 1) := by decide +kernel
theorem dX3_pull_93 : decode cX3_pull 93 = .ok (.invokevirtual 80, 3) := by decide +kernel
theorem dX3_pull_96 : decode cX3_pull 96 = .ok (.lload 11, 2) := by decide +kernel
theorem dX3_pull_98 : decode cX3_pull 98 = .ok (.lconst 0, 1) := by decide +kernel
theorem dX3_pull_99 : decode cX3_pull 99 = .ok (.lcmp, 1) := by decide +kernel
theorem dX3_pull_100 : decode cX3_pull 100 = .ok (.ifCond .ge 7, 3) := by decide +kernel
theorem dX3_pull_103 : decode cX3_pull 103 = .ok (.iconst 1, 1) := by decide +kernel
theorem dX3_pull_104 : decode cX3_pull 104 = .ok (.goto 4, 3) := by decide +kernel
theorem dX3_pull_107 : decode cX3_pull 107 = .ok (.iconst 0, 1) := by decide +kernel
theorem dX3_pull_108 : decode cX3_pull 108 = .ok (.invokestatic 59, 3) := by decide +kernel
theorem dX3_pull_111 : decode cX3_pull 111 = .ok (.invokestatic 112, 3) := by decide +kernel
theorem dX3_pull_114 : decode cX3_pull 114 = .ok (.lstore 9, 2) := by decide +kernel
theorem dX3_pull_116 : decode cX3_pull 116 = .ok (.iload 4, 2) := by decide +kernel
theorem dX3_pull_118 : decode cX3_pull 118 = .ok (.aload_n 0, 1) := by decide +kernel
theorem dX3_pull_119 : decode cX3_pull 119 = .ok (.iload_n 1, 1) := by decide +kernel
theorem dX3_pull_120 : decode cX3_pull 120 = .ok (.lload 9, 2) := by decide +kernel
theorem dX3_pull_122 : decode cX3_pull 122 = .ok (.invokevirtual 106, 3) := by decide +kernel
theorem dX3_pull_125 : decode cX3_pull 125 = .ok (.lload 5, 2) := by decide +kernel
theorem dX3_pull_127 : decode cX3_pull 127 = .ok (.invokestatic 116, 3) := by decide +kernel
theorem dX3_pull_130 : decode cX3_pull 130 = .ok (.ireturn, 1) := by decide +kernel
theorem dX3_whole_0 : decode cX3_whole 0 = .ok (.dload_n 0, 1) := by decide +kernel
theorem dX3_whole_1 : decode cX3_whole 1 = .ok (.ldc2_w 123, 3) := by decide +kernel
theorem dX3_whole_4 : decode cX3_whole 4 = .ok (.dcmp .l, 1) := by decide +kernel
theorem dX3_whole_5 : decode cX3_whole 5 = .ok (.ifCond .lt 5, 3) := by decide +kernel
theorem dX3_whole_8 : decode cX3_whole 8 = .ok (.dload_n 0, 1) := by decide +kernel
theorem dX3_whole_9 : decode cX3_whole 9 = .ok (.dreturn, 1) := by decide +kernel
theorem dX3_whole_10 : decode cX3_whole 10 = .ok (.dload_n 0, 1) := by decide +kernel
theorem dX3_whole_11 : decode cX3_whole 11 = .ok (.d2l, 1) := by decide +kernel
theorem dX3_whole_12 : decode cX3_whole 12 = .ok (.lstore 4, 2) := by decide +kernel
theorem dX3_whole_14 : decode cX3_whole 14 = .ok (.dload_n 0, 1) := by decide +kernel
theorem dX3_whole_15 : decode cX3_whole 15 = .ok (.lload 4, 2) := by decide +kernel
theorem dX3_whole_17 : decode cX3_whole 17 = .ok (.l2d, 1) := by decide +kernel
theorem dX3_whole_18 : decode cX3_whole 18 = .ok (.dsub, 1) := by decide +kernel
theorem dX3_whole_19 : decode cX3_whole 19 = .ok (.dstore 6, 2) := by decide +kernel
theorem dX3_whole_21 : decode cX3_whole 21 = .ok (.iload_n 3, 1) := by decide +kernel
theorem dX3_whole_22 : decode cX3_whole 22 = .ok (.ifCond .ne 22, 3) := by decide +kernel
theorem dX3_whole_25 : decode cX3_whole 25 = .ok (.iload_n 2, 1) := by decide +kernel
theorem dX3_whole_26 : decode cX3_whole 26 = .ok (.ifCond .eq 14, 3) := by decide +kernel
theorem dX3_whole_29 : decode cX3_whole 29 = .ok (.dload 6, 2) := by decide +kernel
theorem dX3_whole_31 : decode cX3_whole 31 = .ok (.dconst 0, 1) := by decide +kernel
theorem dX3_whole_32 : decode cX3_whole 32 = .ok (.dcmp .l, 1) := by decide +kernel
theorem dX3_whole_33 : decode cX3_whole 33 = .ok (.ifCond .le 7, 3) := by decide +kernel
theorem dX3_whole_36 : decode cX3_whole 36 = .ok (.iconst 1, 1) := by decide +kernel
theorem dX3_whole_37 : decode cX3_whole 37 = .ok (.goto 63, 3) := by decide +kernel
theorem dX3_whole_40 : decode cX3_whole 40 = .ok (.iconst 0, 1) := by decide +kernel
theorem dX3_whole_41 : decode cX3_whole 41 = .ok (.goto 59, 3) := by decide +kernel
theorem dX3_whole_44 : decode cX3_whole 44 = .ok (.iload_n 3, 1) := by decide +kernel
theorem dX3_whole_45 : decode cX3_whole 45 = .ok (.iconst 1, 1) := by decide +kernel
theorem dX3_whole_46 : decode cX3_whole 46 = .ok (.if_icmp .ne 22, 3) := by decide +kernel
theorem dX3_whole_49 : decode cX3_whole 49 = .ok (.iload_n 2, 1) := by decide +kernel
theorem dX3_whole_50 : decode cX3_whole 50 = .ok (.ifCond .ne 14, 3) := by decide +kernel
theorem dX3_whole_53 : decode cX3_whole 53 = .ok (.dload 6, 2) := by decide +kernel
theorem dX3_whole_55 : decode cX3_whole 55 = .ok (.dconst 0, 1) := by decide +kernel
theorem dX3_whole_56 : decode cX3_whole 56 = .ok (.dcmp .l, 1) := by decide +kernel
theorem dX3_whole_57 : decode cX3_whole 57 = .ok (.ifCond .le 7, 3) := by decide +kernel
theorem dX3_whole_60 : decode cX3_whole 60 = .ok (.iconst 1, 1) := by decide +kernel
theorem dX3_whole_61 : decode cX3_whole 61 = .ok (.goto 39, 3) := by decide +kernel
theorem dX3_whole_64 : decode cX3_whole 64 = .ok (.iconst 0, 1) := by decide +kernel
theorem dX3_whole_65 : decode cX3_whole 65 = .ok (.goto 35, 3) := by decide +kernel
theorem dX3_whole_68 : decode cX3_whole 68 = .ok (.dload 6, 2) := by decide +kernel
theorem dX3_whole_70 : decode cX3_whole 70 = .ok (.ldc2_w 125, 3) := by decide +kernel
theorem dX3_whole_73 : decode cX3_whole 73 = .ok (.dcmp .l, 1) := by decide +kernel
theorem dX3_whole_74 : decode cX3_whole 74 = .ok (.ifCond .gt 21, 3) := by decide +kernel
theorem dX3_whole_77 : decode cX3_whole 77 = .ok (.dload 6, 2) := by decide +kernel
theorem dX3_whole_79 : decode cX3_whole 79 = .ok (.ldc2_w 125, 3) := by decide +kernel
theorem dX3_whole_82 : decode cX3_whole 82 = .ok (.dcmp .l, 1) := by decide +kernel
theorem dX3_whole_83 : decode cX3_whole 83 = .ok (.ifCond .ne 16, 3) := by decide +kernel
theorem dX3_whole_86 : decode cX3_whole 86 = .ok (.lload 4, 2) := by decide +kernel
theorem dX3_whole_88 : decode cX3_whole 88 = .ok (.lconst 1, 1) := by decide +kernel
theorem dX3_whole_89 : decode cX3_whole 89 = .ok (.land, 1) := by decide +kernel
theorem dX3_whole_90 : decode cX3_whole 90 = .ok (.lconst 1, 1) := by decide +kernel
theorem dX3_whole_91 : decode cX3_whole 91 = .ok (.lcmp, 1) := by decide +kernel
theorem dX3_whole_92 : decode cX3_whole 92 = .ok (.ifCond .ne 7, 3) := by decide +kernel
theorem dX3_whole_95 : decode cX3_whole 95 = .ok (.iconst 1, 1) := by decide +kernel
theorem dX3_whole_96 : decode cX3_whole 96 = .ok (.goto 4, 3) := by decide +kernel
theorem dX3_whole_99 : decode cX3_whole 99 = .ok (.iconst 0, 1) := by decide +kernel
theorem dX3_whole_100 : decode cX3_whole 100 = .ok (.istore 8, 2) := by decide +kernel
theorem dX3_whole_102 : decode cX3_whole 102 = .ok (.iload 8, 2) := by decide +kernel
theorem dX3_whole_104 : decode cX3_whole 104 = .ok (.ifCond .eq 11, 3) := by decide +kernel
theorem dX3_whole_107 : decode cX3_whole 107 = .ok (.lload 4, 2) := by decide +kernel
theorem dX3_whole_109 : decode cX3_whole 109 = .ok (.l2d, 1) := by decide +kernel
theorem dX3_whole_110 : decode cX3_whole 110 = .ok (.dconst 1, 1) := by decide +kernel
theorem dX3_whole_111 : decode cX3_whole 111 = .ok (.dadd, 1) := by decide +kernel
theorem dX3_whole_112 : decode cX3_whole 112 = .ok (.goto 6, 3) := by decide +kernel
theorem dX3_whole_115 : decode cX3_whole 115 = .ok (.lload 4, 2) := by decide +kernel
theorem dX3_whole_117 : decode cX3_whole 117 = .ok (.l2d, 1) := by decide +kernel
theorem dX3_whole_118 : decode cX3_whole 118 = .ok (.dreturn, 1) := by decide +kernel
set_option maxRecDepth 20000 in
theorem ggX3_rest_X3_isThere : GoodIn wsX3_rest wsX3_isThere := goodIn_r _ [15, 16, 1, 76, 77, 78, 79, 80, 81, 82] (by decide +kernel) (by decide +kernel)
set_option maxRecDepth 20000 in
theorem gX3_rest_X3_isThere : GoodIn wsX3_rest (wsV RX3 70 RX3 yX3_isThere wsX3_isThere) := goodIn_app (goodIn_of _ (by decide +kernel)) ggX3_rest_X3_isThere
set_option maxRecDepth 20000 in
theorem ggX3_rest_X3_get : GoodIn wsX3_rest wsX3_get := goodIn_r _ [20, 21, 76, 77, 78, 79, 80, 81, 82] (by decide +kernel) (by decide +kernel)
set_option maxRecDepth 20000 in
theorem gX3_rest_X3_get : GoodIn wsX3_rest (wsV RX3 80 RX3 yX3_get wsX3_get) := goodIn_app (goodIn_of _ (by decide +kernel)) ggX3_rest_X3_get
set_option maxRecDepth 20000 in
theorem ggX3_rest_X3_sizeOf : GoodIn wsX3_rest wsX3_sizeOf := goodIn_r _ [24, 25, 26] (by decide +kernel) (by decide +kernel)
set_option maxRecDepth 20000 in
theorem gX3_rest_X3_sizeOf : GoodIn wsX3_rest (va_wsS RX3 25 yX3_sizeOf wsX3_sizeOf) := goodIn_app (goodIn_of _ (by decide +kernel)) ggX3_rest_X3_sizeOf
set_option maxRecDepth 20000 in
theorem ggX3_rest_X3_whole : GoodIn wsX3_rest wsX3_whole := goodIn_r _ [29, 30, 31] (by decide +kernel) (by decide +kernel)
set_option maxRecDepth 20000 in
theorem gX3_rest_X3_whole : GoodIn wsX3_rest (va_wsS RX3 127 yX3_whole wsX3_whole) := goodIn_app (goodIn_of _ (by decide +kernel)) ggX3_rest_X3_whole
set_option maxRecDepth 20000 in
theorem ggX3_rest_Jxe99ae_doubleToLongBits_ccdee : GoodIn wsX3_rest wsJxe99ae_doubleToLongBits_ccdee := goodIn_r _ [35, 36, 37, 38, 6, 39, 40, 41, 34, 42] (by decide +kernel) (by decide +kernel)
set_option maxRecDepth 20000 in
theorem gX3_rest_Jxe99ae_doubleToLongBits_ccdee : GoodIn wsX3_rest (va_wsS RX3 45 yJxe99ae_doubleToLongBits_ccdee wsJxe99ae_doubleToLongBits_ccdee) := goodIn_app (goodIn_of _ (by decide +kernel)) ggX3_rest_Jxe99ae_doubleToLongBits_ccdee
set_option maxRecDepth 20000 in
theorem ggX3_rest_Jxf58ca_floatToIntBits_5c35a : GoodIn wsX3_rest wsJxf58ca_floatToIntBits_5c35a := goodIn_r _ [46, 47, 48, 49, 10, 50, 51, 52, 45, 53] (by decide +kernel) (by decide +kernel)
set_option maxRecDepth 20000 in
theorem gX3_rest_Jxf58ca_floatToIntBits_5c35a : GoodIn wsX3_rest (va_wsS RX3 55 yJxf58ca_floatToIntBits_5c35a wsJxf58ca_floatToIntBits_5c35a) := goodIn_app (goodIn_of _ (by decide +kernel)) ggX3_rest_Jxf58ca_floatToIntBits_5c35a
set_option maxRecDepth 20000 in
theorem ggX3_rest_X3_sided : GoodIn wsX3_rest wsX3_sided := goodIn_r _ [56, 57, 58] (by decide +kernel) (by decide +kernel)
set_option maxRecDepth 20000 in
theorem gX3_rest_X3_sided : GoodIn wsX3_rest (va_wsS RX3 59 yX3_sided wsX3_sided) := goodIn_app (goodIn_of _ (by decide +kernel)) ggX3_rest_X3_sided
set_option maxRecDepth 20000 in
theorem ggX3_rest_X3_becomes : GoodIn wsX3_rest wsX3_becomes := goodIn_r _ [62, 2, 63, 64, 65, 66, 14, 67, 68, 69, 70, 71, 22, 23, 24, 25, 26, 17, 18, 19, 20, 21, 72, 73, 74, 75, 76, 77, 78, 79, 80, 81, 82] (by decide +kernel) (by decide +kernel)
set_option maxRecDepth 20000 in
theorem gX3_rest_X3_becomes : GoodIn wsX3_rest (wsV RX3 106 RX3 yX3_becomes wsX3_becomes) := goodIn_app (goodIn_of _ (by decide +kernel)) ggX3_rest_X3_becomes
theorem dX3_rest_0 : decode cX3_rest 0 = .ok (.aload_n 0, 1) := by decide +kernel
theorem dX3_rest_1 : decode cX3_rest 1 = .ok (.iload_n 1, 1) := by decide +kernel
theorem dX3_rest_2 : decode cX3_rest 2 = .ok (.invokevirtual 70, 3) := by decide +kernel
theorem dX3_rest_5 : decode cX3_rest 5 = .ok (.ifCond .ne 5, 3) := by decide +kernel
theorem dX3_rest_8 : decode cX3_rest 8 = .ok (.lconst 0, 1) := by decide +kernel
theorem dX3_rest_9 : decode cX3_rest 9 = .ok (.lreturn, 1) := by decide +kernel
theorem dX3_rest_10 : decode cX3_rest 10 = .ok (.iload_n 2, 1) := by decide +kernel
theorem dX3_rest_11 : decode cX3_rest 11 = .ok (.ifCond .lt 8, 3) := by decide +kernel
theorem dX3_rest_14 : decode cX3_rest 14 = .ok (.iload_n 2, 1) := by decide +kernel
theorem dX3_rest_15 : decode cX3_rest 15 = .ok (.iconst 2, 1) := by decide +kernel
theorem dX3_rest_16 : decode cX3_rest 16 = .ok (.if_icmp .le 10, 3) := by decide +kernel
theorem dX3_rest_19 : decode cX3_rest 19 = .ok (.aload_n 0, 1) := by decide +kernel
theorem dX3_rest_20 : decode cX3_rest 20 = .ok (.iconst 2, 1) := by decide +kernel
theorem dX3_rest_21 : decode cX3_rest 21 = .ok (.putfield 17, 3) := by decide +kernel
theorem dX3_rest_24 : decode cX3_rest 24 = .ok (.lconst 0, 1) := by decide +kernel
theorem dX3_rest_25 : decode cX3_rest 25 = .ok (.lreturn, 1) := by decide +kernel
theorem dX3_rest_26 : decode cX3_rest 26 = .ok (.aload_n 0, 1) := by decide +kernel
theorem dX3_rest_27 : decode cX3_rest 27 = .ok (.getfield 7, 3) := by decide +kernel
theorem dX3_rest_30 : decode cX3_rest 30 = .ok (.iload_n 1, 1) := by decide +kernel
theorem dX3_rest_31 : decode cX3_rest 31 = .ok (.baload, 1) := by decide +kernel
theorem dX3_rest_32 : decode cX3_rest 32 = .ok (.istore_n 3, 1) := by decide +kernel
theorem dX3_rest_33 : decode cX3_rest 33 = .ok (.aload_n 0, 1) := by decide +kernel
theorem dX3_rest_34 : decode cX3_rest 34 = .ok (.iload_n 1, 1) := by decide +kernel
theorem dX3_rest_35 : decode cX3_rest 35 = .ok (.iconst 2, 1) := by decide +kernel
theorem dX3_rest_36 : decode cX3_rest 36 = .ok (.invokevirtual 80, 3) := by decide +kernel
theorem dX3_rest_39 : decode cX3_rest 39 = .ok (.lstore 4, 2) := by decide +kernel
theorem dX3_rest_41 : decode cX3_rest 41 = .ok (.iload_n 3, 1) := by decide +kernel
theorem dX3_rest_42 : decode cX3_rest 42 = .ok (.lload 4, 2) := by decide +kernel
theorem dX3_rest_44 : decode cX3_rest 44 = .ok (.invokestatic 25, 3) := by decide +kernel
theorem dX3_rest_47 : decode cX3_rest 47 = .ok (.lstore 6, 2) := by decide +kernel
theorem dX3_rest_49 : decode cX3_rest 49 = .ok (.iload_n 3, 1) := by decide +kernel
theorem dX3_rest_50 : decode cX3_rest 50 = .ok (.ifCond .eq 11, 3) := by decide +kernel
theorem dX3_rest_53 : decode cX3_rest 53 = .ok (.lload 6, 2) := by decide +kernel
theorem dX3_rest_55 : decode cX3_rest 55 = .ok (.invokestatic 51, 3) := by decide +kernel
theorem dX3_rest_58 : decode cX3_rest 58 = .ok (.goto 10, 3) := by decide +kernel
theorem dX3_rest_61 : decode cX3_rest 61 = .ok (.lload 6, 2) := by decide +kernel
theorem dX3_rest_63 : decode cX3_rest 63 = .ok (.l2i, 1) := by decide +kernel
theorem dX3_rest_64 : decode cX3_rest 64 = .ok (.invokestatic 39, 3) := by decide +kernel
theorem dX3_rest_67 : decode cX3_rest 67 = .ok (.f2d, 1) := by decide +kernel
theorem dX3_rest_68 : decode cX3_rest 68 = .ok (.lload 4, 2) := by decide +kernel
theorem dX3_rest_70 : decode cX3_rest 70 = .ok (.lconst 0, 1) := by decide +kernel
theorem dX3_rest_71 : decode cX3_rest 71 = .ok (.lcmp, 1) := by decide +kernel
theorem dX3_rest_72 : decode cX3_rest 72 = .ok (.ifCond .ge 7, 3) := by decide +kernel
theorem dX3_rest_75 : decode cX3_rest 75 = .ok (.iconst 1, 1) := by decide +kernel
theorem dX3_rest_76 : decode cX3_rest 76 = .ok (.goto 4, 3) := by decide +kernel
theorem dX3_rest_79 : decode cX3_rest 79 = .ok (.iconst 0, 1) := by decide +kernel
theorem dX3_rest_80 : decode cX3_rest 80 = .ok (.iload_n 2, 1) := by decide +kernel
theorem dX3_rest_81 : decode cX3_rest 81 = .ok (.invokestatic 127, 3) := by decide +kernel
theorem dX3_rest_84 : decode cX3_rest 84 = .ok (.dstore 8, 2) := by decide +kernel
theorem dX3_rest_86 : decode cX3_rest 86 = .ok (.aload_n 0, 1) := by decide +kernel
theorem dX3_rest_87 : decode cX3_rest 87 = .ok (.iload_n 1, 1) := by decide +kernel
theorem dX3_rest_88 : decode cX3_rest 88 = .ok (.iload_n 3, 1) := by decide +kernel
theorem dX3_rest_89 : decode cX3_rest 89 = .ok (.iload_n 3, 1) := by decide +kernel
theorem dX3_rest_90 : decode cX3_rest 90 = .ok (.ifCond .eq 11, 3) := by decide +kernel
theorem dX3_rest_93 : decode cX3_rest 93 = .ok (.dload 8, 2) := by decide +kernel
theorem dX3_rest_95 : decode cX3_rest 95 = .ok (.invokestatic 45, 3) := by decide +kernel
theorem dX3_rest_98 : decode cX3_rest 98 = .ok (.goto 10, 3) := by decide +kernel
theorem dX3_rest_101 : decode cX3_rest 101 = .ok (.dload 8, 2) := by decide +kernel
theorem dX3_rest_103 : decode cX3_rest 103 = .ok (.d2f, 1) := by decide +kernel
theorem dX3_rest_104 : decode cX3_rest 104 = .ok (.invokestatic 55, 3) := by decide +kernel
theorem dX3_rest_107 : decode cX3_rest 107 = .ok (.i2l, 1) := by decide +kernel
theorem dX3_rest_108 : decode cX3_rest 108 = .ok (.lload 4, 2) := by decide +kernel
theorem dX3_rest_110 : decode cX3_rest 110 = .ok (.lconst 0, 1) := by decide +kernel
theorem dX3_rest_111 : decode cX3_rest 111 = .ok (.lcmp, 1) := by decide +kernel
theorem dX3_rest_112 : decode cX3_rest 112 = .ok (.ifCond .ge 7, 3) := by decide +kernel
theorem dX3_rest_115 : decode cX3_rest 115 = .ok (.iconst 1, 1) := by decide +kernel
theorem dX3_rest_116 : decode cX3_rest 116 = .ok (.goto 4, 3) := by decide +kernel
theorem dX3_rest_119 : decode cX3_rest 119 = .ok (.iconst 0, 1) := by decide +kernel
theorem dX3_rest_120 : decode cX3_rest 120 = .ok (.invokestatic 59, 3) := by decide +kernel
theorem dX3_rest_123 : decode cX3_rest 123 = .ok (.invokevirtual 106, 3) := by decide +kernel
theorem dX3_rest_126 : decode cX3_rest 126 = .ok (.lreturn, 1) := by decide +kernel
set_option maxRecDepth 20000 in
theorem ggX3_face_X3_isThere : GoodIn wsX3_face wsX3_isThere := goodIn_r _ [6, 7, 8, 41, 42, 43, 44, 45, 46, 47] (by decide +kernel) (by decide +kernel)
set_option maxRecDepth 20000 in
theorem gX3_face_X3_isThere : GoodIn wsX3_face (wsV RX3 70 RX3 yX3_isThere wsX3_isThere) := goodIn_app (goodIn_of _ (by decide +kernel)) ggX3_face_X3_isThere
set_option maxRecDepth 20000 in
theorem ggX3_face_X3_get : GoodIn wsX3_face wsX3_get := goodIn_r _ [12, 13, 41, 42, 43, 44, 45, 46, 47] (by decide +kernel) (by decide +kernel)
set_option maxRecDepth 20000 in
theorem gX3_face_X3_get : GoodIn wsX3_face (wsV RX3 80 RX3 yX3_get wsX3_get) := goodIn_app (goodIn_of _ (by decide +kernel)) ggX3_face_X3_get
set_option maxRecDepth 20000 in
theorem ggX3_face_X3_sizeOf : GoodIn wsX3_face wsX3_sizeOf := goodIn_r _ [16, 17, 18] (by decide +kernel) (by decide +kernel)
set_option maxRecDepth 20000 in
theorem gX3_face_X3_sizeOf : GoodIn wsX3_face (va_wsS RX3 25 yX3_sizeOf wsX3_sizeOf) := goodIn_app (goodIn_of _ (by decide +kernel)) ggX3_face_X3_sizeOf
set_option maxRecDepth 20000 in
theorem ggX3_face_X3_sided : GoodIn wsX3_face wsX3_sided := goodIn_r _ [21, 22, 23] (by decide +kernel) (by decide +kernel)
set_option maxRecDepth 20000 in
theorem gX3_face_X3_sided : GoodIn wsX3_face (va_wsS RX3 59 yX3_sided wsX3_sided) := goodIn_app (goodIn_of _ (by decide +kernel)) ggX3_face_X3_sided
set_option maxRecDepth 20000 in
theorem ggX3_face_X3_becomes : GoodIn wsX3_face wsX3_becomes := goodIn_r _ [27, 1, 28, 29, 30, 31, 5, 32, 33, 34, 35, 36, 14, 15, 16, 17, 18, 9, 10, 11, 12, 13, 37, 38, 39, 40, 41, 42, 43, 44, 45, 46, 47] (by decide +kernel) (by decide +kernel)
set_option maxRecDepth 20000 in
theorem gX3_face_X3_becomes : GoodIn wsX3_face (wsV RX3 106 RX3 yX3_becomes wsX3_becomes) := goodIn_app (goodIn_of _ (by decide +kernel)) ggX3_face_X3_becomes
theorem dX3_face_0 : decode cX3_face 0 = .ok (.aload_n 0, 1) := by decide +kernel
theorem dX3_face_1 : decode cX3_face 1 = .ok (.iload_n 1, 1) := by decide +kernel
theorem dX3_face_2 : decode cX3_face 2 = .ok (.invokevirtual 70, 3) := by decide +kernel
theorem dX3_face_5 : decode cX3_face 5 = .ok (.ifCond .eq 11, 3) := by decide +kernel
theorem dX3_face_8 : decode cX3_face 8 = .ok (.aload_n 0, 1) := by decide +kernel
theorem dX3_face_9 : decode cX3_face 9 = .ok (.iload_n 2, 1) := by decide +kernel
theorem dX3_face_10 : decode cX3_face 10 = .ok (.invokevirtual 70, 3) := by decide +kernel
theorem dX3_face_13 : decode cX3_face 13 = .ok (.ifCond .ne 5, 3) := by decide +kernel
theorem dX3_face_16 : decode cX3_face 16 = .ok (.lconst 0, 1) := by decide +kernel
theorem dX3_face_17 : decode cX3_face 17 = .ok (.lreturn, 1) := by decide +kernel
theorem dX3_face_18 : decode cX3_face 18 = .ok (.aload_n 0, 1) := by decide +kernel
theorem dX3_face_19 : decode cX3_face 19 = .ok (.getfield 7, 3) := by decide +kernel
theorem dX3_face_22 : decode cX3_face 22 = .ok (.iload_n 1, 1) := by decide +kernel
theorem dX3_face_23 : decode cX3_face 23 = .ok (.baload, 1) := by decide +kernel
theorem dX3_face_24 : decode cX3_face 24 = .ok (.istore_n 3, 1) := by decide +kernel
theorem dX3_face_25 : decode cX3_face 25 = .ok (.aload_n 0, 1) := by decide +kernel
theorem dX3_face_26 : decode cX3_face 26 = .ok (.iload_n 1, 1) := by decide +kernel
theorem dX3_face_27 : decode cX3_face 27 = .ok (.iload_n 3, 1) := by decide +kernel
theorem dX3_face_28 : decode cX3_face 28 = .ok (.iload_n 3, 1) := by decide +kernel
theorem dX3_face_29 : decode cX3_face 29 = .ok (.aload_n 0, 1) := by decide +kernel
theorem dX3_face_30 : decode cX3_face 30 = .ok (.iload_n 1, 1) := by decide +kernel
theorem dX3_face_31 : decode cX3_face 31 = .ok (.iconst 2, 1) := by decide +kernel
theorem dX3_face_32 : decode cX3_face 32 = .ok (.invokevirtual 80, 3) := by decide +kernel
theorem dX3_face_35 : decode cX3_face 35 = .ok (.invokestatic 25, 3) := by decide +kernel
theorem dX3_face_38 : decode cX3_face 38 = .ok (.aload_n 0, 1) := by decide +kernel
theorem dX3_face_39 : decode cX3_face 39 = .ok (.iload_n 2, 1) := by decide +kernel
theorem dX3_face_40 : decode cX3_face 40 = .ok (.iconst 2, 1) := by decide +kernel
theorem dX3_face_41 : decode cX3_face 41 = .ok (.invokevirtual 80, 3) := by decide +kernel
theorem dX3_face_44 : decode cX3_face 44 = .ok (.lconst 0, 1) := by decide +kernel
theorem dX3_face_45 : decode cX3_face 45 = .ok (.lcmp, 1) := by decide +kernel
theorem dX3_face_46 : decode cX3_face 46 = .ok (.ifCond .ge 7, 3) := by decide +kernel
theorem dX3_face_49 : decode cX3_face 49 = .ok (.iconst 1, 1) := by decide +kernel
theorem dX3_face_50 : decode cX3_face 50 = .ok (.goto 4, 3) := by decide +kernel
theorem dX3_face_53 : decode cX3_face 53 = .ok (.iconst 0, 1) := by decide +kernel
theorem dX3_face_54 : decode cX3_face 54 = .ok (.invokestatic 59, 3) := by decide +kernel
theorem dX3_face_57 : decode cX3_face 57 = .ok (.invokevirtual 106, 3) := by decide +kernel
theorem dX3_face_60 : decode cX3_face 60 = .ok (.lreturn, 1) := by decide +kernel
