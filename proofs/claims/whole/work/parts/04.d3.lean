set_option maxRecDepth 20000 in
theorem ggX3_read_X3_isThere : GoodIn wsX3_read wsX3_isThere := goodIn_r _ [9, 10, 1, 29, 30, 31, 32, 33, 34, 35] (by decide +kernel) (by decide +kernel)
set_option maxRecDepth 20000 in
theorem gX3_read_X3_isThere : GoodIn wsX3_read (wsV RX3 70 RX3 yX3_isThere wsX3_isThere) := goodIn_app (goodIn_of _ (by decide +kernel)) ggX3_read_X3_isThere
set_option maxRecDepth 20000 in
theorem ggX3_read_X3_get : GoodIn wsX3_read wsX3_get := goodIn_r _ [14, 15, 29, 30, 31, 32, 33, 34, 35] (by decide +kernel) (by decide +kernel)
set_option maxRecDepth 20000 in
theorem gX3_read_X3_get : GoodIn wsX3_read (wsV RX3 80 RX3 yX3_get wsX3_get) := goodIn_app (goodIn_of _ (by decide +kernel)) ggX3_read_X3_get
set_option maxRecDepth 20000 in
theorem ggX3_read_X3_sizeOf : GoodIn wsX3_read wsX3_sizeOf := goodIn_r _ [18, 19, 20] (by decide +kernel) (by decide +kernel)
set_option maxRecDepth 20000 in
theorem gX3_read_X3_sizeOf : GoodIn wsX3_read (va_wsS RX3 25 yX3_sizeOf wsX3_sizeOf) := goodIn_app (goodIn_of _ (by decide +kernel)) ggX3_read_X3_sizeOf
set_option maxRecDepth 20000 in
theorem ggX3_read_X3_isNought : GoodIn wsX3_read wsX3_isNought := goodIn_r _ [23, 16, 17, 8, 18, 19, 20] (by decide +kernel) (by decide +kernel)
set_option maxRecDepth 20000 in
theorem gX3_read_X3_isNought : GoodIn wsX3_read (va_wsS RX3 63 yX3_isNought wsX3_isNought) := goodIn_app (goodIn_of _ (by decide +kernel)) ggX3_read_X3_isNought
set_option maxRecDepth 20000 in
theorem ggX3_read_X3_sided : GoodIn wsX3_read wsX3_sided := goodIn_r _ [26, 27, 28] (by decide +kernel) (by decide +kernel)
set_option maxRecDepth 20000 in
theorem gX3_read_X3_sided : GoodIn wsX3_read (va_wsS RX3 59 yX3_sided wsX3_sided) := goodIn_app (goodIn_of _ (by decide +kernel)) ggX3_read_X3_sided
theorem dX3_read_0 : decode cX3_read 0 = .ok (.aload_n 0, 1) := by decide +kernel
theorem dX3_read_1 : decode cX3_read 1 = .ok (.iload_n 1, 1) := by decide +kernel
theorem dX3_read_2 : decode cX3_read 2 = .ok (.invokevirtual 70, 3) := by decide +kernel
theorem dX3_read_5 : decode cX3_read 5 = .ok (.ifCond .ne 5, 3) := by decide +kernel
theorem dX3_read_8 : decode cX3_read 8 = .ok (.lconst 0, 1) := by decide +kernel
theorem dX3_read_9 : decode cX3_read 9 = .ok (.lreturn, 1) := by decide +kernel
theorem dX3_read_10 : decode cX3_read 10 = .ok (.aload_n 0, 1) := by decide +kernel
theorem dX3_read_11 : decode cX3_read 11 = .ok (.iload_n 2, 1) := by decide +kernel
theorem dX3_read_12 : decode cX3_read 12 = .ok (.ifCond .lt 9, 3) := by decide +kernel
theorem dX3_read_15 : decode cX3_read 15 = .ok (.iload_n 2, 1) := by decide +kernel
theorem dX3_read_16 : decode cX3_read 16 = .ok (.bipush 8, 2) := by decide +kernel
theorem dX3_read_18 : decode cX3_read 18 = .ok (.if_icmp .le 7, 3) := by decide +kernel
theorem dX3_read_21 : decode cX3_read 21 = .ok (.iconst 2, 1) := by decide +kernel
theorem dX3_read_22 : decode cX3_read 22 = .ok (.goto 4, 3) := by decide +kernel
theorem dX3_read_25 : decode cX3_read 25 = .ok (.iconst 0, 1) := by decide +kernel
theorem dX3_read_26 : decode cX3_read 26 = .ok (.putfield 17, 3) := by decide +kernel
theorem dX3_read_29 : decode cX3_read 29 = .ok (.aload_n 0, 1) := by decide +kernel
theorem dX3_read_30 : decode cX3_read 30 = .ok (.getfield 7, 3) := by decide +kernel
theorem dX3_read_33 : decode cX3_read 33 = .ok (.iload_n 1, 1) := by decide +kernel
theorem dX3_read_34 : decode cX3_read 34 = .ok (.baload, 1) := by decide +kernel
theorem dX3_read_35 : decode cX3_read 35 = .ok (.istore_n 3, 1) := by decide +kernel
theorem dX3_read_36 : decode cX3_read 36 = .ok (.aload_n 0, 1) := by decide +kernel
theorem dX3_read_37 : decode cX3_read 37 = .ok (.iload_n 1, 1) := by decide +kernel
theorem dX3_read_38 : decode cX3_read 38 = .ok (.iconst 2, 1) := by decide +kernel
theorem dX3_read_39 : decode cX3_read 39 = .ok (.invokevirtual 80, 3) := by decide +kernel
theorem dX3_read_42 : decode cX3_read 42 = .ok (.lstore 4, 2) := by decide +kernel
theorem dX3_read_44 : decode cX3_read 44 = .ok (.iload_n 2, 1) := by decide +kernel
theorem dX3_read_45 : decode cX3_read 45 = .ok (.tableswitch 148 0 8 #[51, 54, 61, 68, 75, 82, 90, 97, 104], 51) := by decide +kernel
theorem dX3_read_96 : decode cX3_read 96 = .ok (.lload 4, 2) := by decide +kernel
theorem dX3_read_98 : decode cX3_read 98 = .ok (.lreturn, 1) := by decide +kernel
theorem dX3_read_99 : decode cX3_read 99 = .ok (.aload_n 0, 1) := by decide +kernel
theorem dX3_read_100 : decode cX3_read 100 = .ok (.iload_n 1, 1) := by decide +kernel
theorem dX3_read_101 : decode cX3_read 101 = .ok (.iconst 0, 1) := by decide +kernel
theorem dX3_read_102 : decode cX3_read 102 = .ok (.invokevirtual 80, 3) := by decide +kernel
theorem dX3_read_105 : decode cX3_read 105 = .ok (.lreturn, 1) := by decide +kernel
theorem dX3_read_106 : decode cX3_read 106 = .ok (.aload_n 0, 1) := by decide +kernel
theorem dX3_read_107 : decode cX3_read 107 = .ok (.iload_n 1, 1) := by decide +kernel
theorem dX3_read_108 : decode cX3_read 108 = .ok (.iconst 1, 1) := by decide +kernel
theorem dX3_read_109 : decode cX3_read 109 = .ok (.invokevirtual 80, 3) := by decide +kernel
theorem dX3_read_112 : decode cX3_read 112 = .ok (.lreturn, 1) := by decide +kernel
theorem dX3_read_113 : decode cX3_read 113 = .ok (.aload_n 0, 1) := by decide +kernel
theorem dX3_read_114 : decode cX3_read 114 = .ok (.iload_n 1, 1) := by decide +kernel
theorem dX3_read_115 : decode cX3_read 115 = .ok (.iconst 4, 1) := by decide +kernel
theorem dX3_read_116 : decode cX3_read 116 = .ok (.invokevirtual 80, 3) := by decide +kernel
theorem dX3_read_119 : decode cX3_read 119 = .ok (.lreturn, 1) := by decide +kernel
theorem dX3_read_120 : decode cX3_read 120 = .ok (.aload_n 0, 1) := by decide +kernel
theorem dX3_read_121 : decode cX3_read 121 = .ok (.iload_n 1, 1) := by decide +kernel
theorem dX3_read_122 : decode cX3_read 122 = .ok (.iconst 5, 1) := by decide +kernel
theorem dX3_read_123 : decode cX3_read 123 = .ok (.invokevirtual 80, 3) := by decide +kernel
theorem dX3_read_126 : decode cX3_read 126 = .ok (.lreturn, 1) := by decide +kernel
theorem dX3_read_127 : decode cX3_read 127 = .ok (.aload_n 0, 1) := by decide +kernel
theorem dX3_read_128 : decode cX3_read 128 = .ok (.iload_n 1, 1) := by decide +kernel
theorem dX3_read_129 : decode cX3_read 129 = .ok (.bipush 6, 2) := by decide +kernel
theorem dX3_read_131 : decode cX3_read 131 = .ok (.invokevirtual 80, 3) := by decide +kernel
theorem dX3_read_134 : decode cX3_read 134 = .ok (.lreturn, 1) := by decide +kernel
theorem dX3_read_135 : decode cX3_read 135 = .ok (.aload_n 0, 1) := by decide +kernel
theorem dX3_read_136 : decode cX3_read 136 = .ok (.iload_n 1, 1) := by decide +kernel
theorem dX3_read_137 : decode cX3_read 137 = .ok (.iconst 3, 1) := by decide +kernel
theorem dX3_read_138 : decode cX3_read 138 = .ok (.invokevirtual 80, 3) := by decide +kernel
theorem dX3_read_141 : decode cX3_read 141 = .ok (.lreturn, 1) := by decide +kernel
theorem dX3_read_142 : decode cX3_read 142 = .ok (.iload_n 3, 1) := by decide +kernel
theorem dX3_read_143 : decode cX3_read 143 = .ok (.lload 4, 2) := by decide +kernel
theorem dX3_read_145 : decode cX3_read 145 = .ok (.invokestatic 25, 3) := by decide +kernel
theorem dX3_read_148 : decode cX3_read 148 = .ok (.lreturn, 1) := by decide +kernel
theorem dX3_read_149 : decode cX3_read 149 = .ok (.iload_n 3, 1) := by decide +kernel
theorem dX3_read_150 : decode cX3_read 150 = .ok (.lload 4, 2) := by decide +kernel
theorem dX3_read_152 : decode cX3_read 152 = .ok (.invokestatic 63, 3) := by decide +kernel
theorem dX3_read_155 : decode cX3_read 155 = .ok (.ifCond .eq 8, 3) := by decide +kernel
theorem dX3_read_158 : decode cX3_read 158 = .ok (.lload 4, 2) := by decide +kernel
theorem dX3_read_160 : decode cX3_read 160 = .ok (.goto 32, 3) := by decide +kernel
theorem dX3_read_163 : decode cX3_read 163 = .ok (.iload_n 3, 1) := by decide +kernel
theorem dX3_read_164 : decode cX3_read 164 = .ok (.iload_n 3, 1) := by decide +kernel
theorem dX3_read_165 : decode cX3_read 165 = .ok (.ifCond .eq 9, 3) := by decide +kernel
theorem dX3_read_168 : decode cX3_read 168 = .ok (.ldc2_w 131, 3) := by decide +kernel
theorem dX3_read_171 : decode cX3_read 171 = .ok (.goto 6, 3) := by decide +kernel
theorem dX3_read_174 : decode cX3_read 174 = .ok (.ldc2_w 133, 3) := by decide +kernel
theorem dX3_read_177 : decode cX3_read 177 = .ok (.lload 4, 2) := by decide +kernel
theorem dX3_read_179 : decode cX3_read 179 = .ok (.lconst 0, 1) := by decide +kernel
theorem dX3_read_180 : decode cX3_read 180 = .ok (.lcmp, 1) := by decide +kernel
theorem dX3_read_181 : decode cX3_read 181 = .ok (.ifCond .ge 7, 3) := by decide +kernel
theorem dX3_read_184 : decode cX3_read 184 = .ok (.iconst 1, 1) := by decide +kernel
theorem dX3_read_185 : decode cX3_read 185 = .ok (.goto 4, 3) := by decide +kernel
theorem dX3_read_188 : decode cX3_read 188 = .ok (.iconst 0, 1) := by decide +kernel
theorem dX3_read_189 : decode cX3_read 189 = .ok (.invokestatic 59, 3) := by decide +kernel
theorem dX3_read_192 : decode cX3_read 192 = .ok (.lreturn, 1) := by decide +kernel
theorem dX3_read_193 : decode cX3_read 193 = .ok (.lconst 0, 1) := by decide +kernel
theorem dX3_read_194 : decode cX3_read 194 = .ok (.lreturn, 1) := by decide +kernel
set_option maxRecDepth 20000 in
theorem ggX3_between_X3_isThere : GoodIn wsX3_between wsX3_isThere := goodIn_r _ [7, 8, 2, 23, 24, 25, 26, 27, 28, 29] (by decide +kernel) (by decide +kernel)
set_option maxRecDepth 20000 in
theorem gX3_between_X3_isThere : GoodIn wsX3_between (wsV RX3 70 RX3 yX3_isThere wsX3_isThere) := goodIn_app (goodIn_of _ (by decide +kernel)) ggX3_between_X3_isThere
set_option maxRecDepth 20000 in
theorem ggX3_between_X3_get : GoodIn wsX3_between wsX3_get := goodIn_r _ [12, 13, 23, 24, 25, 26, 27, 28, 29] (by decide +kernel) (by decide +kernel)
set_option maxRecDepth 20000 in
theorem gX3_between_X3_get : GoodIn wsX3_between (wsV RX3 80 RX3 yX3_get wsX3_get) := goodIn_app (goodIn_of _ (by decide +kernel)) ggX3_between_X3_get
set_option maxRecDepth 20000 in
theorem ggX3_between_X3_sizeOf : GoodIn wsX3_between wsX3_sizeOf := goodIn_r _ [16, 17, 18] (by decide +kernel) (by decide +kernel)
set_option maxRecDepth 20000 in
theorem gX3_between_X3_sizeOf : GoodIn wsX3_between (va_wsS RX3 25 yX3_sizeOf wsX3_sizeOf) := goodIn_app (goodIn_of _ (by decide +kernel)) ggX3_between_X3_sizeOf
set_option maxRecDepth 20000 in
theorem ggX3_between_X3_rank : GoodIn wsX3_between wsX3_rank := goodIn_r _ [21, 22, 14, 15, 6, 16, 17, 18] (by decide +kernel) (by decide +kernel)
set_option maxRecDepth 20000 in
theorem gX3_between_X3_rank : GoodIn wsX3_between (va_wsS RX3 77 yX3_rank wsX3_rank) := goodIn_app (goodIn_of _ (by decide +kernel)) ggX3_between_X3_rank
theorem dX3_between_0 : decode cX3_between 0 = .ok (.aload_n 0, 1) := by decide +kernel
theorem dX3_between_1 : decode cX3_between 1 = .ok (.iload_n 1, 1) := by decide +kernel
theorem dX3_between_2 : decode cX3_between 2 = .ok (.invokevirtual 70, 3) := by decide +kernel
theorem dX3_between_5 : decode cX3_between 5 = .ok (.ifCond .eq 11, 3) := by decide +kernel
theorem dX3_between_8 : decode cX3_between 8 = .ok (.aload_n 0, 1) := by decide +kernel
theorem dX3_between_9 : decode cX3_between 9 = .ok (.iload_n 2, 1) := by decide +kernel
theorem dX3_between_10 : decode cX3_between 10 = .ok (.invokevirtual 70, 3) := by decide +kernel
theorem dX3_between_13 : decode cX3_between 13 = .ok (.ifCond .ne 5, 3) := by decide +kernel
theorem dX3_between_16 : decode cX3_between 16 = .ok (.lconst 0, 1) := by decide +kernel
theorem dX3_between_17 : decode cX3_between 17 = .ok (.lreturn, 1) := by decide +kernel
theorem dX3_between_18 : decode cX3_between 18 = .ok (.aload_n 0, 1) := by decide +kernel
theorem dX3_between_19 : decode cX3_between 19 = .ok (.aload_n 0, 1) := by decide +kernel
theorem dX3_between_20 : decode cX3_between 20 = .ok (.getfield 7, 3) := by decide +kernel
theorem dX3_between_23 : decode cX3_between 23 = .ok (.iload_n 1, 1) := by decide +kernel
theorem dX3_between_24 : decode cX3_between 24 = .ok (.baload, 1) := by decide +kernel
theorem dX3_between_25 : decode cX3_between 25 = .ok (.aload_n 0, 1) := by decide +kernel
theorem dX3_between_26 : decode cX3_between 26 = .ok (.getfield 7, 3) := by decide +kernel
theorem dX3_between_29 : decode cX3_between 29 = .ok (.iload_n 2, 1) := by decide +kernel
theorem dX3_between_30 : decode cX3_between 30 = .ok (.baload, 1) := by decide +kernel
theorem dX3_between_31 : decode cX3_between 31 = .ok (.if_icmp .ne 12, 3) := by decide +kernel
theorem dX3_between_34 : decode cX3_between 34 = .ok (.iload_n 3, 1) := by decide +kernel
theorem dX3_between_35 : decode cX3_between 35 = .ok (.ifCond .lt 8, 3) := by decide +kernel
theorem dX3_between_38 : decode cX3_between 38 = .ok (.iload_n 3, 1) := by decide +kernel
theorem dX3_between_39 : decode cX3_between 39 = .ok (.iconst 3, 1) := by decide +kernel
theorem dX3_between_40 : decode cX3_between 40 = .ok (.if_icmp .le 7, 3) := by decide +kernel
theorem dX3_between_43 : decode cX3_between 43 = .ok (.iconst 2, 1) := by decide +kernel
theorem dX3_between_44 : decode cX3_between 44 = .ok (.goto 4, 3) := by decide +kernel
theorem dX3_between_47 : decode cX3_between 47 = .ok (.iconst 0, 1) := by decide +kernel
theorem dX3_between_48 : decode cX3_between 48 = .ok (.putfield 17, 3) := by decide +kernel
theorem dX3_between_51 : decode cX3_between 51 = .ok (.aload_n 0, 1) := by decide +kernel
theorem dX3_between_52 : decode cX3_between 52 = .ok (.getfield 17, 3) := by decide +kernel
theorem dX3_between_55 : decode cX3_between 55 = .ok (.ifCond .le 5, 3) := by decide +kernel
theorem dX3_between_58 : decode cX3_between 58 = .ok (.lconst 0, 1) := by decide +kernel
theorem dX3_between_59 : decode cX3_between 59 = .ok (.lreturn, 1) := by decide +kernel
theorem dX3_between_60 : decode cX3_between 60 = .ok (.aload_n 0, 1) := by decide +kernel
theorem dX3_between_61 : decode cX3_between 61 = .ok (.getfield 7, 3) := by decide +kernel
theorem dX3_between_64 : decode cX3_between 64 = .ok (.iload_n 1, 1) := by decide +kernel
theorem dX3_between_65 : decode cX3_between 65 = .ok (.baload, 1) := by decide +kernel
theorem dX3_between_66 : decode cX3_between 66 = .ok (.istore 4, 2) := by decide +kernel
theorem dX3_between_68 : decode cX3_between 68 = .ok (.aload_n 0, 1) := by decide +kernel
theorem dX3_between_69 : decode cX3_between 69 = .ok (.iload_n 1, 1) := by decide +kernel
theorem dX3_between_70 : decode cX3_between 70 = .ok (.iconst 2, 1) := by decide +kernel
theorem dX3_between_71 : decode cX3_between 71 = .ok (.invokevirtual 80, 3) := by decide +kernel
theorem dX3_between_74 : decode cX3_between 74 = .ok (.lstore 5, 2) := by decide +kernel
theorem dX3_between_76 : decode cX3_between 76 = .ok (.aload_n 0, 1) := by decide +kernel
theorem dX3_between_77 : decode cX3_between 77 = .ok (.iload_n 2, 1) := by decide +kernel
theorem dX3_between_78 : decode cX3_between 78 = .ok (.iconst 2, 1) := by decide +kernel
theorem dX3_between_79 : decode cX3_between 79 = .ok (.invokevirtual 80, 3) := by decide +kernel
theorem dX3_between_82 : decode cX3_between 82 = .ok (.lstore 7, 2) := by decide +kernel
theorem dX3_between_84 : decode cX3_between 84 = .ok (.iload 4, 2) := by decide +kernel
theorem dX3_between_86 : decode cX3_between 86 = .ok (.lload 5, 2) := by decide +kernel
theorem dX3_between_88 : decode cX3_between 88 = .ok (.invokestatic 25, 3) := by decide +kernel
theorem dX3_between_91 : decode cX3_between 91 = .ok (.lstore 9, 2) := by decide +kernel
theorem dX3_between_93 : decode cX3_between 93 = .ok (.iload 4, 2) := by decide +kernel
theorem dX3_between_95 : decode cX3_between 95 = .ok (.lload 7, 2) := by decide +kernel
theorem dX3_between_97 : decode cX3_between 97 = .ok (.invokestatic 25, 3) := by decide +kernel
theorem dX3_between_100 : decode cX3_between 100 = .ok (.lstore 11, 2) := by decide +kernel
theorem dX3_between_102 : decode cX3_between 102 = .ok (.iload 4, 2) := by decide +kernel
theorem dX3_between_104 : decode cX3_between 104 = .ok (.lload 5, 2) := by decide +kernel
theorem dX3_between_106 : decode cX3_between 106 = .ok (.invokestatic 77, 3) := by decide +kernel
theorem dX3_between_109 : decode cX3_between 109 = .ok (.iload 4, 2) := by decide +kernel
theorem dX3_between_111 : decode cX3_between 111 = .ok (.lload 7, 2) := by decide +kernel
theorem dX3_between_113 : decode cX3_between 113 = .ok (.invokestatic 77, 3) := by decide +kernel
theorem dX3_between_116 : decode cX3_between 116 = .ok (.lcmp, 1) := by decide +kernel
theorem dX3_between_117 : decode cX3_between 117 = .ok (.ifCond .ge 7, 3) := by decide +kernel
theorem dX3_between_120 : decode cX3_between 120 = .ok (.iconst 1, 1) := by decide +kernel
theorem dX3_between_121 : decode cX3_between 121 = .ok (.goto 4, 3) := by decide +kernel
theorem dX3_between_124 : decode cX3_between 124 = .ok (.iconst 0, 1) := by decide +kernel
theorem dX3_between_125 : decode cX3_between 125 = .ok (.istore 13, 2) := by decide +kernel
theorem dX3_between_127 : decode cX3_between 127 = .ok (.iload_n 3, 1) := by decide +kernel
theorem dX3_between_128 : decode cX3_between 128 = .ok (.tableswitch 70 0 2 #[28, 41, 54], 28) := by decide +kernel
theorem dX3_between_156 : decode cX3_between 156 = .ok (.iload 13, 2) := by decide +kernel
theorem dX3_between_158 : decode cX3_between 158 = .ok (.ifCond .eq 8, 3) := by decide +kernel
theorem dX3_between_161 : decode cX3_between 161 = .ok (.lload 5, 2) := by decide +kernel
theorem dX3_between_163 : decode cX3_between 163 = .ok (.goto 5, 3) := by decide +kernel
theorem dX3_between_166 : decode cX3_between 166 = .ok (.lload 7, 2) := by decide +kernel
theorem dX3_between_168 : decode cX3_between 168 = .ok (.lreturn, 1) := by decide +kernel
theorem dX3_between_169 : decode cX3_between 169 = .ok (.iload 13, 2) := by decide +kernel
theorem dX3_between_171 : decode cX3_between 171 = .ok (.ifCond .eq 8, 3) := by decide +kernel
theorem dX3_between_174 : decode cX3_between 174 = .ok (.lload 7, 2) := by decide +kernel
theorem dX3_between_176 : decode cX3_between 176 = .ok (.goto 5, 3) := by decide +kernel
theorem dX3_between_179 : decode cX3_between 179 = .ok (.lload 5, 2) := by decide +kernel
theorem dX3_between_181 : decode cX3_between 181 = .ok (.lreturn, 1) := by decide +kernel
theorem dX3_between_182 : decode cX3_between 182 = .ok (.lload 9, 2) := by decide +kernel
theorem dX3_between_184 : decode cX3_between 184 = .ok (.lload 11, 2) := by decide +kernel
theorem dX3_between_186 : decode cX3_between 186 = .ok (.lcmp, 1) := by decide +kernel
theorem dX3_between_187 : decode cX3_between 187 = .ok (.ifCond .ge 8, 3) := by decide +kernel
theorem dX3_between_190 : decode cX3_between 190 = .ok (.lload 9, 2) := by decide +kernel
theorem dX3_between_192 : decode cX3_between 192 = .ok (.goto 5, 3) := by decide +kernel
theorem dX3_between_195 : decode cX3_between 195 = .ok (.lload 11, 2) := by decide +kernel
theorem dX3_between_197 : decode cX3_between 197 = .ok (.lreturn, 1) := by decide +kernel
theorem dX3_between_198 : decode cX3_between 198 = .ok (.lload 9, 2) := by decide +kernel
theorem dX3_between_200 : decode cX3_between 200 = .ok (.lload 11, 2) := by decide +kernel
theorem dX3_between_202 : decode cX3_between 202 = .ok (.lcmp, 1) := by decide +kernel
theorem dX3_between_203 : decode cX3_between 203 = .ok (.ifCond .ge 8, 3) := by decide +kernel
theorem dX3_between_206 : decode cX3_between 206 = .ok (.lload 11, 2) := by decide +kernel
theorem dX3_between_208 : decode cX3_between 208 = .ok (.goto 5, 3) := by decide +kernel
theorem dX3_between_211 : decode cX3_between 211 = .ok (.lload 9, 2) := by decide +kernel
theorem dX3_between_213 : decode cX3_between 213 = .ok (.lreturn, 1) := by decide +kernel
set_option maxRecDepth 20000 in
theorem ggX3_order_X3_isThere : GoodIn wsX3_order wsX3_isThere := goodIn_r _ [6, 7, 8, 42, 43, 44, 45, 46, 47, 48] (by decide +kernel) (by decide +kernel)
set_option maxRecDepth 20000 in
theorem gX3_order_X3_isThere : GoodIn wsX3_order (wsV RX3 70 RX3 yX3_isThere wsX3_isThere) := goodIn_app (goodIn_of _ (by decide +kernel)) ggX3_order_X3_isThere
set_option maxRecDepth 20000 in
theorem ggX3_order_X3_get : GoodIn wsX3_order wsX3_get := goodIn_r _ [12, 13, 42, 43, 44, 45, 46, 47, 48] (by decide +kernel) (by decide +kernel)
set_option maxRecDepth 20000 in
theorem gX3_order_X3_get : GoodIn wsX3_order (wsV RX3 80 RX3 yX3_get wsX3_get) := goodIn_app (goodIn_of _ (by decide +kernel)) ggX3_order_X3_get
set_option maxRecDepth 20000 in
theorem ggX3_order_X3_wideBits : GoodIn wsX3_order wsX3_wideBits := goodIn_r _ [16, 17, 18, 19, 20, 21, 22, 23, 24, 25, 26, 27, 28, 29, 30, 31, 32] (by decide +kernel) (by decide +kernel)
set_option maxRecDepth 20000 in
theorem gX3_order_X3_wideBits : GoodIn wsX3_order (va_wsS RX3 135 yX3_wideBits wsX3_wideBits) := goodIn_app (goodIn_of _ (by decide +kernel)) ggX3_order_X3_wideBits
set_option maxRecDepth 20000 in
theorem ggX3_order_X3_rank : GoodIn wsX3_order wsX3_rank := goodIn_r _ [35, 36, 37, 38, 5, 39, 40, 41] (by decide +kernel) (by decide +kernel)
set_option maxRecDepth 20000 in
theorem gX3_order_X3_rank : GoodIn wsX3_order (va_wsS RX3 77 yX3_rank wsX3_rank) := goodIn_app (goodIn_of _ (by decide +kernel)) ggX3_order_X3_rank
theorem dX3_order_0 : decode cX3_order 0 = .ok (.aload_n 0, 1) := by decide +kernel
theorem dX3_order_1 : decode cX3_order 1 = .ok (.iload_n 1, 1) := by decide +kernel
theorem dX3_order_2 : decode cX3_order 2 = .ok (.invokevirtual 70, 3) := by decide +kernel
theorem dX3_order_5 : decode cX3_order 5 = .ok (.ifCond .eq 11, 3) := by decide +kernel
theorem dX3_order_8 : decode cX3_order 8 = .ok (.aload_n 0, 1) := by decide +kernel
theorem dX3_order_9 : decode cX3_order 9 = .ok (.iload_n 2, 1) := by decide +kernel
theorem dX3_order_10 : decode cX3_order 10 = .ok (.invokevirtual 70, 3) := by decide +kernel
theorem dX3_order_13 : decode cX3_order 13 = .ok (.ifCond .ne 5, 3) := by decide +kernel
theorem dX3_order_16 : decode cX3_order 16 = .ok (.iconst 0, 1) := by decide +kernel
theorem dX3_order_17 : decode cX3_order 17 = .ok (.ireturn, 1) := by decide +kernel
theorem dX3_order_18 : decode cX3_order 18 = .ok (.iconst 1, 1) := by decide +kernel
theorem dX3_order_19 : decode cX3_order 19 = .ok (.aload_n 0, 1) := by decide +kernel
theorem dX3_order_20 : decode cX3_order 20 = .ok (.getfield 7, 3) := by decide +kernel
theorem dX3_order_23 : decode cX3_order 23 = .ok (.iload_n 1, 1) := by decide +kernel
theorem dX3_order_24 : decode cX3_order 24 = .ok (.baload, 1) := by decide +kernel
theorem dX3_order_25 : decode cX3_order 25 = .ok (.aload_n 0, 1) := by decide +kernel
theorem dX3_order_26 : decode cX3_order 26 = .ok (.iload_n 1, 1) := by decide +kernel
theorem dX3_order_27 : decode cX3_order 27 = .ok (.iconst 2, 1) := by decide +kernel
theorem dX3_order_28 : decode cX3_order 28 = .ok (.invokevirtual 80, 3) := by decide +kernel
theorem dX3_order_31 : decode cX3_order 31 = .ok (.invokestatic 135, 3) := by decide +kernel
theorem dX3_order_34 : decode cX3_order 34 = .ok (.invokestatic 77, 3) := by decide +kernel
theorem dX3_order_37 : decode cX3_order 37 = .ok (.lstore_n 3, 1) := by decide +kernel
theorem dX3_order_38 : decode cX3_order 38 = .ok (.iconst 1, 1) := by decide +kernel
theorem dX3_order_39 : decode cX3_order 39 = .ok (.aload_n 0, 1) := by decide +kernel
theorem dX3_order_40 : decode cX3_order 40 = .ok (.getfield 7, 3) := by decide +kernel
theorem dX3_order_43 : decode cX3_order 43 = .ok (.iload_n 2, 1) := by decide +kernel
theorem dX3_order_44 : decode cX3_order 44 = .ok (.baload, 1) := by decide +kernel
theorem dX3_order_45 : decode cX3_order 45 = .ok (.aload_n 0, 1) := by decide +kernel
theorem dX3_order_46 : decode cX3_order 46 = .ok (.iload_n 2, 1) := by decide +kernel
theorem dX3_order_47 : decode cX3_order 47 = .ok (.iconst 2, 1) := by decide +kernel
theorem dX3_order_48 : decode cX3_order 48 = .ok (.invokevirtual 80, 3) := by decide +kernel
theorem dX3_order_51 : decode cX3_order 51 = .ok (.invokestatic 135, 3) := by decide +kernel
theorem dX3_order_54 : decode cX3_order 54 = .ok (.invokestatic 77, 3) := by decide +kernel
theorem dX3_order_57 : decode cX3_order 57 = .ok (.lstore 5, 2) := by decide +kernel
theorem dX3_order_59 : decode cX3_order 59 = .ok (.lload_n 3, 1) := by decide +kernel
theorem dX3_order_60 : decode cX3_order 60 = .ok (.lload 5, 2) := by decide +kernel
theorem dX3_order_62 : decode cX3_order 62 = .ok (.lcmp, 1) := by decide +kernel
theorem dX3_order_63 : decode cX3_order 63 = .ok (.ifCond .ge 7, 3) := by decide +kernel
theorem dX3_order_66 : decode cX3_order 66 = .ok (.iconst (-1), 1) := by decide +kernel
theorem dX3_order_67 : decode cX3_order 67 = .ok (.goto 15, 3) := by decide +kernel
theorem dX3_order_70 : decode cX3_order 70 = .ok (.lload_n 3, 1) := by decide +kernel
theorem dX3_order_71 : decode cX3_order 71 = .ok (.lload 5, 2) := by decide +kernel
theorem dX3_order_73 : decode cX3_order 73 = .ok (.lcmp, 1) := by decide +kernel
theorem dX3_order_74 : decode cX3_order 74 = .ok (.ifCond .le 7, 3) := by decide +kernel
theorem dX3_order_77 : decode cX3_order 77 = .ok (.iconst 1, 1) := by decide +kernel
theorem dX3_order_78 : decode cX3_order 78 = .ok (.goto 4, 3) := by decide +kernel
theorem dX3_order_81 : decode cX3_order 81 = .ok (.iconst 0, 1) := by decide +kernel
theorem dX3_order_82 : decode cX3_order 82 = .ok (.ireturn, 1) := by decide +kernel
set_option maxRecDepth 20000 in
theorem ggX3_back_X3_isThere : GoodIn wsX3_back wsX3_isThere := goodIn_r _ [5, 6, 7, 35, 36, 37, 38, 39, 40, 41] (by decide +kernel) (by decide +kernel)
set_option maxRecDepth 20000 in
theorem gX3_back_X3_isThere : GoodIn wsX3_back (wsV RX3 70 RX3 yX3_isThere wsX3_isThere) := goodIn_app (goodIn_of _ (by decide +kernel)) ggX3_back_X3_isThere
set_option maxRecDepth 20000 in
theorem ggX3_back_X3_fresh : GoodIn wsX3_back wsX3_fresh := goodIn_r _ [11, 12, 13, 14, 15, 4, 16, 17, 18, 19, 20, 21, 22, 23, 24, 25, 26, 27, 28, 29, 30, 31, 32, 33, 34, 35, 36, 37, 38, 39, 40, 41] (by decide +kernel) (by decide +kernel)
set_option maxRecDepth 20000 in
theorem gX3_back_X3_fresh : GoodIn wsX3_back (wsV RX3 98 RX3 yX3_fresh wsX3_fresh) := goodIn_app (goodIn_of _ (by decide +kernel)) ggX3_back_X3_fresh
theorem dX3_back_0 : decode cX3_back 0 = .ok (.aload_n 0, 1) := by decide +kernel
theorem dX3_back_1 : decode cX3_back 1 = .ok (.iload_n 1, 1) := by decide +kernel
theorem dX3_back_2 : decode cX3_back 2 = .ok (.invokevirtual 70, 3) := by decide +kernel
theorem dX3_back_5 : decode cX3_back 5 = .ok (.ifCond .eq 8, 3) := by decide +kernel
theorem dX3_back_8 : decode cX3_back 8 = .ok (.aload_n 0, 1) := by decide +kernel
theorem dX3_back_9 : decode cX3_back 9 = .ok (.iload_n 1, 1) := by decide +kernel
theorem dX3_back_10 : decode cX3_back 10 = .ok (.invokevirtual 98, 3) := by decide +kernel
theorem dX3_back_13 : decode cX3_back 13 = .ok (.return_, 1) := by decide +kernel
theorem dX3_grown_0 : decode cX3_grown 0 = .ok (.lload_n 3, 1) := by decide +kernel
theorem dX3_grown_1 : decode cX3_grown 1 = .ok (.lconst 0, 1) := by decide +kernel
theorem dX3_grown_2 : decode cX3_grown 2 = .ok (.lcmp, 1) := by decide +kernel
theorem dX3_grown_3 : decode cX3_grown 3 = .ok (.ifCond .ge 8, 3) := by decide +kernel
theorem dX3_grown_6 : decode cX3_grown 6 = .ok (.lload_n 3, 1) := by decide +kernel
theorem dX3_grown_7 : decode cX3_grown 7 = .ok (.lneg, 1) := by decide +kernel
theorem dX3_grown_8 : decode cX3_grown 8 = .ok (.goto 4, 3) := by decide +kernel
theorem dX3_grown_11 : decode cX3_grown 11 = .ok (.lload_n 3, 1) := by decide +kernel
theorem dX3_grown_12 : decode cX3_grown 12 = .ok (.lstore 5, 2) := by decide +kernel
theorem dX3_grown_14 : decode cX3_grown 14 = .ok (.iload_n 0, 1) := by decide +kernel
theorem dX3_grown_15 : decode cX3_grown 15 = .ok (.tableswitch 58 0 3 #[29, 31, 43, 55], 29) := by decide +kernel
theorem dX3_grown_44 : decode cX3_grown 44 = .ok (.lload_n 3, 1) := by decide +kernel
theorem dX3_grown_45 : decode cX3_grown 45 = .ok (.lreturn, 1) := by decide +kernel
theorem dX3_grown_46 : decode cX3_grown 46 = .ok (.lload_n 1, 1) := by decide +kernel
theorem dX3_grown_47 : decode cX3_grown 47 = .ok (.lload_n 3, 1) := by decide +kernel
theorem dX3_grown_48 : decode cX3_grown 48 = .ok (.lcmp, 1) := by decide +kernel
theorem dX3_grown_49 : decode cX3_grown 49 = .ok (.ifCond .le 7, 3) := by decide +kernel
theorem dX3_grown_52 : decode cX3_grown 52 = .ok (.lload_n 1, 1) := by decide +kernel
theorem dX3_grown_53 : decode cX3_grown 53 = .ok (.goto 4, 3) := by decide +kernel
theorem dX3_grown_56 : decode cX3_grown 56 = .ok (.lload_n 3, 1) := by decide +kernel
theorem dX3_grown_57 : decode cX3_grown 57 = .ok (.lreturn, 1) := by decide +kernel
theorem dX3_grown_58 : decode cX3_grown 58 = .ok (.lload_n 1, 1) := by decide +kernel
theorem dX3_grown_59 : decode cX3_grown 59 = .ok (.lload_n 3, 1) := by decide +kernel
theorem dX3_grown_60 : decode cX3_grown 60 = .ok (.lcmp, 1) := by decide +kernel
theorem dX3_grown_61 : decode cX3_grown 61 = .ok (.ifCond .ge 7, 3) := by decide +kernel
theorem dX3_grown_64 : decode cX3_grown 64 = .ok (.lload_n 1, 1) := by decide +kernel
theorem dX3_grown_65 : decode cX3_grown 65 = .ok (.goto 4, 3) := by decide +kernel
theorem dX3_grown_68 : decode cX3_grown 68 = .ok (.lload_n 3, 1) := by decide +kernel
theorem dX3_grown_69 : decode cX3_grown 69 = .ok (.lreturn, 1) := by decide +kernel
theorem dX3_grown_70 : decode cX3_grown 70 = .ok (.lload 5, 2) := by decide +kernel
theorem dX3_grown_72 : decode cX3_grown 72 = .ok (.lreturn, 1) := by decide +kernel
theorem dX3_grown_73 : decode cX3_grown 73 = .ok (.lload_n 1, 1) := by decide +kernel
theorem dX3_grown_74 : decode cX3_grown 74 = .ok (.lconst 0, 1) := by decide +kernel
theorem dX3_grown_75 : decode cX3_grown 75 = .ok (.lcmp, 1) := by decide +kernel
theorem dX3_grown_76 : decode cX3_grown 76 = .ok (.ifCond .ge 8, 3) := by decide +kernel
theorem dX3_grown_79 : decode cX3_grown 79 = .ok (.lload_n 1, 1) := by decide +kernel
theorem dX3_grown_80 : decode cX3_grown 80 = .ok (.lneg, 1) := by decide +kernel
theorem dX3_grown_81 : decode cX3_grown 81 = .ok (.goto 4, 3) := by decide +kernel
theorem dX3_grown_84 : decode cX3_grown 84 = .ok (.lload_n 1, 1) := by decide +kernel
theorem dX3_grown_85 : decode cX3_grown 85 = .ok (.lload 5, 2) := by decide +kernel
theorem dX3_grown_87 : decode cX3_grown 87 = .ok (.lsub, 1) := by decide +kernel
theorem dX3_grown_88 : decode cX3_grown 88 = .ok (.lreturn, 1) := by decide +kernel
set_option maxRecDepth 20000 in
theorem ggX3_tally_X3_grown : GoodIn wsX3_tally wsX3_grown := goodIn_r _ [7] (by decide +kernel) (by decide +kernel)
set_option maxRecDepth 20000 in
theorem gX3_tally_X3_grown : GoodIn wsX3_tally (va_wsS RX3 142 yX3_grown wsX3_grown) := goodIn_app (goodIn_of _ (by decide +kernel)) ggX3_tally_X3_grown
theorem dX3_tally_0 : decode cX3_tally 0 = .ok (.aload_n 0, 1) := by decide +kernel
theorem dX3_tally_1 : decode cX3_tally 1 = .ok (.iload_n 2, 1) := by decide +kernel
theorem dX3_tally_2 : decode cX3_tally 2 = .ok (.ifCond .lt 8, 3) := by decide +kernel
theorem dX3_tally_5 : decode cX3_tally 5 = .ok (.iload_n 2, 1) := by decide +kernel
theorem dX3_tally_6 : decode cX3_tally 6 = .ok (.iconst 4, 1) := by decide +kernel
theorem dX3_tally_7 : decode cX3_tally 7 = .ok (.if_icmp .le 7, 3) := by decide +kernel
theorem dX3_tally_10 : decode cX3_tally 10 = .ok (.iconst 1, 1) := by decide +kernel
theorem dX3_tally_11 : decode cX3_tally 11 = .ok (.goto 4, 3) := by decide +kernel
theorem dX3_tally_14 : decode cX3_tally 14 = .ok (.iconst 0, 1) := by decide +kernel
theorem dX3_tally_15 : decode cX3_tally 15 = .ok (.putfield 17, 3) := by decide +kernel
theorem dX3_tally_18 : decode cX3_tally 18 = .ok (.aload_n 0, 1) := by decide +kernel
theorem dX3_tally_19 : decode cX3_tally 19 = .ok (.getfield 17, 3) := by decide +kernel
theorem dX3_tally_22 : decode cX3_tally 22 = .ok (.ifCond .le 5, 3) := by decide +kernel
theorem dX3_tally_25 : decode cX3_tally 25 = .ok (.lconst 0, 1) := by decide +kernel
theorem dX3_tally_26 : decode cX3_tally 26 = .ok (.lreturn, 1) := by decide +kernel
theorem dX3_tally_27 : decode cX3_tally 27 = .ok (.iload_n 1, 1) := by decide +kernel
theorem dX3_tally_28 : decode cX3_tally 28 = .ok (.ifCond .eq 21, 3) := by decide +kernel
theorem dX3_tally_31 : decode cX3_tally 31 = .ok (.aload_n 0, 1) := by decide +kernel
theorem dX3_tally_32 : decode cX3_tally 32 = .ok (.iload_n 2, 1) := by decide +kernel
theorem dX3_tally_33 : decode cX3_tally 33 = .ok (.aload_n 0, 1) := by decide +kernel
theorem dX3_tally_34 : decode cX3_tally 34 = .ok (.getfield 138, 3) := by decide +kernel
theorem dX3_tally_37 : decode cX3_tally 37 = .ok (.lload_n 3, 1) := by decide +kernel
theorem dX3_tally_38 : decode cX3_tally 38 = .ok (.invokestatic 142, 3) := by decide +kernel
theorem dX3_tally_41 : decode cX3_tally 41 = .ok (.putfield 138, 3) := by decide +kernel
theorem dX3_tally_44 : decode cX3_tally 44 = .ok (.aload_n 0, 1) := by decide +kernel
theorem dX3_tally_45 : decode cX3_tally 45 = .ok (.getfield 138, 3) := by decide +kernel
theorem dX3_tally_48 : decode cX3_tally 48 = .ok (.lreturn, 1) := by decide +kernel
theorem dX3_tally_49 : decode cX3_tally 49 = .ok (.aload_n 0, 1) := by decide +kernel
theorem dX3_tally_50 : decode cX3_tally 50 = .ok (.iload_n 2, 1) := by decide +kernel
theorem dX3_tally_51 : decode cX3_tally 51 = .ok (.aload_n 0, 1) := by decide +kernel
theorem dX3_tally_52 : decode cX3_tally 52 = .ok (.getfield 146, 3) := by decide +kernel
theorem dX3_tally_55 : decode cX3_tally 55 = .ok (.i2l, 1) := by decide +kernel
theorem dX3_tally_56 : decode cX3_tally 56 = .ok (.lload_n 3, 1) := by decide +kernel
theorem dX3_tally_57 : decode cX3_tally 57 = .ok (.l2i, 1) := by decide +kernel
theorem dX3_tally_58 : decode cX3_tally 58 = .ok (.i2l, 1) := by decide +kernel
theorem dX3_tally_59 : decode cX3_tally 59 = .ok (.invokestatic 142, 3) := by decide +kernel
theorem dX3_tally_62 : decode cX3_tally 62 = .ok (.l2i, 1) := by decide +kernel
theorem dX3_tally_63 : decode cX3_tally 63 = .ok (.putfield 146, 3) := by decide +kernel
theorem dX3_tally_66 : decode cX3_tally 66 = .ok (.aload_n 0, 1) := by decide +kernel
theorem dX3_tally_67 : decode cX3_tally 67 = .ok (.getfield 146, 3) := by decide +kernel
theorem dX3_tally_70 : decode cX3_tally 70 = .ok (.i2l, 1) := by decide +kernel
theorem dX3_tally_71 : decode cX3_tally 71 = .ok (.lreturn, 1) := by decide +kernel
set_option maxRecDepth 20000 in
theorem ggX3_count_X3_get : GoodIn wsX3_count wsX3_get := goodIn_r _ [9, 10, 19, 20, 21, 22, 23, 24, 25] (by decide +kernel) (by decide +kernel)
set_option maxRecDepth 20000 in
theorem gX3_count_X3_get : GoodIn wsX3_count (wsV RX3 80 RX3 yX3_get wsX3_get) := goodIn_app (goodIn_of _ (by decide +kernel)) ggX3_count_X3_get
set_option maxRecDepth 20000 in
theorem ggX3_count_X3_isNought : GoodIn wsX3_count wsX3_isNought := goodIn_r _ [13, 14, 15, 8, 16, 17, 18] (by decide +kernel) (by decide +kernel)
set_option maxRecDepth 20000 in
theorem gX3_count_X3_isNought : GoodIn wsX3_count (va_wsS RX3 63 yX3_isNought wsX3_isNought) := goodIn_app (goodIn_of _ (by decide +kernel)) ggX3_count_X3_isNought
theorem dX3_count_0 : decode cX3_count 0 = .ok (.aload_n 0, 1) := by decide +kernel
theorem dX3_count_1 : decode cX3_count 1 = .ok (.iconst 0, 1) := by decide +kernel
theorem dX3_count_2 : decode cX3_count 2 = .ok (.putfield 17, 3) := by decide +kernel
theorem dX3_count_5 : decode cX3_count 5 = .ok (.iload_n 1, 1) := by decide +kernel
theorem dX3_count_6 : decode cX3_count 6 = .ok (.ifCond .ne 8, 3) := by decide +kernel
theorem dX3_count_9 : decode cX3_count 9 = .ok (.aload_n 0, 1) := by decide +kernel
theorem dX3_count_10 : decode cX3_count 10 = .ok (.getfield 67, 3) := by decide +kernel
theorem dX3_count_13 : decode cX3_count 13 = .ok (.ireturn, 1) := by decide +kernel
theorem dX3_count_14 : decode cX3_count 14 = .ok (.iload_n 1, 1) := by decide +kernel
theorem dX3_count_15 : decode cX3_count 15 = .ok (.iconst 4, 1) := by decide +kernel
theorem dX3_count_16 : decode cX3_count 16 = .ok (.if_icmp .ne 8, 3) := by decide +kernel
theorem dX3_count_19 : decode cX3_count 19 = .ok (.aload_n 0, 1) := by decide +kernel
theorem dX3_count_20 : decode cX3_count 20 = .ok (.getfield 92, 3) := by decide +kernel
theorem dX3_count_23 : decode cX3_count 23 = .ok (.ireturn, 1) := by decide +kernel
theorem dX3_count_24 : decode cX3_count 24 = .ok (.iload_n 1, 1) := by decide +kernel
theorem dX3_count_25 : decode cX3_count 25 = .ok (.iconst 1, 1) := by decide +kernel
theorem dX3_count_26 : decode cX3_count 26 = .ok (.if_icmp .lt 8, 3) := by decide +kernel
theorem dX3_count_29 : decode cX3_count 29 = .ok (.iload_n 1, 1) := by decide +kernel
theorem dX3_count_30 : decode cX3_count 30 = .ok (.iconst 3, 1) := by decide +kernel
theorem dX3_count_31 : decode cX3_count 31 = .ok (.if_icmp .le 5, 3) := by decide +kernel
theorem dX3_count_34 : decode cX3_count 34 = .ok (.iconst (-1), 1) := by decide +kernel
theorem dX3_count_35 : decode cX3_count 35 = .ok (.ireturn, 1) := by decide +kernel
theorem dX3_count_36 : decode cX3_count 36 = .ok (.iconst 0, 1) := by decide +kernel
theorem dX3_count_37 : decode cX3_count 37 = .ok (.istore_n 2, 1) := by decide +kernel
theorem dX3_count_38 : decode cX3_count 38 = .ok (.iconst 0, 1) := by decide +kernel
theorem dX3_count_39 : decode cX3_count 39 = .ok (.istore_n 3, 1) := by decide +kernel
theorem dX3_count_40 : decode cX3_count 40 = .ok (.iload_n 3, 1) := by decide +kernel
theorem dX3_count_41 : decode cX3_count 41 = .ok (.aload_n 0, 1) := by decide +kernel
theorem dX3_count_42 : decode cX3_count 42 = .ok (.getfield 67, 3) := by decide +kernel
theorem dX3_count_45 : decode cX3_count 45 = .ok (.if_icmp .ge 94, 3) := by decide +kernel
theorem dX3_count_48 : decode cX3_count 48 = .ok (.aload_n 0, 1) := by decide +kernel
theorem dX3_count_49 : decode cX3_count 49 = .ok (.iload_n 3, 1) := by decide +kernel
theorem dX3_count_50 : decode cX3_count 50 = .ok (.iconst 2, 1) := by decide +kernel
theorem dX3_count_51 : decode cX3_count 51 = .ok (.invokevirtual 80, 3) := by decide +kernel
theorem dX3_count_54 : decode cX3_count 54 = .ok (.lstore 4, 2) := by decide +kernel
theorem dX3_count_56 : decode cX3_count 56 = .ok (.iload_n 1, 1) := by decide +kernel
theorem dX3_count_57 : decode cX3_count 57 = .ok (.iconst 1, 1) := by decide +kernel
theorem dX3_count_58 : decode cX3_count 58 = .ok (.if_icmp .ne 12, 3) := by decide +kernel
theorem dX3_count_61 : decode cX3_count 61 = .ok (.aload_n 0, 1) := by decide +kernel
theorem dX3_count_62 : decode cX3_count 62 = .ok (.getfield 7, 3) := by decide +kernel
theorem dX3_count_65 : decode cX3_count 65 = .ok (.iload_n 3, 1) := by decide +kernel
theorem dX3_count_66 : decode cX3_count 66 = .ok (.baload, 1) := by decide +kernel
theorem dX3_count_67 : decode cX3_count 67 = .ok (.goto 51, 3) := by decide +kernel
theorem dX3_count_70 : decode cX3_count 70 = .ok (.iload_n 1, 1) := by decide +kernel
theorem dX3_count_71 : decode cX3_count 71 = .ok (.iconst 2, 1) := by decide +kernel
theorem dX3_count_72 : decode cX3_count 72 = .ok (.if_icmp .ne 17, 3) := by decide +kernel
theorem dX3_count_75 : decode cX3_count 75 = .ok (.aload_n 0, 1) := by decide +kernel
theorem dX3_count_76 : decode cX3_count 76 = .ok (.getfield 7, 3) := by decide +kernel
theorem dX3_count_79 : decode cX3_count 79 = .ok (.iload_n 3, 1) := by decide +kernel
theorem dX3_count_80 : decode cX3_count 80 = .ok (.baload, 1) := by decide +kernel
theorem dX3_count_81 : decode cX3_count 81 = .ok (.lload 4, 2) := by decide +kernel
theorem dX3_count_83 : decode cX3_count 83 = .ok (.invokestatic 63, 3) := by decide +kernel
theorem dX3_count_86 : decode cX3_count 86 = .ok (.goto 32, 3) := by decide +kernel
theorem dX3_count_89 : decode cX3_count 89 = .ok (.lload 4, 2) := by decide +kernel
theorem dX3_count_91 : decode cX3_count 91 = .ok (.aload_n 0, 1) := by decide +kernel
theorem dX3_count_92 : decode cX3_count 92 = .ok (.iload_n 3, 1) := by decide +kernel
theorem dX3_count_93 : decode cX3_count 93 = .ok (.iconst 0, 1) := by decide +kernel
theorem dX3_count_94 : decode cX3_count 94 = .ok (.invokevirtual 80, 3) := by decide +kernel
theorem dX3_count_97 : decode cX3_count 97 = .ok (.lcmp, 1) := by decide +kernel
theorem dX3_count_98 : decode cX3_count 98 = .ok (.ifCond .eq 15, 3) := by decide +kernel
theorem dX3_count_101 : decode cX3_count 101 = .ok (.lload 4, 2) := by decide +kernel
theorem dX3_count_103 : decode cX3_count 103 = .ok (.aload_n 0, 1) := by decide +kernel
theorem dX3_count_104 : decode cX3_count 104 = .ok (.iload_n 3, 1) := by decide +kernel
theorem dX3_count_105 : decode cX3_count 105 = .ok (.iconst 1, 1) := by decide +kernel
theorem dX3_count_106 : decode cX3_count 106 = .ok (.invokevirtual 80, 3) := by decide +kernel
theorem dX3_count_109 : decode cX3_count 109 = .ok (.lcmp, 1) := by decide +kernel
theorem dX3_count_110 : decode cX3_count 110 = .ok (.ifCond .ne 7, 3) := by decide +kernel
theorem dX3_count_113 : decode cX3_count 113 = .ok (.iconst 1, 1) := by decide +kernel
theorem dX3_count_114 : decode cX3_count 114 = .ok (.goto 4, 3) := by decide +kernel
theorem dX3_count_117 : decode cX3_count 117 = .ok (.iconst 0, 1) := by decide +kernel
theorem dX3_count_118 : decode cX3_count 118 = .ok (.istore 6, 2) := by decide +kernel
theorem dX3_count_120 : decode cX3_count 120 = .ok (.iload_n 2, 1) := by decide +kernel
theorem dX3_count_121 : decode cX3_count 121 = .ok (.iload 6, 2) := by decide +kernel
theorem dX3_count_123 : decode cX3_count 123 = .ok (.ifCond .eq 7, 3) := by decide +kernel
theorem dX3_count_126 : decode cX3_count 126 = .ok (.iconst 1, 1) := by decide +kernel
theorem dX3_count_127 : decode cX3_count 127 = .ok (.goto 4, 3) := by decide +kernel
theorem dX3_count_130 : decode cX3_count 130 = .ok (.iconst 0, 1) := by decide +kernel
theorem dX3_count_131 : decode cX3_count 131 = .ok (.iadd, 1) := by decide +kernel
theorem dX3_count_132 : decode cX3_count 132 = .ok (.istore_n 2, 1) := by decide +kernel
theorem dX3_count_133 : decode cX3_count 133 = .ok (.iinc 3 1, 3) := by decide +kernel
theorem dX3_count_136 : decode cX3_count 136 = .ok (.goto (-96), 3) := by decide +kernel
theorem dX3_count_139 : decode cX3_count 139 = .ok (.iload_n 2, 1) := by decide +kernel
theorem dX3_count_140 : decode cX3_count 140 = .ok (.ireturn, 1) := by decide +kernel
theorem dJxe99ae_isNaN_b9ae7_0 : decode cJxe99ae_isNaN_b9ae7 0 = .ok (.dload_n 0, 1) := by decide +kernel
theorem dJxe99ae_isNaN_b9ae7_1 : decode cJxe99ae_isNaN_b9ae7 1 = .ok (.dload_n 0, 1) := by decide +kernel
theorem dJxe99ae_isNaN_b9ae7_2 : decode cJxe99ae_isNaN_b9ae7 2 = .ok (.dcmp .l, 1) := by decide +kernel
theorem dJxe99ae_isNaN_b9ae7_3 : decode cJxe99ae_isNaN_b9ae7 3 = .ok (.ifCond .eq 7, 3) := by decide +kernel
theorem dJxe99ae_isNaN_b9ae7_6 : decode cJxe99ae_isNaN_b9ae7 6 = .ok (.iconst 1, 1) := by decide +kernel
theorem dJxe99ae_isNaN_b9ae7_7 : decode cJxe99ae_isNaN_b9ae7 7 = .ok (.goto 4, 3) := by decide +kernel
theorem dJxe99ae_isNaN_b9ae7_10 : decode cJxe99ae_isNaN_b9ae7 10 = .ok (.iconst 0, 1) := by decide +kernel
theorem dJxe99ae_isNaN_b9ae7_11 : decode cJxe99ae_isNaN_b9ae7 11 = .ok (.ireturn, 1) := by decide +kernel
set_option maxRecDepth 20000 in
theorem ggJxe99ae_doubleToLongBits_ccdee_Jxe99ae_isNaN_b9ae7 : GoodIn wsJxe99ae_doubleToLongBits_ccdee wsJxe99ae_isNaN_b9ae7 := goodIn_r _ [9] (by decide +kernel) (by decide +kernel)
set_option maxRecDepth 20000 in
theorem gJxe99ae_doubleToLongBits_ccdee_Jxe99ae_isNaN_b9ae7 : GoodIn wsJxe99ae_doubleToLongBits_ccdee (va_wsS RJxe99ae 122 yJxe99ae_isNaN_b9ae7 wsJxe99ae_isNaN_b9ae7) := goodIn_app (goodIn_of _ (by decide +kernel)) ggJxe99ae_doubleToLongBits_ccdee_Jxe99ae_isNaN_b9ae7
theorem dJxe99ae_doubleToLongBits_ccdee_0 : decode cJxe99ae_doubleToLongBits_ccdee 0 = .ok (.dload_n 0, 1) := by decide +kernel
theorem dJxe99ae_doubleToLongBits_ccdee_1 : decode cJxe99ae_doubleToLongBits_ccdee 1 = .ok (.invokestatic 122, 3) := by decide +kernel
theorem dJxe99ae_doubleToLongBits_ccdee_4 : decode cJxe99ae_doubleToLongBits_ccdee 4 = .ok (.ifCond .ne 8, 3) := by decide +kernel
theorem dJxe99ae_doubleToLongBits_ccdee_7 : decode cJxe99ae_doubleToLongBits_ccdee 7 = .ok (.dload_n 0, 1) := by decide +kernel
theorem dJxe99ae_doubleToLongBits_ccdee_8 : decode cJxe99ae_doubleToLongBits_ccdee 8 = .ok (.invokestatic 134, 3) := by decide +kernel
theorem dJxe99ae_doubleToLongBits_ccdee_11 : decode cJxe99ae_doubleToLongBits_ccdee 11 = .ok (.lreturn, 1) := by decide +kernel
theorem dJxe99ae_doubleToLongBits_ccdee_12 : decode cJxe99ae_doubleToLongBits_ccdee 12 = .ok (.ldc2_w 137, 3) := by decide +kernel
theorem dJxe99ae_doubleToLongBits_ccdee_15 : decode cJxe99ae_doubleToLongBits_ccdee 15 = .ok (.lreturn, 1) := by decide +kernel
theorem dJxf58ca_isNaN_12338_0 : decode cJxf58ca_isNaN_12338 0 = .ok (.fload_n 0, 1) := by decide +kernel
theorem dJxf58ca_isNaN_12338_1 : decode cJxf58ca_isNaN_12338 1 = .ok (.fload_n 0, 1) := by decide +kernel
theorem dJxf58ca_isNaN_12338_2 : decode cJxf58ca_isNaN_12338 2 = .ok (.fcmp .l, 1) := by decide +kernel
theorem dJxf58ca_isNaN_12338_3 : decode cJxf58ca_isNaN_12338 3 = .ok (.ifCond .eq 7, 3) := by decide +kernel
theorem dJxf58ca_isNaN_12338_6 : decode cJxf58ca_isNaN_12338 6 = .ok (.iconst 1, 1) := by decide +kernel
theorem dJxf58ca_isNaN_12338_7 : decode cJxf58ca_isNaN_12338 7 = .ok (.goto 4, 3) := by decide +kernel
theorem dJxf58ca_isNaN_12338_10 : decode cJxf58ca_isNaN_12338 10 = .ok (.iconst 0, 1) := by decide +kernel
theorem dJxf58ca_isNaN_12338_11 : decode cJxf58ca_isNaN_12338 11 = .ok (.ireturn, 1) := by decide +kernel
set_option maxRecDepth 20000 in
theorem ggJxf58ca_floatToIntBits_5c35a_Jxf58ca_isNaN_12338 : GoodIn wsJxf58ca_floatToIntBits_5c35a wsJxf58ca_isNaN_12338 := goodIn_r _ [9] (by decide +kernel) (by decide +kernel)
set_option maxRecDepth 20000 in
theorem gJxf58ca_floatToIntBits_5c35a_Jxf58ca_isNaN_12338 : GoodIn wsJxf58ca_floatToIntBits_5c35a (va_wsS RJxf58ca 59 yJxf58ca_isNaN_12338 wsJxf58ca_isNaN_12338) := goodIn_app (goodIn_of _ (by decide +kernel)) ggJxf58ca_floatToIntBits_5c35a_Jxf58ca_isNaN_12338
theorem dJxf58ca_floatToIntBits_5c35a_0 : decode cJxf58ca_floatToIntBits_5c35a 0 = .ok (.fload_n 0, 1) := by decide +kernel
theorem dJxf58ca_floatToIntBits_5c35a_1 : decode cJxf58ca_floatToIntBits_5c35a 1 = .ok (.invokestatic 59, 3) := by decide +kernel
theorem dJxf58ca_floatToIntBits_5c35a_4 : decode cJxf58ca_floatToIntBits_5c35a 4 = .ok (.ifCond .ne 8, 3) := by decide +kernel
theorem dJxf58ca_floatToIntBits_5c35a_7 : decode cJxf58ca_floatToIntBits_5c35a 7 = .ok (.fload_n 0, 1) := by decide +kernel
theorem dJxf58ca_floatToIntBits_5c35a_8 : decode cJxf58ca_floatToIntBits_5c35a 8 = .ok (.invokestatic 74, 3) := by decide +kernel
theorem dJxf58ca_floatToIntBits_5c35a_11 : decode cJxf58ca_floatToIntBits_5c35a 11 = .ok (.ireturn, 1) := by decide +kernel
theorem dJxf58ca_floatToIntBits_5c35a_12 : decode cJxf58ca_floatToIntBits_5c35a 12 = .ok (.ldc 77, 2) := by decide +kernel
theorem dJxf58ca_floatToIntBits_5c35a_14 : decode cJxf58ca_floatToIntBits_5c35a 14 = .ok (.ireturn, 1) := by decide +kernel
theorem dJ9_abs_067f4_0 : decode cJ9_abs_067f4 0 = .ok (.lload_n 0, 1) := by decide +kernel
theorem dJ9_abs_067f4_1 : decode cJ9_abs_067f4 1 = .ok (.lconst 0, 1) := by decide +kernel
theorem dJ9_abs_067f4_2 : decode cJ9_abs_067f4 2 = .ok (.lcmp, 1) := by decide +kernel
theorem dJ9_abs_067f4_3 : decode cJ9_abs_067f4 3 = .ok (.ifCond .ge 8, 3) := by decide +kernel
theorem dJ9_abs_067f4_6 : decode cJ9_abs_067f4 6 = .ok (.lload_n 0, 1) := by decide +kernel
theorem dJ9_abs_067f4_7 : decode cJ9_abs_067f4 7 = .ok (.lneg, 1) := by decide +kernel
theorem dJ9_abs_067f4_8 : decode cJ9_abs_067f4 8 = .ok (.goto 4, 3) := by decide +kernel
theorem dJ9_abs_067f4_11 : decode cJ9_abs_067f4 11 = .ok (.lload_n 0, 1) := by decide +kernel
theorem dJ9_abs_067f4_12 : decode cJ9_abs_067f4 12 = .ok (.lreturn, 1) := by decide +kernel
theorem dJ9_max_7cf53_0 : decode cJ9_max_7cf53 0 = .ok (.iload_n 0, 1) := by decide +kernel
theorem dJ9_max_7cf53_1 : decode cJ9_max_7cf53 1 = .ok (.iload_n 1, 1) := by decide +kernel
theorem dJ9_max_7cf53_2 : decode cJ9_max_7cf53 2 = .ok (.if_icmp .lt 7, 3) := by decide +kernel
theorem dJ9_max_7cf53_5 : decode cJ9_max_7cf53 5 = .ok (.iload_n 0, 1) := by decide +kernel
theorem dJ9_max_7cf53_6 : decode cJ9_max_7cf53 6 = .ok (.goto 4, 3) := by decide +kernel
theorem dJ9_max_7cf53_9 : decode cJ9_max_7cf53 9 = .ok (.iload_n 1, 1) := by decide +kernel
theorem dJ9_max_7cf53_10 : decode cJ9_max_7cf53 10 = .ok (.ireturn, 1) := by decide +kernel
theorem dJ9_max_f86c9_0 : decode cJ9_max_f86c9 0 = .ok (.lload_n 0, 1) := by decide +kernel
theorem dJ9_max_f86c9_1 : decode cJ9_max_f86c9 1 = .ok (.lload_n 2, 1) := by decide +kernel
theorem dJ9_max_f86c9_2 : decode cJ9_max_f86c9 2 = .ok (.lcmp, 1) := by decide +kernel
theorem dJ9_max_f86c9_3 : decode cJ9_max_f86c9 3 = .ok (.ifCond .lt 7, 3) := by decide +kernel
theorem dJ9_max_f86c9_6 : decode cJ9_max_f86c9 6 = .ok (.lload_n 0, 1) := by decide +kernel
theorem dJ9_max_f86c9_7 : decode cJ9_max_f86c9 7 = .ok (.goto 4, 3) := by decide +kernel
theorem dJ9_max_f86c9_10 : decode cJ9_max_f86c9 10 = .ok (.lload_n 2, 1) := by decide +kernel
theorem dJ9_max_f86c9_11 : decode cJ9_max_f86c9 11 = .ok (.lreturn, 1) := by decide +kernel
theorem dJ9_min_f86c9_0 : decode cJ9_min_f86c9 0 = .ok (.lload_n 0, 1) := by decide +kernel
theorem dJ9_min_f86c9_1 : decode cJ9_min_f86c9 1 = .ok (.lload_n 2, 1) := by decide +kernel
theorem dJ9_min_f86c9_2 : decode cJ9_min_f86c9 2 = .ok (.lcmp, 1) := by decide +kernel
theorem dJ9_min_f86c9_3 : decode cJ9_min_f86c9 3 = .ok (.ifCond .gt 7, 3) := by decide +kernel
theorem dJ9_min_f86c9_6 : decode cJ9_min_f86c9 6 = .ok (.lload_n 0, 1) := by decide +kernel
theorem dJ9_min_f86c9_7 : decode cJ9_min_f86c9 7 = .ok (.goto 4, 3) := by decide +kernel
theorem dJ9_min_f86c9_10 : decode cJ9_min_f86c9 10 = .ok (.lload_n 2, 1) := by decide +kernel
theorem dJ9_min_f86c9_11 : decode cJ9_min_f86c9 11 = .ok (.lreturn, 1) := by decide +kernel
set_option maxRecDepth 20000 in
theorem ggL_needle_X2_needle : GoodIn wsL_needle wsX2_needle := goodIn_ca (goodIn_ca (goodIn_r _ [7, 8, 9, 10, 11, 12, 13, 14, 15, 16, 17, 18, 19, 20, 6, 21, 22, 23, 24, 25, 26, 27, 28, 29, 30, 31, 32, 33, 34, 35, 36, 37, 38, 39, 40, 41, 42, 43, 44, 45, 46, 47, 48, 49, 50, 51, 52, 53, 54, 55, 56, 57, 58, 59, 60, 61, 62, 63, 64, 65, 66, 67, 68, 69, 70, 71, 72, 73, 74, 75, 76, 77, 78, 79, 80, 81, 82, 83, 84, 85, 86, 87, 88, 89, 90, 91, 92] (by decide +kernel) (by decide +kernel)) (goodIn_sub (fun _ h => List.mem_cons_of_mem _ (List.mem_append_left _ (List.mem_append_right _ h))) (by decide +kernel))) (goodIn_sub (fun _ h => List.mem_cons_of_mem _ (List.mem_append_right _ h)) (by decide +kernel))
set_option maxRecDepth 20000 in
theorem gL_needle_X2_needle : GoodIn wsL_needle (wsV RL 7 RX2 yX2_needle wsX2_needle) := goodIn_app (goodIn_of _ (by decide +kernel)) ggL_needle_X2_needle
theorem dL_needle_0 : decode cL_needle 0 = .ok (.aload 6, 2) := by decide +kernel
theorem dL_needle_2 : decode cL_needle 2 = .ok (.iconst 0, 1) := by decide +kernel
theorem dL_needle_3 : decode cL_needle 3 = .ok (.aload_n 0, 1) := by decide +kernel
theorem dL_needle_4 : decode cL_needle 4 = .ok (.iload_n 1, 1) := by decide +kernel
theorem dL_needle_5 : decode cL_needle 5 = .ok (.lload_n 2, 1) := by decide +kernel
theorem dL_needle_6 : decode cL_needle 6 = .ok (.lload 4, 2) := by decide +kernel
theorem dL_needle_8 : decode cL_needle 8 = .ok (.invokevirtual 7, 3) := by decide +kernel
theorem dL_needle_11 : decode cL_needle 11 = .ok (.i2l, 1) := by decide +kernel
theorem dL_needle_12 : decode cL_needle 12 = .ok (.lastore, 1) := by decide +kernel
theorem dL_needle_13 : decode cL_needle 13 = .ok (.goto 11, 3) := by decide +kernel
theorem dL_needle_16 : decode cL_needle 16 = .ok (.astore 7, 2) := by decide +kernel
theorem dL_needle_18 : decode cL_needle 18 = .ok (.iconst 1, 1) := by decide +kernel
theorem dL_needle_19 : decode cL_needle 19 = .ok (.ireturn, 1) := by decide +kernel
theorem dL_needle_20 : decode cL_needle 20 = .ok (.astore 7, 2) := by decide +kernel
theorem dL_needle_22 : decode cL_needle 22 = .ok (.iconst 2, 1) := by decide +kernel
theorem dL_needle_23 : decode cL_needle 23 = .ok (.ireturn, 1) := by decide +kernel
theorem dL_needle_24 : decode cL_needle 24 = .ok (.iconst 0, 1) := by decide +kernel
theorem dL_needle_25 : decode cL_needle 25 = .ok (.ireturn, 1) := by decide +kernel
set_option maxRecDepth 20000 in
theorem ggL_put_X2_put : GoodIn wsL_put wsX2_put := goodIn_ca (goodIn_ca (goodIn_r _ [7, 8, 9, 10, 11, 12, 13, 6, 14, 15, 16, 17, 18, 19, 20, 21, 22, 23, 24, 25, 26, 27, 28, 29, 30, 31, 32, 33, 34, 35, 36, 37, 38, 39, 40, 41, 42, 43, 44, 45, 46, 47, 48, 49, 50, 51, 52, 53, 54, 55, 56, 57, 58, 59, 60, 61, 62, 63, 64, 65, 66, 67, 68, 69, 70, 71, 72, 73, 74, 75, 76, 77, 78, 79, 80, 81, 82, 83, 84, 85, 86, 87, 88, 89] (by decide +kernel) (by decide +kernel)) (goodIn_sub (fun _ h => List.mem_cons_of_mem _ (List.mem_append_left _ (List.mem_append_right _ h))) (by decide +kernel))) (goodIn_sub (fun _ h => List.mem_cons_of_mem _ (List.mem_append_right _ h)) (by decide +kernel))
set_option maxRecDepth 20000 in
theorem gL_put_X2_put : GoodIn wsL_put (wsV RL 17 RX2 yX2_put wsX2_put) := goodIn_app (goodIn_of _ (by decide +kernel)) ggL_put_X2_put
theorem dL_put_0 : decode cL_put 0 = .ok (.aload 4, 2) := by decide +kernel
theorem dL_put_2 : decode cL_put 2 = .ok (.iconst 0, 1) := by decide +kernel
theorem dL_put_3 : decode cL_put 3 = .ok (.aload_n 0, 1) := by decide +kernel
theorem dL_put_4 : decode cL_put 4 = .ok (.iload_n 1, 1) := by decide +kernel
theorem dL_put_5 : decode cL_put 5 = .ok (.lload_n 2, 1) := by decide +kernel
theorem dL_put_6 : decode cL_put 6 = .ok (.invokevirtual 17, 3) := by decide +kernel
theorem dL_put_9 : decode cL_put 9 = .ok (.lastore, 1) := by decide +kernel
theorem dL_put_10 : decode cL_put 10 = .ok (.goto 11, 3) := by decide +kernel
theorem dL_put_13 : decode cL_put 13 = .ok (.astore 5, 2) := by decide +kernel
theorem dL_put_15 : decode cL_put 15 = .ok (.iconst 1, 1) := by decide +kernel
theorem dL_put_16 : decode cL_put 16 = .ok (.ireturn, 1) := by decide +kernel
theorem dL_put_17 : decode cL_put 17 = .ok (.astore 5, 2) := by decide +kernel
theorem dL_put_19 : decode cL_put 19 = .ok (.iconst 2, 1) := by decide +kernel
theorem dL_put_20 : decode cL_put 20 = .ok (.ireturn, 1) := by decide +kernel
theorem dL_put_21 : decode cL_put 21 = .ok (.iconst 0, 1) := by decide +kernel
theorem dL_put_22 : decode cL_put 22 = .ok (.ireturn, 1) := by decide +kernel
set_option maxRecDepth 20000 in
theorem ggL_turn_X2_turn : GoodIn wsL_turn wsX2_turn := goodIn_ca (goodIn_ca (goodIn_ca (goodIn_r _ [8, 9, 10, 11, 12, 13, 14, 15, 16, 7, 17, 18, 19, 20, 21, 22, 23, 24, 25, 26, 27, 28, 29, 30, 31, 32, 33, 34, 35, 36, 37, 38, 39, 40, 41, 42, 43, 44, 45, 46, 47, 48, 49, 50, 51, 52, 53, 54, 55, 56, 57, 58, 59, 60, 61, 62, 63, 64, 65, 66, 67, 68, 69, 70, 71, 72, 73, 74, 75, 76, 77, 78, 79, 80, 81, 82, 83, 84, 85, 86, 87, 88, 89, 90, 91, 92, 93, 94, 95, 96, 97, 98, 99, 100, 101, 102, 103, 104, 105, 106, 107, 108, 109, 110, 111, 112, 113, 114, 115, 116, 117, 118, 119, 120, 121, 122, 123, 124, 125, 126, 127, 128, 129, 130, 131, 132, 133, 134, 135, 136, 137, 138, 139, 140, 141] (by decide +kernel) (by decide +kernel)) (goodIn_sub (fun _ h => List.mem_cons_of_mem _ (List.mem_append_left _ (List.mem_append_left _ (List.mem_append_right _ h)))) (by decide +kernel))) (goodIn_sub (fun _ h => List.mem_cons_of_mem _ (List.mem_append_left _ (List.mem_append_right _ h))) (by decide +kernel))) (goodIn_sub (fun _ h => List.mem_cons_of_mem _ (List.mem_append_right _ h)) (by decide +kernel))
set_option maxRecDepth 20000 in
theorem gL_turn_X2_turn : GoodIn wsL_turn (wsV RL 23 RX2 yX2_turn wsX2_turn) := goodIn_app (goodIn_of _ (by decide +kernel)) ggL_turn_X2_turn
theorem dL_turn_0 : decode cL_turn 0 = .ok (.aload 4, 2) := by decide +kernel
theorem dL_turn_2 : decode cL_turn 2 = .ok (.iconst 0, 1) := by decide +kernel
theorem dL_turn_3 : decode cL_turn 3 = .ok (.aload_n 0, 1) := by decide +kernel
theorem dL_turn_4 : decode cL_turn 4 = .ok (.iload_n 1, 1) := by decide +kernel
theorem dL_turn_5 : decode cL_turn 5 = .ok (.lload_n 2, 1) := by decide +kernel
theorem dL_turn_6 : decode cL_turn 6 = .ok (.invokevirtual 23, 3) := by decide +kernel
theorem dL_turn_9 : decode cL_turn 9 = .ok (.lastore, 1) := by decide +kernel
theorem dL_turn_10 : decode cL_turn 10 = .ok (.goto 15, 3) := by decide +kernel
theorem dL_turn_13 : decode cL_turn 13 = .ok (.astore 5, 2) := by decide +kernel
theorem dL_turn_15 : decode cL_turn 15 = .ok (.iconst 1, 1) := by decide +kernel
theorem dL_turn_16 : decode cL_turn 16 = .ok (.ireturn, 1) := by decide +kernel
theorem dL_turn_17 : decode cL_turn 17 = .ok (.astore 5, 2) := by decide +kernel
theorem dL_turn_19 : decode cL_turn 19 = .ok (.iconst 2, 1) := by decide +kernel
theorem dL_turn_20 : decode cL_turn 20 = .ok (.ireturn, 1) := by decide +kernel
theorem dL_turn_21 : decode cL_turn 21 = .ok (.astore 5, 2) := by decide +kernel
theorem dL_turn_23 : decode cL_turn 23 = .ok (.iconst 3, 1) := by decide +kernel
theorem dL_turn_24 : decode cL_turn 24 = .ok (.ireturn, 1) := by decide +kernel
theorem dL_turn_25 : decode cL_turn 25 = .ok (.iconst 0, 1) := by decide +kernel
theorem dL_turn_26 : decode cL_turn 26 = .ok (.ireturn, 1) := by decide +kernel
set_option maxRecDepth 20000 in
theorem ggL_damp_X2_damp : GoodIn wsL_damp wsX2_damp := goodIn_ca (goodIn_ca (goodIn_r _ [7, 8, 9, 10, 11, 12, 6, 13, 14, 15, 16, 17, 18, 19, 20, 21, 22, 23, 24, 25, 26, 27, 28, 29, 30, 31, 32, 33, 34, 35, 36, 37, 38, 39, 40, 41, 42, 43, 44, 45, 46, 47, 48, 49, 50, 51, 52] (by decide +kernel) (by decide +kernel)) (goodIn_sub (fun _ h => List.mem_cons_of_mem _ (List.mem_append_left _ (List.mem_append_right _ h))) (by decide +kernel))) (goodIn_sub (fun _ h => List.mem_cons_of_mem _ (List.mem_append_right _ h)) (by decide +kernel))
set_option maxRecDepth 20000 in
theorem gL_damp_X2_damp : GoodIn wsL_damp (wsV RL 26 RX2 yX2_damp wsX2_damp) := goodIn_app (goodIn_of _ (by decide +kernel)) ggL_damp_X2_damp
theorem dL_damp_0 : decode cL_damp 0 = .ok (.aload 4, 2) := by decide +kernel
theorem dL_damp_2 : decode cL_damp 2 = .ok (.iconst 0, 1) := by decide +kernel
theorem dL_damp_3 : decode cL_damp 3 = .ok (.aload_n 0, 1) := by decide +kernel
theorem dL_damp_4 : decode cL_damp 4 = .ok (.iload_n 1, 1) := by decide +kernel
theorem dL_damp_5 : decode cL_damp 5 = .ok (.lload_n 2, 1) := by decide +kernel
theorem dL_damp_6 : decode cL_damp 6 = .ok (.invokevirtual 26, 3) := by decide +kernel
theorem dL_damp_9 : decode cL_damp 9 = .ok (.lastore, 1) := by decide +kernel
theorem dL_damp_10 : decode cL_damp 10 = .ok (.goto 11, 3) := by decide +kernel
theorem dL_damp_13 : decode cL_damp 13 = .ok (.astore 5, 2) := by decide +kernel
theorem dL_damp_15 : decode cL_damp 15 = .ok (.iconst 1, 1) := by decide +kernel
theorem dL_damp_16 : decode cL_damp 16 = .ok (.ireturn, 1) := by decide +kernel
theorem dL_damp_17 : decode cL_damp 17 = .ok (.astore 5, 2) := by decide +kernel
theorem dL_damp_19 : decode cL_damp 19 = .ok (.iconst 2, 1) := by decide +kernel
theorem dL_damp_20 : decode cL_damp 20 = .ok (.ireturn, 1) := by decide +kernel
theorem dL_damp_21 : decode cL_damp 21 = .ok (.iconst 0, 1) := by decide +kernel
theorem dL_damp_22 : decode cL_damp 22 = .ok (.ireturn, 1) := by decide +kernel
set_option maxRecDepth 20000 in
theorem ggL_pull_X2_pull : GoodIn wsL_pull wsX2_pull := goodIn_ca (goodIn_ca (goodIn_r _ [7, 8, 9, 10, 11, 12, 13, 6, 14, 15, 16, 17, 18, 19, 20, 21, 22, 23, 24, 25, 26, 27, 28, 29, 30, 31, 32, 33, 34, 35, 36, 37, 38, 39, 40, 41, 42, 43, 44, 45, 46, 47, 48, 49, 50, 51, 52, 53, 54, 55, 56, 57, 58, 59, 60, 61, 62, 63, 64, 65, 66, 67, 68, 69, 70, 71, 72, 73, 74, 75, 76, 77, 78, 79, 80, 81, 82, 83, 84, 85, 86, 87, 88, 89, 90, 91, 92, 93, 94, 95, 96, 97, 98, 99, 100, 101, 102, 103, 104, 105, 106, 107, 108, 109, 110, 111, 112, 113, 114, 115, 116, 117, 118, 119, 120, 121, 122, 123, 124, 125, 126, 127, 128, 129, 130, 131, 132, 133, 134, 135, 136, 137, 138, 139, 140, 141, 142, 143, 144, 145] (by decide +kernel) (by decide +kernel)) (goodIn_sub (fun _ h => List.mem_cons_of_mem _ (List.mem_append_left _ (List.mem_append_right _ h))) (by decide +kernel))) (goodIn_sub (fun _ h => List.mem_cons_of_mem _ (List.mem_append_right _ h)) (by decide +kernel))
set_option maxRecDepth 20000 in
theorem gL_pull_X2_pull : GoodIn wsL_pull (wsV RL 29 RX2 yX2_pull wsX2_pull) := goodIn_app (goodIn_of _ (by decide +kernel)) ggL_pull_X2_pull
theorem dL_pull_0 : decode cL_pull 0 = .ok (.aload 4, 2) := by decide +kernel
theorem dL_pull_2 : decode cL_pull 2 = .ok (.iconst 0, 1) := by decide +kernel
theorem dL_pull_3 : decode cL_pull 3 = .ok (.aload_n 0, 1) := by decide +kernel
theorem dL_pull_4 : decode cL_pull 4 = .ok (.iload_n 1, 1) := by decide +kernel
theorem dL_pull_5 : decode cL_pull 5 = .ok (.lload_n 2, 1) := by decide +kernel
theorem dL_pull_6 : decode cL_pull 6 = .ok (.invokevirtual 29, 3) := by decide +kernel
theorem dL_pull_9 : decode cL_pull 9 = .ok (.ifCond .eq 7, 3) := by decide +kernel
theorem dL_pull_12 : decode cL_pull 12 = .ok (.lconst 1, 1) := by decide +kernel
theorem dL_pull_13 : decode cL_pull 13 = .ok (.goto 4, 3) := by decide +kernel
theorem dL_pull_16 : decode cL_pull 16 = .ok (.lconst 0, 1) := by decide +kernel
theorem dL_pull_17 : decode cL_pull 17 = .ok (.lastore, 1) := by decide +kernel
theorem dL_pull_18 : decode cL_pull 18 = .ok (.goto 11, 3) := by decide +kernel
theorem dL_pull_21 : decode cL_pull 21 = .ok (.astore 5, 2) := by decide +kernel
theorem dL_pull_23 : decode cL_pull 23 = .ok (.iconst 1, 1) := by decide +kernel
theorem dL_pull_24 : decode cL_pull 24 = .ok (.ireturn, 1) := by decide +kernel
theorem dL_pull_25 : decode cL_pull 25 = .ok (.astore 5, 2) := by decide +kernel
theorem dL_pull_27 : decode cL_pull 27 = .ok (.iconst 2, 1) := by decide +kernel
theorem dL_pull_28 : decode cL_pull 28 = .ok (.ireturn, 1) := by decide +kernel
theorem dL_pull_29 : decode cL_pull 29 = .ok (.iconst 0, 1) := by decide +kernel
theorem dL_pull_30 : decode cL_pull 30 = .ok (.ireturn, 1) := by decide +kernel
set_option maxRecDepth 20000 in
theorem ggL_rest_X2_rest : GoodIn wsL_rest wsX2_rest := goodIn_ca (goodIn_ca (goodIn_r _ [7, 8, 9, 10, 11, 12, 13, 14, 15, 6, 16, 17, 18, 19, 20, 21, 22, 23, 24, 25, 26, 27, 28, 29, 30, 31, 32, 33, 34, 35, 36, 37, 38, 39, 40, 41, 42, 43, 44, 45, 46, 47, 48, 49, 50, 51, 52, 53, 54, 55, 56, 57, 58, 59, 60, 61, 62, 63, 64, 65, 66, 67, 68, 69, 70, 71, 72, 73, 74, 75, 76, 77, 78, 79, 80, 81, 82, 83, 84, 85, 86, 87, 88, 89, 90, 91, 92, 93, 94, 95, 96, 97, 98, 99, 100, 101, 102, 103, 104, 105, 106, 107, 108, 109, 110, 111, 112, 113] (by decide +kernel) (by decide +kernel)) (goodIn_sub (fun _ h => List.mem_cons_of_mem _ (List.mem_append_left _ (List.mem_append_right _ h))) (by decide +kernel))) (goodIn_sub (fun _ h => List.mem_cons_of_mem _ (List.mem_append_right _ h)) (by decide +kernel))
set_option maxRecDepth 20000 in
theorem gL_rest_X2_rest : GoodIn wsL_rest (wsV RL 33 RX2 yX2_rest wsX2_rest) := goodIn_app (goodIn_of _ (by decide +kernel)) ggL_rest_X2_rest
theorem dL_rest_0 : decode cL_rest 0 = .ok (.aload_n 3, 1) := by decide +kernel
theorem dL_rest_1 : decode cL_rest 1 = .ok (.iconst 0, 1) := by decide +kernel
theorem dL_rest_2 : decode cL_rest 2 = .ok (.aload_n 0, 1) := by decide +kernel
theorem dL_rest_3 : decode cL_rest 3 = .ok (.iload_n 1, 1) := by decide +kernel
theorem dL_rest_4 : decode cL_rest 4 = .ok (.iload_n 2, 1) := by decide +kernel
theorem dL_rest_5 : decode cL_rest 5 = .ok (.invokevirtual 33, 3) := by decide +kernel
theorem dL_rest_8 : decode cL_rest 8 = .ok (.lastore, 1) := by decide +kernel
theorem dL_rest_9 : decode cL_rest 9 = .ok (.goto 11, 3) := by decide +kernel
theorem dL_rest_12 : decode cL_rest 12 = .ok (.astore 4, 2) := by decide +kernel
theorem dL_rest_14 : decode cL_rest 14 = .ok (.iconst 1, 1) := by decide +kernel
theorem dL_rest_15 : decode cL_rest 15 = .ok (.ireturn, 1) := by decide +kernel
theorem dL_rest_16 : decode cL_rest 16 = .ok (.astore 4, 2) := by decide +kernel
theorem dL_rest_18 : decode cL_rest 18 = .ok (.iconst 2, 1) := by decide +kernel
theorem dL_rest_19 : decode cL_rest 19 = .ok (.ireturn, 1) := by decide +kernel
theorem dL_rest_20 : decode cL_rest 20 = .ok (.iconst 0, 1) := by decide +kernel
theorem dL_rest_21 : decode cL_rest 21 = .ok (.ireturn, 1) := by decide +kernel
set_option maxRecDepth 20000 in
theorem ggL_face_X2_face : GoodIn wsL_face wsX2_face := goodIn_ca (goodIn_r _ [6, 7, 8, 9, 10, 11, 12, 5, 13, 14, 15, 16, 17, 18, 19, 20, 21, 22, 23, 24, 25, 26, 27, 28, 29, 30, 31, 32, 33, 34, 35, 36, 37, 38, 39, 40, 41, 42, 43, 44, 45, 46, 47, 48, 49, 50, 51, 52, 53, 54, 55, 56, 57, 58, 59, 60, 61, 62, 63, 64, 65, 66, 67, 68, 69, 70, 71, 72, 73, 74, 75, 76, 77] (by decide +kernel) (by decide +kernel)) (goodIn_sub (fun _ h => List.mem_cons_of_mem _ (List.mem_append_right _ h)) (by decide +kernel))
set_option maxRecDepth 20000 in
theorem gL_face_X2_face : GoodIn wsL_face (wsV RL 37 RX2 yX2_face wsX2_face) := goodIn_app (goodIn_of _ (by decide +kernel)) ggL_face_X2_face
theorem dL_face_0 : decode cL_face 0 = .ok (.aload_n 3, 1) := by decide +kernel
theorem dL_face_1 : decode cL_face 1 = .ok (.iconst 0, 1) := by decide +kernel
theorem dL_face_2 : decode cL_face 2 = .ok (.aload_n 0, 1) := by decide +kernel
theorem dL_face_3 : decode cL_face 3 = .ok (.iload_n 1, 1) := by decide +kernel
theorem dL_face_4 : decode cL_face 4 = .ok (.iload_n 2, 1) := by decide +kernel
theorem dL_face_5 : decode cL_face 5 = .ok (.invokevirtual 37, 3) := by decide +kernel
theorem dL_face_8 : decode cL_face 8 = .ok (.lastore, 1) := by decide +kernel
theorem dL_face_9 : decode cL_face 9 = .ok (.goto 7, 3) := by decide +kernel
theorem dL_face_12 : decode cL_face 12 = .ok (.astore 4, 2) := by decide +kernel
theorem dL_face_14 : decode cL_face 14 = .ok (.iconst 1, 1) := by decide +kernel
theorem dL_face_15 : decode cL_face 15 = .ok (.ireturn, 1) := by decide +kernel
theorem dL_face_16 : decode cL_face 16 = .ok (.iconst 0, 1) := by decide +kernel
theorem dL_face_17 : decode cL_face 17 = .ok (.ireturn, 1) := by decide +kernel
set_option maxRecDepth 20000 in
theorem ggL_read_X2_read : GoodIn wsL_read wsX2_read := goodIn_ca (goodIn_ca (goodIn_r _ [7, 8, 9, 10, 11, 12, 13, 14, 15, 16, 17, 18, 19, 20, 6, 21, 22, 23, 24, 25, 26, 27, 28, 29, 30, 31, 32, 33, 34, 35, 36, 37, 38, 39, 40, 41, 42, 43, 44, 45, 46, 47, 48, 49, 50, 51, 52, 53, 54] (by decide +kernel) (by decide +kernel)) (goodIn_sub (fun _ h => List.mem_cons_of_mem _ (List.mem_append_left _ (List.mem_append_right _ h))) (by decide +kernel))) (goodIn_sub (fun _ h => List.mem_cons_of_mem _ (List.mem_append_right _ h)) (by decide +kernel))
set_option maxRecDepth 20000 in
theorem gL_read_X2_read : GoodIn wsL_read (wsV RL 40 RX2 yX2_read wsX2_read) := goodIn_app (goodIn_of _ (by decide +kernel)) ggL_read_X2_read
theorem dL_read_0 : decode cL_read 0 = .ok (.aload_n 3, 1) := by decide +kernel
theorem dL_read_1 : decode cL_read 1 = .ok (.iconst 0, 1) := by decide +kernel
theorem dL_read_2 : decode cL_read 2 = .ok (.aload_n 0, 1) := by decide +kernel
theorem dL_read_3 : decode cL_read 3 = .ok (.iload_n 1, 1) := by decide +kernel
theorem dL_read_4 : decode cL_read 4 = .ok (.iload_n 2, 1) := by decide +kernel
theorem dL_read_5 : decode cL_read 5 = .ok (.invokevirtual 40, 3) := by decide +kernel
theorem dL_read_8 : decode cL_read 8 = .ok (.lastore, 1) := by decide +kernel
theorem dL_read_9 : decode cL_read 9 = .ok (.goto 11, 3) := by decide +kernel
theorem dL_read_12 : decode cL_read 12 = .ok (.astore 4, 2) := by decide +kernel
theorem dL_read_14 : decode cL_read 14 = .ok (.iconst 1, 1) := by decide +kernel
theorem dL_read_15 : decode cL_read 15 = .ok (.ireturn, 1) := by decide +kernel
theorem dL_read_16 : decode cL_read 16 = .ok (.astore 4, 2) := by decide +kernel
theorem dL_read_18 : decode cL_read 18 = .ok (.iconst 2, 1) := by decide +kernel
theorem dL_read_19 : decode cL_read 19 = .ok (.ireturn, 1) := by decide +kernel
theorem dL_read_20 : decode cL_read 20 = .ok (.iconst 0, 1) := by decide +kernel
theorem dL_read_21 : decode cL_read 21 = .ok (.ireturn, 1) := by decide +kernel
set_option maxRecDepth 20000 in
theorem ggL_between_X2_between : GoodIn wsL_between wsX2_between := goodIn_ca (goodIn_ca (goodIn_r _ [7, 8, 9, 10, 11, 12, 13, 14, 15, 16, 17, 18, 19, 20, 21, 6, 22, 23, 24, 25, 26, 27, 28, 29, 30, 31, 32, 33, 34, 35, 36, 37, 38, 39, 40, 41, 42, 43, 44, 45, 46, 47, 48, 49, 50, 51, 52, 53, 54, 55, 56, 57, 58, 59, 60, 61] (by decide +kernel) (by decide +kernel)) (goodIn_sub (fun _ h => List.mem_cons_of_mem _ (List.mem_append_left _ (List.mem_append_right _ h))) (by decide +kernel))) (goodIn_sub (fun _ h => List.mem_cons_of_mem _ (List.mem_append_right _ h)) (by decide +kernel))
set_option maxRecDepth 20000 in
theorem gL_between_X2_between : GoodIn wsL_between (wsV RL 43 RX2 yX2_between wsX2_between) := goodIn_app (goodIn_of _ (by decide +kernel)) ggL_between_X2_between
theorem dL_between_0 : decode cL_between 0 = .ok (.aload 4, 2) := by decide +kernel
theorem dL_between_2 : decode cL_between 2 = .ok (.iconst 0, 1) := by decide +kernel
theorem dL_between_3 : decode cL_between 3 = .ok (.aload_n 0, 1) := by decide +kernel
theorem dL_between_4 : decode cL_between 4 = .ok (.iload_n 1, 1) := by decide +kernel
theorem dL_between_5 : decode cL_between 5 = .ok (.iload_n 2, 1) := by decide +kernel
theorem dL_between_6 : decode cL_between 6 = .ok (.iload_n 3, 1) := by decide +kernel
theorem dL_between_7 : decode cL_between 7 = .ok (.invokevirtual 43, 3) := by decide +kernel
theorem dL_between_10 : decode cL_between 10 = .ok (.lastore, 1) := by decide +kernel
theorem dL_between_11 : decode cL_between 11 = .ok (.goto 11, 3) := by decide +kernel
theorem dL_between_14 : decode cL_between 14 = .ok (.astore 5, 2) := by decide +kernel
theorem dL_between_16 : decode cL_between 16 = .ok (.iconst 1, 1) := by decide +kernel
theorem dL_between_17 : decode cL_between 17 = .ok (.ireturn, 1) := by decide +kernel
theorem dL_between_18 : decode cL_between 18 = .ok (.astore 5, 2) := by decide +kernel
theorem dL_between_20 : decode cL_between 20 = .ok (.iconst 2, 1) := by decide +kernel
theorem dL_between_21 : decode cL_between 21 = .ok (.ireturn, 1) := by decide +kernel
theorem dL_between_22 : decode cL_between 22 = .ok (.iconst 0, 1) := by decide +kernel
theorem dL_between_23 : decode cL_between 23 = .ok (.ireturn, 1) := by decide +kernel
set_option maxRecDepth 20000 in
theorem ggL_order_X2_order : GoodIn wsL_order wsX2_order := goodIn_ca (goodIn_r _ [6, 7, 8, 9, 10, 5, 11, 12, 13, 14, 15, 16, 17, 18, 19, 20, 21, 22, 23, 24, 25, 26, 27, 28, 29, 30, 31, 32, 33, 34, 35, 36, 37, 38, 39, 40, 41, 42, 43, 44, 45, 46, 47, 48, 49, 50, 51, 52, 53, 54, 55, 56, 57, 58, 59, 60, 61, 62, 63, 64, 65, 66, 67, 68, 69, 70, 71, 72, 73, 74, 75, 76, 77, 78, 79, 80, 81, 82, 83, 84, 85, 86, 87, 88, 89, 90] (by decide +kernel) (by decide +kernel)) (goodIn_sub (fun _ h => List.mem_cons_of_mem _ (List.mem_append_right _ h)) (by decide +kernel))
set_option maxRecDepth 20000 in
theorem gL_order_X2_order : GoodIn wsL_order (wsV RL 47 RX2 yX2_order wsX2_order) := goodIn_app (goodIn_of _ (by decide +kernel)) ggL_order_X2_order
theorem dL_order_0 : decode cL_order 0 = .ok (.aload_n 3, 1) := by decide +kernel
theorem dL_order_1 : decode cL_order 1 = .ok (.iconst 0, 1) := by decide +kernel
theorem dL_order_2 : decode cL_order 2 = .ok (.aload_n 0, 1) := by decide +kernel
theorem dL_order_3 : decode cL_order 3 = .ok (.iload_n 1, 1) := by decide +kernel
theorem dL_order_4 : decode cL_order 4 = .ok (.iload_n 2, 1) := by decide +kernel
theorem dL_order_5 : decode cL_order 5 = .ok (.invokevirtual 47, 3) := by decide +kernel
theorem dL_order_8 : decode cL_order 8 = .ok (.i2l, 1) := by decide +kernel
theorem dL_order_9 : decode cL_order 9 = .ok (.lastore, 1) := by decide +kernel
theorem dL_order_10 : decode cL_order 10 = .ok (.goto 7, 3) := by decide +kernel
theorem dL_order_13 : decode cL_order 13 = .ok (.astore 4, 2) := by decide +kernel
theorem dL_order_15 : decode cL_order 15 = .ok (.iconst 1, 1) := by decide +kernel
theorem dL_order_16 : decode cL_order 16 = .ok (.ireturn, 1) := by decide +kernel
theorem dL_order_17 : decode cL_order 17 = .ok (.iconst 0, 1) := by decide +kernel
theorem dL_order_18 : decode cL_order 18 = .ok (.ireturn, 1) := by decide +kernel
set_option maxRecDepth 20000 in
theorem ggL_back_X2_back : GoodIn wsL_back wsX2_back := goodIn_ca (goodIn_r _ [6, 7, 8, 9, 5, 10, 11, 12, 13, 14, 15, 16, 17, 18, 19, 20, 21, 22, 23, 24, 25, 26, 27, 28, 29, 30, 31, 32, 33, 34, 35, 36, 37, 38, 39, 40, 41, 42, 43, 44, 45, 46, 47, 48, 49, 50, 51, 52, 53, 54, 55, 56, 57, 58, 59, 60, 61, 62, 63, 64, 65] (by decide +kernel) (by decide +kernel)) (goodIn_sub (fun _ h => List.mem_cons_of_mem _ (List.mem_append_right _ h)) (by decide +kernel))
set_option maxRecDepth 20000 in
theorem gL_back_X2_back : GoodIn wsL_back (wsV RL 51 RX2 yX2_back wsX2_back) := goodIn_app (goodIn_of _ (by decide +kernel)) ggL_back_X2_back
theorem dL_back_0 : decode cL_back 0 = .ok (.aload_n 0, 1) := by decide +kernel
theorem dL_back_1 : decode cL_back 1 = .ok (.iload_n 1, 1) := by decide +kernel
theorem dL_back_2 : decode cL_back 2 = .ok (.invokevirtual 51, 3) := by decide +kernel
theorem dL_back_5 : decode cL_back 5 = .ok (.goto 6, 3) := by decide +kernel
theorem dL_back_8 : decode cL_back 8 = .ok (.astore_n 2, 1) := by decide +kernel
theorem dL_back_9 : decode cL_back 9 = .ok (.iconst 1, 1) := by decide +kernel
theorem dL_back_10 : decode cL_back 10 = .ok (.ireturn, 1) := by decide +kernel
theorem dL_back_11 : decode cL_back 11 = .ok (.iconst 0, 1) := by decide +kernel
theorem dL_back_12 : decode cL_back 12 = .ok (.ireturn, 1) := by decide +kernel
set_option maxRecDepth 20000 in
theorem ggL_tally_X2_tally : GoodIn wsL_tally wsX2_tally := goodIn_ca (goodIn_r _ [6, 7, 8, 9, 10, 11, 12, 5, 13, 14, 15, 16, 17, 18, 19, 20, 21, 22, 23, 24, 25, 26, 27, 28] (by decide +kernel) (by decide +kernel)) (goodIn_sub (fun _ h => List.mem_cons_of_mem _ (List.mem_append_right _ h)) (by decide +kernel))
set_option maxRecDepth 20000 in
theorem gL_tally_X2_tally : GoodIn wsL_tally (wsV RL 55 RX2 yX2_tally wsX2_tally) := goodIn_app (goodIn_of _ (by decide +kernel)) ggL_tally_X2_tally
theorem dL_tally_0 : decode cL_tally 0 = .ok (.aload 5, 2) := by decide +kernel
theorem dL_tally_2 : decode cL_tally 2 = .ok (.iconst 0, 1) := by decide +kernel
theorem dL_tally_3 : decode cL_tally 3 = .ok (.aload_n 0, 1) := by decide +kernel
theorem dL_tally_4 : decode cL_tally 4 = .ok (.iload_n 1, 1) := by decide +kernel
theorem dL_tally_5 : decode cL_tally 5 = .ok (.iload_n 2, 1) := by decide +kernel
theorem dL_tally_6 : decode cL_tally 6 = .ok (.lload_n 3, 1) := by decide +kernel
theorem dL_tally_7 : decode cL_tally 7 = .ok (.invokevirtual 55, 3) := by decide +kernel
theorem dL_tally_10 : decode cL_tally 10 = .ok (.lastore, 1) := by decide +kernel
theorem dL_tally_11 : decode cL_tally 11 = .ok (.goto 7, 3) := by decide +kernel
theorem dL_tally_14 : decode cL_tally 14 = .ok (.astore 6, 2) := by decide +kernel
theorem dL_tally_16 : decode cL_tally 16 = .ok (.iconst 1, 1) := by decide +kernel
theorem dL_tally_17 : decode cL_tally 17 = .ok (.ireturn, 1) := by decide +kernel
theorem dL_tally_18 : decode cL_tally 18 = .ok (.iconst 0, 1) := by decide +kernel
theorem dL_tally_19 : decode cL_tally 19 = .ok (.ireturn, 1) := by decide +kernel
set_option maxRecDepth 20000 in
theorem ggL_law_X2_init : GoodIn wsL_law wsX2_init := goodIn_r _ [10, 11, 12, 13, 14, 15, 490, 491, 492, 493, 494] (by decide +kernel) (by decide +kernel)
set_option maxRecDepth 20000 in
theorem gL_law_X2_init : GoodIn wsL_law (wsX2_init) := ggL_law_X2_init
set_option maxRecDepth 20000 in
theorem ggL_law_X3_init : GoodIn wsL_law wsX3_init := goodIn_r _ [18, 19, 12, 13, 20, 21, 6, 22, 495, 496, 497, 498, 499, 500, 501] (by decide +kernel) (by decide +kernel)
set_option maxRecDepth 20000 in
theorem gL_law_X3_init : GoodIn wsL_law (wsX3_init) := ggL_law_X3_init
set_option maxRecDepth 20000 in
theorem ggL_law_L_needle : GoodIn wsL_law wsL_needle := goodIn_ca (goodIn_ca (goodIn_r _ [26, 27, 28, 29, 30, 31, 2, 32, 33, 34, 35, 36, 37, 38, 39, 15, 14, 40, 41, 42, 43, 44, 45, 46, 47, 48, 49, 50, 51, 52, 53, 54, 55, 56, 57, 58, 59, 60, 61, 62, 63, 64, 65, 66, 67, 68, 69, 70, 71, 72, 73, 12, 13, 74, 75, 76, 77, 78, 79, 80, 81, 82, 83, 84, 85, 86, 87, 88, 89, 90, 91, 92, 93, 94, 95, 96, 97, 98, 99, 100, 490, 491, 492, 493, 494, 502, 503, 504, 505, 506, 507, 508, 509] (by decide +kernel) (by decide +kernel)) (goodIn_sub (fun _ h => List.mem_append_left _ (List.mem_append_left _ (List.mem_append_right _ h))) (by decide +kernel))) (goodIn_sub (fun _ h => List.mem_append_left _ (List.mem_append_right _ h)) (by decide +kernel))
set_option maxRecDepth 20000 in
theorem gL_law_L_needle : GoodIn wsL_law (va_wsS RL 65 yL_needle wsL_needle) := goodIn_app (goodIn_of _ (by decide +kernel)) ggL_law_L_needle
set_option maxRecDepth 20000 in
theorem ggL_law_X3_needle : GoodIn wsL_law wsX3_needle := goodIn_r _ [104, 105, 106, 21, 107, 108, 109, 110, 5, 111, 112, 113, 114, 115, 116, 117, 118, 119, 120, 121, 122, 123, 124, 125, 126, 127, 22, 128, 129, 130, 131, 132, 133, 134, 135, 136, 137, 138, 139, 495, 496, 497, 498, 499, 500, 501] (by decide +kernel) (by decide +kernel)
set_option maxRecDepth 20000 in
theorem gL_law_X3_needle : GoodIn wsL_law (wsV RL 70 RX3 yX3_needle wsX3_needle) := goodIn_app (goodIn_of _ (by decide +kernel)) ggL_law_X3_needle
set_option maxRecDepth 20000 in
theorem ggL_law_X3_thrown : GoodIn wsL_law wsX3_thrown := goodIn_r _ [143, 106, 495, 496, 497, 498, 499, 500, 501] (by decide +kernel) (by decide +kernel)
set_option maxRecDepth 20000 in
theorem gL_law_X3_thrown : GoodIn wsL_law (wsV RL 71 RX3 yX3_thrown wsX3_thrown) := goodIn_app (goodIn_of _ (by decide +kernel)) ggL_law_X3_thrown
set_option maxRecDepth 20000 in
theorem ggL_law_L_put : GoodIn wsL_law wsL_put := goodIn_ca (goodIn_ca (goodIn_r _ [146, 147, 27, 148, 149, 150, 2, 151, 152, 153, 154, 155, 156, 157, 158, 159, 160, 15, 42, 43, 44, 33, 34, 45, 46, 47, 48, 49, 50, 51, 52, 53, 54, 55, 56, 57, 58, 59, 60, 61, 161, 162, 163, 41, 164, 83, 74, 84, 85, 86, 165, 166, 167, 168, 87, 88, 89, 90, 75, 76, 91, 92, 93, 94, 95, 63, 64, 65, 66, 67, 68, 69, 96, 97, 98, 99, 100, 502, 503, 504, 505, 506, 507, 508, 509, 490, 491, 492, 493, 494] (by decide +kernel) (by decide +kernel)) (goodIn_sub (fun _ h => List.mem_append_right _ h) (by decide +kernel))) (goodIn_sub (fun _ h => List.mem_append_left _ (List.mem_append_left _ (List.mem_append_right _ h))) (by decide +kernel))
set_option maxRecDepth 20000 in
theorem gL_law_L_put : GoodIn wsL_law (va_wsS RL 75 yL_put wsL_put) := goodIn_app (goodIn_of _ (by decide +kernel)) ggL_law_L_put
set_option maxRecDepth 20000 in
theorem ggL_law_X3_put : GoodIn wsL_law wsX3_put := goodIn_r _ [172, 21, 173, 174, 175, 5, 176, 106, 177, 178, 179, 180, 105, 112, 113, 114, 107, 108, 115, 116, 117, 118, 119, 109, 110, 111, 181, 182, 183, 184, 185, 132, 133, 134, 135, 120, 121, 122, 123, 136, 137, 138, 139, 22, 124, 125, 126, 127, 495, 496, 497, 498, 499, 500, 501] (by decide +kernel) (by decide +kernel)
set_option maxRecDepth 20000 in
theorem gL_law_X3_put : GoodIn wsL_law (wsV RL 78 RX3 yX3_put wsX3_put) := goodIn_app (goodIn_of _ (by decide +kernel)) ggL_law_X3_put
set_option maxRecDepth 20000 in
theorem ggL_law_L_turn : GoodIn wsL_law wsL_turn := goodIn_ca (goodIn_ca (goodIn_ca (goodIn_r _ [188, 147, 27, 28, 189, 190, 191, 2, 192, 35, 36, 152, 154, 153, 155, 156, 157, 158, 159, 160, 15, 42, 43, 44, 33, 34, 45, 46, 47, 48, 49, 50, 51, 52, 53, 54, 55, 56, 57, 58, 59, 60, 61, 193, 194, 195, 196, 197, 198, 199, 200, 201, 202, 203, 204, 205, 206, 207, 208, 209, 210, 211, 212, 213, 214, 215, 167, 216, 217, 218, 219, 220, 221, 222, 223, 224, 225, 226, 227, 228, 229, 230, 231, 232, 233, 234, 235, 236, 237, 238, 239, 240, 241, 161, 162, 163, 41, 164, 83, 74, 84, 85, 86, 165, 166, 168, 87, 88, 89, 90, 75, 76, 91, 92, 93, 94, 95, 63, 64, 65, 66, 67, 68, 69, 96, 97, 98, 99, 100, 502, 503, 504, 505, 506, 507, 508, 509, 490, 491, 492, 493, 494] (by decide +kernel) (by decide +kernel)) (goodIn_sub (fun _ h => List.mem_append_left _ (List.mem_append_right _ h)) (by decide +kernel))) (goodIn_sub (fun _ h => List.mem_append_right _ h) (by decide +kernel))) (goodIn_sub (fun _ h => List.mem_append_left _ (List.mem_append_left _ (List.mem_append_right _ h))) (by decide +kernel))
set_option maxRecDepth 20000 in
theorem gL_law_L_turn : GoodIn wsL_law (va_wsS RL 79 yL_turn wsL_turn) := goodIn_app (goodIn_of _ (by decide +kernel)) ggL_law_L_turn
set_option maxRecDepth 20000 in
theorem ggL_law_X3_turn : GoodIn wsL_law wsX3_turn := goodIn_r _ [245, 21, 106, 173, 174, 175, 5, 176, 177, 178, 179, 180, 105, 112, 113, 114, 107, 108, 115, 116, 117, 118, 119, 109, 110, 111, 136, 137, 138, 139, 22, 246, 247, 248, 249, 250, 251, 252, 253, 254, 255, 256, 257, 258, 259, 260, 261, 262, 263, 264, 265, 266, 267, 268, 269, 270, 271, 272, 273, 274, 275, 276, 277, 278, 279, 280, 281, 181, 182, 183, 184, 185, 132, 133, 134, 135, 120, 121, 122, 123, 124, 125, 126, 127, 495, 496, 497, 498, 499, 500, 501] (by decide +kernel) (by decide +kernel)
set_option maxRecDepth 20000 in
theorem gL_law_X3_turn : GoodIn wsL_law (wsV RL 81 RX3 yX3_turn wsX3_turn) := goodIn_app (goodIn_of _ (by decide +kernel)) ggL_law_X3_turn
set_option maxRecDepth 20000 in
theorem ggL_law_L_damp : GoodIn wsL_law wsL_damp := goodIn_ca (goodIn_ca (goodIn_r _ [284, 147, 27, 285, 286, 287, 2, 288, 152, 289, 155, 156, 157, 158, 159, 160, 15, 42, 43, 44, 33, 34, 45, 46, 47, 48, 49, 50, 51, 52, 53, 54, 55, 56, 57, 58, 59, 60, 61, 290, 502, 503, 504, 505, 506, 507, 508, 509, 490, 491, 492, 493, 494] (by decide +kernel) (by decide +kernel)) (goodIn_sub (fun _ h => List.mem_append_right _ h) (by decide +kernel))) (goodIn_sub (fun _ h => List.mem_append_left _ (List.mem_append_left _ (List.mem_append_right _ h))) (by decide +kernel))
set_option maxRecDepth 20000 in
theorem gL_law_L_damp : GoodIn wsL_law (va_wsS RL 82 yL_damp wsL_damp) := goodIn_app (goodIn_of _ (by decide +kernel)) ggL_law_L_damp
set_option maxRecDepth 20000 in
theorem ggL_law_X3_damp : GoodIn wsL_law wsX3_damp := goodIn_r _ [294, 21, 173, 174, 175, 5, 176, 106, 177, 178, 179, 180, 105, 112, 113, 114, 107, 108, 115, 116, 117, 118, 119, 124, 125, 126, 127, 22, 136, 137, 138, 139, 495, 496, 497, 498, 499, 500, 501] (by decide +kernel) (by decide +kernel)
set_option maxRecDepth 20000 in
theorem gL_law_X3_damp : GoodIn wsL_law (wsV RL 84 RX3 yX3_damp wsX3_damp) := goodIn_app (goodIn_of _ (by decide +kernel)) ggL_law_X3_damp
set_option maxRecDepth 20000 in
theorem ggL_law_L_pull : GoodIn wsL_law wsL_pull := goodIn_ca (goodIn_ca (goodIn_r _ [297, 147, 27, 298, 299, 300, 2, 301, 152, 153, 154, 155, 156, 157, 158, 159, 160, 15, 42, 43, 44, 33, 34, 45, 46, 47, 48, 49, 50, 51, 52, 53, 54, 55, 56, 57, 58, 59, 60, 61, 302, 303, 304, 41, 305, 74, 83, 78, 306, 307, 308, 309, 310, 198, 199, 200, 311, 202, 203, 204, 205, 206, 207, 208, 209, 210, 211, 212, 213, 214, 215, 167, 216, 217, 218, 219, 220, 221, 222, 223, 224, 225, 226, 227, 228, 229, 230, 231, 232, 233, 234, 235, 236, 237, 238, 239, 240, 241, 100, 312, 161, 162, 163, 164, 84, 85, 86, 165, 166, 168, 87, 88, 89, 90, 75, 76, 91, 92, 93, 94, 95, 63, 64, 65, 66, 67, 68, 69, 96, 97, 98, 99, 313, 502, 503, 504, 505, 506, 507, 508, 509, 490, 491, 492, 493, 494] (by decide +kernel) (by decide +kernel)) (goodIn_sub (fun _ h => List.mem_append_right _ h) (by decide +kernel))) (goodIn_sub (fun _ h => List.mem_append_left _ (List.mem_append_left _ (List.mem_append_right _ h))) (by decide +kernel))
set_option maxRecDepth 20000 in
theorem gL_law_L_pull : GoodIn wsL_law (va_wsS RL 85 yL_pull wsL_pull) := goodIn_app (goodIn_of _ (by decide +kernel)) ggL_law_L_pull
set_option maxRecDepth 20000 in
theorem ggL_law_X3_pull : GoodIn wsL_law wsX3_pull := goodIn_r _ [317, 21, 173, 174, 175, 5, 176, 106, 177, 178, 179, 180, 105, 112, 113, 114, 107, 108, 115, 116, 117, 118, 119, 109, 110, 111, 136, 137, 138, 139, 22, 318, 319, 320, 321, 322, 323, 324, 325, 326, 327, 328, 329, 330, 331, 249, 250, 251, 252, 253, 254, 255, 256, 257, 258, 259, 260, 261, 262, 263, 264, 265, 266, 267, 268, 269, 270, 271, 272, 273, 274, 275, 276, 277, 278, 279, 280, 281, 181, 182, 183, 184, 185, 132, 133, 134, 135, 120, 121, 122, 123, 124, 125, 126, 127, 495, 496, 497, 498, 499, 500, 501] (by decide +kernel) (by decide +kernel)
set_option maxRecDepth 20000 in
theorem gL_law_X3_pull : GoodIn wsL_law (wsV RL 87 RX3 yX3_pull wsX3_pull) := goodIn_app (goodIn_of _ (by decide +kernel)) ggL_law_X3_pull
set_option maxRecDepth 20000 in
theorem ggL_law_L_rest : GoodIn wsL_law wsL_rest := goodIn_ca (goodIn_ca (goodIn_r _ [334, 147, 27, 335, 336, 337, 2, 338, 33, 34, 152, 154, 153, 155, 156, 157, 158, 159, 160, 15, 339, 340, 341, 48, 342, 229, 213, 56, 57, 58, 59, 60, 61, 209, 210, 211, 212, 214, 215, 167, 216, 343, 344, 345, 346, 347, 221, 348, 349, 350, 351, 352, 353, 354, 217, 218, 219, 220, 235, 236, 237, 238, 239, 240, 241, 161, 162, 163, 41, 164, 83, 74, 84, 85, 86, 165, 166, 168, 87, 88, 89, 90, 75, 76, 91, 92, 93, 94, 95, 63, 64, 65, 66, 67, 68, 69, 96, 97, 98, 99, 100, 502, 503, 504, 505, 506, 507, 508, 509, 490, 491, 492, 493, 494] (by decide +kernel) (by decide +kernel)) (goodIn_sub (fun _ h => List.mem_append_left _ (List.mem_append_left _ (List.mem_append_right _ h))) (by decide +kernel))) (goodIn_sub (fun _ h => List.mem_append_right _ h) (by decide +kernel))
set_option maxRecDepth 20000 in
theorem gL_law_L_rest : GoodIn wsL_law (va_wsS RL 88 yL_rest wsL_rest) := goodIn_app (goodIn_of _ (by decide +kernel)) ggL_law_L_rest
set_option maxRecDepth 20000 in
theorem ggL_law_X3_rest : GoodIn wsL_law wsX3_rest := goodIn_r _ [358, 106, 21, 252, 253, 254, 255, 256, 257, 258, 259, 177, 178, 179, 5, 180, 105, 136, 137, 138, 139, 22, 115, 116, 117, 118, 119, 359, 360, 361, 362, 363, 260, 261, 262, 263, 264, 265, 266, 267, 268, 269, 270, 271, 272, 273, 274, 275, 276, 277, 278, 279, 280, 281, 327, 328, 329, 330, 331, 181, 182, 183, 184, 185, 132, 133, 134, 135, 120, 121, 122, 123, 124, 125, 126, 127, 495, 496, 497, 498, 499, 500, 501] (by decide +kernel) (by decide +kernel)
set_option maxRecDepth 20000 in
theorem gL_law_X3_rest : GoodIn wsL_law (wsV RL 91 RX3 yX3_rest wsX3_rest) := goodIn_app (goodIn_of _ (by decide +kernel)) ggL_law_X3_rest
set_option maxRecDepth 20000 in
theorem ggL_law_L_face : GoodIn wsL_law wsL_face := goodIn_ca (goodIn_r _ [366, 147, 367, 368, 369, 2, 370, 152, 154, 153, 155, 156, 157, 158, 159, 160, 15, 371, 239, 240, 48, 241, 60, 56, 57, 58, 59, 61, 161, 162, 163, 41, 164, 83, 74, 84, 85, 86, 165, 166, 167, 168, 87, 88, 89, 90, 75, 76, 91, 92, 93, 94, 95, 63, 64, 65, 66, 67, 68, 69, 96, 97, 98, 99, 100, 502, 503, 504, 505, 506, 507, 508, 509, 490, 491, 492, 493, 494] (by decide +kernel) (by decide +kernel)) (goodIn_sub (fun _ h => List.mem_append_right _ h) (by decide +kernel))
set_option maxRecDepth 20000 in
theorem gL_law_L_face : GoodIn wsL_law (va_wsS RL 92 yL_face wsL_face) := goodIn_app (goodIn_of _ (by decide +kernel)) ggL_law_L_face
set_option maxRecDepth 20000 in
theorem ggL_law_X3_face : GoodIn wsL_law wsX3_face := goodIn_r _ [375, 21, 177, 178, 179, 5, 180, 105, 106, 136, 137, 138, 139, 22, 115, 116, 117, 118, 119, 327, 328, 329, 330, 331, 181, 182, 183, 184, 185, 132, 133, 134, 135, 120, 121, 122, 123, 124, 125, 126, 127, 495, 496, 497, 498, 499, 500, 501] (by decide +kernel) (by decide +kernel)
set_option maxRecDepth 20000 in
theorem gL_law_X3_face : GoodIn wsL_law (wsV RL 94 RX3 yX3_face wsX3_face) := goodIn_app (goodIn_of _ (by decide +kernel)) ggL_law_X3_face
set_option maxRecDepth 20000 in
theorem ggL_law_L_read : GoodIn wsL_law wsL_read := goodIn_ca (goodIn_ca (goodIn_r _ [378, 147, 27, 379, 380, 381, 2, 382, 33, 34, 154, 383, 384, 385, 386, 387, 289, 152, 155, 156, 157, 158, 159, 160, 15, 290, 57, 58, 48, 59, 60, 61, 388, 389, 390, 391, 347, 56, 238, 239, 240, 241, 502, 503, 504, 505, 506, 507, 508, 509, 490, 491, 492, 493, 494] (by decide +kernel) (by decide +kernel)) (goodIn_sub (fun _ h => List.mem_append_left _ (List.mem_append_left _ (List.mem_append_right _ h))) (by decide +kernel))) (goodIn_sub (fun _ h => List.mem_append_right _ h) (by decide +kernel))
set_option maxRecDepth 20000 in
theorem gL_law_L_read : GoodIn wsL_law (va_wsS RL 95 yL_read wsL_read) := goodIn_app (goodIn_of _ (by decide +kernel)) ggL_law_L_read
set_option maxRecDepth 20000 in
theorem ggL_law_X3_read : GoodIn wsL_law wsX3_read := goodIn_r _ [395, 106, 21, 396, 397, 177, 178, 179, 5, 180, 105, 136, 137, 138, 139, 22, 115, 116, 117, 118, 119, 321, 322, 323, 327, 328, 329, 330, 331, 495, 496, 497, 498, 499, 500, 501] (by decide +kernel) (by decide +kernel)
set_option maxRecDepth 20000 in
theorem gL_law_X3_read : GoodIn wsL_law (wsV RL 97 RX3 yX3_read wsX3_read) := goodIn_app (goodIn_of _ (by decide +kernel)) ggL_law_X3_read
set_option maxRecDepth 20000 in
theorem ggL_law_L_between : GoodIn wsL_law wsL_between := goodIn_ca (goodIn_ca (goodIn_r _ [400, 147, 27, 401, 402, 403, 2, 404, 33, 34, 152, 154, 405, 406, 167, 407, 408, 166, 168, 155, 156, 157, 158, 159, 160, 15, 409, 97, 98, 48, 99, 95, 63, 64, 65, 66, 67, 68, 69, 60, 61, 410, 92, 93, 94, 290, 57, 58, 59, 502, 503, 504, 505, 506, 507, 508, 509, 490, 491, 492, 493, 494] (by decide +kernel) (by decide +kernel)) (goodIn_sub (fun _ h => List.mem_append_left _ (List.mem_append_left _ (List.mem_append_right _ h))) (by decide +kernel))) (goodIn_sub (fun _ h => List.mem_append_right _ h) (by decide +kernel))
set_option maxRecDepth 20000 in
theorem gL_law_L_between : GoodIn wsL_law (va_wsS RL 98 yL_between wsL_between) := goodIn_app (goodIn_of _ (by decide +kernel)) ggL_law_L_between
set_option maxRecDepth 20000 in
theorem ggL_law_X3_between : GoodIn wsL_law wsX3_between := goodIn_r _ [414, 21, 106, 177, 178, 179, 5, 180, 105, 136, 137, 138, 139, 22, 115, 116, 117, 118, 119, 120, 121, 122, 123, 495, 496, 497, 498, 499, 500, 501] (by decide +kernel) (by decide +kernel)
set_option maxRecDepth 20000 in
theorem gL_law_X3_between : GoodIn wsL_law (wsV RL 101 RX3 yX3_between wsX3_between) := goodIn_app (goodIn_of _ (by decide +kernel)) ggL_law_X3_between
set_option maxRecDepth 20000 in
theorem ggL_law_L_order : GoodIn wsL_law wsL_order := goodIn_ca (goodIn_r _ [417, 147, 418, 419, 420, 2, 421, 37, 155, 156, 157, 158, 159, 160, 15, 422, 423, 424, 41, 425, 74, 426, 83, 427, 428, 48, 429, 50, 55, 430, 213, 229, 56, 57, 58, 59, 60, 61, 209, 210, 211, 212, 214, 215, 167, 216, 217, 218, 219, 220, 221, 225, 226, 227, 228, 222, 223, 224, 230, 231, 232, 233, 234, 235, 236, 237, 238, 239, 240, 241, 62, 63, 64, 65, 66, 67, 68, 69, 490, 491, 492, 493, 494, 502, 503, 504, 505, 506, 507, 508, 509] (by decide +kernel) (by decide +kernel)) (goodIn_sub (fun _ h => List.mem_append_right _ h) (by decide +kernel))
set_option maxRecDepth 20000 in
theorem gL_law_L_order : GoodIn wsL_law (va_wsS RL 102 yL_order wsL_order) := goodIn_app (goodIn_of _ (by decide +kernel)) ggL_law_L_order
set_option maxRecDepth 20000 in
theorem ggL_law_X3_order : GoodIn wsL_law wsX3_order := goodIn_r _ [434, 21, 177, 178, 179, 5, 180, 105, 106, 136, 137, 138, 139, 22, 435, 436, 437, 256, 257, 258, 259, 260, 261, 262, 263, 264, 265, 266, 255, 267, 268, 269, 270, 120, 121, 122, 123, 115, 116, 117, 118, 119, 495, 496, 497, 498, 499, 500, 501] (by decide +kernel) (by decide +kernel)
set_option maxRecDepth 20000 in
theorem gL_law_X3_order : GoodIn wsL_law (wsV RL 104 RX3 yX3_order wsX3_order) := goodIn_app (goodIn_of _ (by decide +kernel)) ggL_law_X3_order
set_option maxRecDepth 20000 in
theorem ggL_law_L_back : GoodIn wsL_law wsL_back := goodIn_ca (goodIn_r _ [440, 147, 441, 442, 443, 2, 444, 155, 156, 157, 158, 159, 160, 15, 445, 80, 81, 41, 82, 83, 84, 85, 74, 86, 87, 88, 89, 90, 75, 76, 91, 92, 93, 48, 94, 95, 63, 64, 65, 66, 67, 68, 69, 60, 61, 96, 97, 98, 99, 100, 57, 58, 59, 490, 491, 492, 493, 494, 502, 503, 504, 505, 506, 507, 508, 509] (by decide +kernel) (by decide +kernel)) (goodIn_sub (fun _ h => List.mem_append_right _ h) (by decide +kernel))
set_option maxRecDepth 20000 in
theorem gL_law_L_back : GoodIn wsL_law (va_wsS RL 105 yL_back wsL_back) := goodIn_app (goodIn_of _ (by decide +kernel)) ggL_law_L_back
set_option maxRecDepth 20000 in
theorem ggL_law_X3_back : GoodIn wsL_law wsX3_back := goodIn_r _ [449, 177, 178, 179, 5, 180, 105, 106, 128, 129, 130, 131, 21, 132, 133, 134, 135, 120, 121, 122, 123, 115, 116, 117, 118, 119, 136, 137, 138, 139, 22, 124, 125, 126, 127, 495, 496, 497, 498, 499, 500, 501] (by decide +kernel) (by decide +kernel)
set_option maxRecDepth 20000 in
theorem gL_law_X3_back : GoodIn wsL_law (wsV RL 108 RX3 yX3_back wsX3_back) := goodIn_app (goodIn_of _ (by decide +kernel)) ggL_law_X3_back
set_option maxRecDepth 20000 in
theorem ggL_law_L_tally : GoodIn wsL_law wsL_tally := goodIn_ca (goodIn_r _ [452, 27, 453, 454, 455, 2, 456, 33, 34, 457, 458, 459, 460, 461, 408, 166, 167, 168, 405, 406, 407, 462, 463, 464, 490, 491, 492, 493, 494] (by decide +kernel) (by decide +kernel)) (goodIn_sub (fun _ h => List.mem_append_left _ (List.mem_append_left _ (List.mem_append_right _ h))) (by decide +kernel))
set_option maxRecDepth 20000 in
theorem gL_law_L_tally : GoodIn wsL_law (va_wsS RL 109 yL_tally wsL_tally) := goodIn_app (goodIn_of _ (by decide +kernel)) ggL_law_L_tally
set_option maxRecDepth 20000 in
theorem ggL_law_X3_tally : GoodIn wsL_law wsX3_tally := goodIn_r _ [468, 106, 469, 470, 471, 472, 5, 473, 495, 496, 497, 498, 499, 500, 501] (by decide +kernel) (by decide +kernel)
