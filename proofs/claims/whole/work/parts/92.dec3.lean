set_option maxRecDepth 400000 in
theorem ggX6_isKnown_X6_isWindow : GoodIn wsX6_isKnown wsX6_isWindow := goodIn_r _ [4] rfl (by decide +kernel)
set_option maxRecDepth 20000 in
theorem gX6_isKnown_X6_isWindow : GoodIn wsX6_isKnown (va_wsS RX6 154 yX6_isWindow wsX6_isWindow) := goodIn_app (goodIn_of _ (by decide +kernel)) ggX6_isKnown_X6_isWindow
set_option maxRecDepth 400000 in
theorem ggX6_isKnown_X6_can : GoodIn wsX6_isKnown wsX6_can := goodIn_r _ [8, 9, 37, 38, 39, 40, 41, 42, 43, 44, 45, 46, 47, 48, 49, 50, 51, 52, 53] rfl (by decide +kernel)
set_option maxRecDepth 20000 in
theorem gX6_isKnown_X6_can : GoodIn wsX6_isKnown (wsV RX6 75 RX6 yX6_can wsX6_can) := goodIn_app (goodIn_of _ (by decide +kernel)) ggX6_isKnown_X6_can
set_option maxRecDepth 400000 in
theorem ggX6_isKnown_X6_knows : GoodIn wsX6_isKnown wsX6_knows := goodIn_r _ [13, 14, 15, 16, 17, 3, 18, 19, 20, 21, 22, 23, 24, 25, 26, 27, 28, 29, 30, 31, 32, 33, 34, 35, 36, 37, 38, 39, 40, 41, 42, 43, 44, 45, 46, 47, 48, 49, 50, 51, 52, 53] rfl (by decide +kernel)
set_option maxRecDepth 20000 in
theorem gX6_isKnown_X6_knows : GoodIn wsX6_isKnown (wsV RX6 163 RX6 yX6_knows wsX6_knows) := goodIn_app (goodIn_of _ (by decide +kernel)) ggX6_isKnown_X6_knows
theorem dX6_isKnown_0 : decode cX6_isKnown 0 = .ok (.aload_n 0, 1) := by decide +kernel
theorem dX6_isKnown_1 : decode cX6_isKnown 1 = .ok (.iload_n 1, 1) := by decide +kernel
theorem dX6_isKnown_2 : decode cX6_isKnown 2 = .ok (.iload_n 2, 1) := by decide +kernel
theorem dX6_isKnown_3 : decode cX6_isKnown 3 = .ok (.bipush 60, 2) := by decide +kernel
theorem dX6_isKnown_5 : decode cX6_isKnown 5 = .ok (.invokestatic 154, 3) := by decide +kernel
theorem dX6_isKnown_8 : decode cX6_isKnown 8 = .ok (.ifCond .eq 7, 3) := by decide +kernel
theorem dX6_isKnown_11 : decode cX6_isKnown 11 = .ok (.iconst 0, 1) := by decide +kernel
theorem dX6_isKnown_12 : decode cX6_isKnown 12 = .ok (.goto 4, 3) := by decide +kernel
theorem dX6_isKnown_15 : decode cX6_isKnown 15 = .ok (.iconst 1, 1) := by decide +kernel
theorem dX6_isKnown_16 : decode cX6_isKnown 16 = .ok (.invokevirtual 75, 3) := by decide +kernel
theorem dX6_isKnown_19 : decode cX6_isKnown 19 = .ok (.ifCond .eq 16, 3) := by decide +kernel
theorem dX6_isKnown_22 : decode cX6_isKnown 22 = .ok (.aload_n 0, 1) := by decide +kernel
theorem dX6_isKnown_23 : decode cX6_isKnown 23 = .ok (.iload_n 1, 1) := by decide +kernel
theorem dX6_isKnown_24 : decode cX6_isKnown 24 = .ok (.iload_n 2, 1) := by decide +kernel
theorem dX6_isKnown_25 : decode cX6_isKnown 25 = .ok (.invokevirtual 163, 3) := by decide +kernel
theorem dX6_isKnown_28 : decode cX6_isKnown 28 = .ok (.ifCond .eq 7, 3) := by decide +kernel
theorem dX6_isKnown_31 : decode cX6_isKnown 31 = .ok (.iconst 1, 1) := by decide +kernel
theorem dX6_isKnown_32 : decode cX6_isKnown 32 = .ok (.goto 4, 3) := by decide +kernel
theorem dX6_isKnown_35 : decode cX6_isKnown 35 = .ok (.iconst 0, 1) := by decide +kernel
theorem dX6_isKnown_36 : decode cX6_isKnown 36 = .ok (.ireturn, 1) := by decide +kernel
theorem dX6_sumOf_0 : decode cX6_sumOf 0 = .ok (.lconst 0, 1) := by decide +kernel
theorem dX6_sumOf_1 : decode cX6_sumOf 1 = .ok (.lstore 4, 2) := by decide +kernel
theorem dX6_sumOf_3 : decode cX6_sumOf 3 = .ok (.iconst 0, 1) := by decide +kernel
theorem dX6_sumOf_4 : decode cX6_sumOf 4 = .ok (.istore 6, 2) := by decide +kernel
theorem dX6_sumOf_6 : decode cX6_sumOf 6 = .ok (.iload 6, 2) := by decide +kernel
theorem dX6_sumOf_8 : decode cX6_sumOf 8 = .ok (.aload_n 0, 1) := by decide +kernel
theorem dX6_sumOf_9 : decode cX6_sumOf 9 = .ok (.getfield 46, 3) := by decide +kernel
theorem dX6_sumOf_12 : decode cX6_sumOf 12 = .ok (.if_icmp .ge 59, 3) := by decide +kernel
theorem dX6_sumOf_15 : decode cX6_sumOf 15 = .ok (.lload 4, 2) := by decide +kernel
theorem dX6_sumOf_17 : decode cX6_sumOf 17 = .ok (.aload_n 0, 1) := by decide +kernel
theorem dX6_sumOf_18 : decode cX6_sumOf 18 = .ok (.getfield 19, 3) := by decide +kernel
theorem dX6_sumOf_21 : decode cX6_sumOf 21 = .ok (.iload 6, 2) := by decide +kernel
theorem dX6_sumOf_23 : decode cX6_sumOf 23 = .ok (.iaload, 1) := by decide +kernel
theorem dX6_sumOf_24 : decode cX6_sumOf 24 = .ok (.iload_n 1, 1) := by decide +kernel
theorem dX6_sumOf_25 : decode cX6_sumOf 25 = .ok (.if_icmp .ne 36, 3) := by decide +kernel
theorem dX6_sumOf_28 : decode cX6_sumOf 28 = .ok (.aload_n 0, 1) := by decide +kernel
theorem dX6_sumOf_29 : decode cX6_sumOf 29 = .ok (.getfield 22, 3) := by decide +kernel
theorem dX6_sumOf_32 : decode cX6_sumOf 32 = .ok (.iload 6, 2) := by decide +kernel
theorem dX6_sumOf_34 : decode cX6_sumOf 34 = .ok (.iaload, 1) := by decide +kernel
theorem dX6_sumOf_35 : decode cX6_sumOf 35 = .ok (.iload_n 2, 1) := by decide +kernel
theorem dX6_sumOf_36 : decode cX6_sumOf 36 = .ok (.if_icmp .lt 25, 3) := by decide +kernel
theorem dX6_sumOf_39 : decode cX6_sumOf 39 = .ok (.aload_n 0, 1) := by decide +kernel
theorem dX6_sumOf_40 : decode cX6_sumOf 40 = .ok (.getfield 22, 3) := by decide +kernel
theorem dX6_sumOf_43 : decode cX6_sumOf 43 = .ok (.iload 6, 2) := by decide +kernel
theorem dX6_sumOf_45 : decode cX6_sumOf 45 = .ok (.iaload, 1) := by decide +kernel
theorem dX6_sumOf_46 : decode cX6_sumOf 46 = .ok (.iload_n 3, 1) := by decide +kernel
theorem dX6_sumOf_47 : decode cX6_sumOf 47 = .ok (.if_icmp .ge 14, 3) := by decide +kernel
theorem dX6_sumOf_50 : decode cX6_sumOf 50 = .ok (.aload_n 0, 1) := by decide +kernel
theorem dX6_sumOf_51 : decode cX6_sumOf 51 = .ok (.getfield 25, 3) := by decide +kernel
theorem dX6_sumOf_54 : decode cX6_sumOf 54 = .ok (.iload 6, 2) := by decide +kernel
theorem dX6_sumOf_56 : decode cX6_sumOf 56 = .ok (.iaload, 1) := by decide +kernel
theorem dX6_sumOf_57 : decode cX6_sumOf 57 = .ok (.i2l, 1) := by decide +kernel
theorem dX6_sumOf_58 : decode cX6_sumOf 58 = .ok (.goto 4, 3) := by decide +kernel
theorem dX6_sumOf_61 : decode cX6_sumOf 61 = .ok (.lconst 0, 1) := by decide +kernel
theorem dX6_sumOf_62 : decode cX6_sumOf 62 = .ok (.ladd, 1) := by decide +kernel
theorem dX6_sumOf_63 : decode cX6_sumOf 63 = .ok (.lstore 4, 2) := by decide +kernel
theorem dX6_sumOf_65 : decode cX6_sumOf 65 = .ok (.iinc 6 1, 3) := by decide +kernel
theorem dX6_sumOf_68 : decode cX6_sumOf 68 = .ok (.goto (-62), 3) := by decide +kernel
theorem dX6_sumOf_71 : decode cX6_sumOf 71 = .ok (.lload 4, 2) := by decide +kernel
theorem dX6_sumOf_73 : decode cX6_sumOf 73 = .ok (.lreturn, 1) := by decide +kernel
set_option maxRecDepth 400000 in
theorem ggX6_total_X6_isSeries : GoodIn wsX6_total wsX6_isSeries := goodIn_r _ [5, 6, 50, 51, 52, 53, 54, 55, 56, 57, 58, 59, 60, 61, 62, 63, 64, 65, 66] rfl (by decide +kernel)
set_option maxRecDepth 20000 in
theorem gX6_total_X6_isSeries : GoodIn wsX6_total (wsV RX6 79 RX6 yX6_isSeries wsX6_isSeries) := goodIn_app (goodIn_of _ (by decide +kernel)) ggX6_total_X6_isSeries
set_option maxRecDepth 400000 in
theorem ggX6_total_X6_isWindow : GoodIn wsX6_total wsX6_isWindow := goodIn_r _ [9] rfl (by decide +kernel)
set_option maxRecDepth 20000 in
theorem gX6_total_X6_isWindow : GoodIn wsX6_total (va_wsS RX6 154 yX6_isWindow wsX6_isWindow) := goodIn_app (goodIn_of _ (by decide +kernel)) ggX6_total_X6_isWindow
set_option maxRecDepth 400000 in
theorem ggX6_total_X6_knows : GoodIn wsX6_total wsX6_knows := goodIn_r _ [13, 14, 15, 16, 17, 4, 18, 19, 20, 21, 22, 23, 24, 25, 26, 27, 28, 29, 30, 31, 32, 33, 34, 35, 36, 50, 51, 52, 53, 54, 55, 56, 57, 58, 59, 60, 61, 62, 63, 64, 65, 66] rfl (by decide +kernel)
set_option maxRecDepth 20000 in
theorem gX6_total_X6_knows : GoodIn wsX6_total (wsV RX6 163 RX6 yX6_knows wsX6_knows) := goodIn_app (goodIn_of _ (by decide +kernel)) ggX6_total_X6_knows
set_option maxRecDepth 400000 in
theorem ggX6_total_X6_can : GoodIn wsX6_total wsX6_can := goodIn_r _ [40, 41, 50, 51, 52, 53, 54, 55, 56, 57, 58, 59, 60, 61, 62, 63, 64, 65, 66] rfl (by decide +kernel)
set_option maxRecDepth 20000 in
theorem gX6_total_X6_can : GoodIn wsX6_total (wsV RX6 75 RX6 yX6_can wsX6_can) := goodIn_app (goodIn_of _ (by decide +kernel)) ggX6_total_X6_can
set_option maxRecDepth 400000 in
theorem ggX6_total_X6_sumOf : GoodIn wsX6_total wsX6_sumOf := goodIn_r _ [45, 46, 47, 48, 49, 50, 51, 52, 53, 54, 55, 56, 57, 58, 59, 60, 61, 62, 63, 64, 65, 66] rfl (by decide +kernel)
set_option maxRecDepth 20000 in
theorem gX6_total_X6_sumOf : GoodIn wsX6_total (wsV RX6 166 RX6 yX6_sumOf wsX6_sumOf) := goodIn_app (goodIn_of _ (by decide +kernel)) ggX6_total_X6_sumOf
theorem dX6_total_0 : decode cX6_total 0 = .ok (.aload_n 0, 1) := by decide +kernel
theorem dX6_total_1 : decode cX6_total 1 = .ok (.aload_n 0, 1) := by decide +kernel
theorem dX6_total_2 : decode cX6_total 2 = .ok (.iload_n 1, 1) := by decide +kernel
theorem dX6_total_3 : decode cX6_total 3 = .ok (.invokevirtual 79, 3) := by decide +kernel
theorem dX6_total_6 : decode cX6_total 6 = .ok (.ifCond .ne 7, 3) := by decide +kernel
theorem dX6_total_9 : decode cX6_total 9 = .ok (.iconst 1, 1) := by decide +kernel
theorem dX6_total_10 : decode cX6_total 10 = .ok (.goto 31, 3) := by decide +kernel
theorem dX6_total_13 : decode cX6_total 13 = .ok (.iload_n 2, 1) := by decide +kernel
theorem dX6_total_14 : decode cX6_total 14 = .ok (.iload_n 3, 1) := by decide +kernel
theorem dX6_total_15 : decode cX6_total 15 = .ok (.bipush 60, 2) := by decide +kernel
theorem dX6_total_17 : decode cX6_total 17 = .ok (.invokestatic 154, 3) := by decide +kernel
theorem dX6_total_20 : decode cX6_total 20 = .ok (.ifCond .ne 7, 3) := by decide +kernel
theorem dX6_total_23 : decode cX6_total 23 = .ok (.iconst 2, 1) := by decide +kernel
theorem dX6_total_24 : decode cX6_total 24 = .ok (.goto 17, 3) := by decide +kernel
theorem dX6_total_27 : decode cX6_total 27 = .ok (.aload_n 0, 1) := by decide +kernel
theorem dX6_total_28 : decode cX6_total 28 = .ok (.iload_n 2, 1) := by decide +kernel
theorem dX6_total_29 : decode cX6_total 29 = .ok (.iload_n 3, 1) := by decide +kernel
theorem dX6_total_30 : decode cX6_total 30 = .ok (.invokevirtual 163, 3) := by decide +kernel
theorem dX6_total_33 : decode cX6_total 33 = .ok (.ifCond .eq 7, 3) := by decide +kernel
theorem dX6_total_36 : decode cX6_total 36 = .ok (.iconst 0, 1) := by decide +kernel
theorem dX6_total_37 : decode cX6_total 37 = .ok (.goto 4, 3) := by decide +kernel
theorem dX6_total_40 : decode cX6_total 40 = .ok (.iconst 3, 1) := by decide +kernel
theorem dX6_total_41 : decode cX6_total 41 = .ok (.invokevirtual 75, 3) := by decide +kernel
theorem dX6_total_44 : decode cX6_total 44 = .ok (.ifCond .eq 13, 3) := by decide +kernel
theorem dX6_total_47 : decode cX6_total 47 = .ok (.aload_n 0, 1) := by decide +kernel
theorem dX6_total_48 : decode cX6_total 48 = .ok (.iload_n 1, 1) := by decide +kernel
theorem dX6_total_49 : decode cX6_total 49 = .ok (.iload_n 2, 1) := by decide +kernel
theorem dX6_total_50 : decode cX6_total 50 = .ok (.iload_n 3, 1) := by decide +kernel
theorem dX6_total_51 : decode cX6_total 51 = .ok (.invokevirtual 166, 3) := by decide +kernel
theorem dX6_total_54 : decode cX6_total 54 = .ok (.goto 4, 3) := by decide +kernel
theorem dX6_total_57 : decode cX6_total 57 = .ok (.lconst 0, 1) := by decide +kernel
theorem dX6_total_58 : decode cX6_total 58 = .ok (.lreturn, 1) := by decide +kernel
set_option maxRecDepth 400000 in
theorem ggX6_totalByPoints_X6_isSeries : GoodIn wsX6_totalByPoints wsX6_isSeries := goodIn_r _ [6, 7, 24, 25, 26, 27, 28, 29, 30, 31, 32, 33, 34, 35, 36, 37, 38, 39, 40] rfl (by decide +kernel)
set_option maxRecDepth 20000 in
theorem gX6_totalByPoints_X6_isSeries : GoodIn wsX6_totalByPoints (wsV RX6 79 RX6 yX6_isSeries wsX6_isSeries) := goodIn_app (goodIn_of _ (by decide +kernel)) ggX6_totalByPoints_X6_isSeries
set_option maxRecDepth 400000 in
theorem ggX6_totalByPoints_X6_isWindow : GoodIn wsX6_totalByPoints wsX6_isWindow := goodIn_r _ [10] rfl (by decide +kernel)
set_option maxRecDepth 20000 in
theorem gX6_totalByPoints_X6_isWindow : GoodIn wsX6_totalByPoints (va_wsS RX6 154 yX6_isWindow wsX6_isWindow) := goodIn_app (goodIn_of _ (by decide +kernel)) ggX6_totalByPoints_X6_isWindow
set_option maxRecDepth 400000 in
theorem ggX6_totalByPoints_X6_can : GoodIn wsX6_totalByPoints wsX6_can := goodIn_r _ [14, 15, 24, 25, 26, 27, 28, 29, 30, 31, 32, 33, 34, 35, 36, 37, 38, 39, 40] rfl (by decide +kernel)
set_option maxRecDepth 20000 in
theorem gX6_totalByPoints_X6_can : GoodIn wsX6_totalByPoints (wsV RX6 75 RX6 yX6_can wsX6_can) := goodIn_app (goodIn_of _ (by decide +kernel)) ggX6_totalByPoints_X6_can
set_option maxRecDepth 400000 in
theorem ggX6_totalByPoints_X6_sumOf : GoodIn wsX6_totalByPoints wsX6_sumOf := goodIn_r _ [19, 20, 21, 22, 23, 24, 25, 26, 27, 28, 29, 30, 31, 32, 33, 34, 35, 36, 37, 38, 39, 40] rfl (by decide +kernel)
set_option maxRecDepth 20000 in
theorem gX6_totalByPoints_X6_sumOf : GoodIn wsX6_totalByPoints (wsV RX6 166 RX6 yX6_sumOf wsX6_sumOf) := goodIn_app (goodIn_of _ (by decide +kernel)) ggX6_totalByPoints_X6_sumOf
theorem dX6_totalByPoints_0 : decode cX6_totalByPoints 0 = .ok (.aload_n 0, 1) := by decide +kernel
theorem dX6_totalByPoints_1 : decode cX6_totalByPoints 1 = .ok (.aload_n 0, 1) := by decide +kernel
theorem dX6_totalByPoints_2 : decode cX6_totalByPoints 2 = .ok (.iload_n 1, 1) := by decide +kernel
theorem dX6_totalByPoints_3 : decode cX6_totalByPoints 3 = .ok (.invokevirtual 79, 3) := by decide +kernel
theorem dX6_totalByPoints_6 : decode cX6_totalByPoints 6 = .ok (.ifCond .ne 7, 3) := by decide +kernel
theorem dX6_totalByPoints_9 : decode cX6_totalByPoints 9 = .ok (.iconst 1, 1) := by decide +kernel
theorem dX6_totalByPoints_10 : decode cX6_totalByPoints 10 = .ok (.goto 32, 3) := by decide +kernel
theorem dX6_totalByPoints_13 : decode cX6_totalByPoints 13 = .ok (.iload_n 2, 1) := by decide +kernel
theorem dX6_totalByPoints_14 : decode cX6_totalByPoints 14 = .ok (.iload_n 3, 1) := by decide +kernel
theorem dX6_totalByPoints_15 : decode cX6_totalByPoints 15 = .ok (.bipush 60, 2) := by decide +kernel
theorem dX6_totalByPoints_17 : decode cX6_totalByPoints 17 = .ok (.invokestatic 154, 3) := by decide +kernel
theorem dX6_totalByPoints_20 : decode cX6_totalByPoints 20 = .ok (.ifCond .ne 7, 3) := by decide +kernel
theorem dX6_totalByPoints_23 : decode cX6_totalByPoints 23 = .ok (.iconst 2, 1) := by decide +kernel
theorem dX6_totalByPoints_24 : decode cX6_totalByPoints 24 = .ok (.goto 18, 3) := by decide +kernel
theorem dX6_totalByPoints_27 : decode cX6_totalByPoints 27 = .ok (.iload_n 2, 1) := by decide +kernel
theorem dX6_totalByPoints_28 : decode cX6_totalByPoints 28 = .ok (.aload_n 0, 1) := by decide +kernel
theorem dX6_totalByPoints_29 : decode cX6_totalByPoints 29 = .ok (.getfield 16, 3) := by decide +kernel
theorem dX6_totalByPoints_32 : decode cX6_totalByPoints 32 = .ok (.iconst 0, 1) := by decide +kernel
theorem dX6_totalByPoints_33 : decode cX6_totalByPoints 33 = .ok (.iaload, 1) := by decide +kernel
theorem dX6_totalByPoints_34 : decode cX6_totalByPoints 34 = .ok (.if_icmp .ge 7, 3) := by decide +kernel
theorem dX6_totalByPoints_37 : decode cX6_totalByPoints 37 = .ok (.iconst 3, 1) := by decide +kernel
theorem dX6_totalByPoints_38 : decode cX6_totalByPoints 38 = .ok (.goto 4, 3) := by decide +kernel
theorem dX6_totalByPoints_41 : decode cX6_totalByPoints 41 = .ok (.iconst 0, 1) := by decide +kernel
theorem dX6_totalByPoints_42 : decode cX6_totalByPoints 42 = .ok (.invokevirtual 75, 3) := by decide +kernel
theorem dX6_totalByPoints_45 : decode cX6_totalByPoints 45 = .ok (.ifCond .eq 13, 3) := by decide +kernel
theorem dX6_totalByPoints_48 : decode cX6_totalByPoints 48 = .ok (.aload_n 0, 1) := by decide +kernel
theorem dX6_totalByPoints_49 : decode cX6_totalByPoints 49 = .ok (.iload_n 1, 1) := by decide +kernel
theorem dX6_totalByPoints_50 : decode cX6_totalByPoints 50 = .ok (.iload_n 2, 1) := by decide +kernel
theorem dX6_totalByPoints_51 : decode cX6_totalByPoints 51 = .ok (.iload_n 3, 1) := by decide +kernel
theorem dX6_totalByPoints_52 : decode cX6_totalByPoints 52 = .ok (.invokevirtual 166, 3) := by decide +kernel
theorem dX6_totalByPoints_55 : decode cX6_totalByPoints 55 = .ok (.goto 4, 3) := by decide +kernel
theorem dX6_totalByPoints_58 : decode cX6_totalByPoints 58 = .ok (.lconst 0, 1) := by decide +kernel
theorem dX6_totalByPoints_59 : decode cX6_totalByPoints 59 = .ok (.lreturn, 1) := by decide +kernel
theorem dX6_rises_0 : decode cX6_rises 0 = .ok (.lconst 0, 1) := by decide +kernel
theorem dX6_rises_1 : decode cX6_rises 1 = .ok (.lstore 4, 2) := by decide +kernel
theorem dX6_rises_3 : decode cX6_rises 3 = .ok (.iconst (-1), 1) := by decide +kernel
theorem dX6_rises_4 : decode cX6_rises 4 = .ok (.istore 6, 2) := by decide +kernel
theorem dX6_rises_6 : decode cX6_rises 6 = .ok (.iconst 0, 1) := by decide +kernel
theorem dX6_rises_7 : decode cX6_rises 7 = .ok (.istore 7, 2) := by decide +kernel
theorem dX6_rises_9 : decode cX6_rises 9 = .ok (.iload 7, 2) := by decide +kernel
theorem dX6_rises_11 : decode cX6_rises 11 = .ok (.aload_n 0, 1) := by decide +kernel
theorem dX6_rises_12 : decode cX6_rises 12 = .ok (.getfield 46, 3) := by decide +kernel
theorem dX6_rises_15 : decode cX6_rises 15 = .ok (.if_icmp .ge 100, 3) := by decide +kernel
theorem dX6_rises_18 : decode cX6_rises 18 = .ok (.aload_n 0, 1) := by decide +kernel
theorem dX6_rises_19 : decode cX6_rises 19 = .ok (.getfield 19, 3) := by decide +kernel
theorem dX6_rises_22 : decode cX6_rises 22 = .ok (.iload 7, 2) := by decide +kernel
theorem dX6_rises_24 : decode cX6_rises 24 = .ok (.iaload, 1) := by decide +kernel
theorem dX6_rises_25 : decode cX6_rises 25 = .ok (.iload_n 1, 1) := by decide +kernel
theorem dX6_rises_26 : decode cX6_rises 26 = .ok (.if_icmp .ne 83, 3) := by decide +kernel
theorem dX6_rises_29 : decode cX6_rises 29 = .ok (.aload_n 0, 1) := by decide +kernel
theorem dX6_rises_30 : decode cX6_rises 30 = .ok (.getfield 22, 3) := by decide +kernel
theorem dX6_rises_33 : decode cX6_rises 33 = .ok (.iload 7, 2) := by decide +kernel
theorem dX6_rises_35 : decode cX6_rises 35 = .ok (.iaload, 1) := by decide +kernel
theorem dX6_rises_36 : decode cX6_rises 36 = .ok (.iload_n 2, 1) := by decide +kernel
theorem dX6_rises_37 : decode cX6_rises 37 = .ok (.if_icmp .lt 72, 3) := by decide +kernel
theorem dX6_rises_40 : decode cX6_rises 40 = .ok (.aload_n 0, 1) := by decide +kernel
theorem dX6_rises_41 : decode cX6_rises 41 = .ok (.getfield 22, 3) := by decide +kernel
theorem dX6_rises_44 : decode cX6_rises 44 = .ok (.iload 7, 2) := by decide +kernel
theorem dX6_rises_46 : decode cX6_rises 46 = .ok (.iaload, 1) := by decide +kernel
theorem dX6_rises_47 : decode cX6_rises 47 = .ok (.iload_n 3, 1) := by decide +kernel
theorem dX6_rises_48 : decode cX6_rises 48 = .ok (.if_icmp .ge 61, 3) := by decide +kernel
theorem dX6_rises_51 : decode cX6_rises 51 = .ok (.lload 4, 2) := by decide +kernel
theorem dX6_rises_53 : decode cX6_rises 53 = .ok (.iload 6, 2) := by decide +kernel
theorem dX6_rises_55 : decode cX6_rises 55 = .ok (.iconst (-1), 1) := by decide +kernel
theorem dX6_rises_56 : decode cX6_rises 56 = .ok (.if_icmp .ne 7, 3) := by decide +kernel
theorem dX6_rises_59 : decode cX6_rises 59 = .ok (.lconst 0, 1) := by decide +kernel
theorem dX6_rises_60 : decode cX6_rises 60 = .ok (.goto 37, 3) := by decide +kernel
theorem dX6_rises_63 : decode cX6_rises 63 = .ok (.aload_n 0, 1) := by decide +kernel
theorem dX6_rises_64 : decode cX6_rises 64 = .ok (.getfield 25, 3) := by decide +kernel
theorem dX6_rises_67 : decode cX6_rises 67 = .ok (.iload 7, 2) := by decide +kernel
theorem dX6_rises_69 : decode cX6_rises 69 = .ok (.iaload, 1) := by decide +kernel
theorem dX6_rises_70 : decode cX6_rises 70 = .ok (.iload 6, 2) := by decide +kernel
theorem dX6_rises_72 : decode cX6_rises 72 = .ok (.if_icmp .ge 14, 3) := by decide +kernel
theorem dX6_rises_75 : decode cX6_rises 75 = .ok (.aload_n 0, 1) := by decide +kernel
theorem dX6_rises_76 : decode cX6_rises 76 = .ok (.getfield 25, 3) := by decide +kernel
theorem dX6_rises_79 : decode cX6_rises 79 = .ok (.iload 7, 2) := by decide +kernel
theorem dX6_rises_81 : decode cX6_rises 81 = .ok (.iaload, 1) := by decide +kernel
theorem dX6_rises_82 : decode cX6_rises 82 = .ok (.i2l, 1) := by decide +kernel
theorem dX6_rises_83 : decode cX6_rises 83 = .ok (.goto 14, 3) := by decide +kernel
theorem dX6_rises_86 : decode cX6_rises 86 = .ok (.aload_n 0, 1) := by decide +kernel
theorem dX6_rises_87 : decode cX6_rises 87 = .ok (.getfield 25, 3) := by decide +kernel
theorem dX6_rises_90 : decode cX6_rises 90 = .ok (.iload 7, 2) := by decide +kernel
theorem dX6_rises_92 : decode cX6_rises 92 = .ok (.iaload, 1) := by decide +kernel
theorem dX6_rises_93 : decode cX6_rises 93 = .ok (.iload 6, 2) := by decide +kernel
theorem dX6_rises_95 : decode cX6_rises 95 = .ok (.isub, 1) := by decide +kernel
theorem dX6_rises_96 : decode cX6_rises 96 = .ok (.i2l, 1) := by decide +kernel
theorem dX6_rises_97 : decode cX6_rises 97 = .ok (.ladd, 1) := by decide +kernel
theorem dX6_rises_98 : decode cX6_rises 98 = .ok (.lstore 4, 2) := by decide +kernel
theorem dX6_rises_100 : decode cX6_rises 100 = .ok (.aload_n 0, 1) := by decide +kernel
theorem dX6_rises_101 : decode cX6_rises 101 = .ok (.getfield 25, 3) := by decide +kernel
theorem dX6_rises_104 : decode cX6_rises 104 = .ok (.iload 7, 2) := by decide +kernel
theorem dX6_rises_106 : decode cX6_rises 106 = .ok (.iaload, 1) := by decide +kernel
theorem dX6_rises_107 : decode cX6_rises 107 = .ok (.istore 6, 2) := by decide +kernel
theorem dX6_rises_109 : decode cX6_rises 109 = .ok (.iinc 7 1, 3) := by decide +kernel
theorem dX6_rises_112 : decode cX6_rises 112 = .ok (.goto (-103), 3) := by decide +kernel
theorem dX6_rises_115 : decode cX6_rises 115 = .ok (.lload 4, 2) := by decide +kernel
theorem dX6_rises_117 : decode cX6_rises 117 = .ok (.lreturn, 1) := by decide +kernel
set_option maxRecDepth 400000 in
theorem ggX6_increase_X6_isSeries : GoodIn wsX6_increase wsX6_isSeries := goodIn_r _ [6, 7, 51, 52, 53, 54, 55, 56, 57, 58, 59, 60, 61, 62, 63, 64, 65, 66, 67] rfl (by decide +kernel)
set_option maxRecDepth 20000 in
theorem gX6_increase_X6_isSeries : GoodIn wsX6_increase (wsV RX6 79 RX6 yX6_isSeries wsX6_isSeries) := goodIn_app (goodIn_of _ (by decide +kernel)) ggX6_increase_X6_isSeries
set_option maxRecDepth 400000 in
theorem ggX6_increase_X6_isWindow : GoodIn wsX6_increase wsX6_isWindow := goodIn_r _ [10] rfl (by decide +kernel)
set_option maxRecDepth 20000 in
theorem gX6_increase_X6_isWindow : GoodIn wsX6_increase (va_wsS RX6 154 yX6_isWindow wsX6_isWindow) := goodIn_app (goodIn_of _ (by decide +kernel)) ggX6_increase_X6_isWindow
set_option maxRecDepth 400000 in
theorem ggX6_increase_X6_knows : GoodIn wsX6_increase wsX6_knows := goodIn_r _ [14, 15, 16, 17, 18, 5, 19, 20, 21, 22, 23, 24, 25, 26, 27, 28, 29, 30, 31, 32, 33, 34, 35, 36, 37, 51, 52, 53, 54, 55, 56, 57, 58, 59, 60, 61, 62, 63, 64, 65, 66, 67] rfl (by decide +kernel)
set_option maxRecDepth 20000 in
theorem gX6_increase_X6_knows : GoodIn wsX6_increase (wsV RX6 163 RX6 yX6_knows wsX6_knows) := goodIn_app (goodIn_of _ (by decide +kernel)) ggX6_increase_X6_knows
set_option maxRecDepth 400000 in
theorem ggX6_increase_X6_can : GoodIn wsX6_increase wsX6_can := goodIn_r _ [41, 42, 51, 52, 53, 54, 55, 56, 57, 58, 59, 60, 61, 62, 63, 64, 65, 66, 67] rfl (by decide +kernel)
set_option maxRecDepth 20000 in
theorem gX6_increase_X6_can : GoodIn wsX6_increase (wsV RX6 75 RX6 yX6_can wsX6_can) := goodIn_app (goodIn_of _ (by decide +kernel)) ggX6_increase_X6_can
set_option maxRecDepth 400000 in
theorem ggX6_increase_X6_rises : GoodIn wsX6_increase wsX6_rises := goodIn_r _ [46, 47, 48, 49, 50, 51, 52, 53, 54, 55, 56, 57, 58, 59, 60, 61, 62, 63, 64, 65, 66, 67] rfl (by decide +kernel)
set_option maxRecDepth 20000 in
theorem gX6_increase_X6_rises : GoodIn wsX6_increase (wsV RX6 170 RX6 yX6_rises wsX6_rises) := goodIn_app (goodIn_of _ (by decide +kernel)) ggX6_increase_X6_rises
theorem dX6_increase_0 : decode cX6_increase 0 = .ok (.aload_n 0, 1) := by decide +kernel
theorem dX6_increase_1 : decode cX6_increase 1 = .ok (.aload_n 0, 1) := by decide +kernel
theorem dX6_increase_2 : decode cX6_increase 2 = .ok (.iload_n 1, 1) := by decide +kernel
theorem dX6_increase_3 : decode cX6_increase 3 = .ok (.invokevirtual 79, 3) := by decide +kernel
theorem dX6_increase_6 : decode cX6_increase 6 = .ok (.ifCond .ne 7, 3) := by decide +kernel
theorem dX6_increase_9 : decode cX6_increase 9 = .ok (.iconst 1, 1) := by decide +kernel
theorem dX6_increase_10 : decode cX6_increase 10 = .ok (.goto 41, 3) := by decide +kernel
theorem dX6_increase_13 : decode cX6_increase 13 = .ok (.iload_n 2, 1) := by decide +kernel
theorem dX6_increase_14 : decode cX6_increase 14 = .ok (.iload_n 3, 1) := by decide +kernel
theorem dX6_increase_15 : decode cX6_increase 15 = .ok (.bipush 60, 2) := by decide +kernel
theorem dX6_increase_17 : decode cX6_increase 17 = .ok (.invokestatic 154, 3) := by decide +kernel
theorem dX6_increase_20 : decode cX6_increase 20 = .ok (.ifCond .ne 7, 3) := by decide +kernel
theorem dX6_increase_23 : decode cX6_increase 23 = .ok (.iconst 2, 1) := by decide +kernel
theorem dX6_increase_24 : decode cX6_increase 24 = .ok (.goto 27, 3) := by decide +kernel
theorem dX6_increase_27 : decode cX6_increase 27 = .ok (.aload_n 0, 1) := by decide +kernel
theorem dX6_increase_28 : decode cX6_increase 28 = .ok (.getfield 7, 3) := by decide +kernel
theorem dX6_increase_31 : decode cX6_increase 31 = .ok (.iload_n 1, 1) := by decide +kernel
theorem dX6_increase_32 : decode cX6_increase 32 = .ok (.iaload, 1) := by decide +kernel
theorem dX6_increase_33 : decode cX6_increase 33 = .ok (.iconst 1, 1) := by decide +kernel
theorem dX6_increase_34 : decode cX6_increase 34 = .ok (.if_icmp .ne 12, 3) := by decide +kernel
theorem dX6_increase_37 : decode cX6_increase 37 = .ok (.aload_n 0, 1) := by decide +kernel
theorem dX6_increase_38 : decode cX6_increase 38 = .ok (.iload_n 2, 1) := by decide +kernel
theorem dX6_increase_39 : decode cX6_increase 39 = .ok (.iload_n 3, 1) := by decide +kernel
theorem dX6_increase_40 : decode cX6_increase 40 = .ok (.invokevirtual 163, 3) := by decide +kernel
theorem dX6_increase_43 : decode cX6_increase 43 = .ok (.ifCond .ne 7, 3) := by decide +kernel
theorem dX6_increase_46 : decode cX6_increase 46 = .ok (.iconst 3, 1) := by decide +kernel
theorem dX6_increase_47 : decode cX6_increase 47 = .ok (.goto 4, 3) := by decide +kernel
theorem dX6_increase_50 : decode cX6_increase 50 = .ok (.iconst 0, 1) := by decide +kernel
theorem dX6_increase_51 : decode cX6_increase 51 = .ok (.invokevirtual 75, 3) := by decide +kernel
theorem dX6_increase_54 : decode cX6_increase 54 = .ok (.ifCond .eq 13, 3) := by decide +kernel
theorem dX6_increase_57 : decode cX6_increase 57 = .ok (.aload_n 0, 1) := by decide +kernel
theorem dX6_increase_58 : decode cX6_increase 58 = .ok (.iload_n 1, 1) := by decide +kernel
theorem dX6_increase_59 : decode cX6_increase 59 = .ok (.iload_n 2, 1) := by decide +kernel
theorem dX6_increase_60 : decode cX6_increase 60 = .ok (.iload_n 3, 1) := by decide +kernel
theorem dX6_increase_61 : decode cX6_increase 61 = .ok (.invokevirtual 170, 3) := by decide +kernel
theorem dX6_increase_64 : decode cX6_increase 64 = .ok (.goto 4, 3) := by decide +kernel
theorem dX6_increase_67 : decode cX6_increase 67 = .ok (.lconst 0, 1) := by decide +kernel
theorem dX6_increase_68 : decode cX6_increase 68 = .ok (.lreturn, 1) := by decide +kernel
set_option maxRecDepth 400000 in
theorem ggX6_ratePerHour_X6_isSeries : GoodIn wsX6_ratePerHour wsX6_isSeries := goodIn_r _ [7, 8, 52, 53, 54, 55, 56, 57, 58, 59, 60, 61, 62, 63, 64, 65, 66, 67, 68] rfl (by decide +kernel)
set_option maxRecDepth 20000 in
theorem gX6_ratePerHour_X6_isSeries : GoodIn wsX6_ratePerHour (wsV RX6 79 RX6 yX6_isSeries wsX6_isSeries) := goodIn_app (goodIn_of _ (by decide +kernel)) ggX6_ratePerHour_X6_isSeries
set_option maxRecDepth 400000 in
theorem ggX6_ratePerHour_X6_isWindow : GoodIn wsX6_ratePerHour wsX6_isWindow := goodIn_r _ [11] rfl (by decide +kernel)
set_option maxRecDepth 20000 in
theorem gX6_ratePerHour_X6_isWindow : GoodIn wsX6_ratePerHour (va_wsS RX6 154 yX6_isWindow wsX6_isWindow) := goodIn_app (goodIn_of _ (by decide +kernel)) ggX6_ratePerHour_X6_isWindow
set_option maxRecDepth 400000 in
theorem ggX6_ratePerHour_X6_knows : GoodIn wsX6_ratePerHour wsX6_knows := goodIn_r _ [15, 16, 17, 18, 19, 6, 20, 21, 22, 23, 24, 25, 26, 27, 28, 29, 30, 31, 32, 33, 34, 35, 36, 37, 38, 52, 53, 54, 55, 56, 57, 58, 59, 60, 61, 62, 63, 64, 65, 66, 67, 68] rfl (by decide +kernel)
set_option maxRecDepth 20000 in
theorem gX6_ratePerHour_X6_knows : GoodIn wsX6_ratePerHour (wsV RX6 163 RX6 yX6_knows wsX6_knows) := goodIn_app (goodIn_of _ (by decide +kernel)) ggX6_ratePerHour_X6_knows
set_option maxRecDepth 400000 in
theorem ggX6_ratePerHour_X6_can : GoodIn wsX6_ratePerHour wsX6_can := goodIn_r _ [42, 43, 52, 53, 54, 55, 56, 57, 58, 59, 60, 61, 62, 63, 64, 65, 66, 67, 68] rfl (by decide +kernel)
set_option maxRecDepth 20000 in
theorem gX6_ratePerHour_X6_can : GoodIn wsX6_ratePerHour (wsV RX6 75 RX6 yX6_can wsX6_can) := goodIn_app (goodIn_of _ (by decide +kernel)) ggX6_ratePerHour_X6_can
set_option maxRecDepth 400000 in
theorem ggX6_ratePerHour_X6_rises : GoodIn wsX6_ratePerHour wsX6_rises := goodIn_r _ [47, 48, 49, 50, 51, 52, 53, 54, 55, 56, 57, 58, 59, 60, 61, 62, 63, 64, 65, 66, 67, 68] rfl (by decide +kernel)
set_option maxRecDepth 20000 in
theorem gX6_ratePerHour_X6_rises : GoodIn wsX6_ratePerHour (wsV RX6 170 RX6 yX6_rises wsX6_rises) := goodIn_app (goodIn_of _ (by decide +kernel)) ggX6_ratePerHour_X6_rises
theorem dX6_ratePerHour_0 : decode cX6_ratePerHour 0 = .ok (.aload_n 0, 1) := by decide +kernel
theorem dX6_ratePerHour_1 : decode cX6_ratePerHour 1 = .ok (.aload_n 0, 1) := by decide +kernel
theorem dX6_ratePerHour_2 : decode cX6_ratePerHour 2 = .ok (.iload_n 1, 1) := by decide +kernel
theorem dX6_ratePerHour_3 : decode cX6_ratePerHour 3 = .ok (.invokevirtual 79, 3) := by decide +kernel
theorem dX6_ratePerHour_6 : decode cX6_ratePerHour 6 = .ok (.ifCond .ne 7, 3) := by decide +kernel
theorem dX6_ratePerHour_9 : decode cX6_ratePerHour 9 = .ok (.iconst 1, 1) := by decide +kernel
theorem dX6_ratePerHour_10 : decode cX6_ratePerHour 10 = .ok (.goto 46, 3) := by decide +kernel
theorem dX6_ratePerHour_13 : decode cX6_ratePerHour 13 = .ok (.iload_n 2, 1) := by decide +kernel
theorem dX6_ratePerHour_14 : decode cX6_ratePerHour 14 = .ok (.iload_n 3, 1) := by decide +kernel
theorem dX6_ratePerHour_15 : decode cX6_ratePerHour 15 = .ok (.bipush 60, 2) := by decide +kernel
theorem dX6_ratePerHour_17 : decode cX6_ratePerHour 17 = .ok (.invokestatic 154, 3) := by decide +kernel
theorem dX6_ratePerHour_20 : decode cX6_ratePerHour 20 = .ok (.ifCond .eq 8, 3) := by decide +kernel
theorem dX6_ratePerHour_23 : decode cX6_ratePerHour 23 = .ok (.iload_n 2, 1) := by decide +kernel
theorem dX6_ratePerHour_24 : decode cX6_ratePerHour 24 = .ok (.iload_n 3, 1) := by decide +kernel
theorem dX6_ratePerHour_25 : decode cX6_ratePerHour 25 = .ok (.if_icmp .ne 7, 3) := by decide +kernel
theorem dX6_ratePerHour_28 : decode cX6_ratePerHour 28 = .ok (.iconst 2, 1) := by decide +kernel
theorem dX6_ratePerHour_29 : decode cX6_ratePerHour 29 = .ok (.goto 27, 3) := by decide +kernel
theorem dX6_ratePerHour_32 : decode cX6_ratePerHour 32 = .ok (.aload_n 0, 1) := by decide +kernel
theorem dX6_ratePerHour_33 : decode cX6_ratePerHour 33 = .ok (.getfield 7, 3) := by decide +kernel
theorem dX6_ratePerHour_36 : decode cX6_ratePerHour 36 = .ok (.iload_n 1, 1) := by decide +kernel
theorem dX6_ratePerHour_37 : decode cX6_ratePerHour 37 = .ok (.iaload, 1) := by decide +kernel
theorem dX6_ratePerHour_38 : decode cX6_ratePerHour 38 = .ok (.iconst 1, 1) := by decide +kernel
theorem dX6_ratePerHour_39 : decode cX6_ratePerHour 39 = .ok (.if_icmp .ne 12, 3) := by decide +kernel
theorem dX6_ratePerHour_42 : decode cX6_ratePerHour 42 = .ok (.aload_n 0, 1) := by decide +kernel
theorem dX6_ratePerHour_43 : decode cX6_ratePerHour 43 = .ok (.iload_n 2, 1) := by decide +kernel
theorem dX6_ratePerHour_44 : decode cX6_ratePerHour 44 = .ok (.iload_n 3, 1) := by decide +kernel
theorem dX6_ratePerHour_45 : decode cX6_ratePerHour 45 = .ok (.invokevirtual 163, 3) := by decide +kernel
theorem dX6_ratePerHour_48 : decode cX6_ratePerHour 48 = .ok (.ifCond .ne 7, 3) := by decide +kernel
theorem dX6_ratePerHour_51 : decode cX6_ratePerHour 51 = .ok (.iconst 3, 1) := by decide +kernel
theorem dX6_ratePerHour_52 : decode cX6_ratePerHour 52 = .ok (.goto 4, 3) := by decide +kernel
theorem dX6_ratePerHour_55 : decode cX6_ratePerHour 55 = .ok (.iconst 0, 1) := by decide +kernel
theorem dX6_ratePerHour_56 : decode cX6_ratePerHour 56 = .ok (.invokevirtual 75, 3) := by decide +kernel
theorem dX6_ratePerHour_59 : decode cX6_ratePerHour 59 = .ok (.istore 4, 2) := by decide +kernel
theorem dX6_ratePerHour_61 : decode cX6_ratePerHour 61 = .ok (.iload 4, 2) := by decide +kernel
theorem dX6_ratePerHour_63 : decode cX6_ratePerHour 63 = .ok (.ifCond .eq 23, 3) := by decide +kernel
theorem dX6_ratePerHour_66 : decode cX6_ratePerHour 66 = .ok (.aload_n 0, 1) := by decide +kernel
theorem dX6_ratePerHour_67 : decode cX6_ratePerHour 67 = .ok (.iload_n 1, 1) := by decide +kernel
theorem dX6_ratePerHour_68 : decode cX6_ratePerHour 68 = .ok (.iload_n 2, 1) := by decide +kernel
theorem dX6_ratePerHour_69 : decode cX6_ratePerHour 69 = .ok (.iload_n 3, 1) := by decide +kernel
theorem dX6_ratePerHour_70 : decode cX6_ratePerHour 70 = .ok (.invokevirtual 170, 3) := by decide +kernel
theorem dX6_ratePerHour_73 : decode cX6_ratePerHour 73 = .ok (.l2d, 1) := by decide +kernel
theorem dX6_ratePerHour_74 : decode cX6_ratePerHour 74 = .ok (.ldc2_w 173, 3) := by decide +kernel
theorem dX6_ratePerHour_77 : decode cX6_ratePerHour 77 = .ok (.dmul, 1) := by decide +kernel
theorem dX6_ratePerHour_78 : decode cX6_ratePerHour 78 = .ok (.iload_n 3, 1) := by decide +kernel
theorem dX6_ratePerHour_79 : decode cX6_ratePerHour 79 = .ok (.iload_n 2, 1) := by decide +kernel
theorem dX6_ratePerHour_80 : decode cX6_ratePerHour 80 = .ok (.isub, 1) := by decide +kernel
theorem dX6_ratePerHour_81 : decode cX6_ratePerHour 81 = .ok (.i2d, 1) := by decide +kernel
theorem dX6_ratePerHour_82 : decode cX6_ratePerHour 82 = .ok (.ddiv, 1) := by decide +kernel
theorem dX6_ratePerHour_83 : decode cX6_ratePerHour 83 = .ok (.goto 4, 3) := by decide +kernel
theorem dX6_ratePerHour_86 : decode cX6_ratePerHour 86 = .ok (.dconst 0, 1) := by decide +kernel
theorem dX6_ratePerHour_87 : decode cX6_ratePerHour 87 = .ok (.dreturn, 1) := by decide +kernel
set_option maxRecDepth 400000 in
theorem ggX6_gaps_X6_isSeries : GoodIn wsX6_gaps wsX6_isSeries := goodIn_r _ [9, 10, 37, 38, 39, 40, 41, 42, 43, 44, 45, 46, 47, 48, 49, 50, 51, 52, 53] rfl (by decide +kernel)
set_option maxRecDepth 20000 in
theorem gX6_gaps_X6_isSeries : GoodIn wsX6_gaps (wsV RX6 79 RX6 yX6_isSeries wsX6_isSeries) := goodIn_app (goodIn_of _ (by decide +kernel)) ggX6_gaps_X6_isSeries
set_option maxRecDepth 400000 in
theorem ggX6_gaps_X6_isRolled : GoodIn wsX6_gaps wsX6_isRolled := goodIn_r _ [13] rfl (by decide +kernel)
set_option maxRecDepth 20000 in
theorem gX6_gaps_X6_isRolled : GoodIn wsX6_gaps (va_wsS RX6 133 yX6_isRolled wsX6_isRolled) := goodIn_app (goodIn_of _ (by decide +kernel)) ggX6_gaps_X6_isRolled
set_option maxRecDepth 400000 in
theorem ggX6_gaps_X6_length : GoodIn wsX6_gaps wsX6_length := goodIn_r _ [16, 17] rfl (by decide +kernel)
set_option maxRecDepth 20000 in
theorem gX6_gaps_X6_length : GoodIn wsX6_gaps (va_wsS RX6 42 yX6_length wsX6_length) := goodIn_app (goodIn_of _ (by decide +kernel)) ggX6_gaps_X6_length
set_option maxRecDepth 400000 in
theorem ggX6_gaps_X6_isWindow : GoodIn wsX6_gaps wsX6_isWindow := goodIn_r _ [20] rfl (by decide +kernel)
set_option maxRecDepth 20000 in
theorem gX6_gaps_X6_isWindow : GoodIn wsX6_gaps (va_wsS RX6 154 yX6_isWindow wsX6_isWindow) := goodIn_app (goodIn_of _ (by decide +kernel)) ggX6_gaps_X6_isWindow
set_option maxRecDepth 400000 in
theorem ggX6_gaps_X6_can : GoodIn wsX6_gaps wsX6_can := goodIn_r _ [24, 25, 37, 38, 39, 40, 41, 42, 43, 44, 45, 46, 47, 48, 49, 50, 51, 52, 53] rfl (by decide +kernel)
set_option maxRecDepth 20000 in
theorem gX6_gaps_X6_can : GoodIn wsX6_gaps (wsV RX6 75 RX6 yX6_can wsX6_can) := goodIn_app (goodIn_of _ (by decide +kernel)) ggX6_gaps_X6_can
set_option maxRecDepth 400000 in
theorem ggX6_gaps_X6_begin : GoodIn wsX6_gaps wsX6_begin := goodIn_r _ [28, 14, 15, 8, 16, 17] rfl (by decide +kernel)
set_option maxRecDepth 20000 in
theorem gX6_gaps_X6_begin : GoodIn wsX6_gaps (va_wsS RX6 89 yX6_begin wsX6_begin) := goodIn_app (goodIn_of _ (by decide +kernel)) ggX6_gaps_X6_begin
set_option maxRecDepth 400000 in
theorem ggX6_gaps_X6_begins : GoodIn wsX6_gaps wsX6_begins := goodIn_r _ [32, 4, 1, 3, 26, 27, 8, 28, 14, 15, 16, 17, 33, 34, 35, 36, 37, 38, 39, 40, 41, 42, 43, 44, 45, 46, 47, 48, 49, 50, 51, 52, 53] rfl (by decide +kernel)
set_option maxRecDepth 20000 in
theorem gX6_gaps_X6_begins : GoodIn wsX6_gaps (wsV RX6 96 RX6 yX6_begins wsX6_begins) := goodIn_app (goodIn_of _ (by decide +kernel)) ggX6_gaps_X6_begins
theorem dX6_gaps_0 : decode cX6_gaps 0 = .ok (.aload_n 0, 1) := by decide +kernel
theorem dX6_gaps_1 : decode cX6_gaps 1 = .ok (.aload_n 0, 1) := by decide +kernel
theorem dX6_gaps_2 : decode cX6_gaps 2 = .ok (.iload_n 1, 1) := by decide +kernel
theorem dX6_gaps_3 : decode cX6_gaps 3 = .ok (.invokevirtual 79, 3) := by decide +kernel
theorem dX6_gaps_6 : decode cX6_gaps 6 = .ok (.ifCond .ne 7, 3) := by decide +kernel
theorem dX6_gaps_9 : decode cX6_gaps 9 = .ok (.iconst 1, 1) := by decide +kernel
theorem dX6_gaps_10 : decode cX6_gaps 10 = .ok (.goto 28, 3) := by decide +kernel
theorem dX6_gaps_13 : decode cX6_gaps 13 = .ok (.iload_n 2, 1) := by decide +kernel
theorem dX6_gaps_14 : decode cX6_gaps 14 = .ok (.invokestatic 133, 3) := by decide +kernel
theorem dX6_gaps_17 : decode cX6_gaps 17 = .ok (.ifCond .eq 16, 3) := by decide +kernel
theorem dX6_gaps_20 : decode cX6_gaps 20 = .ok (.iload_n 3, 1) := by decide +kernel
theorem dX6_gaps_21 : decode cX6_gaps 21 = .ok (.iload 4, 2) := by decide +kernel
theorem dX6_gaps_23 : decode cX6_gaps 23 = .ok (.iload_n 2, 1) := by decide +kernel
theorem dX6_gaps_24 : decode cX6_gaps 24 = .ok (.invokestatic 42, 3) := by decide +kernel
theorem dX6_gaps_27 : decode cX6_gaps 27 = .ok (.invokestatic 154, 3) := by decide +kernel
theorem dX6_gaps_30 : decode cX6_gaps 30 = .ok (.ifCond .ne 7, 3) := by decide +kernel
theorem dX6_gaps_33 : decode cX6_gaps 33 = .ok (.iconst 2, 1) := by decide +kernel
theorem dX6_gaps_34 : decode cX6_gaps 34 = .ok (.goto 4, 3) := by decide +kernel
theorem dX6_gaps_37 : decode cX6_gaps 37 = .ok (.iconst 0, 1) := by decide +kernel
theorem dX6_gaps_38 : decode cX6_gaps 38 = .ok (.invokevirtual 75, 3) := by decide +kernel
theorem dX6_gaps_41 : decode cX6_gaps 41 = .ok (.ifCond .ne 5, 3) := by decide +kernel
theorem dX6_gaps_44 : decode cX6_gaps 44 = .ok (.iconst 0, 1) := by decide +kernel
theorem dX6_gaps_45 : decode cX6_gaps 45 = .ok (.ireturn, 1) := by decide +kernel
theorem dX6_gaps_46 : decode cX6_gaps 46 = .ok (.iload_n 2, 1) := by decide +kernel
theorem dX6_gaps_47 : decode cX6_gaps 47 = .ok (.aload_n 0, 1) := by decide +kernel
theorem dX6_gaps_48 : decode cX6_gaps 48 = .ok (.getfield 16, 3) := by decide +kernel
theorem dX6_gaps_51 : decode cX6_gaps 51 = .ok (.iload_n 2, 1) := by decide +kernel
theorem dX6_gaps_52 : decode cX6_gaps 52 = .ok (.iaload, 1) := by decide +kernel
theorem dX6_gaps_53 : decode cX6_gaps 53 = .ok (.invokestatic 89, 3) := by decide +kernel
theorem dX6_gaps_56 : decode cX6_gaps 56 = .ok (.istore 5, 2) := by decide +kernel
theorem dX6_gaps_58 : decode cX6_gaps 58 = .ok (.iload 5, 2) := by decide +kernel
theorem dX6_gaps_60 : decode cX6_gaps 60 = .ok (.iload_n 3, 1) := by decide +kernel
theorem dX6_gaps_61 : decode cX6_gaps 61 = .ok (.if_icmp .le 8, 3) := by decide +kernel
theorem dX6_gaps_64 : decode cX6_gaps 64 = .ok (.iload 5, 2) := by decide +kernel
theorem dX6_gaps_66 : decode cX6_gaps 66 = .ok (.goto 4, 3) := by decide +kernel
theorem dX6_gaps_69 : decode cX6_gaps 69 = .ok (.iload_n 3, 1) := by decide +kernel
theorem dX6_gaps_70 : decode cX6_gaps 70 = .ok (.istore 6, 2) := by decide +kernel
theorem dX6_gaps_72 : decode cX6_gaps 72 = .ok (.iload 6, 2) := by decide +kernel
theorem dX6_gaps_74 : decode cX6_gaps 74 = .ok (.iload 4, 2) := by decide +kernel
theorem dX6_gaps_76 : decode cX6_gaps 76 = .ok (.if_icmp .ge 16, 3) := by decide +kernel
theorem dX6_gaps_79 : decode cX6_gaps 79 = .ok (.iload 4, 2) := by decide +kernel
theorem dX6_gaps_81 : decode cX6_gaps 81 = .ok (.iload 6, 2) := by decide +kernel
theorem dX6_gaps_83 : decode cX6_gaps 83 = .ok (.isub, 1) := by decide +kernel
theorem dX6_gaps_84 : decode cX6_gaps 84 = .ok (.iload_n 2, 1) := by decide +kernel
theorem dX6_gaps_85 : decode cX6_gaps 85 = .ok (.invokestatic 42, 3) := by decide +kernel
theorem dX6_gaps_88 : decode cX6_gaps 88 = .ok (.idiv, 1) := by decide +kernel
theorem dX6_gaps_89 : decode cX6_gaps 89 = .ok (.goto 4, 3) := by decide +kernel
theorem dX6_gaps_92 : decode cX6_gaps 92 = .ok (.iconst 0, 1) := by decide +kernel
theorem dX6_gaps_93 : decode cX6_gaps 93 = .ok (.istore 7, 2) := by decide +kernel
theorem dX6_gaps_95 : decode cX6_gaps 95 = .ok (.iconst 0, 1) := by decide +kernel
theorem dX6_gaps_96 : decode cX6_gaps 96 = .ok (.istore 8, 2) := by decide +kernel
theorem dX6_gaps_98 : decode cX6_gaps 98 = .ok (.iload 8, 2) := by decide +kernel
theorem dX6_gaps_100 : decode cX6_gaps 100 = .ok (.aload_n 0, 1) := by decide +kernel
theorem dX6_gaps_101 : decode cX6_gaps 101 = .ok (.getfield 46, 3) := by decide +kernel
theorem dX6_gaps_104 : decode cX6_gaps 104 = .ok (.if_icmp .ge 68, 3) := by decide +kernel
theorem dX6_gaps_107 : decode cX6_gaps 107 = .ok (.iload 7, 2) := by decide +kernel
theorem dX6_gaps_109 : decode cX6_gaps 109 = .ok (.aload_n 0, 1) := by decide +kernel
theorem dX6_gaps_110 : decode cX6_gaps 110 = .ok (.getfield 19, 3) := by decide +kernel
theorem dX6_gaps_113 : decode cX6_gaps 113 = .ok (.iload 8, 2) := by decide +kernel
theorem dX6_gaps_115 : decode cX6_gaps 115 = .ok (.iaload, 1) := by decide +kernel
theorem dX6_gaps_116 : decode cX6_gaps 116 = .ok (.iload_n 1, 1) := by decide +kernel
theorem dX6_gaps_117 : decode cX6_gaps 117 = .ok (.if_icmp .ne 45, 3) := by decide +kernel
theorem dX6_gaps_120 : decode cX6_gaps 120 = .ok (.iload_n 2, 1) := by decide +kernel
theorem dX6_gaps_121 : decode cX6_gaps 121 = .ok (.ifCond .eq 41, 3) := by decide +kernel
theorem dX6_gaps_124 : decode cX6_gaps 124 = .ok (.aload_n 0, 1) := by decide +kernel
theorem dX6_gaps_125 : decode cX6_gaps 125 = .ok (.iload 8, 2) := by decide +kernel
theorem dX6_gaps_127 : decode cX6_gaps 127 = .ok (.iload_n 2, 1) := by decide +kernel
theorem dX6_gaps_128 : decode cX6_gaps 128 = .ok (.invokevirtual 96, 3) := by decide +kernel
theorem dX6_gaps_131 : decode cX6_gaps 131 = .ok (.ifCond .eq 31, 3) := by decide +kernel
theorem dX6_gaps_134 : decode cX6_gaps 134 = .ok (.aload_n 0, 1) := by decide +kernel
theorem dX6_gaps_135 : decode cX6_gaps 135 = .ok (.getfield 22, 3) := by decide +kernel
theorem dX6_gaps_138 : decode cX6_gaps 138 = .ok (.iload 8, 2) := by decide +kernel
theorem dX6_gaps_140 : decode cX6_gaps 140 = .ok (.iaload, 1) := by decide +kernel
theorem dX6_gaps_141 : decode cX6_gaps 141 = .ok (.iload 6, 2) := by decide +kernel
theorem dX6_gaps_143 : decode cX6_gaps 143 = .ok (.if_icmp .lt 19, 3) := by decide +kernel
theorem dX6_gaps_146 : decode cX6_gaps 146 = .ok (.aload_n 0, 1) := by decide +kernel
theorem dX6_gaps_147 : decode cX6_gaps 147 = .ok (.getfield 22, 3) := by decide +kernel
theorem dX6_gaps_150 : decode cX6_gaps 150 = .ok (.iload 8, 2) := by decide +kernel
theorem dX6_gaps_152 : decode cX6_gaps 152 = .ok (.iaload, 1) := by decide +kernel
theorem dX6_gaps_153 : decode cX6_gaps 153 = .ok (.iload 4, 2) := by decide +kernel
theorem dX6_gaps_155 : decode cX6_gaps 155 = .ok (.if_icmp .ge 7, 3) := by decide +kernel
theorem dX6_gaps_158 : decode cX6_gaps 158 = .ok (.iconst 1, 1) := by decide +kernel
theorem dX6_gaps_159 : decode cX6_gaps 159 = .ok (.goto 4, 3) := by decide +kernel
theorem dX6_gaps_162 : decode cX6_gaps 162 = .ok (.iconst 0, 1) := by decide +kernel
theorem dX6_gaps_163 : decode cX6_gaps 163 = .ok (.isub, 1) := by decide +kernel
theorem dX6_gaps_164 : decode cX6_gaps 164 = .ok (.istore 7, 2) := by decide +kernel
theorem dX6_gaps_166 : decode cX6_gaps 166 = .ok (.iinc 8 1, 3) := by decide +kernel
theorem dX6_gaps_169 : decode cX6_gaps 169 = .ok (.goto (-71), 3) := by decide +kernel
theorem dX6_gaps_172 : decode cX6_gaps 172 = .ok (.iload 7, 2) := by decide +kernel
theorem dX6_gaps_174 : decode cX6_gaps 174 = .ok (.ireturn, 1) := by decide +kernel
theorem dJ9_max_7cf53_0 : decode cJ9_max_7cf53 0 = .ok (.iload_n 0, 1) := by decide +kernel
theorem dJ9_max_7cf53_1 : decode cJ9_max_7cf53 1 = .ok (.iload_n 1, 1) := by decide +kernel
theorem dJ9_max_7cf53_2 : decode cJ9_max_7cf53 2 = .ok (.if_icmp .lt 7, 3) := by decide +kernel
theorem dJ9_max_7cf53_5 : decode cJ9_max_7cf53 5 = .ok (.iload_n 0, 1) := by decide +kernel
theorem dJ9_max_7cf53_6 : decode cJ9_max_7cf53 6 = .ok (.goto 4, 3) := by decide +kernel
theorem dJ9_max_7cf53_9 : decode cJ9_max_7cf53 9 = .ok (.iload_n 1, 1) := by decide +kernel
theorem dJ9_max_7cf53_10 : decode cJ9_max_7cf53 10 = .ok (.ireturn, 1) := by decide +kernel
theorem dJ9_min_7cf53_0 : decode cJ9_min_7cf53 0 = .ok (.iload_n 0, 1) := by decide +kernel
theorem dJ9_min_7cf53_1 : decode cJ9_min_7cf53 1 = .ok (.iload_n 1, 1) := by decide +kernel
theorem dJ9_min_7cf53_2 : decode cJ9_min_7cf53 2 = .ok (.if_icmp .gt 7, 3) := by decide +kernel
theorem dJ9_min_7cf53_5 : decode cJ9_min_7cf53 5 = .ok (.iload_n 0, 1) := by decide +kernel
theorem dJ9_min_7cf53_6 : decode cJ9_min_7cf53 6 = .ok (.goto 4, 3) := by decide +kernel
theorem dJ9_min_7cf53_9 : decode cJ9_min_7cf53 9 = .ok (.iload_n 1, 1) := by decide +kernel
theorem dJ9_min_7cf53_10 : decode cJ9_min_7cf53 10 = .ok (.ireturn, 1) := by decide +kernel
set_option maxRecDepth 400000 in
theorem ggL_addSeries_X5_addSeries : GoodIn wsL_addSeries wsX5_addSeries := goodIn_ca (goodIn_ca (goodIn_r _ [7, 8, 9, 10, 11, 12, 13, 14, 15, 16, 6, 17, 18, 19, 20, 21, 22, 23, 24, 25, 26, 27, 28, 29, 30, 31, 32, 33, 34, 35, 36, 37, 38, 39, 40, 41, 42, 43, 44, 45, 46, 47, 48, 49, 50, 51, 52, 53, 54, 55, 56, 57, 58, 59, 60, 61, 62, 63, 64, 65, 66, 67, 68] rfl (by decide +kernel)) (goodIn_sub (fun _ h => List.mem_cons_of_mem _ (List.mem_append_left _ (List.mem_append_right _ h))) (by decide +kernel))) (goodIn_sub (fun _ h => List.mem_cons_of_mem _ (List.mem_append_right _ h)) (by decide +kernel))
set_option maxRecDepth 20000 in
theorem gL_addSeries_X5_addSeries : GoodIn wsL_addSeries (wsV RL 7 RX5 yX5_addSeries wsX5_addSeries) := goodIn_app (goodIn_of _ (by decide +kernel)) ggL_addSeries_X5_addSeries
theorem dL_addSeries_0 : decode cL_addSeries 0 = .ok (.aload_n 2, 1) := by decide +kernel
theorem dL_addSeries_1 : decode cL_addSeries 1 = .ok (.iconst 0, 1) := by decide +kernel
theorem dL_addSeries_2 : decode cL_addSeries 2 = .ok (.aload_n 0, 1) := by decide +kernel
theorem dL_addSeries_3 : decode cL_addSeries 3 = .ok (.iload_n 1, 1) := by decide +kernel
theorem dL_addSeries_4 : decode cL_addSeries 4 = .ok (.invokevirtual 7, 3) := by decide +kernel
theorem dL_addSeries_7 : decode cL_addSeries 7 = .ok (.i2l, 1) := by decide +kernel
theorem dL_addSeries_8 : decode cL_addSeries 8 = .ok (.lastore, 1) := by decide +kernel
theorem dL_addSeries_9 : decode cL_addSeries 9 = .ok (.goto 9, 3) := by decide +kernel
theorem dL_addSeries_12 : decode cL_addSeries 12 = .ok (.astore_n 3, 1) := by decide +kernel
theorem dL_addSeries_13 : decode cL_addSeries 13 = .ok (.iconst 1, 1) := by decide +kernel
theorem dL_addSeries_14 : decode cL_addSeries 14 = .ok (.ireturn, 1) := by decide +kernel
theorem dL_addSeries_15 : decode cL_addSeries 15 = .ok (.astore_n 3, 1) := by decide +kernel
theorem dL_addSeries_16 : decode cL_addSeries 16 = .ok (.iconst 2, 1) := by decide +kernel
theorem dL_addSeries_17 : decode cL_addSeries 17 = .ok (.ireturn, 1) := by decide +kernel
theorem dL_addSeries_18 : decode cL_addSeries 18 = .ok (.iconst 0, 1) := by decide +kernel
theorem dL_addSeries_19 : decode cL_addSeries 19 = .ok (.ireturn, 1) := by decide +kernel
set_option maxRecDepth 400000 in
theorem ggL_put_X5_put : GoodIn wsL_put wsX5_put := goodIn_ca (goodIn_ca (goodIn_ca (goodIn_r _ [8, 9, 10, 11, 7, 12, 13, 14, 15, 16, 17, 18, 19, 20, 21, 22, 23, 24, 25, 26, 27, 28, 29, 30, 31, 32, 33, 34, 35, 36, 37, 38, 39, 40, 41, 42, 43, 44, 45, 46, 47, 48, 49, 50, 51, 52, 53, 54, 55, 56, 57, 58, 59, 60, 61, 62, 63, 64, 65, 66, 67, 68, 69, 70, 71, 72, 73, 74, 75, 76, 77, 78, 79, 80, 81, 82, 83, 84, 85, 86, 87, 88, 89, 90, 91, 92, 93, 94, 95, 96, 97, 98, 99, 100, 101, 102, 103, 104, 105, 106, 107, 108, 109, 110, 111, 112, 113, 114, 115, 116, 117, 118, 119, 120, 121, 122, 123, 124, 125, 126, 127, 128, 129, 130, 131, 132, 133, 134, 135, 136, 137, 138, 139, 140, 141, 142, 143, 144, 145, 146, 147, 148, 149, 150, 151, 152, 153, 154, 155, 156, 157, 158, 159, 160, 161, 162, 163, 164, 165, 166, 167, 168, 169, 170, 171, 172, 173, 174, 175, 176, 177, 178, 179, 180, 181, 182, 183, 184, 185, 186, 187, 188, 189, 190, 191, 192, 193, 194, 195] rfl (by decide +kernel)) (goodIn_sub (fun _ h => List.mem_cons_of_mem _ (List.mem_append_left _ (List.mem_append_left _ (List.mem_append_right _ h)))) (by decide +kernel))) (goodIn_sub (fun _ h => List.mem_cons_of_mem _ (List.mem_append_left _ (List.mem_append_right _ h))) (by decide +kernel))) (goodIn_sub (fun _ h => List.mem_cons_of_mem _ (List.mem_append_right _ h)) (by decide +kernel))
set_option maxRecDepth 20000 in
theorem gL_put_X5_put : GoodIn wsL_put (wsV RL 17 RX5 yX5_put wsX5_put) := goodIn_app (goodIn_of _ (by decide +kernel)) ggL_put_X5_put
theorem dL_put_0 : decode cL_put 0 = .ok (.aload 4, 2) := by decide +kernel
theorem dL_put_2 : decode cL_put 2 = .ok (.iconst 0, 1) := by decide +kernel
theorem dL_put_3 : decode cL_put 3 = .ok (.aload_n 0, 1) := by decide +kernel
theorem dL_put_4 : decode cL_put 4 = .ok (.iload_n 1, 1) := by decide +kernel
theorem dL_put_5 : decode cL_put 5 = .ok (.iload_n 2, 1) := by decide +kernel
theorem dL_put_6 : decode cL_put 6 = .ok (.iload_n 3, 1) := by decide +kernel
theorem dL_put_7 : decode cL_put 7 = .ok (.invokevirtual 17, 3) := by decide +kernel
theorem dL_put_10 : decode cL_put 10 = .ok (.ifCond .eq 7, 3) := by decide +kernel
theorem dL_put_13 : decode cL_put 13 = .ok (.lconst 1, 1) := by decide +kernel
theorem dL_put_14 : decode cL_put 14 = .ok (.goto 4, 3) := by decide +kernel
theorem dL_put_17 : decode cL_put 17 = .ok (.lconst 0, 1) := by decide +kernel
theorem dL_put_18 : decode cL_put 18 = .ok (.lastore, 1) := by decide +kernel
theorem dL_put_19 : decode cL_put 19 = .ok (.goto 15, 3) := by decide +kernel
theorem dL_put_22 : decode cL_put 22 = .ok (.astore 5, 2) := by decide +kernel
theorem dL_put_24 : decode cL_put 24 = .ok (.iconst 1, 1) := by decide +kernel
theorem dL_put_25 : decode cL_put 25 = .ok (.ireturn, 1) := by decide +kernel
theorem dL_put_26 : decode cL_put 26 = .ok (.astore 5, 2) := by decide +kernel
theorem dL_put_28 : decode cL_put 28 = .ok (.iconst 2, 1) := by decide +kernel
theorem dL_put_29 : decode cL_put 29 = .ok (.ireturn, 1) := by decide +kernel
theorem dL_put_30 : decode cL_put 30 = .ok (.astore 5, 2) := by decide +kernel
theorem dL_put_32 : decode cL_put 32 = .ok (.iconst 3, 1) := by decide +kernel
theorem dL_put_33 : decode cL_put 33 = .ok (.ireturn, 1) := by decide +kernel
theorem dL_put_34 : decode cL_put 34 = .ok (.iconst 0, 1) := by decide +kernel
theorem dL_put_35 : decode cL_put 35 = .ok (.ireturn, 1) := by decide +kernel
set_option maxRecDepth 400000 in
theorem ggL_putMany_X5_putMany : GoodIn wsL_putMany wsX5_putMany := goodIn_ca (goodIn_ca (goodIn_ca (goodIn_r _ [8, 9, 10, 11, 7, 12, 13, 14, 15, 16, 17, 18, 19, 20, 21, 22, 23, 24, 25, 26, 27, 28, 29, 30, 31, 32, 33, 34, 35, 36, 37, 38, 39, 40, 41, 42, 43, 44, 45, 46, 47, 48, 49, 50, 51, 52, 53, 54, 55, 56, 57, 58, 59, 60, 61, 62, 63, 64, 65, 66, 67, 68, 69, 70, 71, 72, 73, 74, 75, 76, 77, 78, 79, 80, 81, 82, 83, 84, 85, 86, 87, 88, 89, 90, 91, 92, 93, 94, 95, 96, 97, 98, 99, 100, 101, 102, 103, 104, 105, 106, 107, 108, 109, 110, 111, 112, 113, 114, 115, 116, 117, 118, 119, 120, 121, 122, 123, 124, 125, 126, 127, 128, 129, 130, 131, 132, 133, 134, 135, 136, 137, 138, 139, 140, 141, 142, 143, 144, 145, 146, 147, 148, 149, 150, 151, 152, 153, 154, 155, 156, 157, 158, 159, 160, 161, 162, 163, 164, 165, 166, 167, 168, 169, 170, 171, 172, 173, 174, 175, 176, 177, 178, 179, 180, 181, 182, 183, 184, 185, 186, 187, 188, 189, 190, 191, 192, 193, 194, 195, 196, 197, 198] rfl (by decide +kernel)) (goodIn_sub (fun _ h => List.mem_cons_of_mem _ (List.mem_append_left _ (List.mem_append_left _ (List.mem_append_right _ h)))) (by decide +kernel))) (goodIn_sub (fun _ h => List.mem_cons_of_mem _ (List.mem_append_left _ (List.mem_append_right _ h))) (by decide +kernel))) (goodIn_sub (fun _ h => List.mem_cons_of_mem _ (List.mem_append_right _ h)) (by decide +kernel))
set_option maxRecDepth 20000 in
theorem gL_putMany_X5_putMany : GoodIn wsL_putMany (wsV RL 23 RX5 yX5_putMany wsX5_putMany) := goodIn_app (goodIn_of _ (by decide +kernel)) ggL_putMany_X5_putMany
theorem dL_putMany_0 : decode cL_putMany 0 = .ok (.aload 7, 2) := by decide +kernel
theorem dL_putMany_2 : decode cL_putMany 2 = .ok (.iconst 0, 1) := by decide +kernel
theorem dL_putMany_3 : decode cL_putMany 3 = .ok (.aload_n 0, 1) := by decide +kernel
theorem dL_putMany_4 : decode cL_putMany 4 = .ok (.iload_n 1, 1) := by decide +kernel
theorem dL_putMany_5 : decode cL_putMany 5 = .ok (.iload_n 2, 1) := by decide +kernel
theorem dL_putMany_6 : decode cL_putMany 6 = .ok (.iload_n 3, 1) := by decide +kernel
theorem dL_putMany_7 : decode cL_putMany 7 = .ok (.iload 4, 2) := by decide +kernel
theorem dL_putMany_9 : decode cL_putMany 9 = .ok (.iload 5, 2) := by decide +kernel
theorem dL_putMany_11 : decode cL_putMany 11 = .ok (.iload 6, 2) := by decide +kernel
theorem dL_putMany_13 : decode cL_putMany 13 = .ok (.invokevirtual 23, 3) := by decide +kernel
theorem dL_putMany_16 : decode cL_putMany 16 = .ok (.i2l, 1) := by decide +kernel
theorem dL_putMany_17 : decode cL_putMany 17 = .ok (.lastore, 1) := by decide +kernel
theorem dL_putMany_18 : decode cL_putMany 18 = .ok (.goto 15, 3) := by decide +kernel
theorem dL_putMany_21 : decode cL_putMany 21 = .ok (.astore 8, 2) := by decide +kernel
theorem dL_putMany_23 : decode cL_putMany 23 = .ok (.iconst 1, 1) := by decide +kernel
theorem dL_putMany_24 : decode cL_putMany 24 = .ok (.ireturn, 1) := by decide +kernel
theorem dL_putMany_25 : decode cL_putMany 25 = .ok (.astore 8, 2) := by decide +kernel
theorem dL_putMany_27 : decode cL_putMany 27 = .ok (.iconst 2, 1) := by decide +kernel
theorem dL_putMany_28 : decode cL_putMany 28 = .ok (.ireturn, 1) := by decide +kernel
theorem dL_putMany_29 : decode cL_putMany 29 = .ok (.astore 8, 2) := by decide +kernel
theorem dL_putMany_31 : decode cL_putMany 31 = .ok (.iconst 3, 1) := by decide +kernel
theorem dL_putMany_32 : decode cL_putMany 32 = .ok (.ireturn, 1) := by decide +kernel
theorem dL_putMany_33 : decode cL_putMany 33 = .ok (.iconst 0, 1) := by decide +kernel
theorem dL_putMany_34 : decode cL_putMany 34 = .ok (.ireturn, 1) := by decide +kernel
set_option maxRecDepth 400000 in
theorem ggL_erase_X5_erase : GoodIn wsL_erase wsX5_erase := goodIn_ca (goodIn_ca (goodIn_r _ [7, 8, 9, 10, 11, 12, 13, 14, 6, 15, 16, 17, 18, 19, 20, 21, 22, 23, 24, 25, 26, 27, 28, 29, 30, 31, 32, 33, 34, 35, 36, 37, 38, 39, 40, 41, 42, 43, 44, 45, 46, 47, 48, 49, 50, 51, 52, 53, 54, 55, 56, 57, 58, 59, 60, 61, 62, 63, 64, 65, 66, 67, 68, 69, 70, 71, 72, 73, 74, 75, 76, 77, 78, 79, 80, 81, 82, 83, 84, 85, 86, 87, 88, 89, 90, 91, 92, 93, 94, 95, 96, 97, 98, 99, 100, 101, 102, 103, 104, 105, 106, 107, 108, 109, 110, 111, 112, 113, 114, 115, 116, 117, 118, 119, 120, 121, 122, 123, 124, 125, 126, 127, 128, 129, 130, 131, 132, 133, 134, 135, 136, 137, 138, 139, 140, 141, 142, 143, 144, 145, 146, 147, 148, 149, 150, 151, 152, 153, 154, 155, 156, 157, 158, 159, 160, 161, 162, 163, 164, 165, 166, 167, 168, 169, 170, 171, 172, 173, 174, 175] rfl (by decide +kernel)) (goodIn_sub (fun _ h => List.mem_cons_of_mem _ (List.mem_append_left _ (List.mem_append_right _ h))) (by decide +kernel))) (goodIn_sub (fun _ h => List.mem_cons_of_mem _ (List.mem_append_right _ h)) (by decide +kernel))
set_option maxRecDepth 20000 in
theorem gL_erase_X5_erase : GoodIn wsL_erase (wsV RL 27 RX5 yX5_erase wsX5_erase) := goodIn_app (goodIn_of _ (by decide +kernel)) ggL_erase_X5_erase
theorem dL_erase_0 : decode cL_erase 0 = .ok (.aload_n 3, 1) := by decide +kernel
theorem dL_erase_1 : decode cL_erase 1 = .ok (.iconst 0, 1) := by decide +kernel
theorem dL_erase_2 : decode cL_erase 2 = .ok (.aload_n 0, 1) := by decide +kernel
theorem dL_erase_3 : decode cL_erase 3 = .ok (.iload_n 1, 1) := by decide +kernel
theorem dL_erase_4 : decode cL_erase 4 = .ok (.iload_n 2, 1) := by decide +kernel
theorem dL_erase_5 : decode cL_erase 5 = .ok (.invokevirtual 27, 3) := by decide +kernel
theorem dL_erase_8 : decode cL_erase 8 = .ok (.i2l, 1) := by decide +kernel
theorem dL_erase_9 : decode cL_erase 9 = .ok (.lastore, 1) := by decide +kernel
theorem dL_erase_10 : decode cL_erase 10 = .ok (.goto 11, 3) := by decide +kernel
theorem dL_erase_13 : decode cL_erase 13 = .ok (.astore 4, 2) := by decide +kernel
theorem dL_erase_15 : decode cL_erase 15 = .ok (.iconst 1, 1) := by decide +kernel
theorem dL_erase_16 : decode cL_erase 16 = .ok (.ireturn, 1) := by decide +kernel
theorem dL_erase_17 : decode cL_erase 17 = .ok (.astore 4, 2) := by decide +kernel
theorem dL_erase_19 : decode cL_erase 19 = .ok (.iconst 2, 1) := by decide +kernel
theorem dL_erase_20 : decode cL_erase 20 = .ok (.ireturn, 1) := by decide +kernel
theorem dL_erase_21 : decode cL_erase 21 = .ok (.iconst 0, 1) := by decide +kernel
theorem dL_erase_22 : decode cL_erase 22 = .ok (.ireturn, 1) := by decide +kernel
set_option maxRecDepth 400000 in
theorem ggL_advance_X5_advance : GoodIn wsL_advance wsX5_advance := goodIn_ca (goodIn_ca (goodIn_r _ [6, 7, 8, 9, 10, 11, 12, 13, 14, 15, 5, 16, 17, 18, 19, 20, 21, 22, 23, 24, 25, 26, 27, 28, 29, 30, 31, 32, 33, 34, 35, 36, 37, 38, 39, 40, 41, 42, 43, 44, 45, 46, 47, 48, 49, 50, 51, 52, 53, 54, 55, 56, 57, 58, 59, 60, 61, 62, 63, 64, 65, 66, 67, 68, 69, 70, 71, 72, 73, 74, 75, 76, 77, 78, 79, 80, 81, 82, 83, 84, 85, 86, 87, 88, 89, 90, 91, 92, 93, 94, 95, 96, 97, 98, 99, 100, 101, 102, 103, 104, 105, 106, 107, 108, 109, 110, 111, 112, 113, 114, 115] rfl (by decide +kernel)) (goodIn_sub (fun _ h => List.mem_cons_of_mem _ (List.mem_append_left _ (List.mem_append_right _ h))) (by decide +kernel))) (goodIn_sub (fun _ h => List.mem_cons_of_mem _ (List.mem_append_right _ h)) (by decide +kernel))
set_option maxRecDepth 20000 in
theorem gL_advance_X5_advance : GoodIn wsL_advance (wsV RL 31 RX5 yX5_advance wsX5_advance) := goodIn_app (goodIn_of _ (by decide +kernel)) ggL_advance_X5_advance
theorem dL_advance_0 : decode cL_advance 0 = .ok (.aload_n 2, 1) := by decide +kernel
theorem dL_advance_1 : decode cL_advance 1 = .ok (.iconst 0, 1) := by decide +kernel
theorem dL_advance_2 : decode cL_advance 2 = .ok (.aload_n 0, 1) := by decide +kernel
theorem dL_advance_3 : decode cL_advance 3 = .ok (.iload_n 1, 1) := by decide +kernel
theorem dL_advance_4 : decode cL_advance 4 = .ok (.invokevirtual 31, 3) := by decide +kernel
theorem dL_advance_7 : decode cL_advance 7 = .ok (.i2l, 1) := by decide +kernel
theorem dL_advance_8 : decode cL_advance 8 = .ok (.lastore, 1) := by decide +kernel
theorem dL_advance_9 : decode cL_advance 9 = .ok (.goto 6, 3) := by decide +kernel
theorem dL_advance_12 : decode cL_advance 12 = .ok (.astore_n 3, 1) := by decide +kernel
theorem dL_advance_13 : decode cL_advance 13 = .ok (.iconst 1, 1) := by decide +kernel
theorem dL_advance_14 : decode cL_advance 14 = .ok (.ireturn, 1) := by decide +kernel
theorem dL_advance_15 : decode cL_advance 15 = .ok (.iconst 0, 1) := by decide +kernel
theorem dL_advance_16 : decode cL_advance 16 = .ok (.ireturn, 1) := by decide +kernel
set_option maxRecDepth 400000 in
theorem ggL_setRetention_X5_setRetention : GoodIn wsL_setRetention wsX5_setRetention := goodIn_ca (goodIn_ca (goodIn_r _ [6, 7, 8, 9, 10, 11, 5, 12, 13, 14, 15, 16, 17, 18, 19, 20, 21, 22, 23, 24, 25, 26, 27, 28, 29, 30, 31, 32, 33, 34, 35, 36, 37, 38, 39, 40, 41, 42, 43, 44, 45, 46, 47, 48, 49, 50, 51, 52, 53, 54, 55, 56, 57, 58, 59, 60, 61, 62, 63, 64, 65, 66, 67, 68, 69, 70, 71, 72, 73, 74, 75, 76, 77, 78, 79, 80, 81, 82, 83, 84, 85, 86, 87, 88, 89, 90, 91, 92, 93, 94, 95, 96, 97, 98, 99, 100, 101, 102, 103, 104, 105, 106, 107, 108, 109, 110, 111, 112] rfl (by decide +kernel)) (goodIn_sub (fun _ h => List.mem_cons_of_mem _ (List.mem_append_left _ (List.mem_append_right _ h))) (by decide +kernel))) (goodIn_sub (fun _ h => List.mem_cons_of_mem _ (List.mem_append_right _ h)) (by decide +kernel))
set_option maxRecDepth 20000 in
theorem gL_setRetention_X5_setRetention : GoodIn wsL_setRetention (wsV RL 34 RX5 yX5_setRetention wsX5_setRetention) := goodIn_app (goodIn_of _ (by decide +kernel)) ggL_setRetention_X5_setRetention
theorem dL_setRetention_0 : decode cL_setRetention 0 = .ok (.aload_n 3, 1) := by decide +kernel
theorem dL_setRetention_1 : decode cL_setRetention 1 = .ok (.iconst 0, 1) := by decide +kernel
theorem dL_setRetention_2 : decode cL_setRetention 2 = .ok (.aload_n 0, 1) := by decide +kernel
theorem dL_setRetention_3 : decode cL_setRetention 3 = .ok (.iload_n 1, 1) := by decide +kernel
theorem dL_setRetention_4 : decode cL_setRetention 4 = .ok (.iload_n 2, 1) := by decide +kernel
theorem dL_setRetention_5 : decode cL_setRetention 5 = .ok (.invokevirtual 34, 3) := by decide +kernel
theorem dL_setRetention_8 : decode cL_setRetention 8 = .ok (.i2l, 1) := by decide +kernel
theorem dL_setRetention_9 : decode cL_setRetention 9 = .ok (.lastore, 1) := by decide +kernel
theorem dL_setRetention_10 : decode cL_setRetention 10 = .ok (.goto 7, 3) := by decide +kernel
theorem dL_setRetention_13 : decode cL_setRetention 13 = .ok (.astore 4, 2) := by decide +kernel
theorem dL_setRetention_15 : decode cL_setRetention 15 = .ok (.iconst 1, 1) := by decide +kernel
theorem dL_setRetention_16 : decode cL_setRetention 16 = .ok (.ireturn, 1) := by decide +kernel
theorem dL_setRetention_17 : decode cL_setRetention 17 = .ok (.iconst 0, 1) := by decide +kernel
theorem dL_setRetention_18 : decode cL_setRetention 18 = .ok (.ireturn, 1) := by decide +kernel
set_option maxRecDepth 400000 in
theorem ggL_horizon_X5_horizon : GoodIn wsL_horizon wsX5_horizon := goodIn_ca (goodIn_r _ [6, 7, 8, 9, 5, 10, 11, 12, 13, 14, 15, 16, 17, 18, 19] rfl (by decide +kernel)) (goodIn_sub (fun _ h => List.mem_cons_of_mem _ (List.mem_append_right _ h)) (by decide +kernel))
set_option maxRecDepth 20000 in
theorem gL_horizon_X5_horizon : GoodIn wsL_horizon (wsV RL 37 RX5 yX5_horizon wsX5_horizon) := goodIn_app (goodIn_of _ (by decide +kernel)) ggL_horizon_X5_horizon
theorem dL_horizon_0 : decode cL_horizon 0 = .ok (.aload_n 2, 1) := by decide +kernel
theorem dL_horizon_1 : decode cL_horizon 1 = .ok (.iconst 0, 1) := by decide +kernel
theorem dL_horizon_2 : decode cL_horizon 2 = .ok (.aload_n 0, 1) := by decide +kernel
theorem dL_horizon_3 : decode cL_horizon 3 = .ok (.iload_n 1, 1) := by decide +kernel
theorem dL_horizon_4 : decode cL_horizon 4 = .ok (.invokevirtual 37, 3) := by decide +kernel
theorem dL_horizon_7 : decode cL_horizon 7 = .ok (.i2l, 1) := by decide +kernel
theorem dL_horizon_8 : decode cL_horizon 8 = .ok (.lastore, 1) := by decide +kernel
theorem dL_horizon_9 : decode cL_horizon 9 = .ok (.goto 6, 3) := by decide +kernel
theorem dL_horizon_12 : decode cL_horizon 12 = .ok (.astore_n 3, 1) := by decide +kernel
theorem dL_horizon_13 : decode cL_horizon 13 = .ok (.iconst 1, 1) := by decide +kernel
theorem dL_horizon_14 : decode cL_horizon 14 = .ok (.ireturn, 1) := by decide +kernel
theorem dL_horizon_15 : decode cL_horizon 15 = .ok (.iconst 0, 1) := by decide +kernel
theorem dL_horizon_16 : decode cL_horizon 16 = .ok (.ireturn, 1) := by decide +kernel
set_option maxRecDepth 400000 in
theorem ggL_rows_X5_rows : GoodIn wsL_rows wsX5_rows := goodIn_ca (goodIn_ca (goodIn_r _ [7, 8, 9, 10, 6, 11, 12, 13, 14, 15, 16, 17, 18, 19, 20, 21, 22, 23, 24, 25, 26, 27, 28, 29, 30, 31, 32, 33, 34, 35, 36, 37, 38, 39, 40, 41, 42, 43, 44, 45, 46, 47, 48, 49, 50, 51, 52, 53] rfl (by decide +kernel)) (goodIn_sub (fun _ h => List.mem_cons_of_mem _ (List.mem_append_left _ (List.mem_append_right _ h))) (by decide +kernel))) (goodIn_sub (fun _ h => List.mem_cons_of_mem _ (List.mem_append_right _ h)) (by decide +kernel))
set_option maxRecDepth 20000 in
theorem gL_rows_X5_rows : GoodIn wsL_rows (wsV RL 40 RX5 yX5_rows wsX5_rows) := goodIn_app (goodIn_of _ (by decide +kernel)) ggL_rows_X5_rows
theorem dL_rows_0 : decode cL_rows 0 = .ok (.aload_n 3, 1) := by decide +kernel
theorem dL_rows_1 : decode cL_rows 1 = .ok (.iconst 0, 1) := by decide +kernel
theorem dL_rows_2 : decode cL_rows 2 = .ok (.aload_n 0, 1) := by decide +kernel
theorem dL_rows_3 : decode cL_rows 3 = .ok (.iload_n 1, 1) := by decide +kernel
theorem dL_rows_4 : decode cL_rows 4 = .ok (.iload_n 2, 1) := by decide +kernel
theorem dL_rows_5 : decode cL_rows 5 = .ok (.invokevirtual 40, 3) := by decide +kernel
theorem dL_rows_8 : decode cL_rows 8 = .ok (.i2l, 1) := by decide +kernel
theorem dL_rows_9 : decode cL_rows 9 = .ok (.lastore, 1) := by decide +kernel
theorem dL_rows_10 : decode cL_rows 10 = .ok (.goto 11, 3) := by decide +kernel
theorem dL_rows_13 : decode cL_rows 13 = .ok (.astore 4, 2) := by decide +kernel
theorem dL_rows_15 : decode cL_rows 15 = .ok (.iconst 1, 1) := by decide +kernel
theorem dL_rows_16 : decode cL_rows 16 = .ok (.ireturn, 1) := by decide +kernel
theorem dL_rows_17 : decode cL_rows 17 = .ok (.astore 4, 2) := by decide +kernel
theorem dL_rows_19 : decode cL_rows 19 = .ok (.iconst 2, 1) := by decide +kernel
theorem dL_rows_20 : decode cL_rows 20 = .ok (.ireturn, 1) := by decide +kernel
theorem dL_rows_21 : decode cL_rows 21 = .ok (.iconst 0, 1) := by decide +kernel
theorem dL_rows_22 : decode cL_rows 22 = .ok (.ireturn, 1) := by decide +kernel
set_option maxRecDepth 400000 in
theorem ggL_timeOf_X5_timeOf : GoodIn wsL_timeOf wsX5_timeOf := goodIn_ca (goodIn_ca (goodIn_ca (goodIn_r _ [8, 9, 10, 11, 12, 13, 14, 15, 7, 16, 17, 18, 19, 20, 21, 22, 23, 24, 25, 26, 27, 28, 29, 30, 31, 32, 33, 34, 35, 36, 37, 38, 39, 40, 41, 42, 43, 44, 45, 46, 47, 48, 49, 50, 51, 52, 53, 54, 55, 56, 57, 58, 59, 60, 61, 62, 63, 64, 65, 66, 67, 68, 69, 70, 71] rfl (by decide +kernel)) (goodIn_sub (fun _ h => List.mem_cons_of_mem _ (List.mem_append_left _ (List.mem_append_left _ (List.mem_append_right _ h)))) (by decide +kernel))) (goodIn_sub (fun _ h => List.mem_cons_of_mem _ (List.mem_append_left _ (List.mem_append_right _ h))) (by decide +kernel))) (goodIn_sub (fun _ h => List.mem_cons_of_mem _ (List.mem_append_right _ h)) (by decide +kernel))
set_option maxRecDepth 20000 in
theorem gL_timeOf_X5_timeOf : GoodIn wsL_timeOf (wsV RL 43 RX5 yX5_timeOf wsX5_timeOf) := goodIn_app (goodIn_of _ (by decide +kernel)) ggL_timeOf_X5_timeOf
theorem dL_timeOf_0 : decode cL_timeOf 0 = .ok (.aload 4, 2) := by decide +kernel
theorem dL_timeOf_2 : decode cL_timeOf 2 = .ok (.iconst 0, 1) := by decide +kernel
theorem dL_timeOf_3 : decode cL_timeOf 3 = .ok (.aload_n 0, 1) := by decide +kernel
theorem dL_timeOf_4 : decode cL_timeOf 4 = .ok (.iload_n 1, 1) := by decide +kernel
theorem dL_timeOf_5 : decode cL_timeOf 5 = .ok (.iload_n 2, 1) := by decide +kernel
theorem dL_timeOf_6 : decode cL_timeOf 6 = .ok (.iload_n 3, 1) := by decide +kernel
theorem dL_timeOf_7 : decode cL_timeOf 7 = .ok (.invokevirtual 43, 3) := by decide +kernel
theorem dL_timeOf_10 : decode cL_timeOf 10 = .ok (.i2l, 1) := by decide +kernel
theorem dL_timeOf_11 : decode cL_timeOf 11 = .ok (.lastore, 1) := by decide +kernel
theorem dL_timeOf_12 : decode cL_timeOf 12 = .ok (.goto 15, 3) := by decide +kernel
theorem dL_timeOf_15 : decode cL_timeOf 15 = .ok (.astore 5, 2) := by decide +kernel
theorem dL_timeOf_17 : decode cL_timeOf 17 = .ok (.iconst 1, 1) := by decide +kernel
theorem dL_timeOf_18 : decode cL_timeOf 18 = .ok (.ireturn, 1) := by decide +kernel
theorem dL_timeOf_19 : decode cL_timeOf 19 = .ok (.astore 5, 2) := by decide +kernel
theorem dL_timeOf_21 : decode cL_timeOf 21 = .ok (.iconst 2, 1) := by decide +kernel
theorem dL_timeOf_22 : decode cL_timeOf 22 = .ok (.ireturn, 1) := by decide +kernel
theorem dL_timeOf_23 : decode cL_timeOf 23 = .ok (.astore 5, 2) := by decide +kernel
theorem dL_timeOf_25 : decode cL_timeOf 25 = .ok (.iconst 3, 1) := by decide +kernel
theorem dL_timeOf_26 : decode cL_timeOf 26 = .ok (.ireturn, 1) := by decide +kernel
theorem dL_timeOf_27 : decode cL_timeOf 27 = .ok (.iconst 0, 1) := by decide +kernel
theorem dL_timeOf_28 : decode cL_timeOf 28 = .ok (.ireturn, 1) := by decide +kernel
set_option maxRecDepth 400000 in
theorem ggL_valueAt_X5_valueAt : GoodIn wsL_valueAt wsX5_valueAt := goodIn_ca (goodIn_ca (goodIn_r _ [7, 8, 9, 10, 11, 12, 6, 13, 14, 15, 16, 17, 18, 19, 20, 21, 22, 23, 24, 25, 26, 27, 28, 29, 30, 31, 32, 33, 34, 35, 36, 37, 38, 39, 40, 41, 42, 43, 44, 45, 46, 47, 48] rfl (by decide +kernel)) (goodIn_sub (fun _ h => List.mem_cons_of_mem _ (List.mem_append_left _ (List.mem_append_right _ h))) (by decide +kernel))) (goodIn_sub (fun _ h => List.mem_cons_of_mem _ (List.mem_append_right _ h)) (by decide +kernel))
set_option maxRecDepth 20000 in
theorem gL_valueAt_X5_valueAt : GoodIn wsL_valueAt (wsV RL 47 RX5 yX5_valueAt wsX5_valueAt) := goodIn_app (goodIn_of _ (by decide +kernel)) ggL_valueAt_X5_valueAt
theorem dL_valueAt_0 : decode cL_valueAt 0 = .ok (.aload_n 3, 1) := by decide +kernel
theorem dL_valueAt_1 : decode cL_valueAt 1 = .ok (.iconst 0, 1) := by decide +kernel
theorem dL_valueAt_2 : decode cL_valueAt 2 = .ok (.aload_n 0, 1) := by decide +kernel
theorem dL_valueAt_3 : decode cL_valueAt 3 = .ok (.iload_n 1, 1) := by decide +kernel
theorem dL_valueAt_4 : decode cL_valueAt 4 = .ok (.iload_n 2, 1) := by decide +kernel
theorem dL_valueAt_5 : decode cL_valueAt 5 = .ok (.invokevirtual 47, 3) := by decide +kernel
theorem dL_valueAt_8 : decode cL_valueAt 8 = .ok (.i2l, 1) := by decide +kernel
theorem dL_valueAt_9 : decode cL_valueAt 9 = .ok (.lastore, 1) := by decide +kernel
theorem dL_valueAt_10 : decode cL_valueAt 10 = .ok (.goto 11, 3) := by decide +kernel
theorem dL_valueAt_13 : decode cL_valueAt 13 = .ok (.astore 4, 2) := by decide +kernel
theorem dL_valueAt_15 : decode cL_valueAt 15 = .ok (.iconst 1, 1) := by decide +kernel
theorem dL_valueAt_16 : decode cL_valueAt 16 = .ok (.ireturn, 1) := by decide +kernel
theorem dL_valueAt_17 : decode cL_valueAt 17 = .ok (.astore 4, 2) := by decide +kernel
theorem dL_valueAt_19 : decode cL_valueAt 19 = .ok (.iconst 2, 1) := by decide +kernel
theorem dL_valueAt_20 : decode cL_valueAt 20 = .ok (.ireturn, 1) := by decide +kernel
theorem dL_valueAt_21 : decode cL_valueAt 21 = .ok (.iconst 0, 1) := by decide +kernel
theorem dL_valueAt_22 : decode cL_valueAt 22 = .ok (.ireturn, 1) := by decide +kernel
set_option maxRecDepth 400000 in
theorem ggL_hasRollup_X5_hasRollup : GoodIn wsL_hasRollup wsX5_hasRollup := goodIn_ca (goodIn_ca (goodIn_r _ [7, 8, 9, 10, 6, 11, 12, 13, 14, 15, 16, 17, 18, 19, 20, 21, 22, 23, 24, 25, 26, 27, 28, 29, 30, 31, 32, 33, 34, 35, 36, 37, 38, 39, 40, 41, 42, 43, 44, 45, 46, 47, 48, 49, 50, 51, 52, 53, 54, 55, 56, 57, 58, 59, 60, 61, 62, 63, 64, 65, 66, 67, 68, 69, 70, 71, 72, 73, 74, 75, 76, 77, 78, 79, 80, 81, 82] rfl (by decide +kernel)) (goodIn_sub (fun _ h => List.mem_cons_of_mem _ (List.mem_append_left _ (List.mem_append_right _ h))) (by decide +kernel))) (goodIn_sub (fun _ h => List.mem_cons_of_mem _ (List.mem_append_right _ h)) (by decide +kernel))
set_option maxRecDepth 20000 in
theorem gL_hasRollup_X5_hasRollup : GoodIn wsL_hasRollup (wsV RL 50 RX5 yX5_hasRollup wsX5_hasRollup) := goodIn_app (goodIn_of _ (by decide +kernel)) ggL_hasRollup_X5_hasRollup
theorem dL_hasRollup_0 : decode cL_hasRollup 0 = .ok (.aload 4, 2) := by decide +kernel
theorem dL_hasRollup_2 : decode cL_hasRollup 2 = .ok (.iconst 0, 1) := by decide +kernel
theorem dL_hasRollup_3 : decode cL_hasRollup 3 = .ok (.aload_n 0, 1) := by decide +kernel
theorem dL_hasRollup_4 : decode cL_hasRollup 4 = .ok (.iload_n 1, 1) := by decide +kernel
theorem dL_hasRollup_5 : decode cL_hasRollup 5 = .ok (.iload_n 2, 1) := by decide +kernel
theorem dL_hasRollup_6 : decode cL_hasRollup 6 = .ok (.iload_n 3, 1) := by decide +kernel
theorem dL_hasRollup_7 : decode cL_hasRollup 7 = .ok (.invokevirtual 50, 3) := by decide +kernel
theorem dL_hasRollup_10 : decode cL_hasRollup 10 = .ok (.ifCond .eq 7, 3) := by decide +kernel
theorem dL_hasRollup_13 : decode cL_hasRollup 13 = .ok (.lconst 1, 1) := by decide +kernel
theorem dL_hasRollup_14 : decode cL_hasRollup 14 = .ok (.goto 4, 3) := by decide +kernel
theorem dL_hasRollup_17 : decode cL_hasRollup 17 = .ok (.lconst 0, 1) := by decide +kernel
theorem dL_hasRollup_18 : decode cL_hasRollup 18 = .ok (.lastore, 1) := by decide +kernel
theorem dL_hasRollup_19 : decode cL_hasRollup 19 = .ok (.goto 11, 3) := by decide +kernel
theorem dL_hasRollup_22 : decode cL_hasRollup 22 = .ok (.astore 5, 2) := by decide +kernel
theorem dL_hasRollup_24 : decode cL_hasRollup 24 = .ok (.iconst 1, 1) := by decide +kernel
theorem dL_hasRollup_25 : decode cL_hasRollup 25 = .ok (.ireturn, 1) := by decide +kernel
theorem dL_hasRollup_26 : decode cL_hasRollup 26 = .ok (.astore 5, 2) := by decide +kernel
theorem dL_hasRollup_28 : decode cL_hasRollup 28 = .ok (.iconst 2, 1) := by decide +kernel
theorem dL_hasRollup_29 : decode cL_hasRollup 29 = .ok (.ireturn, 1) := by decide +kernel
theorem dL_hasRollup_30 : decode cL_hasRollup 30 = .ok (.iconst 0, 1) := by decide +kernel
theorem dL_hasRollup_31 : decode cL_hasRollup 31 = .ok (.ireturn, 1) := by decide +kernel
set_option maxRecDepth 400000 in
theorem ggL_count_X5_count : GoodIn wsL_count wsX5_count := goodIn_ca (goodIn_ca (goodIn_ca (goodIn_r _ [8, 9, 10, 11, 12, 7, 13, 14, 15, 16, 17, 18, 19, 20, 21, 22, 23, 24, 25, 26, 27, 28, 29, 30, 31, 32, 33, 34, 35, 36, 37, 38, 39, 40, 41, 42, 43, 44, 45, 46, 47, 48, 49, 50, 51, 52, 53, 54, 55, 56, 57, 58, 59, 60, 61, 62, 63, 64, 65, 66, 67, 68, 69, 70, 71, 72, 73, 74, 75, 76, 77, 78, 79, 80, 81, 82, 83, 84, 85, 86, 87, 88, 89, 90] rfl (by decide +kernel)) (goodIn_sub (fun _ h => List.mem_cons_of_mem _ (List.mem_append_left _ (List.mem_append_left _ (List.mem_append_right _ h)))) (by decide +kernel))) (goodIn_sub (fun _ h => List.mem_cons_of_mem _ (List.mem_append_left _ (List.mem_append_right _ h))) (by decide +kernel))) (goodIn_sub (fun _ h => List.mem_cons_of_mem _ (List.mem_append_right _ h)) (by decide +kernel))
set_option maxRecDepth 20000 in
theorem gL_count_X5_count : GoodIn wsL_count (wsV RL 53 RX5 yX5_count wsX5_count) := goodIn_app (goodIn_of _ (by decide +kernel)) ggL_count_X5_count
theorem dL_count_0 : decode cL_count 0 = .ok (.aload 4, 2) := by decide +kernel
theorem dL_count_2 : decode cL_count 2 = .ok (.iconst 0, 1) := by decide +kernel
theorem dL_count_3 : decode cL_count 3 = .ok (.aload_n 0, 1) := by decide +kernel
theorem dL_count_4 : decode cL_count 4 = .ok (.iload_n 1, 1) := by decide +kernel
theorem dL_count_5 : decode cL_count 5 = .ok (.iload_n 2, 1) := by decide +kernel
theorem dL_count_6 : decode cL_count 6 = .ok (.iload_n 3, 1) := by decide +kernel
theorem dL_count_7 : decode cL_count 7 = .ok (.invokevirtual 53, 3) := by decide +kernel
theorem dL_count_10 : decode cL_count 10 = .ok (.i2l, 1) := by decide +kernel
theorem dL_count_11 : decode cL_count 11 = .ok (.lastore, 1) := by decide +kernel
theorem dL_count_12 : decode cL_count 12 = .ok (.goto 15, 3) := by decide +kernel
theorem dL_count_15 : decode cL_count 15 = .ok (.astore 5, 2) := by decide +kernel
theorem dL_count_17 : decode cL_count 17 = .ok (.iconst 1, 1) := by decide +kernel
theorem dL_count_18 : decode cL_count 18 = .ok (.ireturn, 1) := by decide +kernel
theorem dL_count_19 : decode cL_count 19 = .ok (.astore 5, 2) := by decide +kernel
theorem dL_count_21 : decode cL_count 21 = .ok (.iconst 2, 1) := by decide +kernel
theorem dL_count_22 : decode cL_count 22 = .ok (.ireturn, 1) := by decide +kernel
theorem dL_count_23 : decode cL_count 23 = .ok (.astore 5, 2) := by decide +kernel
theorem dL_count_25 : decode cL_count 25 = .ok (.iconst 3, 1) := by decide +kernel
theorem dL_count_26 : decode cL_count 26 = .ok (.ireturn, 1) := by decide +kernel
theorem dL_count_27 : decode cL_count 27 = .ok (.iconst 0, 1) := by decide +kernel
theorem dL_count_28 : decode cL_count 28 = .ok (.ireturn, 1) := by decide +kernel
set_option maxRecDepth 400000 in
theorem ggL_sum_X5_sum : GoodIn wsL_sum wsX5_sum := goodIn_ca (goodIn_ca (goodIn_ca (goodIn_r _ [8, 9, 10, 11, 12, 7, 13, 14, 15, 16, 17, 18, 19, 20, 21, 22, 23, 24, 25, 26, 27, 28, 29, 30, 31, 32, 33, 34, 35, 36, 37, 38, 39, 40, 41, 42, 43, 44, 45, 46, 47, 48, 49, 50, 51, 52, 53, 54, 55, 56, 57, 58, 59, 60, 61, 62, 63, 64, 65, 66, 67, 68, 69, 70, 71, 72, 73, 74, 75, 76, 77, 78, 79, 80, 81, 82, 83, 84, 85, 86, 87, 88, 89, 90] rfl (by decide +kernel)) (goodIn_sub (fun _ h => List.mem_cons_of_mem _ (List.mem_append_left _ (List.mem_append_left _ (List.mem_append_right _ h)))) (by decide +kernel))) (goodIn_sub (fun _ h => List.mem_cons_of_mem _ (List.mem_append_left _ (List.mem_append_right _ h))) (by decide +kernel))) (goodIn_sub (fun _ h => List.mem_cons_of_mem _ (List.mem_append_right _ h)) (by decide +kernel))
set_option maxRecDepth 20000 in
theorem gL_sum_X5_sum : GoodIn wsL_sum (wsV RL 56 RX5 yX5_sum wsX5_sum) := goodIn_app (goodIn_of _ (by decide +kernel)) ggL_sum_X5_sum
theorem dL_sum_0 : decode cL_sum 0 = .ok (.aload 4, 2) := by decide +kernel
theorem dL_sum_2 : decode cL_sum 2 = .ok (.iconst 0, 1) := by decide +kernel
theorem dL_sum_3 : decode cL_sum 3 = .ok (.aload_n 0, 1) := by decide +kernel
theorem dL_sum_4 : decode cL_sum 4 = .ok (.iload_n 1, 1) := by decide +kernel
theorem dL_sum_5 : decode cL_sum 5 = .ok (.iload_n 2, 1) := by decide +kernel
theorem dL_sum_6 : decode cL_sum 6 = .ok (.iload_n 3, 1) := by decide +kernel
theorem dL_sum_7 : decode cL_sum 7 = .ok (.invokevirtual 56, 3) := by decide +kernel
theorem dL_sum_10 : decode cL_sum 10 = .ok (.lastore, 1) := by decide +kernel
theorem dL_sum_11 : decode cL_sum 11 = .ok (.goto 15, 3) := by decide +kernel
theorem dL_sum_14 : decode cL_sum 14 = .ok (.astore 5, 2) := by decide +kernel
theorem dL_sum_16 : decode cL_sum 16 = .ok (.iconst 1, 1) := by decide +kernel
theorem dL_sum_17 : decode cL_sum 17 = .ok (.ireturn, 1) := by decide +kernel
theorem dL_sum_18 : decode cL_sum 18 = .ok (.astore 5, 2) := by decide +kernel
theorem dL_sum_20 : decode cL_sum 20 = .ok (.iconst 2, 1) := by decide +kernel
theorem dL_sum_21 : decode cL_sum 21 = .ok (.ireturn, 1) := by decide +kernel
theorem dL_sum_22 : decode cL_sum 22 = .ok (.astore 5, 2) := by decide +kernel
theorem dL_sum_24 : decode cL_sum 24 = .ok (.iconst 3, 1) := by decide +kernel
theorem dL_sum_25 : decode cL_sum 25 = .ok (.ireturn, 1) := by decide +kernel
theorem dL_sum_26 : decode cL_sum 26 = .ok (.iconst 0, 1) := by decide +kernel
theorem dL_sum_27 : decode cL_sum 27 = .ok (.ireturn, 1) := by decide +kernel
set_option maxRecDepth 400000 in
theorem ggL_average_X5_average : GoodIn wsL_average wsX5_average := goodIn_ca (goodIn_ca (goodIn_ca (goodIn_r _ [8, 9, 10, 11, 12, 13, 14, 15, 16, 17, 7, 18, 19, 20, 21, 22, 23, 24, 25, 26, 27, 28, 29, 30, 31, 32, 33, 34, 35, 36, 37, 38, 39, 40, 41, 42, 43, 44, 45, 46, 47, 48, 49, 50, 51, 52, 53, 54, 55, 56, 57, 58, 59, 60, 61, 62, 63, 64, 65, 66, 67, 68, 69, 70, 71, 72, 73, 74, 75, 76, 77, 78, 79, 80, 81, 82, 83, 84, 85, 86, 87, 88, 89, 90, 91, 92, 93, 94, 95] rfl (by decide +kernel)) (goodIn_sub (fun _ h => List.mem_cons_of_mem _ (List.mem_append_left _ (List.mem_append_left _ (List.mem_append_right _ h)))) (by decide +kernel))) (goodIn_sub (fun _ h => List.mem_cons_of_mem _ (List.mem_append_left _ (List.mem_append_right _ h))) (by decide +kernel))) (goodIn_sub (fun _ h => List.mem_cons_of_mem _ (List.mem_append_right _ h)) (by decide +kernel))
set_option maxRecDepth 20000 in
theorem gL_average_X5_average : GoodIn wsL_average (wsV RL 60 RX5 yX5_average wsX5_average) := goodIn_app (goodIn_of _ (by decide +kernel)) ggL_average_X5_average
theorem dL_average_0 : decode cL_average 0 = .ok (.aload 4, 2) := by decide +kernel
theorem dL_average_2 : decode cL_average 2 = .ok (.iconst 0, 1) := by decide +kernel
theorem dL_average_3 : decode cL_average 3 = .ok (.aload_n 0, 1) := by decide +kernel
theorem dL_average_4 : decode cL_average 4 = .ok (.iload_n 1, 1) := by decide +kernel
theorem dL_average_5 : decode cL_average 5 = .ok (.iload_n 2, 1) := by decide +kernel
theorem dL_average_6 : decode cL_average 6 = .ok (.iload_n 3, 1) := by decide +kernel
theorem dL_average_7 : decode cL_average 7 = .ok (.invokevirtual 60, 3) := by decide +kernel
theorem dL_average_10 : decode cL_average 10 = .ok (.dastore, 1) := by decide +kernel
theorem dL_average_11 : decode cL_average 11 = .ok (.goto 15, 3) := by decide +kernel
theorem dL_average_14 : decode cL_average 14 = .ok (.astore 5, 2) := by decide +kernel
theorem dL_average_16 : decode cL_average 16 = .ok (.iconst 1, 1) := by decide +kernel
theorem dL_average_17 : decode cL_average 17 = .ok (.ireturn, 1) := by decide +kernel
theorem dL_average_18 : decode cL_average 18 = .ok (.astore 5, 2) := by decide +kernel
theorem dL_average_20 : decode cL_average 20 = .ok (.iconst 2, 1) := by decide +kernel
theorem dL_average_21 : decode cL_average 21 = .ok (.ireturn, 1) := by decide +kernel
theorem dL_average_22 : decode cL_average 22 = .ok (.astore 5, 2) := by decide +kernel
theorem dL_average_24 : decode cL_average 24 = .ok (.iconst 3, 1) := by decide +kernel
theorem dL_average_25 : decode cL_average 25 = .ok (.ireturn, 1) := by decide +kernel
theorem dL_average_26 : decode cL_average 26 = .ok (.iconst 0, 1) := by decide +kernel
theorem dL_average_27 : decode cL_average 27 = .ok (.ireturn, 1) := by decide +kernel
set_option maxRecDepth 400000 in
theorem ggL_least_X5_least : GoodIn wsL_least wsX5_least := goodIn_ca (goodIn_ca (goodIn_ca (goodIn_r _ [8, 9, 10, 11, 12, 7, 13, 14, 15, 16, 17, 18, 19, 20, 21, 22, 23, 24, 25, 26, 27, 28, 29, 30, 31, 32, 33, 34, 35, 36, 37, 38, 39, 40, 41, 42, 43, 44, 45, 46, 47, 48, 49, 50, 51, 52, 53, 54, 55, 56, 57, 58, 59, 60, 61, 62, 63, 64, 65, 66, 67, 68, 69, 70, 71, 72, 73, 74, 75, 76, 77, 78, 79, 80, 81, 82, 83, 84, 85, 86, 87, 88, 89, 90] rfl (by decide +kernel)) (goodIn_sub (fun _ h => List.mem_cons_of_mem _ (List.mem_append_left _ (List.mem_append_left _ (List.mem_append_right _ h)))) (by decide +kernel))) (goodIn_sub (fun _ h => List.mem_cons_of_mem _ (List.mem_append_left _ (List.mem_append_right _ h))) (by decide +kernel))) (goodIn_sub (fun _ h => List.mem_cons_of_mem _ (List.mem_append_right _ h)) (by decide +kernel))
set_option maxRecDepth 20000 in
theorem gL_least_X5_least : GoodIn wsL_least (wsV RL 64 RX5 yX5_least wsX5_least) := goodIn_app (goodIn_of _ (by decide +kernel)) ggL_least_X5_least
theorem dL_least_0 : decode cL_least 0 = .ok (.aload 4, 2) := by decide +kernel
theorem dL_least_2 : decode cL_least 2 = .ok (.iconst 0, 1) := by decide +kernel
theorem dL_least_3 : decode cL_least 3 = .ok (.aload_n 0, 1) := by decide +kernel
theorem dL_least_4 : decode cL_least 4 = .ok (.iload_n 1, 1) := by decide +kernel
theorem dL_least_5 : decode cL_least 5 = .ok (.iload_n 2, 1) := by decide +kernel
theorem dL_least_6 : decode cL_least 6 = .ok (.iload_n 3, 1) := by decide +kernel
theorem dL_least_7 : decode cL_least 7 = .ok (.invokevirtual 64, 3) := by decide +kernel
theorem dL_least_10 : decode cL_least 10 = .ok (.i2l, 1) := by decide +kernel
theorem dL_least_11 : decode cL_least 11 = .ok (.lastore, 1) := by decide +kernel
theorem dL_least_12 : decode cL_least 12 = .ok (.goto 15, 3) := by decide +kernel
theorem dL_least_15 : decode cL_least 15 = .ok (.astore 5, 2) := by decide +kernel
theorem dL_least_17 : decode cL_least 17 = .ok (.iconst 1, 1) := by decide +kernel
theorem dL_least_18 : decode cL_least 18 = .ok (.ireturn, 1) := by decide +kernel
theorem dL_least_19 : decode cL_least 19 = .ok (.astore 5, 2) := by decide +kernel
theorem dL_least_21 : decode cL_least 21 = .ok (.iconst 2, 1) := by decide +kernel
theorem dL_least_22 : decode cL_least 22 = .ok (.ireturn, 1) := by decide +kernel
theorem dL_least_23 : decode cL_least 23 = .ok (.astore 5, 2) := by decide +kernel
theorem dL_least_25 : decode cL_least 25 = .ok (.iconst 3, 1) := by decide +kernel
theorem dL_least_26 : decode cL_least 26 = .ok (.ireturn, 1) := by decide +kernel
theorem dL_least_27 : decode cL_least 27 = .ok (.iconst 0, 1) := by decide +kernel
theorem dL_least_28 : decode cL_least 28 = .ok (.ireturn, 1) := by decide +kernel
set_option maxRecDepth 400000 in
theorem ggL_greatest_X5_greatest : GoodIn wsL_greatest wsX5_greatest := goodIn_ca (goodIn_ca (goodIn_ca (goodIn_r _ [8, 9, 10, 11, 12, 7, 13, 14, 15, 16, 17, 18, 19, 20, 21, 22, 23, 24, 25, 26, 27, 28, 29, 30, 31, 32, 33, 34, 35, 36, 37, 38, 39, 40, 41, 42, 43, 44, 45, 46, 47, 48, 49, 50, 51, 52, 53, 54, 55, 56, 57, 58, 59, 60, 61, 62, 63, 64, 65, 66, 67, 68, 69, 70, 71, 72, 73, 74, 75, 76, 77, 78, 79, 80, 81, 82, 83, 84, 85, 86, 87, 88, 89, 90] rfl (by decide +kernel)) (goodIn_sub (fun _ h => List.mem_cons_of_mem _ (List.mem_append_left _ (List.mem_append_left _ (List.mem_append_right _ h)))) (by decide +kernel))) (goodIn_sub (fun _ h => List.mem_cons_of_mem _ (List.mem_append_left _ (List.mem_append_right _ h))) (by decide +kernel))) (goodIn_sub (fun _ h => List.mem_cons_of_mem _ (List.mem_append_right _ h)) (by decide +kernel))
set_option maxRecDepth 20000 in
theorem gL_greatest_X5_greatest : GoodIn wsL_greatest (wsV RL 67 RX5 yX5_greatest wsX5_greatest) := goodIn_app (goodIn_of _ (by decide +kernel)) ggL_greatest_X5_greatest
theorem dL_greatest_0 : decode cL_greatest 0 = .ok (.aload 4, 2) := by decide +kernel
theorem dL_greatest_2 : decode cL_greatest 2 = .ok (.iconst 0, 1) := by decide +kernel
theorem dL_greatest_3 : decode cL_greatest 3 = .ok (.aload_n 0, 1) := by decide +kernel
theorem dL_greatest_4 : decode cL_greatest 4 = .ok (.iload_n 1, 1) := by decide +kernel
theorem dL_greatest_5 : decode cL_greatest 5 = .ok (.iload_n 2, 1) := by decide +kernel
theorem dL_greatest_6 : decode cL_greatest 6 = .ok (.iload_n 3, 1) := by decide +kernel
theorem dL_greatest_7 : decode cL_greatest 7 = .ok (.invokevirtual 67, 3) := by decide +kernel
theorem dL_greatest_10 : decode cL_greatest 10 = .ok (.i2l, 1) := by decide +kernel
theorem dL_greatest_11 : decode cL_greatest 11 = .ok (.lastore, 1) := by decide +kernel
theorem dL_greatest_12 : decode cL_greatest 12 = .ok (.goto 15, 3) := by decide +kernel
theorem dL_greatest_15 : decode cL_greatest 15 = .ok (.astore 5, 2) := by decide +kernel
theorem dL_greatest_17 : decode cL_greatest 17 = .ok (.iconst 1, 1) := by decide +kernel
theorem dL_greatest_18 : decode cL_greatest 18 = .ok (.ireturn, 1) := by decide +kernel
theorem dL_greatest_19 : decode cL_greatest 19 = .ok (.astore 5, 2) := by decide +kernel
theorem dL_greatest_21 : decode cL_greatest 21 = .ok (.iconst 2, 1) := by decide +kernel
theorem dL_greatest_22 : decode cL_greatest 22 = .ok (.ireturn, 1) := by decide +kernel
theorem dL_greatest_23 : decode cL_greatest 23 = .ok (.astore 5, 2) := by decide +kernel
theorem dL_greatest_25 : decode cL_greatest 25 = .ok (.iconst 3, 1) := by decide +kernel
theorem dL_greatest_26 : decode cL_greatest 26 = .ok (.ireturn, 1) := by decide +kernel
theorem dL_greatest_27 : decode cL_greatest 27 = .ok (.iconst 0, 1) := by decide +kernel
theorem dL_greatest_28 : decode cL_greatest 28 = .ok (.ireturn, 1) := by decide +kernel
set_option maxRecDepth 400000 in
theorem ggL_first_X5_first : GoodIn wsL_first wsX5_first := goodIn_ca (goodIn_ca (goodIn_ca (goodIn_r _ [8, 9, 10, 11, 12, 7, 13, 14, 15, 16, 17, 18, 19, 20, 21, 22, 23, 24, 25, 26, 27, 28, 29, 30, 31, 32, 33, 34, 35, 36, 37, 38, 39, 40, 41, 42, 43, 44, 45, 46, 47, 48, 49, 50, 51, 52, 53, 54, 55, 56, 57, 58, 59, 60, 61, 62, 63, 64, 65, 66, 67, 68, 69, 70, 71, 72, 73, 74, 75, 76, 77, 78, 79, 80, 81, 82, 83, 84, 85, 86, 87, 88, 89, 90] rfl (by decide +kernel)) (goodIn_sub (fun _ h => List.mem_cons_of_mem _ (List.mem_append_left _ (List.mem_append_left _ (List.mem_append_right _ h)))) (by decide +kernel))) (goodIn_sub (fun _ h => List.mem_cons_of_mem _ (List.mem_append_left _ (List.mem_append_right _ h))) (by decide +kernel))) (goodIn_sub (fun _ h => List.mem_cons_of_mem _ (List.mem_append_right _ h)) (by decide +kernel))
set_option maxRecDepth 20000 in
theorem gL_first_X5_first : GoodIn wsL_first (wsV RL 70 RX5 yX5_first wsX5_first) := goodIn_app (goodIn_of _ (by decide +kernel)) ggL_first_X5_first
theorem dL_first_0 : decode cL_first 0 = .ok (.aload 4, 2) := by decide +kernel
theorem dL_first_2 : decode cL_first 2 = .ok (.iconst 0, 1) := by decide +kernel
theorem dL_first_3 : decode cL_first 3 = .ok (.aload_n 0, 1) := by decide +kernel
theorem dL_first_4 : decode cL_first 4 = .ok (.iload_n 1, 1) := by decide +kernel
theorem dL_first_5 : decode cL_first 5 = .ok (.iload_n 2, 1) := by decide +kernel
theorem dL_first_6 : decode cL_first 6 = .ok (.iload_n 3, 1) := by decide +kernel
theorem dL_first_7 : decode cL_first 7 = .ok (.invokevirtual 70, 3) := by decide +kernel
theorem dL_first_10 : decode cL_first 10 = .ok (.i2l, 1) := by decide +kernel
theorem dL_first_11 : decode cL_first 11 = .ok (.lastore, 1) := by decide +kernel
theorem dL_first_12 : decode cL_first 12 = .ok (.goto 15, 3) := by decide +kernel
theorem dL_first_15 : decode cL_first 15 = .ok (.astore 5, 2) := by decide +kernel
theorem dL_first_17 : decode cL_first 17 = .ok (.iconst 1, 1) := by decide +kernel
theorem dL_first_18 : decode cL_first 18 = .ok (.ireturn, 1) := by decide +kernel
theorem dL_first_19 : decode cL_first 19 = .ok (.astore 5, 2) := by decide +kernel
theorem dL_first_21 : decode cL_first 21 = .ok (.iconst 2, 1) := by decide +kernel
theorem dL_first_22 : decode cL_first 22 = .ok (.ireturn, 1) := by decide +kernel
theorem dL_first_23 : decode cL_first 23 = .ok (.astore 5, 2) := by decide +kernel
theorem dL_first_25 : decode cL_first 25 = .ok (.iconst 3, 1) := by decide +kernel
theorem dL_first_26 : decode cL_first 26 = .ok (.ireturn, 1) := by decide +kernel
theorem dL_first_27 : decode cL_first 27 = .ok (.iconst 0, 1) := by decide +kernel
theorem dL_first_28 : decode cL_first 28 = .ok (.ireturn, 1) := by decide +kernel
set_option maxRecDepth 400000 in
theorem ggL_last_X5_last : GoodIn wsL_last wsX5_last := goodIn_ca (goodIn_ca (goodIn_ca (goodIn_r _ [8, 9, 10, 11, 12, 7, 13, 14, 15, 16, 17, 18, 19, 20, 21, 22, 23, 24, 25, 26, 27, 28, 29, 30, 31, 32, 33, 34, 35, 36, 37, 38, 39, 40, 41, 42, 43, 44, 45, 46, 47, 48, 49, 50, 51, 52, 53, 54, 55, 56, 57, 58, 59, 60, 61, 62, 63, 64, 65, 66, 67, 68, 69, 70, 71, 72, 73, 74, 75, 76, 77, 78, 79, 80, 81, 82, 83, 84, 85, 86, 87, 88, 89, 90] rfl (by decide +kernel)) (goodIn_sub (fun _ h => List.mem_cons_of_mem _ (List.mem_append_left _ (List.mem_append_left _ (List.mem_append_right _ h)))) (by decide +kernel))) (goodIn_sub (fun _ h => List.mem_cons_of_mem _ (List.mem_append_left _ (List.mem_append_right _ h))) (by decide +kernel))) (goodIn_sub (fun _ h => List.mem_cons_of_mem _ (List.mem_append_right _ h)) (by decide +kernel))
set_option maxRecDepth 20000 in
theorem gL_last_X5_last : GoodIn wsL_last (wsV RL 73 RX5 yX5_last wsX5_last) := goodIn_app (goodIn_of _ (by decide +kernel)) ggL_last_X5_last
theorem dL_last_0 : decode cL_last 0 = .ok (.aload 4, 2) := by decide +kernel
theorem dL_last_2 : decode cL_last 2 = .ok (.iconst 0, 1) := by decide +kernel
theorem dL_last_3 : decode cL_last 3 = .ok (.aload_n 0, 1) := by decide +kernel
theorem dL_last_4 : decode cL_last 4 = .ok (.iload_n 1, 1) := by decide +kernel
theorem dL_last_5 : decode cL_last 5 = .ok (.iload_n 2, 1) := by decide +kernel
theorem dL_last_6 : decode cL_last 6 = .ok (.iload_n 3, 1) := by decide +kernel
theorem dL_last_7 : decode cL_last 7 = .ok (.invokevirtual 73, 3) := by decide +kernel
theorem dL_last_10 : decode cL_last 10 = .ok (.i2l, 1) := by decide +kernel
theorem dL_last_11 : decode cL_last 11 = .ok (.lastore, 1) := by decide +kernel
theorem dL_last_12 : decode cL_last 12 = .ok (.goto 15, 3) := by decide +kernel
theorem dL_last_15 : decode cL_last 15 = .ok (.astore 5, 2) := by decide +kernel
theorem dL_last_17 : decode cL_last 17 = .ok (.iconst 1, 1) := by decide +kernel
theorem dL_last_18 : decode cL_last 18 = .ok (.ireturn, 1) := by decide +kernel
theorem dL_last_19 : decode cL_last 19 = .ok (.astore 5, 2) := by decide +kernel
theorem dL_last_21 : decode cL_last 21 = .ok (.iconst 2, 1) := by decide +kernel
theorem dL_last_22 : decode cL_last 22 = .ok (.ireturn, 1) := by decide +kernel
theorem dL_last_23 : decode cL_last 23 = .ok (.astore 5, 2) := by decide +kernel
theorem dL_last_25 : decode cL_last 25 = .ok (.iconst 3, 1) := by decide +kernel
theorem dL_last_26 : decode cL_last 26 = .ok (.ireturn, 1) := by decide +kernel
theorem dL_last_27 : decode cL_last 27 = .ok (.iconst 0, 1) := by decide +kernel
theorem dL_last_28 : decode cL_last 28 = .ok (.ireturn, 1) := by decide +kernel
set_option maxRecDepth 400000 in
theorem ggL_filled_X5_filled : GoodIn wsL_filled wsX5_filled := goodIn_ca (goodIn_ca (goodIn_ca (goodIn_r _ [8, 9, 10, 11, 12, 13, 14, 15, 7, 16, 17, 18, 19, 20, 21, 22, 23, 24, 25, 26, 27, 28, 29, 30, 31, 32, 33, 34, 35, 36, 37, 38, 39, 40, 41, 42, 43, 44, 45, 46, 47, 48, 49, 50, 51, 52, 53, 54, 55, 56, 57, 58, 59, 60, 61, 62, 63, 64, 65, 66, 67, 68, 69, 70, 71, 72, 73, 74, 75, 76, 77, 78, 79, 80, 81, 82, 83, 84, 85, 86, 87] rfl (by decide +kernel)) (goodIn_sub (fun _ h => List.mem_cons_of_mem _ (List.mem_append_left _ (List.mem_append_left _ (List.mem_append_right _ h)))) (by decide +kernel))) (goodIn_sub (fun _ h => List.mem_cons_of_mem _ (List.mem_append_left _ (List.mem_append_right _ h))) (by decide +kernel))) (goodIn_sub (fun _ h => List.mem_cons_of_mem _ (List.mem_append_right _ h)) (by decide +kernel))
set_option maxRecDepth 20000 in
theorem gL_filled_X5_filled : GoodIn wsL_filled (wsV RL 76 RX5 yX5_filled wsX5_filled) := goodIn_app (goodIn_of _ (by decide +kernel)) ggL_filled_X5_filled
theorem dL_filled_0 : decode cL_filled 0 = .ok (.aload 5, 2) := by decide +kernel
theorem dL_filled_2 : decode cL_filled 2 = .ok (.iconst 0, 1) := by decide +kernel
theorem dL_filled_3 : decode cL_filled 3 = .ok (.aload_n 0, 1) := by decide +kernel
theorem dL_filled_4 : decode cL_filled 4 = .ok (.iload_n 1, 1) := by decide +kernel
theorem dL_filled_5 : decode cL_filled 5 = .ok (.iload_n 2, 1) := by decide +kernel
theorem dL_filled_6 : decode cL_filled 6 = .ok (.iload_n 3, 1) := by decide +kernel
theorem dL_filled_7 : decode cL_filled 7 = .ok (.iload 4, 2) := by decide +kernel
theorem dL_filled_9 : decode cL_filled 9 = .ok (.invokevirtual 76, 3) := by decide +kernel
theorem dL_filled_12 : decode cL_filled 12 = .ok (.i2l, 1) := by decide +kernel
theorem dL_filled_13 : decode cL_filled 13 = .ok (.lastore, 1) := by decide +kernel
theorem dL_filled_14 : decode cL_filled 14 = .ok (.goto 15, 3) := by decide +kernel
theorem dL_filled_17 : decode cL_filled 17 = .ok (.astore 6, 2) := by decide +kernel
theorem dL_filled_19 : decode cL_filled 19 = .ok (.iconst 1, 1) := by decide +kernel
theorem dL_filled_20 : decode cL_filled 20 = .ok (.ireturn, 1) := by decide +kernel
theorem dL_filled_21 : decode cL_filled 21 = .ok (.astore 6, 2) := by decide +kernel
theorem dL_filled_23 : decode cL_filled 23 = .ok (.iconst 2, 1) := by decide +kernel
theorem dL_filled_24 : decode cL_filled 24 = .ok (.ireturn, 1) := by decide +kernel
theorem dL_filled_25 : decode cL_filled 25 = .ok (.astore 6, 2) := by decide +kernel
theorem dL_filled_27 : decode cL_filled 27 = .ok (.iconst 3, 1) := by decide +kernel
theorem dL_filled_28 : decode cL_filled 28 = .ok (.ireturn, 1) := by decide +kernel
theorem dL_filled_29 : decode cL_filled 29 = .ok (.iconst 0, 1) := by decide +kernel
theorem dL_filled_30 : decode cL_filled 30 = .ok (.ireturn, 1) := by decide +kernel
set_option maxRecDepth 400000 in
theorem ggL_parts_X5_parts : GoodIn wsL_parts wsX5_parts := goodIn_ca (goodIn_r _ [6, 7, 8, 9, 5, 10, 11, 12, 13, 14, 15, 16, 17, 18, 19, 20, 21, 22, 23, 24, 25, 26, 27, 28, 29, 30, 31, 32, 33, 34, 35, 36, 37, 38, 39, 40, 41, 42, 43, 44, 45, 46, 47, 48] rfl (by decide +kernel)) (goodIn_sub (fun _ h => List.mem_cons_of_mem _ (List.mem_append_right _ h)) (by decide +kernel))
set_option maxRecDepth 20000 in
theorem gL_parts_X5_parts : GoodIn wsL_parts (wsV RL 80 RX5 yX5_parts wsX5_parts) := goodIn_app (goodIn_of _ (by decide +kernel)) ggL_parts_X5_parts
theorem dL_parts_0 : decode cL_parts 0 = .ok (.aload_n 3, 1) := by decide +kernel
theorem dL_parts_1 : decode cL_parts 1 = .ok (.iconst 0, 1) := by decide +kernel
theorem dL_parts_2 : decode cL_parts 2 = .ok (.aload_n 0, 1) := by decide +kernel
theorem dL_parts_3 : decode cL_parts 3 = .ok (.iload_n 1, 1) := by decide +kernel
theorem dL_parts_4 : decode cL_parts 4 = .ok (.iload_n 2, 1) := by decide +kernel
theorem dL_parts_5 : decode cL_parts 5 = .ok (.invokevirtual 80, 3) := by decide +kernel
theorem dL_parts_8 : decode cL_parts 8 = .ok (.i2l, 1) := by decide +kernel
theorem dL_parts_9 : decode cL_parts 9 = .ok (.lastore, 1) := by decide +kernel
theorem dL_parts_10 : decode cL_parts 10 = .ok (.goto 7, 3) := by decide +kernel
theorem dL_parts_13 : decode cL_parts 13 = .ok (.astore 4, 2) := by decide +kernel
theorem dL_parts_15 : decode cL_parts 15 = .ok (.iconst 1, 1) := by decide +kernel
theorem dL_parts_16 : decode cL_parts 16 = .ok (.ireturn, 1) := by decide +kernel
theorem dL_parts_17 : decode cL_parts 17 = .ok (.iconst 0, 1) := by decide +kernel
theorem dL_parts_18 : decode cL_parts 18 = .ok (.ireturn, 1) := by decide +kernel
set_option maxRecDepth 400000 in
theorem ggL_isKnown_X5_isKnown : GoodIn wsL_isKnown wsX5_isKnown := goodIn_ca (goodIn_r _ [6, 7, 8, 9, 10, 5, 11, 12, 13, 14, 15, 16, 17, 18, 19, 20, 21, 22, 23, 24, 25, 26, 27, 28, 29, 30, 31, 32, 33, 34, 35, 36, 37, 38, 39, 40, 41, 42, 43, 44, 45, 46, 47, 48, 49, 50, 51, 52] rfl (by decide +kernel)) (goodIn_sub (fun _ h => List.mem_cons_of_mem _ (List.mem_append_right _ h)) (by decide +kernel))
set_option maxRecDepth 20000 in
theorem gL_isKnown_X5_isKnown : GoodIn wsL_isKnown (wsV RL 83 RX5 yX5_isKnown wsX5_isKnown) := goodIn_app (goodIn_of _ (by decide +kernel)) ggL_isKnown_X5_isKnown
theorem dL_isKnown_0 : decode cL_isKnown 0 = .ok (.aload_n 3, 1) := by decide +kernel
theorem dL_isKnown_1 : decode cL_isKnown 1 = .ok (.iconst 0, 1) := by decide +kernel
theorem dL_isKnown_2 : decode cL_isKnown 2 = .ok (.aload_n 0, 1) := by decide +kernel
theorem dL_isKnown_3 : decode cL_isKnown 3 = .ok (.iload_n 1, 1) := by decide +kernel
theorem dL_isKnown_4 : decode cL_isKnown 4 = .ok (.iload_n 2, 1) := by decide +kernel
theorem dL_isKnown_5 : decode cL_isKnown 5 = .ok (.invokevirtual 83, 3) := by decide +kernel
theorem dL_isKnown_8 : decode cL_isKnown 8 = .ok (.ifCond .eq 7, 3) := by decide +kernel
theorem dL_isKnown_11 : decode cL_isKnown 11 = .ok (.lconst 1, 1) := by decide +kernel
theorem dL_isKnown_12 : decode cL_isKnown 12 = .ok (.goto 4, 3) := by decide +kernel
theorem dL_isKnown_15 : decode cL_isKnown 15 = .ok (.lconst 0, 1) := by decide +kernel
theorem dL_isKnown_16 : decode cL_isKnown 16 = .ok (.lastore, 1) := by decide +kernel
theorem dL_isKnown_17 : decode cL_isKnown 17 = .ok (.goto 7, 3) := by decide +kernel
theorem dL_isKnown_20 : decode cL_isKnown 20 = .ok (.astore 4, 2) := by decide +kernel
theorem dL_isKnown_22 : decode cL_isKnown 22 = .ok (.iconst 1, 1) := by decide +kernel
theorem dL_isKnown_23 : decode cL_isKnown 23 = .ok (.ireturn, 1) := by decide +kernel
theorem dL_isKnown_24 : decode cL_isKnown 24 = .ok (.iconst 0, 1) := by decide +kernel
theorem dL_isKnown_25 : decode cL_isKnown 25 = .ok (.ireturn, 1) := by decide +kernel
set_option maxRecDepth 400000 in
theorem ggL_total_X5_total : GoodIn wsL_total wsX5_total := goodIn_ca (goodIn_ca (goodIn_ca (goodIn_r _ [8, 9, 10, 11, 12, 13, 7, 14, 15, 16, 17, 18, 19, 20, 21, 22, 23, 24, 25, 26, 27, 28, 29, 30, 31, 32, 33, 34, 35, 36, 37, 38, 39, 40, 41, 42, 43, 44, 45, 46, 47, 48, 49, 50, 51, 52, 53, 54, 55, 56, 57, 58, 59, 60, 61, 62, 63, 64, 65, 66, 67, 68, 69, 70, 71, 72, 73, 74, 75, 76, 77, 78, 79, 80, 81, 82, 83, 84, 85, 86, 87, 88, 89, 90, 91, 92, 93, 94, 95, 96, 97, 98, 99, 100, 101, 102, 103, 104, 105, 106, 107, 108, 109, 110, 111, 112, 113, 114, 115, 116, 117, 118, 119, 120, 121, 122, 123, 124, 125, 126, 127, 128, 129, 130, 131, 132, 133, 134, 135, 136, 137, 138, 139, 140, 141, 142, 143] rfl (by decide +kernel)) (goodIn_sub (fun _ h => List.mem_cons_of_mem _ (List.mem_append_left _ (List.mem_append_left _ (List.mem_append_right _ h)))) (by decide +kernel))) (goodIn_sub (fun _ h => List.mem_cons_of_mem _ (List.mem_append_left _ (List.mem_append_right _ h))) (by decide +kernel))) (goodIn_sub (fun _ h => List.mem_cons_of_mem _ (List.mem_append_right _ h)) (by decide +kernel))
set_option maxRecDepth 20000 in
theorem gL_total_X5_total : GoodIn wsL_total (wsV RL 87 RX5 yX5_total wsX5_total) := goodIn_app (goodIn_of _ (by decide +kernel)) ggL_total_X5_total
theorem dL_total_0 : decode cL_total 0 = .ok (.aload 4, 2) := by decide +kernel
theorem dL_total_2 : decode cL_total 2 = .ok (.iconst 0, 1) := by decide +kernel
theorem dL_total_3 : decode cL_total 3 = .ok (.aload_n 0, 1) := by decide +kernel
theorem dL_total_4 : decode cL_total 4 = .ok (.iload_n 1, 1) := by decide +kernel
theorem dL_total_5 : decode cL_total 5 = .ok (.iload_n 2, 1) := by decide +kernel
theorem dL_total_6 : decode cL_total 6 = .ok (.iload_n 3, 1) := by decide +kernel
theorem dL_total_7 : decode cL_total 7 = .ok (.invokevirtual 87, 3) := by decide +kernel
theorem dL_total_10 : decode cL_total 10 = .ok (.lastore, 1) := by decide +kernel
theorem dL_total_11 : decode cL_total 11 = .ok (.goto 15, 3) := by decide +kernel
theorem dL_total_14 : decode cL_total 14 = .ok (.astore 5, 2) := by decide +kernel
theorem dL_total_16 : decode cL_total 16 = .ok (.iconst 1, 1) := by decide +kernel
theorem dL_total_17 : decode cL_total 17 = .ok (.ireturn, 1) := by decide +kernel
theorem dL_total_18 : decode cL_total 18 = .ok (.astore 5, 2) := by decide +kernel
theorem dL_total_20 : decode cL_total 20 = .ok (.iconst 2, 1) := by decide +kernel
theorem dL_total_21 : decode cL_total 21 = .ok (.ireturn, 1) := by decide +kernel
theorem dL_total_22 : decode cL_total 22 = .ok (.astore 5, 2) := by decide +kernel
theorem dL_total_24 : decode cL_total 24 = .ok (.iconst 3, 1) := by decide +kernel
theorem dL_total_25 : decode cL_total 25 = .ok (.ireturn, 1) := by decide +kernel
theorem dL_total_26 : decode cL_total 26 = .ok (.iconst 0, 1) := by decide +kernel
theorem dL_total_27 : decode cL_total 27 = .ok (.ireturn, 1) := by decide +kernel
set_option maxRecDepth 400000 in
theorem ggL_totalByPoints_X5_totalByPoints : GoodIn wsL_totalByPoints wsX5_totalByPoints := goodIn_ca (goodIn_ca (goodIn_ca (goodIn_r _ [8, 9, 10, 11, 12, 13, 14, 15, 16, 17, 7, 18, 19, 20, 21, 22, 23, 24, 25, 26, 27, 28, 29, 30, 31, 32, 33, 34, 35, 36, 37, 38, 39, 40, 41, 42, 43, 44, 45, 46, 47, 48, 49, 50, 51, 52, 53, 54, 55, 56, 57, 58, 59, 60, 61, 62, 63, 64, 65, 66, 67, 68, 69, 70, 71, 72, 73, 74, 75, 76, 77, 78, 79, 80, 81, 82, 83, 84, 85, 86, 87, 88, 89] rfl (by decide +kernel)) (goodIn_sub (fun _ h => List.mem_cons_of_mem _ (List.mem_append_left _ (List.mem_append_left _ (List.mem_append_right _ h)))) (by decide +kernel))) (goodIn_sub (fun _ h => List.mem_cons_of_mem _ (List.mem_append_left _ (List.mem_append_right _ h))) (by decide +kernel))) (goodIn_sub (fun _ h => List.mem_cons_of_mem _ (List.mem_append_right _ h)) (by decide +kernel))
set_option maxRecDepth 20000 in
theorem gL_totalByPoints_X5_totalByPoints : GoodIn wsL_totalByPoints (wsV RL 90 RX5 yX5_totalByPoints wsX5_totalByPoints) := goodIn_app (goodIn_of _ (by decide +kernel)) ggL_totalByPoints_X5_totalByPoints
theorem dL_totalByPoints_0 : decode cL_totalByPoints 0 = .ok (.aload 4, 2) := by decide +kernel
theorem dL_totalByPoints_2 : decode cL_totalByPoints 2 = .ok (.iconst 0, 1) := by decide +kernel
theorem dL_totalByPoints_3 : decode cL_totalByPoints 3 = .ok (.aload_n 0, 1) := by decide +kernel
theorem dL_totalByPoints_4 : decode cL_totalByPoints 4 = .ok (.iload_n 1, 1) := by decide +kernel
theorem dL_totalByPoints_5 : decode cL_totalByPoints 5 = .ok (.iload_n 2, 1) := by decide +kernel
theorem dL_totalByPoints_6 : decode cL_totalByPoints 6 = .ok (.iload_n 3, 1) := by decide +kernel
theorem dL_totalByPoints_7 : decode cL_totalByPoints 7 = .ok (.invokevirtual 90, 3) := by decide +kernel
theorem dL_totalByPoints_10 : decode cL_totalByPoints 10 = .ok (.lastore, 1) := by decide +kernel
theorem dL_totalByPoints_11 : decode cL_totalByPoints 11 = .ok (.goto 15, 3) := by decide +kernel
theorem dL_totalByPoints_14 : decode cL_totalByPoints 14 = .ok (.astore 5, 2) := by decide +kernel
theorem dL_totalByPoints_16 : decode cL_totalByPoints 16 = .ok (.iconst 1, 1) := by decide +kernel
theorem dL_totalByPoints_17 : decode cL_totalByPoints 17 = .ok (.ireturn, 1) := by decide +kernel
theorem dL_totalByPoints_18 : decode cL_totalByPoints 18 = .ok (.astore 5, 2) := by decide +kernel
theorem dL_totalByPoints_20 : decode cL_totalByPoints 20 = .ok (.iconst 2, 1) := by decide +kernel
theorem dL_totalByPoints_21 : decode cL_totalByPoints 21 = .ok (.ireturn, 1) := by decide +kernel
theorem dL_totalByPoints_22 : decode cL_totalByPoints 22 = .ok (.astore 5, 2) := by decide +kernel
theorem dL_totalByPoints_24 : decode cL_totalByPoints 24 = .ok (.iconst 3, 1) := by decide +kernel
theorem dL_totalByPoints_25 : decode cL_totalByPoints 25 = .ok (.ireturn, 1) := by decide +kernel
theorem dL_totalByPoints_26 : decode cL_totalByPoints 26 = .ok (.iconst 0, 1) := by decide +kernel
theorem dL_totalByPoints_27 : decode cL_totalByPoints 27 = .ok (.ireturn, 1) := by decide +kernel
set_option maxRecDepth 400000 in
theorem ggL_increase_X5_increase : GoodIn wsL_increase wsX5_increase := goodIn_ca (goodIn_ca (goodIn_ca (goodIn_r _ [8, 9, 10, 11, 7, 12, 13, 14, 15, 16, 17, 18, 19, 20, 21, 22, 23, 24, 25, 26, 27, 28, 29, 30, 31, 32, 33, 34, 35, 36, 37, 38, 39, 40, 41, 42, 43, 44, 45, 46, 47, 48, 49, 50, 51, 52, 53, 54, 55, 56, 57, 58, 59, 60, 61, 62, 63, 64, 65, 66, 67, 68, 69, 70, 71, 72, 73, 74, 75, 76, 77, 78, 79, 80, 81, 82, 83, 84, 85, 86, 87, 88, 89, 90, 91, 92, 93, 94, 95, 96, 97, 98, 99, 100, 101, 102, 103, 104, 105, 106, 107, 108, 109, 110, 111, 112, 113, 114, 115, 116, 117, 118, 119, 120, 121, 122, 123, 124, 125, 126, 127, 128, 129, 130, 131, 132, 133, 134, 135, 136, 137, 138, 139, 140, 141, 142, 143, 144, 145, 146, 147, 148] rfl (by decide +kernel)) (goodIn_sub (fun _ h => List.mem_cons_of_mem _ (List.mem_append_left _ (List.mem_append_left _ (List.mem_append_right _ h)))) (by decide +kernel))) (goodIn_sub (fun _ h => List.mem_cons_of_mem _ (List.mem_append_left _ (List.mem_append_right _ h))) (by decide +kernel))) (goodIn_sub (fun _ h => List.mem_cons_of_mem _ (List.mem_append_right _ h)) (by decide +kernel))
set_option maxRecDepth 20000 in
theorem gL_increase_X5_increase : GoodIn wsL_increase (wsV RL 93 RX5 yX5_increase wsX5_increase) := goodIn_app (goodIn_of _ (by decide +kernel)) ggL_increase_X5_increase
theorem dL_increase_0 : decode cL_increase 0 = .ok (.aload 4, 2) := by decide +kernel
theorem dL_increase_2 : decode cL_increase 2 = .ok (.iconst 0, 1) := by decide +kernel
theorem dL_increase_3 : decode cL_increase 3 = .ok (.aload_n 0, 1) := by decide +kernel
theorem dL_increase_4 : decode cL_increase 4 = .ok (.iload_n 1, 1) := by decide +kernel
theorem dL_increase_5 : decode cL_increase 5 = .ok (.iload_n 2, 1) := by decide +kernel
theorem dL_increase_6 : decode cL_increase 6 = .ok (.iload_n 3, 1) := by decide +kernel
theorem dL_increase_7 : decode cL_increase 7 = .ok (.invokevirtual 93, 3) := by decide +kernel
theorem dL_increase_10 : decode cL_increase 10 = .ok (.lastore, 1) := by decide +kernel
theorem dL_increase_11 : decode cL_increase 11 = .ok (.goto 15, 3) := by decide +kernel
theorem dL_increase_14 : decode cL_increase 14 = .ok (.astore 5, 2) := by decide +kernel
theorem dL_increase_16 : decode cL_increase 16 = .ok (.iconst 1, 1) := by decide +kernel
theorem dL_increase_17 : decode cL_increase 17 = .ok (.ireturn, 1) := by decide +kernel
theorem dL_increase_18 : decode cL_increase 18 = .ok (.astore 5, 2) := by decide +kernel
theorem dL_increase_20 : decode cL_increase 20 = .ok (.iconst 2, 1) := by decide +kernel
theorem dL_increase_21 : decode cL_increase 21 = .ok (.ireturn, 1) := by decide +kernel
theorem dL_increase_22 : decode cL_increase 22 = .ok (.astore 5, 2) := by decide +kernel
theorem dL_increase_24 : decode cL_increase 24 = .ok (.iconst 3, 1) := by decide +kernel
theorem dL_increase_25 : decode cL_increase 25 = .ok (.ireturn, 1) := by decide +kernel
theorem dL_increase_26 : decode cL_increase 26 = .ok (.iconst 0, 1) := by decide +kernel
theorem dL_increase_27 : decode cL_increase 27 = .ok (.ireturn, 1) := by decide +kernel
set_option maxRecDepth 400000 in
theorem ggL_ratePerHour_X5_ratePerHour : GoodIn wsL_ratePerHour wsX5_ratePerHour := goodIn_ca (goodIn_ca (goodIn_ca (goodIn_r _ [8, 9, 10, 11, 12, 13, 14, 7, 15, 16, 17, 18, 19, 20, 21, 22, 23, 24, 25, 26, 27, 28, 29, 30, 31, 32, 33, 34, 35, 36, 37, 38, 39, 40, 41, 42, 43, 44, 45, 46, 47, 48, 49, 50, 51, 52, 53, 54, 55, 56, 57, 58, 59, 60, 61, 62, 63, 64, 65, 66, 67, 68, 69, 70, 71, 72, 73, 74, 75, 76, 77, 78, 79, 80, 81, 82, 83, 84, 85, 86, 87, 88, 89, 90, 91, 92, 93, 94, 95, 96, 97, 98, 99, 100, 101, 102, 103, 104, 105, 106, 107, 108, 109, 110, 111, 112, 113, 114, 115, 116, 117, 118, 119, 120, 121, 122, 123, 124, 125, 126, 127, 128, 129, 130, 131, 132, 133, 134, 135, 136, 137, 138, 139, 140, 141, 142, 143, 144, 145, 146, 147, 148, 149] rfl (by decide +kernel)) (goodIn_sub (fun _ h => List.mem_cons_of_mem _ (List.mem_append_left _ (List.mem_append_left _ (List.mem_append_right _ h)))) (by decide +kernel))) (goodIn_sub (fun _ h => List.mem_cons_of_mem _ (List.mem_append_left _ (List.mem_append_right _ h))) (by decide +kernel))) (goodIn_sub (fun _ h => List.mem_cons_of_mem _ (List.mem_append_right _ h)) (by decide +kernel))
set_option maxRecDepth 20000 in
theorem gL_ratePerHour_X5_ratePerHour : GoodIn wsL_ratePerHour (wsV RL 96 RX5 yX5_ratePerHour wsX5_ratePerHour) := goodIn_app (goodIn_of _ (by decide +kernel)) ggL_ratePerHour_X5_ratePerHour
theorem dL_ratePerHour_0 : decode cL_ratePerHour 0 = .ok (.aload 4, 2) := by decide +kernel
theorem dL_ratePerHour_2 : decode cL_ratePerHour 2 = .ok (.iconst 0, 1) := by decide +kernel
theorem dL_ratePerHour_3 : decode cL_ratePerHour 3 = .ok (.aload_n 0, 1) := by decide +kernel
theorem dL_ratePerHour_4 : decode cL_ratePerHour 4 = .ok (.iload_n 1, 1) := by decide +kernel
theorem dL_ratePerHour_5 : decode cL_ratePerHour 5 = .ok (.iload_n 2, 1) := by decide +kernel
theorem dL_ratePerHour_6 : decode cL_ratePerHour 6 = .ok (.iload_n 3, 1) := by decide +kernel
theorem dL_ratePerHour_7 : decode cL_ratePerHour 7 = .ok (.invokevirtual 96, 3) := by decide +kernel
theorem dL_ratePerHour_10 : decode cL_ratePerHour 10 = .ok (.dastore, 1) := by decide +kernel
theorem dL_ratePerHour_11 : decode cL_ratePerHour 11 = .ok (.goto 15, 3) := by decide +kernel
theorem dL_ratePerHour_14 : decode cL_ratePerHour 14 = .ok (.astore 5, 2) := by decide +kernel
theorem dL_ratePerHour_16 : decode cL_ratePerHour 16 = .ok (.iconst 1, 1) := by decide +kernel
theorem dL_ratePerHour_17 : decode cL_ratePerHour 17 = .ok (.ireturn, 1) := by decide +kernel
theorem dL_ratePerHour_18 : decode cL_ratePerHour 18 = .ok (.astore 5, 2) := by decide +kernel
theorem dL_ratePerHour_20 : decode cL_ratePerHour 20 = .ok (.iconst 2, 1) := by decide +kernel
theorem dL_ratePerHour_21 : decode cL_ratePerHour 21 = .ok (.ireturn, 1) := by decide +kernel
theorem dL_ratePerHour_22 : decode cL_ratePerHour 22 = .ok (.astore 5, 2) := by decide +kernel
theorem dL_ratePerHour_24 : decode cL_ratePerHour 24 = .ok (.iconst 3, 1) := by decide +kernel
theorem dL_ratePerHour_25 : decode cL_ratePerHour 25 = .ok (.ireturn, 1) := by decide +kernel
theorem dL_ratePerHour_26 : decode cL_ratePerHour 26 = .ok (.iconst 0, 1) := by decide +kernel
theorem dL_ratePerHour_27 : decode cL_ratePerHour 27 = .ok (.ireturn, 1) := by decide +kernel
set_option maxRecDepth 400000 in
theorem ggL_gaps_X5_gaps : GoodIn wsL_gaps wsX5_gaps := goodIn_ca (goodIn_ca (goodIn_r _ [7, 8, 9, 10, 11, 12, 13, 14, 15, 6, 16, 17, 18, 19, 20, 21, 22, 23, 24, 25, 26, 27, 28, 29, 30, 31, 32, 33, 34, 35, 36, 37, 38, 39, 40, 41, 42, 43, 44, 45, 46, 47, 48, 49, 50, 51, 52, 53, 54, 55, 56, 57, 58, 59, 60, 61, 62, 63, 64, 65, 66, 67, 68, 69, 70, 71, 72, 73, 74, 75, 76, 77, 78, 79, 80, 81, 82] rfl (by decide +kernel)) (goodIn_sub (fun _ h => List.mem_cons_of_mem _ (List.mem_append_left _ (List.mem_append_right _ h))) (by decide +kernel))) (goodIn_sub (fun _ h => List.mem_cons_of_mem _ (List.mem_append_right _ h)) (by decide +kernel))
set_option maxRecDepth 20000 in
theorem gL_gaps_X5_gaps : GoodIn wsL_gaps (wsV RL 99 RX5 yX5_gaps wsX5_gaps) := goodIn_app (goodIn_of _ (by decide +kernel)) ggL_gaps_X5_gaps
theorem dL_gaps_0 : decode cL_gaps 0 = .ok (.aload 5, 2) := by decide +kernel
theorem dL_gaps_2 : decode cL_gaps 2 = .ok (.iconst 0, 1) := by decide +kernel
theorem dL_gaps_3 : decode cL_gaps 3 = .ok (.aload_n 0, 1) := by decide +kernel
theorem dL_gaps_4 : decode cL_gaps 4 = .ok (.iload_n 1, 1) := by decide +kernel
theorem dL_gaps_5 : decode cL_gaps 5 = .ok (.iload_n 2, 1) := by decide +kernel
theorem dL_gaps_6 : decode cL_gaps 6 = .ok (.iload_n 3, 1) := by decide +kernel
theorem dL_gaps_7 : decode cL_gaps 7 = .ok (.iload 4, 2) := by decide +kernel
theorem dL_gaps_9 : decode cL_gaps 9 = .ok (.invokevirtual 99, 3) := by decide +kernel
theorem dL_gaps_12 : decode cL_gaps 12 = .ok (.i2l, 1) := by decide +kernel
theorem dL_gaps_13 : decode cL_gaps 13 = .ok (.lastore, 1) := by decide +kernel
theorem dL_gaps_14 : decode cL_gaps 14 = .ok (.goto 11, 3) := by decide +kernel
theorem dL_gaps_17 : decode cL_gaps 17 = .ok (.astore 6, 2) := by decide +kernel
theorem dL_gaps_19 : decode cL_gaps 19 = .ok (.iconst 1, 1) := by decide +kernel
theorem dL_gaps_20 : decode cL_gaps 20 = .ok (.ireturn, 1) := by decide +kernel
theorem dL_gaps_21 : decode cL_gaps 21 = .ok (.astore 6, 2) := by decide +kernel
theorem dL_gaps_23 : decode cL_gaps 23 = .ok (.iconst 2, 1) := by decide +kernel
theorem dL_gaps_24 : decode cL_gaps 24 = .ok (.ireturn, 1) := by decide +kernel
theorem dL_gaps_25 : decode cL_gaps 25 = .ok (.iconst 0, 1) := by decide +kernel
theorem dL_gaps_26 : decode cL_gaps 26 = .ok (.ireturn, 1) := by decide +kernel
set_option maxRecDepth 400000 in
theorem ggL_law_X5_init : GoodIn wsL_law wsX5_init := goodIn_r _ [10, 11, 12, 13, 14, 15, 16, 17, 18, 19, 20, 21, 22, 23, 24, 25, 26, 27, 28, 29, 30, 31, 32, 33, 34, 35, 786, 787, 788, 789, 790, 791, 792, 810, 811, 812, 813, 814, 815, 816, 817, 818, 819, 820, 821, 822, 823] rfl (by decide +kernel)
set_option maxRecDepth 20000 in
theorem gL_law_X5_init : GoodIn wsL_law (wsX5_init) := ggL_law_X5_init
set_option maxRecDepth 400000 in
theorem ggL_law_X6_init : GoodIn wsL_law wsX6_init := goodIn_r _ [38, 39, 12, 13, 16, 40, 41, 42, 43, 44, 45, 6, 46, 47, 48, 49, 793, 794, 795, 796, 797, 798, 799, 800, 801, 802, 803, 804, 805, 806, 807, 808, 809] rfl (by decide +kernel)
set_option maxRecDepth 20000 in
theorem gL_law_X6_init : GoodIn wsL_law (wsX6_init) := ggL_law_X6_init
set_option maxRecDepth 400000 in
theorem ggL_law_L_addSeries : GoodIn wsL_law wsL_addSeries := goodIn_ca (goodIn_ca (goodIn_r _ [53, 54, 55, 56, 57, 58, 2, 59, 60, 61, 62, 15, 14, 63, 64, 65, 66, 67, 68, 69, 70, 71, 72, 73, 12, 13, 74, 75, 76, 77, 78, 79, 80, 81, 82, 83, 84, 85, 86, 87, 88, 16, 89, 90, 91, 92, 93, 94, 95, 96, 97, 786, 787, 788, 789, 790, 791, 792, 824, 825, 826, 827, 828, 829, 830, 831, 832, 833, 834] rfl (by decide +kernel)) (goodIn_sub (fun _ h => List.mem_append_left _ (List.mem_append_left _ (List.mem_append_right _ h))) (by decide +kernel))) (goodIn_sub (fun _ h => List.mem_append_left _ (List.mem_append_right _ h)) (by decide +kernel))
set_option maxRecDepth 20000 in
theorem gL_law_L_addSeries : GoodIn wsL_law (va_wsS RL 106 yL_addSeries wsL_addSeries) := goodIn_app (goodIn_of _ (by decide +kernel)) ggL_law_L_addSeries
set_option maxRecDepth 400000 in
theorem ggL_law_X6_addSeries : GoodIn wsL_law wsX6_addSeries := goodIn_r _ [101, 102, 40, 103, 104, 5, 105, 106, 107, 108, 109, 110, 793, 794, 795, 796, 797, 798, 799, 800, 801, 802, 803, 804, 805, 806, 807, 808, 809] rfl (by decide +kernel)
set_option maxRecDepth 20000 in
theorem gL_law_X6_addSeries : GoodIn wsL_law (wsV RL 111 RX6 yX6_addSeries wsX6_addSeries) := goodIn_app (goodIn_of _ (by decide +kernel)) ggL_law_X6_addSeries
set_option maxRecDepth 400000 in
theorem ggL_law_X6_thrown : GoodIn wsL_law wsX6_thrown := goodIn_r _ [114, 110, 793, 794, 795, 796, 797, 798, 799, 800, 801, 802, 803, 804, 805, 806, 807, 808, 809] rfl (by decide +kernel)
set_option maxRecDepth 20000 in
theorem gL_law_X6_thrown : GoodIn wsL_law (wsV RL 112 RX6 yX6_thrown wsX6_thrown) := goodIn_app (goodIn_of _ (by decide +kernel)) ggL_law_X6_thrown
set_option maxRecDepth 400000 in
theorem ggL_law_L_put : GoodIn wsL_law wsL_put := goodIn_ca (goodIn_ca (goodIn_ca (goodIn_r _ [117, 118, 54, 55, 119, 120, 121, 2, 122, 123, 124, 125, 126, 127, 128, 62, 15, 129, 130, 131, 132, 68, 69, 133, 134, 135, 136, 137, 138, 139, 140, 141, 142, 143, 144, 60, 61, 145, 146, 147, 148, 149, 150, 151, 152, 153, 154, 155, 156, 157, 76, 158, 159, 89, 160, 161, 162, 163, 164, 165, 166, 64, 167, 77, 168, 169, 170, 171, 172, 173, 174, 175, 90, 176, 177, 178, 179, 180, 181, 182, 183, 184, 185, 186, 17, 187, 188, 189, 190, 191, 192, 193, 194, 195, 196, 84, 82, 81, 197, 198, 199, 80, 200, 201, 202, 96, 95, 27, 28, 203, 204, 205, 206, 207, 208, 209, 210, 211, 212, 213, 214, 215, 216, 217, 218, 33, 34, 35, 12, 13, 219, 220, 221, 222, 223, 224, 225, 226, 227, 228, 229, 230, 231, 232, 233, 234, 235, 236, 237, 238, 239, 240, 241, 242, 243, 244, 245, 246, 247, 248, 249, 250, 251, 252, 253, 254, 255, 256, 257, 258, 786, 787, 788, 789, 790, 791, 792, 824, 825, 826, 827, 828, 829, 830, 831, 832, 833, 834, 816, 817, 818, 819, 820, 821, 822, 823] rfl (by decide +kernel)) (goodIn_sub (fun _ h => List.mem_append_right _ h) (by decide +kernel))) (goodIn_sub (fun _ h => List.mem_append_left _ (List.mem_append_right _ h)) (by decide +kernel))) (goodIn_sub (fun _ h => List.mem_append_left _ (List.mem_append_left _ (List.mem_append_right _ h))) (by decide +kernel))
set_option maxRecDepth 20000 in
theorem gL_law_L_put : GoodIn wsL_law (va_wsS RL 116 yL_put wsL_put) := goodIn_app (goodIn_of _ (by decide +kernel)) ggL_law_L_put
set_option maxRecDepth 400000 in
theorem ggL_law_X6_put : GoodIn wsL_law wsX6_put := goodIn_r _ [262, 263, 264, 265, 5, 266, 102, 267, 268, 269, 270, 271, 272, 273, 274, 275, 40, 276, 277, 103, 104, 105, 278, 279, 280, 281, 42, 282, 283, 284, 285, 286, 43, 44, 287, 288, 289, 290, 291, 292, 293, 294, 106, 107, 108, 109, 110, 295, 296, 297, 298, 45, 793, 794, 795, 796, 797, 798, 799, 800, 801, 802, 803, 804, 805, 806, 807, 808, 809] rfl (by decide +kernel)
set_option maxRecDepth 20000 in
theorem gL_law_X6_put : GoodIn wsL_law (wsV RL 119 RX6 yX6_put wsX6_put) := goodIn_app (goodIn_of _ (by decide +kernel)) ggL_law_X6_put
set_option maxRecDepth 400000 in
theorem ggL_law_L_putMany : GoodIn wsL_law wsL_putMany := goodIn_ca (goodIn_ca (goodIn_ca (goodIn_r _ [301, 118, 54, 55, 302, 303, 304, 2, 305, 123, 124, 125, 126, 127, 128, 62, 15, 129, 130, 131, 132, 68, 69, 133, 134, 135, 136, 137, 138, 139, 140, 65, 66, 67, 141, 142, 143, 144, 60, 61, 145, 146, 147, 148, 149, 150, 151, 152, 153, 154, 155, 156, 157, 76, 158, 159, 89, 160, 161, 162, 163, 164, 165, 166, 64, 167, 77, 168, 169, 170, 171, 172, 173, 174, 175, 90, 176, 177, 178, 179, 180, 181, 182, 183, 184, 185, 186, 17, 187, 188, 189, 190, 191, 192, 193, 194, 195, 196, 84, 82, 81, 197, 198, 199, 80, 200, 201, 202, 96, 95, 27, 28, 203, 204, 205, 206, 207, 208, 209, 210, 211, 212, 213, 214, 215, 216, 217, 218, 33, 34, 35, 12, 13, 219, 220, 221, 222, 223, 224, 225, 226, 227, 228, 229, 230, 231, 232, 233, 234, 235, 236, 237, 238, 239, 240, 241, 242, 243, 244, 245, 246, 247, 248, 249, 250, 251, 252, 253, 254, 255, 256, 257, 258, 786, 787, 788, 789, 790, 791, 792, 824, 825, 826, 827, 828, 829, 830, 831, 832, 833, 834, 816, 817, 818, 819, 820, 821, 822, 823] rfl (by decide +kernel)) (goodIn_sub (fun _ h => List.mem_append_right _ h) (by decide +kernel))) (goodIn_sub (fun _ h => List.mem_append_left _ (List.mem_append_right _ h)) (by decide +kernel))) (goodIn_sub (fun _ h => List.mem_append_left _ (List.mem_append_left _ (List.mem_append_right _ h))) (by decide +kernel))
set_option maxRecDepth 20000 in
theorem gL_law_L_putMany : GoodIn wsL_law (va_wsS RL 120 yL_putMany wsL_putMany) := goodIn_app (goodIn_of _ (by decide +kernel)) ggL_law_L_putMany
set_option maxRecDepth 400000 in
theorem ggL_law_X6_putMany : GoodIn wsL_law wsX6_putMany := goodIn_r _ [309, 103, 104, 5, 105, 263, 264, 265, 266, 102, 267, 268, 269, 270, 271, 272, 273, 274, 275, 40, 276, 277, 278, 279, 280, 281, 42, 282, 283, 284, 285, 286, 43, 44, 287, 288, 289, 290, 291, 292, 293, 294, 106, 107, 108, 109, 110, 295, 296, 297, 298, 45, 793, 794, 795, 796, 797, 798, 799, 800, 801, 802, 803, 804, 805, 806, 807, 808, 809] rfl (by decide +kernel)
set_option maxRecDepth 20000 in
theorem gL_law_X6_putMany : GoodIn wsL_law (wsV RL 123 RX6 yX6_putMany wsX6_putMany) := goodIn_app (goodIn_of _ (by decide +kernel)) ggL_law_X6_putMany
set_option maxRecDepth 400000 in
theorem ggL_law_L_erase : GoodIn wsL_law wsL_erase := goodIn_ca (goodIn_ca (goodIn_r _ [312, 118, 55, 313, 314, 315, 2, 316, 60, 61, 149, 317, 123, 124, 125, 126, 127, 128, 62, 15, 318, 319, 320, 155, 156, 157, 76, 158, 159, 89, 160, 161, 162, 163, 151, 152, 153, 154, 139, 321, 322, 323, 64, 324, 77, 325, 326, 327, 328, 172, 173, 174, 175, 90, 178, 179, 180, 181, 182, 183, 184, 185, 186, 17, 187, 188, 189, 190, 191, 192, 193, 194, 195, 196, 84, 82, 81, 197, 198, 199, 80, 200, 201, 202, 96, 95, 27, 28, 203, 204, 205, 206, 207, 208, 209, 210, 211, 212, 213, 214, 215, 216, 217, 218, 33, 34, 35, 12, 13, 219, 220, 221, 222, 223, 224, 225, 226, 227, 228, 229, 176, 230, 231, 232, 233, 234, 235, 236, 237, 238, 239, 240, 241, 242, 243, 244, 245, 246, 247, 248, 249, 250, 251, 252, 253, 254, 255, 256, 257, 258, 824, 825, 826, 827, 828, 829, 830, 831, 786, 787, 788, 789, 790, 791, 792, 832, 833, 834, 816, 817, 818, 819, 820, 821, 822, 823] rfl (by decide +kernel)) (goodIn_sub (fun _ h => List.mem_append_left _ (List.mem_append_left _ (List.mem_append_right _ h))) (by decide +kernel))) (goodIn_sub (fun _ h => List.mem_append_right _ h) (by decide +kernel))
set_option maxRecDepth 20000 in
theorem gL_law_L_erase : GoodIn wsL_law (va_wsS RL 124 yL_erase wsL_erase) := goodIn_app (goodIn_of _ (by decide +kernel)) ggL_law_L_erase
set_option maxRecDepth 400000 in
theorem ggL_law_X6_erase : GoodIn wsL_law wsX6_erase := goodIn_r _ [332, 271, 45, 286, 43, 44, 263, 264, 265, 5, 266, 102, 278, 279, 280, 281, 42, 282, 283, 284, 285, 287, 288, 289, 290, 106, 107, 108, 109, 110, 793, 794, 795, 796, 797, 798, 799, 800, 801, 802, 803, 804, 805, 806, 807, 808, 809] rfl (by decide +kernel)
set_option maxRecDepth 20000 in
theorem gL_law_X6_erase : GoodIn wsL_law (wsV RL 127 RX6 yX6_erase wsX6_erase) := goodIn_app (goodIn_of _ (by decide +kernel)) ggL_law_X6_erase
set_option maxRecDepth 400000 in
theorem ggL_law_L_advance : GoodIn wsL_law wsL_advance := goodIn_ca (goodIn_ca (goodIn_r _ [335, 54, 336, 337, 338, 2, 339, 140, 139, 340, 341, 216, 217, 218, 65, 66, 67, 68, 69, 342, 343, 344, 345, 21, 20, 346, 238, 239, 62, 123, 124, 125, 126, 127, 128, 15, 347, 348, 349, 64, 350, 77, 351, 352, 353, 76, 354, 176, 156, 157, 158, 159, 89, 355, 326, 327, 328, 172, 173, 174, 175, 90, 193, 194, 195, 196, 84, 82, 81, 356, 357, 358, 80, 359, 97, 203, 204, 205, 206, 201, 207, 208, 209, 210, 202, 96, 360, 256, 257, 258, 786, 787, 788, 789, 790, 791, 792, 824, 825, 826, 827, 828, 829, 830, 831, 832, 833, 834, 816, 817, 818, 819, 820, 821, 822, 823] rfl (by decide +kernel)) (goodIn_sub (fun _ h => List.mem_append_left _ (List.mem_append_right _ h)) (by decide +kernel))) (goodIn_sub (fun _ h => List.mem_append_right _ h) (by decide +kernel))
set_option maxRecDepth 20000 in
theorem gL_law_L_advance : GoodIn wsL_law (va_wsS RL 128 yL_advance wsL_advance) := goodIn_app (goodIn_of _ (by decide +kernel)) ggL_law_L_advance
set_option maxRecDepth 400000 in
theorem ggL_law_X6_advance : GoodIn wsL_law wsX6_advance := goodIn_r _ [364, 277, 271, 103, 104, 5, 105, 106, 107, 108, 109, 110, 365, 366, 367, 368, 102, 369, 370, 371, 372, 286, 43, 373, 374, 375, 376, 44, 42, 377, 378, 379, 380, 381, 382, 47, 383, 384, 385, 386, 387, 388, 389, 390, 41, 793, 794, 795, 796, 797, 798, 799, 800, 801, 802, 803, 804, 805, 806, 807, 808, 809] rfl (by decide +kernel)
set_option maxRecDepth 20000 in
theorem gL_law_X6_advance : GoodIn wsL_law (wsV RL 130 RX6 yX6_advance wsX6_advance) := goodIn_app (goodIn_of _ (by decide +kernel)) ggL_law_X6_advance
set_option maxRecDepth 400000 in
theorem ggL_law_L_setRetention : GoodIn wsL_law wsL_setRetention := goodIn_ca (goodIn_ca (goodIn_r _ [393, 54, 394, 395, 396, 2, 397, 398, 399, 20, 65, 66, 67, 68, 69, 342, 343, 344, 345, 21, 139, 346, 238, 217, 239, 62, 123, 124, 125, 126, 127, 128, 15, 347, 348, 349, 64, 350, 77, 351, 352, 353, 76, 354, 176, 156, 157, 158, 159, 89, 355, 326, 327, 328, 172, 173, 174, 175, 90, 193, 194, 195, 196, 84, 82, 81, 356, 357, 358, 80, 359, 97, 203, 204, 205, 206, 201, 207, 208, 209, 210, 202, 96, 360, 256, 257, 258, 786, 787, 788, 789, 790, 791, 792, 824, 825, 826, 827, 828, 829, 830, 831, 832, 833, 834, 816, 817, 818, 819, 820, 821, 822, 823] rfl (by decide +kernel)) (goodIn_sub (fun _ h => List.mem_append_left _ (List.mem_append_right _ h)) (by decide +kernel))) (goodIn_sub (fun _ h => List.mem_append_right _ h) (by decide +kernel))
set_option maxRecDepth 20000 in
theorem gL_law_L_setRetention : GoodIn wsL_law (va_wsS RL 131 yL_setRetention wsL_setRetention) := goodIn_app (goodIn_of _ (by decide +kernel)) ggL_law_L_setRetention
set_option maxRecDepth 400000 in
theorem ggL_law_X6_setRetention : GoodIn wsL_law wsX6_setRetention := goodIn_r _ [403, 404, 405, 41, 406, 407, 5, 408, 103, 104, 105, 106, 107, 108, 109, 110, 387, 388, 389, 390, 271, 42, 793, 794, 795, 796, 797, 798, 799, 800, 801, 802, 803, 804, 805, 806, 807, 808, 809] rfl (by decide +kernel)
set_option maxRecDepth 20000 in
theorem gL_law_X6_setRetention : GoodIn wsL_law (wsV RL 133 RX6 yX6_setRetention wsX6_setRetention) := goodIn_app (goodIn_of _ (by decide +kernel)) ggL_law_X6_setRetention
set_option maxRecDepth 400000 in
theorem ggL_law_X5_clock : GoodIn wsL_law wsX5_clock := goodIn_r _ [412, 139, 786, 787, 788, 789, 790, 791, 792] rfl (by decide +kernel)
set_option maxRecDepth 20000 in
theorem gL_law_X5_clock : GoodIn wsL_law (wsV RL 134 RX5 yX5_clock wsX5_clock) := goodIn_app (goodIn_of _ (by decide +kernel)) ggL_law_X5_clock
set_option maxRecDepth 400000 in
theorem ggL_law_X6_clock : GoodIn wsL_law wsX6_clock := goodIn_r _ [416, 110, 271, 793, 794, 795, 796, 797, 798, 799, 800, 801, 802, 803, 804, 805, 806, 807, 808, 809] rfl (by decide +kernel)
set_option maxRecDepth 20000 in
theorem gL_law_X6_clock : GoodIn wsL_law (wsV RL 137 RX6 yX6_clock wsX6_clock) := goodIn_app (goodIn_of _ (by decide +kernel)) ggL_law_X6_clock
set_option maxRecDepth 400000 in
theorem ggL_law_X5_series : GoodIn wsL_law wsX5_series := goodIn_r _ [420, 62, 786, 787, 788, 789, 790, 791, 792] rfl (by decide +kernel)
set_option maxRecDepth 20000 in
theorem gL_law_X5_series : GoodIn wsL_law (wsV RL 138 RX5 yX5_series wsX5_series) := goodIn_app (goodIn_of _ (by decide +kernel)) ggL_law_X5_series
set_option maxRecDepth 400000 in
theorem ggL_law_X6_series : GoodIn wsL_law wsX6_series := goodIn_r _ [424, 110, 102, 793, 794, 795, 796, 797, 798, 799, 800, 801, 802, 803, 804, 805, 806, 807, 808, 809] rfl (by decide +kernel)
set_option maxRecDepth 20000 in
theorem gL_law_X6_series : GoodIn wsL_law (wsV RL 141 RX6 yX6_series wsX6_series) := goodIn_app (goodIn_of _ (by decide +kernel)) ggL_law_X6_series
set_option maxRecDepth 400000 in
theorem ggL_law_L_horizon : GoodIn wsL_law wsL_horizon := goodIn_ca (goodIn_r _ [427, 54, 428, 429, 430, 2, 431, 21, 65, 66, 67, 68, 69, 786, 787, 788, 789, 790, 791, 792] rfl (by decide +kernel)) (goodIn_sub (fun _ h => List.mem_append_left _ (List.mem_append_right _ h)) (by decide +kernel))
set_option maxRecDepth 20000 in
theorem gL_law_L_horizon : GoodIn wsL_law (va_wsS RL 142 yL_horizon wsL_horizon) := goodIn_app (goodIn_of _ (by decide +kernel)) ggL_law_L_horizon
set_option maxRecDepth 400000 in
theorem ggL_law_X6_horizon : GoodIn wsL_law wsX6_horizon := goodIn_r _ [435, 42, 406, 407, 5, 408, 106, 107, 108, 109, 110, 793, 794, 795, 796, 797, 798, 799, 800, 801, 802, 803, 804, 805, 806, 807, 808, 809] rfl (by decide +kernel)
set_option maxRecDepth 20000 in
theorem gL_law_X6_horizon : GoodIn wsL_law (wsV RL 144 RX6 yX6_horizon wsX6_horizon) := goodIn_app (goodIn_of _ (by decide +kernel)) ggL_law_X6_horizon
set_option maxRecDepth 400000 in
theorem ggL_law_L_rows : GoodIn wsL_law wsL_rows := goodIn_ca (goodIn_ca (goodIn_r _ [438, 118, 54, 439, 440, 441, 2, 442, 123, 124, 125, 126, 127, 128, 62, 15, 65, 66, 67, 68, 69, 443, 444, 445, 64, 446, 77, 447, 448, 193, 194, 195, 196, 84, 82, 81, 786, 787, 788, 789, 790, 791, 792, 824, 825, 826, 827, 828, 829, 830, 831, 832, 833, 834] rfl (by decide +kernel)) (goodIn_sub (fun _ h => List.mem_append_right _ h) (by decide +kernel))) (goodIn_sub (fun _ h => List.mem_append_left _ (List.mem_append_right _ h)) (by decide +kernel))
set_option maxRecDepth 20000 in
theorem gL_law_L_rows : GoodIn wsL_law (va_wsS RL 145 yL_rows wsL_rows) := goodIn_app (goodIn_of _ (by decide +kernel)) ggL_law_L_rows
set_option maxRecDepth 400000 in
theorem ggL_law_X6_rows : GoodIn wsL_law wsX6_rows := goodIn_r _ [452, 263, 264, 265, 5, 266, 102, 406, 407, 408, 106, 107, 108, 109, 110, 369, 370, 371, 372, 286, 43, 373, 374, 375, 376, 44, 42, 377, 378, 379, 380, 381, 382, 47, 383, 384, 385, 386, 793, 794, 795, 796, 797, 798, 799, 800, 801, 802, 803, 804, 805, 806, 807, 808, 809] rfl (by decide +kernel)
set_option maxRecDepth 20000 in
theorem gL_law_X6_rows : GoodIn wsL_law (wsV RL 147 RX6 yX6_rows wsX6_rows) := goodIn_app (goodIn_of _ (by decide +kernel)) ggL_law_X6_rows
set_option maxRecDepth 400000 in
theorem ggL_law_L_timeOf : GoodIn wsL_law wsL_timeOf := goodIn_ca (goodIn_ca (goodIn_ca (goodIn_r _ [455, 118, 54, 55, 456, 457, 458, 2, 459, 60, 61, 149, 460, 123, 124, 125, 126, 127, 128, 62, 15, 65, 66, 67, 68, 69, 461, 462, 463, 150, 464, 465, 194, 195, 64, 196, 84, 82, 81, 466, 208, 209, 80, 210, 202, 96, 824, 825, 826, 827, 828, 816, 817, 818, 819, 820, 821, 822, 823, 786, 787, 788, 789, 790, 791, 792, 829, 830, 831, 832, 833, 834] rfl (by decide +kernel)) (goodIn_sub (fun _ h => List.mem_append_left _ (List.mem_append_left _ (List.mem_append_right _ h))) (by decide +kernel))) (goodIn_sub (fun _ h => List.mem_append_right _ h) (by decide +kernel))) (goodIn_sub (fun _ h => List.mem_append_left _ (List.mem_append_right _ h)) (by decide +kernel))
set_option maxRecDepth 20000 in
theorem gL_law_L_timeOf : GoodIn wsL_law (va_wsS RL 148 yL_timeOf wsL_timeOf) := goodIn_app (goodIn_of _ (by decide +kernel)) ggL_law_L_timeOf
set_option maxRecDepth 400000 in
theorem ggL_law_X6_timeOf : GoodIn wsL_law wsX6_timeOf := goodIn_r _ [470, 43, 44, 263, 264, 265, 5, 266, 102, 406, 407, 408, 369, 370, 371, 372, 286, 373, 374, 375, 376, 42, 377, 378, 379, 380, 381, 382, 47, 383, 384, 385, 386, 106, 107, 108, 109, 110, 793, 794, 795, 796, 797, 798, 799, 800, 801, 802, 803, 804, 805, 806, 807, 808, 809] rfl (by decide +kernel)
set_option maxRecDepth 20000 in
theorem gL_law_X6_timeOf : GoodIn wsL_law (wsV RL 150 RX6 yX6_timeOf wsX6_timeOf) := goodIn_app (goodIn_of _ (by decide +kernel)) ggL_law_X6_timeOf
set_option maxRecDepth 400000 in
theorem ggL_law_L_valueAt : GoodIn wsL_law wsL_valueAt := goodIn_ca (goodIn_ca (goodIn_r _ [473, 118, 55, 474, 475, 476, 2, 477, 149, 317, 123, 124, 125, 126, 127, 128, 62, 15, 318, 319, 320, 60, 61, 155, 156, 157, 76, 158, 159, 89, 160, 161, 162, 163, 824, 825, 826, 827, 828, 829, 830, 831, 786, 787, 788, 789, 790, 791, 792] rfl (by decide +kernel)) (goodIn_sub (fun _ h => List.mem_append_right _ h) (by decide +kernel))) (goodIn_sub (fun _ h => List.mem_append_left _ (List.mem_append_left _ (List.mem_append_right _ h))) (by decide +kernel))
set_option maxRecDepth 20000 in
theorem gL_law_L_valueAt : GoodIn wsL_law (va_wsS RL 151 yL_valueAt wsL_valueAt) := goodIn_app (goodIn_of _ (by decide +kernel)) ggL_law_L_valueAt
set_option maxRecDepth 400000 in
theorem ggL_law_X6_valueAt : GoodIn wsL_law wsX6_valueAt := goodIn_r _ [481, 45, 263, 264, 265, 5, 266, 102, 278, 279, 280, 281, 42, 282, 283, 284, 285, 286, 43, 44, 287, 288, 289, 290, 106, 107, 108, 109, 110, 793, 794, 795, 796, 797, 798, 799, 800, 801, 802, 803, 804, 805, 806, 807, 808, 809] rfl (by decide +kernel)
set_option maxRecDepth 20000 in
theorem gL_law_X6_valueAt : GoodIn wsL_law (wsV RL 153 RX6 yX6_valueAt wsX6_valueAt) := goodIn_app (goodIn_of _ (by decide +kernel)) ggL_law_X6_valueAt
set_option maxRecDepth 400000 in
theorem ggL_law_L_hasRollup : GoodIn wsL_law wsL_hasRollup := goodIn_ca (goodIn_ca (goodIn_r _ [484, 118, 54, 485, 486, 487, 2, 488, 489, 490, 491, 492, 493, 494, 495, 496, 68, 69, 123, 124, 125, 126, 127, 128, 62, 15, 65, 66, 67, 465, 194, 195, 64, 196, 84, 82, 81, 497, 182, 183, 184, 185, 186, 17, 498, 499, 500, 80, 501, 201, 203, 204, 205, 206, 207, 208, 209, 210, 202, 96, 786, 787, 788, 789, 790, 791, 792, 824, 825, 826, 827, 828, 816, 817, 818, 819, 820, 821, 822, 823, 832, 833, 834] rfl (by decide +kernel)) (goodIn_sub (fun _ h => List.mem_append_left _ (List.mem_append_right _ h)) (by decide +kernel))) (goodIn_sub (fun _ h => List.mem_append_right _ h) (by decide +kernel))
set_option maxRecDepth 20000 in
theorem gL_law_L_hasRollup : GoodIn wsL_law (va_wsS RL 154 yL_hasRollup wsL_hasRollup) := goodIn_app (goodIn_of _ (by decide +kernel)) ggL_law_L_hasRollup
set_option maxRecDepth 400000 in
theorem ggL_law_X6_hasRollup : GoodIn wsL_law wsX6_hasRollup := goodIn_r _ [505, 263, 264, 265, 5, 266, 102, 506, 507, 508, 106, 107, 108, 109, 110, 509, 510, 511, 512, 513, 514, 286, 43, 44, 45, 515, 516, 517, 518, 377, 378, 379, 380, 381, 382, 47, 383, 384, 385, 386, 42, 793, 794, 795, 796, 797, 798, 799, 800, 801, 802, 803, 804, 805, 806, 807, 808, 809] rfl (by decide +kernel)
set_option maxRecDepth 20000 in
theorem gL_law_X6_hasRollup : GoodIn wsL_law (wsV RL 156 RX6 yX6_hasRollup wsX6_hasRollup) := goodIn_app (goodIn_of _ (by decide +kernel)) ggL_law_X6_hasRollup
set_option maxRecDepth 400000 in
theorem ggL_law_L_count : GoodIn wsL_law wsL_count := goodIn_ca (goodIn_ca (goodIn_ca (goodIn_r _ [521, 118, 54, 55, 522, 523, 524, 2, 525, 526, 527, 528, 529, 530, 60, 61, 489, 490, 491, 492, 493, 494, 495, 496, 68, 69, 123, 124, 125, 126, 127, 128, 62, 15, 65, 66, 67, 465, 194, 195, 64, 196, 84, 82, 81, 497, 182, 183, 184, 185, 186, 17, 498, 499, 500, 80, 501, 201, 203, 204, 205, 206, 207, 208, 209, 210, 202, 96, 816, 817, 818, 819, 820, 821, 822, 823, 786, 787, 788, 789, 790, 791, 792, 824, 825, 826, 827, 828, 832, 833, 834] rfl (by decide +kernel)) (goodIn_sub (fun _ h => List.mem_append_left _ (List.mem_append_left _ (List.mem_append_right _ h))) (by decide +kernel))) (goodIn_sub (fun _ h => List.mem_append_left _ (List.mem_append_right _ h)) (by decide +kernel))) (goodIn_sub (fun _ h => List.mem_append_right _ h) (by decide +kernel))
set_option maxRecDepth 20000 in
theorem gL_law_L_count : GoodIn wsL_law (va_wsS RL 157 yL_count wsL_count) := goodIn_app (goodIn_of _ (by decide +kernel)) ggL_law_L_count
set_option maxRecDepth 400000 in
theorem ggL_law_X6_count : GoodIn wsL_law wsX6_count := goodIn_r _ [534, 513, 535, 536, 537, 5, 538, 263, 264, 265, 266, 102, 506, 507, 508, 509, 510, 511, 512, 514, 286, 43, 44, 45, 515, 516, 517, 518, 377, 378, 379, 380, 381, 382, 47, 383, 384, 385, 386, 42, 106, 107, 108, 109, 110, 793, 794, 795, 796, 797, 798, 799, 800, 801, 802, 803, 804, 805, 806, 807, 808, 809] rfl (by decide +kernel)
set_option maxRecDepth 20000 in
theorem gL_law_X6_count : GoodIn wsL_law (wsV RL 159 RX6 yX6_count wsX6_count) := goodIn_app (goodIn_of _ (by decide +kernel)) ggL_law_X6_count
set_option maxRecDepth 400000 in
theorem ggL_law_L_sum : GoodIn wsL_law wsL_sum := goodIn_ca (goodIn_ca (goodIn_ca (goodIn_r _ [541, 118, 54, 55, 542, 543, 544, 2, 545, 546, 527, 528, 529, 530, 60, 61, 489, 490, 491, 492, 493, 494, 495, 496, 68, 69, 123, 124, 125, 126, 127, 128, 62, 15, 65, 66, 67, 465, 194, 195, 64, 196, 84, 82, 81, 497, 182, 183, 184, 185, 186, 17, 498, 499, 500, 80, 501, 201, 203, 204, 205, 206, 207, 208, 209, 210, 202, 96, 816, 817, 818, 819, 820, 821, 822, 823, 786, 787, 788, 789, 790, 791, 792, 824, 825, 826, 827, 828, 832, 833, 834] rfl (by decide +kernel)) (goodIn_sub (fun _ h => List.mem_append_left _ (List.mem_append_left _ (List.mem_append_right _ h))) (by decide +kernel))) (goodIn_sub (fun _ h => List.mem_append_left _ (List.mem_append_right _ h)) (by decide +kernel))) (goodIn_sub (fun _ h => List.mem_append_right _ h) (by decide +kernel))
set_option maxRecDepth 20000 in
theorem gL_law_L_sum : GoodIn wsL_law (va_wsS RL 160 yL_sum wsL_sum) := goodIn_app (goodIn_of _ (by decide +kernel)) ggL_law_L_sum
set_option maxRecDepth 400000 in
theorem ggL_law_X6_sum : GoodIn wsL_law wsX6_sum := goodIn_r _ [550, 514, 535, 536, 537, 5, 538, 263, 264, 265, 266, 102, 506, 507, 508, 509, 510, 511, 512, 513, 286, 43, 44, 45, 515, 516, 517, 518, 377, 378, 379, 380, 381, 382, 47, 383, 384, 385, 386, 42, 106, 107, 108, 109, 110, 793, 794, 795, 796, 797, 798, 799, 800, 801, 802, 803, 804, 805, 806, 807, 808, 809] rfl (by decide +kernel)
set_option maxRecDepth 20000 in
theorem gL_law_X6_sum : GoodIn wsL_law (wsV RL 162 RX6 yX6_sum wsX6_sum) := goodIn_app (goodIn_of _ (by decide +kernel)) ggL_law_X6_sum
set_option maxRecDepth 400000 in
theorem ggL_law_L_average : GoodIn wsL_law wsL_average := goodIn_ca (goodIn_ca (goodIn_ca (goodIn_r _ [553, 118, 54, 55, 554, 555, 556, 2, 557, 546, 526, 346, 238, 217, 239, 527, 528, 529, 530, 60, 61, 489, 490, 491, 492, 493, 494, 495, 496, 68, 69, 123, 124, 125, 126, 127, 128, 62, 15, 65, 66, 67, 465, 194, 195, 64, 196, 84, 82, 81, 497, 182, 183, 184, 185, 186, 17, 498, 499, 500, 80, 501, 201, 203, 204, 205, 206, 207, 208, 209, 210, 202, 96, 816, 817, 818, 819, 820, 821, 822, 823, 786, 787, 788, 789, 790, 791, 792, 824, 825, 826, 827, 828, 832, 833, 834] rfl (by decide +kernel)) (goodIn_sub (fun _ h => List.mem_append_left _ (List.mem_append_left _ (List.mem_append_right _ h))) (by decide +kernel))) (goodIn_sub (fun _ h => List.mem_append_left _ (List.mem_append_right _ h)) (by decide +kernel))) (goodIn_sub (fun _ h => List.mem_append_right _ h) (by decide +kernel))
set_option maxRecDepth 20000 in
theorem gL_law_L_average : GoodIn wsL_law (va_wsS RL 163 yL_average wsL_average) := goodIn_app (goodIn_of _ (by decide +kernel)) ggL_law_L_average
set_option maxRecDepth 400000 in
theorem ggL_law_X6_average : GoodIn wsL_law wsX6_average := goodIn_r _ [561, 514, 513, 535, 536, 537, 5, 538, 263, 264, 265, 266, 102, 506, 507, 508, 509, 510, 511, 512, 286, 43, 44, 45, 515, 516, 517, 518, 377, 378, 379, 380, 381, 382, 47, 383, 384, 385, 386, 42, 106, 107, 108, 109, 110, 793, 794, 795, 796, 797, 798, 799, 800, 801, 802, 803, 804, 805, 806, 807, 808, 809] rfl (by decide +kernel)
set_option maxRecDepth 20000 in
theorem gL_law_X6_average : GoodIn wsL_law (wsV RL 166 RX6 yX6_average wsX6_average) := goodIn_app (goodIn_of _ (by decide +kernel)) ggL_law_X6_average
set_option maxRecDepth 400000 in
theorem ggL_law_L_least : GoodIn wsL_law wsL_least := goodIn_ca (goodIn_ca (goodIn_ca (goodIn_r _ [564, 118, 54, 55, 565, 566, 567, 2, 568, 569, 527, 528, 529, 530, 60, 61, 489, 490, 491, 492, 493, 494, 495, 496, 68, 69, 123, 124, 125, 126, 127, 128, 62, 15, 65, 66, 67, 465, 194, 195, 64, 196, 84, 82, 81, 497, 182, 183, 184, 185, 186, 17, 498, 499, 500, 80, 501, 201, 203, 204, 205, 206, 207, 208, 209, 210, 202, 96, 816, 817, 818, 819, 820, 821, 822, 823, 786, 787, 788, 789, 790, 791, 792, 824, 825, 826, 827, 828, 832, 833, 834] rfl (by decide +kernel)) (goodIn_sub (fun _ h => List.mem_append_left _ (List.mem_append_left _ (List.mem_append_right _ h))) (by decide +kernel))) (goodIn_sub (fun _ h => List.mem_append_left _ (List.mem_append_right _ h)) (by decide +kernel))) (goodIn_sub (fun _ h => List.mem_append_right _ h) (by decide +kernel))
set_option maxRecDepth 20000 in
theorem gL_law_L_least : GoodIn wsL_law (va_wsS RL 167 yL_least wsL_least) := goodIn_app (goodIn_of _ (by decide +kernel)) ggL_law_L_least
set_option maxRecDepth 400000 in
theorem ggL_law_X6_least : GoodIn wsL_law wsX6_least := goodIn_r _ [573, 515, 535, 536, 537, 5, 538, 263, 264, 265, 266, 102, 506, 507, 508, 509, 510, 511, 512, 513, 514, 286, 43, 44, 45, 516, 517, 518, 377, 378, 379, 380, 381, 382, 47, 383, 384, 385, 386, 42, 106, 107, 108, 109, 110, 793, 794, 795, 796, 797, 798, 799, 800, 801, 802, 803, 804, 805, 806, 807, 808, 809] rfl (by decide +kernel)
set_option maxRecDepth 20000 in
theorem gL_law_X6_least : GoodIn wsL_law (wsV RL 169 RX6 yX6_least wsX6_least) := goodIn_app (goodIn_of _ (by decide +kernel)) ggL_law_X6_least
set_option maxRecDepth 400000 in
theorem ggL_law_L_greatest : GoodIn wsL_law wsL_greatest := goodIn_ca (goodIn_ca (goodIn_ca (goodIn_r _ [576, 118, 54, 55, 577, 578, 579, 2, 580, 581, 527, 528, 529, 530, 60, 61, 489, 490, 491, 492, 493, 494, 495, 496, 68, 69, 123, 124, 125, 126, 127, 128, 62, 15, 65, 66, 67, 465, 194, 195, 64, 196, 84, 82, 81, 497, 182, 183, 184, 185, 186, 17, 498, 499, 500, 80, 501, 201, 203, 204, 205, 206, 207, 208, 209, 210, 202, 96, 816, 817, 818, 819, 820, 821, 822, 823, 786, 787, 788, 789, 790, 791, 792, 824, 825, 826, 827, 828, 832, 833, 834] rfl (by decide +kernel)) (goodIn_sub (fun _ h => List.mem_append_left _ (List.mem_append_left _ (List.mem_append_right _ h))) (by decide +kernel))) (goodIn_sub (fun _ h => List.mem_append_left _ (List.mem_append_right _ h)) (by decide +kernel))) (goodIn_sub (fun _ h => List.mem_append_right _ h) (by decide +kernel))
set_option maxRecDepth 20000 in
theorem gL_law_L_greatest : GoodIn wsL_law (va_wsS RL 170 yL_greatest wsL_greatest) := goodIn_app (goodIn_of _ (by decide +kernel)) ggL_law_L_greatest
set_option maxRecDepth 400000 in
theorem ggL_law_X6_greatest : GoodIn wsL_law wsX6_greatest := goodIn_r _ [585, 516, 535, 536, 537, 5, 538, 263, 264, 265, 266, 102, 506, 507, 508, 509, 510, 511, 512, 513, 514, 286, 43, 44, 45, 515, 517, 518, 377, 378, 379, 380, 381, 382, 47, 383, 384, 385, 386, 42, 106, 107, 108, 109, 110, 793, 794, 795, 796, 797, 798, 799, 800, 801, 802, 803, 804, 805, 806, 807, 808, 809] rfl (by decide +kernel)
set_option maxRecDepth 20000 in
theorem gL_law_X6_greatest : GoodIn wsL_law (wsV RL 172 RX6 yX6_greatest wsX6_greatest) := goodIn_app (goodIn_of _ (by decide +kernel)) ggL_law_X6_greatest
set_option maxRecDepth 400000 in
theorem ggL_law_L_first : GoodIn wsL_law wsL_first := goodIn_ca (goodIn_ca (goodIn_ca (goodIn_r _ [588, 118, 54, 55, 589, 590, 591, 2, 592, 593, 527, 528, 529, 530, 60, 61, 489, 490, 491, 492, 493, 494, 495, 496, 68, 69, 123, 124, 125, 126, 127, 128, 62, 15, 65, 66, 67, 465, 194, 195, 64, 196, 84, 82, 81, 497, 182, 183, 184, 185, 186, 17, 498, 499, 500, 80, 501, 201, 203, 204, 205, 206, 207, 208, 209, 210, 202, 96, 816, 817, 818, 819, 820, 821, 822, 823, 786, 787, 788, 789, 790, 791, 792, 824, 825, 826, 827, 828, 832, 833, 834] rfl (by decide +kernel)) (goodIn_sub (fun _ h => List.mem_append_left _ (List.mem_append_left _ (List.mem_append_right _ h))) (by decide +kernel))) (goodIn_sub (fun _ h => List.mem_append_left _ (List.mem_append_right _ h)) (by decide +kernel))) (goodIn_sub (fun _ h => List.mem_append_right _ h) (by decide +kernel))
set_option maxRecDepth 20000 in
theorem gL_law_L_first : GoodIn wsL_law (va_wsS RL 173 yL_first wsL_first) := goodIn_app (goodIn_of _ (by decide +kernel)) ggL_law_L_first
set_option maxRecDepth 400000 in
theorem ggL_law_X6_first : GoodIn wsL_law wsX6_first := goodIn_r _ [597, 517, 535, 536, 537, 5, 538, 263, 264, 265, 266, 102, 506, 507, 508, 509, 510, 511, 512, 513, 514, 286, 43, 44, 45, 515, 516, 518, 377, 378, 379, 380, 381, 382, 47, 383, 384, 385, 386, 42, 106, 107, 108, 109, 110, 793, 794, 795, 796, 797, 798, 799, 800, 801, 802, 803, 804, 805, 806, 807, 808, 809] rfl (by decide +kernel)
set_option maxRecDepth 20000 in
theorem gL_law_X6_first : GoodIn wsL_law (wsV RL 175 RX6 yX6_first wsX6_first) := goodIn_app (goodIn_of _ (by decide +kernel)) ggL_law_X6_first
set_option maxRecDepth 400000 in
theorem ggL_law_L_last : GoodIn wsL_law wsL_last := goodIn_ca (goodIn_ca (goodIn_ca (goodIn_r _ [600, 118, 54, 55, 601, 602, 603, 2, 604, 605, 527, 528, 529, 530, 60, 61, 489, 490, 491, 492, 493, 494, 495, 496, 68, 69, 123, 124, 125, 126, 127, 128, 62, 15, 65, 66, 67, 465, 194, 195, 64, 196, 84, 82, 81, 497, 182, 183, 184, 185, 186, 17, 498, 499, 500, 80, 501, 201, 203, 204, 205, 206, 207, 208, 209, 210, 202, 96, 816, 817, 818, 819, 820, 821, 822, 823, 786, 787, 788, 789, 790, 791, 792, 824, 825, 826, 827, 828, 832, 833, 834] rfl (by decide +kernel)) (goodIn_sub (fun _ h => List.mem_append_left _ (List.mem_append_left _ (List.mem_append_right _ h))) (by decide +kernel))) (goodIn_sub (fun _ h => List.mem_append_left _ (List.mem_append_right _ h)) (by decide +kernel))) (goodIn_sub (fun _ h => List.mem_append_right _ h) (by decide +kernel))
set_option maxRecDepth 20000 in
theorem gL_law_L_last : GoodIn wsL_law (va_wsS RL 176 yL_last wsL_last) := goodIn_app (goodIn_of _ (by decide +kernel)) ggL_law_L_last
set_option maxRecDepth 400000 in
theorem ggL_law_X6_last : GoodIn wsL_law wsX6_last := goodIn_r _ [609, 518, 535, 536, 537, 5, 538, 263, 264, 265, 266, 102, 506, 507, 508, 509, 510, 511, 512, 513, 514, 286, 43, 44, 45, 515, 516, 517, 377, 378, 379, 380, 381, 382, 47, 383, 384, 385, 386, 42, 106, 107, 108, 109, 110, 793, 794, 795, 796, 797, 798, 799, 800, 801, 802, 803, 804, 805, 806, 807, 808, 809] rfl (by decide +kernel)
set_option maxRecDepth 20000 in
theorem gL_law_X6_last : GoodIn wsL_law (wsV RL 178 RX6 yX6_last wsX6_last) := goodIn_app (goodIn_of _ (by decide +kernel)) ggL_law_X6_last
set_option maxRecDepth 400000 in
theorem ggL_law_L_filled : GoodIn wsL_law wsL_filled := goodIn_ca (goodIn_ca (goodIn_ca (goodIn_r _ [612, 118, 54, 55, 613, 614, 615, 2, 616, 60, 61, 460, 605, 493, 494, 495, 496, 68, 69, 123, 124, 125, 126, 127, 128, 62, 15, 65, 66, 67, 465, 194, 195, 64, 196, 84, 82, 81, 497, 182, 183, 184, 185, 186, 17, 617, 204, 205, 80, 206, 201, 207, 208, 209, 210, 202, 96, 466, 618, 619, 620, 346, 238, 217, 239, 816, 817, 818, 819, 820, 821, 822, 823, 786, 787, 788, 789, 790, 791, 792, 824, 825, 826, 827, 828, 832, 833, 834] rfl (by decide +kernel)) (goodIn_sub (fun _ h => List.mem_append_left _ (List.mem_append_left _ (List.mem_append_right _ h))) (by decide +kernel))) (goodIn_sub (fun _ h => List.mem_append_left _ (List.mem_append_right _ h)) (by decide +kernel))) (goodIn_sub (fun _ h => List.mem_append_right _ h) (by decide +kernel))
set_option maxRecDepth 20000 in
theorem gL_law_L_filled : GoodIn wsL_law (va_wsS RL 179 yL_filled wsL_filled) := goodIn_app (goodIn_of _ (by decide +kernel)) ggL_law_L_filled
set_option maxRecDepth 400000 in
theorem ggL_law_X6_filled : GoodIn wsL_law wsX6_filled := goodIn_r _ [624, 518, 286, 43, 44, 45, 263, 264, 265, 5, 266, 102, 506, 507, 508, 103, 104, 105, 106, 107, 108, 109, 110, 509, 510, 511, 512, 513, 514, 515, 516, 517, 377, 378, 379, 380, 381, 382, 47, 383, 384, 385, 386, 42, 793, 794, 795, 796, 797, 798, 799, 800, 801, 802, 803, 804, 805, 806, 807, 808, 809] rfl (by decide +kernel)
set_option maxRecDepth 20000 in
theorem gL_law_X6_filled : GoodIn wsL_law (wsV RL 182 RX6 yX6_filled wsX6_filled) := goodIn_app (goodIn_of _ (by decide +kernel)) ggL_law_X6_filled
set_option maxRecDepth 400000 in
theorem ggL_law_L_parts : GoodIn wsL_law wsL_parts := goodIn_ca (goodIn_r _ [627, 54, 628, 629, 630, 2, 631, 25, 632, 633, 634, 68, 69, 635, 636, 637, 24, 638, 639, 640, 641, 642, 643, 644, 645, 646, 647, 648, 649, 650, 651, 652, 653, 654, 655, 656, 786, 787, 788, 789, 790, 791, 792, 810, 811, 812, 813, 814, 815] rfl (by decide +kernel)) (goodIn_sub (fun _ h => List.mem_append_left _ (List.mem_append_right _ h)) (by decide +kernel))
set_option maxRecDepth 20000 in
theorem gL_law_L_parts : GoodIn wsL_law (va_wsS RL 183 yL_parts wsL_parts) := goodIn_app (goodIn_of _ (by decide +kernel)) ggL_law_L_parts
set_option maxRecDepth 400000 in
theorem ggL_law_X6_parts : GoodIn wsL_law wsX6_parts := goodIn_r _ [660, 46, 661, 662, 663, 664, 665, 5, 666, 106, 107, 108, 109, 110, 667, 668, 669, 670, 47, 671, 672, 673, 674, 675, 676, 677, 793, 794, 795, 796, 797, 798, 799, 800, 801, 802, 803, 804, 805, 806, 807, 808, 809] rfl (by decide +kernel)
set_option maxRecDepth 20000 in
theorem gL_law_X6_parts : GoodIn wsL_law (wsV RL 185 RX6 yX6_parts wsX6_parts) := goodIn_app (goodIn_of _ (by decide +kernel)) ggL_law_X6_parts
set_option maxRecDepth 400000 in
theorem ggL_law_L_isKnown : GoodIn wsL_law wsL_isKnown := goodIn_ca (goodIn_r _ [680, 54, 681, 682, 683, 2, 684, 25, 21, 632, 633, 634, 68, 69, 635, 636, 637, 24, 638, 639, 640, 641, 642, 643, 644, 645, 646, 647, 648, 649, 650, 651, 652, 685, 686, 687, 688, 689, 690, 691, 786, 787, 788, 789, 790, 791, 792, 810, 811, 812, 813, 814, 815] rfl (by decide +kernel)) (goodIn_sub (fun _ h => List.mem_append_left _ (List.mem_append_right _ h)) (by decide +kernel))
set_option maxRecDepth 20000 in
theorem gL_law_L_isKnown : GoodIn wsL_law (va_wsS RL 186 yL_isKnown wsL_isKnown) := goodIn_app (goodIn_of _ (by decide +kernel)) ggL_law_L_isKnown
set_option maxRecDepth 400000 in
theorem ggL_law_X6_isKnown : GoodIn wsL_law wsX6_isKnown := goodIn_r _ [695, 664, 665, 5, 666, 106, 107, 108, 109, 110, 696, 697, 698, 699, 46, 667, 668, 669, 670, 661, 47, 662, 671, 672, 673, 674, 675, 676, 677, 383, 384, 385, 386, 42, 380, 381, 382, 793, 794, 795, 796, 797, 798, 799, 800, 801, 802, 803, 804, 805, 806, 807, 808, 809] rfl (by decide +kernel)
set_option maxRecDepth 20000 in
theorem gL_law_X6_isKnown : GoodIn wsL_law (wsV RL 188 RX6 yX6_isKnown wsX6_isKnown) := goodIn_app (goodIn_of _ (by decide +kernel)) ggL_law_X6_isKnown
set_option maxRecDepth 400000 in
theorem ggL_law_L_total : GoodIn wsL_law wsL_total := goodIn_ca (goodIn_ca (goodIn_ca (goodIn_r _ [702, 118, 54, 55, 703, 704, 705, 2, 706, 29, 546, 123, 124, 125, 126, 127, 128, 62, 15, 632, 633, 634, 68, 69, 707, 708, 709, 710, 60, 61, 25, 21, 635, 636, 637, 24, 638, 639, 640, 641, 642, 643, 644, 645, 646, 647, 648, 649, 650, 651, 652, 685, 686, 687, 688, 689, 690, 691, 711, 220, 221, 28, 222, 223, 224, 225, 712, 713, 714, 64, 715, 81, 716, 717, 82, 718, 84, 719, 720, 721, 246, 247, 248, 80, 249, 202, 201, 203, 204, 205, 206, 207, 208, 209, 210, 96, 250, 251, 252, 253, 244, 245, 234, 235, 216, 217, 218, 236, 237, 238, 239, 240, 241, 242, 243, 786, 787, 788, 789, 790, 791, 792, 816, 817, 818, 819, 820, 821, 822, 823, 810, 811, 812, 813, 814, 815, 824, 825, 826, 827, 828, 832, 833, 834] rfl (by decide +kernel)) (goodIn_sub (fun _ h => List.mem_append_right _ h) (by decide +kernel))) (goodIn_sub (fun _ h => List.mem_append_left _ (List.mem_append_right _ h)) (by decide +kernel))) (goodIn_sub (fun _ h => List.mem_append_left _ (List.mem_append_left _ (List.mem_append_right _ h))) (by decide +kernel))
set_option maxRecDepth 20000 in
theorem gL_law_L_total : GoodIn wsL_law (va_wsS RL 189 yL_total wsL_total) := goodIn_app (goodIn_of _ (by decide +kernel)) ggL_law_L_total
set_option maxRecDepth 400000 in
theorem ggL_law_X6_total : GoodIn wsL_law wsX6_total := goodIn_r _ [725, 263, 264, 265, 5, 266, 102, 664, 665, 666, 696, 697, 698, 699, 46, 667, 668, 669, 670, 661, 47, 662, 671, 672, 673, 674, 675, 676, 677, 383, 384, 385, 386, 42, 380, 381, 382, 106, 107, 108, 109, 110, 726, 727, 728, 729, 286, 43, 44, 45, 793, 794, 795, 796, 797, 798, 799, 800, 801, 802, 803, 804, 805, 806, 807, 808, 809] rfl (by decide +kernel)
set_option maxRecDepth 20000 in
theorem gL_law_X6_total : GoodIn wsL_law (wsV RL 191 RX6 yX6_total wsX6_total) := goodIn_app (goodIn_of _ (by decide +kernel)) ggL_law_X6_total
set_option maxRecDepth 400000 in
theorem ggL_law_L_totalByPoints : GoodIn wsL_law wsL_totalByPoints := goodIn_ca (goodIn_ca (goodIn_ca (goodIn_r _ [732, 118, 54, 55, 733, 734, 735, 2, 736, 60, 61, 21, 29, 149, 546, 123, 124, 125, 126, 127, 128, 62, 15, 632, 633, 634, 68, 69, 711, 220, 221, 28, 222, 223, 224, 225, 737, 227, 228, 76, 229, 159, 89, 90, 176, 156, 157, 158, 230, 231, 232, 233, 234, 235, 216, 217, 218, 236, 237, 238, 239, 240, 241, 242, 243, 244, 245, 786, 787, 788, 789, 790, 791, 792, 824, 825, 826, 827, 828, 816, 817, 818, 819, 820, 821, 822, 823, 829, 830, 831] rfl (by decide +kernel)) (goodIn_sub (fun _ h => List.mem_append_left _ (List.mem_append_left _ (List.mem_append_right _ h))) (by decide +kernel))) (goodIn_sub (fun _ h => List.mem_append_right _ h) (by decide +kernel))) (goodIn_sub (fun _ h => List.mem_append_left _ (List.mem_append_right _ h)) (by decide +kernel))
set_option maxRecDepth 20000 in
theorem gL_law_L_totalByPoints : GoodIn wsL_law (va_wsS RL 192 yL_totalByPoints wsL_totalByPoints) := goodIn_app (goodIn_of _ (by decide +kernel)) ggL_law_L_totalByPoints
set_option maxRecDepth 400000 in
theorem ggL_law_X6_totalByPoints : GoodIn wsL_law wsX6_totalByPoints := goodIn_r _ [741, 42, 263, 264, 265, 5, 266, 102, 664, 665, 666, 106, 107, 108, 109, 110, 726, 727, 728, 729, 286, 43, 44, 45, 793, 794, 795, 796, 797, 798, 799, 800, 801, 802, 803, 804, 805, 806, 807, 808, 809] rfl (by decide +kernel)
set_option maxRecDepth 20000 in
theorem gL_law_X6_totalByPoints : GoodIn wsL_law (wsV RL 194 RX6 yX6_totalByPoints wsX6_totalByPoints) := goodIn_app (goodIn_of _ (by decide +kernel)) ggL_law_X6_totalByPoints
set_option maxRecDepth 400000 in
theorem ggL_law_L_increase : GoodIn wsL_law wsL_increase := goodIn_ca (goodIn_ca (goodIn_ca (goodIn_r _ [744, 118, 54, 55, 745, 746, 747, 2, 748, 123, 124, 125, 126, 127, 128, 62, 15, 632, 633, 634, 68, 69, 749, 750, 751, 752, 60, 61, 137, 29, 753, 707, 708, 709, 710, 25, 21, 635, 636, 637, 24, 638, 639, 640, 641, 642, 643, 644, 645, 646, 647, 648, 649, 650, 651, 652, 685, 686, 687, 688, 689, 690, 691, 711, 220, 221, 28, 222, 223, 224, 225, 712, 713, 714, 64, 715, 81, 716, 717, 82, 718, 84, 719, 720, 721, 246, 247, 248, 80, 249, 202, 201, 203, 204, 205, 206, 207, 208, 209, 210, 96, 250, 251, 252, 253, 244, 245, 234, 235, 216, 217, 218, 236, 237, 238, 239, 240, 241, 242, 243, 786, 787, 788, 789, 790, 791, 792, 824, 825, 826, 827, 828, 816, 817, 818, 819, 820, 821, 822, 823, 810, 811, 812, 813, 814, 815, 832, 833, 834] rfl (by decide +kernel)) (goodIn_sub (fun _ h => List.mem_append_right _ h) (by decide +kernel))) (goodIn_sub (fun _ h => List.mem_append_left _ (List.mem_append_right _ h)) (by decide +kernel))) (goodIn_sub (fun _ h => List.mem_append_left _ (List.mem_append_left _ (List.mem_append_right _ h))) (by decide +kernel))
set_option maxRecDepth 20000 in
theorem gL_law_L_increase : GoodIn wsL_law (va_wsS RL 195 yL_increase wsL_increase) := goodIn_app (goodIn_of _ (by decide +kernel)) ggL_law_L_increase
set_option maxRecDepth 400000 in
theorem ggL_law_X6_increase : GoodIn wsL_law wsX6_increase := goodIn_r _ [757, 40, 263, 264, 265, 5, 266, 102, 664, 665, 666, 696, 697, 698, 699, 46, 667, 668, 669, 670, 661, 47, 662, 671, 672, 673, 674, 675, 676, 677, 383, 384, 385, 386, 42, 380, 381, 382, 106, 107, 108, 109, 110, 758, 759, 760, 761, 286, 43, 44, 45, 793, 794, 795, 796, 797, 798, 799, 800, 801, 802, 803, 804, 805, 806, 807, 808, 809] rfl (by decide +kernel)
set_option maxRecDepth 20000 in
theorem gL_law_X6_increase : GoodIn wsL_law (wsV RL 197 RX6 yX6_increase wsX6_increase) := goodIn_app (goodIn_of _ (by decide +kernel)) ggL_law_X6_increase
set_option maxRecDepth 400000 in
theorem ggL_law_L_ratePerHour : GoodIn wsL_law wsL_ratePerHour := goodIn_ca (goodIn_ca (goodIn_ca (goodIn_r _ [764, 118, 54, 55, 765, 766, 767, 2, 768, 68, 69, 769, 123, 124, 125, 126, 127, 128, 62, 15, 632, 633, 634, 749, 750, 751, 752, 60, 61, 137, 29, 753, 707, 708, 709, 710, 25, 21, 635, 636, 637, 24, 638, 639, 640, 641, 642, 643, 644, 645, 646, 647, 648, 649, 650, 651, 652, 685, 686, 687, 688, 689, 690, 691, 711, 220, 221, 28, 222, 223, 224, 225, 712, 713, 714, 64, 715, 81, 716, 717, 82, 718, 84, 719, 720, 721, 246, 247, 248, 80, 249, 202, 201, 203, 204, 205, 206, 207, 208, 209, 210, 96, 250, 251, 252, 253, 244, 245, 234, 235, 216, 217, 218, 236, 237, 238, 239, 240, 241, 242, 243, 786, 787, 788, 789, 790, 791, 792, 824, 825, 826, 827, 828, 816, 817, 818, 819, 820, 821, 822, 823, 810, 811, 812, 813, 814, 815, 832, 833, 834] rfl (by decide +kernel)) (goodIn_sub (fun _ h => List.mem_append_left _ (List.mem_append_right _ h)) (by decide +kernel))) (goodIn_sub (fun _ h => List.mem_append_right _ h) (by decide +kernel))) (goodIn_sub (fun _ h => List.mem_append_left _ (List.mem_append_left _ (List.mem_append_right _ h))) (by decide +kernel))
set_option maxRecDepth 20000 in
theorem gL_law_L_ratePerHour : GoodIn wsL_law (va_wsS RL 198 yL_ratePerHour wsL_ratePerHour) := goodIn_app (goodIn_of _ (by decide +kernel)) ggL_law_L_ratePerHour
set_option maxRecDepth 400000 in
theorem ggL_law_X6_ratePerHour : GoodIn wsL_law wsX6_ratePerHour := goodIn_r _ [773, 40, 774, 263, 264, 265, 5, 266, 102, 664, 665, 666, 696, 697, 698, 699, 46, 667, 668, 669, 670, 661, 47, 662, 671, 672, 673, 674, 675, 676, 677, 383, 384, 385, 386, 42, 380, 381, 382, 106, 107, 108, 109, 110, 758, 759, 760, 761, 286, 43, 44, 45, 793, 794, 795, 796, 797, 798, 799, 800, 801, 802, 803, 804, 805, 806, 807, 808, 809] rfl (by decide +kernel)
set_option maxRecDepth 20000 in
theorem gL_law_X6_ratePerHour : GoodIn wsL_law (wsV RL 200 RX6 yX6_ratePerHour wsX6_ratePerHour) := goodIn_app (goodIn_of _ (by decide +kernel)) ggL_law_X6_ratePerHour
set_option maxRecDepth 400000 in
theorem ggL_law_L_gaps : GoodIn wsL_law wsL_gaps := goodIn_ca (goodIn_ca (goodIn_r _ [777, 118, 54, 778, 779, 780, 2, 781, 21, 346, 238, 217, 239, 493, 494, 495, 496, 68, 69, 123, 124, 125, 126, 127, 128, 62, 15, 65, 66, 67, 465, 194, 195, 64, 196, 84, 82, 81, 184, 185, 186, 17, 632, 633, 634, 497, 182, 183, 617, 204, 205, 80, 206, 201, 207, 208, 209, 210, 202, 96, 786, 787, 788, 789, 790, 791, 792, 824, 825, 826, 827, 828, 816, 817, 818, 819, 820, 821, 822, 823, 832, 833, 834] rfl (by decide +kernel)) (goodIn_sub (fun _ h => List.mem_append_left _ (List.mem_append_right _ h)) (by decide +kernel))) (goodIn_sub (fun _ h => List.mem_append_right _ h) (by decide +kernel))
set_option maxRecDepth 20000 in
theorem gL_law_L_gaps : GoodIn wsL_law (va_wsS RL 201 yL_gaps wsL_gaps) := goodIn_app (goodIn_of _ (by decide +kernel)) ggL_law_L_gaps
set_option maxRecDepth 400000 in
theorem ggL_law_X6_gaps : GoodIn wsL_law wsX6_gaps := goodIn_r _ [785, 42, 286, 43, 44, 263, 264, 265, 5, 266, 102, 506, 507, 508, 380, 381, 382, 47, 664, 665, 666, 106, 107, 108, 109, 110, 377, 378, 379, 373, 374, 375, 376, 383, 384, 385, 386, 793, 794, 795, 796, 797, 798, 799, 800, 801, 802, 803, 804, 805, 806, 807, 808, 809] rfl (by decide +kernel)
set_option maxRecDepth 20000 in
theorem gL_law_X6_gaps : GoodIn wsL_law (wsV RL 203 RX6 yX6_gaps wsX6_gaps) := goodIn_app (goodIn_of _ (by decide +kernel)) ggL_law_X6_gaps
theorem dL_law_0 : decode cL_law 0 = .ok (.new 8, 3) := by decide +kernel
theorem dL_law_3 : decode cL_law 3 = .ok (.dup, 1) := by decide +kernel
theorem dL_law_4 : decode cL_law 4 = .ok (.invokespecial 102, 3) := by decide +kernel
theorem dL_law_7 : decode cL_law 7 = .ok (.astore_n 1, 1) := by decide +kernel
theorem dL_law_8 : decode cL_law 8 = .ok (.new 103, 3) := by decide +kernel
theorem dL_law_11 : decode cL_law 11 = .ok (.dup, 1) := by decide +kernel
theorem dL_law_12 : decode cL_law 12 = .ok (.invokespecial 105, 3) := by decide +kernel
theorem dL_law_15 : decode cL_law 15 = .ok (.astore_n 2, 1) := by decide +kernel
theorem dL_law_16 : decode cL_law 16 = .ok (.iconst 1, 1) := by decide +kernel
theorem dL_law_17 : decode cL_law 17 = .ok (.newarray .long, 2) := by decide +kernel
theorem dL_law_19 : decode cL_law 19 = .ok (.astore_n 3, 1) := by decide +kernel
theorem dL_law_20 : decode cL_law 20 = .ok (.iconst 1, 1) := by decide +kernel
theorem dL_law_21 : decode cL_law 21 = .ok (.newarray .double, 2) := by decide +kernel
theorem dL_law_23 : decode cL_law 23 = .ok (.astore 4, 2) := by decide +kernel
theorem dL_law_25 : decode cL_law 25 = .ok (.iconst 0, 1) := by decide +kernel
theorem dL_law_26 : decode cL_law 26 = .ok (.istore 5, 2) := by decide +kernel
theorem dL_law_28 : decode cL_law 28 = .ok (.iload 5, 2) := by decide +kernel
theorem dL_law_30 : decode cL_law 30 = .ok (.aload_n 0, 1) := by decide +kernel
theorem dL_law_31 : decode cL_law 31 = .ok (.arraylength, 1) := by decide +kernel
theorem dL_law_32 : decode cL_law 32 = .ok (.bipush 7, 2) := by decide +kernel
theorem dL_law_34 : decode cL_law 34 = .ok (.isub, 1) := by decide +kernel
theorem dL_law_35 : decode cL_law 35 = .ok (.if_icmp .gt 2226, 3) := by decide +kernel
theorem dL_law_38 : decode cL_law 38 = .ok (.aload_n 0, 1) := by decide +kernel
theorem dL_law_39 : decode cL_law 39 = .ok (.iload 5, 2) := by decide +kernel
theorem dL_law_41 : decode cL_law 41 = .ok (.iaload, 1) := by decide +kernel
theorem dL_law_42 : decode cL_law 42 = .ok (.bipush 31, 2) := by decide +kernel
theorem dL_law_44 : decode cL_law 44 = .ok (.iand, 1) := by decide +kernel
theorem dL_law_45 : decode cL_law 45 = .ok (.tableswitch 2210 0 27 #[127, 183, 270, 388, 456, 512, 580, 593, 606, 662, 730, 810, 878, 965, 1045, 1124, 1225, 1305, 1385, 1465, 1545, 1637, 1705, 1780, 1859, 1938, 2017, 2118], 127) := by decide +kernel
theorem dL_law_172 : decode cL_law 172 = .ok (.aload_n 1, 1) := by decide +kernel
theorem dL_law_173 : decode cL_law 173 = .ok (.aload_n 0, 1) := by decide +kernel
theorem dL_law_174 : decode cL_law 174 = .ok (.iload 5, 2) := by decide +kernel
theorem dL_law_176 : decode cL_law 176 = .ok (.iconst 1, 1) := by decide +kernel
theorem dL_law_177 : decode cL_law 177 = .ok (.iadd, 1) := by decide +kernel
theorem dL_law_178 : decode cL_law 178 = .ok (.iaload, 1) := by decide +kernel
theorem dL_law_179 : decode cL_law 179 = .ok (.aload_n 3, 1) := by decide +kernel
theorem dL_law_180 : decode cL_law 180 = .ok (.invokestatic 106, 3) := by decide +kernel
theorem dL_law_183 : decode cL_law 183 = .ok (.istore 6, 2) := by decide +kernel
theorem dL_law_185 : decode cL_law 185 = .ok (.aload_n 2, 1) := by decide +kernel
theorem dL_law_186 : decode cL_law 186 = .ok (.aload_n 0, 1) := by decide +kernel
theorem dL_law_187 : decode cL_law 187 = .ok (.iload 5, 2) := by decide +kernel
theorem dL_law_189 : decode cL_law 189 = .ok (.iconst 1, 1) := by decide +kernel
theorem dL_law_190 : decode cL_law 190 = .ok (.iadd, 1) := by decide +kernel
theorem dL_law_191 : decode cL_law 191 = .ok (.iaload, 1) := by decide +kernel
theorem dL_law_192 : decode cL_law 192 = .ok (.invokevirtual 111, 3) := by decide +kernel
theorem dL_law_195 : decode cL_law 195 = .ok (.istore 7, 2) := by decide +kernel
theorem dL_law_197 : decode cL_law 197 = .ok (.aload_n 2, 1) := by decide +kernel
theorem dL_law_198 : decode cL_law 198 = .ok (.invokevirtual 112, 3) := by decide +kernel
theorem dL_law_201 : decode cL_law 201 = .ok (.iload 6, 2) := by decide +kernel
theorem dL_law_203 : decode cL_law 203 = .ok (.if_icmp .eq 5, 3) := by decide +kernel
theorem dL_law_206 : decode cL_law 206 = .ok (.iconst 0, 1) := by decide +kernel
theorem dL_law_207 : decode cL_law 207 = .ok (.ireturn, 1) := by decide +kernel
theorem dL_law_208 : decode cL_law 208 = .ok (.iload 6, 2) := by decide +kernel
theorem dL_law_210 : decode cL_law 210 = .ok (.ifCond .ne 15, 3) := by decide +kernel
theorem dL_law_213 : decode cL_law 213 = .ok (.aload_n 3, 1) := by decide +kernel
theorem dL_law_214 : decode cL_law 214 = .ok (.iconst 0, 1) := by decide +kernel
theorem dL_law_215 : decode cL_law 215 = .ok (.laload, 1) := by decide +kernel
theorem dL_law_216 : decode cL_law 216 = .ok (.iload 7, 2) := by decide +kernel
theorem dL_law_218 : decode cL_law 218 = .ok (.i2l, 1) := by decide +kernel
theorem dL_law_219 : decode cL_law 219 = .ok (.lcmp, 1) := by decide +kernel
theorem dL_law_220 : decode cL_law 220 = .ok (.ifCond .eq 5, 3) := by decide +kernel
theorem dL_law_223 : decode cL_law 223 = .ok (.iconst 0, 1) := by decide +kernel
theorem dL_law_224 : decode cL_law 224 = .ok (.ireturn, 1) := by decide +kernel
theorem dL_law_225 : decode cL_law 225 = .ok (.goto 2030, 3) := by decide +kernel
theorem dL_law_228 : decode cL_law 228 = .ok (.aload_n 1, 1) := by decide +kernel
theorem dL_law_229 : decode cL_law 229 = .ok (.aload_n 0, 1) := by decide +kernel
theorem dL_law_230 : decode cL_law 230 = .ok (.iload 5, 2) := by decide +kernel
theorem dL_law_232 : decode cL_law 232 = .ok (.iconst 1, 1) := by decide +kernel
theorem dL_law_233 : decode cL_law 233 = .ok (.iadd, 1) := by decide +kernel
theorem dL_law_234 : decode cL_law 234 = .ok (.iaload, 1) := by decide +kernel
theorem dL_law_235 : decode cL_law 235 = .ok (.aload_n 0, 1) := by decide +kernel
theorem dL_law_236 : decode cL_law 236 = .ok (.iload 5, 2) := by decide +kernel
theorem dL_law_238 : decode cL_law 238 = .ok (.iconst 2, 1) := by decide +kernel
theorem dL_law_239 : decode cL_law 239 = .ok (.iadd, 1) := by decide +kernel
theorem dL_law_240 : decode cL_law 240 = .ok (.iaload, 1) := by decide +kernel
theorem dL_law_241 : decode cL_law 241 = .ok (.aload_n 0, 1) := by decide +kernel
theorem dL_law_242 : decode cL_law 242 = .ok (.iload 5, 2) := by decide +kernel
theorem dL_law_244 : decode cL_law 244 = .ok (.iconst 3, 1) := by decide +kernel
theorem dL_law_245 : decode cL_law 245 = .ok (.iadd, 1) := by decide +kernel
theorem dL_law_246 : decode cL_law 246 = .ok (.iaload, 1) := by decide +kernel
theorem dL_law_247 : decode cL_law 247 = .ok (.aload_n 3, 1) := by decide +kernel
theorem dL_law_248 : decode cL_law 248 = .ok (.invokestatic 116, 3) := by decide +kernel
theorem dL_law_251 : decode cL_law 251 = .ok (.istore 6, 2) := by decide +kernel
theorem dL_law_253 : decode cL_law 253 = .ok (.aload_n 2, 1) := by decide +kernel
theorem dL_law_254 : decode cL_law 254 = .ok (.aload_n 0, 1) := by decide +kernel
theorem dL_law_255 : decode cL_law 255 = .ok (.iload 5, 2) := by decide +kernel
theorem dL_law_257 : decode cL_law 257 = .ok (.iconst 1, 1) := by decide +kernel
theorem dL_law_258 : decode cL_law 258 = .ok (.iadd, 1) := by decide +kernel
theorem dL_law_259 : decode cL_law 259 = .ok (.iaload, 1) := by decide +kernel
theorem dL_law_260 : decode cL_law 260 = .ok (.aload_n 0, 1) := by decide +kernel
theorem dL_law_261 : decode cL_law 261 = .ok (.iload 5, 2) := by decide +kernel
theorem dL_law_263 : decode cL_law 263 = .ok (.iconst 2, 1) := by decide +kernel
theorem dL_law_264 : decode cL_law 264 = .ok (.iadd, 1) := by decide +kernel
theorem dL_law_265 : decode cL_law 265 = .ok (.iaload, 1) := by decide +kernel
theorem dL_law_266 : decode cL_law 266 = .ok (.aload_n 0, 1) := by decide +kernel
theorem dL_law_267 : decode cL_law 267 = .ok (.iload 5, 2) := by decide +kernel
theorem dL_law_269 : decode cL_law 269 = .ok (.iconst 3, 1) := by decide +kernel
theorem dL_law_270 : decode cL_law 270 = .ok (.iadd, 1) := by decide +kernel
theorem dL_law_271 : decode cL_law 271 = .ok (.iaload, 1) := by decide +kernel
theorem dL_law_272 : decode cL_law 272 = .ok (.invokevirtual 119, 3) := by decide +kernel
theorem dL_law_275 : decode cL_law 275 = .ok (.istore 7, 2) := by decide +kernel
theorem dL_law_277 : decode cL_law 277 = .ok (.aload_n 2, 1) := by decide +kernel
theorem dL_law_278 : decode cL_law 278 = .ok (.invokevirtual 112, 3) := by decide +kernel
theorem dL_law_281 : decode cL_law 281 = .ok (.iload 6, 2) := by decide +kernel
theorem dL_law_283 : decode cL_law 283 = .ok (.if_icmp .eq 5, 3) := by decide +kernel
theorem dL_law_286 : decode cL_law 286 = .ok (.iconst 0, 1) := by decide +kernel
theorem dL_law_287 : decode cL_law 287 = .ok (.ireturn, 1) := by decide +kernel
theorem dL_law_288 : decode cL_law 288 = .ok (.iload 6, 2) := by decide +kernel
theorem dL_law_290 : decode cL_law 290 = .ok (.ifCond .ne 22, 3) := by decide +kernel
theorem dL_law_293 : decode cL_law 293 = .ok (.aload_n 3, 1) := by decide +kernel
theorem dL_law_294 : decode cL_law 294 = .ok (.iconst 0, 1) := by decide +kernel
theorem dL_law_295 : decode cL_law 295 = .ok (.laload, 1) := by decide +kernel
theorem dL_law_296 : decode cL_law 296 = .ok (.iload 7, 2) := by decide +kernel
theorem dL_law_298 : decode cL_law 298 = .ok (.ifCond .eq 7, 3) := by decide +kernel
theorem dL_law_301 : decode cL_law 301 = .ok (.lconst 1, 1) := by decide +kernel
theorem dL_law_302 : decode cL_law 302 = .ok (.goto 4, 3) := by decide +kernel
theorem dL_law_305 : decode cL_law 305 = .ok (.lconst 0, 1) := by decide +kernel
theorem dL_law_306 : decode cL_law 306 = .ok (.lcmp, 1) := by decide +kernel
theorem dL_law_307 : decode cL_law 307 = .ok (.ifCond .eq 5, 3) := by decide +kernel
theorem dL_law_310 : decode cL_law 310 = .ok (.iconst 0, 1) := by decide +kernel
theorem dL_law_311 : decode cL_law 311 = .ok (.ireturn, 1) := by decide +kernel
theorem dL_law_312 : decode cL_law 312 = .ok (.goto 1943, 3) := by decide +kernel
theorem dL_law_315 : decode cL_law 315 = .ok (.aload_n 1, 1) := by decide +kernel
theorem dL_law_316 : decode cL_law 316 = .ok (.aload_n 0, 1) := by decide +kernel
theorem dL_law_317 : decode cL_law 317 = .ok (.iload 5, 2) := by decide +kernel
theorem dL_law_319 : decode cL_law 319 = .ok (.iconst 1, 1) := by decide +kernel
theorem dL_law_320 : decode cL_law 320 = .ok (.iadd, 1) := by decide +kernel
theorem dL_law_321 : decode cL_law 321 = .ok (.iaload, 1) := by decide +kernel
theorem dL_law_322 : decode cL_law 322 = .ok (.aload_n 0, 1) := by decide +kernel
theorem dL_law_323 : decode cL_law 323 = .ok (.iload 5, 2) := by decide +kernel
theorem dL_law_325 : decode cL_law 325 = .ok (.iconst 2, 1) := by decide +kernel
theorem dL_law_326 : decode cL_law 326 = .ok (.iadd, 1) := by decide +kernel
theorem dL_law_327 : decode cL_law 327 = .ok (.iaload, 1) := by decide +kernel
theorem dL_law_328 : decode cL_law 328 = .ok (.aload_n 0, 1) := by decide +kernel
theorem dL_law_329 : decode cL_law 329 = .ok (.iload 5, 2) := by decide +kernel
theorem dL_law_331 : decode cL_law 331 = .ok (.iconst 3, 1) := by decide +kernel
theorem dL_law_332 : decode cL_law 332 = .ok (.iadd, 1) := by decide +kernel
theorem dL_law_333 : decode cL_law 333 = .ok (.iaload, 1) := by decide +kernel
theorem dL_law_334 : decode cL_law 334 = .ok (.aload_n 0, 1) := by decide +kernel
theorem dL_law_335 : decode cL_law 335 = .ok (.iload 5, 2) := by decide +kernel
theorem dL_law_337 : decode cL_law 337 = .ok (.iconst 4, 1) := by decide +kernel
theorem dL_law_338 : decode cL_law 338 = .ok (.iadd, 1) := by decide +kernel
theorem dL_law_339 : decode cL_law 339 = .ok (.iaload, 1) := by decide +kernel
theorem dL_law_340 : decode cL_law 340 = .ok (.aload_n 0, 1) := by decide +kernel
theorem dL_law_341 : decode cL_law 341 = .ok (.iload 5, 2) := by decide +kernel
theorem dL_law_343 : decode cL_law 343 = .ok (.iconst 5, 1) := by decide +kernel
theorem dL_law_344 : decode cL_law 344 = .ok (.iadd, 1) := by decide +kernel
theorem dL_law_345 : decode cL_law 345 = .ok (.iaload, 1) := by decide +kernel
theorem dL_law_346 : decode cL_law 346 = .ok (.aload_n 0, 1) := by decide +kernel
theorem dL_law_347 : decode cL_law 347 = .ok (.iload 5, 2) := by decide +kernel
theorem dL_law_349 : decode cL_law 349 = .ok (.bipush 6, 2) := by decide +kernel
theorem dL_law_351 : decode cL_law 351 = .ok (.iadd, 1) := by decide +kernel
theorem dL_law_352 : decode cL_law 352 = .ok (.iaload, 1) := by decide +kernel
theorem dL_law_353 : decode cL_law 353 = .ok (.aload_n 3, 1) := by decide +kernel
theorem dL_law_354 : decode cL_law 354 = .ok (.invokestatic 120, 3) := by decide +kernel
theorem dL_law_357 : decode cL_law 357 = .ok (.istore 6, 2) := by decide +kernel
theorem dL_law_359 : decode cL_law 359 = .ok (.aload_n 2, 1) := by decide +kernel
theorem dL_law_360 : decode cL_law 360 = .ok (.aload_n 0, 1) := by decide +kernel
theorem dL_law_361 : decode cL_law 361 = .ok (.iload 5, 2) := by decide +kernel
theorem dL_law_363 : decode cL_law 363 = .ok (.iconst 1, 1) := by decide +kernel
theorem dL_law_364 : decode cL_law 364 = .ok (.iadd, 1) := by decide +kernel
theorem dL_law_365 : decode cL_law 365 = .ok (.iaload, 1) := by decide +kernel
theorem dL_law_366 : decode cL_law 366 = .ok (.aload_n 0, 1) := by decide +kernel
theorem dL_law_367 : decode cL_law 367 = .ok (.iload 5, 2) := by decide +kernel
theorem dL_law_369 : decode cL_law 369 = .ok (.iconst 2, 1) := by decide +kernel
theorem dL_law_370 : decode cL_law 370 = .ok (.iadd, 1) := by decide +kernel
theorem dL_law_371 : decode cL_law 371 = .ok (.iaload, 1) := by decide +kernel
theorem dL_law_372 : decode cL_law 372 = .ok (.aload_n 0, 1) := by decide +kernel
theorem dL_law_373 : decode cL_law 373 = .ok (.iload 5, 2) := by decide +kernel
theorem dL_law_375 : decode cL_law 375 = .ok (.iconst 3, 1) := by decide +kernel
theorem dL_law_376 : decode cL_law 376 = .ok (.iadd, 1) := by decide +kernel
theorem dL_law_377 : decode cL_law 377 = .ok (.iaload, 1) := by decide +kernel
theorem dL_law_378 : decode cL_law 378 = .ok (.aload_n 0, 1) := by decide +kernel
theorem dL_law_379 : decode cL_law 379 = .ok (.iload 5, 2) := by decide +kernel
theorem dL_law_381 : decode cL_law 381 = .ok (.iconst 4, 1) := by decide +kernel
theorem dL_law_382 : decode cL_law 382 = .ok (.iadd, 1) := by decide +kernel
theorem dL_law_383 : decode cL_law 383 = .ok (.iaload, 1) := by decide +kernel
theorem dL_law_384 : decode cL_law 384 = .ok (.aload_n 0, 1) := by decide +kernel
theorem dL_law_385 : decode cL_law 385 = .ok (.iload 5, 2) := by decide +kernel
theorem dL_law_387 : decode cL_law 387 = .ok (.iconst 5, 1) := by decide +kernel
theorem dL_law_388 : decode cL_law 388 = .ok (.iadd, 1) := by decide +kernel
theorem dL_law_389 : decode cL_law 389 = .ok (.iaload, 1) := by decide +kernel
theorem dL_law_390 : decode cL_law 390 = .ok (.aload_n 0, 1) := by decide +kernel
theorem dL_law_391 : decode cL_law 391 = .ok (.iload 5, 2) := by decide +kernel
theorem dL_law_393 : decode cL_law 393 = .ok (.bipush 6, 2) := by decide +kernel
theorem dL_law_395 : decode cL_law 395 = .ok (.iadd, 1) := by decide +kernel
theorem dL_law_396 : decode cL_law 396 = .ok (.iaload, 1) := by decide +kernel
theorem dL_law_397 : decode cL_law 397 = .ok (.invokevirtual 123, 3) := by decide +kernel
theorem dL_law_400 : decode cL_law 400 = .ok (.istore 7, 2) := by decide +kernel
theorem dL_law_402 : decode cL_law 402 = .ok (.aload_n 2, 1) := by decide +kernel
theorem dL_law_403 : decode cL_law 403 = .ok (.invokevirtual 112, 3) := by decide +kernel
theorem dL_law_406 : decode cL_law 406 = .ok (.iload 6, 2) := by decide +kernel
theorem dL_law_408 : decode cL_law 408 = .ok (.if_icmp .eq 5, 3) := by decide +kernel
theorem dL_law_411 : decode cL_law 411 = .ok (.iconst 0, 1) := by decide +kernel
theorem dL_law_412 : decode cL_law 412 = .ok (.ireturn, 1) := by decide +kernel
theorem dL_law_413 : decode cL_law 413 = .ok (.iload 6, 2) := by decide +kernel
theorem dL_law_415 : decode cL_law 415 = .ok (.ifCond .ne 15, 3) := by decide +kernel
theorem dL_law_418 : decode cL_law 418 = .ok (.aload_n 3, 1) := by decide +kernel
theorem dL_law_419 : decode cL_law 419 = .ok (.iconst 0, 1) := by decide +kernel
theorem dL_law_420 : decode cL_law 420 = .ok (.laload, 1) := by decide +kernel
theorem dL_law_421 : decode cL_law 421 = .ok (.iload 7, 2) := by decide +kernel
theorem dL_law_423 : decode cL_law 423 = .ok (.i2l, 1) := by decide +kernel
theorem dL_law_424 : decode cL_law 424 = .ok (.lcmp, 1) := by decide +kernel
theorem dL_law_425 : decode cL_law 425 = .ok (.ifCond .eq 5, 3) := by decide +kernel
theorem dL_law_428 : decode cL_law 428 = .ok (.iconst 0, 1) := by decide +kernel
theorem dL_law_429 : decode cL_law 429 = .ok (.ireturn, 1) := by decide +kernel
theorem dL_law_430 : decode cL_law 430 = .ok (.goto 1825, 3) := by decide +kernel
theorem dL_law_433 : decode cL_law 433 = .ok (.aload_n 1, 1) := by decide +kernel
theorem dL_law_434 : decode cL_law 434 = .ok (.aload_n 0, 1) := by decide +kernel
theorem dL_law_435 : decode cL_law 435 = .ok (.iload 5, 2) := by decide +kernel
theorem dL_law_437 : decode cL_law 437 = .ok (.iconst 1, 1) := by decide +kernel
theorem dL_law_438 : decode cL_law 438 = .ok (.iadd, 1) := by decide +kernel
theorem dL_law_439 : decode cL_law 439 = .ok (.iaload, 1) := by decide +kernel
theorem dL_law_440 : decode cL_law 440 = .ok (.aload_n 0, 1) := by decide +kernel
theorem dL_law_441 : decode cL_law 441 = .ok (.iload 5, 2) := by decide +kernel
theorem dL_law_443 : decode cL_law 443 = .ok (.iconst 2, 1) := by decide +kernel
theorem dL_law_444 : decode cL_law 444 = .ok (.iadd, 1) := by decide +kernel
theorem dL_law_445 : decode cL_law 445 = .ok (.iaload, 1) := by decide +kernel
theorem dL_law_446 : decode cL_law 446 = .ok (.aload_n 3, 1) := by decide +kernel
theorem dL_law_447 : decode cL_law 447 = .ok (.invokestatic 124, 3) := by decide +kernel
theorem dL_law_450 : decode cL_law 450 = .ok (.istore 6, 2) := by decide +kernel
theorem dL_law_452 : decode cL_law 452 = .ok (.aload_n 2, 1) := by decide +kernel
theorem dL_law_453 : decode cL_law 453 = .ok (.aload_n 0, 1) := by decide +kernel
theorem dL_law_454 : decode cL_law 454 = .ok (.iload 5, 2) := by decide +kernel
theorem dL_law_456 : decode cL_law 456 = .ok (.iconst 1, 1) := by decide +kernel
theorem dL_law_457 : decode cL_law 457 = .ok (.iadd, 1) := by decide +kernel
theorem dL_law_458 : decode cL_law 458 = .ok (.iaload, 1) := by decide +kernel
theorem dL_law_459 : decode cL_law 459 = .ok (.aload_n 0, 1) := by decide +kernel
theorem dL_law_460 : decode cL_law 460 = .ok (.iload 5, 2) := by decide +kernel
theorem dL_law_462 : decode cL_law 462 = .ok (.iconst 2, 1) := by decide +kernel
theorem dL_law_463 : decode cL_law 463 = .ok (.iadd, 1) := by decide +kernel
theorem dL_law_464 : decode cL_law 464 = .ok (.iaload, 1) := by decide +kernel
theorem dL_law_465 : decode cL_law 465 = .ok (.invokevirtual 127, 3) := by decide +kernel
theorem dL_law_468 : decode cL_law 468 = .ok (.istore 7, 2) := by decide +kernel
theorem dL_law_470 : decode cL_law 470 = .ok (.aload_n 2, 1) := by decide +kernel
theorem dL_law_471 : decode cL_law 471 = .ok (.invokevirtual 112, 3) := by decide +kernel
theorem dL_law_474 : decode cL_law 474 = .ok (.iload 6, 2) := by decide +kernel
theorem dL_law_476 : decode cL_law 476 = .ok (.if_icmp .eq 5, 3) := by decide +kernel
theorem dL_law_479 : decode cL_law 479 = .ok (.iconst 0, 1) := by decide +kernel
theorem dL_law_480 : decode cL_law 480 = .ok (.ireturn, 1) := by decide +kernel
theorem dL_law_481 : decode cL_law 481 = .ok (.iload 6, 2) := by decide +kernel
theorem dL_law_483 : decode cL_law 483 = .ok (.ifCond .ne 15, 3) := by decide +kernel
theorem dL_law_486 : decode cL_law 486 = .ok (.aload_n 3, 1) := by decide +kernel
theorem dL_law_487 : decode cL_law 487 = .ok (.iconst 0, 1) := by decide +kernel
theorem dL_law_488 : decode cL_law 488 = .ok (.laload, 1) := by decide +kernel
theorem dL_law_489 : decode cL_law 489 = .ok (.iload 7, 2) := by decide +kernel
theorem dL_law_491 : decode cL_law 491 = .ok (.i2l, 1) := by decide +kernel
theorem dL_law_492 : decode cL_law 492 = .ok (.lcmp, 1) := by decide +kernel
theorem dL_law_493 : decode cL_law 493 = .ok (.ifCond .eq 5, 3) := by decide +kernel
theorem dL_law_496 : decode cL_law 496 = .ok (.iconst 0, 1) := by decide +kernel
theorem dL_law_497 : decode cL_law 497 = .ok (.ireturn, 1) := by decide +kernel
theorem dL_law_498 : decode cL_law 498 = .ok (.goto 1757, 3) := by decide +kernel
theorem dL_law_501 : decode cL_law 501 = .ok (.aload_n 1, 1) := by decide +kernel
theorem dL_law_502 : decode cL_law 502 = .ok (.aload_n 0, 1) := by decide +kernel
theorem dL_law_503 : decode cL_law 503 = .ok (.iload 5, 2) := by decide +kernel
theorem dL_law_505 : decode cL_law 505 = .ok (.iconst 1, 1) := by decide +kernel
theorem dL_law_506 : decode cL_law 506 = .ok (.iadd, 1) := by decide +kernel
theorem dL_law_507 : decode cL_law 507 = .ok (.iaload, 1) := by decide +kernel
theorem dL_law_508 : decode cL_law 508 = .ok (.aload_n 3, 1) := by decide +kernel
theorem dL_law_509 : decode cL_law 509 = .ok (.invokestatic 128, 3) := by decide +kernel
theorem dL_law_512 : decode cL_law 512 = .ok (.istore 6, 2) := by decide +kernel
theorem dL_law_514 : decode cL_law 514 = .ok (.aload_n 2, 1) := by decide +kernel
theorem dL_law_515 : decode cL_law 515 = .ok (.aload_n 0, 1) := by decide +kernel
theorem dL_law_516 : decode cL_law 516 = .ok (.iload 5, 2) := by decide +kernel
theorem dL_law_518 : decode cL_law 518 = .ok (.iconst 1, 1) := by decide +kernel
theorem dL_law_519 : decode cL_law 519 = .ok (.iadd, 1) := by decide +kernel
theorem dL_law_520 : decode cL_law 520 = .ok (.iaload, 1) := by decide +kernel
theorem dL_law_521 : decode cL_law 521 = .ok (.invokevirtual 130, 3) := by decide +kernel
theorem dL_law_524 : decode cL_law 524 = .ok (.istore 7, 2) := by decide +kernel
theorem dL_law_526 : decode cL_law 526 = .ok (.aload_n 2, 1) := by decide +kernel
theorem dL_law_527 : decode cL_law 527 = .ok (.invokevirtual 112, 3) := by decide +kernel
theorem dL_law_530 : decode cL_law 530 = .ok (.iload 6, 2) := by decide +kernel
theorem dL_law_532 : decode cL_law 532 = .ok (.if_icmp .eq 5, 3) := by decide +kernel
theorem dL_law_535 : decode cL_law 535 = .ok (.iconst 0, 1) := by decide +kernel
theorem dL_law_536 : decode cL_law 536 = .ok (.ireturn, 1) := by decide +kernel
theorem dL_law_537 : decode cL_law 537 = .ok (.iload 6, 2) := by decide +kernel
theorem dL_law_539 : decode cL_law 539 = .ok (.ifCond .ne 15, 3) := by decide +kernel
theorem dL_law_542 : decode cL_law 542 = .ok (.aload_n 3, 1) := by decide +kernel
theorem dL_law_543 : decode cL_law 543 = .ok (.iconst 0, 1) := by decide +kernel
theorem dL_law_544 : decode cL_law 544 = .ok (.laload, 1) := by decide +kernel
theorem dL_law_545 : decode cL_law 545 = .ok (.iload 7, 2) := by decide +kernel
theorem dL_law_547 : decode cL_law 547 = .ok (.i2l, 1) := by decide +kernel
theorem dL_law_548 : decode cL_law 548 = .ok (.lcmp, 1) := by decide +kernel
theorem dL_law_549 : decode cL_law 549 = .ok (.ifCond .eq 5, 3) := by decide +kernel
theorem dL_law_552 : decode cL_law 552 = .ok (.iconst 0, 1) := by decide +kernel
theorem dL_law_553 : decode cL_law 553 = .ok (.ireturn, 1) := by decide +kernel
theorem dL_law_554 : decode cL_law 554 = .ok (.goto 1701, 3) := by decide +kernel
theorem dL_law_557 : decode cL_law 557 = .ok (.aload_n 1, 1) := by decide +kernel
theorem dL_law_558 : decode cL_law 558 = .ok (.aload_n 0, 1) := by decide +kernel
theorem dL_law_559 : decode cL_law 559 = .ok (.iload 5, 2) := by decide +kernel
theorem dL_law_561 : decode cL_law 561 = .ok (.iconst 1, 1) := by decide +kernel
theorem dL_law_562 : decode cL_law 562 = .ok (.iadd, 1) := by decide +kernel
theorem dL_law_563 : decode cL_law 563 = .ok (.iaload, 1) := by decide +kernel
theorem dL_law_564 : decode cL_law 564 = .ok (.aload_n 0, 1) := by decide +kernel
theorem dL_law_565 : decode cL_law 565 = .ok (.iload 5, 2) := by decide +kernel
theorem dL_law_567 : decode cL_law 567 = .ok (.iconst 2, 1) := by decide +kernel
theorem dL_law_568 : decode cL_law 568 = .ok (.iadd, 1) := by decide +kernel
theorem dL_law_569 : decode cL_law 569 = .ok (.iaload, 1) := by decide +kernel
theorem dL_law_570 : decode cL_law 570 = .ok (.aload_n 3, 1) := by decide +kernel
theorem dL_law_571 : decode cL_law 571 = .ok (.invokestatic 131, 3) := by decide +kernel
theorem dL_law_574 : decode cL_law 574 = .ok (.istore 6, 2) := by decide +kernel
theorem dL_law_576 : decode cL_law 576 = .ok (.aload_n 2, 1) := by decide +kernel
theorem dL_law_577 : decode cL_law 577 = .ok (.aload_n 0, 1) := by decide +kernel
theorem dL_law_578 : decode cL_law 578 = .ok (.iload 5, 2) := by decide +kernel
theorem dL_law_580 : decode cL_law 580 = .ok (.iconst 1, 1) := by decide +kernel
theorem dL_law_581 : decode cL_law 581 = .ok (.iadd, 1) := by decide +kernel
theorem dL_law_582 : decode cL_law 582 = .ok (.iaload, 1) := by decide +kernel
theorem dL_law_583 : decode cL_law 583 = .ok (.aload_n 0, 1) := by decide +kernel
theorem dL_law_584 : decode cL_law 584 = .ok (.iload 5, 2) := by decide +kernel
theorem dL_law_586 : decode cL_law 586 = .ok (.iconst 2, 1) := by decide +kernel
theorem dL_law_587 : decode cL_law 587 = .ok (.iadd, 1) := by decide +kernel
theorem dL_law_588 : decode cL_law 588 = .ok (.iaload, 1) := by decide +kernel
theorem dL_law_589 : decode cL_law 589 = .ok (.invokevirtual 133, 3) := by decide +kernel
theorem dL_law_592 : decode cL_law 592 = .ok (.istore 7, 2) := by decide +kernel
theorem dL_law_594 : decode cL_law 594 = .ok (.aload_n 2, 1) := by decide +kernel
theorem dL_law_595 : decode cL_law 595 = .ok (.invokevirtual 112, 3) := by decide +kernel
theorem dL_law_598 : decode cL_law 598 = .ok (.iload 6, 2) := by decide +kernel
theorem dL_law_600 : decode cL_law 600 = .ok (.if_icmp .eq 5, 3) := by decide +kernel
theorem dL_law_603 : decode cL_law 603 = .ok (.iconst 0, 1) := by decide +kernel
theorem dL_law_604 : decode cL_law 604 = .ok (.ireturn, 1) := by decide +kernel
theorem dL_law_605 : decode cL_law 605 = .ok (.iload 6, 2) := by decide +kernel
theorem dL_law_607 : decode cL_law 607 = .ok (.ifCond .ne 15, 3) := by decide +kernel
theorem dL_law_610 : decode cL_law 610 = .ok (.aload_n 3, 1) := by decide +kernel
theorem dL_law_611 : decode cL_law 611 = .ok (.iconst 0, 1) := by decide +kernel
theorem dL_law_612 : decode cL_law 612 = .ok (.laload, 1) := by decide +kernel
theorem dL_law_613 : decode cL_law 613 = .ok (.iload 7, 2) := by decide +kernel
theorem dL_law_615 : decode cL_law 615 = .ok (.i2l, 1) := by decide +kernel
theorem dL_law_616 : decode cL_law 616 = .ok (.lcmp, 1) := by decide +kernel
theorem dL_law_617 : decode cL_law 617 = .ok (.ifCond .eq 5, 3) := by decide +kernel
theorem dL_law_620 : decode cL_law 620 = .ok (.iconst 0, 1) := by decide +kernel
theorem dL_law_621 : decode cL_law 621 = .ok (.ireturn, 1) := by decide +kernel
theorem dL_law_622 : decode cL_law 622 = .ok (.goto 1633, 3) := by decide +kernel
theorem dL_law_625 : decode cL_law 625 = .ok (.aload_n 1, 1) := by decide +kernel
theorem dL_law_626 : decode cL_law 626 = .ok (.invokevirtual 134, 3) := by decide +kernel
theorem dL_law_629 : decode cL_law 629 = .ok (.aload_n 2, 1) := by decide +kernel
theorem dL_law_630 : decode cL_law 630 = .ok (.invokevirtual 137, 3) := by decide +kernel
theorem dL_law_633 : decode cL_law 633 = .ok (.if_icmp .eq 1622, 3) := by decide +kernel
theorem dL_law_636 : decode cL_law 636 = .ok (.iconst 0, 1) := by decide +kernel
theorem dL_law_637 : decode cL_law 637 = .ok (.ireturn, 1) := by decide +kernel
theorem dL_law_638 : decode cL_law 638 = .ok (.aload_n 1, 1) := by decide +kernel
theorem dL_law_639 : decode cL_law 639 = .ok (.invokevirtual 138, 3) := by decide +kernel
theorem dL_law_642 : decode cL_law 642 = .ok (.aload_n 2, 1) := by decide +kernel
theorem dL_law_643 : decode cL_law 643 = .ok (.invokevirtual 141, 3) := by decide +kernel
theorem dL_law_646 : decode cL_law 646 = .ok (.if_icmp .eq 1609, 3) := by decide +kernel
theorem dL_law_649 : decode cL_law 649 = .ok (.iconst 0, 1) := by decide +kernel
theorem dL_law_650 : decode cL_law 650 = .ok (.ireturn, 1) := by decide +kernel
theorem dL_law_651 : decode cL_law 651 = .ok (.aload_n 1, 1) := by decide +kernel
theorem dL_law_652 : decode cL_law 652 = .ok (.aload_n 0, 1) := by decide +kernel
theorem dL_law_653 : decode cL_law 653 = .ok (.iload 5, 2) := by decide +kernel
theorem dL_law_655 : decode cL_law 655 = .ok (.iconst 1, 1) := by decide +kernel
theorem dL_law_656 : decode cL_law 656 = .ok (.iadd, 1) := by decide +kernel
theorem dL_law_657 : decode cL_law 657 = .ok (.iaload, 1) := by decide +kernel
theorem dL_law_658 : decode cL_law 658 = .ok (.aload_n 3, 1) := by decide +kernel
theorem dL_law_659 : decode cL_law 659 = .ok (.invokestatic 142, 3) := by decide +kernel
theorem dL_law_662 : decode cL_law 662 = .ok (.istore 6, 2) := by decide +kernel
theorem dL_law_664 : decode cL_law 664 = .ok (.aload_n 2, 1) := by decide +kernel
theorem dL_law_665 : decode cL_law 665 = .ok (.aload_n 0, 1) := by decide +kernel
theorem dL_law_666 : decode cL_law 666 = .ok (.iload 5, 2) := by decide +kernel
theorem dL_law_668 : decode cL_law 668 = .ok (.iconst 1, 1) := by decide +kernel
theorem dL_law_669 : decode cL_law 669 = .ok (.iadd, 1) := by decide +kernel
theorem dL_law_670 : decode cL_law 670 = .ok (.iaload, 1) := by decide +kernel
theorem dL_law_671 : decode cL_law 671 = .ok (.invokevirtual 144, 3) := by decide +kernel
theorem dL_law_674 : decode cL_law 674 = .ok (.istore 7, 2) := by decide +kernel
theorem dL_law_676 : decode cL_law 676 = .ok (.aload_n 2, 1) := by decide +kernel
theorem dL_law_677 : decode cL_law 677 = .ok (.invokevirtual 112, 3) := by decide +kernel
theorem dL_law_680 : decode cL_law 680 = .ok (.iload 6, 2) := by decide +kernel
theorem dL_law_682 : decode cL_law 682 = .ok (.if_icmp .eq 5, 3) := by decide +kernel
theorem dL_law_685 : decode cL_law 685 = .ok (.iconst 0, 1) := by decide +kernel
theorem dL_law_686 : decode cL_law 686 = .ok (.ireturn, 1) := by decide +kernel
theorem dL_law_687 : decode cL_law 687 = .ok (.iload 6, 2) := by decide +kernel
theorem dL_law_689 : decode cL_law 689 = .ok (.ifCond .ne 15, 3) := by decide +kernel
theorem dL_law_692 : decode cL_law 692 = .ok (.aload_n 3, 1) := by decide +kernel
theorem dL_law_693 : decode cL_law 693 = .ok (.iconst 0, 1) := by decide +kernel
theorem dL_law_694 : decode cL_law 694 = .ok (.laload, 1) := by decide +kernel
theorem dL_law_695 : decode cL_law 695 = .ok (.iload 7, 2) := by decide +kernel
theorem dL_law_697 : decode cL_law 697 = .ok (.i2l, 1) := by decide +kernel
theorem dL_law_698 : decode cL_law 698 = .ok (.lcmp, 1) := by decide +kernel
theorem dL_law_699 : decode cL_law 699 = .ok (.ifCond .eq 5, 3) := by decide +kernel
theorem dL_law_702 : decode cL_law 702 = .ok (.iconst 0, 1) := by decide +kernel
theorem dL_law_703 : decode cL_law 703 = .ok (.ireturn, 1) := by decide +kernel
theorem dL_law_704 : decode cL_law 704 = .ok (.goto 1551, 3) := by decide +kernel
theorem dL_law_707 : decode cL_law 707 = .ok (.aload_n 1, 1) := by decide +kernel
theorem dL_law_708 : decode cL_law 708 = .ok (.aload_n 0, 1) := by decide +kernel
theorem dL_law_709 : decode cL_law 709 = .ok (.iload 5, 2) := by decide +kernel
theorem dL_law_711 : decode cL_law 711 = .ok (.iconst 1, 1) := by decide +kernel
theorem dL_law_712 : decode cL_law 712 = .ok (.iadd, 1) := by decide +kernel
theorem dL_law_713 : decode cL_law 713 = .ok (.iaload, 1) := by decide +kernel
theorem dL_law_714 : decode cL_law 714 = .ok (.aload_n 0, 1) := by decide +kernel
theorem dL_law_715 : decode cL_law 715 = .ok (.iload 5, 2) := by decide +kernel
theorem dL_law_717 : decode cL_law 717 = .ok (.iconst 2, 1) := by decide +kernel
theorem dL_law_718 : decode cL_law 718 = .ok (.iadd, 1) := by decide +kernel
theorem dL_law_719 : decode cL_law 719 = .ok (.iaload, 1) := by decide +kernel
theorem dL_law_720 : decode cL_law 720 = .ok (.aload_n 3, 1) := by decide +kernel
theorem dL_law_721 : decode cL_law 721 = .ok (.invokestatic 145, 3) := by decide +kernel
theorem dL_law_724 : decode cL_law 724 = .ok (.istore 6, 2) := by decide +kernel
theorem dL_law_726 : decode cL_law 726 = .ok (.aload_n 2, 1) := by decide +kernel
theorem dL_law_727 : decode cL_law 727 = .ok (.aload_n 0, 1) := by decide +kernel
theorem dL_law_728 : decode cL_law 728 = .ok (.iload 5, 2) := by decide +kernel
theorem dL_law_730 : decode cL_law 730 = .ok (.iconst 1, 1) := by decide +kernel
theorem dL_law_731 : decode cL_law 731 = .ok (.iadd, 1) := by decide +kernel
theorem dL_law_732 : decode cL_law 732 = .ok (.iaload, 1) := by decide +kernel
theorem dL_law_733 : decode cL_law 733 = .ok (.aload_n 0, 1) := by decide +kernel
theorem dL_law_734 : decode cL_law 734 = .ok (.iload 5, 2) := by decide +kernel
theorem dL_law_736 : decode cL_law 736 = .ok (.iconst 2, 1) := by decide +kernel
theorem dL_law_737 : decode cL_law 737 = .ok (.iadd, 1) := by decide +kernel
theorem dL_law_738 : decode cL_law 738 = .ok (.iaload, 1) := by decide +kernel
theorem dL_law_739 : decode cL_law 739 = .ok (.invokevirtual 147, 3) := by decide +kernel
theorem dL_law_742 : decode cL_law 742 = .ok (.istore 7, 2) := by decide +kernel
theorem dL_law_744 : decode cL_law 744 = .ok (.aload_n 2, 1) := by decide +kernel
theorem dL_law_745 : decode cL_law 745 = .ok (.invokevirtual 112, 3) := by decide +kernel
theorem dL_law_748 : decode cL_law 748 = .ok (.iload 6, 2) := by decide +kernel
theorem dL_law_750 : decode cL_law 750 = .ok (.if_icmp .eq 5, 3) := by decide +kernel
theorem dL_law_753 : decode cL_law 753 = .ok (.iconst 0, 1) := by decide +kernel
theorem dL_law_754 : decode cL_law 754 = .ok (.ireturn, 1) := by decide +kernel
theorem dL_law_755 : decode cL_law 755 = .ok (.iload 6, 2) := by decide +kernel
theorem dL_law_757 : decode cL_law 757 = .ok (.ifCond .ne 15, 3) := by decide +kernel
theorem dL_law_760 : decode cL_law 760 = .ok (.aload_n 3, 1) := by decide +kernel
theorem dL_law_761 : decode cL_law 761 = .ok (.iconst 0, 1) := by decide +kernel
theorem dL_law_762 : decode cL_law 762 = .ok (.laload, 1) := by decide +kernel
theorem dL_law_763 : decode cL_law 763 = .ok (.iload 7, 2) := by decide +kernel
theorem dL_law_765 : decode cL_law 765 = .ok (.i2l, 1) := by decide +kernel
theorem dL_law_766 : decode cL_law 766 = .ok (.lcmp, 1) := by decide +kernel
theorem dL_law_767 : decode cL_law 767 = .ok (.ifCond .eq 5, 3) := by decide +kernel
theorem dL_law_770 : decode cL_law 770 = .ok (.iconst 0, 1) := by decide +kernel
theorem dL_law_771 : decode cL_law 771 = .ok (.ireturn, 1) := by decide +kernel
theorem dL_law_772 : decode cL_law 772 = .ok (.goto 1483, 3) := by decide +kernel
theorem dL_law_775 : decode cL_law 775 = .ok (.aload_n 1, 1) := by decide +kernel
theorem dL_law_776 : decode cL_law 776 = .ok (.aload_n 0, 1) := by decide +kernel
theorem dL_law_777 : decode cL_law 777 = .ok (.iload 5, 2) := by decide +kernel
theorem dL_law_779 : decode cL_law 779 = .ok (.iconst 1, 1) := by decide +kernel
theorem dL_law_780 : decode cL_law 780 = .ok (.iadd, 1) := by decide +kernel
theorem dL_law_781 : decode cL_law 781 = .ok (.iaload, 1) := by decide +kernel
theorem dL_law_782 : decode cL_law 782 = .ok (.aload_n 0, 1) := by decide +kernel
theorem dL_law_783 : decode cL_law 783 = .ok (.iload 5, 2) := by decide +kernel
theorem dL_law_785 : decode cL_law 785 = .ok (.iconst 2, 1) := by decide +kernel
theorem dL_law_786 : decode cL_law 786 = .ok (.iadd, 1) := by decide +kernel
theorem dL_law_787 : decode cL_law 787 = .ok (.iaload, 1) := by decide +kernel
theorem dL_law_788 : decode cL_law 788 = .ok (.aload_n 0, 1) := by decide +kernel
theorem dL_law_789 : decode cL_law 789 = .ok (.iload 5, 2) := by decide +kernel
theorem dL_law_791 : decode cL_law 791 = .ok (.iconst 3, 1) := by decide +kernel
theorem dL_law_792 : decode cL_law 792 = .ok (.iadd, 1) := by decide +kernel
theorem dL_law_793 : decode cL_law 793 = .ok (.iaload, 1) := by decide +kernel
theorem dL_law_794 : decode cL_law 794 = .ok (.aload_n 3, 1) := by decide +kernel
theorem dL_law_795 : decode cL_law 795 = .ok (.invokestatic 148, 3) := by decide +kernel
theorem dL_law_798 : decode cL_law 798 = .ok (.istore 6, 2) := by decide +kernel
theorem dL_law_800 : decode cL_law 800 = .ok (.aload_n 2, 1) := by decide +kernel
theorem dL_law_801 : decode cL_law 801 = .ok (.aload_n 0, 1) := by decide +kernel
theorem dL_law_802 : decode cL_law 802 = .ok (.iload 5, 2) := by decide +kernel
theorem dL_law_804 : decode cL_law 804 = .ok (.iconst 1, 1) := by decide +kernel
theorem dL_law_805 : decode cL_law 805 = .ok (.iadd, 1) := by decide +kernel
theorem dL_law_806 : decode cL_law 806 = .ok (.iaload, 1) := by decide +kernel
theorem dL_law_807 : decode cL_law 807 = .ok (.aload_n 0, 1) := by decide +kernel
theorem dL_law_808 : decode cL_law 808 = .ok (.iload 5, 2) := by decide +kernel
theorem dL_law_810 : decode cL_law 810 = .ok (.iconst 2, 1) := by decide +kernel
theorem dL_law_811 : decode cL_law 811 = .ok (.iadd, 1) := by decide +kernel
theorem dL_law_812 : decode cL_law 812 = .ok (.iaload, 1) := by decide +kernel
theorem dL_law_813 : decode cL_law 813 = .ok (.aload_n 0, 1) := by decide +kernel
theorem dL_law_814 : decode cL_law 814 = .ok (.iload 5, 2) := by decide +kernel
theorem dL_law_816 : decode cL_law 816 = .ok (.iconst 3, 1) := by decide +kernel
theorem dL_law_817 : decode cL_law 817 = .ok (.iadd, 1) := by decide +kernel
theorem dL_law_818 : decode cL_law 818 = .ok (.iaload, 1) := by decide +kernel
theorem dL_law_819 : decode cL_law 819 = .ok (.invokevirtual 150, 3) := by decide +kernel
theorem dL_law_822 : decode cL_law 822 = .ok (.istore 7, 2) := by decide +kernel
theorem dL_law_824 : decode cL_law 824 = .ok (.aload_n 2, 1) := by decide +kernel
theorem dL_law_825 : decode cL_law 825 = .ok (.invokevirtual 112, 3) := by decide +kernel
theorem dL_law_828 : decode cL_law 828 = .ok (.iload 6, 2) := by decide +kernel
theorem dL_law_830 : decode cL_law 830 = .ok (.if_icmp .eq 5, 3) := by decide +kernel
theorem dL_law_833 : decode cL_law 833 = .ok (.iconst 0, 1) := by decide +kernel
theorem dL_law_834 : decode cL_law 834 = .ok (.ireturn, 1) := by decide +kernel
theorem dL_law_835 : decode cL_law 835 = .ok (.iload 6, 2) := by decide +kernel
theorem dL_law_837 : decode cL_law 837 = .ok (.ifCond .ne 15, 3) := by decide +kernel
theorem dL_law_840 : decode cL_law 840 = .ok (.aload_n 3, 1) := by decide +kernel
theorem dL_law_841 : decode cL_law 841 = .ok (.iconst 0, 1) := by decide +kernel
theorem dL_law_842 : decode cL_law 842 = .ok (.laload, 1) := by decide +kernel
theorem dL_law_843 : decode cL_law 843 = .ok (.iload 7, 2) := by decide +kernel
theorem dL_law_845 : decode cL_law 845 = .ok (.i2l, 1) := by decide +kernel
theorem dL_law_846 : decode cL_law 846 = .ok (.lcmp, 1) := by decide +kernel
theorem dL_law_847 : decode cL_law 847 = .ok (.ifCond .eq 5, 3) := by decide +kernel
theorem dL_law_850 : decode cL_law 850 = .ok (.iconst 0, 1) := by decide +kernel
theorem dL_law_851 : decode cL_law 851 = .ok (.ireturn, 1) := by decide +kernel
theorem dL_law_852 : decode cL_law 852 = .ok (.goto 1403, 3) := by decide +kernel
theorem dL_law_855 : decode cL_law 855 = .ok (.aload_n 1, 1) := by decide +kernel
theorem dL_law_856 : decode cL_law 856 = .ok (.aload_n 0, 1) := by decide +kernel
theorem dL_law_857 : decode cL_law 857 = .ok (.iload 5, 2) := by decide +kernel
theorem dL_law_859 : decode cL_law 859 = .ok (.iconst 1, 1) := by decide +kernel
theorem dL_law_860 : decode cL_law 860 = .ok (.iadd, 1) := by decide +kernel
theorem dL_law_861 : decode cL_law 861 = .ok (.iaload, 1) := by decide +kernel
theorem dL_law_862 : decode cL_law 862 = .ok (.aload_n 0, 1) := by decide +kernel
theorem dL_law_863 : decode cL_law 863 = .ok (.iload 5, 2) := by decide +kernel
theorem dL_law_865 : decode cL_law 865 = .ok (.iconst 2, 1) := by decide +kernel
theorem dL_law_866 : decode cL_law 866 = .ok (.iadd, 1) := by decide +kernel
theorem dL_law_867 : decode cL_law 867 = .ok (.iaload, 1) := by decide +kernel
theorem dL_law_868 : decode cL_law 868 = .ok (.aload_n 3, 1) := by decide +kernel
theorem dL_law_869 : decode cL_law 869 = .ok (.invokestatic 151, 3) := by decide +kernel
theorem dL_law_872 : decode cL_law 872 = .ok (.istore 6, 2) := by decide +kernel
theorem dL_law_874 : decode cL_law 874 = .ok (.aload_n 2, 1) := by decide +kernel
theorem dL_law_875 : decode cL_law 875 = .ok (.aload_n 0, 1) := by decide +kernel
theorem dL_law_876 : decode cL_law 876 = .ok (.iload 5, 2) := by decide +kernel
theorem dL_law_878 : decode cL_law 878 = .ok (.iconst 1, 1) := by decide +kernel
theorem dL_law_879 : decode cL_law 879 = .ok (.iadd, 1) := by decide +kernel
theorem dL_law_880 : decode cL_law 880 = .ok (.iaload, 1) := by decide +kernel
theorem dL_law_881 : decode cL_law 881 = .ok (.aload_n 0, 1) := by decide +kernel
theorem dL_law_882 : decode cL_law 882 = .ok (.iload 5, 2) := by decide +kernel
theorem dL_law_884 : decode cL_law 884 = .ok (.iconst 2, 1) := by decide +kernel
theorem dL_law_885 : decode cL_law 885 = .ok (.iadd, 1) := by decide +kernel
theorem dL_law_886 : decode cL_law 886 = .ok (.iaload, 1) := by decide +kernel
theorem dL_law_887 : decode cL_law 887 = .ok (.invokevirtual 153, 3) := by decide +kernel
theorem dL_law_890 : decode cL_law 890 = .ok (.istore 7, 2) := by decide +kernel
theorem dL_law_892 : decode cL_law 892 = .ok (.aload_n 2, 1) := by decide +kernel
theorem dL_law_893 : decode cL_law 893 = .ok (.invokevirtual 112, 3) := by decide +kernel
theorem dL_law_896 : decode cL_law 896 = .ok (.iload 6, 2) := by decide +kernel
theorem dL_law_898 : decode cL_law 898 = .ok (.if_icmp .eq 5, 3) := by decide +kernel
theorem dL_law_901 : decode cL_law 901 = .ok (.iconst 0, 1) := by decide +kernel
theorem dL_law_902 : decode cL_law 902 = .ok (.ireturn, 1) := by decide +kernel
theorem dL_law_903 : decode cL_law 903 = .ok (.iload 6, 2) := by decide +kernel
theorem dL_law_905 : decode cL_law 905 = .ok (.ifCond .ne 15, 3) := by decide +kernel
theorem dL_law_908 : decode cL_law 908 = .ok (.aload_n 3, 1) := by decide +kernel
theorem dL_law_909 : decode cL_law 909 = .ok (.iconst 0, 1) := by decide +kernel
theorem dL_law_910 : decode cL_law 910 = .ok (.laload, 1) := by decide +kernel
theorem dL_law_911 : decode cL_law 911 = .ok (.iload 7, 2) := by decide +kernel
theorem dL_law_913 : decode cL_law 913 = .ok (.i2l, 1) := by decide +kernel
theorem dL_law_914 : decode cL_law 914 = .ok (.lcmp, 1) := by decide +kernel
theorem dL_law_915 : decode cL_law 915 = .ok (.ifCond .eq 5, 3) := by decide +kernel
theorem dL_law_918 : decode cL_law 918 = .ok (.iconst 0, 1) := by decide +kernel
theorem dL_law_919 : decode cL_law 919 = .ok (.ireturn, 1) := by decide +kernel
theorem dL_law_920 : decode cL_law 920 = .ok (.goto 1335, 3) := by decide +kernel
theorem dL_law_923 : decode cL_law 923 = .ok (.aload_n 1, 1) := by decide +kernel
theorem dL_law_924 : decode cL_law 924 = .ok (.aload_n 0, 1) := by decide +kernel
theorem dL_law_925 : decode cL_law 925 = .ok (.iload 5, 2) := by decide +kernel
theorem dL_law_927 : decode cL_law 927 = .ok (.iconst 1, 1) := by decide +kernel
theorem dL_law_928 : decode cL_law 928 = .ok (.iadd, 1) := by decide +kernel
theorem dL_law_929 : decode cL_law 929 = .ok (.iaload, 1) := by decide +kernel
theorem dL_law_930 : decode cL_law 930 = .ok (.aload_n 0, 1) := by decide +kernel
theorem dL_law_931 : decode cL_law 931 = .ok (.iload 5, 2) := by decide +kernel
theorem dL_law_933 : decode cL_law 933 = .ok (.iconst 2, 1) := by decide +kernel
theorem dL_law_934 : decode cL_law 934 = .ok (.iadd, 1) := by decide +kernel
theorem dL_law_935 : decode cL_law 935 = .ok (.iaload, 1) := by decide +kernel
theorem dL_law_936 : decode cL_law 936 = .ok (.aload_n 0, 1) := by decide +kernel
theorem dL_law_937 : decode cL_law 937 = .ok (.iload 5, 2) := by decide +kernel
theorem dL_law_939 : decode cL_law 939 = .ok (.iconst 3, 1) := by decide +kernel
theorem dL_law_940 : decode cL_law 940 = .ok (.iadd, 1) := by decide +kernel
theorem dL_law_941 : decode cL_law 941 = .ok (.iaload, 1) := by decide +kernel
theorem dL_law_942 : decode cL_law 942 = .ok (.aload_n 3, 1) := by decide +kernel
theorem dL_law_943 : decode cL_law 943 = .ok (.invokestatic 154, 3) := by decide +kernel
theorem dL_law_946 : decode cL_law 946 = .ok (.istore 6, 2) := by decide +kernel
theorem dL_law_948 : decode cL_law 948 = .ok (.aload_n 2, 1) := by decide +kernel
theorem dL_law_949 : decode cL_law 949 = .ok (.aload_n 0, 1) := by decide +kernel
theorem dL_law_950 : decode cL_law 950 = .ok (.iload 5, 2) := by decide +kernel
theorem dL_law_952 : decode cL_law 952 = .ok (.iconst 1, 1) := by decide +kernel
theorem dL_law_953 : decode cL_law 953 = .ok (.iadd, 1) := by decide +kernel
theorem dL_law_954 : decode cL_law 954 = .ok (.iaload, 1) := by decide +kernel
theorem dL_law_955 : decode cL_law 955 = .ok (.aload_n 0, 1) := by decide +kernel
theorem dL_law_956 : decode cL_law 956 = .ok (.iload 5, 2) := by decide +kernel
theorem dL_law_958 : decode cL_law 958 = .ok (.iconst 2, 1) := by decide +kernel
theorem dL_law_959 : decode cL_law 959 = .ok (.iadd, 1) := by decide +kernel
theorem dL_law_960 : decode cL_law 960 = .ok (.iaload, 1) := by decide +kernel
theorem dL_law_961 : decode cL_law 961 = .ok (.aload_n 0, 1) := by decide +kernel
theorem dL_law_962 : decode cL_law 962 = .ok (.iload 5, 2) := by decide +kernel
theorem dL_law_964 : decode cL_law 964 = .ok (.iconst 3, 1) := by decide +kernel
theorem dL_law_965 : decode cL_law 965 = .ok (.iadd, 1) := by decide +kernel
theorem dL_law_966 : decode cL_law 966 = .ok (.iaload, 1) := by decide +kernel
theorem dL_law_967 : decode cL_law 967 = .ok (.invokevirtual 156, 3) := by decide +kernel
theorem dL_law_970 : decode cL_law 970 = .ok (.istore 7, 2) := by decide +kernel
theorem dL_law_972 : decode cL_law 972 = .ok (.aload_n 2, 1) := by decide +kernel
theorem dL_law_973 : decode cL_law 973 = .ok (.invokevirtual 112, 3) := by decide +kernel
theorem dL_law_976 : decode cL_law 976 = .ok (.iload 6, 2) := by decide +kernel
theorem dL_law_978 : decode cL_law 978 = .ok (.if_icmp .eq 5, 3) := by decide +kernel
theorem dL_law_981 : decode cL_law 981 = .ok (.iconst 0, 1) := by decide +kernel
theorem dL_law_982 : decode cL_law 982 = .ok (.ireturn, 1) := by decide +kernel
theorem dL_law_983 : decode cL_law 983 = .ok (.iload 6, 2) := by decide +kernel
theorem dL_law_985 : decode cL_law 985 = .ok (.ifCond .ne 22, 3) := by decide +kernel
theorem dL_law_988 : decode cL_law 988 = .ok (.aload_n 3, 1) := by decide +kernel
theorem dL_law_989 : decode cL_law 989 = .ok (.iconst 0, 1) := by decide +kernel
theorem dL_law_990 : decode cL_law 990 = .ok (.laload, 1) := by decide +kernel
theorem dL_law_991 : decode cL_law 991 = .ok (.iload 7, 2) := by decide +kernel
theorem dL_law_993 : decode cL_law 993 = .ok (.ifCond .eq 7, 3) := by decide +kernel
theorem dL_law_996 : decode cL_law 996 = .ok (.lconst 1, 1) := by decide +kernel
theorem dL_law_997 : decode cL_law 997 = .ok (.goto 4, 3) := by decide +kernel
theorem dL_law_1000 : decode cL_law 1000 = .ok (.lconst 0, 1) := by decide +kernel
theorem dL_law_1001 : decode cL_law 1001 = .ok (.lcmp, 1) := by decide +kernel
theorem dL_law_1002 : decode cL_law 1002 = .ok (.ifCond .eq 5, 3) := by decide +kernel
theorem dL_law_1005 : decode cL_law 1005 = .ok (.iconst 0, 1) := by decide +kernel
theorem dL_law_1006 : decode cL_law 1006 = .ok (.ireturn, 1) := by decide +kernel
theorem dL_law_1007 : decode cL_law 1007 = .ok (.goto 1248, 3) := by decide +kernel
theorem dL_law_1010 : decode cL_law 1010 = .ok (.aload_n 1, 1) := by decide +kernel
theorem dL_law_1011 : decode cL_law 1011 = .ok (.aload_n 0, 1) := by decide +kernel
theorem dL_law_1012 : decode cL_law 1012 = .ok (.iload 5, 2) := by decide +kernel
theorem dL_law_1014 : decode cL_law 1014 = .ok (.iconst 1, 1) := by decide +kernel
theorem dL_law_1015 : decode cL_law 1015 = .ok (.iadd, 1) := by decide +kernel
theorem dL_law_1016 : decode cL_law 1016 = .ok (.iaload, 1) := by decide +kernel
theorem dL_law_1017 : decode cL_law 1017 = .ok (.aload_n 0, 1) := by decide +kernel
theorem dL_law_1018 : decode cL_law 1018 = .ok (.iload 5, 2) := by decide +kernel
theorem dL_law_1020 : decode cL_law 1020 = .ok (.iconst 2, 1) := by decide +kernel
theorem dL_law_1021 : decode cL_law 1021 = .ok (.iadd, 1) := by decide +kernel
theorem dL_law_1022 : decode cL_law 1022 = .ok (.iaload, 1) := by decide +kernel
theorem dL_law_1023 : decode cL_law 1023 = .ok (.aload_n 0, 1) := by decide +kernel
theorem dL_law_1024 : decode cL_law 1024 = .ok (.iload 5, 2) := by decide +kernel
theorem dL_law_1026 : decode cL_law 1026 = .ok (.iconst 3, 1) := by decide +kernel
theorem dL_law_1027 : decode cL_law 1027 = .ok (.iadd, 1) := by decide +kernel
theorem dL_law_1028 : decode cL_law 1028 = .ok (.iaload, 1) := by decide +kernel
theorem dL_law_1029 : decode cL_law 1029 = .ok (.aload_n 3, 1) := by decide +kernel
theorem dL_law_1030 : decode cL_law 1030 = .ok (.invokestatic 157, 3) := by decide +kernel
theorem dL_law_1033 : decode cL_law 1033 = .ok (.istore 6, 2) := by decide +kernel
theorem dL_law_1035 : decode cL_law 1035 = .ok (.aload_n 2, 1) := by decide +kernel
theorem dL_law_1036 : decode cL_law 1036 = .ok (.aload_n 0, 1) := by decide +kernel
theorem dL_law_1037 : decode cL_law 1037 = .ok (.iload 5, 2) := by decide +kernel
theorem dL_law_1039 : decode cL_law 1039 = .ok (.iconst 1, 1) := by decide +kernel
theorem dL_law_1040 : decode cL_law 1040 = .ok (.iadd, 1) := by decide +kernel
theorem dL_law_1041 : decode cL_law 1041 = .ok (.iaload, 1) := by decide +kernel
theorem dL_law_1042 : decode cL_law 1042 = .ok (.aload_n 0, 1) := by decide +kernel
theorem dL_law_1043 : decode cL_law 1043 = .ok (.iload 5, 2) := by decide +kernel
theorem dL_law_1045 : decode cL_law 1045 = .ok (.iconst 2, 1) := by decide +kernel
theorem dL_law_1046 : decode cL_law 1046 = .ok (.iadd, 1) := by decide +kernel
theorem dL_law_1047 : decode cL_law 1047 = .ok (.iaload, 1) := by decide +kernel
theorem dL_law_1048 : decode cL_law 1048 = .ok (.aload_n 0, 1) := by decide +kernel
theorem dL_law_1049 : decode cL_law 1049 = .ok (.iload 5, 2) := by decide +kernel
theorem dL_law_1051 : decode cL_law 1051 = .ok (.iconst 3, 1) := by decide +kernel
theorem dL_law_1052 : decode cL_law 1052 = .ok (.iadd, 1) := by decide +kernel
theorem dL_law_1053 : decode cL_law 1053 = .ok (.iaload, 1) := by decide +kernel
theorem dL_law_1054 : decode cL_law 1054 = .ok (.invokevirtual 159, 3) := by decide +kernel
theorem dL_law_1057 : decode cL_law 1057 = .ok (.istore 7, 2) := by decide +kernel
theorem dL_law_1059 : decode cL_law 1059 = .ok (.aload_n 2, 1) := by decide +kernel
theorem dL_law_1060 : decode cL_law 1060 = .ok (.invokevirtual 112, 3) := by decide +kernel
theorem dL_law_1063 : decode cL_law 1063 = .ok (.iload 6, 2) := by decide +kernel
theorem dL_law_1065 : decode cL_law 1065 = .ok (.if_icmp .eq 5, 3) := by decide +kernel
theorem dL_law_1068 : decode cL_law 1068 = .ok (.iconst 0, 1) := by decide +kernel
theorem dL_law_1069 : decode cL_law 1069 = .ok (.ireturn, 1) := by decide +kernel
theorem dL_law_1070 : decode cL_law 1070 = .ok (.iload 6, 2) := by decide +kernel
theorem dL_law_1072 : decode cL_law 1072 = .ok (.ifCond .ne 15, 3) := by decide +kernel
theorem dL_law_1075 : decode cL_law 1075 = .ok (.aload_n 3, 1) := by decide +kernel
theorem dL_law_1076 : decode cL_law 1076 = .ok (.iconst 0, 1) := by decide +kernel
theorem dL_law_1077 : decode cL_law 1077 = .ok (.laload, 1) := by decide +kernel
theorem dL_law_1078 : decode cL_law 1078 = .ok (.iload 7, 2) := by decide +kernel
theorem dL_law_1080 : decode cL_law 1080 = .ok (.i2l, 1) := by decide +kernel
theorem dL_law_1081 : decode cL_law 1081 = .ok (.lcmp, 1) := by decide +kernel
theorem dL_law_1082 : decode cL_law 1082 = .ok (.ifCond .eq 5, 3) := by decide +kernel
theorem dL_law_1085 : decode cL_law 1085 = .ok (.iconst 0, 1) := by decide +kernel
theorem dL_law_1086 : decode cL_law 1086 = .ok (.ireturn, 1) := by decide +kernel
theorem dL_law_1087 : decode cL_law 1087 = .ok (.goto 1168, 3) := by decide +kernel
theorem dL_law_1090 : decode cL_law 1090 = .ok (.aload_n 1, 1) := by decide +kernel
theorem dL_law_1091 : decode cL_law 1091 = .ok (.aload_n 0, 1) := by decide +kernel
theorem dL_law_1092 : decode cL_law 1092 = .ok (.iload 5, 2) := by decide +kernel
theorem dL_law_1094 : decode cL_law 1094 = .ok (.iconst 1, 1) := by decide +kernel
theorem dL_law_1095 : decode cL_law 1095 = .ok (.iadd, 1) := by decide +kernel
theorem dL_law_1096 : decode cL_law 1096 = .ok (.iaload, 1) := by decide +kernel
theorem dL_law_1097 : decode cL_law 1097 = .ok (.aload_n 0, 1) := by decide +kernel
theorem dL_law_1098 : decode cL_law 1098 = .ok (.iload 5, 2) := by decide +kernel
theorem dL_law_1100 : decode cL_law 1100 = .ok (.iconst 2, 1) := by decide +kernel
theorem dL_law_1101 : decode cL_law 1101 = .ok (.iadd, 1) := by decide +kernel
theorem dL_law_1102 : decode cL_law 1102 = .ok (.iaload, 1) := by decide +kernel
theorem dL_law_1103 : decode cL_law 1103 = .ok (.aload_n 0, 1) := by decide +kernel
theorem dL_law_1104 : decode cL_law 1104 = .ok (.iload 5, 2) := by decide +kernel
theorem dL_law_1106 : decode cL_law 1106 = .ok (.iconst 3, 1) := by decide +kernel
theorem dL_law_1107 : decode cL_law 1107 = .ok (.iadd, 1) := by decide +kernel
theorem dL_law_1108 : decode cL_law 1108 = .ok (.iaload, 1) := by decide +kernel
theorem dL_law_1109 : decode cL_law 1109 = .ok (.aload_n 3, 1) := by decide +kernel
theorem dL_law_1110 : decode cL_law 1110 = .ok (.invokestatic 160, 3) := by decide +kernel
theorem dL_law_1113 : decode cL_law 1113 = .ok (.istore 6, 2) := by decide +kernel
theorem dL_law_1115 : decode cL_law 1115 = .ok (.aload_n 2, 1) := by decide +kernel
theorem dL_law_1116 : decode cL_law 1116 = .ok (.aload_n 0, 1) := by decide +kernel
theorem dL_law_1117 : decode cL_law 1117 = .ok (.iload 5, 2) := by decide +kernel
theorem dL_law_1119 : decode cL_law 1119 = .ok (.iconst 1, 1) := by decide +kernel
theorem dL_law_1120 : decode cL_law 1120 = .ok (.iadd, 1) := by decide +kernel
theorem dL_law_1121 : decode cL_law 1121 = .ok (.iaload, 1) := by decide +kernel
theorem dL_law_1122 : decode cL_law 1122 = .ok (.aload_n 0, 1) := by decide +kernel
theorem dL_law_1123 : decode cL_law 1123 = .ok (.iload 5, 2) := by decide +kernel
theorem dL_law_1125 : decode cL_law 1125 = .ok (.iconst 2, 1) := by decide +kernel
theorem dL_law_1126 : decode cL_law 1126 = .ok (.iadd, 1) := by decide +kernel
theorem dL_law_1127 : decode cL_law 1127 = .ok (.iaload, 1) := by decide +kernel
theorem dL_law_1128 : decode cL_law 1128 = .ok (.aload_n 0, 1) := by decide +kernel
theorem dL_law_1129 : decode cL_law 1129 = .ok (.iload 5, 2) := by decide +kernel
theorem dL_law_1131 : decode cL_law 1131 = .ok (.iconst 3, 1) := by decide +kernel
theorem dL_law_1132 : decode cL_law 1132 = .ok (.iadd, 1) := by decide +kernel
theorem dL_law_1133 : decode cL_law 1133 = .ok (.iaload, 1) := by decide +kernel
theorem dL_law_1134 : decode cL_law 1134 = .ok (.invokevirtual 162, 3) := by decide +kernel
theorem dL_law_1137 : decode cL_law 1137 = .ok (.lstore 7, 2) := by decide +kernel
theorem dL_law_1139 : decode cL_law 1139 = .ok (.aload_n 2, 1) := by decide +kernel
theorem dL_law_1140 : decode cL_law 1140 = .ok (.invokevirtual 112, 3) := by decide +kernel
theorem dL_law_1143 : decode cL_law 1143 = .ok (.iload 6, 2) := by decide +kernel
theorem dL_law_1145 : decode cL_law 1145 = .ok (.if_icmp .eq 5, 3) := by decide +kernel
theorem dL_law_1148 : decode cL_law 1148 = .ok (.iconst 0, 1) := by decide +kernel
theorem dL_law_1149 : decode cL_law 1149 = .ok (.ireturn, 1) := by decide +kernel
theorem dL_law_1150 : decode cL_law 1150 = .ok (.iload 6, 2) := by decide +kernel
theorem dL_law_1152 : decode cL_law 1152 = .ok (.ifCond .ne 14, 3) := by decide +kernel
theorem dL_law_1155 : decode cL_law 1155 = .ok (.aload_n 3, 1) := by decide +kernel
theorem dL_law_1156 : decode cL_law 1156 = .ok (.iconst 0, 1) := by decide +kernel
theorem dL_law_1157 : decode cL_law 1157 = .ok (.laload, 1) := by decide +kernel
theorem dL_law_1158 : decode cL_law 1158 = .ok (.lload 7, 2) := by decide +kernel
theorem dL_law_1160 : decode cL_law 1160 = .ok (.lcmp, 1) := by decide +kernel
theorem dL_law_1161 : decode cL_law 1161 = .ok (.ifCond .eq 5, 3) := by decide +kernel
theorem dL_law_1164 : decode cL_law 1164 = .ok (.iconst 0, 1) := by decide +kernel
theorem dL_law_1165 : decode cL_law 1165 = .ok (.ireturn, 1) := by decide +kernel
theorem dL_law_1166 : decode cL_law 1166 = .ok (.goto 1089, 3) := by decide +kernel
theorem dL_law_1169 : decode cL_law 1169 = .ok (.aload_n 1, 1) := by decide +kernel
theorem dL_law_1170 : decode cL_law 1170 = .ok (.aload_n 0, 1) := by decide +kernel
theorem dL_law_1171 : decode cL_law 1171 = .ok (.iload 5, 2) := by decide +kernel
theorem dL_law_1173 : decode cL_law 1173 = .ok (.iconst 1, 1) := by decide +kernel
theorem dL_law_1174 : decode cL_law 1174 = .ok (.iadd, 1) := by decide +kernel
theorem dL_law_1175 : decode cL_law 1175 = .ok (.iaload, 1) := by decide +kernel
theorem dL_law_1176 : decode cL_law 1176 = .ok (.aload_n 0, 1) := by decide +kernel
theorem dL_law_1177 : decode cL_law 1177 = .ok (.iload 5, 2) := by decide +kernel
theorem dL_law_1179 : decode cL_law 1179 = .ok (.iconst 2, 1) := by decide +kernel
theorem dL_law_1180 : decode cL_law 1180 = .ok (.iadd, 1) := by decide +kernel
theorem dL_law_1181 : decode cL_law 1181 = .ok (.iaload, 1) := by decide +kernel
theorem dL_law_1182 : decode cL_law 1182 = .ok (.aload_n 0, 1) := by decide +kernel
theorem dL_law_1183 : decode cL_law 1183 = .ok (.iload 5, 2) := by decide +kernel
theorem dL_law_1185 : decode cL_law 1185 = .ok (.iconst 3, 1) := by decide +kernel
theorem dL_law_1186 : decode cL_law 1186 = .ok (.iadd, 1) := by decide +kernel
theorem dL_law_1187 : decode cL_law 1187 = .ok (.iaload, 1) := by decide +kernel
theorem dL_law_1188 : decode cL_law 1188 = .ok (.aload 4, 2) := by decide +kernel
theorem dL_law_1190 : decode cL_law 1190 = .ok (.invokestatic 163, 3) := by decide +kernel
theorem dL_law_1193 : decode cL_law 1193 = .ok (.istore 6, 2) := by decide +kernel
theorem dL_law_1195 : decode cL_law 1195 = .ok (.aload_n 2, 1) := by decide +kernel
theorem dL_law_1196 : decode cL_law 1196 = .ok (.aload_n 0, 1) := by decide +kernel
theorem dL_law_1197 : decode cL_law 1197 = .ok (.iload 5, 2) := by decide +kernel
theorem dL_law_1199 : decode cL_law 1199 = .ok (.iconst 1, 1) := by decide +kernel
theorem dL_law_1200 : decode cL_law 1200 = .ok (.iadd, 1) := by decide +kernel
theorem dL_law_1201 : decode cL_law 1201 = .ok (.iaload, 1) := by decide +kernel
theorem dL_law_1202 : decode cL_law 1202 = .ok (.aload_n 0, 1) := by decide +kernel
theorem dL_law_1203 : decode cL_law 1203 = .ok (.iload 5, 2) := by decide +kernel
theorem dL_law_1205 : decode cL_law 1205 = .ok (.iconst 2, 1) := by decide +kernel
theorem dL_law_1206 : decode cL_law 1206 = .ok (.iadd, 1) := by decide +kernel
theorem dL_law_1207 : decode cL_law 1207 = .ok (.iaload, 1) := by decide +kernel
theorem dL_law_1208 : decode cL_law 1208 = .ok (.aload_n 0, 1) := by decide +kernel
theorem dL_law_1209 : decode cL_law 1209 = .ok (.iload 5, 2) := by decide +kernel
theorem dL_law_1211 : decode cL_law 1211 = .ok (.iconst 3, 1) := by decide +kernel
theorem dL_law_1212 : decode cL_law 1212 = .ok (.iadd, 1) := by decide +kernel
theorem dL_law_1213 : decode cL_law 1213 = .ok (.iaload, 1) := by decide +kernel
theorem dL_law_1214 : decode cL_law 1214 = .ok (.invokevirtual 166, 3) := by decide +kernel
theorem dL_law_1217 : decode cL_law 1217 = .ok (.dstore 7, 2) := by decide +kernel
theorem dL_law_1219 : decode cL_law 1219 = .ok (.aload_n 2, 1) := by decide +kernel
theorem dL_law_1220 : decode cL_law 1220 = .ok (.invokevirtual 112, 3) := by decide +kernel
theorem dL_law_1223 : decode cL_law 1223 = .ok (.iload 6, 2) := by decide +kernel
theorem dL_law_1225 : decode cL_law 1225 = .ok (.if_icmp .eq 5, 3) := by decide +kernel
theorem dL_law_1228 : decode cL_law 1228 = .ok (.iconst 0, 1) := by decide +kernel
theorem dL_law_1229 : decode cL_law 1229 = .ok (.ireturn, 1) := by decide +kernel
theorem dL_law_1230 : decode cL_law 1230 = .ok (.iload 6, 2) := by decide +kernel
theorem dL_law_1232 : decode cL_law 1232 = .ok (.ifCond .ne 35, 3) := by decide +kernel
theorem dL_law_1235 : decode cL_law 1235 = .ok (.aload 4, 2) := by decide +kernel
theorem dL_law_1237 : decode cL_law 1237 = .ok (.iconst 0, 1) := by decide +kernel
theorem dL_law_1238 : decode cL_law 1238 = .ok (.daload, 1) := by decide +kernel
theorem dL_law_1239 : decode cL_law 1239 = .ok (.dload 7, 2) := by decide +kernel
theorem dL_law_1241 : decode cL_law 1241 = .ok (.dcmp .l, 1) := by decide +kernel
theorem dL_law_1242 : decode cL_law 1242 = .ok (.ifCond .eq 25, 3) := by decide +kernel
theorem dL_law_1245 : decode cL_law 1245 = .ok (.aload 4, 2) := by decide +kernel
theorem dL_law_1247 : decode cL_law 1247 = .ok (.iconst 0, 1) := by decide +kernel
theorem dL_law_1248 : decode cL_law 1248 = .ok (.daload, 1) := by decide +kernel
theorem dL_law_1249 : decode cL_law 1249 = .ok (.aload 4, 2) := by decide +kernel
theorem dL_law_1251 : decode cL_law 1251 = .ok (.iconst 0, 1) := by decide +kernel
theorem dL_law_1252 : decode cL_law 1252 = .ok (.daload, 1) := by decide +kernel
theorem dL_law_1253 : decode cL_law 1253 = .ok (.dcmp .l, 1) := by decide +kernel
theorem dL_law_1254 : decode cL_law 1254 = .ok (.ifCond .eq 11, 3) := by decide +kernel
theorem dL_law_1257 : decode cL_law 1257 = .ok (.dload 7, 2) := by decide +kernel
theorem dL_law_1259 : decode cL_law 1259 = .ok (.dload 7, 2) := by decide +kernel
theorem dL_law_1261 : decode cL_law 1261 = .ok (.dcmp .l, 1) := by decide +kernel
theorem dL_law_1262 : decode cL_law 1262 = .ok (.ifCond .ne 5, 3) := by decide +kernel
theorem dL_law_1265 : decode cL_law 1265 = .ok (.iconst 0, 1) := by decide +kernel
theorem dL_law_1266 : decode cL_law 1266 = .ok (.ireturn, 1) := by decide +kernel
theorem dL_law_1267 : decode cL_law 1267 = .ok (.goto 988, 3) := by decide +kernel
theorem dL_law_1270 : decode cL_law 1270 = .ok (.aload_n 1, 1) := by decide +kernel
theorem dL_law_1271 : decode cL_law 1271 = .ok (.aload_n 0, 1) := by decide +kernel
theorem dL_law_1272 : decode cL_law 1272 = .ok (.iload 5, 2) := by decide +kernel
theorem dL_law_1274 : decode cL_law 1274 = .ok (.iconst 1, 1) := by decide +kernel
theorem dL_law_1275 : decode cL_law 1275 = .ok (.iadd, 1) := by decide +kernel
theorem dL_law_1276 : decode cL_law 1276 = .ok (.iaload, 1) := by decide +kernel
theorem dL_law_1277 : decode cL_law 1277 = .ok (.aload_n 0, 1) := by decide +kernel
theorem dL_law_1278 : decode cL_law 1278 = .ok (.iload 5, 2) := by decide +kernel
theorem dL_law_1280 : decode cL_law 1280 = .ok (.iconst 2, 1) := by decide +kernel
theorem dL_law_1281 : decode cL_law 1281 = .ok (.iadd, 1) := by decide +kernel
theorem dL_law_1282 : decode cL_law 1282 = .ok (.iaload, 1) := by decide +kernel
theorem dL_law_1283 : decode cL_law 1283 = .ok (.aload_n 0, 1) := by decide +kernel
theorem dL_law_1284 : decode cL_law 1284 = .ok (.iload 5, 2) := by decide +kernel
theorem dL_law_1286 : decode cL_law 1286 = .ok (.iconst 3, 1) := by decide +kernel
theorem dL_law_1287 : decode cL_law 1287 = .ok (.iadd, 1) := by decide +kernel
theorem dL_law_1288 : decode cL_law 1288 = .ok (.iaload, 1) := by decide +kernel
theorem dL_law_1289 : decode cL_law 1289 = .ok (.aload_n 3, 1) := by decide +kernel
theorem dL_law_1290 : decode cL_law 1290 = .ok (.invokestatic 167, 3) := by decide +kernel
theorem dL_law_1293 : decode cL_law 1293 = .ok (.istore 6, 2) := by decide +kernel
theorem dL_law_1295 : decode cL_law 1295 = .ok (.aload_n 2, 1) := by decide +kernel
theorem dL_law_1296 : decode cL_law 1296 = .ok (.aload_n 0, 1) := by decide +kernel
theorem dL_law_1297 : decode cL_law 1297 = .ok (.iload 5, 2) := by decide +kernel
theorem dL_law_1299 : decode cL_law 1299 = .ok (.iconst 1, 1) := by decide +kernel
theorem dL_law_1300 : decode cL_law 1300 = .ok (.iadd, 1) := by decide +kernel
theorem dL_law_1301 : decode cL_law 1301 = .ok (.iaload, 1) := by decide +kernel
theorem dL_law_1302 : decode cL_law 1302 = .ok (.aload_n 0, 1) := by decide +kernel
theorem dL_law_1303 : decode cL_law 1303 = .ok (.iload 5, 2) := by decide +kernel
theorem dL_law_1305 : decode cL_law 1305 = .ok (.iconst 2, 1) := by decide +kernel
theorem dL_law_1306 : decode cL_law 1306 = .ok (.iadd, 1) := by decide +kernel
theorem dL_law_1307 : decode cL_law 1307 = .ok (.iaload, 1) := by decide +kernel
theorem dL_law_1308 : decode cL_law 1308 = .ok (.aload_n 0, 1) := by decide +kernel
theorem dL_law_1309 : decode cL_law 1309 = .ok (.iload 5, 2) := by decide +kernel
theorem dL_law_1311 : decode cL_law 1311 = .ok (.iconst 3, 1) := by decide +kernel
theorem dL_law_1312 : decode cL_law 1312 = .ok (.iadd, 1) := by decide +kernel
theorem dL_law_1313 : decode cL_law 1313 = .ok (.iaload, 1) := by decide +kernel
theorem dL_law_1314 : decode cL_law 1314 = .ok (.invokevirtual 169, 3) := by decide +kernel
theorem dL_law_1317 : decode cL_law 1317 = .ok (.istore 7, 2) := by decide +kernel
theorem dL_law_1319 : decode cL_law 1319 = .ok (.aload_n 2, 1) := by decide +kernel
theorem dL_law_1320 : decode cL_law 1320 = .ok (.invokevirtual 112, 3) := by decide +kernel
theorem dL_law_1323 : decode cL_law 1323 = .ok (.iload 6, 2) := by decide +kernel
theorem dL_law_1325 : decode cL_law 1325 = .ok (.if_icmp .eq 5, 3) := by decide +kernel
theorem dL_law_1328 : decode cL_law 1328 = .ok (.iconst 0, 1) := by decide +kernel
theorem dL_law_1329 : decode cL_law 1329 = .ok (.ireturn, 1) := by decide +kernel
theorem dL_law_1330 : decode cL_law 1330 = .ok (.iload 6, 2) := by decide +kernel
theorem dL_law_1332 : decode cL_law 1332 = .ok (.ifCond .ne 15, 3) := by decide +kernel
theorem dL_law_1335 : decode cL_law 1335 = .ok (.aload_n 3, 1) := by decide +kernel
theorem dL_law_1336 : decode cL_law 1336 = .ok (.iconst 0, 1) := by decide +kernel
theorem dL_law_1337 : decode cL_law 1337 = .ok (.laload, 1) := by decide +kernel
theorem dL_law_1338 : decode cL_law 1338 = .ok (.iload 7, 2) := by decide +kernel
theorem dL_law_1340 : decode cL_law 1340 = .ok (.i2l, 1) := by decide +kernel
theorem dL_law_1341 : decode cL_law 1341 = .ok (.lcmp, 1) := by decide +kernel
theorem dL_law_1342 : decode cL_law 1342 = .ok (.ifCond .eq 5, 3) := by decide +kernel
theorem dL_law_1345 : decode cL_law 1345 = .ok (.iconst 0, 1) := by decide +kernel
theorem dL_law_1346 : decode cL_law 1346 = .ok (.ireturn, 1) := by decide +kernel
theorem dL_law_1347 : decode cL_law 1347 = .ok (.goto 908, 3) := by decide +kernel
theorem dL_law_1350 : decode cL_law 1350 = .ok (.aload_n 1, 1) := by decide +kernel
theorem dL_law_1351 : decode cL_law 1351 = .ok (.aload_n 0, 1) := by decide +kernel
theorem dL_law_1352 : decode cL_law 1352 = .ok (.iload 5, 2) := by decide +kernel
theorem dL_law_1354 : decode cL_law 1354 = .ok (.iconst 1, 1) := by decide +kernel
theorem dL_law_1355 : decode cL_law 1355 = .ok (.iadd, 1) := by decide +kernel
theorem dL_law_1356 : decode cL_law 1356 = .ok (.iaload, 1) := by decide +kernel
theorem dL_law_1357 : decode cL_law 1357 = .ok (.aload_n 0, 1) := by decide +kernel
theorem dL_law_1358 : decode cL_law 1358 = .ok (.iload 5, 2) := by decide +kernel
theorem dL_law_1360 : decode cL_law 1360 = .ok (.iconst 2, 1) := by decide +kernel
theorem dL_law_1361 : decode cL_law 1361 = .ok (.iadd, 1) := by decide +kernel
theorem dL_law_1362 : decode cL_law 1362 = .ok (.iaload, 1) := by decide +kernel
theorem dL_law_1363 : decode cL_law 1363 = .ok (.aload_n 0, 1) := by decide +kernel
theorem dL_law_1364 : decode cL_law 1364 = .ok (.iload 5, 2) := by decide +kernel
theorem dL_law_1366 : decode cL_law 1366 = .ok (.iconst 3, 1) := by decide +kernel
theorem dL_law_1367 : decode cL_law 1367 = .ok (.iadd, 1) := by decide +kernel
theorem dL_law_1368 : decode cL_law 1368 = .ok (.iaload, 1) := by decide +kernel
theorem dL_law_1369 : decode cL_law 1369 = .ok (.aload_n 3, 1) := by decide +kernel
theorem dL_law_1370 : decode cL_law 1370 = .ok (.invokestatic 170, 3) := by decide +kernel
theorem dL_law_1373 : decode cL_law 1373 = .ok (.istore 6, 2) := by decide +kernel
theorem dL_law_1375 : decode cL_law 1375 = .ok (.aload_n 2, 1) := by decide +kernel
theorem dL_law_1376 : decode cL_law 1376 = .ok (.aload_n 0, 1) := by decide +kernel
theorem dL_law_1377 : decode cL_law 1377 = .ok (.iload 5, 2) := by decide +kernel
theorem dL_law_1379 : decode cL_law 1379 = .ok (.iconst 1, 1) := by decide +kernel
theorem dL_law_1380 : decode cL_law 1380 = .ok (.iadd, 1) := by decide +kernel
theorem dL_law_1381 : decode cL_law 1381 = .ok (.iaload, 1) := by decide +kernel
theorem dL_law_1382 : decode cL_law 1382 = .ok (.aload_n 0, 1) := by decide +kernel
theorem dL_law_1383 : decode cL_law 1383 = .ok (.iload 5, 2) := by decide +kernel
theorem dL_law_1385 : decode cL_law 1385 = .ok (.iconst 2, 1) := by decide +kernel
theorem dL_law_1386 : decode cL_law 1386 = .ok (.iadd, 1) := by decide +kernel
theorem dL_law_1387 : decode cL_law 1387 = .ok (.iaload, 1) := by decide +kernel
theorem dL_law_1388 : decode cL_law 1388 = .ok (.aload_n 0, 1) := by decide +kernel
theorem dL_law_1389 : decode cL_law 1389 = .ok (.iload 5, 2) := by decide +kernel
theorem dL_law_1391 : decode cL_law 1391 = .ok (.iconst 3, 1) := by decide +kernel
theorem dL_law_1392 : decode cL_law 1392 = .ok (.iadd, 1) := by decide +kernel
theorem dL_law_1393 : decode cL_law 1393 = .ok (.iaload, 1) := by decide +kernel
theorem dL_law_1394 : decode cL_law 1394 = .ok (.invokevirtual 172, 3) := by decide +kernel
theorem dL_law_1397 : decode cL_law 1397 = .ok (.istore 7, 2) := by decide +kernel
theorem dL_law_1399 : decode cL_law 1399 = .ok (.aload_n 2, 1) := by decide +kernel
theorem dL_law_1400 : decode cL_law 1400 = .ok (.invokevirtual 112, 3) := by decide +kernel
theorem dL_law_1403 : decode cL_law 1403 = .ok (.iload 6, 2) := by decide +kernel
theorem dL_law_1405 : decode cL_law 1405 = .ok (.if_icmp .eq 5, 3) := by decide +kernel
theorem dL_law_1408 : decode cL_law 1408 = .ok (.iconst 0, 1) := by decide +kernel
theorem dL_law_1409 : decode cL_law 1409 = .ok (.ireturn, 1) := by decide +kernel
theorem dL_law_1410 : decode cL_law 1410 = .ok (.iload 6, 2) := by decide +kernel
theorem dL_law_1412 : decode cL_law 1412 = .ok (.ifCond .ne 15, 3) := by decide +kernel
theorem dL_law_1415 : decode cL_law 1415 = .ok (.aload_n 3, 1) := by decide +kernel
theorem dL_law_1416 : decode cL_law 1416 = .ok (.iconst 0, 1) := by decide +kernel
theorem dL_law_1417 : decode cL_law 1417 = .ok (.laload, 1) := by decide +kernel
theorem dL_law_1418 : decode cL_law 1418 = .ok (.iload 7, 2) := by decide +kernel
theorem dL_law_1420 : decode cL_law 1420 = .ok (.i2l, 1) := by decide +kernel
theorem dL_law_1421 : decode cL_law 1421 = .ok (.lcmp, 1) := by decide +kernel
theorem dL_law_1422 : decode cL_law 1422 = .ok (.ifCond .eq 5, 3) := by decide +kernel
theorem dL_law_1425 : decode cL_law 1425 = .ok (.iconst 0, 1) := by decide +kernel
theorem dL_law_1426 : decode cL_law 1426 = .ok (.ireturn, 1) := by decide +kernel
theorem dL_law_1427 : decode cL_law 1427 = .ok (.goto 828, 3) := by decide +kernel
theorem dL_law_1430 : decode cL_law 1430 = .ok (.aload_n 1, 1) := by decide +kernel
theorem dL_law_1431 : decode cL_law 1431 = .ok (.aload_n 0, 1) := by decide +kernel
theorem dL_law_1432 : decode cL_law 1432 = .ok (.iload 5, 2) := by decide +kernel
theorem dL_law_1434 : decode cL_law 1434 = .ok (.iconst 1, 1) := by decide +kernel
theorem dL_law_1435 : decode cL_law 1435 = .ok (.iadd, 1) := by decide +kernel
theorem dL_law_1436 : decode cL_law 1436 = .ok (.iaload, 1) := by decide +kernel
theorem dL_law_1437 : decode cL_law 1437 = .ok (.aload_n 0, 1) := by decide +kernel
theorem dL_law_1438 : decode cL_law 1438 = .ok (.iload 5, 2) := by decide +kernel
theorem dL_law_1440 : decode cL_law 1440 = .ok (.iconst 2, 1) := by decide +kernel
theorem dL_law_1441 : decode cL_law 1441 = .ok (.iadd, 1) := by decide +kernel
theorem dL_law_1442 : decode cL_law 1442 = .ok (.iaload, 1) := by decide +kernel
theorem dL_law_1443 : decode cL_law 1443 = .ok (.aload_n 0, 1) := by decide +kernel
theorem dL_law_1444 : decode cL_law 1444 = .ok (.iload 5, 2) := by decide +kernel
theorem dL_law_1446 : decode cL_law 1446 = .ok (.iconst 3, 1) := by decide +kernel
theorem dL_law_1447 : decode cL_law 1447 = .ok (.iadd, 1) := by decide +kernel
theorem dL_law_1448 : decode cL_law 1448 = .ok (.iaload, 1) := by decide +kernel
theorem dL_law_1449 : decode cL_law 1449 = .ok (.aload_n 3, 1) := by decide +kernel
theorem dL_law_1450 : decode cL_law 1450 = .ok (.invokestatic 173, 3) := by decide +kernel
theorem dL_law_1453 : decode cL_law 1453 = .ok (.istore 6, 2) := by decide +kernel
theorem dL_law_1455 : decode cL_law 1455 = .ok (.aload_n 2, 1) := by decide +kernel
theorem dL_law_1456 : decode cL_law 1456 = .ok (.aload_n 0, 1) := by decide +kernel
theorem dL_law_1457 : decode cL_law 1457 = .ok (.iload 5, 2) := by decide +kernel
theorem dL_law_1459 : decode cL_law 1459 = .ok (.iconst 1, 1) := by decide +kernel
theorem dL_law_1460 : decode cL_law 1460 = .ok (.iadd, 1) := by decide +kernel
theorem dL_law_1461 : decode cL_law 1461 = .ok (.iaload, 1) := by decide +kernel
theorem dL_law_1462 : decode cL_law 1462 = .ok (.aload_n 0, 1) := by decide +kernel
theorem dL_law_1463 : decode cL_law 1463 = .ok (.iload 5, 2) := by decide +kernel
theorem dL_law_1465 : decode cL_law 1465 = .ok (.iconst 2, 1) := by decide +kernel
theorem dL_law_1466 : decode cL_law 1466 = .ok (.iadd, 1) := by decide +kernel
theorem dL_law_1467 : decode cL_law 1467 = .ok (.iaload, 1) := by decide +kernel
theorem dL_law_1468 : decode cL_law 1468 = .ok (.aload_n 0, 1) := by decide +kernel
theorem dL_law_1469 : decode cL_law 1469 = .ok (.iload 5, 2) := by decide +kernel
theorem dL_law_1471 : decode cL_law 1471 = .ok (.iconst 3, 1) := by decide +kernel
theorem dL_law_1472 : decode cL_law 1472 = .ok (.iadd, 1) := by decide +kernel
theorem dL_law_1473 : decode cL_law 1473 = .ok (.iaload, 1) := by decide +kernel
theorem dL_law_1474 : decode cL_law 1474 = .ok (.invokevirtual 175, 3) := by decide +kernel
theorem dL_law_1477 : decode cL_law 1477 = .ok (.istore 7, 2) := by decide +kernel
theorem dL_law_1479 : decode cL_law 1479 = .ok (.aload_n 2, 1) := by decide +kernel
theorem dL_law_1480 : decode cL_law 1480 = .ok (.invokevirtual 112, 3) := by decide +kernel
theorem dL_law_1483 : decode cL_law 1483 = .ok (.iload 6, 2) := by decide +kernel
theorem dL_law_1485 : decode cL_law 1485 = .ok (.if_icmp .eq 5, 3) := by decide +kernel
theorem dL_law_1488 : decode cL_law 1488 = .ok (.iconst 0, 1) := by decide +kernel
theorem dL_law_1489 : decode cL_law 1489 = .ok (.ireturn, 1) := by decide +kernel
theorem dL_law_1490 : decode cL_law 1490 = .ok (.iload 6, 2) := by decide +kernel
theorem dL_law_1492 : decode cL_law 1492 = .ok (.ifCond .ne 15, 3) := by decide +kernel
theorem dL_law_1495 : decode cL_law 1495 = .ok (.aload_n 3, 1) := by decide +kernel
theorem dL_law_1496 : decode cL_law 1496 = .ok (.iconst 0, 1) := by decide +kernel
theorem dL_law_1497 : decode cL_law 1497 = .ok (.laload, 1) := by decide +kernel
theorem dL_law_1498 : decode cL_law 1498 = .ok (.iload 7, 2) := by decide +kernel
theorem dL_law_1500 : decode cL_law 1500 = .ok (.i2l, 1) := by decide +kernel
theorem dL_law_1501 : decode cL_law 1501 = .ok (.lcmp, 1) := by decide +kernel
theorem dL_law_1502 : decode cL_law 1502 = .ok (.ifCond .eq 5, 3) := by decide +kernel
theorem dL_law_1505 : decode cL_law 1505 = .ok (.iconst 0, 1) := by decide +kernel
theorem dL_law_1506 : decode cL_law 1506 = .ok (.ireturn, 1) := by decide +kernel
theorem dL_law_1507 : decode cL_law 1507 = .ok (.goto 748, 3) := by decide +kernel
theorem dL_law_1510 : decode cL_law 1510 = .ok (.aload_n 1, 1) := by decide +kernel
theorem dL_law_1511 : decode cL_law 1511 = .ok (.aload_n 0, 1) := by decide +kernel
theorem dL_law_1512 : decode cL_law 1512 = .ok (.iload 5, 2) := by decide +kernel
theorem dL_law_1514 : decode cL_law 1514 = .ok (.iconst 1, 1) := by decide +kernel
theorem dL_law_1515 : decode cL_law 1515 = .ok (.iadd, 1) := by decide +kernel
theorem dL_law_1516 : decode cL_law 1516 = .ok (.iaload, 1) := by decide +kernel
theorem dL_law_1517 : decode cL_law 1517 = .ok (.aload_n 0, 1) := by decide +kernel
theorem dL_law_1518 : decode cL_law 1518 = .ok (.iload 5, 2) := by decide +kernel
theorem dL_law_1520 : decode cL_law 1520 = .ok (.iconst 2, 1) := by decide +kernel
theorem dL_law_1521 : decode cL_law 1521 = .ok (.iadd, 1) := by decide +kernel
theorem dL_law_1522 : decode cL_law 1522 = .ok (.iaload, 1) := by decide +kernel
theorem dL_law_1523 : decode cL_law 1523 = .ok (.aload_n 0, 1) := by decide +kernel
theorem dL_law_1524 : decode cL_law 1524 = .ok (.iload 5, 2) := by decide +kernel
theorem dL_law_1526 : decode cL_law 1526 = .ok (.iconst 3, 1) := by decide +kernel
theorem dL_law_1527 : decode cL_law 1527 = .ok (.iadd, 1) := by decide +kernel
theorem dL_law_1528 : decode cL_law 1528 = .ok (.iaload, 1) := by decide +kernel
theorem dL_law_1529 : decode cL_law 1529 = .ok (.aload_n 3, 1) := by decide +kernel
theorem dL_law_1530 : decode cL_law 1530 = .ok (.invokestatic 176, 3) := by decide +kernel
theorem dL_law_1533 : decode cL_law 1533 = .ok (.istore 6, 2) := by decide +kernel
theorem dL_law_1535 : decode cL_law 1535 = .ok (.aload_n 2, 1) := by decide +kernel
theorem dL_law_1536 : decode cL_law 1536 = .ok (.aload_n 0, 1) := by decide +kernel
theorem dL_law_1537 : decode cL_law 1537 = .ok (.iload 5, 2) := by decide +kernel
theorem dL_law_1539 : decode cL_law 1539 = .ok (.iconst 1, 1) := by decide +kernel
theorem dL_law_1540 : decode cL_law 1540 = .ok (.iadd, 1) := by decide +kernel
theorem dL_law_1541 : decode cL_law 1541 = .ok (.iaload, 1) := by decide +kernel
theorem dL_law_1542 : decode cL_law 1542 = .ok (.aload_n 0, 1) := by decide +kernel
theorem dL_law_1543 : decode cL_law 1543 = .ok (.iload 5, 2) := by decide +kernel
theorem dL_law_1545 : decode cL_law 1545 = .ok (.iconst 2, 1) := by decide +kernel
theorem dL_law_1546 : decode cL_law 1546 = .ok (.iadd, 1) := by decide +kernel
theorem dL_law_1547 : decode cL_law 1547 = .ok (.iaload, 1) := by decide +kernel
theorem dL_law_1548 : decode cL_law 1548 = .ok (.aload_n 0, 1) := by decide +kernel
theorem dL_law_1549 : decode cL_law 1549 = .ok (.iload 5, 2) := by decide +kernel
theorem dL_law_1551 : decode cL_law 1551 = .ok (.iconst 3, 1) := by decide +kernel
theorem dL_law_1552 : decode cL_law 1552 = .ok (.iadd, 1) := by decide +kernel
theorem dL_law_1553 : decode cL_law 1553 = .ok (.iaload, 1) := by decide +kernel
theorem dL_law_1554 : decode cL_law 1554 = .ok (.invokevirtual 178, 3) := by decide +kernel
theorem dL_law_1557 : decode cL_law 1557 = .ok (.istore 7, 2) := by decide +kernel
theorem dL_law_1559 : decode cL_law 1559 = .ok (.aload_n 2, 1) := by decide +kernel
theorem dL_law_1560 : decode cL_law 1560 = .ok (.invokevirtual 112, 3) := by decide +kernel
theorem dL_law_1563 : decode cL_law 1563 = .ok (.iload 6, 2) := by decide +kernel
theorem dL_law_1565 : decode cL_law 1565 = .ok (.if_icmp .eq 5, 3) := by decide +kernel
theorem dL_law_1568 : decode cL_law 1568 = .ok (.iconst 0, 1) := by decide +kernel
theorem dL_law_1569 : decode cL_law 1569 = .ok (.ireturn, 1) := by decide +kernel
theorem dL_law_1570 : decode cL_law 1570 = .ok (.iload 6, 2) := by decide +kernel
theorem dL_law_1572 : decode cL_law 1572 = .ok (.ifCond .ne 15, 3) := by decide +kernel
theorem dL_law_1575 : decode cL_law 1575 = .ok (.aload_n 3, 1) := by decide +kernel
theorem dL_law_1576 : decode cL_law 1576 = .ok (.iconst 0, 1) := by decide +kernel
theorem dL_law_1577 : decode cL_law 1577 = .ok (.laload, 1) := by decide +kernel
theorem dL_law_1578 : decode cL_law 1578 = .ok (.iload 7, 2) := by decide +kernel
theorem dL_law_1580 : decode cL_law 1580 = .ok (.i2l, 1) := by decide +kernel
theorem dL_law_1581 : decode cL_law 1581 = .ok (.lcmp, 1) := by decide +kernel
theorem dL_law_1582 : decode cL_law 1582 = .ok (.ifCond .eq 5, 3) := by decide +kernel
theorem dL_law_1585 : decode cL_law 1585 = .ok (.iconst 0, 1) := by decide +kernel
theorem dL_law_1586 : decode cL_law 1586 = .ok (.ireturn, 1) := by decide +kernel
theorem dL_law_1587 : decode cL_law 1587 = .ok (.goto 668, 3) := by decide +kernel
theorem dL_law_1590 : decode cL_law 1590 = .ok (.aload_n 1, 1) := by decide +kernel
theorem dL_law_1591 : decode cL_law 1591 = .ok (.aload_n 0, 1) := by decide +kernel
theorem dL_law_1592 : decode cL_law 1592 = .ok (.iload 5, 2) := by decide +kernel
theorem dL_law_1594 : decode cL_law 1594 = .ok (.iconst 1, 1) := by decide +kernel
theorem dL_law_1595 : decode cL_law 1595 = .ok (.iadd, 1) := by decide +kernel
theorem dL_law_1596 : decode cL_law 1596 = .ok (.iaload, 1) := by decide +kernel
theorem dL_law_1597 : decode cL_law 1597 = .ok (.aload_n 0, 1) := by decide +kernel
theorem dL_law_1598 : decode cL_law 1598 = .ok (.iload 5, 2) := by decide +kernel
theorem dL_law_1600 : decode cL_law 1600 = .ok (.iconst 2, 1) := by decide +kernel
theorem dL_law_1601 : decode cL_law 1601 = .ok (.iadd, 1) := by decide +kernel
theorem dL_law_1602 : decode cL_law 1602 = .ok (.iaload, 1) := by decide +kernel
theorem dL_law_1603 : decode cL_law 1603 = .ok (.aload_n 0, 1) := by decide +kernel
theorem dL_law_1604 : decode cL_law 1604 = .ok (.iload 5, 2) := by decide +kernel
theorem dL_law_1606 : decode cL_law 1606 = .ok (.iconst 3, 1) := by decide +kernel
theorem dL_law_1607 : decode cL_law 1607 = .ok (.iadd, 1) := by decide +kernel
theorem dL_law_1608 : decode cL_law 1608 = .ok (.iaload, 1) := by decide +kernel
theorem dL_law_1609 : decode cL_law 1609 = .ok (.aload_n 0, 1) := by decide +kernel
theorem dL_law_1610 : decode cL_law 1610 = .ok (.iload 5, 2) := by decide +kernel
theorem dL_law_1612 : decode cL_law 1612 = .ok (.iconst 4, 1) := by decide +kernel
theorem dL_law_1613 : decode cL_law 1613 = .ok (.iadd, 1) := by decide +kernel
theorem dL_law_1614 : decode cL_law 1614 = .ok (.iaload, 1) := by decide +kernel
theorem dL_law_1615 : decode cL_law 1615 = .ok (.aload_n 3, 1) := by decide +kernel
theorem dL_law_1616 : decode cL_law 1616 = .ok (.invokestatic 179, 3) := by decide +kernel
theorem dL_law_1619 : decode cL_law 1619 = .ok (.istore 6, 2) := by decide +kernel
theorem dL_law_1621 : decode cL_law 1621 = .ok (.aload_n 2, 1) := by decide +kernel
theorem dL_law_1622 : decode cL_law 1622 = .ok (.aload_n 0, 1) := by decide +kernel
theorem dL_law_1623 : decode cL_law 1623 = .ok (.iload 5, 2) := by decide +kernel
theorem dL_law_1625 : decode cL_law 1625 = .ok (.iconst 1, 1) := by decide +kernel
theorem dL_law_1626 : decode cL_law 1626 = .ok (.iadd, 1) := by decide +kernel
theorem dL_law_1627 : decode cL_law 1627 = .ok (.iaload, 1) := by decide +kernel
theorem dL_law_1628 : decode cL_law 1628 = .ok (.aload_n 0, 1) := by decide +kernel
theorem dL_law_1629 : decode cL_law 1629 = .ok (.iload 5, 2) := by decide +kernel
theorem dL_law_1631 : decode cL_law 1631 = .ok (.iconst 2, 1) := by decide +kernel
theorem dL_law_1632 : decode cL_law 1632 = .ok (.iadd, 1) := by decide +kernel
theorem dL_law_1633 : decode cL_law 1633 = .ok (.iaload, 1) := by decide +kernel
theorem dL_law_1634 : decode cL_law 1634 = .ok (.aload_n 0, 1) := by decide +kernel
theorem dL_law_1635 : decode cL_law 1635 = .ok (.iload 5, 2) := by decide +kernel
theorem dL_law_1637 : decode cL_law 1637 = .ok (.iconst 3, 1) := by decide +kernel
theorem dL_law_1638 : decode cL_law 1638 = .ok (.iadd, 1) := by decide +kernel
theorem dL_law_1639 : decode cL_law 1639 = .ok (.iaload, 1) := by decide +kernel
theorem dL_law_1640 : decode cL_law 1640 = .ok (.aload_n 0, 1) := by decide +kernel
theorem dL_law_1641 : decode cL_law 1641 = .ok (.iload 5, 2) := by decide +kernel
theorem dL_law_1643 : decode cL_law 1643 = .ok (.iconst 4, 1) := by decide +kernel
theorem dL_law_1644 : decode cL_law 1644 = .ok (.iadd, 1) := by decide +kernel
theorem dL_law_1645 : decode cL_law 1645 = .ok (.iaload, 1) := by decide +kernel
theorem dL_law_1646 : decode cL_law 1646 = .ok (.invokevirtual 182, 3) := by decide +kernel
theorem dL_law_1649 : decode cL_law 1649 = .ok (.istore 7, 2) := by decide +kernel
theorem dL_law_1651 : decode cL_law 1651 = .ok (.aload_n 2, 1) := by decide +kernel
theorem dL_law_1652 : decode cL_law 1652 = .ok (.invokevirtual 112, 3) := by decide +kernel
theorem dL_law_1655 : decode cL_law 1655 = .ok (.iload 6, 2) := by decide +kernel
theorem dL_law_1657 : decode cL_law 1657 = .ok (.if_icmp .eq 5, 3) := by decide +kernel
theorem dL_law_1660 : decode cL_law 1660 = .ok (.iconst 0, 1) := by decide +kernel
theorem dL_law_1661 : decode cL_law 1661 = .ok (.ireturn, 1) := by decide +kernel
theorem dL_law_1662 : decode cL_law 1662 = .ok (.iload 6, 2) := by decide +kernel
theorem dL_law_1664 : decode cL_law 1664 = .ok (.ifCond .ne 15, 3) := by decide +kernel
theorem dL_law_1667 : decode cL_law 1667 = .ok (.aload_n 3, 1) := by decide +kernel
theorem dL_law_1668 : decode cL_law 1668 = .ok (.iconst 0, 1) := by decide +kernel
theorem dL_law_1669 : decode cL_law 1669 = .ok (.laload, 1) := by decide +kernel
theorem dL_law_1670 : decode cL_law 1670 = .ok (.iload 7, 2) := by decide +kernel
theorem dL_law_1672 : decode cL_law 1672 = .ok (.i2l, 1) := by decide +kernel
theorem dL_law_1673 : decode cL_law 1673 = .ok (.lcmp, 1) := by decide +kernel
theorem dL_law_1674 : decode cL_law 1674 = .ok (.ifCond .eq 5, 3) := by decide +kernel
theorem dL_law_1677 : decode cL_law 1677 = .ok (.iconst 0, 1) := by decide +kernel
theorem dL_law_1678 : decode cL_law 1678 = .ok (.ireturn, 1) := by decide +kernel
theorem dL_law_1679 : decode cL_law 1679 = .ok (.goto 576, 3) := by decide +kernel
theorem dL_law_1682 : decode cL_law 1682 = .ok (.aload_n 1, 1) := by decide +kernel
theorem dL_law_1683 : decode cL_law 1683 = .ok (.aload_n 0, 1) := by decide +kernel
theorem dL_law_1684 : decode cL_law 1684 = .ok (.iload 5, 2) := by decide +kernel
theorem dL_law_1686 : decode cL_law 1686 = .ok (.iconst 1, 1) := by decide +kernel
theorem dL_law_1687 : decode cL_law 1687 = .ok (.iadd, 1) := by decide +kernel
theorem dL_law_1688 : decode cL_law 1688 = .ok (.iaload, 1) := by decide +kernel
theorem dL_law_1689 : decode cL_law 1689 = .ok (.aload_n 0, 1) := by decide +kernel
theorem dL_law_1690 : decode cL_law 1690 = .ok (.iload 5, 2) := by decide +kernel
theorem dL_law_1692 : decode cL_law 1692 = .ok (.iconst 2, 1) := by decide +kernel
theorem dL_law_1693 : decode cL_law 1693 = .ok (.iadd, 1) := by decide +kernel
theorem dL_law_1694 : decode cL_law 1694 = .ok (.iaload, 1) := by decide +kernel
theorem dL_law_1695 : decode cL_law 1695 = .ok (.aload_n 3, 1) := by decide +kernel
theorem dL_law_1696 : decode cL_law 1696 = .ok (.invokestatic 183, 3) := by decide +kernel
theorem dL_law_1699 : decode cL_law 1699 = .ok (.istore 6, 2) := by decide +kernel
theorem dL_law_1701 : decode cL_law 1701 = .ok (.aload_n 2, 1) := by decide +kernel
theorem dL_law_1702 : decode cL_law 1702 = .ok (.aload_n 0, 1) := by decide +kernel
theorem dL_law_1703 : decode cL_law 1703 = .ok (.iload 5, 2) := by decide +kernel
theorem dL_law_1705 : decode cL_law 1705 = .ok (.iconst 1, 1) := by decide +kernel
theorem dL_law_1706 : decode cL_law 1706 = .ok (.iadd, 1) := by decide +kernel
theorem dL_law_1707 : decode cL_law 1707 = .ok (.iaload, 1) := by decide +kernel
theorem dL_law_1708 : decode cL_law 1708 = .ok (.aload_n 0, 1) := by decide +kernel
theorem dL_law_1709 : decode cL_law 1709 = .ok (.iload 5, 2) := by decide +kernel
theorem dL_law_1711 : decode cL_law 1711 = .ok (.iconst 2, 1) := by decide +kernel
theorem dL_law_1712 : decode cL_law 1712 = .ok (.iadd, 1) := by decide +kernel
theorem dL_law_1713 : decode cL_law 1713 = .ok (.iaload, 1) := by decide +kernel
theorem dL_law_1714 : decode cL_law 1714 = .ok (.invokevirtual 185, 3) := by decide +kernel
theorem dL_law_1717 : decode cL_law 1717 = .ok (.istore 7, 2) := by decide +kernel
theorem dL_law_1719 : decode cL_law 1719 = .ok (.aload_n 2, 1) := by decide +kernel
theorem dL_law_1720 : decode cL_law 1720 = .ok (.invokevirtual 112, 3) := by decide +kernel
theorem dL_law_1723 : decode cL_law 1723 = .ok (.iload 6, 2) := by decide +kernel
theorem dL_law_1725 : decode cL_law 1725 = .ok (.if_icmp .eq 5, 3) := by decide +kernel
theorem dL_law_1728 : decode cL_law 1728 = .ok (.iconst 0, 1) := by decide +kernel
theorem dL_law_1729 : decode cL_law 1729 = .ok (.ireturn, 1) := by decide +kernel
theorem dL_law_1730 : decode cL_law 1730 = .ok (.iload 6, 2) := by decide +kernel
theorem dL_law_1732 : decode cL_law 1732 = .ok (.ifCond .ne 15, 3) := by decide +kernel
theorem dL_law_1735 : decode cL_law 1735 = .ok (.aload_n 3, 1) := by decide +kernel
theorem dL_law_1736 : decode cL_law 1736 = .ok (.iconst 0, 1) := by decide +kernel
theorem dL_law_1737 : decode cL_law 1737 = .ok (.laload, 1) := by decide +kernel
theorem dL_law_1738 : decode cL_law 1738 = .ok (.iload 7, 2) := by decide +kernel
theorem dL_law_1740 : decode cL_law 1740 = .ok (.i2l, 1) := by decide +kernel
theorem dL_law_1741 : decode cL_law 1741 = .ok (.lcmp, 1) := by decide +kernel
theorem dL_law_1742 : decode cL_law 1742 = .ok (.ifCond .eq 5, 3) := by decide +kernel
theorem dL_law_1745 : decode cL_law 1745 = .ok (.iconst 0, 1) := by decide +kernel
theorem dL_law_1746 : decode cL_law 1746 = .ok (.ireturn, 1) := by decide +kernel
theorem dL_law_1747 : decode cL_law 1747 = .ok (.goto 508, 3) := by decide +kernel
theorem dL_law_1750 : decode cL_law 1750 = .ok (.aload_n 1, 1) := by decide +kernel
theorem dL_law_1751 : decode cL_law 1751 = .ok (.aload_n 0, 1) := by decide +kernel
theorem dL_law_1752 : decode cL_law 1752 = .ok (.iload 5, 2) := by decide +kernel
theorem dL_law_1754 : decode cL_law 1754 = .ok (.iconst 1, 1) := by decide +kernel
theorem dL_law_1755 : decode cL_law 1755 = .ok (.iadd, 1) := by decide +kernel
theorem dL_law_1756 : decode cL_law 1756 = .ok (.iaload, 1) := by decide +kernel
theorem dL_law_1757 : decode cL_law 1757 = .ok (.aload_n 0, 1) := by decide +kernel
theorem dL_law_1758 : decode cL_law 1758 = .ok (.iload 5, 2) := by decide +kernel
theorem dL_law_1760 : decode cL_law 1760 = .ok (.iconst 2, 1) := by decide +kernel
theorem dL_law_1761 : decode cL_law 1761 = .ok (.iadd, 1) := by decide +kernel
theorem dL_law_1762 : decode cL_law 1762 = .ok (.iaload, 1) := by decide +kernel
theorem dL_law_1763 : decode cL_law 1763 = .ok (.aload_n 3, 1) := by decide +kernel
theorem dL_law_1764 : decode cL_law 1764 = .ok (.invokestatic 186, 3) := by decide +kernel
theorem dL_law_1767 : decode cL_law 1767 = .ok (.istore 6, 2) := by decide +kernel
theorem dL_law_1769 : decode cL_law 1769 = .ok (.aload_n 2, 1) := by decide +kernel
theorem dL_law_1770 : decode cL_law 1770 = .ok (.aload_n 0, 1) := by decide +kernel
theorem dL_law_1771 : decode cL_law 1771 = .ok (.iload 5, 2) := by decide +kernel
theorem dL_law_1773 : decode cL_law 1773 = .ok (.iconst 1, 1) := by decide +kernel
theorem dL_law_1774 : decode cL_law 1774 = .ok (.iadd, 1) := by decide +kernel
theorem dL_law_1775 : decode cL_law 1775 = .ok (.iaload, 1) := by decide +kernel
theorem dL_law_1776 : decode cL_law 1776 = .ok (.aload_n 0, 1) := by decide +kernel
theorem dL_law_1777 : decode cL_law 1777 = .ok (.iload 5, 2) := by decide +kernel
theorem dL_law_1779 : decode cL_law 1779 = .ok (.iconst 2, 1) := by decide +kernel
theorem dL_law_1780 : decode cL_law 1780 = .ok (.iadd, 1) := by decide +kernel
theorem dL_law_1781 : decode cL_law 1781 = .ok (.iaload, 1) := by decide +kernel
theorem dL_law_1782 : decode cL_law 1782 = .ok (.invokevirtual 188, 3) := by decide +kernel
theorem dL_law_1785 : decode cL_law 1785 = .ok (.istore 7, 2) := by decide +kernel
theorem dL_law_1787 : decode cL_law 1787 = .ok (.aload_n 2, 1) := by decide +kernel
theorem dL_law_1788 : decode cL_law 1788 = .ok (.invokevirtual 112, 3) := by decide +kernel
theorem dL_law_1791 : decode cL_law 1791 = .ok (.iload 6, 2) := by decide +kernel
theorem dL_law_1793 : decode cL_law 1793 = .ok (.if_icmp .eq 5, 3) := by decide +kernel
theorem dL_law_1796 : decode cL_law 1796 = .ok (.iconst 0, 1) := by decide +kernel
theorem dL_law_1797 : decode cL_law 1797 = .ok (.ireturn, 1) := by decide +kernel
theorem dL_law_1798 : decode cL_law 1798 = .ok (.iload 6, 2) := by decide +kernel
theorem dL_law_1800 : decode cL_law 1800 = .ok (.ifCond .ne 22, 3) := by decide +kernel
theorem dL_law_1803 : decode cL_law 1803 = .ok (.aload_n 3, 1) := by decide +kernel
theorem dL_law_1804 : decode cL_law 1804 = .ok (.iconst 0, 1) := by decide +kernel
theorem dL_law_1805 : decode cL_law 1805 = .ok (.laload, 1) := by decide +kernel
theorem dL_law_1806 : decode cL_law 1806 = .ok (.iload 7, 2) := by decide +kernel
theorem dL_law_1808 : decode cL_law 1808 = .ok (.ifCond .eq 7, 3) := by decide +kernel
theorem dL_law_1811 : decode cL_law 1811 = .ok (.lconst 1, 1) := by decide +kernel
theorem dL_law_1812 : decode cL_law 1812 = .ok (.goto 4, 3) := by decide +kernel
theorem dL_law_1815 : decode cL_law 1815 = .ok (.lconst 0, 1) := by decide +kernel
theorem dL_law_1816 : decode cL_law 1816 = .ok (.lcmp, 1) := by decide +kernel
theorem dL_law_1817 : decode cL_law 1817 = .ok (.ifCond .eq 5, 3) := by decide +kernel
theorem dL_law_1820 : decode cL_law 1820 = .ok (.iconst 0, 1) := by decide +kernel
theorem dL_law_1821 : decode cL_law 1821 = .ok (.ireturn, 1) := by decide +kernel
theorem dL_law_1822 : decode cL_law 1822 = .ok (.goto 433, 3) := by decide +kernel
theorem dL_law_1825 : decode cL_law 1825 = .ok (.aload_n 1, 1) := by decide +kernel
theorem dL_law_1826 : decode cL_law 1826 = .ok (.aload_n 0, 1) := by decide +kernel
theorem dL_law_1827 : decode cL_law 1827 = .ok (.iload 5, 2) := by decide +kernel
theorem dL_law_1829 : decode cL_law 1829 = .ok (.iconst 1, 1) := by decide +kernel
theorem dL_law_1830 : decode cL_law 1830 = .ok (.iadd, 1) := by decide +kernel
theorem dL_law_1831 : decode cL_law 1831 = .ok (.iaload, 1) := by decide +kernel
theorem dL_law_1832 : decode cL_law 1832 = .ok (.aload_n 0, 1) := by decide +kernel
theorem dL_law_1833 : decode cL_law 1833 = .ok (.iload 5, 2) := by decide +kernel
theorem dL_law_1835 : decode cL_law 1835 = .ok (.iconst 2, 1) := by decide +kernel
theorem dL_law_1836 : decode cL_law 1836 = .ok (.iadd, 1) := by decide +kernel
theorem dL_law_1837 : decode cL_law 1837 = .ok (.iaload, 1) := by decide +kernel
theorem dL_law_1838 : decode cL_law 1838 = .ok (.aload_n 0, 1) := by decide +kernel
theorem dL_law_1839 : decode cL_law 1839 = .ok (.iload 5, 2) := by decide +kernel
theorem dL_law_1841 : decode cL_law 1841 = .ok (.iconst 3, 1) := by decide +kernel
theorem dL_law_1842 : decode cL_law 1842 = .ok (.iadd, 1) := by decide +kernel
theorem dL_law_1843 : decode cL_law 1843 = .ok (.iaload, 1) := by decide +kernel
theorem dL_law_1844 : decode cL_law 1844 = .ok (.aload_n 3, 1) := by decide +kernel
theorem dL_law_1845 : decode cL_law 1845 = .ok (.invokestatic 189, 3) := by decide +kernel
theorem dL_law_1848 : decode cL_law 1848 = .ok (.istore 6, 2) := by decide +kernel
theorem dL_law_1850 : decode cL_law 1850 = .ok (.aload_n 2, 1) := by decide +kernel
theorem dL_law_1851 : decode cL_law 1851 = .ok (.aload_n 0, 1) := by decide +kernel
theorem dL_law_1852 : decode cL_law 1852 = .ok (.iload 5, 2) := by decide +kernel
theorem dL_law_1854 : decode cL_law 1854 = .ok (.iconst 1, 1) := by decide +kernel
theorem dL_law_1855 : decode cL_law 1855 = .ok (.iadd, 1) := by decide +kernel
theorem dL_law_1856 : decode cL_law 1856 = .ok (.iaload, 1) := by decide +kernel
theorem dL_law_1857 : decode cL_law 1857 = .ok (.aload_n 0, 1) := by decide +kernel
theorem dL_law_1858 : decode cL_law 1858 = .ok (.iload 5, 2) := by decide +kernel
theorem dL_law_1860 : decode cL_law 1860 = .ok (.iconst 2, 1) := by decide +kernel
theorem dL_law_1861 : decode cL_law 1861 = .ok (.iadd, 1) := by decide +kernel
theorem dL_law_1862 : decode cL_law 1862 = .ok (.iaload, 1) := by decide +kernel
theorem dL_law_1863 : decode cL_law 1863 = .ok (.aload_n 0, 1) := by decide +kernel
theorem dL_law_1864 : decode cL_law 1864 = .ok (.iload 5, 2) := by decide +kernel
theorem dL_law_1866 : decode cL_law 1866 = .ok (.iconst 3, 1) := by decide +kernel
theorem dL_law_1867 : decode cL_law 1867 = .ok (.iadd, 1) := by decide +kernel
theorem dL_law_1868 : decode cL_law 1868 = .ok (.iaload, 1) := by decide +kernel
theorem dL_law_1869 : decode cL_law 1869 = .ok (.invokevirtual 191, 3) := by decide +kernel
theorem dL_law_1872 : decode cL_law 1872 = .ok (.lstore 7, 2) := by decide +kernel
theorem dL_law_1874 : decode cL_law 1874 = .ok (.aload_n 2, 1) := by decide +kernel
theorem dL_law_1875 : decode cL_law 1875 = .ok (.invokevirtual 112, 3) := by decide +kernel
theorem dL_law_1878 : decode cL_law 1878 = .ok (.iload 6, 2) := by decide +kernel
theorem dL_law_1880 : decode cL_law 1880 = .ok (.if_icmp .eq 5, 3) := by decide +kernel
theorem dL_law_1883 : decode cL_law 1883 = .ok (.iconst 0, 1) := by decide +kernel
theorem dL_law_1884 : decode cL_law 1884 = .ok (.ireturn, 1) := by decide +kernel
theorem dL_law_1885 : decode cL_law 1885 = .ok (.iload 6, 2) := by decide +kernel
theorem dL_law_1887 : decode cL_law 1887 = .ok (.ifCond .ne 14, 3) := by decide +kernel
theorem dL_law_1890 : decode cL_law 1890 = .ok (.aload_n 3, 1) := by decide +kernel
theorem dL_law_1891 : decode cL_law 1891 = .ok (.iconst 0, 1) := by decide +kernel
theorem dL_law_1892 : decode cL_law 1892 = .ok (.laload, 1) := by decide +kernel
theorem dL_law_1893 : decode cL_law 1893 = .ok (.lload 7, 2) := by decide +kernel
theorem dL_law_1895 : decode cL_law 1895 = .ok (.lcmp, 1) := by decide +kernel
theorem dL_law_1896 : decode cL_law 1896 = .ok (.ifCond .eq 5, 3) := by decide +kernel
theorem dL_law_1899 : decode cL_law 1899 = .ok (.iconst 0, 1) := by decide +kernel
theorem dL_law_1900 : decode cL_law 1900 = .ok (.ireturn, 1) := by decide +kernel
theorem dL_law_1901 : decode cL_law 1901 = .ok (.goto 354, 3) := by decide +kernel
theorem dL_law_1904 : decode cL_law 1904 = .ok (.aload_n 1, 1) := by decide +kernel
theorem dL_law_1905 : decode cL_law 1905 = .ok (.aload_n 0, 1) := by decide +kernel
theorem dL_law_1906 : decode cL_law 1906 = .ok (.iload 5, 2) := by decide +kernel
theorem dL_law_1908 : decode cL_law 1908 = .ok (.iconst 1, 1) := by decide +kernel
theorem dL_law_1909 : decode cL_law 1909 = .ok (.iadd, 1) := by decide +kernel
theorem dL_law_1910 : decode cL_law 1910 = .ok (.iaload, 1) := by decide +kernel
theorem dL_law_1911 : decode cL_law 1911 = .ok (.aload_n 0, 1) := by decide +kernel
theorem dL_law_1912 : decode cL_law 1912 = .ok (.iload 5, 2) := by decide +kernel
theorem dL_law_1914 : decode cL_law 1914 = .ok (.iconst 2, 1) := by decide +kernel
theorem dL_law_1915 : decode cL_law 1915 = .ok (.iadd, 1) := by decide +kernel
theorem dL_law_1916 : decode cL_law 1916 = .ok (.iaload, 1) := by decide +kernel
theorem dL_law_1917 : decode cL_law 1917 = .ok (.aload_n 0, 1) := by decide +kernel
theorem dL_law_1918 : decode cL_law 1918 = .ok (.iload 5, 2) := by decide +kernel
theorem dL_law_1920 : decode cL_law 1920 = .ok (.iconst 3, 1) := by decide +kernel
theorem dL_law_1921 : decode cL_law 1921 = .ok (.iadd, 1) := by decide +kernel
theorem dL_law_1922 : decode cL_law 1922 = .ok (.iaload, 1) := by decide +kernel
theorem dL_law_1923 : decode cL_law 1923 = .ok (.aload_n 3, 1) := by decide +kernel
theorem dL_law_1924 : decode cL_law 1924 = .ok (.invokestatic 192, 3) := by decide +kernel
theorem dL_law_1927 : decode cL_law 1927 = .ok (.istore 6, 2) := by decide +kernel
theorem dL_law_1929 : decode cL_law 1929 = .ok (.aload_n 2, 1) := by decide +kernel
theorem dL_law_1930 : decode cL_law 1930 = .ok (.aload_n 0, 1) := by decide +kernel
theorem dL_law_1931 : decode cL_law 1931 = .ok (.iload 5, 2) := by decide +kernel
theorem dL_law_1933 : decode cL_law 1933 = .ok (.iconst 1, 1) := by decide +kernel
theorem dL_law_1934 : decode cL_law 1934 = .ok (.iadd, 1) := by decide +kernel
theorem dL_law_1935 : decode cL_law 1935 = .ok (.iaload, 1) := by decide +kernel
theorem dL_law_1936 : decode cL_law 1936 = .ok (.aload_n 0, 1) := by decide +kernel
theorem dL_law_1937 : decode cL_law 1937 = .ok (.iload 5, 2) := by decide +kernel
theorem dL_law_1939 : decode cL_law 1939 = .ok (.iconst 2, 1) := by decide +kernel
theorem dL_law_1940 : decode cL_law 1940 = .ok (.iadd, 1) := by decide +kernel
theorem dL_law_1941 : decode cL_law 1941 = .ok (.iaload, 1) := by decide +kernel
theorem dL_law_1942 : decode cL_law 1942 = .ok (.aload_n 0, 1) := by decide +kernel
theorem dL_law_1943 : decode cL_law 1943 = .ok (.iload 5, 2) := by decide +kernel
theorem dL_law_1945 : decode cL_law 1945 = .ok (.iconst 3, 1) := by decide +kernel
theorem dL_law_1946 : decode cL_law 1946 = .ok (.iadd, 1) := by decide +kernel
theorem dL_law_1947 : decode cL_law 1947 = .ok (.iaload, 1) := by decide +kernel
theorem dL_law_1948 : decode cL_law 1948 = .ok (.invokevirtual 194, 3) := by decide +kernel
theorem dL_law_1951 : decode cL_law 1951 = .ok (.lstore 7, 2) := by decide +kernel
theorem dL_law_1953 : decode cL_law 1953 = .ok (.aload_n 2, 1) := by decide +kernel
theorem dL_law_1954 : decode cL_law 1954 = .ok (.invokevirtual 112, 3) := by decide +kernel
theorem dL_law_1957 : decode cL_law 1957 = .ok (.iload 6, 2) := by decide +kernel
theorem dL_law_1959 : decode cL_law 1959 = .ok (.if_icmp .eq 5, 3) := by decide +kernel
theorem dL_law_1962 : decode cL_law 1962 = .ok (.iconst 0, 1) := by decide +kernel
theorem dL_law_1963 : decode cL_law 1963 = .ok (.ireturn, 1) := by decide +kernel
theorem dL_law_1964 : decode cL_law 1964 = .ok (.iload 6, 2) := by decide +kernel
theorem dL_law_1966 : decode cL_law 1966 = .ok (.ifCond .ne 14, 3) := by decide +kernel
theorem dL_law_1969 : decode cL_law 1969 = .ok (.aload_n 3, 1) := by decide +kernel
theorem dL_law_1970 : decode cL_law 1970 = .ok (.iconst 0, 1) := by decide +kernel
theorem dL_law_1971 : decode cL_law 1971 = .ok (.laload, 1) := by decide +kernel
theorem dL_law_1972 : decode cL_law 1972 = .ok (.lload 7, 2) := by decide +kernel
theorem dL_law_1974 : decode cL_law 1974 = .ok (.lcmp, 1) := by decide +kernel
theorem dL_law_1975 : decode cL_law 1975 = .ok (.ifCond .eq 5, 3) := by decide +kernel
theorem dL_law_1978 : decode cL_law 1978 = .ok (.iconst 0, 1) := by decide +kernel
theorem dL_law_1979 : decode cL_law 1979 = .ok (.ireturn, 1) := by decide +kernel
theorem dL_law_1980 : decode cL_law 1980 = .ok (.goto 275, 3) := by decide +kernel
theorem dL_law_1983 : decode cL_law 1983 = .ok (.aload_n 1, 1) := by decide +kernel
theorem dL_law_1984 : decode cL_law 1984 = .ok (.aload_n 0, 1) := by decide +kernel
theorem dL_law_1985 : decode cL_law 1985 = .ok (.iload 5, 2) := by decide +kernel
theorem dL_law_1987 : decode cL_law 1987 = .ok (.iconst 1, 1) := by decide +kernel
theorem dL_law_1988 : decode cL_law 1988 = .ok (.iadd, 1) := by decide +kernel
theorem dL_law_1989 : decode cL_law 1989 = .ok (.iaload, 1) := by decide +kernel
theorem dL_law_1990 : decode cL_law 1990 = .ok (.aload_n 0, 1) := by decide +kernel
theorem dL_law_1991 : decode cL_law 1991 = .ok (.iload 5, 2) := by decide +kernel
theorem dL_law_1993 : decode cL_law 1993 = .ok (.iconst 2, 1) := by decide +kernel
theorem dL_law_1994 : decode cL_law 1994 = .ok (.iadd, 1) := by decide +kernel
theorem dL_law_1995 : decode cL_law 1995 = .ok (.iaload, 1) := by decide +kernel
theorem dL_law_1996 : decode cL_law 1996 = .ok (.aload_n 0, 1) := by decide +kernel
theorem dL_law_1997 : decode cL_law 1997 = .ok (.iload 5, 2) := by decide +kernel
theorem dL_law_1999 : decode cL_law 1999 = .ok (.iconst 3, 1) := by decide +kernel
theorem dL_law_2000 : decode cL_law 2000 = .ok (.iadd, 1) := by decide +kernel
theorem dL_law_2001 : decode cL_law 2001 = .ok (.iaload, 1) := by decide +kernel
theorem dL_law_2002 : decode cL_law 2002 = .ok (.aload_n 3, 1) := by decide +kernel
theorem dL_law_2003 : decode cL_law 2003 = .ok (.invokestatic 195, 3) := by decide +kernel
theorem dL_law_2006 : decode cL_law 2006 = .ok (.istore 6, 2) := by decide +kernel
theorem dL_law_2008 : decode cL_law 2008 = .ok (.aload_n 2, 1) := by decide +kernel
theorem dL_law_2009 : decode cL_law 2009 = .ok (.aload_n 0, 1) := by decide +kernel
theorem dL_law_2010 : decode cL_law 2010 = .ok (.iload 5, 2) := by decide +kernel
theorem dL_law_2012 : decode cL_law 2012 = .ok (.iconst 1, 1) := by decide +kernel
theorem dL_law_2013 : decode cL_law 2013 = .ok (.iadd, 1) := by decide +kernel
theorem dL_law_2014 : decode cL_law 2014 = .ok (.iaload, 1) := by decide +kernel
theorem dL_law_2015 : decode cL_law 2015 = .ok (.aload_n 0, 1) := by decide +kernel
theorem dL_law_2016 : decode cL_law 2016 = .ok (.iload 5, 2) := by decide +kernel
theorem dL_law_2018 : decode cL_law 2018 = .ok (.iconst 2, 1) := by decide +kernel
theorem dL_law_2019 : decode cL_law 2019 = .ok (.iadd, 1) := by decide +kernel
theorem dL_law_2020 : decode cL_law 2020 = .ok (.iaload, 1) := by decide +kernel
theorem dL_law_2021 : decode cL_law 2021 = .ok (.aload_n 0, 1) := by decide +kernel
theorem dL_law_2022 : decode cL_law 2022 = .ok (.iload 5, 2) := by decide +kernel
theorem dL_law_2024 : decode cL_law 2024 = .ok (.iconst 3, 1) := by decide +kernel
theorem dL_law_2025 : decode cL_law 2025 = .ok (.iadd, 1) := by decide +kernel
theorem dL_law_2026 : decode cL_law 2026 = .ok (.iaload, 1) := by decide +kernel
theorem dL_law_2027 : decode cL_law 2027 = .ok (.invokevirtual 197, 3) := by decide +kernel
theorem dL_law_2030 : decode cL_law 2030 = .ok (.lstore 7, 2) := by decide +kernel
theorem dL_law_2032 : decode cL_law 2032 = .ok (.aload_n 2, 1) := by decide +kernel
theorem dL_law_2033 : decode cL_law 2033 = .ok (.invokevirtual 112, 3) := by decide +kernel
theorem dL_law_2036 : decode cL_law 2036 = .ok (.iload 6, 2) := by decide +kernel
theorem dL_law_2038 : decode cL_law 2038 = .ok (.if_icmp .eq 5, 3) := by decide +kernel
theorem dL_law_2041 : decode cL_law 2041 = .ok (.iconst 0, 1) := by decide +kernel
theorem dL_law_2042 : decode cL_law 2042 = .ok (.ireturn, 1) := by decide +kernel
theorem dL_law_2043 : decode cL_law 2043 = .ok (.iload 6, 2) := by decide +kernel
theorem dL_law_2045 : decode cL_law 2045 = .ok (.ifCond .ne 14, 3) := by decide +kernel
theorem dL_law_2048 : decode cL_law 2048 = .ok (.aload_n 3, 1) := by decide +kernel
theorem dL_law_2049 : decode cL_law 2049 = .ok (.iconst 0, 1) := by decide +kernel
theorem dL_law_2050 : decode cL_law 2050 = .ok (.laload, 1) := by decide +kernel
theorem dL_law_2051 : decode cL_law 2051 = .ok (.lload 7, 2) := by decide +kernel
theorem dL_law_2053 : decode cL_law 2053 = .ok (.lcmp, 1) := by decide +kernel
theorem dL_law_2054 : decode cL_law 2054 = .ok (.ifCond .eq 5, 3) := by decide +kernel
theorem dL_law_2057 : decode cL_law 2057 = .ok (.iconst 0, 1) := by decide +kernel
theorem dL_law_2058 : decode cL_law 2058 = .ok (.ireturn, 1) := by decide +kernel
theorem dL_law_2059 : decode cL_law 2059 = .ok (.goto 196, 3) := by decide +kernel
theorem dL_law_2062 : decode cL_law 2062 = .ok (.aload_n 1, 1) := by decide +kernel
theorem dL_law_2063 : decode cL_law 2063 = .ok (.aload_n 0, 1) := by decide +kernel
theorem dL_law_2064 : decode cL_law 2064 = .ok (.iload 5, 2) := by decide +kernel
theorem dL_law_2066 : decode cL_law 2066 = .ok (.iconst 1, 1) := by decide +kernel
theorem dL_law_2067 : decode cL_law 2067 = .ok (.iadd, 1) := by decide +kernel
theorem dL_law_2068 : decode cL_law 2068 = .ok (.iaload, 1) := by decide +kernel
theorem dL_law_2069 : decode cL_law 2069 = .ok (.aload_n 0, 1) := by decide +kernel
theorem dL_law_2070 : decode cL_law 2070 = .ok (.iload 5, 2) := by decide +kernel
theorem dL_law_2072 : decode cL_law 2072 = .ok (.iconst 2, 1) := by decide +kernel
theorem dL_law_2073 : decode cL_law 2073 = .ok (.iadd, 1) := by decide +kernel
theorem dL_law_2074 : decode cL_law 2074 = .ok (.iaload, 1) := by decide +kernel
theorem dL_law_2075 : decode cL_law 2075 = .ok (.aload_n 0, 1) := by decide +kernel
theorem dL_law_2076 : decode cL_law 2076 = .ok (.iload 5, 2) := by decide +kernel
theorem dL_law_2078 : decode cL_law 2078 = .ok (.iconst 3, 1) := by decide +kernel
theorem dL_law_2079 : decode cL_law 2079 = .ok (.iadd, 1) := by decide +kernel
theorem dL_law_2080 : decode cL_law 2080 = .ok (.iaload, 1) := by decide +kernel
theorem dL_law_2081 : decode cL_law 2081 = .ok (.aload 4, 2) := by decide +kernel
theorem dL_law_2083 : decode cL_law 2083 = .ok (.invokestatic 198, 3) := by decide +kernel
theorem dL_law_2086 : decode cL_law 2086 = .ok (.istore 6, 2) := by decide +kernel
theorem dL_law_2088 : decode cL_law 2088 = .ok (.aload_n 2, 1) := by decide +kernel
theorem dL_law_2089 : decode cL_law 2089 = .ok (.aload_n 0, 1) := by decide +kernel
theorem dL_law_2090 : decode cL_law 2090 = .ok (.iload 5, 2) := by decide +kernel
theorem dL_law_2092 : decode cL_law 2092 = .ok (.iconst 1, 1) := by decide +kernel
theorem dL_law_2093 : decode cL_law 2093 = .ok (.iadd, 1) := by decide +kernel
theorem dL_law_2094 : decode cL_law 2094 = .ok (.iaload, 1) := by decide +kernel
theorem dL_law_2095 : decode cL_law 2095 = .ok (.aload_n 0, 1) := by decide +kernel
theorem dL_law_2096 : decode cL_law 2096 = .ok (.iload 5, 2) := by decide +kernel
theorem dL_law_2098 : decode cL_law 2098 = .ok (.iconst 2, 1) := by decide +kernel
theorem dL_law_2099 : decode cL_law 2099 = .ok (.iadd, 1) := by decide +kernel
theorem dL_law_2100 : decode cL_law 2100 = .ok (.iaload, 1) := by decide +kernel
theorem dL_law_2101 : decode cL_law 2101 = .ok (.aload_n 0, 1) := by decide +kernel
theorem dL_law_2102 : decode cL_law 2102 = .ok (.iload 5, 2) := by decide +kernel
theorem dL_law_2104 : decode cL_law 2104 = .ok (.iconst 3, 1) := by decide +kernel
theorem dL_law_2105 : decode cL_law 2105 = .ok (.iadd, 1) := by decide +kernel
theorem dL_law_2106 : decode cL_law 2106 = .ok (.iaload, 1) := by decide +kernel
theorem dL_law_2107 : decode cL_law 2107 = .ok (.invokevirtual 200, 3) := by decide +kernel
theorem dL_law_2110 : decode cL_law 2110 = .ok (.dstore 7, 2) := by decide +kernel
theorem dL_law_2112 : decode cL_law 2112 = .ok (.aload_n 2, 1) := by decide +kernel
theorem dL_law_2113 : decode cL_law 2113 = .ok (.invokevirtual 112, 3) := by decide +kernel
theorem dL_law_2116 : decode cL_law 2116 = .ok (.iload 6, 2) := by decide +kernel
theorem dL_law_2118 : decode cL_law 2118 = .ok (.if_icmp .eq 5, 3) := by decide +kernel
theorem dL_law_2121 : decode cL_law 2121 = .ok (.iconst 0, 1) := by decide +kernel
theorem dL_law_2122 : decode cL_law 2122 = .ok (.ireturn, 1) := by decide +kernel
theorem dL_law_2123 : decode cL_law 2123 = .ok (.iload 6, 2) := by decide +kernel
theorem dL_law_2125 : decode cL_law 2125 = .ok (.ifCond .ne 35, 3) := by decide +kernel
theorem dL_law_2128 : decode cL_law 2128 = .ok (.aload 4, 2) := by decide +kernel
theorem dL_law_2130 : decode cL_law 2130 = .ok (.iconst 0, 1) := by decide +kernel
theorem dL_law_2131 : decode cL_law 2131 = .ok (.daload, 1) := by decide +kernel
theorem dL_law_2132 : decode cL_law 2132 = .ok (.dload 7, 2) := by decide +kernel
theorem dL_law_2134 : decode cL_law 2134 = .ok (.dcmp .l, 1) := by decide +kernel
theorem dL_law_2135 : decode cL_law 2135 = .ok (.ifCond .eq 25, 3) := by decide +kernel
theorem dL_law_2138 : decode cL_law 2138 = .ok (.aload 4, 2) := by decide +kernel
theorem dL_law_2140 : decode cL_law 2140 = .ok (.iconst 0, 1) := by decide +kernel
theorem dL_law_2141 : decode cL_law 2141 = .ok (.daload, 1) := by decide +kernel
theorem dL_law_2142 : decode cL_law 2142 = .ok (.aload 4, 2) := by decide +kernel
theorem dL_law_2144 : decode cL_law 2144 = .ok (.iconst 0, 1) := by decide +kernel
theorem dL_law_2145 : decode cL_law 2145 = .ok (.daload, 1) := by decide +kernel
theorem dL_law_2146 : decode cL_law 2146 = .ok (.dcmp .l, 1) := by decide +kernel
theorem dL_law_2147 : decode cL_law 2147 = .ok (.ifCond .eq 11, 3) := by decide +kernel
theorem dL_law_2150 : decode cL_law 2150 = .ok (.dload 7, 2) := by decide +kernel
theorem dL_law_2152 : decode cL_law 2152 = .ok (.dload 7, 2) := by decide +kernel
theorem dL_law_2154 : decode cL_law 2154 = .ok (.dcmp .l, 1) := by decide +kernel
theorem dL_law_2155 : decode cL_law 2155 = .ok (.ifCond .ne 5, 3) := by decide +kernel
theorem dL_law_2158 : decode cL_law 2158 = .ok (.iconst 0, 1) := by decide +kernel
theorem dL_law_2159 : decode cL_law 2159 = .ok (.ireturn, 1) := by decide +kernel
theorem dL_law_2160 : decode cL_law 2160 = .ok (.goto 95, 3) := by decide +kernel
theorem dL_law_2163 : decode cL_law 2163 = .ok (.aload_n 1, 1) := by decide +kernel
theorem dL_law_2164 : decode cL_law 2164 = .ok (.aload_n 0, 1) := by decide +kernel
theorem dL_law_2165 : decode cL_law 2165 = .ok (.iload 5, 2) := by decide +kernel
theorem dL_law_2167 : decode cL_law 2167 = .ok (.iconst 1, 1) := by decide +kernel
theorem dL_law_2168 : decode cL_law 2168 = .ok (.iadd, 1) := by decide +kernel
theorem dL_law_2169 : decode cL_law 2169 = .ok (.iaload, 1) := by decide +kernel
theorem dL_law_2170 : decode cL_law 2170 = .ok (.aload_n 0, 1) := by decide +kernel
theorem dL_law_2171 : decode cL_law 2171 = .ok (.iload 5, 2) := by decide +kernel
theorem dL_law_2173 : decode cL_law 2173 = .ok (.iconst 2, 1) := by decide +kernel
theorem dL_law_2174 : decode cL_law 2174 = .ok (.iadd, 1) := by decide +kernel
theorem dL_law_2175 : decode cL_law 2175 = .ok (.iaload, 1) := by decide +kernel
theorem dL_law_2176 : decode cL_law 2176 = .ok (.aload_n 0, 1) := by decide +kernel
theorem dL_law_2177 : decode cL_law 2177 = .ok (.iload 5, 2) := by decide +kernel
theorem dL_law_2179 : decode cL_law 2179 = .ok (.iconst 3, 1) := by decide +kernel
theorem dL_law_2180 : decode cL_law 2180 = .ok (.iadd, 1) := by decide +kernel
theorem dL_law_2181 : decode cL_law 2181 = .ok (.iaload, 1) := by decide +kernel
theorem dL_law_2182 : decode cL_law 2182 = .ok (.aload_n 0, 1) := by decide +kernel
theorem dL_law_2183 : decode cL_law 2183 = .ok (.iload 5, 2) := by decide +kernel
theorem dL_law_2185 : decode cL_law 2185 = .ok (.iconst 4, 1) := by decide +kernel
theorem dL_law_2186 : decode cL_law 2186 = .ok (.iadd, 1) := by decide +kernel
theorem dL_law_2187 : decode cL_law 2187 = .ok (.iaload, 1) := by decide +kernel
theorem dL_law_2188 : decode cL_law 2188 = .ok (.aload_n 3, 1) := by decide +kernel
theorem dL_law_2189 : decode cL_law 2189 = .ok (.invokestatic 201, 3) := by decide +kernel
theorem dL_law_2192 : decode cL_law 2192 = .ok (.istore 6, 2) := by decide +kernel
theorem dL_law_2194 : decode cL_law 2194 = .ok (.aload_n 2, 1) := by decide +kernel
theorem dL_law_2195 : decode cL_law 2195 = .ok (.aload_n 0, 1) := by decide +kernel
theorem dL_law_2196 : decode cL_law 2196 = .ok (.iload 5, 2) := by decide +kernel
theorem dL_law_2198 : decode cL_law 2198 = .ok (.iconst 1, 1) := by decide +kernel
theorem dL_law_2199 : decode cL_law 2199 = .ok (.iadd, 1) := by decide +kernel
theorem dL_law_2200 : decode cL_law 2200 = .ok (.iaload, 1) := by decide +kernel
theorem dL_law_2201 : decode cL_law 2201 = .ok (.aload_n 0, 1) := by decide +kernel
theorem dL_law_2202 : decode cL_law 2202 = .ok (.iload 5, 2) := by decide +kernel
theorem dL_law_2204 : decode cL_law 2204 = .ok (.iconst 2, 1) := by decide +kernel
theorem dL_law_2205 : decode cL_law 2205 = .ok (.iadd, 1) := by decide +kernel
theorem dL_law_2206 : decode cL_law 2206 = .ok (.iaload, 1) := by decide +kernel
theorem dL_law_2207 : decode cL_law 2207 = .ok (.aload_n 0, 1) := by decide +kernel
theorem dL_law_2208 : decode cL_law 2208 = .ok (.iload 5, 2) := by decide +kernel
theorem dL_law_2210 : decode cL_law 2210 = .ok (.iconst 3, 1) := by decide +kernel
theorem dL_law_2211 : decode cL_law 2211 = .ok (.iadd, 1) := by decide +kernel
theorem dL_law_2212 : decode cL_law 2212 = .ok (.iaload, 1) := by decide +kernel
theorem dL_law_2213 : decode cL_law 2213 = .ok (.aload_n 0, 1) := by decide +kernel
theorem dL_law_2214 : decode cL_law 2214 = .ok (.iload 5, 2) := by decide +kernel
theorem dL_law_2216 : decode cL_law 2216 = .ok (.iconst 4, 1) := by decide +kernel
theorem dL_law_2217 : decode cL_law 2217 = .ok (.iadd, 1) := by decide +kernel
theorem dL_law_2218 : decode cL_law 2218 = .ok (.iaload, 1) := by decide +kernel
theorem dL_law_2219 : decode cL_law 2219 = .ok (.invokevirtual 203, 3) := by decide +kernel
theorem dL_law_2222 : decode cL_law 2222 = .ok (.istore 7, 2) := by decide +kernel
theorem dL_law_2224 : decode cL_law 2224 = .ok (.aload_n 2, 1) := by decide +kernel
theorem dL_law_2225 : decode cL_law 2225 = .ok (.invokevirtual 112, 3) := by decide +kernel
theorem dL_law_2228 : decode cL_law 2228 = .ok (.iload 6, 2) := by decide +kernel
theorem dL_law_2230 : decode cL_law 2230 = .ok (.if_icmp .eq 5, 3) := by decide +kernel
theorem dL_law_2233 : decode cL_law 2233 = .ok (.iconst 0, 1) := by decide +kernel
theorem dL_law_2234 : decode cL_law 2234 = .ok (.ireturn, 1) := by decide +kernel
theorem dL_law_2235 : decode cL_law 2235 = .ok (.iload 6, 2) := by decide +kernel
theorem dL_law_2237 : decode cL_law 2237 = .ok (.ifCond .ne 15, 3) := by decide +kernel
theorem dL_law_2240 : decode cL_law 2240 = .ok (.aload_n 3, 1) := by decide +kernel
theorem dL_law_2241 : decode cL_law 2241 = .ok (.iconst 0, 1) := by decide +kernel
theorem dL_law_2242 : decode cL_law 2242 = .ok (.laload, 1) := by decide +kernel
theorem dL_law_2243 : decode cL_law 2243 = .ok (.iload 7, 2) := by decide +kernel
theorem dL_law_2245 : decode cL_law 2245 = .ok (.i2l, 1) := by decide +kernel
theorem dL_law_2246 : decode cL_law 2246 = .ok (.lcmp, 1) := by decide +kernel
theorem dL_law_2247 : decode cL_law 2247 = .ok (.ifCond .eq 5, 3) := by decide +kernel
theorem dL_law_2250 : decode cL_law 2250 = .ok (.iconst 0, 1) := by decide +kernel
theorem dL_law_2251 : decode cL_law 2251 = .ok (.ireturn, 1) := by decide +kernel
theorem dL_law_2252 : decode cL_law 2252 = .ok (.goto 3, 3) := by decide +kernel
theorem dL_law_2255 : decode cL_law 2255 = .ok (.iinc 5 7, 3) := by decide +kernel
theorem dL_law_2258 : decode cL_law 2258 = .ok (.goto (-2230), 3) := by decide +kernel
theorem dL_law_2261 : decode cL_law 2261 = .ok (.iconst 1, 1) := by decide +kernel
theorem dL_law_2262 : decode cL_law 2262 = .ok (.ireturn, 1) := by decide +kernel
