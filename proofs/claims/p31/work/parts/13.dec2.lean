theorem dX5_valueBetween_40 : decode cX5_valueBetween 40 = .ok (.lmul, 1) := by decide +kernel
theorem dX5_valueBetween_41 : decode cX5_valueBetween 41 = .ok (.lload 5, 2) := by decide +kernel
theorem dX5_valueBetween_43 : decode cX5_valueBetween 43 = .ok (.ldiv, 1) := by decide +kernel
theorem dX5_valueBetween_44 : decode cX5_valueBetween 44 = .ok (.ladd, 1) := by decide +kernel
theorem dX5_valueBetween_45 : decode cX5_valueBetween 45 = .ok (.l2i, 1) := by decide +kernel
theorem dX5_valueBetween_46 : decode cX5_valueBetween 46 = .ok (.ireturn, 1) := by decide +kernel
set_option maxRecDepth 400000 in
theorem ggX5_moveHorizon_X5_seriesAt : GoodIn wsX5_moveHorizon wsX5_seriesAt := goodIn_ca (goodIn_r _ [13, 14, 15, 8, 16, 71, 72, 73, 74, 75, 76, 77] rfl (by decide +kernel)) (goodIn_sub (fun _ h => List.mem_cons_of_mem _ (List.mem_append_right _ h)) (by decide +kernel))
set_option maxRecDepth 20000 in
theorem gX5_moveHorizon_X5_seriesAt : GoodIn wsX5_moveHorizon (wsV RX5 57 RX5 yX5_seriesAt wsX5_seriesAt) := goodIn_app (goodIn_of _ (by decide +kernel)) ggX5_moveHorizon_X5_seriesAt
set_option maxRecDepth 400000 in
theorem ggX5_moveHorizon_X3_expire : GoodIn wsX5_moveHorizon wsX3_expire := goodIn_r _ [21, 22, 23, 24, 25, 26, 27, 28, 29, 30, 31, 32, 33, 34, 35, 36, 37, 38, 39, 40, 41, 42, 43, 44, 45, 20, 46, 47, 48, 49, 50, 51, 52, 53, 54, 55, 56, 57, 58, 59, 60, 61, 62, 63, 64, 65, 66, 67, 68, 69, 70, 78, 79, 80, 81, 82, 83, 84, 85, 86, 87, 88, 89, 90, 91, 92, 93, 94, 95, 96] rfl (by decide +kernel)
set_option maxRecDepth 20000 in
theorem gX5_moveHorizon_X3_expire : GoodIn wsX5_moveHorizon (wsV RX5 263 RX3 yX3_expire wsX3_expire) := goodIn_app (goodIn_of _ (by decide +kernel)) ggX5_moveHorizon_X3_expire
theorem dX5_moveHorizon_0 : decode cX5_moveHorizon 0 = .ok (.aload_n 0, 1) := by decide +kernel
theorem dX5_moveHorizon_1 : decode cX5_moveHorizon 1 = .ok (.getfield 22, 3) := by decide +kernel
theorem dX5_moveHorizon_4 : decode cX5_moveHorizon 4 = .ok (.iload_n 1, 1) := by decide +kernel
theorem dX5_moveHorizon_5 : decode cX5_moveHorizon 5 = .ok (.aload_n 0, 1) := by decide +kernel
theorem dX5_moveHorizon_6 : decode cX5_moveHorizon 6 = .ok (.getfield 22, 3) := by decide +kernel
theorem dX5_moveHorizon_9 : decode cX5_moveHorizon 9 = .ok (.iload_n 1, 1) := by decide +kernel
theorem dX5_moveHorizon_10 : decode cX5_moveHorizon 10 = .ok (.iaload, 1) := by decide +kernel
theorem dX5_moveHorizon_11 : decode cX5_moveHorizon 11 = .ok (.aload_n 0, 1) := by decide +kernel
theorem dX5_moveHorizon_12 : decode cX5_moveHorizon 12 = .ok (.getfield 105, 3) := by decide +kernel
theorem dX5_moveHorizon_15 : decode cX5_moveHorizon 15 = .ok (.aload_n 0, 1) := by decide +kernel
theorem dX5_moveHorizon_16 : decode cX5_moveHorizon 16 = .ok (.getfield 18, 3) := by decide +kernel
theorem dX5_moveHorizon_19 : decode cX5_moveHorizon 19 = .ok (.iload_n 1, 1) := by decide +kernel
theorem dX5_moveHorizon_20 : decode cX5_moveHorizon 20 = .ok (.iaload, 1) := by decide +kernel
theorem dX5_moveHorizon_21 : decode cX5_moveHorizon 21 = .ok (.isub, 1) := by decide +kernel
theorem dX5_moveHorizon_22 : decode cX5_moveHorizon 22 = .ok (.invokestatic 157, 3) := by decide +kernel
theorem dX5_moveHorizon_25 : decode cX5_moveHorizon 25 = .ok (.iastore, 1) := by decide +kernel
theorem dX5_moveHorizon_26 : decode cX5_moveHorizon 26 = .ok (.iconst 0, 1) := by decide +kernel
theorem dX5_moveHorizon_27 : decode cX5_moveHorizon 27 = .ok (.istore_n 2, 1) := by decide +kernel
theorem dX5_moveHorizon_28 : decode cX5_moveHorizon 28 = .ok (.iconst 0, 1) := by decide +kernel
theorem dX5_moveHorizon_29 : decode cX5_moveHorizon 29 = .ok (.istore_n 3, 1) := by decide +kernel
theorem dX5_moveHorizon_30 : decode cX5_moveHorizon 30 = .ok (.iload_n 3, 1) := by decide +kernel
theorem dX5_moveHorizon_31 : decode cX5_moveHorizon 31 = .ok (.aload_n 0, 1) := by decide +kernel
theorem dX5_moveHorizon_32 : decode cX5_moveHorizon 32 = .ok (.getfield 43, 3) := by decide +kernel
theorem dX5_moveHorizon_35 : decode cX5_moveHorizon 35 = .ok (.if_icmp .ge 27, 3) := by decide +kernel
theorem dX5_moveHorizon_38 : decode cX5_moveHorizon 38 = .ok (.iload_n 2, 1) := by decide +kernel
theorem dX5_moveHorizon_39 : decode cX5_moveHorizon 39 = .ok (.aload_n 0, 1) := by decide +kernel
theorem dX5_moveHorizon_40 : decode cX5_moveHorizon 40 = .ok (.iload_n 3, 1) := by decide +kernel
theorem dX5_moveHorizon_41 : decode cX5_moveHorizon 41 = .ok (.invokevirtual 57, 3) := by decide +kernel
theorem dX5_moveHorizon_44 : decode cX5_moveHorizon 44 = .ok (.iload_n 1, 1) := by decide +kernel
theorem dX5_moveHorizon_45 : decode cX5_moveHorizon 45 = .ok (.aload_n 0, 1) := by decide +kernel
theorem dX5_moveHorizon_46 : decode cX5_moveHorizon 46 = .ok (.getfield 22, 3) := by decide +kernel
theorem dX5_moveHorizon_49 : decode cX5_moveHorizon 49 = .ok (.iload_n 1, 1) := by decide +kernel
theorem dX5_moveHorizon_50 : decode cX5_moveHorizon 50 = .ok (.iaload, 1) := by decide +kernel
theorem dX5_moveHorizon_51 : decode cX5_moveHorizon 51 = .ok (.invokevirtual 263, 3) := by decide +kernel
theorem dX5_moveHorizon_54 : decode cX5_moveHorizon 54 = .ok (.iadd, 1) := by decide +kernel
theorem dX5_moveHorizon_55 : decode cX5_moveHorizon 55 = .ok (.istore_n 2, 1) := by decide +kernel
theorem dX5_moveHorizon_56 : decode cX5_moveHorizon 56 = .ok (.iinc 3 1, 3) := by decide +kernel
theorem dX5_moveHorizon_59 : decode cX5_moveHorizon 59 = .ok (.goto (-29), 3) := by decide +kernel
theorem dX5_moveHorizon_62 : decode cX5_moveHorizon 62 = .ok (.iload_n 2, 1) := by decide +kernel
theorem dX5_moveHorizon_63 : decode cX5_moveHorizon 63 = .ok (.ireturn, 1) := by decide +kernel
set_option maxRecDepth 400000 in
theorem ggX5_summarize_X4_cut : GoodIn wsX5_summarize wsX4_cut := goodIn_r _ [10, 11, 12, 13, 14, 15, 16, 17, 18, 9, 19, 20, 21, 22, 23, 24, 96, 97, 98, 99, 100, 101] rfl (by decide +kernel)
set_option maxRecDepth 20000 in
theorem gX5_summarize_X4_cut : GoodIn wsX5_summarize (wsV RX5 191 RX4 yX4_cut wsX4_cut) := goodIn_app (goodIn_of _ (by decide +kernel)) ggX5_summarize_X4_cut
set_option maxRecDepth 400000 in
theorem ggX5_summarize_X4_hasExpiredPart : GoodIn wsX5_summarize wsX4_hasExpiredPart := goodIn_r _ [28, 11, 20, 14, 15, 13, 21, 12, 29, 30, 9, 31, 96, 97, 98, 99, 100, 101] rfl (by decide +kernel)
set_option maxRecDepth 20000 in
theorem gX5_summarize_X4_hasExpiredPart : GoodIn wsX5_summarize (wsV RX5 198 RX4 yX4_hasExpiredPart wsX4_hasExpiredPart) := goodIn_app (goodIn_of _ (by decide +kernel)) ggX5_summarize_X4_hasExpiredPart
set_option maxRecDepth 400000 in
theorem ggX5_summarize_X1_clear : GoodIn wsX5_summarize wsX1_clear := goodIn_r _ [36, 37, 38, 39, 102, 103, 104, 105, 106, 107, 108, 109] rfl (by decide +kernel)
set_option maxRecDepth 20000 in
theorem gX5_summarize_X1_clear : GoodIn wsX5_summarize (wsV RX5 207 RX1 yX1_clear wsX1_clear) := goodIn_app (goodIn_of _ (by decide +kernel)) ggX5_summarize_X1_clear
set_option maxRecDepth 400000 in
theorem ggX5_summarize_X3_addTo : GoodIn wsX5_summarize wsX3_addTo := goodIn_r _ [44, 45, 46, 47, 48, 49, 50, 51, 52, 53, 54, 55, 56, 57, 58, 59, 60, 61, 62, 63, 64, 65, 66, 67, 68, 69, 70, 71, 72, 35, 73, 37, 74, 75, 76, 77, 78, 79, 80, 81, 82, 83, 84, 38, 39, 85, 86, 87, 88, 110, 111, 112, 113, 114, 96, 97, 98, 99, 100, 101, 115, 116, 117, 102, 103, 104, 105, 106, 107, 108, 109] rfl (by decide +kernel)
set_option maxRecDepth 20000 in
theorem gX5_summarize_X3_addTo : GoodIn wsX5_summarize (wsV RX5 268 RX3 yX3_addTo wsX3_addTo) := goodIn_app (goodIn_of _ (by decide +kernel)) ggX5_summarize_X3_addTo
theorem dX5_summarize_0 : decode cX5_summarize 0 = .ok (.aload_n 0, 1) := by decide +kernel
theorem dX5_summarize_1 : decode cX5_summarize 1 = .ok (.getfield 28, 3) := by decide +kernel
theorem dX5_summarize_4 : decode cX5_summarize 4 = .ok (.iload_n 2, 1) := by decide +kernel
theorem dX5_summarize_5 : decode cX5_summarize 5 = .ok (.iload_n 3, 1) := by decide +kernel
theorem dX5_summarize_6 : decode cX5_summarize 6 = .ok (.invokevirtual 191, 3) := by decide +kernel
theorem dX5_summarize_9 : decode cX5_summarize 9 = .ok (.aload_n 0, 1) := by decide +kernel
theorem dX5_summarize_10 : decode cX5_summarize 10 = .ok (.getfield 28, 3) := by decide +kernel
theorem dX5_summarize_13 : decode cX5_summarize 13 = .ok (.aload_n 0, 1) := by decide +kernel
theorem dX5_summarize_14 : decode cX5_summarize 14 = .ok (.getfield 22, 3) := by decide +kernel
theorem dX5_summarize_17 : decode cX5_summarize 17 = .ok (.invokevirtual 198, 3) := by decide +kernel
theorem dX5_summarize_20 : decode cX5_summarize 20 = .ok (.ifCond .eq 14, 3) := by decide +kernel
theorem dX5_summarize_23 : decode cX5_summarize 23 = .ok (.new 47, 3) := by decide +kernel
theorem dX5_summarize_26 : decode cX5_summarize 26 = .ok (.dup, 1) := by decide +kernel
theorem dX5_summarize_27 : decode cX5_summarize 27 = .ok (.ldc_w 266, 3) := by decide +kernel
theorem dX5_summarize_30 : decode cX5_summarize 30 = .ok (.invokespecial 51, 3) := by decide +kernel
theorem dX5_summarize_33 : decode cX5_summarize 33 = .ok (.athrow, 1) := by decide +kernel
theorem dX5_summarize_34 : decode cX5_summarize 34 = .ok (.aload_n 0, 1) := by decide +kernel
theorem dX5_summarize_35 : decode cX5_summarize 35 = .ok (.getfield 35, 3) := by decide +kernel
theorem dX5_summarize_38 : decode cX5_summarize 38 = .ok (.invokevirtual 207, 3) := by decide +kernel
theorem dX5_summarize_41 : decode cX5_summarize 41 = .ok (.aload_n 1, 1) := by decide +kernel
theorem dX5_summarize_42 : decode cX5_summarize 42 = .ok (.aload_n 0, 1) := by decide +kernel
theorem dX5_summarize_43 : decode cX5_summarize 43 = .ok (.getfield 35, 3) := by decide +kernel
theorem dX5_summarize_46 : decode cX5_summarize 46 = .ok (.aload_n 0, 1) := by decide +kernel
theorem dX5_summarize_47 : decode cX5_summarize 47 = .ok (.getfield 28, 3) := by decide +kernel
theorem dX5_summarize_50 : decode cX5_summarize 50 = .ok (.invokevirtual 268, 3) := by decide +kernel
theorem dX5_summarize_53 : decode cX5_summarize 53 = .ok (.return_, 1) := by decide +kernel
set_option maxRecDepth 400000 in
theorem ggX5_increaseIn_X5_summarize : GoodIn wsX5_increaseIn wsX5_summarize := goodIn_ca (goodIn_r _ [10, 1, 2, 11, 12, 4, 13, 14, 15, 16, 17, 18, 19, 20, 21, 22, 23, 24, 25, 26, 27, 28, 29, 30, 31, 32, 33, 34, 35, 36, 37, 38, 39, 40, 41, 42, 43, 44, 45, 46, 47, 48, 49, 50, 51, 52, 53, 54, 55, 56, 57, 58, 59, 60, 61, 62, 63, 64, 65, 66, 67, 68, 69, 70, 71, 72, 73, 74, 75, 76, 77, 78, 79, 80, 81, 82, 83, 84, 85, 86, 87, 88, 89, 90, 91, 92, 93, 94, 95, 101, 102, 103, 104, 105, 106, 107, 116, 117, 118, 119, 120, 121, 108, 109, 110, 111, 112, 113, 114, 115, 96, 97, 98, 99, 100, 122, 123, 124] rfl (by decide +kernel)) (goodIn_sub (fun _ h => List.mem_cons_of_mem _ (List.mem_append_right _ h)) (by decide +kernel))
set_option maxRecDepth 20000 in
theorem gX5_increaseIn_X5_summarize : GoodIn wsX5_increaseIn (wsV RX5 202 RX5 yX5_summarize wsX5_summarize) := goodIn_app (goodIn_of _ (by decide +kernel)) ggX5_increaseIn_X5_summarize
theorem dX5_increaseIn_0 : decode cX5_increaseIn 0 = .ok (.aload_n 1, 1) := by decide +kernel
theorem dX5_increaseIn_1 : decode cX5_increaseIn 1 = .ok (.getfield 237, 3) := by decide +kernel
theorem dX5_increaseIn_4 : decode cX5_increaseIn 4 = .ok (.iconst 1, 1) := by decide +kernel
theorem dX5_increaseIn_5 : decode cX5_increaseIn 5 = .ok (.if_icmp .eq 14, 3) := by decide +kernel
theorem dX5_increaseIn_8 : decode cX5_increaseIn 8 = .ok (.new 47, 3) := by decide +kernel
theorem dX5_increaseIn_11 : decode cX5_increaseIn 11 = .ok (.dup, 1) := by decide +kernel
theorem dX5_increaseIn_12 : decode cX5_increaseIn 12 = .ok (.ldc_w 271, 3) := by decide +kernel
theorem dX5_increaseIn_15 : decode cX5_increaseIn 15 = .ok (.invokespecial 51, 3) := by decide +kernel
theorem dX5_increaseIn_18 : decode cX5_increaseIn 18 = .ok (.athrow, 1) := by decide +kernel
theorem dX5_increaseIn_19 : decode cX5_increaseIn 19 = .ok (.aload_n 0, 1) := by decide +kernel
theorem dX5_increaseIn_20 : decode cX5_increaseIn 20 = .ok (.aload_n 1, 1) := by decide +kernel
theorem dX5_increaseIn_21 : decode cX5_increaseIn 21 = .ok (.iload_n 2, 1) := by decide +kernel
theorem dX5_increaseIn_22 : decode cX5_increaseIn 22 = .ok (.iload_n 3, 1) := by decide +kernel
theorem dX5_increaseIn_23 : decode cX5_increaseIn 23 = .ok (.invokevirtual 202, 3) := by decide +kernel
theorem dX5_increaseIn_26 : decode cX5_increaseIn 26 = .ok (.aload_n 0, 1) := by decide +kernel
theorem dX5_increaseIn_27 : decode cX5_increaseIn 27 = .ok (.getfield 35, 3) := by decide +kernel
theorem dX5_increaseIn_30 : decode cX5_increaseIn 30 = .ok (.getfield 273, 3) := by decide +kernel
theorem dX5_increaseIn_33 : decode cX5_increaseIn 33 = .ok (.lreturn, 1) := by decide +kernel
theorem dJ9_max_7cf53_0 : decode cJ9_max_7cf53 0 = .ok (.iload_n 0, 1) := by decide +kernel
theorem dJ9_max_7cf53_1 : decode cJ9_max_7cf53 1 = .ok (.iload_n 1, 1) := by decide +kernel
theorem dJ9_max_7cf53_2 : decode cJ9_max_7cf53 2 = .ok (.if_icmp .lt 7, 3) := by decide +kernel
theorem dJ9_max_7cf53_5 : decode cJ9_max_7cf53 5 = .ok (.iload_n 0, 1) := by decide +kernel
theorem dJ9_max_7cf53_6 : decode cJ9_max_7cf53 6 = .ok (.goto 4, 3) := by decide +kernel
theorem dJ9_max_7cf53_9 : decode cJ9_max_7cf53 9 = .ok (.iload_n 1, 1) := by decide +kernel
theorem dJ9_max_7cf53_10 : decode cJ9_max_7cf53 10 = .ok (.ireturn, 1) := by decide +kernel
theorem dJ9_min_7cf53_0 : decode cJ9_min_7cf53 0 = .ok (.iload_n 0, 1) := by decide +kernel
theorem dJ9_min_7cf53_1 : decode cJ9_min_7cf53 1 = .ok (.iload_n 1, 1) := by decide +kernel
theorem dJ9_min_7cf53_2 : decode cJ9_min_7cf53 2 = .ok (.if_icmp .gt 7, 3) := by decide +kernel
theorem dJ9_min_7cf53_5 : decode cJ9_min_7cf53 5 = .ok (.iload_n 0, 1) := by decide +kernel
theorem dJ9_min_7cf53_6 : decode cJ9_min_7cf53 6 = .ok (.goto 4, 3) := by decide +kernel
theorem dJ9_min_7cf53_9 : decode cJ9_min_7cf53 9 = .ok (.iload_n 1, 1) := by decide +kernel
theorem dJ9_min_7cf53_10 : decode cJ9_min_7cf53 10 = .ok (.ireturn, 1) := by decide +kernel
theorem dL_draw_0 : decode cL_draw 0 = .ok (.iload_n 1, 1) := by decide +kernel
theorem dL_draw_1 : decode cL_draw 1 = .ok (.aload_n 0, 1) := by decide +kernel
theorem dL_draw_2 : decode cL_draw 2 = .ok (.arraylength, 1) := by decide +kernel
theorem dL_draw_3 : decode cL_draw 3 = .ok (.if_icmp .ge 9, 3) := by decide +kernel
theorem dL_draw_6 : decode cL_draw 6 = .ok (.aload_n 0, 1) := by decide +kernel
theorem dL_draw_7 : decode cL_draw 7 = .ok (.iload_n 1, 1) := by decide +kernel
theorem dL_draw_8 : decode cL_draw 8 = .ok (.iaload, 1) := by decide +kernel
theorem dL_draw_9 : decode cL_draw 9 = .ok (.goto 12, 3) := by decide +kernel
theorem dL_draw_12 : decode cL_draw 12 = .ok (.ldc 7, 2) := by decide +kernel
theorem dL_draw_14 : decode cL_draw 14 = .ok (.iload_n 1, 1) := by decide +kernel
theorem dL_draw_15 : decode cL_draw 15 = .ok (.iconst 4, 1) := by decide +kernel
theorem dL_draw_16 : decode cL_draw 16 = .ok (.iadd, 1) := by decide +kernel
theorem dL_draw_17 : decode cL_draw 17 = .ok (.imul, 1) := by decide +kernel
theorem dL_draw_18 : decode cL_draw 18 = .ok (.ldc 8, 2) := by decide +kernel
theorem dL_draw_20 : decode cL_draw 20 = .ok (.iadd, 1) := by decide +kernel
theorem dL_draw_21 : decode cL_draw 21 = .ok (.istore_n 3, 1) := by decide +kernel
theorem dL_draw_22 : decode cL_draw 22 = .ok (.iload_n 3, 1) := by decide +kernel
theorem dL_draw_23 : decode cL_draw 23 = .ok (.ldc 9, 2) := by decide +kernel
theorem dL_draw_25 : decode cL_draw 25 = .ok (.iand, 1) := by decide +kernel
theorem dL_draw_26 : decode cL_draw 26 = .ok (.iload_n 2, 1) := by decide +kernel
theorem dL_draw_27 : decode cL_draw 27 = .ok (.irem, 1) := by decide +kernel
theorem dL_draw_28 : decode cL_draw 28 = .ok (.ireturn, 1) := by decide +kernel
theorem dL_length_0 : decode cL_length 0 = .ok (.iload_n 0, 1) := by decide +kernel
theorem dL_length_1 : decode cL_length 1 = .ok (.ifCond .ne 7, 3) := by decide +kernel
theorem dL_length_4 : decode cL_length 4 = .ok (.iconst 1, 1) := by decide +kernel
theorem dL_length_5 : decode cL_length 5 = .ok (.goto 26, 3) := by decide +kernel
theorem dL_length_8 : decode cL_length 8 = .ok (.iload_n 0, 1) := by decide +kernel
theorem dL_length_9 : decode cL_length 9 = .ok (.iconst 1, 1) := by decide +kernel
theorem dL_length_10 : decode cL_length 10 = .ok (.if_icmp .ne 8, 3) := by decide +kernel
theorem dL_length_13 : decode cL_length 13 = .ok (.bipush 60, 2) := by decide +kernel
theorem dL_length_15 : decode cL_length 15 = .ok (.goto 16, 3) := by decide +kernel
theorem dL_length_18 : decode cL_length 18 = .ok (.iload_n 0, 1) := by decide +kernel
theorem dL_length_19 : decode cL_length 19 = .ok (.iconst 2, 1) := by decide +kernel
theorem dL_length_20 : decode cL_length 20 = .ok (.if_icmp .ne 9, 3) := by decide +kernel
theorem dL_length_23 : decode cL_length 23 = .ok (.sipush 3600, 3) := by decide +kernel
theorem dL_length_26 : decode cL_length 26 = .ok (.goto 5, 3) := by decide +kernel
theorem dL_length_29 : decode cL_length 29 = .ok (.ldc 10, 2) := by decide +kernel
theorem dL_length_31 : decode cL_length 31 = .ok (.ireturn, 1) := by decide +kernel
set_option maxRecDepth 400000 in
theorem ggL_isGone_L_length : GoodIn wsL_isGone wsL_length := goodIn_r _ [4, 5] rfl (by decide +kernel)
set_option maxRecDepth 20000 in
theorem gL_isGone_L_length : GoodIn wsL_isGone (va_wsS RL 11 yL_length wsL_length) := goodIn_app (goodIn_of _ (by decide +kernel)) ggL_isGone_L_length
theorem dL_isGone_0 : decode cL_isGone 0 = .ok (.lload_n 2, 1) := by decide +kernel
theorem dL_isGone_1 : decode cL_isGone 1 = .ok (.iload_n 1, 1) := by decide +kernel
theorem dL_isGone_2 : decode cL_isGone 2 = .ok (.invokestatic 11, 3) := by decide +kernel
theorem dL_isGone_5 : decode cL_isGone 5 = .ok (.i2l, 1) := by decide +kernel
theorem dL_isGone_6 : decode cL_isGone 6 = .ok (.ladd, 1) := by decide +kernel
theorem dL_isGone_7 : decode cL_isGone 7 = .ok (.aload_n 0, 1) := by decide +kernel
theorem dL_isGone_8 : decode cL_isGone 8 = .ok (.bipush 6, 2) := by decide +kernel
theorem dL_isGone_10 : decode cL_isGone 10 = .ok (.iload_n 1, 1) := by decide +kernel
theorem dL_isGone_11 : decode cL_isGone 11 = .ok (.iadd, 1) := by decide +kernel
theorem dL_isGone_12 : decode cL_isGone 12 = .ok (.iaload, 1) := by decide +kernel
theorem dL_isGone_13 : decode cL_isGone 13 = .ok (.i2l, 1) := by decide +kernel
theorem dL_isGone_14 : decode cL_isGone 14 = .ok (.lcmp, 1) := by decide +kernel
theorem dL_isGone_15 : decode cL_isGone 15 = .ok (.ifCond .gt 7, 3) := by decide +kernel
theorem dL_isGone_18 : decode cL_isGone 18 = .ok (.iconst 1, 1) := by decide +kernel
theorem dL_isGone_19 : decode cL_isGone 19 = .ok (.goto 4, 3) := by decide +kernel
theorem dL_isGone_22 : decode cL_isGone 22 = .ok (.iconst 0, 1) := by decide +kernel
theorem dL_isGone_23 : decode cL_isGone 23 = .ok (.ireturn, 1) := by decide +kernel
set_option maxRecDepth 400000 in
theorem ggL_put_X5_put : GoodIn wsL_put wsX5_put := goodIn_ca (goodIn_ca (goodIn_ca (goodIn_r _ [7, 8, 9, 10, 6, 11, 12, 13, 14, 15, 16, 17, 18, 19, 20, 21, 22, 23, 24, 25, 26, 27, 28, 29, 30, 31, 32, 33, 34, 35, 36, 37, 38, 39, 40, 41, 42, 43, 44, 45, 46, 47, 48, 49, 50, 51, 52, 53, 54, 55, 56, 57, 58, 59, 60, 61, 62, 63, 64, 65, 66, 67, 68, 69, 70, 71, 72, 73, 74, 75, 76, 77, 78, 79, 80, 81, 82, 83, 84, 85, 86, 87, 88, 89, 90, 91, 92, 93, 94, 95, 96, 97, 98, 99, 100, 101, 102, 103, 104, 105, 106, 107, 108, 109, 110, 111, 112, 113, 114, 115, 116, 117, 118, 119, 120, 121, 122, 123, 124, 125, 126, 127, 128, 129, 130, 131, 132, 133, 134, 135, 136, 137, 138, 139, 140, 141, 142, 143, 144, 145, 146, 147, 148, 149, 150, 151, 152, 153, 154, 155, 156, 157, 158, 159, 160, 161, 162, 163, 164, 165, 166, 167, 168, 169, 170, 171, 172, 173, 174, 175, 176, 177, 178, 179, 180, 181, 182, 183, 184, 185, 186, 187, 188, 189, 190, 191, 192, 193, 194] rfl (by decide +kernel)) (goodIn_sub (fun _ h => List.mem_cons_of_mem _ (List.mem_append_left _ (List.mem_append_left _ (List.mem_append_right _ h)))) (by decide +kernel))) (goodIn_sub (fun _ h => List.mem_cons_of_mem _ (List.mem_append_left _ (List.mem_append_right _ h))) (by decide +kernel))) (goodIn_sub (fun _ h => List.mem_cons_of_mem _ (List.mem_append_right _ h)) (by decide +kernel))
set_option maxRecDepth 20000 in
theorem gL_put_X5_put : GoodIn wsL_put (wsV RL 17 RX5 yX5_put wsX5_put) := goodIn_app (goodIn_of _ (by decide +kernel)) ggL_put_X5_put
theorem dL_put_0 : decode cL_put 0 = .ok (.aload_n 0, 1) := by decide +kernel
theorem dL_put_1 : decode cL_put 1 = .ok (.iload_n 1, 1) := by decide +kernel
theorem dL_put_2 : decode cL_put 2 = .ok (.iload_n 2, 1) := by decide +kernel
theorem dL_put_3 : decode cL_put 3 = .ok (.iload_n 3, 1) := by decide +kernel
theorem dL_put_4 : decode cL_put 4 = .ok (.invokevirtual 17, 3) := by decide +kernel
theorem dL_put_7 : decode cL_put 7 = .ok (.ifCond .eq 7, 3) := by decide +kernel
theorem dL_put_10 : decode cL_put 10 = .ok (.iconst 1, 1) := by decide +kernel
theorem dL_put_11 : decode cL_put 11 = .ok (.goto 4, 3) := by decide +kernel
theorem dL_put_14 : decode cL_put 14 = .ok (.iconst 0, 1) := by decide +kernel
theorem dL_put_15 : decode cL_put 15 = .ok (.ireturn, 1) := by decide +kernel
theorem dL_put_16 : decode cL_put 16 = .ok (.astore 4, 2) := by decide +kernel
theorem dL_put_18 : decode cL_put 18 = .ok (.iconst (-1), 1) := by decide +kernel
theorem dL_put_19 : decode cL_put 19 = .ok (.ireturn, 1) := by decide +kernel
theorem dL_put_20 : decode cL_put 20 = .ok (.astore 4, 2) := by decide +kernel
theorem dL_put_22 : decode cL_put 22 = .ok (.bipush (-2), 2) := by decide +kernel
theorem dL_put_24 : decode cL_put 24 = .ok (.ireturn, 1) := by decide +kernel
set_option maxRecDepth 400000 in
theorem ggL_valueAt_X5_valueAt : GoodIn wsL_valueAt wsX5_valueAt := goodIn_ca (goodIn_ca (goodIn_r _ [7, 8, 9, 10, 11, 12, 6, 13, 14, 15, 16, 17, 18, 19, 20, 21, 22, 23, 24, 25, 26, 27, 28, 29, 30, 31, 32, 33, 34, 35, 36, 37, 38, 39, 40, 41, 42, 43, 44, 45, 46, 47, 48] rfl (by decide +kernel)) (goodIn_sub (fun _ h => List.mem_cons_of_mem _ (List.mem_append_left _ (List.mem_append_right _ h))) (by decide +kernel))) (goodIn_sub (fun _ h => List.mem_cons_of_mem _ (List.mem_append_right _ h)) (by decide +kernel))
set_option maxRecDepth 20000 in
theorem gL_valueAt_X5_valueAt : GoodIn wsL_valueAt (wsV RL 27 RX5 yX5_valueAt wsX5_valueAt) := goodIn_app (goodIn_of _ (by decide +kernel)) ggL_valueAt_X5_valueAt
theorem dL_valueAt_0 : decode cL_valueAt 0 = .ok (.aload_n 0, 1) := by decide +kernel
theorem dL_valueAt_1 : decode cL_valueAt 1 = .ok (.iload_n 1, 1) := by decide +kernel
theorem dL_valueAt_2 : decode cL_valueAt 2 = .ok (.iload_n 2, 1) := by decide +kernel
theorem dL_valueAt_3 : decode cL_valueAt 3 = .ok (.invokevirtual 27, 3) := by decide +kernel
theorem dL_valueAt_6 : decode cL_valueAt 6 = .ok (.ireturn, 1) := by decide +kernel
theorem dL_valueAt_7 : decode cL_valueAt 7 = .ok (.astore_n 3, 1) := by decide +kernel
theorem dL_valueAt_8 : decode cL_valueAt 8 = .ok (.ldc 31, 2) := by decide +kernel
theorem dL_valueAt_10 : decode cL_valueAt 10 = .ok (.ireturn, 1) := by decide +kernel
set_option maxRecDepth 400000 in
theorem ggL_filled_X5_filled : GoodIn wsL_filled wsX5_filled := goodIn_ca (goodIn_ca (goodIn_ca (goodIn_r _ [7, 8, 9, 10, 11, 12, 13, 14, 6, 15, 16, 17, 18, 19, 20, 21, 22, 23, 24, 25, 26, 27, 28, 29, 30, 31, 32, 33, 34, 35, 36, 37, 38, 39, 40, 41, 42, 43, 44, 45, 46, 47, 48, 49, 50, 51, 52, 53, 54, 55, 56, 57, 58, 59, 60, 61, 62, 63, 64, 65, 66, 67, 68, 69, 70, 71, 72, 73, 74, 75, 76, 77, 78, 79, 80, 81, 82, 83, 84, 85, 86] rfl (by decide +kernel)) (goodIn_sub (fun _ h => List.mem_cons_of_mem _ (List.mem_append_left _ (List.mem_append_left _ (List.mem_append_right _ h)))) (by decide +kernel))) (goodIn_sub (fun _ h => List.mem_cons_of_mem _ (List.mem_append_left _ (List.mem_append_right _ h))) (by decide +kernel))) (goodIn_sub (fun _ h => List.mem_cons_of_mem _ (List.mem_append_right _ h)) (by decide +kernel))
set_option maxRecDepth 20000 in
theorem gL_filled_X5_filled : GoodIn wsL_filled (wsV RL 32 RX5 yX5_filled wsX5_filled) := goodIn_app (goodIn_of _ (by decide +kernel)) ggL_filled_X5_filled
theorem dL_filled_0 : decode cL_filled 0 = .ok (.aload_n 0, 1) := by decide +kernel
theorem dL_filled_1 : decode cL_filled 1 = .ok (.iload_n 1, 1) := by decide +kernel
theorem dL_filled_2 : decode cL_filled 2 = .ok (.iload_n 2, 1) := by decide +kernel
theorem dL_filled_3 : decode cL_filled 3 = .ok (.iload_n 3, 1) := by decide +kernel
theorem dL_filled_4 : decode cL_filled 4 = .ok (.iload 4, 2) := by decide +kernel
theorem dL_filled_6 : decode cL_filled 6 = .ok (.invokevirtual 32, 3) := by decide +kernel
theorem dL_filled_9 : decode cL_filled 9 = .ok (.ireturn, 1) := by decide +kernel
theorem dL_filled_10 : decode cL_filled 10 = .ok (.astore 5, 2) := by decide +kernel
theorem dL_filled_12 : decode cL_filled 12 = .ok (.ldc 31, 2) := by decide +kernel
theorem dL_filled_14 : decode cL_filled 14 = .ok (.ireturn, 1) := by decide +kernel
set_option maxRecDepth 400000 in
theorem ggL_allRows_X5_rows : GoodIn wsL_allRows wsX5_rows := goodIn_ca (goodIn_ca (goodIn_r _ [5, 6, 7, 8, 4, 9, 10, 11, 12, 13, 14, 15, 16, 17, 18, 19, 20, 21, 22, 23, 24, 25, 26, 27, 28, 29, 30, 31, 32, 33, 34, 35, 36, 37, 38, 39, 40, 41, 42, 43, 44, 45, 46, 47, 48, 49, 50, 51] rfl (by decide +kernel)) (goodIn_sub (fun _ h => List.mem_cons_of_mem _ (List.mem_append_left _ (List.mem_append_right _ h))) (by decide +kernel))) (goodIn_sub (fun _ h => List.mem_cons_of_mem _ (List.mem_append_right _ h)) (by decide +kernel))
set_option maxRecDepth 20000 in
theorem gL_allRows_X5_rows : GoodIn wsL_allRows (wsV RL 36 RX5 yX5_rows wsX5_rows) := goodIn_app (goodIn_of _ (by decide +kernel)) ggL_allRows_X5_rows
theorem dL_allRows_0 : decode cL_allRows 0 = .ok (.iconst 0, 1) := by decide +kernel
theorem dL_allRows_1 : decode cL_allRows 1 = .ok (.istore_n 1, 1) := by decide +kernel
theorem dL_allRows_2 : decode cL_allRows 2 = .ok (.iconst 0, 1) := by decide +kernel
theorem dL_allRows_3 : decode cL_allRows 3 = .ok (.istore_n 2, 1) := by decide +kernel
theorem dL_allRows_4 : decode cL_allRows 4 = .ok (.iload_n 2, 1) := by decide +kernel
theorem dL_allRows_5 : decode cL_allRows 5 = .ok (.bipush 8, 2) := by decide +kernel
theorem dL_allRows_7 : decode cL_allRows 7 = .ok (.if_icmp .ge 22, 3) := by decide +kernel
theorem dL_allRows_10 : decode cL_allRows 10 = .ok (.iload_n 1, 1) := by decide +kernel
theorem dL_allRows_11 : decode cL_allRows 11 = .ok (.aload_n 0, 1) := by decide +kernel
theorem dL_allRows_12 : decode cL_allRows 12 = .ok (.iload_n 2, 1) := by decide +kernel
theorem dL_allRows_13 : decode cL_allRows 13 = .ok (.iconst 4, 1) := by decide +kernel
theorem dL_allRows_14 : decode cL_allRows 14 = .ok (.idiv, 1) := by decide +kernel
theorem dL_allRows_15 : decode cL_allRows 15 = .ok (.iload_n 2, 1) := by decide +kernel
theorem dL_allRows_16 : decode cL_allRows 16 = .ok (.iconst 4, 1) := by decide +kernel
theorem dL_allRows_17 : decode cL_allRows 17 = .ok (.irem, 1) := by decide +kernel
theorem dL_allRows_18 : decode cL_allRows 18 = .ok (.invokevirtual 36, 3) := by decide +kernel
theorem dL_allRows_21 : decode cL_allRows 21 = .ok (.iadd, 1) := by decide +kernel
theorem dL_allRows_22 : decode cL_allRows 22 = .ok (.istore_n 1, 1) := by decide +kernel
theorem dL_allRows_23 : decode cL_allRows 23 = .ok (.iinc 2 1, 3) := by decide +kernel
theorem dL_allRows_26 : decode cL_allRows 26 = .ok (.goto (-22), 3) := by decide +kernel
theorem dL_allRows_29 : decode cL_allRows 29 = .ok (.iload_n 1, 1) := by decide +kernel
theorem dL_allRows_30 : decode cL_allRows 30 = .ok (.ireturn, 1) := by decide +kernel
set_option maxRecDepth 400000 in
theorem ggL_tale_X5_rows : GoodIn wsL_tale wsX5_rows := goodIn_ca (goodIn_ca (goodIn_r _ [6, 7, 8, 9, 5, 10, 11, 12, 13, 14, 15, 16, 17, 18, 19, 20, 21, 22, 23, 24, 25, 26, 27, 28, 29, 30, 31, 32, 33, 34, 124, 125, 126, 127, 128, 129, 130, 131, 132, 133, 134, 135, 136, 137, 138, 139, 140, 141] rfl (by decide +kernel)) (goodIn_sub (fun _ h => List.mem_cons_of_mem _ (List.mem_append_left _ (List.mem_append_left _ (List.mem_append_right _ h)))) (by decide +kernel))) (goodIn_sub (fun _ h => List.mem_cons_of_mem _ (List.mem_append_left _ (List.mem_append_right _ h))) (by decide +kernel))
set_option maxRecDepth 20000 in
theorem gL_tale_X5_rows : GoodIn wsL_tale (wsV RL 36 RX5 yX5_rows wsX5_rows) := goodIn_app (goodIn_of _ (by decide +kernel)) ggL_tale_X5_rows
set_option maxRecDepth 400000 in
theorem ggL_tale_X5_timeOf : GoodIn wsL_tale wsX5_timeOf := goodIn_ca (goodIn_ca (goodIn_ca (goodIn_r _ [38, 39, 40, 41, 42, 7, 8, 9, 5, 10, 11, 12, 13, 14, 15, 16, 17, 18, 19, 43, 44, 45, 46, 47, 48, 29, 30, 23, 31, 32, 33, 34, 49, 50, 51, 52, 53, 54, 55, 131, 132, 133, 134, 135, 142, 143, 144, 145, 146, 147, 148, 149, 124, 125, 126, 127, 128, 129, 130, 136, 137, 138, 139, 140, 141] rfl (by decide +kernel)) (goodIn_sub (fun _ h => List.mem_cons_of_mem _ (List.mem_append_right _ h)) (by decide +kernel))) (goodIn_sub (fun _ h => List.mem_cons_of_mem _ (List.mem_append_left _ (List.mem_append_left _ (List.mem_append_right _ h)))) (by decide +kernel))) (goodIn_sub (fun _ h => List.mem_cons_of_mem _ (List.mem_append_left _ (List.mem_append_right _ h))) (by decide +kernel))
set_option maxRecDepth 20000 in
theorem gL_tale_X5_timeOf : GoodIn wsL_tale (wsV RL 39 RX5 yX5_timeOf wsX5_timeOf) := goodIn_app (goodIn_of _ (by decide +kernel)) ggL_tale_X5_timeOf
set_option maxRecDepth 400000 in
theorem ggL_tale_X5_valueAt : GoodIn wsL_tale wsX5_valueAt := goodIn_ca (goodIn_ca (goodIn_r _ [59, 41, 60, 7, 8, 9, 5, 10, 11, 12, 13, 14, 61, 62, 63, 39, 40, 64, 65, 66, 67, 68, 69, 70, 71, 72, 73, 74, 131, 132, 133, 134, 135, 136, 137, 138, 124, 125, 126, 127, 128, 129, 130] rfl (by decide +kernel)) (goodIn_sub (fun _ h => List.mem_cons_of_mem _ (List.mem_append_left _ (List.mem_append_left _ (List.mem_append_right _ h)))) (by decide +kernel))) (goodIn_sub (fun _ h => List.mem_cons_of_mem _ (List.mem_append_right _ h)) (by decide +kernel))
set_option maxRecDepth 20000 in
theorem gL_tale_X5_valueAt : GoodIn wsL_tale (wsV RL 27 RX5 yX5_valueAt wsX5_valueAt) := goodIn_app (goodIn_of _ (by decide +kernel)) ggL_tale_X5_valueAt
set_option maxRecDepth 400000 in
theorem ggL_tale_X5_sum : GoodIn wsL_tale wsX5_sum := goodIn_ca (goodIn_ca (goodIn_ca (goodIn_r _ [78, 79, 80, 81, 82, 5, 83, 39, 40, 84, 85, 86, 87, 88, 89, 90, 91, 18, 19, 7, 8, 9, 10, 11, 12, 13, 14, 15, 16, 17, 48, 29, 30, 23, 31, 32, 33, 34, 92, 93, 94, 95, 96, 97, 98, 99, 100, 101, 52, 102, 103, 104, 105, 106, 107, 108, 50, 51, 53, 54, 55, 142, 143, 144, 145, 146, 147, 148, 149, 124, 125, 126, 127, 128, 129, 130, 131, 132, 133, 134, 135, 139, 140, 141] rfl (by decide +kernel)) (goodIn_sub (fun _ h => List.mem_cons_of_mem _ (List.mem_append_right _ h)) (by decide +kernel))) (goodIn_sub (fun _ h => List.mem_cons_of_mem _ (List.mem_append_left _ (List.mem_append_right _ h))) (by decide +kernel))) (goodIn_sub (fun _ h => List.mem_cons_of_mem _ (List.mem_append_left _ (List.mem_append_left _ (List.mem_append_right _ h)))) (by decide +kernel))
set_option maxRecDepth 20000 in
theorem gL_tale_X5_sum : GoodIn wsL_tale (wsV RL 45 RX5 yX5_sum wsX5_sum) := goodIn_app (goodIn_of _ (by decide +kernel)) ggL_tale_X5_sum
set_option maxRecDepth 400000 in
theorem ggL_tale_X5_count : GoodIn wsL_tale wsX5_count := goodIn_ca (goodIn_ca (goodIn_ca (goodIn_r _ [112, 113, 80, 81, 82, 5, 83, 39, 40, 84, 85, 86, 87, 88, 89, 90, 91, 18, 19, 7, 8, 9, 10, 11, 12, 13, 14, 15, 16, 17, 48, 29, 30, 23, 31, 32, 33, 34, 92, 93, 94, 95, 96, 97, 98, 99, 100, 101, 52, 102, 103, 104, 105, 106, 107, 108, 50, 51, 53, 54, 55, 142, 143, 144, 145, 146, 147, 148, 149, 124, 125, 126, 127, 128, 129, 130, 131, 132, 133, 134, 135, 139, 140, 141] rfl (by decide +kernel)) (goodIn_sub (fun _ h => List.mem_cons_of_mem _ (List.mem_append_right _ h)) (by decide +kernel))) (goodIn_sub (fun _ h => List.mem_cons_of_mem _ (List.mem_append_left _ (List.mem_append_right _ h))) (by decide +kernel))) (goodIn_sub (fun _ h => List.mem_cons_of_mem _ (List.mem_append_left _ (List.mem_append_left _ (List.mem_append_right _ h)))) (by decide +kernel))
set_option maxRecDepth 20000 in
theorem gL_tale_X5_count : GoodIn wsL_tale (wsV RL 49 RX5 yX5_count wsX5_count) := goodIn_app (goodIn_of _ (by decide +kernel)) ggL_tale_X5_count
set_option maxRecDepth 400000 in
theorem ggL_tale_X5_first : GoodIn wsL_tale wsX5_first := goodIn_ca (goodIn_ca (goodIn_ca (goodIn_r _ [117, 118, 80, 81, 82, 5, 83, 39, 40, 84, 85, 86, 87, 88, 89, 90, 91, 18, 19, 7, 8, 9, 10, 11, 12, 13, 14, 15, 16, 17, 48, 29, 30, 23, 31, 32, 33, 34, 92, 93, 94, 95, 96, 97, 98, 99, 100, 101, 52, 102, 103, 104, 105, 106, 107, 108, 50, 51, 53, 54, 55, 142, 143, 144, 145, 146, 147, 148, 149, 124, 125, 126, 127, 128, 129, 130, 131, 132, 133, 134, 135, 139, 140, 141] rfl (by decide +kernel)) (goodIn_sub (fun _ h => List.mem_cons_of_mem _ (List.mem_append_right _ h)) (by decide +kernel))) (goodIn_sub (fun _ h => List.mem_cons_of_mem _ (List.mem_append_left _ (List.mem_append_right _ h))) (by decide +kernel))) (goodIn_sub (fun _ h => List.mem_cons_of_mem _ (List.mem_append_left _ (List.mem_append_left _ (List.mem_append_right _ h)))) (by decide +kernel))
set_option maxRecDepth 20000 in
theorem gL_tale_X5_first : GoodIn wsL_tale (wsV RL 52 RX5 yX5_first wsX5_first) := goodIn_app (goodIn_of _ (by decide +kernel)) ggL_tale_X5_first
set_option maxRecDepth 400000 in
theorem ggL_tale_X5_last : GoodIn wsL_tale wsX5_last := goodIn_ca (goodIn_ca (goodIn_ca (goodIn_r _ [122, 123, 80, 81, 82, 5, 83, 39, 40, 84, 85, 86, 87, 88, 89, 90, 91, 18, 19, 7, 8, 9, 10, 11, 12, 13, 14, 15, 16, 17, 48, 29, 30, 23, 31, 32, 33, 34, 92, 93, 94, 95, 96, 97, 98, 99, 100, 101, 52, 102, 103, 104, 105, 106, 107, 108, 50, 51, 53, 54, 55, 142, 143, 144, 145, 146, 147, 148, 149, 124, 125, 126, 127, 128, 129, 130, 131, 132, 133, 134, 135, 139, 140, 141] rfl (by decide +kernel)) (goodIn_sub (fun _ h => List.mem_cons_of_mem _ (List.mem_append_right _ h)) (by decide +kernel))) (goodIn_sub (fun _ h => List.mem_cons_of_mem _ (List.mem_append_left _ (List.mem_append_right _ h))) (by decide +kernel))) (goodIn_sub (fun _ h => List.mem_cons_of_mem _ (List.mem_append_left _ (List.mem_append_left _ (List.mem_append_right _ h)))) (by decide +kernel))
set_option maxRecDepth 20000 in
theorem gL_tale_X5_last : GoodIn wsL_tale (wsV RL 55 RX5 yX5_last wsX5_last) := goodIn_app (goodIn_of _ (by decide +kernel)) ggL_tale_X5_last
theorem dL_tale_0 : decode cL_tale 0 = .ok (.aload_n 0, 1) := by decide +kernel
theorem dL_tale_1 : decode cL_tale 1 = .ok (.iload_n 1, 1) := by decide +kernel
theorem dL_tale_2 : decode cL_tale 2 = .ok (.iconst 0, 1) := by decide +kernel
theorem dL_tale_3 : decode cL_tale 3 = .ok (.invokevirtual 36, 3) := by decide +kernel
theorem dL_tale_6 : decode cL_tale 6 = .ok (.i2l, 1) := by decide +kernel
theorem dL_tale_7 : decode cL_tale 7 = .ok (.lstore_n 2, 1) := by decide +kernel
theorem dL_tale_8 : decode cL_tale 8 = .ok (.iconst 0, 1) := by decide +kernel
theorem dL_tale_9 : decode cL_tale 9 = .ok (.istore 4, 2) := by decide +kernel
theorem dL_tale_11 : decode cL_tale 11 = .ok (.iload 4, 2) := by decide +kernel
theorem dL_tale_13 : decode cL_tale 13 = .ok (.aload_n 0, 1) := by decide +kernel
theorem dL_tale_14 : decode cL_tale 14 = .ok (.iload_n 1, 1) := by decide +kernel
theorem dL_tale_15 : decode cL_tale 15 = .ok (.iconst 0, 1) := by decide +kernel
theorem dL_tale_16 : decode cL_tale 16 = .ok (.invokevirtual 36, 3) := by decide +kernel
theorem dL_tale_19 : decode cL_tale 19 = .ok (.if_icmp .ge 42, 3) := by decide +kernel
theorem dL_tale_22 : decode cL_tale 22 = .ok (.aload_n 0, 1) := by decide +kernel
theorem dL_tale_23 : decode cL_tale 23 = .ok (.iload_n 1, 1) := by decide +kernel
theorem dL_tale_24 : decode cL_tale 24 = .ok (.iconst 0, 1) := by decide +kernel
theorem dL_tale_25 : decode cL_tale 25 = .ok (.iload 4, 2) := by decide +kernel
theorem dL_tale_27 : decode cL_tale 27 = .ok (.invokevirtual 39, 3) := by decide +kernel
theorem dL_tale_30 : decode cL_tale 30 = .ok (.istore 5, 2) := by decide +kernel
theorem dL_tale_32 : decode cL_tale 32 = .ok (.ldc2_w 43, 3) := by decide +kernel
theorem dL_tale_35 : decode cL_tale 35 = .ok (.ldc2_w 43, 3) := by decide +kernel
theorem dL_tale_38 : decode cL_tale 38 = .ok (.lload_n 2, 1) := by decide +kernel
theorem dL_tale_39 : decode cL_tale 39 = .ok (.lmul, 1) := by decide +kernel
theorem dL_tale_40 : decode cL_tale 40 = .ok (.iload 5, 2) := by decide +kernel
theorem dL_tale_42 : decode cL_tale 42 = .ok (.i2l, 1) := by decide +kernel
theorem dL_tale_43 : decode cL_tale 43 = .ok (.ladd, 1) := by decide +kernel
theorem dL_tale_44 : decode cL_tale 44 = .ok (.lmul, 1) := by decide +kernel
theorem dL_tale_45 : decode cL_tale 45 = .ok (.aload_n 0, 1) := by decide +kernel
theorem dL_tale_46 : decode cL_tale 46 = .ok (.iload_n 1, 1) := by decide +kernel
theorem dL_tale_47 : decode cL_tale 47 = .ok (.iload 5, 2) := by decide +kernel
theorem dL_tale_49 : decode cL_tale 49 = .ok (.invokevirtual 27, 3) := by decide +kernel
theorem dL_tale_52 : decode cL_tale 52 = .ok (.i2l, 1) := by decide +kernel
theorem dL_tale_53 : decode cL_tale 53 = .ok (.ladd, 1) := by decide +kernel
theorem dL_tale_54 : decode cL_tale 54 = .ok (.lstore_n 2, 1) := by decide +kernel
theorem dL_tale_55 : decode cL_tale 55 = .ok (.iinc 4 1, 3) := by decide +kernel
theorem dL_tale_58 : decode cL_tale 58 = .ok (.goto (-47), 3) := by decide +kernel
theorem dL_tale_61 : decode cL_tale 61 = .ok (.iconst 1, 1) := by decide +kernel
theorem dL_tale_62 : decode cL_tale 62 = .ok (.istore 4, 2) := by decide +kernel
theorem dL_tale_64 : decode cL_tale 64 = .ok (.iload 4, 2) := by decide +kernel
theorem dL_tale_66 : decode cL_tale 66 = .ok (.iconst 4, 1) := by decide +kernel
theorem dL_tale_67 : decode cL_tale 67 = .ok (.if_icmp .ge 112, 3) := by decide +kernel
theorem dL_tale_70 : decode cL_tale 70 = .ok (.iconst 0, 1) := by decide +kernel
theorem dL_tale_71 : decode cL_tale 71 = .ok (.istore 5, 2) := by decide +kernel
theorem dL_tale_73 : decode cL_tale 73 = .ok (.iload 5, 2) := by decide +kernel
theorem dL_tale_75 : decode cL_tale 75 = .ok (.aload_n 0, 1) := by decide +kernel
theorem dL_tale_76 : decode cL_tale 76 = .ok (.iload_n 1, 1) := by decide +kernel
theorem dL_tale_77 : decode cL_tale 77 = .ok (.iload 4, 2) := by decide +kernel
theorem dL_tale_79 : decode cL_tale 79 = .ok (.invokevirtual 36, 3) := by decide +kernel
theorem dL_tale_82 : decode cL_tale 82 = .ok (.if_icmp .ge 91, 3) := by decide +kernel
theorem dL_tale_85 : decode cL_tale 85 = .ok (.aload_n 0, 1) := by decide +kernel
theorem dL_tale_86 : decode cL_tale 86 = .ok (.iload_n 1, 1) := by decide +kernel
theorem dL_tale_87 : decode cL_tale 87 = .ok (.iload 4, 2) := by decide +kernel
theorem dL_tale_89 : decode cL_tale 89 = .ok (.iload 5, 2) := by decide +kernel
theorem dL_tale_91 : decode cL_tale 91 = .ok (.invokevirtual 39, 3) := by decide +kernel
theorem dL_tale_94 : decode cL_tale 94 = .ok (.istore 6, 2) := by decide +kernel
theorem dL_tale_96 : decode cL_tale 96 = .ok (.ldc2_w 43, 3) := by decide +kernel
theorem dL_tale_99 : decode cL_tale 99 = .ok (.ldc2_w 43, 3) := by decide +kernel
theorem dL_tale_102 : decode cL_tale 102 = .ok (.ldc2_w 43, 3) := by decide +kernel
theorem dL_tale_105 : decode cL_tale 105 = .ok (.lload_n 2, 1) := by decide +kernel
theorem dL_tale_106 : decode cL_tale 106 = .ok (.lmul, 1) := by decide +kernel
theorem dL_tale_107 : decode cL_tale 107 = .ok (.iload 6, 2) := by decide +kernel
theorem dL_tale_109 : decode cL_tale 109 = .ok (.i2l, 1) := by decide +kernel
theorem dL_tale_110 : decode cL_tale 110 = .ok (.ladd, 1) := by decide +kernel
theorem dL_tale_111 : decode cL_tale 111 = .ok (.lmul, 1) := by decide +kernel
theorem dL_tale_112 : decode cL_tale 112 = .ok (.aload_n 0, 1) := by decide +kernel
theorem dL_tale_113 : decode cL_tale 113 = .ok (.iload_n 1, 1) := by decide +kernel
theorem dL_tale_114 : decode cL_tale 114 = .ok (.iload 4, 2) := by decide +kernel
theorem dL_tale_116 : decode cL_tale 116 = .ok (.iload 6, 2) := by decide +kernel
theorem dL_tale_118 : decode cL_tale 118 = .ok (.invokevirtual 45, 3) := by decide +kernel
theorem dL_tale_121 : decode cL_tale 121 = .ok (.ladd, 1) := by decide +kernel
theorem dL_tale_122 : decode cL_tale 122 = .ok (.lmul, 1) := by decide +kernel
theorem dL_tale_123 : decode cL_tale 123 = .ok (.aload_n 0, 1) := by decide +kernel
theorem dL_tale_124 : decode cL_tale 124 = .ok (.iload_n 1, 1) := by decide +kernel
theorem dL_tale_125 : decode cL_tale 125 = .ok (.iload 4, 2) := by decide +kernel
theorem dL_tale_127 : decode cL_tale 127 = .ok (.iload 6, 2) := by decide +kernel
theorem dL_tale_129 : decode cL_tale 129 = .ok (.invokevirtual 49, 3) := by decide +kernel
theorem dL_tale_132 : decode cL_tale 132 = .ok (.i2l, 1) := by decide +kernel
theorem dL_tale_133 : decode cL_tale 133 = .ok (.ladd, 1) := by decide +kernel
theorem dL_tale_134 : decode cL_tale 134 = .ok (.lstore_n 2, 1) := by decide +kernel
theorem dL_tale_135 : decode cL_tale 135 = .ok (.ldc2_w 43, 3) := by decide +kernel
theorem dL_tale_138 : decode cL_tale 138 = .ok (.ldc2_w 43, 3) := by decide +kernel
theorem dL_tale_141 : decode cL_tale 141 = .ok (.lload_n 2, 1) := by decide +kernel
theorem dL_tale_142 : decode cL_tale 142 = .ok (.lmul, 1) := by decide +kernel
theorem dL_tale_143 : decode cL_tale 143 = .ok (.aload_n 0, 1) := by decide +kernel
theorem dL_tale_144 : decode cL_tale 144 = .ok (.iload_n 1, 1) := by decide +kernel
theorem dL_tale_145 : decode cL_tale 145 = .ok (.iload 4, 2) := by decide +kernel
theorem dL_tale_147 : decode cL_tale 147 = .ok (.iload 6, 2) := by decide +kernel
theorem dL_tale_149 : decode cL_tale 149 = .ok (.invokevirtual 52, 3) := by decide +kernel
theorem dL_tale_152 : decode cL_tale 152 = .ok (.i2l, 1) := by decide +kernel
theorem dL_tale_153 : decode cL_tale 153 = .ok (.ladd, 1) := by decide +kernel
theorem dL_tale_154 : decode cL_tale 154 = .ok (.lmul, 1) := by decide +kernel
theorem dL_tale_155 : decode cL_tale 155 = .ok (.aload_n 0, 1) := by decide +kernel
theorem dL_tale_156 : decode cL_tale 156 = .ok (.iload_n 1, 1) := by decide +kernel
theorem dL_tale_157 : decode cL_tale 157 = .ok (.iload 4, 2) := by decide +kernel
theorem dL_tale_159 : decode cL_tale 159 = .ok (.iload 6, 2) := by decide +kernel
theorem dL_tale_161 : decode cL_tale 161 = .ok (.invokevirtual 55, 3) := by decide +kernel
theorem dL_tale_164 : decode cL_tale 164 = .ok (.i2l, 1) := by decide +kernel
theorem dL_tale_165 : decode cL_tale 165 = .ok (.ladd, 1) := by decide +kernel
theorem dL_tale_166 : decode cL_tale 166 = .ok (.lstore_n 2, 1) := by decide +kernel
theorem dL_tale_167 : decode cL_tale 167 = .ok (.iinc 5 1, 3) := by decide +kernel
theorem dL_tale_170 : decode cL_tale 170 = .ok (.goto (-97), 3) := by decide +kernel
theorem dL_tale_173 : decode cL_tale 173 = .ok (.iinc 4 1, 3) := by decide +kernel
theorem dL_tale_176 : decode cL_tale 176 = .ok (.goto (-112), 3) := by decide +kernel
theorem dL_tale_179 : decode cL_tale 179 = .ok (.lload_n 2, 1) := by decide +kernel
theorem dL_tale_180 : decode cL_tale 180 = .ok (.lreturn, 1) := by decide +kernel
set_option maxRecDepth 400000 in
theorem ggL_areRows_X5_rows : GoodIn wsL_areRows wsX5_rows := goodIn_ca (goodIn_ca (goodIn_r _ [5, 6, 7, 8, 4, 9, 10, 11, 12, 13, 14, 15, 16, 17, 18, 19, 20, 21, 22, 23, 24, 25, 26, 27, 28, 29, 30, 31, 32, 33, 102, 103, 104, 105, 106, 107, 108, 109, 110, 111, 112, 113, 114, 115, 116, 117, 118, 119] rfl (by decide +kernel)) (goodIn_sub (fun _ h => List.mem_cons_of_mem _ (List.mem_append_left _ (List.mem_append_left _ (List.mem_append_right _ h)))) (by decide +kernel))) (goodIn_sub (fun _ h => List.mem_cons_of_mem _ (List.mem_append_left _ (List.mem_append_right _ h))) (by decide +kernel))
set_option maxRecDepth 20000 in
theorem gL_areRows_X5_rows : GoodIn wsL_areRows (wsV RL 36 RX5 yX5_rows wsX5_rows) := goodIn_app (goodIn_of _ (by decide +kernel)) ggL_areRows_X5_rows
set_option maxRecDepth 400000 in
theorem ggL_areRows_X5_horizon : GoodIn wsL_areRows wsX5_horizon := goodIn_ca (goodIn_r _ [37, 38, 14, 15, 4, 16, 17, 18, 102, 103, 104, 105, 106, 107, 108] rfl (by decide +kernel)) (goodIn_sub (fun _ h => List.mem_cons_of_mem _ (List.mem_append_left _ (List.mem_append_right _ h))) (by decide +kernel))
set_option maxRecDepth 20000 in
theorem gL_areRows_X5_horizon : GoodIn wsL_areRows (wsV RL 58 RX5 yX5_horizon wsX5_horizon) := goodIn_app (goodIn_of _ (by decide +kernel)) ggL_areRows_X5_horizon
set_option maxRecDepth 400000 in
theorem ggL_areRows_X5_timeOf : GoodIn wsL_areRows wsX5_timeOf := goodIn_ca (goodIn_ca (goodIn_ca (goodIn_r _ [42, 43, 44, 45, 46, 6, 7, 8, 4, 9, 10, 11, 12, 13, 14, 15, 16, 17, 18, 47, 48, 49, 50, 51, 52, 28, 29, 22, 30, 31, 32, 33, 53, 54, 55, 56, 57, 58, 59, 109, 110, 111, 112, 113, 120, 121, 122, 123, 124, 125, 126, 127, 102, 103, 104, 105, 106, 107, 108, 114, 115, 116, 117, 118, 119] rfl (by decide +kernel)) (goodIn_sub (fun _ h => List.mem_cons_of_mem _ (List.mem_append_right _ h)) (by decide +kernel))) (goodIn_sub (fun _ h => List.mem_cons_of_mem _ (List.mem_append_left _ (List.mem_append_left _ (List.mem_append_right _ h)))) (by decide +kernel))) (goodIn_sub (fun _ h => List.mem_cons_of_mem _ (List.mem_append_left _ (List.mem_append_right _ h))) (by decide +kernel))
set_option maxRecDepth 20000 in
theorem gL_areRows_X5_timeOf : GoodIn wsL_areRows (wsV RL 39 RX5 yX5_timeOf wsX5_timeOf) := goodIn_app (goodIn_of _ (by decide +kernel)) ggL_areRows_X5_timeOf
set_option maxRecDepth 400000 in
theorem ggL_areRows_L_length : GoodIn wsL_areRows wsL_length := goodIn_r _ [63, 64] rfl (by decide +kernel)
set_option maxRecDepth 20000 in
theorem gL_areRows_L_length : GoodIn wsL_areRows (va_wsS RL 11 yL_length wsL_length) := goodIn_app (goodIn_of _ (by decide +kernel)) ggL_areRows_L_length
set_option maxRecDepth 400000 in
theorem ggL_areRows_X5_clock : GoodIn wsL_areRows wsX5_clock := goodIn_r _ [68, 69, 102, 103, 104, 105, 106, 107, 108] rfl (by decide +kernel)
set_option maxRecDepth 20000 in
theorem gL_areRows_X5_clock : GoodIn wsL_areRows (wsV RL 61 RX5 yX5_clock wsX5_clock) := goodIn_app (goodIn_of _ (by decide +kernel)) ggL_areRows_X5_clock
set_option maxRecDepth 400000 in
theorem ggL_areRows_L_isGone : GoodIn wsL_areRows wsL_isGone := goodIn_r _ [72, 60, 61, 62, 63, 64] rfl (by decide +kernel)
set_option maxRecDepth 20000 in
theorem gL_areRows_L_isGone : GoodIn wsL_areRows (va_wsS RL 65 yL_isGone wsL_isGone) := goodIn_app (goodIn_of _ (by decide +kernel)) ggL_areRows_L_isGone
set_option maxRecDepth 400000 in
theorem ggL_areRows_X5_hasRollup : GoodIn wsL_areRows wsX5_hasRollup := goodIn_ca (goodIn_ca (goodIn_r _ [76, 77, 78, 79, 4, 80, 81, 82, 83, 84, 17, 18, 6, 7, 8, 9, 10, 11, 12, 13, 14, 15, 16, 52, 28, 29, 22, 30, 31, 32, 33, 85, 86, 87, 88, 89, 90, 91, 92, 93, 94, 56, 95, 96, 97, 98, 99, 100, 101, 54, 55, 57, 58, 59, 102, 103, 104, 105, 106, 107, 108, 109, 110, 111, 112, 113, 120, 121, 122, 123, 124, 125, 126, 127, 117, 118, 119] rfl (by decide +kernel)) (goodIn_sub (fun _ h => List.mem_cons_of_mem _ (List.mem_append_left _ (List.mem_append_right _ h))) (by decide +kernel))) (goodIn_sub (fun _ h => List.mem_cons_of_mem _ (List.mem_append_left _ (List.mem_append_left _ (List.mem_append_right _ h)))) (by decide +kernel))
set_option maxRecDepth 20000 in
theorem gL_areRows_X5_hasRollup : GoodIn wsL_areRows (wsV RL 69 RX5 yX5_hasRollup wsX5_hasRollup) := goodIn_app (goodIn_of _ (by decide +kernel)) ggL_areRows_X5_hasRollup
theorem dL_areRows_0 : decode cL_areRows 0 = .ok (.aload_n 0, 1) := by decide +kernel
theorem dL_areRows_1 : decode cL_areRows 1 = .ok (.iload_n 2, 1) := by decide +kernel
theorem dL_areRows_2 : decode cL_areRows 2 = .ok (.iconst 0, 1) := by decide +kernel
theorem dL_areRows_3 : decode cL_areRows 3 = .ok (.invokevirtual 36, 3) := by decide +kernel
theorem dL_areRows_6 : decode cL_areRows 6 = .ok (.bipush 100, 2) := by decide +kernel
theorem dL_areRows_8 : decode cL_areRows 8 = .ok (.if_icmp .gt 7, 3) := by decide +kernel
theorem dL_areRows_11 : decode cL_areRows 11 = .ok (.iconst 1, 1) := by decide +kernel
theorem dL_areRows_12 : decode cL_areRows 12 = .ok (.goto 4, 3) := by decide +kernel
theorem dL_areRows_15 : decode cL_areRows 15 = .ok (.iconst 0, 1) := by decide +kernel
theorem dL_areRows_16 : decode cL_areRows 16 = .ok (.istore_n 3, 1) := by decide +kernel
theorem dL_areRows_17 : decode cL_areRows 17 = .ok (.iconst 0, 1) := by decide +kernel
theorem dL_areRows_18 : decode cL_areRows 18 = .ok (.istore 4, 2) := by decide +kernel
theorem dL_areRows_20 : decode cL_areRows 20 = .ok (.iload 4, 2) := by decide +kernel
theorem dL_areRows_22 : decode cL_areRows 22 = .ok (.iconst 4, 1) := by decide +kernel
theorem dL_areRows_23 : decode cL_areRows 23 = .ok (.if_icmp .ge 160, 3) := by decide +kernel
theorem dL_areRows_26 : decode cL_areRows 26 = .ok (.iconst (-1), 1) := by decide +kernel
theorem dL_areRows_27 : decode cL_areRows 27 = .ok (.istore 5, 2) := by decide +kernel
theorem dL_areRows_29 : decode cL_areRows 29 = .ok (.iload_n 3, 1) := by decide +kernel
theorem dL_areRows_30 : decode cL_areRows 30 = .ok (.ifCond .eq 23, 3) := by decide +kernel
theorem dL_areRows_33 : decode cL_areRows 33 = .ok (.aload_n 0, 1) := by decide +kernel
theorem dL_areRows_34 : decode cL_areRows 34 = .ok (.iload 4, 2) := by decide +kernel
theorem dL_areRows_36 : decode cL_areRows 36 = .ok (.invokevirtual 58, 3) := by decide +kernel
theorem dL_areRows_39 : decode cL_areRows 39 = .ok (.aload_n 1, 1) := by decide +kernel
theorem dL_areRows_40 : decode cL_areRows 40 = .ok (.bipush 6, 2) := by decide +kernel
theorem dL_areRows_42 : decode cL_areRows 42 = .ok (.iload 4, 2) := by decide +kernel
theorem dL_areRows_44 : decode cL_areRows 44 = .ok (.iadd, 1) := by decide +kernel
theorem dL_areRows_45 : decode cL_areRows 45 = .ok (.iaload, 1) := by decide +kernel
theorem dL_areRows_46 : decode cL_areRows 46 = .ok (.if_icmp .ne 7, 3) := by decide +kernel
theorem dL_areRows_49 : decode cL_areRows 49 = .ok (.iconst 1, 1) := by decide +kernel
theorem dL_areRows_50 : decode cL_areRows 50 = .ok (.goto 4, 3) := by decide +kernel
theorem dL_areRows_53 : decode cL_areRows 53 = .ok (.iconst 0, 1) := by decide +kernel
theorem dL_areRows_54 : decode cL_areRows 54 = .ok (.istore_n 3, 1) := by decide +kernel
theorem dL_areRows_55 : decode cL_areRows 55 = .ok (.iconst 0, 1) := by decide +kernel
theorem dL_areRows_56 : decode cL_areRows 56 = .ok (.istore 6, 2) := by decide +kernel
theorem dL_areRows_58 : decode cL_areRows 58 = .ok (.iload 6, 2) := by decide +kernel
theorem dL_areRows_60 : decode cL_areRows 60 = .ok (.aload_n 0, 1) := by decide +kernel
theorem dL_areRows_61 : decode cL_areRows 61 = .ok (.iload_n 2, 1) := by decide +kernel
theorem dL_areRows_62 : decode cL_areRows 62 = .ok (.iload 4, 2) := by decide +kernel
theorem dL_areRows_64 : decode cL_areRows 64 = .ok (.invokevirtual 36, 3) := by decide +kernel
theorem dL_areRows_67 : decode cL_areRows 67 = .ok (.if_icmp .ge 110, 3) := by decide +kernel
theorem dL_areRows_70 : decode cL_areRows 70 = .ok (.iload_n 3, 1) := by decide +kernel
theorem dL_areRows_71 : decode cL_areRows 71 = .ok (.ifCond .eq 106, 3) := by decide +kernel
theorem dL_areRows_74 : decode cL_areRows 74 = .ok (.aload_n 0, 1) := by decide +kernel
theorem dL_areRows_75 : decode cL_areRows 75 = .ok (.iload_n 2, 1) := by decide +kernel
theorem dL_areRows_76 : decode cL_areRows 76 = .ok (.iload 4, 2) := by decide +kernel
theorem dL_areRows_78 : decode cL_areRows 78 = .ok (.iload 6, 2) := by decide +kernel
theorem dL_areRows_80 : decode cL_areRows 80 = .ok (.invokevirtual 39, 3) := by decide +kernel
theorem dL_areRows_83 : decode cL_areRows 83 = .ok (.istore 7, 2) := by decide +kernel
theorem dL_areRows_85 : decode cL_areRows 85 = .ok (.iload 7, 2) := by decide +kernel
theorem dL_areRows_87 : decode cL_areRows 87 = .ok (.iload 5, 2) := by decide +kernel
theorem dL_areRows_89 : decode cL_areRows 89 = .ok (.if_icmp .le 76, 3) := by decide +kernel
theorem dL_areRows_92 : decode cL_areRows 92 = .ok (.iload 7, 2) := by decide +kernel
theorem dL_areRows_94 : decode cL_areRows 94 = .ok (.iload 4, 2) := by decide +kernel
theorem dL_areRows_96 : decode cL_areRows 96 = .ok (.invokestatic 11, 3) := by decide +kernel
theorem dL_areRows_99 : decode cL_areRows 99 = .ok (.irem, 1) := by decide +kernel
theorem dL_areRows_100 : decode cL_areRows 100 = .ok (.ifCond .ne 65, 3) := by decide +kernel
theorem dL_areRows_103 : decode cL_areRows 103 = .ok (.iload 7, 2) := by decide +kernel
theorem dL_areRows_105 : decode cL_areRows 105 = .ok (.aload_n 0, 1) := by decide +kernel
theorem dL_areRows_106 : decode cL_areRows 106 = .ok (.invokevirtual 61, 3) := by decide +kernel
theorem dL_areRows_109 : decode cL_areRows 109 = .ok (.if_icmp .gt 56, 3) := by decide +kernel
theorem dL_areRows_112 : decode cL_areRows 112 = .ok (.iload 4, 2) := by decide +kernel
theorem dL_areRows_114 : decode cL_areRows 114 = .ok (.ifCond .ne 15, 3) := by decide +kernel
theorem dL_areRows_117 : decode cL_areRows 117 = .ok (.iload 7, 2) := by decide +kernel
theorem dL_areRows_119 : decode cL_areRows 119 = .ok (.aload_n 1, 1) := by decide +kernel
theorem dL_areRows_120 : decode cL_areRows 120 = .ok (.bipush 6, 2) := by decide +kernel
theorem dL_areRows_122 : decode cL_areRows 122 = .ok (.iaload, 1) := by decide +kernel
theorem dL_areRows_123 : decode cL_areRows 123 = .ok (.if_icmp .lt 42, 3) := by decide +kernel
theorem dL_areRows_126 : decode cL_areRows 126 = .ok (.goto 35, 3) := by decide +kernel
theorem dL_areRows_129 : decode cL_areRows 129 = .ok (.aload_n 1, 1) := by decide +kernel
theorem dL_areRows_130 : decode cL_areRows 130 = .ok (.iload 4, 2) := by decide +kernel
theorem dL_areRows_132 : decode cL_areRows 132 = .ok (.iload 7, 2) := by decide +kernel
theorem dL_areRows_134 : decode cL_areRows 134 = .ok (.i2l, 1) := by decide +kernel
theorem dL_areRows_135 : decode cL_areRows 135 = .ok (.invokestatic 65, 3) := by decide +kernel
theorem dL_areRows_138 : decode cL_areRows 138 = .ok (.ifCond .ne 27, 3) := by decide +kernel
theorem dL_areRows_141 : decode cL_areRows 141 = .ok (.aload_n 0, 1) := by decide +kernel
theorem dL_areRows_142 : decode cL_areRows 142 = .ok (.iload_n 2, 1) := by decide +kernel
theorem dL_areRows_143 : decode cL_areRows 143 = .ok (.iload 4, 2) := by decide +kernel
theorem dL_areRows_145 : decode cL_areRows 145 = .ok (.iload 7, 2) := by decide +kernel
theorem dL_areRows_147 : decode cL_areRows 147 = .ok (.iload 4, 2) := by decide +kernel
theorem dL_areRows_149 : decode cL_areRows 149 = .ok (.invokestatic 11, 3) := by decide +kernel
theorem dL_areRows_152 : decode cL_areRows 152 = .ok (.iadd, 1) := by decide +kernel
theorem dL_areRows_153 : decode cL_areRows 153 = .ok (.iconst 1, 1) := by decide +kernel
theorem dL_areRows_154 : decode cL_areRows 154 = .ok (.isub, 1) := by decide +kernel
theorem dL_areRows_155 : decode cL_areRows 155 = .ok (.invokevirtual 69, 3) := by decide +kernel
theorem dL_areRows_158 : decode cL_areRows 158 = .ok (.ifCond .eq 7, 3) := by decide +kernel
theorem dL_areRows_161 : decode cL_areRows 161 = .ok (.iconst 1, 1) := by decide +kernel
theorem dL_areRows_162 : decode cL_areRows 162 = .ok (.goto 4, 3) := by decide +kernel
theorem dL_areRows_165 : decode cL_areRows 165 = .ok (.iconst 0, 1) := by decide +kernel
theorem dL_areRows_166 : decode cL_areRows 166 = .ok (.istore_n 3, 1) := by decide +kernel
theorem dL_areRows_167 : decode cL_areRows 167 = .ok (.iload 7, 2) := by decide +kernel
theorem dL_areRows_169 : decode cL_areRows 169 = .ok (.istore 5, 2) := by decide +kernel
theorem dL_areRows_171 : decode cL_areRows 171 = .ok (.iinc 6 1, 3) := by decide +kernel
theorem dL_areRows_174 : decode cL_areRows 174 = .ok (.goto (-116), 3) := by decide +kernel
theorem dL_areRows_177 : decode cL_areRows 177 = .ok (.iinc 4 1, 3) := by decide +kernel
theorem dL_areRows_180 : decode cL_areRows 180 = .ok (.goto (-160), 3) := by decide +kernel
theorem dL_areRows_183 : decode cL_areRows 183 = .ok (.iload_n 3, 1) := by decide +kernel
theorem dL_areRows_184 : decode cL_areRows 184 = .ok (.ireturn, 1) := by decide +kernel
set_option maxRecDepth 400000 in
theorem ggL_isRollup_X5_count : GoodIn wsL_isRollup wsX5_count := goodIn_ca (goodIn_ca (goodIn_ca (goodIn_r _ [7, 8, 9, 10, 11, 6, 12, 13, 14, 15, 16, 17, 18, 19, 20, 21, 22, 23, 24, 25, 26, 27, 28, 29, 30, 31, 32, 33, 34, 35, 36, 37, 38, 39, 40, 41, 42, 43, 44, 45, 46, 47, 48, 49, 50, 51, 52, 53, 54, 55, 56, 57, 58, 59, 60, 61, 62, 63, 64, 65, 66, 132, 133, 134, 135, 136, 137, 138, 139, 140, 141, 142, 143, 144, 145, 146, 147, 148, 149, 150, 151, 152, 153, 154] rfl (by decide +kernel)) (goodIn_sub (fun _ h => List.mem_cons_of_mem _ (List.mem_append_left _ (List.mem_append_left _ (List.mem_append_right _ h)))) (by decide +kernel))) (goodIn_sub (fun _ h => List.mem_cons_of_mem _ (List.mem_append_left _ (List.mem_append_right _ h))) (by decide +kernel))) (goodIn_sub (fun _ h => List.mem_cons_of_mem _ (List.mem_append_right _ h)) (by decide +kernel))
set_option maxRecDepth 20000 in
theorem gL_isRollup_X5_count : GoodIn wsL_isRollup (wsV RL 49 RX5 yX5_count wsX5_count) := goodIn_app (goodIn_of _ (by decide +kernel)) ggL_isRollup_X5_count
set_option maxRecDepth 400000 in
theorem ggL_isRollup_X5_sum : GoodIn wsL_isRollup wsX5_sum := goodIn_ca (goodIn_ca (goodIn_ca (goodIn_r _ [70, 71, 9, 10, 11, 6, 12, 13, 14, 15, 16, 17, 18, 19, 20, 21, 22, 23, 24, 25, 26, 27, 28, 29, 30, 31, 32, 33, 34, 35, 36, 37, 38, 39, 40, 41, 42, 43, 44, 45, 46, 47, 48, 49, 50, 51, 52, 53, 54, 55, 56, 57, 58, 59, 60, 61, 62, 63, 64, 65, 66, 132, 133, 134, 135, 136, 137, 138, 139, 140, 141, 142, 143, 144, 145, 146, 147, 148, 149, 150, 151, 152, 153, 154] rfl (by decide +kernel)) (goodIn_sub (fun _ h => List.mem_cons_of_mem _ (List.mem_append_left _ (List.mem_append_left _ (List.mem_append_right _ h)))) (by decide +kernel))) (goodIn_sub (fun _ h => List.mem_cons_of_mem _ (List.mem_append_left _ (List.mem_append_right _ h))) (by decide +kernel))) (goodIn_sub (fun _ h => List.mem_cons_of_mem _ (List.mem_append_right _ h)) (by decide +kernel))
set_option maxRecDepth 20000 in
theorem gL_isRollup_X5_sum : GoodIn wsL_isRollup (wsV RL 45 RX5 yX5_sum wsX5_sum) := goodIn_app (goodIn_of _ (by decide +kernel)) ggL_isRollup_X5_sum
set_option maxRecDepth 400000 in
theorem ggL_isRollup_X5_least : GoodIn wsL_isRollup wsX5_least := goodIn_ca (goodIn_ca (goodIn_ca (goodIn_r _ [75, 76, 9, 10, 11, 6, 12, 13, 14, 15, 16, 17, 18, 19, 20, 21, 22, 23, 24, 25, 26, 27, 28, 29, 30, 31, 32, 33, 34, 35, 36, 37, 38, 39, 40, 41, 42, 43, 44, 45, 46, 47, 48, 49, 50, 51, 52, 53, 54, 55, 56, 57, 58, 59, 60, 61, 62, 63, 64, 65, 66, 132, 133, 134, 135, 136, 137, 138, 139, 140, 141, 142, 143, 144, 145, 146, 147, 148, 149, 150, 151, 152, 153, 154] rfl (by decide +kernel)) (goodIn_sub (fun _ h => List.mem_cons_of_mem _ (List.mem_append_left _ (List.mem_append_left _ (List.mem_append_right _ h)))) (by decide +kernel))) (goodIn_sub (fun _ h => List.mem_cons_of_mem _ (List.mem_append_left _ (List.mem_append_right _ h))) (by decide +kernel))) (goodIn_sub (fun _ h => List.mem_cons_of_mem _ (List.mem_append_right _ h)) (by decide +kernel))
set_option maxRecDepth 20000 in
theorem gL_isRollup_X5_least : GoodIn wsL_isRollup (wsV RL 72 RX5 yX5_least wsX5_least) := goodIn_app (goodIn_of _ (by decide +kernel)) ggL_isRollup_X5_least
set_option maxRecDepth 400000 in
theorem ggL_isRollup_X5_greatest : GoodIn wsL_isRollup wsX5_greatest := goodIn_ca (goodIn_ca (goodIn_ca (goodIn_r _ [80, 81, 9, 10, 11, 6, 12, 13, 14, 15, 16, 17, 18, 19, 20, 21, 22, 23, 24, 25, 26, 27, 28, 29, 30, 31, 32, 33, 34, 35, 36, 37, 38, 39, 40, 41, 42, 43, 44, 45, 46, 47, 48, 49, 50, 51, 52, 53, 54, 55, 56, 57, 58, 59, 60, 61, 62, 63, 64, 65, 66, 132, 133, 134, 135, 136, 137, 138, 139, 140, 141, 142, 143, 144, 145, 146, 147, 148, 149, 150, 151, 152, 153, 154] rfl (by decide +kernel)) (goodIn_sub (fun _ h => List.mem_cons_of_mem _ (List.mem_append_left _ (List.mem_append_left _ (List.mem_append_right _ h)))) (by decide +kernel))) (goodIn_sub (fun _ h => List.mem_cons_of_mem _ (List.mem_append_left _ (List.mem_append_right _ h))) (by decide +kernel))) (goodIn_sub (fun _ h => List.mem_cons_of_mem _ (List.mem_append_right _ h)) (by decide +kernel))
set_option maxRecDepth 20000 in
theorem gL_isRollup_X5_greatest : GoodIn wsL_isRollup (wsV RL 75 RX5 yX5_greatest wsX5_greatest) := goodIn_app (goodIn_of _ (by decide +kernel)) ggL_isRollup_X5_greatest
set_option maxRecDepth 400000 in
theorem ggL_isRollup_X5_first : GoodIn wsL_isRollup wsX5_first := goodIn_ca (goodIn_ca (goodIn_ca (goodIn_r _ [85, 86, 9, 10, 11, 6, 12, 13, 14, 15, 16, 17, 18, 19, 20, 21, 22, 23, 24, 25, 26, 27, 28, 29, 30, 31, 32, 33, 34, 35, 36, 37, 38, 39, 40, 41, 42, 43, 44, 45, 46, 47, 48, 49, 50, 51, 52, 53, 54, 55, 56, 57, 58, 59, 60, 61, 62, 63, 64, 65, 66, 132, 133, 134, 135, 136, 137, 138, 139, 140, 141, 142, 143, 144, 145, 146, 147, 148, 149, 150, 151, 152, 153, 154] rfl (by decide +kernel)) (goodIn_sub (fun _ h => List.mem_cons_of_mem _ (List.mem_append_left _ (List.mem_append_left _ (List.mem_append_right _ h)))) (by decide +kernel))) (goodIn_sub (fun _ h => List.mem_cons_of_mem _ (List.mem_append_left _ (List.mem_append_right _ h))) (by decide +kernel))) (goodIn_sub (fun _ h => List.mem_cons_of_mem _ (List.mem_append_right _ h)) (by decide +kernel))
set_option maxRecDepth 20000 in
theorem gL_isRollup_X5_first : GoodIn wsL_isRollup (wsV RL 52 RX5 yX5_first wsX5_first) := goodIn_app (goodIn_of _ (by decide +kernel)) ggL_isRollup_X5_first
set_option maxRecDepth 400000 in
theorem ggL_isRollup_X5_last : GoodIn wsL_isRollup wsX5_last := goodIn_ca (goodIn_ca (goodIn_ca (goodIn_r _ [90, 91, 9, 10, 11, 6, 12, 13, 14, 15, 16, 17, 18, 19, 20, 21, 22, 23, 24, 25, 26, 27, 28, 29, 30, 31, 32, 33, 34, 35, 36, 37, 38, 39, 40, 41, 42, 43, 44, 45, 46, 47, 48, 49, 50, 51, 52, 53, 54, 55, 56, 57, 58, 59, 60, 61, 62, 63, 64, 65, 66, 132, 133, 134, 135, 136, 137, 138, 139, 140, 141, 142, 143, 144, 145, 146, 147, 148, 149, 150, 151, 152, 153, 154] rfl (by decide +kernel)) (goodIn_sub (fun _ h => List.mem_cons_of_mem _ (List.mem_append_left _ (List.mem_append_left _ (List.mem_append_right _ h)))) (by decide +kernel))) (goodIn_sub (fun _ h => List.mem_cons_of_mem _ (List.mem_append_left _ (List.mem_append_right _ h))) (by decide +kernel))) (goodIn_sub (fun _ h => List.mem_cons_of_mem _ (List.mem_append_right _ h)) (by decide +kernel))
set_option maxRecDepth 20000 in
theorem gL_isRollup_X5_last : GoodIn wsL_isRollup (wsV RL 55 RX5 yX5_last wsX5_last) := goodIn_app (goodIn_of _ (by decide +kernel)) ggL_isRollup_X5_last
set_option maxRecDepth 400000 in
theorem ggL_isRollup_X5_average : GoodIn wsL_isRollup wsX5_average := goodIn_ca (goodIn_ca (goodIn_ca (goodIn_r _ [95, 71, 8, 96, 97, 98, 99, 9, 10, 11, 6, 12, 13, 14, 15, 16, 17, 18, 19, 20, 21, 22, 23, 24, 25, 26, 27, 28, 29, 30, 31, 32, 33, 34, 35, 36, 37, 38, 39, 40, 41, 42, 43, 44, 45, 46, 47, 48, 49, 50, 51, 52, 53, 54, 55, 56, 57, 58, 59, 60, 61, 62, 63, 64, 65, 66, 132, 133, 134, 135, 136, 137, 138, 139, 140, 141, 142, 143, 144, 145, 146, 147, 148, 149, 150, 151, 152, 153, 154] rfl (by decide +kernel)) (goodIn_sub (fun _ h => List.mem_cons_of_mem _ (List.mem_append_left _ (List.mem_append_left _ (List.mem_append_right _ h)))) (by decide +kernel))) (goodIn_sub (fun _ h => List.mem_cons_of_mem _ (List.mem_append_left _ (List.mem_append_right _ h))) (by decide +kernel))) (goodIn_sub (fun _ h => List.mem_cons_of_mem _ (List.mem_append_right _ h)) (by decide +kernel))
set_option maxRecDepth 20000 in
theorem gL_isRollup_X5_average : GoodIn wsL_isRollup (wsV RL 78 RX5 yX5_average wsX5_average) := goodIn_app (goodIn_of _ (by decide +kernel)) ggL_isRollup_X5_average
set_option maxRecDepth 400000 in
theorem ggL_isRollup_L_isGone : GoodIn wsL_isRollup wsL_isGone := goodIn_r _ [103, 104, 105, 102, 106, 107] rfl (by decide +kernel)
set_option maxRecDepth 20000 in
theorem gL_isRollup_L_isGone : GoodIn wsL_isRollup (va_wsS RL 65 yL_isGone wsL_isGone) := goodIn_app (goodIn_of _ (by decide +kernel)) ggL_isRollup_L_isGone
set_option maxRecDepth 400000 in
theorem ggL_isRollup_X5_rows : GoodIn wsL_isRollup wsX5_rows := goodIn_ca (goodIn_ca (goodIn_r _ [111, 25, 26, 27, 6, 28, 29, 30, 31, 32, 33, 34, 35, 23, 24, 112, 113, 114, 39, 115, 116, 117, 118, 119, 37, 38, 40, 41, 42, 43, 140, 141, 142, 143, 144, 145, 146, 147, 148, 149, 150, 151, 155, 156, 157, 152, 153, 154] rfl (by decide +kernel)) (goodIn_sub (fun _ h => List.mem_cons_of_mem _ (List.mem_append_right _ h)) (by decide +kernel))) (goodIn_sub (fun _ h => List.mem_cons_of_mem _ (List.mem_append_left _ (List.mem_append_right _ h))) (by decide +kernel))
set_option maxRecDepth 20000 in
theorem gL_isRollup_X5_rows : GoodIn wsL_isRollup (wsV RL 36 RX5 yX5_rows wsX5_rows) := goodIn_app (goodIn_of _ (by decide +kernel)) ggL_isRollup_X5_rows
set_option maxRecDepth 400000 in
theorem ggL_isRollup_X5_timeOf : GoodIn wsL_isRollup wsX5_timeOf := goodIn_ca (goodIn_ca (goodIn_ca (goodIn_r _ [123, 13, 14, 124, 125, 25, 26, 27, 6, 28, 29, 30, 31, 32, 33, 34, 35, 23, 24, 126, 127, 128, 129, 130, 36, 37, 38, 39, 40, 41, 42, 43, 131, 62, 63, 54, 64, 65, 66, 147, 148, 149, 150, 151, 132, 133, 134, 135, 136, 137, 138, 139, 140, 141, 142, 143, 144, 145, 146, 155, 156, 157, 152, 153, 154] rfl (by decide +kernel)) (goodIn_sub (fun _ h => List.mem_cons_of_mem _ (List.mem_append_left _ (List.mem_append_left _ (List.mem_append_right _ h)))) (by decide +kernel))) (goodIn_sub (fun _ h => List.mem_cons_of_mem _ (List.mem_append_right _ h)) (by decide +kernel))) (goodIn_sub (fun _ h => List.mem_cons_of_mem _ (List.mem_append_left _ (List.mem_append_right _ h))) (by decide +kernel))
set_option maxRecDepth 20000 in
theorem gL_isRollup_X5_timeOf : GoodIn wsL_isRollup (wsV RL 39 RX5 yX5_timeOf wsX5_timeOf) := goodIn_app (goodIn_of _ (by decide +kernel)) ggL_isRollup_X5_timeOf
set_option maxRecDepth 400000 in
theorem ggL_isRollup_L_length : GoodIn wsL_isRollup wsL_length := goodIn_r _ [106, 107] rfl (by decide +kernel)
set_option maxRecDepth 20000 in
theorem gL_isRollup_L_length : GoodIn wsL_isRollup (va_wsS RL 11 yL_length wsL_length) := goodIn_app (goodIn_of _ (by decide +kernel)) ggL_isRollup_L_length
theorem dL_isRollup_0 : decode cL_isRollup 0 = .ok (.aload_n 0, 1) := by decide +kernel
theorem dL_isRollup_1 : decode cL_isRollup 1 = .ok (.iload_n 2, 1) := by decide +kernel
theorem dL_isRollup_2 : decode cL_isRollup 2 = .ok (.iload_n 3, 1) := by decide +kernel
theorem dL_isRollup_3 : decode cL_isRollup 3 = .ok (.iload 4, 2) := by decide +kernel
theorem dL_isRollup_5 : decode cL_isRollup 5 = .ok (.invokevirtual 49, 3) := by decide +kernel
theorem dL_isRollup_8 : decode cL_isRollup 8 = .ok (.istore 5, 2) := by decide +kernel
theorem dL_isRollup_10 : decode cL_isRollup 10 = .ok (.aload_n 0, 1) := by decide +kernel
theorem dL_isRollup_11 : decode cL_isRollup 11 = .ok (.iload_n 2, 1) := by decide +kernel
theorem dL_isRollup_12 : decode cL_isRollup 12 = .ok (.iload_n 3, 1) := by decide +kernel
theorem dL_isRollup_13 : decode cL_isRollup 13 = .ok (.iload 4, 2) := by decide +kernel
theorem dL_isRollup_15 : decode cL_isRollup 15 = .ok (.invokevirtual 45, 3) := by decide +kernel
theorem dL_isRollup_18 : decode cL_isRollup 18 = .ok (.lstore 6, 2) := by decide +kernel
theorem dL_isRollup_20 : decode cL_isRollup 20 = .ok (.aload_n 0, 1) := by decide +kernel
theorem dL_isRollup_21 : decode cL_isRollup 21 = .ok (.iload_n 2, 1) := by decide +kernel
theorem dL_isRollup_22 : decode cL_isRollup 22 = .ok (.iload_n 3, 1) := by decide +kernel
theorem dL_isRollup_23 : decode cL_isRollup 23 = .ok (.iload 4, 2) := by decide +kernel
theorem dL_isRollup_25 : decode cL_isRollup 25 = .ok (.invokevirtual 72, 3) := by decide +kernel
theorem dL_isRollup_28 : decode cL_isRollup 28 = .ok (.istore 8, 2) := by decide +kernel
theorem dL_isRollup_30 : decode cL_isRollup 30 = .ok (.aload_n 0, 1) := by decide +kernel
theorem dL_isRollup_31 : decode cL_isRollup 31 = .ok (.iload_n 2, 1) := by decide +kernel
theorem dL_isRollup_32 : decode cL_isRollup 32 = .ok (.iload_n 3, 1) := by decide +kernel
theorem dL_isRollup_33 : decode cL_isRollup 33 = .ok (.iload 4, 2) := by decide +kernel
theorem dL_isRollup_35 : decode cL_isRollup 35 = .ok (.invokevirtual 75, 3) := by decide +kernel
theorem dL_isRollup_38 : decode cL_isRollup 38 = .ok (.istore 9, 2) := by decide +kernel
theorem dL_isRollup_40 : decode cL_isRollup 40 = .ok (.aload_n 0, 1) := by decide +kernel
theorem dL_isRollup_41 : decode cL_isRollup 41 = .ok (.iload_n 2, 1) := by decide +kernel
theorem dL_isRollup_42 : decode cL_isRollup 42 = .ok (.iload_n 3, 1) := by decide +kernel
theorem dL_isRollup_43 : decode cL_isRollup 43 = .ok (.iload 4, 2) := by decide +kernel
theorem dL_isRollup_45 : decode cL_isRollup 45 = .ok (.invokevirtual 52, 3) := by decide +kernel
theorem dL_isRollup_48 : decode cL_isRollup 48 = .ok (.istore 10, 2) := by decide +kernel
theorem dL_isRollup_50 : decode cL_isRollup 50 = .ok (.aload_n 0, 1) := by decide +kernel
theorem dL_isRollup_51 : decode cL_isRollup 51 = .ok (.iload_n 2, 1) := by decide +kernel
theorem dL_isRollup_52 : decode cL_isRollup 52 = .ok (.iload_n 3, 1) := by decide +kernel
theorem dL_isRollup_53 : decode cL_isRollup 53 = .ok (.iload 4, 2) := by decide +kernel
theorem dL_isRollup_55 : decode cL_isRollup 55 = .ok (.invokevirtual 55, 3) := by decide +kernel
theorem dL_isRollup_58 : decode cL_isRollup 58 = .ok (.istore 11, 2) := by decide +kernel
theorem dL_isRollup_60 : decode cL_isRollup 60 = .ok (.iload 5, 2) := by decide +kernel
theorem dL_isRollup_62 : decode cL_isRollup 62 = .ok (.iconst 1, 1) := by decide +kernel
theorem dL_isRollup_63 : decode cL_isRollup 63 = .ok (.if_icmp .lt 102, 3) := by decide +kernel
theorem dL_isRollup_66 : decode cL_isRollup 66 = .ok (.iload 8, 2) := by decide +kernel
theorem dL_isRollup_68 : decode cL_isRollup 68 = .ok (.iload 10, 2) := by decide +kernel
theorem dL_isRollup_70 : decode cL_isRollup 70 = .ok (.if_icmp .gt 95, 3) := by decide +kernel
theorem dL_isRollup_73 : decode cL_isRollup 73 = .ok (.iload 10, 2) := by decide +kernel
theorem dL_isRollup_75 : decode cL_isRollup 75 = .ok (.iload 9, 2) := by decide +kernel
theorem dL_isRollup_77 : decode cL_isRollup 77 = .ok (.if_icmp .gt 88, 3) := by decide +kernel
theorem dL_isRollup_80 : decode cL_isRollup 80 = .ok (.iload 8, 2) := by decide +kernel
theorem dL_isRollup_82 : decode cL_isRollup 82 = .ok (.iload 11, 2) := by decide +kernel
theorem dL_isRollup_84 : decode cL_isRollup 84 = .ok (.if_icmp .gt 81, 3) := by decide +kernel
theorem dL_isRollup_87 : decode cL_isRollup 87 = .ok (.iload 11, 2) := by decide +kernel
theorem dL_isRollup_89 : decode cL_isRollup 89 = .ok (.iload 9, 2) := by decide +kernel
theorem dL_isRollup_91 : decode cL_isRollup 91 = .ok (.if_icmp .gt 74, 3) := by decide +kernel
theorem dL_isRollup_94 : decode cL_isRollup 94 = .ok (.iload 5, 2) := by decide +kernel
theorem dL_isRollup_96 : decode cL_isRollup 96 = .ok (.i2l, 1) := by decide +kernel
theorem dL_isRollup_97 : decode cL_isRollup 97 = .ok (.iload 8, 2) := by decide +kernel
theorem dL_isRollup_99 : decode cL_isRollup 99 = .ok (.i2l, 1) := by decide +kernel
theorem dL_isRollup_100 : decode cL_isRollup 100 = .ok (.lmul, 1) := by decide +kernel
theorem dL_isRollup_101 : decode cL_isRollup 101 = .ok (.lload 6, 2) := by decide +kernel
theorem dL_isRollup_103 : decode cL_isRollup 103 = .ok (.lcmp, 1) := by decide +kernel
theorem dL_isRollup_104 : decode cL_isRollup 104 = .ok (.ifCond .gt 61, 3) := by decide +kernel
theorem dL_isRollup_107 : decode cL_isRollup 107 = .ok (.lload 6, 2) := by decide +kernel
theorem dL_isRollup_109 : decode cL_isRollup 109 = .ok (.iload 5, 2) := by decide +kernel
theorem dL_isRollup_111 : decode cL_isRollup 111 = .ok (.i2l, 1) := by decide +kernel
theorem dL_isRollup_112 : decode cL_isRollup 112 = .ok (.iload 9, 2) := by decide +kernel
theorem dL_isRollup_114 : decode cL_isRollup 114 = .ok (.i2l, 1) := by decide +kernel
theorem dL_isRollup_115 : decode cL_isRollup 115 = .ok (.lmul, 1) := by decide +kernel
theorem dL_isRollup_116 : decode cL_isRollup 116 = .ok (.lcmp, 1) := by decide +kernel
theorem dL_isRollup_117 : decode cL_isRollup 117 = .ok (.ifCond .gt 48, 3) := by decide +kernel
theorem dL_isRollup_120 : decode cL_isRollup 120 = .ok (.iload 5, 2) := by decide +kernel
theorem dL_isRollup_122 : decode cL_isRollup 122 = .ok (.iconst 1, 1) := by decide +kernel
theorem dL_isRollup_123 : decode cL_isRollup 123 = .ok (.if_icmp .gt 19, 3) := by decide +kernel
theorem dL_isRollup_126 : decode cL_isRollup 126 = .ok (.iload 10, 2) := by decide +kernel
theorem dL_isRollup_128 : decode cL_isRollup 128 = .ok (.iload 11, 2) := by decide +kernel
theorem dL_isRollup_130 : decode cL_isRollup 130 = .ok (.if_icmp .ne 35, 3) := by decide +kernel
theorem dL_isRollup_133 : decode cL_isRollup 133 = .ok (.lload 6, 2) := by decide +kernel
theorem dL_isRollup_135 : decode cL_isRollup 135 = .ok (.iload 10, 2) := by decide +kernel
theorem dL_isRollup_137 : decode cL_isRollup 137 = .ok (.i2l, 1) := by decide +kernel
theorem dL_isRollup_138 : decode cL_isRollup 138 = .ok (.lcmp, 1) := by decide +kernel
theorem dL_isRollup_139 : decode cL_isRollup 139 = .ok (.ifCond .ne 26, 3) := by decide +kernel
theorem dL_isRollup_142 : decode cL_isRollup 142 = .ok (.aload_n 0, 1) := by decide +kernel
theorem dL_isRollup_143 : decode cL_isRollup 143 = .ok (.iload_n 2, 1) := by decide +kernel
theorem dL_isRollup_144 : decode cL_isRollup 144 = .ok (.iload_n 3, 1) := by decide +kernel
theorem dL_isRollup_145 : decode cL_isRollup 145 = .ok (.iload 4, 2) := by decide +kernel
theorem dL_isRollup_147 : decode cL_isRollup 147 = .ok (.invokevirtual 78, 3) := by decide +kernel
theorem dL_isRollup_150 : decode cL_isRollup 150 = .ok (.lload 6, 2) := by decide +kernel
theorem dL_isRollup_152 : decode cL_isRollup 152 = .ok (.l2d, 1) := by decide +kernel
theorem dL_isRollup_153 : decode cL_isRollup 153 = .ok (.iload 5, 2) := by decide +kernel
theorem dL_isRollup_155 : decode cL_isRollup 155 = .ok (.i2d, 1) := by decide +kernel
theorem dL_isRollup_156 : decode cL_isRollup 156 = .ok (.ddiv, 1) := by decide +kernel
theorem dL_isRollup_157 : decode cL_isRollup 157 = .ok (.dcmp .l, 1) := by decide +kernel
theorem dL_isRollup_158 : decode cL_isRollup 158 = .ok (.ifCond .ne 7, 3) := by decide +kernel
theorem dL_isRollup_161 : decode cL_isRollup 161 = .ok (.iconst 1, 1) := by decide +kernel
theorem dL_isRollup_162 : decode cL_isRollup 162 = .ok (.goto 4, 3) := by decide +kernel
theorem dL_isRollup_165 : decode cL_isRollup 165 = .ok (.iconst 0, 1) := by decide +kernel
theorem dL_isRollup_166 : decode cL_isRollup 166 = .ok (.istore 12, 2) := by decide +kernel
theorem dL_isRollup_168 : decode cL_isRollup 168 = .ok (.iload_n 3, 1) := by decide +kernel
theorem dL_isRollup_169 : decode cL_isRollup 169 = .ok (.iconst 1, 1) := by decide +kernel
theorem dL_isRollup_170 : decode cL_isRollup 170 = .ok (.if_icmp .eq 21, 3) := by decide +kernel
theorem dL_isRollup_173 : decode cL_isRollup 173 = .ok (.aload_n 1, 1) := by decide +kernel
theorem dL_isRollup_174 : decode cL_isRollup 174 = .ok (.iload_n 3, 1) := by decide +kernel
theorem dL_isRollup_175 : decode cL_isRollup 175 = .ok (.iconst 1, 1) := by decide +kernel
theorem dL_isRollup_176 : decode cL_isRollup 176 = .ok (.isub, 1) := by decide +kernel
theorem dL_isRollup_177 : decode cL_isRollup 177 = .ok (.iload 4, 2) := by decide +kernel
theorem dL_isRollup_179 : decode cL_isRollup 179 = .ok (.i2l, 1) := by decide +kernel
theorem dL_isRollup_180 : decode cL_isRollup 180 = .ok (.invokestatic 65, 3) := by decide +kernel
theorem dL_isRollup_183 : decode cL_isRollup 183 = .ok (.ifCond .ne 8, 3) := by decide +kernel
theorem dL_isRollup_186 : decode cL_isRollup 186 = .ok (.iload 12, 2) := by decide +kernel
theorem dL_isRollup_188 : decode cL_isRollup 188 = .ok (.ifCond .ne 6, 3) := by decide +kernel
theorem dL_isRollup_191 : decode cL_isRollup 191 = .ok (.iload 12, 2) := by decide +kernel
theorem dL_isRollup_193 : decode cL_isRollup 193 = .ok (.ireturn, 1) := by decide +kernel
theorem dL_isRollup_194 : decode cL_isRollup 194 = .ok (.iconst 0, 1) := by decide +kernel
theorem dL_isRollup_195 : decode cL_isRollup 195 = .ok (.istore 13, 2) := by decide +kernel
theorem dL_isRollup_197 : decode cL_isRollup 197 = .ok (.lconst 0, 1) := by decide +kernel
theorem dL_isRollup_198 : decode cL_isRollup 198 = .ok (.lstore 14, 2) := by decide +kernel
theorem dL_isRollup_200 : decode cL_isRollup 200 = .ok (.ldc 82, 2) := by decide +kernel
theorem dL_isRollup_202 : decode cL_isRollup 202 = .ok (.istore 16, 2) := by decide +kernel
theorem dL_isRollup_204 : decode cL_isRollup 204 = .ok (.ldc 83, 2) := by decide +kernel
theorem dL_isRollup_206 : decode cL_isRollup 206 = .ok (.istore 17, 2) := by decide +kernel
theorem dL_isRollup_208 : decode cL_isRollup 208 = .ok (.iconst (-1), 1) := by decide +kernel
theorem dL_isRollup_209 : decode cL_isRollup 209 = .ok (.istore 18, 2) := by decide +kernel
theorem dL_isRollup_211 : decode cL_isRollup 211 = .ok (.iconst (-1), 1) := by decide +kernel
theorem dL_isRollup_212 : decode cL_isRollup 212 = .ok (.istore 19, 2) := by decide +kernel
theorem dL_isRollup_214 : decode cL_isRollup 214 = .ok (.iconst 0, 1) := by decide +kernel
theorem dL_isRollup_215 : decode cL_isRollup 215 = .ok (.istore 20, 2) := by decide +kernel
theorem dL_isRollup_217 : decode cL_isRollup 217 = .ok (.iload 20, 2) := by decide +kernel
theorem dL_isRollup_219 : decode cL_isRollup 219 = .ok (.aload_n 0, 1) := by decide +kernel
theorem dL_isRollup_220 : decode cL_isRollup 220 = .ok (.iload_n 2, 1) := by decide +kernel
theorem dL_isRollup_221 : decode cL_isRollup 221 = .ok (.iload_n 3, 1) := by decide +kernel
theorem dL_isRollup_222 : decode cL_isRollup 222 = .ok (.iconst 1, 1) := by decide +kernel
theorem dL_isRollup_223 : decode cL_isRollup 223 = .ok (.isub, 1) := by decide +kernel
theorem dL_isRollup_224 : decode cL_isRollup 224 = .ok (.invokevirtual 36, 3) := by decide +kernel
theorem dL_isRollup_227 : decode cL_isRollup 227 = .ok (.if_icmp .ge 152, 3) := by decide +kernel
theorem dL_isRollup_230 : decode cL_isRollup 230 = .ok (.aload_n 0, 1) := by decide +kernel
theorem dL_isRollup_231 : decode cL_isRollup 231 = .ok (.iload_n 2, 1) := by decide +kernel
theorem dL_isRollup_232 : decode cL_isRollup 232 = .ok (.iload_n 3, 1) := by decide +kernel
theorem dL_isRollup_233 : decode cL_isRollup 233 = .ok (.iconst 1, 1) := by decide +kernel
theorem dL_isRollup_234 : decode cL_isRollup 234 = .ok (.isub, 1) := by decide +kernel
theorem dL_isRollup_235 : decode cL_isRollup 235 = .ok (.iload 20, 2) := by decide +kernel
theorem dL_isRollup_237 : decode cL_isRollup 237 = .ok (.invokevirtual 39, 3) := by decide +kernel
theorem dL_isRollup_240 : decode cL_isRollup 240 = .ok (.istore 21, 2) := by decide +kernel
theorem dL_isRollup_242 : decode cL_isRollup 242 = .ok (.iload 21, 2) := by decide +kernel
theorem dL_isRollup_244 : decode cL_isRollup 244 = .ok (.iload 4, 2) := by decide +kernel
theorem dL_isRollup_246 : decode cL_isRollup 246 = .ok (.if_icmp .lt 127, 3) := by decide +kernel
theorem dL_isRollup_249 : decode cL_isRollup 249 = .ok (.iload 21, 2) := by decide +kernel
theorem dL_isRollup_251 : decode cL_isRollup 251 = .ok (.iload 4, 2) := by decide +kernel
theorem dL_isRollup_253 : decode cL_isRollup 253 = .ok (.iload_n 3, 1) := by decide +kernel
theorem dL_isRollup_254 : decode cL_isRollup 254 = .ok (.invokestatic 11, 3) := by decide +kernel
theorem dL_isRollup_257 : decode cL_isRollup 257 = .ok (.iadd, 1) := by decide +kernel
theorem dL_isRollup_258 : decode cL_isRollup 258 = .ok (.if_icmp .ge 115, 3) := by decide +kernel
theorem dL_isRollup_261 : decode cL_isRollup 261 = .ok (.iload 13, 2) := by decide +kernel
theorem dL_isRollup_263 : decode cL_isRollup 263 = .ok (.aload_n 0, 1) := by decide +kernel
theorem dL_isRollup_264 : decode cL_isRollup 264 = .ok (.iload_n 2, 1) := by decide +kernel
theorem dL_isRollup_265 : decode cL_isRollup 265 = .ok (.iload_n 3, 1) := by decide +kernel
theorem dL_isRollup_266 : decode cL_isRollup 266 = .ok (.iconst 1, 1) := by decide +kernel
theorem dL_isRollup_267 : decode cL_isRollup 267 = .ok (.isub, 1) := by decide +kernel
theorem dL_isRollup_268 : decode cL_isRollup 268 = .ok (.iload 21, 2) := by decide +kernel
theorem dL_isRollup_270 : decode cL_isRollup 270 = .ok (.invokevirtual 49, 3) := by decide +kernel
theorem dL_isRollup_273 : decode cL_isRollup 273 = .ok (.iadd, 1) := by decide +kernel
theorem dL_isRollup_274 : decode cL_isRollup 274 = .ok (.istore 13, 2) := by decide +kernel
theorem dL_isRollup_276 : decode cL_isRollup 276 = .ok (.lload 14, 2) := by decide +kernel
theorem dL_isRollup_278 : decode cL_isRollup 278 = .ok (.aload_n 0, 1) := by decide +kernel
theorem dL_isRollup_279 : decode cL_isRollup 279 = .ok (.iload_n 2, 1) := by decide +kernel
theorem dL_isRollup_280 : decode cL_isRollup 280 = .ok (.iload_n 3, 1) := by decide +kernel
theorem dL_isRollup_281 : decode cL_isRollup 281 = .ok (.iconst 1, 1) := by decide +kernel
theorem dL_isRollup_282 : decode cL_isRollup 282 = .ok (.isub, 1) := by decide +kernel
theorem dL_isRollup_283 : decode cL_isRollup 283 = .ok (.iload 21, 2) := by decide +kernel
theorem dL_isRollup_285 : decode cL_isRollup 285 = .ok (.invokevirtual 45, 3) := by decide +kernel
theorem dL_isRollup_288 : decode cL_isRollup 288 = .ok (.ladd, 1) := by decide +kernel
theorem dL_isRollup_289 : decode cL_isRollup 289 = .ok (.lstore 14, 2) := by decide +kernel
theorem dL_isRollup_291 : decode cL_isRollup 291 = .ok (.aload_n 0, 1) := by decide +kernel
theorem dL_isRollup_292 : decode cL_isRollup 292 = .ok (.iload_n 2, 1) := by decide +kernel
theorem dL_isRollup_293 : decode cL_isRollup 293 = .ok (.iload_n 3, 1) := by decide +kernel
theorem dL_isRollup_294 : decode cL_isRollup 294 = .ok (.iconst 1, 1) := by decide +kernel
theorem dL_isRollup_295 : decode cL_isRollup 295 = .ok (.isub, 1) := by decide +kernel
theorem dL_isRollup_296 : decode cL_isRollup 296 = .ok (.iload 21, 2) := by decide +kernel
theorem dL_isRollup_298 : decode cL_isRollup 298 = .ok (.invokevirtual 72, 3) := by decide +kernel
theorem dL_isRollup_301 : decode cL_isRollup 301 = .ok (.iload 16, 2) := by decide +kernel
theorem dL_isRollup_303 : decode cL_isRollup 303 = .ok (.if_icmp .ge 16, 3) := by decide +kernel
theorem dL_isRollup_306 : decode cL_isRollup 306 = .ok (.aload_n 0, 1) := by decide +kernel
theorem dL_isRollup_307 : decode cL_isRollup 307 = .ok (.iload_n 2, 1) := by decide +kernel
theorem dL_isRollup_308 : decode cL_isRollup 308 = .ok (.iload_n 3, 1) := by decide +kernel
theorem dL_isRollup_309 : decode cL_isRollup 309 = .ok (.iconst 1, 1) := by decide +kernel
theorem dL_isRollup_310 : decode cL_isRollup 310 = .ok (.isub, 1) := by decide +kernel
theorem dL_isRollup_311 : decode cL_isRollup 311 = .ok (.iload 21, 2) := by decide +kernel
theorem dL_isRollup_313 : decode cL_isRollup 313 = .ok (.invokevirtual 72, 3) := by decide +kernel
theorem dL_isRollup_316 : decode cL_isRollup 316 = .ok (.goto 5, 3) := by decide +kernel
theorem dL_isRollup_319 : decode cL_isRollup 319 = .ok (.iload 16, 2) := by decide +kernel
theorem dL_isRollup_321 : decode cL_isRollup 321 = .ok (.istore 16, 2) := by decide +kernel
theorem dL_isRollup_323 : decode cL_isRollup 323 = .ok (.aload_n 0, 1) := by decide +kernel
theorem dL_isRollup_324 : decode cL_isRollup 324 = .ok (.iload_n 2, 1) := by decide +kernel
theorem dL_isRollup_325 : decode cL_isRollup 325 = .ok (.iload_n 3, 1) := by decide +kernel
theorem dL_isRollup_326 : decode cL_isRollup 326 = .ok (.iconst 1, 1) := by decide +kernel
theorem dL_isRollup_327 : decode cL_isRollup 327 = .ok (.isub, 1) := by decide +kernel
theorem dL_isRollup_328 : decode cL_isRollup 328 = .ok (.iload 21, 2) := by decide +kernel
theorem dL_isRollup_330 : decode cL_isRollup 330 = .ok (.invokevirtual 75, 3) := by decide +kernel
theorem dL_isRollup_333 : decode cL_isRollup 333 = .ok (.iload 17, 2) := by decide +kernel
theorem dL_isRollup_335 : decode cL_isRollup 335 = .ok (.if_icmp .le 16, 3) := by decide +kernel
theorem dL_isRollup_338 : decode cL_isRollup 338 = .ok (.aload_n 0, 1) := by decide +kernel
theorem dL_isRollup_339 : decode cL_isRollup 339 = .ok (.iload_n 2, 1) := by decide +kernel
theorem dL_isRollup_340 : decode cL_isRollup 340 = .ok (.iload_n 3, 1) := by decide +kernel
theorem dL_isRollup_341 : decode cL_isRollup 341 = .ok (.iconst 1, 1) := by decide +kernel
theorem dL_isRollup_342 : decode cL_isRollup 342 = .ok (.isub, 1) := by decide +kernel
theorem dL_isRollup_343 : decode cL_isRollup 343 = .ok (.iload 21, 2) := by decide +kernel
theorem dL_isRollup_345 : decode cL_isRollup 345 = .ok (.invokevirtual 75, 3) := by decide +kernel
theorem dL_isRollup_348 : decode cL_isRollup 348 = .ok (.goto 5, 3) := by decide +kernel
theorem dL_isRollup_351 : decode cL_isRollup 351 = .ok (.iload 17, 2) := by decide +kernel
theorem dL_isRollup_353 : decode cL_isRollup 353 = .ok (.istore 17, 2) := by decide +kernel
theorem dL_isRollup_355 : decode cL_isRollup 355 = .ok (.iload 18, 2) := by decide +kernel
theorem dL_isRollup_357 : decode cL_isRollup 357 = .ok (.ifCond .ge 8, 3) := by decide +kernel
theorem dL_isRollup_360 : decode cL_isRollup 360 = .ok (.iload 21, 2) := by decide +kernel
theorem dL_isRollup_362 : decode cL_isRollup 362 = .ok (.goto 5, 3) := by decide +kernel
theorem dL_isRollup_365 : decode cL_isRollup 365 = .ok (.iload 18, 2) := by decide +kernel
theorem dL_isRollup_367 : decode cL_isRollup 367 = .ok (.istore 18, 2) := by decide +kernel
theorem dL_isRollup_369 : decode cL_isRollup 369 = .ok (.iload 21, 2) := by decide +kernel
theorem dL_isRollup_371 : decode cL_isRollup 371 = .ok (.istore 19, 2) := by decide +kernel
theorem dL_isRollup_373 : decode cL_isRollup 373 = .ok (.iinc 20 1, 3) := by decide +kernel
theorem dL_isRollup_376 : decode cL_isRollup 376 = .ok (.goto (-159), 3) := by decide +kernel
theorem dL_isRollup_379 : decode cL_isRollup 379 = .ok (.iload 13, 2) := by decide +kernel
theorem dL_isRollup_381 : decode cL_isRollup 381 = .ok (.iload 5, 2) := by decide +kernel
theorem dL_isRollup_383 : decode cL_isRollup 383 = .ok (.if_icmp .ne 59, 3) := by decide +kernel
theorem dL_isRollup_386 : decode cL_isRollup 386 = .ok (.lload 14, 2) := by decide +kernel
theorem dL_isRollup_388 : decode cL_isRollup 388 = .ok (.lload 6, 2) := by decide +kernel
theorem dL_isRollup_390 : decode cL_isRollup 390 = .ok (.lcmp, 1) := by decide +kernel
theorem dL_isRollup_391 : decode cL_isRollup 391 = .ok (.ifCond .ne 51, 3) := by decide +kernel
theorem dL_isRollup_394 : decode cL_isRollup 394 = .ok (.iload 16, 2) := by decide +kernel
theorem dL_isRollup_396 : decode cL_isRollup 396 = .ok (.iload 8, 2) := by decide +kernel
theorem dL_isRollup_398 : decode cL_isRollup 398 = .ok (.if_icmp .ne 44, 3) := by decide +kernel
theorem dL_isRollup_401 : decode cL_isRollup 401 = .ok (.iload 17, 2) := by decide +kernel
theorem dL_isRollup_403 : decode cL_isRollup 403 = .ok (.iload 9, 2) := by decide +kernel
theorem dL_isRollup_405 : decode cL_isRollup 405 = .ok (.if_icmp .ne 37, 3) := by decide +kernel
theorem dL_isRollup_408 : decode cL_isRollup 408 = .ok (.aload_n 0, 1) := by decide +kernel
theorem dL_isRollup_409 : decode cL_isRollup 409 = .ok (.iload_n 2, 1) := by decide +kernel
theorem dL_isRollup_410 : decode cL_isRollup 410 = .ok (.iload_n 3, 1) := by decide +kernel
theorem dL_isRollup_411 : decode cL_isRollup 411 = .ok (.iconst 1, 1) := by decide +kernel
theorem dL_isRollup_412 : decode cL_isRollup 412 = .ok (.isub, 1) := by decide +kernel
theorem dL_isRollup_413 : decode cL_isRollup 413 = .ok (.iload 18, 2) := by decide +kernel
theorem dL_isRollup_415 : decode cL_isRollup 415 = .ok (.invokevirtual 52, 3) := by decide +kernel
theorem dL_isRollup_418 : decode cL_isRollup 418 = .ok (.iload 10, 2) := by decide +kernel
theorem dL_isRollup_420 : decode cL_isRollup 420 = .ok (.if_icmp .ne 22, 3) := by decide +kernel
theorem dL_isRollup_423 : decode cL_isRollup 423 = .ok (.aload_n 0, 1) := by decide +kernel
theorem dL_isRollup_424 : decode cL_isRollup 424 = .ok (.iload_n 2, 1) := by decide +kernel
theorem dL_isRollup_425 : decode cL_isRollup 425 = .ok (.iload_n 3, 1) := by decide +kernel
theorem dL_isRollup_426 : decode cL_isRollup 426 = .ok (.iconst 1, 1) := by decide +kernel
theorem dL_isRollup_427 : decode cL_isRollup 427 = .ok (.isub, 1) := by decide +kernel
theorem dL_isRollup_428 : decode cL_isRollup 428 = .ok (.iload 19, 2) := by decide +kernel
theorem dL_isRollup_430 : decode cL_isRollup 430 = .ok (.invokevirtual 55, 3) := by decide +kernel
theorem dL_isRollup_433 : decode cL_isRollup 433 = .ok (.iload 11, 2) := by decide +kernel
theorem dL_isRollup_435 : decode cL_isRollup 435 = .ok (.if_icmp .ne 7, 3) := by decide +kernel
theorem dL_isRollup_438 : decode cL_isRollup 438 = .ok (.iconst 1, 1) := by decide +kernel
theorem dL_isRollup_439 : decode cL_isRollup 439 = .ok (.goto 4, 3) := by decide +kernel
theorem dL_isRollup_442 : decode cL_isRollup 442 = .ok (.iconst 0, 1) := by decide +kernel
theorem dL_isRollup_443 : decode cL_isRollup 443 = .ok (.ireturn, 1) := by decide +kernel
set_option maxRecDepth 400000 in
theorem ggL_areGaps_L_length : GoodIn wsL_areGaps wsL_length := goodIn_r _ [5, 6] rfl (by decide +kernel)
set_option maxRecDepth 20000 in
theorem gL_areGaps_L_length : GoodIn wsL_areGaps (va_wsS RL 11 yL_length wsL_length) := goodIn_app (goodIn_of _ (by decide +kernel)) ggL_areGaps_L_length
set_option maxRecDepth 400000 in
theorem ggL_areGaps_X5_clock : GoodIn wsL_areGaps wsX5_clock := goodIn_r _ [11, 12, 131, 132, 133, 134, 135, 136, 137] rfl (by decide +kernel)
set_option maxRecDepth 20000 in
theorem gL_areGaps_X5_clock : GoodIn wsL_areGaps (wsV RL 61 RX5 yX5_clock wsX5_clock) := goodIn_app (goodIn_of _ (by decide +kernel)) ggL_areGaps_X5_clock
set_option maxRecDepth 400000 in
theorem ggL_areGaps_L_isGone : GoodIn wsL_areGaps wsL_isGone := goodIn_r _ [15, 2, 3, 4, 5, 6] rfl (by decide +kernel)
set_option maxRecDepth 20000 in
theorem gL_areGaps_L_isGone : GoodIn wsL_areGaps (va_wsS RL 65 yL_isGone wsL_isGone) := goodIn_app (goodIn_of _ (by decide +kernel)) ggL_areGaps_L_isGone
set_option maxRecDepth 400000 in
theorem ggL_areGaps_X5_hasRollup : GoodIn wsL_areGaps wsX5_hasRollup := goodIn_ca (goodIn_ca (goodIn_r _ [19, 20, 21, 22, 10, 23, 24, 25, 26, 27, 28, 29, 30, 31, 32, 33, 34, 35, 36, 37, 38, 39, 40, 41, 42, 43, 44, 45, 46, 47, 48, 49, 50, 51, 52, 53, 54, 55, 56, 57, 58, 59, 60, 61, 62, 63, 64, 65, 66, 67, 68, 69, 70, 71, 131, 132, 133, 134, 135, 136, 137, 138, 139, 140, 141, 142, 143, 144, 145, 146, 147, 148, 149, 150, 151, 152, 153] rfl (by decide +kernel)) (goodIn_sub (fun _ h => List.mem_cons_of_mem _ (List.mem_append_left _ (List.mem_append_left _ (List.mem_append_right _ h)))) (by decide +kernel))) (goodIn_sub (fun _ h => List.mem_cons_of_mem _ (List.mem_append_left _ (List.mem_append_right _ h))) (by decide +kernel))
set_option maxRecDepth 20000 in
theorem gL_areGaps_X5_hasRollup : GoodIn wsL_areGaps (wsV RL 69 RX5 yX5_hasRollup wsX5_hasRollup) := goodIn_app (goodIn_of _ (by decide +kernel)) ggL_areGaps_X5_hasRollup
set_option maxRecDepth 400000 in
theorem ggL_areGaps_X5_rows : GoodIn wsL_areGaps wsX5_rows := goodIn_ca (goodIn_ca (goodIn_r _ [75, 30, 31, 32, 10, 33, 34, 35, 36, 37, 38, 39, 40, 28, 29, 76, 77, 78, 44, 79, 80, 81, 82, 83, 42, 43, 45, 46, 47, 48, 131, 132, 133, 134, 135, 136, 137, 138, 139, 140, 141, 142, 154, 155, 156, 151, 152, 153] rfl (by decide +kernel)) (goodIn_sub (fun _ h => List.mem_cons_of_mem _ (List.mem_append_left _ (List.mem_append_right _ h))) (by decide +kernel))) (goodIn_sub (fun _ h => List.mem_cons_of_mem _ (List.mem_append_left _ (List.mem_append_left _ (List.mem_append_right _ h)))) (by decide +kernel))
set_option maxRecDepth 20000 in
theorem gL_areGaps_X5_rows : GoodIn wsL_areGaps (wsV RL 36 RX5 yX5_rows wsX5_rows) := goodIn_app (goodIn_of _ (by decide +kernel)) ggL_areGaps_X5_rows
set_option maxRecDepth 400000 in
theorem ggL_areGaps_X5_timeOf : GoodIn wsL_areGaps wsX5_timeOf := goodIn_ca (goodIn_ca (goodIn_ca (goodIn_r _ [87, 88, 89, 90, 91, 30, 31, 32, 10, 33, 34, 35, 36, 37, 38, 39, 40, 28, 29, 92, 93, 94, 95, 96, 41, 42, 43, 44, 45, 46, 47, 48, 97, 67, 68, 59, 69, 70, 71, 138, 139, 140, 141, 142, 143, 144, 145, 146, 147, 148, 149, 150, 131, 132, 133, 134, 135, 136, 137, 154, 155, 156, 151, 152, 153] rfl (by decide +kernel)) (goodIn_sub (fun _ h => List.mem_cons_of_mem _ (List.mem_append_right _ h)) (by decide +kernel))) (goodIn_sub (fun _ h => List.mem_cons_of_mem _ (List.mem_append_left _ (List.mem_append_right _ h))) (by decide +kernel))) (goodIn_sub (fun _ h => List.mem_cons_of_mem _ (List.mem_append_left _ (List.mem_append_left _ (List.mem_append_right _ h)))) (by decide +kernel))
set_option maxRecDepth 20000 in
theorem gL_areGaps_X5_timeOf : GoodIn wsL_areGaps (wsV RL 39 RX5 yX5_timeOf wsX5_timeOf) := goodIn_app (goodIn_of _ (by decide +kernel)) ggL_areGaps_X5_timeOf
set_option maxRecDepth 400000 in
theorem ggL_areGaps_X5_gaps : GoodIn wsL_areGaps wsX5_gaps := goodIn_ca (goodIn_ca (goodIn_r _ [101, 102, 103, 104, 105, 106, 24, 25, 26, 10, 27, 28, 29, 30, 31, 32, 33, 34, 35, 36, 37, 38, 39, 40, 41, 42, 43, 44, 45, 46, 47, 48, 52, 53, 54, 55, 107, 108, 109, 49, 50, 51, 110, 63, 64, 59, 65, 61, 66, 67, 68, 69, 70, 71, 131, 132, 133, 134, 135, 136, 137, 138, 139, 140, 141, 142, 143, 144, 145, 146, 147, 148, 149, 150, 151, 152, 153] rfl (by decide +kernel)) (goodIn_sub (fun _ h => List.mem_cons_of_mem _ (List.mem_append_left _ (List.mem_append_left _ (List.mem_append_right _ h)))) (by decide +kernel))) (goodIn_sub (fun _ h => List.mem_cons_of_mem _ (List.mem_append_left _ (List.mem_append_right _ h))) (by decide +kernel))
set_option maxRecDepth 20000 in
theorem gL_areGaps_X5_gaps : GoodIn wsL_areGaps (wsV RL 84 RX5 yX5_gaps wsX5_gaps) := goodIn_app (goodIn_of _ (by decide +kernel)) ggL_areGaps_X5_gaps
set_option maxRecDepth 400000 in
theorem ggL_areGaps_L_filled : GoodIn wsL_areGaps wsL_filled := goodIn_ca (goodIn_ca (goodIn_ca (goodIn_r _ [113, 114, 1, 115, 116, 117, 10, 118, 88, 89, 91, 119, 24, 25, 26, 27, 28, 29, 30, 31, 32, 33, 34, 35, 36, 37, 38, 39, 40, 41, 42, 43, 44, 45, 46, 47, 48, 49, 50, 51, 52, 53, 54, 55, 110, 63, 64, 59, 65, 61, 66, 67, 68, 69, 70, 71, 97, 120, 121, 122, 103, 104, 105, 106, 143, 144, 145, 146, 147, 148, 149, 150, 131, 132, 133, 134, 135, 136, 137, 138, 139, 140, 141, 142, 151, 152, 153] rfl (by decide +kernel)) (goodIn_sub (fun _ h => List.mem_cons_of_mem _ (List.mem_append_right _ h)) (by decide +kernel))) (goodIn_sub (fun _ h => List.mem_cons_of_mem _ (List.mem_append_left _ (List.mem_append_left _ (List.mem_append_right _ h)))) (by decide +kernel))) (goodIn_sub (fun _ h => List.mem_cons_of_mem _ (List.mem_append_left _ (List.mem_append_right _ h))) (by decide +kernel))
set_option maxRecDepth 20000 in
theorem gL_areGaps_L_filled : GoodIn wsL_areGaps (va_wsS RL 87 yL_filled wsL_filled) := goodIn_app (goodIn_of _ (by decide +kernel)) ggL_areGaps_L_filled
set_option maxRecDepth 400000 in
theorem ggL_areGaps_X5_last : GoodIn wsL_areGaps wsX5_last := goodIn_ca (goodIn_ca (goodIn_ca (goodIn_r _ [126, 119, 127, 128, 129, 10, 130, 88, 89, 20, 21, 22, 23, 24, 25, 26, 27, 28, 29, 30, 31, 32, 33, 34, 35, 36, 37, 38, 39, 40, 41, 42, 43, 44, 45, 46, 47, 48, 49, 50, 51, 52, 53, 54, 55, 56, 57, 58, 59, 60, 61, 62, 63, 64, 65, 66, 67, 68, 69, 70, 71, 143, 144, 145, 146, 147, 148, 149, 150, 131, 132, 133, 134, 135, 136, 137, 138, 139, 140, 141, 142, 151, 152, 153] rfl (by decide +kernel)) (goodIn_sub (fun _ h => List.mem_cons_of_mem _ (List.mem_append_right _ h)) (by decide +kernel))) (goodIn_sub (fun _ h => List.mem_cons_of_mem _ (List.mem_append_left _ (List.mem_append_left _ (List.mem_append_right _ h)))) (by decide +kernel))) (goodIn_sub (fun _ h => List.mem_cons_of_mem _ (List.mem_append_left _ (List.mem_append_right _ h))) (by decide +kernel))
set_option maxRecDepth 20000 in
theorem gL_areGaps_X5_last : GoodIn wsL_areGaps (wsV RL 55 RX5 yX5_last wsX5_last) := goodIn_app (goodIn_of _ (by decide +kernel)) ggL_areGaps_X5_last
theorem dL_areGaps_0 : decode cL_areGaps 0 = .ok (.iload_n 3, 1) := by decide +kernel
theorem dL_areGaps_1 : decode cL_areGaps 1 = .ok (.invokestatic 11, 3) := by decide +kernel
theorem dL_areGaps_4 : decode cL_areGaps 4 = .ok (.istore 5, 2) := by decide +kernel
theorem dL_areGaps_6 : decode cL_areGaps 6 = .ok (.iload 4, 2) := by decide +kernel
theorem dL_areGaps_8 : decode cL_areGaps 8 = .ok (.aload_n 0, 1) := by decide +kernel
theorem dL_areGaps_9 : decode cL_areGaps 9 = .ok (.invokevirtual 61, 3) := by decide +kernel
theorem dL_areGaps_12 : decode cL_areGaps 12 = .ok (.iload 5, 2) := by decide +kernel
theorem dL_areGaps_14 : decode cL_areGaps 14 = .ok (.idiv, 1) := by decide +kernel
theorem dL_areGaps_15 : decode cL_areGaps 15 = .ok (.iconst 2, 1) := by decide +kernel
theorem dL_areGaps_16 : decode cL_areGaps 16 = .ok (.iadd, 1) := by decide +kernel
theorem dL_areGaps_17 : decode cL_areGaps 17 = .ok (.irem, 1) := by decide +kernel
theorem dL_areGaps_18 : decode cL_areGaps 18 = .ok (.iload 5, 2) := by decide +kernel
theorem dL_areGaps_20 : decode cL_areGaps 20 = .ok (.imul, 1) := by decide +kernel
theorem dL_areGaps_21 : decode cL_areGaps 21 = .ok (.istore 6, 2) := by decide +kernel
theorem dL_areGaps_23 : decode cL_areGaps 23 = .ok (.iload 6, 2) := by decide +kernel
theorem dL_areGaps_25 : decode cL_areGaps 25 = .ok (.iload 4, 2) := by decide +kernel
theorem dL_areGaps_27 : decode cL_areGaps 27 = .ok (.sipush 1000, 3) := by decide +kernel
theorem dL_areGaps_30 : decode cL_areGaps 30 = .ok (.idiv, 1) := by decide +kernel
theorem dL_areGaps_31 : decode cL_areGaps 31 = .ok (.bipush 50, 2) := by decide +kernel
theorem dL_areGaps_33 : decode cL_areGaps 33 = .ok (.irem, 1) := by decide +kernel
theorem dL_areGaps_34 : decode cL_areGaps 34 = .ok (.iload 5, 2) := by decide +kernel
theorem dL_areGaps_36 : decode cL_areGaps 36 = .ok (.imul, 1) := by decide +kernel
theorem dL_areGaps_37 : decode cL_areGaps 37 = .ok (.iadd, 1) := by decide +kernel
theorem dL_areGaps_38 : decode cL_areGaps 38 = .ok (.istore 7, 2) := by decide +kernel
theorem dL_areGaps_40 : decode cL_areGaps 40 = .ok (.iconst 0, 1) := by decide +kernel
theorem dL_areGaps_41 : decode cL_areGaps 41 = .ok (.istore 8, 2) := by decide +kernel
theorem dL_areGaps_43 : decode cL_areGaps 43 = .ok (.iload 6, 2) := by decide +kernel
theorem dL_areGaps_45 : decode cL_areGaps 45 = .ok (.istore 9, 2) := by decide +kernel
theorem dL_areGaps_47 : decode cL_areGaps 47 = .ok (.iload 9, 2) := by decide +kernel
theorem dL_areGaps_49 : decode cL_areGaps 49 = .ok (.iload 7, 2) := by decide +kernel
theorem dL_areGaps_51 : decode cL_areGaps 51 = .ok (.if_icmp .ge 45, 3) := by decide +kernel
theorem dL_areGaps_54 : decode cL_areGaps 54 = .ok (.iload 8, 2) := by decide +kernel
theorem dL_areGaps_56 : decode cL_areGaps 56 = .ok (.aload_n 1, 1) := by decide +kernel
theorem dL_areGaps_57 : decode cL_areGaps 57 = .ok (.iload_n 3, 1) := by decide +kernel
theorem dL_areGaps_58 : decode cL_areGaps 58 = .ok (.iload 9, 2) := by decide +kernel
theorem dL_areGaps_60 : decode cL_areGaps 60 = .ok (.i2l, 1) := by decide +kernel
theorem dL_areGaps_61 : decode cL_areGaps 61 = .ok (.invokestatic 65, 3) := by decide +kernel
theorem dL_areGaps_64 : decode cL_areGaps 64 = .ok (.ifCond .ne 18, 3) := by decide +kernel
theorem dL_areGaps_67 : decode cL_areGaps 67 = .ok (.aload_n 0, 1) := by decide +kernel
theorem dL_areGaps_68 : decode cL_areGaps 68 = .ok (.iload_n 2, 1) := by decide +kernel
theorem dL_areGaps_69 : decode cL_areGaps 69 = .ok (.iload_n 3, 1) := by decide +kernel
theorem dL_areGaps_70 : decode cL_areGaps 70 = .ok (.iload 9, 2) := by decide +kernel
theorem dL_areGaps_72 : decode cL_areGaps 72 = .ok (.invokevirtual 69, 3) := by decide +kernel
theorem dL_areGaps_75 : decode cL_areGaps 75 = .ok (.ifCond .ne 7, 3) := by decide +kernel
theorem dL_areGaps_78 : decode cL_areGaps 78 = .ok (.iconst 1, 1) := by decide +kernel
theorem dL_areGaps_79 : decode cL_areGaps 79 = .ok (.goto 4, 3) := by decide +kernel
theorem dL_areGaps_82 : decode cL_areGaps 82 = .ok (.iconst 0, 1) := by decide +kernel
theorem dL_areGaps_83 : decode cL_areGaps 83 = .ok (.iadd, 1) := by decide +kernel
theorem dL_areGaps_84 : decode cL_areGaps 84 = .ok (.istore 8, 2) := by decide +kernel
