theorem dX5_valueBetween_40 : decode cX5_valueBetween 40 = .ok (.lmul, 1) := by decide +kernel
theorem dX5_valueBetween_41 : decode cX5_valueBetween 41 = .ok (.lload 5, 2) := by decide +kernel
theorem dX5_valueBetween_43 : decode cX5_valueBetween 43 = .ok (.ldiv, 1) := by decide +kernel
theorem dX5_valueBetween_44 : decode cX5_valueBetween 44 = .ok (.ladd, 1) := by decide +kernel
theorem dX5_valueBetween_45 : decode cX5_valueBetween 45 = .ok (.l2i, 1) := by decide +kernel
theorem dX5_valueBetween_46 : decode cX5_valueBetween 46 = .ok (.ireturn, 1) := by decide +kernel
set_option maxRecDepth 400000 in
theorem ggX5_moveHorizon_X5_seriesAt : GoodIn wsX5_moveHorizon wsX5_seriesAt := goodIn_ca (goodIn_r _ [13, 14, 15, 8, 16, 71, 72, 73, 74, 75, 76, 77] rfl (by decide +kernel)) (goodIn_sub (fun _ h => List.mem_cons_of_mem _ (List.mem_append_right _ h)) (by decide +kernel))
set_option maxRecDepth 20000 in
theorem gX5_moveHorizon_X5_seriesAt : GoodIn wsX5_moveHorizon (wsV RX5 57 RX5 yX5_seriesAt wsX5_seriesAt) := goodIn_app (goodIn_of _ (by decide +kernel)) ggX5_moveHorizon_X5_seriesAt
set_option maxRecDepth 400000 in
theorem ggX5_moveHorizon_X3_expire : GoodIn wsX5_moveHorizon wsX3_expire := goodIn_r _ [21, 22, 23, 24, 25, 26, 27, 28, 29, 30, 31, 32, 33, 34, 35, 36, 37, 38, 39, 40, 41, 42, 43, 44, 45, 20, 46, 47, 48, 49, 50, 51, 52, 53, 54, 55, 56, 57, 58, 59, 60, 61, 62, 63, 64, 65, 66, 67, 68, 69, 70, 78, 79, 80, 81, 82, 83, 84, 85, 86, 87, 88, 89, 90, 91, 92, 93, 94, 95, 96] rfl (by decide +kernel)
set_option maxRecDepth 20000 in
theorem gX5_moveHorizon_X3_expire : GoodIn wsX5_moveHorizon (wsV RX5 263 RX3 yX3_expire wsX3_expire) := goodIn_app (goodIn_of _ (by decide +kernel)) ggX5_moveHorizon_X3_expire
theorem dX5_moveHorizon_0 : decode cX5_moveHorizon 0 = .ok (.aload_n 0, 1) := by decide +kernel
theorem dX5_moveHorizon_1 : decode cX5_moveHorizon 1 = .ok (.getfield 22, 3) := by decide +kernel
theorem dX5_moveHorizon_4 : decode cX5_moveHorizon 4 = .ok (.iload_n 1, 1) := by decide +kernel
theorem dX5_moveHorizon_5 : decode cX5_moveHorizon 5 = .ok (.aload_n 0, 1) := by decide +kernel
theorem dX5_moveHorizon_6 : decode cX5_moveHorizon 6 = .ok (.getfield 22, 3) := by decide +kernel
theorem dX5_moveHorizon_9 : decode cX5_moveHorizon 9 = .ok (.iload_n 1, 1) := by decide +kernel
theorem dX5_moveHorizon_10 : decode cX5_moveHorizon 10 = .ok (.iaload, 1) := by decide +kernel
theorem dX5_moveHorizon_11 : decode cX5_moveHorizon 11 = .ok (.aload_n 0, 1) := by decide +kernel
theorem dX5_moveHorizon_12 : decode cX5_moveHorizon 12 = .ok (.getfield 105, 3) := by decide +kernel
theorem dX5_moveHorizon_15 : decode cX5_moveHorizon 15 = .ok (.aload_n 0, 1) := by decide +kernel
theorem dX5_moveHorizon_16 : decode cX5_moveHorizon 16 = .ok (.getfield 18, 3) := by decide +kernel
theorem dX5_moveHorizon_19 : decode cX5_moveHorizon 19 = .ok (.iload_n 1, 1) := by decide +kernel
theorem dX5_moveHorizon_20 : decode cX5_moveHorizon 20 = .ok (.iaload, 1) := by decide +kernel
theorem dX5_moveHorizon_21 : decode cX5_moveHorizon 21 = .ok (.isub, 1) := by decide +kernel
theorem dX5_moveHorizon_22 : decode cX5_moveHorizon 22 = .ok (.invokestatic 157, 3) := by decide +kernel
theorem dX5_moveHorizon_25 : decode cX5_moveHorizon 25 = .ok (.iastore, 1) := by decide +kernel
theorem dX5_moveHorizon_26 : decode cX5_moveHorizon 26 = .ok (.iconst 0, 1) := by decide +kernel
theorem dX5_moveHorizon_27 : decode cX5_moveHorizon 27 = .ok (.istore_n 2, 1) := by decide +kernel
theorem dX5_moveHorizon_28 : decode cX5_moveHorizon 28 = .ok (.iconst 0, 1) := by decide +kernel
theorem dX5_moveHorizon_29 : decode cX5_moveHorizon 29 = .ok (.istore_n 3, 1) := by decide +kernel
theorem dX5_moveHorizon_30 : decode cX5_moveHorizon 30 = .ok (.iload_n 3, 1) := by decide +kernel
theorem dX5_moveHorizon_31 : decode cX5_moveHorizon 31 = .ok (.aload_n 0, 1) := by decide +kernel
theorem dX5_moveHorizon_32 : decode cX5_moveHorizon 32 = .ok (.getfield 43, 3) := by decide +kernel
theorem dX5_moveHorizon_35 : decode cX5_moveHorizon 35 = .ok (.if_icmp .ge 27, 3) := by decide +kernel
theorem dX5_moveHorizon_38 : decode cX5_moveHorizon 38 = .ok (.iload_n 2, 1) := by decide +kernel
theorem dX5_moveHorizon_39 : decode cX5_moveHorizon 39 = .ok (.aload_n 0, 1) := by decide +kernel
theorem dX5_moveHorizon_40 : decode cX5_moveHorizon 40 = .ok (.iload_n 3, 1) := by decide +kernel
theorem dX5_moveHorizon_41 : decode cX5_moveHorizon 41 = .ok (.invokevirtual 57, 3) := by decide +kernel
theorem dX5_moveHorizon_44 : decode cX5_moveHorizon 44 = .ok (.iload_n 1, 1) := by decide +kernel
theorem dX5_moveHorizon_45 : decode cX5_moveHorizon 45 = .ok (.aload_n 0, 1) := by decide +kernel
theorem dX5_moveHorizon_46 : decode cX5_moveHorizon 46 = .ok (.getfield 22, 3) := by decide +kernel
theorem dX5_moveHorizon_49 : decode cX5_moveHorizon 49 = .ok (.iload_n 1, 1) := by decide +kernel
theorem dX5_moveHorizon_50 : decode cX5_moveHorizon 50 = .ok (.iaload, 1) := by decide +kernel
theorem dX5_moveHorizon_51 : decode cX5_moveHorizon 51 = .ok (.invokevirtual 263, 3) := by decide +kernel
theorem dX5_moveHorizon_54 : decode cX5_moveHorizon 54 = .ok (.iadd, 1) := by decide +kernel
theorem dX5_moveHorizon_55 : decode cX5_moveHorizon 55 = .ok (.istore_n 2, 1) := by decide +kernel
theorem dX5_moveHorizon_56 : decode cX5_moveHorizon 56 = .ok (.iinc 3 1, 3) := by decide +kernel
theorem dX5_moveHorizon_59 : decode cX5_moveHorizon 59 = .ok (.goto (-29), 3) := by decide +kernel
theorem dX5_moveHorizon_62 : decode cX5_moveHorizon 62 = .ok (.iload_n 2, 1) := by decide +kernel
theorem dX5_moveHorizon_63 : decode cX5_moveHorizon 63 = .ok (.ireturn, 1) := by decide +kernel
set_option maxRecDepth 400000 in
theorem ggX5_summarize_X4_cut : GoodIn wsX5_summarize wsX4_cut := goodIn_r _ [10, 11, 12, 13, 14, 15, 16, 17, 18, 9, 19, 20, 21, 22, 23, 24, 96, 97, 98, 99, 100, 101] rfl (by decide +kernel)
set_option maxRecDepth 20000 in
theorem gX5_summarize_X4_cut : GoodIn wsX5_summarize (wsV RX5 191 RX4 yX4_cut wsX4_cut) := goodIn_app (goodIn_of _ (by decide +kernel)) ggX5_summarize_X4_cut
set_option maxRecDepth 400000 in
theorem ggX5_summarize_X4_hasExpiredPart : GoodIn wsX5_summarize wsX4_hasExpiredPart := goodIn_r _ [28, 11, 20, 14, 15, 13, 21, 12, 29, 30, 9, 31, 96, 97, 98, 99, 100, 101] rfl (by decide +kernel)
set_option maxRecDepth 20000 in
theorem gX5_summarize_X4_hasExpiredPart : GoodIn wsX5_summarize (wsV RX5 198 RX4 yX4_hasExpiredPart wsX4_hasExpiredPart) := goodIn_app (goodIn_of _ (by decide +kernel)) ggX5_summarize_X4_hasExpiredPart
set_option maxRecDepth 400000 in
theorem ggX5_summarize_X1_clear : GoodIn wsX5_summarize wsX1_clear := goodIn_r _ [36, 37, 38, 39, 102, 103, 104, 105, 106, 107, 108, 109] rfl (by decide +kernel)
set_option maxRecDepth 20000 in
theorem gX5_summarize_X1_clear : GoodIn wsX5_summarize (wsV RX5 207 RX1 yX1_clear wsX1_clear) := goodIn_app (goodIn_of _ (by decide +kernel)) ggX5_summarize_X1_clear
set_option maxRecDepth 400000 in
theorem ggX5_summarize_X3_addTo : GoodIn wsX5_summarize wsX3_addTo := goodIn_r _ [44, 45, 46, 47, 48, 49, 50, 51, 52, 53, 54, 55, 56, 57, 58, 59, 60, 61, 62, 63, 64, 65, 66, 67, 68, 69, 70, 71, 72, 35, 73, 37, 74, 75, 76, 77, 78, 79, 80, 81, 82, 83, 84, 38, 39, 85, 86, 87, 88, 110, 111, 112, 113, 114, 96, 97, 98, 99, 100, 101, 115, 116, 117, 102, 103, 104, 105, 106, 107, 108, 109] rfl (by decide +kernel)
set_option maxRecDepth 20000 in
theorem gX5_summarize_X3_addTo : GoodIn wsX5_summarize (wsV RX5 268 RX3 yX3_addTo wsX3_addTo) := goodIn_app (goodIn_of _ (by decide +kernel)) ggX5_summarize_X3_addTo
theorem dX5_summarize_0 : decode cX5_summarize 0 = .ok (.aload_n 0, 1) := by decide +kernel
theorem dX5_summarize_1 : decode cX5_summarize 1 = .ok (.getfield 28, 3) := by decide +kernel
theorem dX5_summarize_4 : decode cX5_summarize 4 = .ok (.iload_n 2, 1) := by decide +kernel
theorem dX5_summarize_5 : decode cX5_summarize 5 = .ok (.iload_n 3, 1) := by decide +kernel
theorem dX5_summarize_6 : decode cX5_summarize 6 = .ok (.invokevirtual 191, 3) := by decide +kernel
theorem dX5_summarize_9 : decode cX5_summarize 9 = .ok (.aload_n 0, 1) := by decide +kernel
theorem dX5_summarize_10 : decode cX5_summarize 10 = .ok (.getfield 28, 3) := by decide +kernel
theorem dX5_summarize_13 : decode cX5_summarize 13 = .ok (.aload_n 0, 1) := by decide +kernel
theorem dX5_summarize_14 : decode cX5_summarize 14 = .ok (.getfield 22, 3) := by decide +kernel
theorem dX5_summarize_17 : decode cX5_summarize 17 = .ok (.invokevirtual 198, 3) := by decide +kernel
theorem dX5_summarize_20 : decode cX5_summarize 20 = .ok (.ifCond .eq 14, 3) := by decide +kernel
theorem dX5_summarize_23 : decode cX5_summarize 23 = .ok (.new 47, 3) := by decide +kernel
theorem dX5_summarize_26 : decode cX5_summarize 26 = .ok (.dup, 1) := by decide +kernel
theorem dX5_summarize_27 : decode cX5_summarize 27 = .ok (.ldc_w 266, 3) := by decide +kernel
theorem dX5_summarize_30 : decode cX5_summarize 30 = .ok (.invokespecial 51, 3) := by decide +kernel
theorem dX5_summarize_33 : decode cX5_summarize 33 = .ok (.athrow, 1) := by decide +kernel
theorem dX5_summarize_34 : decode cX5_summarize 34 = .ok (.aload_n 0, 1) := by decide +kernel
theorem dX5_summarize_35 : decode cX5_summarize 35 = .ok (.getfield 35, 3) := by decide +kernel
theorem dX5_summarize_38 : decode cX5_summarize 38 = .ok (.invokevirtual 207, 3) := by decide +kernel
theorem dX5_summarize_41 : decode cX5_summarize 41 = .ok (.aload_n 1, 1) := by decide +kernel
theorem dX5_summarize_42 : decode cX5_summarize 42 = .ok (.aload_n 0, 1) := by decide +kernel
theorem dX5_summarize_43 : decode cX5_summarize 43 = .ok (.getfield 35, 3) := by decide +kernel
theorem dX5_summarize_46 : decode cX5_summarize 46 = .ok (.aload_n 0, 1) := by decide +kernel
theorem dX5_summarize_47 : decode cX5_summarize 47 = .ok (.getfield 28, 3) := by decide +kernel
theorem dX5_summarize_50 : decode cX5_summarize 50 = .ok (.invokevirtual 268, 3) := by decide +kernel
theorem dX5_summarize_53 : decode cX5_summarize 53 = .ok (.return_, 1) := by decide +kernel
set_option maxRecDepth 400000 in
theorem ggX5_increaseIn_X5_summarize : GoodIn wsX5_increaseIn wsX5_summarize := goodIn_ca (goodIn_r _ [10, 1, 2, 11, 12, 4, 13, 14, 15, 16, 17, 18, 19, 20, 21, 22, 23, 24, 25, 26, 27, 28, 29, 30, 31, 32, 33, 34, 35, 36, 37, 38, 39, 40, 41, 42, 43, 44, 45, 46, 47, 48, 49, 50, 51, 52, 53, 54, 55, 56, 57, 58, 59, 60, 61, 62, 63, 64, 65, 66, 67, 68, 69, 70, 71, 72, 73, 74, 75, 76, 77, 78, 79, 80, 81, 82, 83, 84, 85, 86, 87, 88, 89, 90, 91, 92, 93, 94, 95, 101, 102, 103, 104, 105, 106, 107, 116, 117, 118, 119, 120, 121, 108, 109, 110, 111, 112, 113, 114, 115, 96, 97, 98, 99, 100, 122, 123, 124] rfl (by decide +kernel)) (goodIn_sub (fun _ h => List.mem_cons_of_mem _ (List.mem_append_right _ h)) (by decide +kernel))
set_option maxRecDepth 20000 in
theorem gX5_increaseIn_X5_summarize : GoodIn wsX5_increaseIn (wsV RX5 202 RX5 yX5_summarize wsX5_summarize) := goodIn_app (goodIn_of _ (by decide +kernel)) ggX5_increaseIn_X5_summarize
theorem dX5_increaseIn_0 : decode cX5_increaseIn 0 = .ok (.aload_n 1, 1) := by decide +kernel
theorem dX5_increaseIn_1 : decode cX5_increaseIn 1 = .ok (.getfield 237, 3) := by decide +kernel
theorem dX5_increaseIn_4 : decode cX5_increaseIn 4 = .ok (.iconst 1, 1) := by decide +kernel
theorem dX5_increaseIn_5 : decode cX5_increaseIn 5 = .ok (.if_icmp .eq 14, 3) := by decide +kernel
theorem dX5_increaseIn_8 : decode cX5_increaseIn 8 = .ok (.new 47, 3) := by decide +kernel
theorem dX5_increaseIn_11 : decode cX5_increaseIn 11 = .ok (.dup, 1) := by decide +kernel
theorem dX5_increaseIn_12 : decode cX5_increaseIn 12 = .ok (.ldc_w 271, 3) := by decide +kernel
theorem dX5_increaseIn_15 : decode cX5_increaseIn 15 = .ok (.invokespecial 51, 3) := by decide +kernel
theorem dX5_increaseIn_18 : decode cX5_increaseIn 18 = .ok (.athrow, 1) := by decide +kernel
theorem dX5_increaseIn_19 : decode cX5_increaseIn 19 = .ok (.aload_n 0, 1) := by decide +kernel
theorem dX5_increaseIn_20 : decode cX5_increaseIn 20 = .ok (.aload_n 1, 1) := by decide +kernel
theorem dX5_increaseIn_21 : decode cX5_increaseIn 21 = .ok (.iload_n 2, 1) := by decide +kernel
theorem dX5_increaseIn_22 : decode cX5_increaseIn 22 = .ok (.iload_n 3, 1) := by decide +kernel
theorem dX5_increaseIn_23 : decode cX5_increaseIn 23 = .ok (.invokevirtual 202, 3) := by decide +kernel
theorem dX5_increaseIn_26 : decode cX5_increaseIn 26 = .ok (.aload_n 0, 1) := by decide +kernel
theorem dX5_increaseIn_27 : decode cX5_increaseIn 27 = .ok (.getfield 35, 3) := by decide +kernel
theorem dX5_increaseIn_30 : decode cX5_increaseIn 30 = .ok (.getfield 273, 3) := by decide +kernel
theorem dX5_increaseIn_33 : decode cX5_increaseIn 33 = .ok (.lreturn, 1) := by decide +kernel
theorem dX6_init_0 : decode cX6_init 0 = .ok (.aload_n 0, 1) := by decide +kernel
theorem dX6_init_1 : decode cX6_init 1 = .ok (.invokespecial 1, 3) := by decide +kernel
theorem dX6_init_4 : decode cX6_init 4 = .ok (.aload_n 0, 1) := by decide +kernel
theorem dX6_init_5 : decode cX6_init 5 = .ok (.iconst 4, 1) := by decide +kernel
theorem dX6_init_6 : decode cX6_init 6 = .ok (.newarray .int, 2) := by decide +kernel
theorem dX6_init_8 : decode cX6_init 8 = .ok (.putfield 7, 3) := by decide +kernel
theorem dX6_init_11 : decode cX6_init 11 = .ok (.aload_n 0, 1) := by decide +kernel
theorem dX6_init_12 : decode cX6_init 12 = .ok (.iconst 4, 1) := by decide +kernel
theorem dX6_init_13 : decode cX6_init 13 = .ok (.newarray .int, 2) := by decide +kernel
theorem dX6_init_15 : decode cX6_init 15 = .ok (.putfield 13, 3) := by decide +kernel
theorem dX6_init_18 : decode cX6_init 18 = .ok (.aload_n 0, 1) := by decide +kernel
theorem dX6_init_19 : decode cX6_init 19 = .ok (.iconst 4, 1) := by decide +kernel
theorem dX6_init_20 : decode cX6_init 20 = .ok (.newarray .int, 2) := by decide +kernel
theorem dX6_init_22 : decode cX6_init 22 = .ok (.putfield 16, 3) := by decide +kernel
theorem dX6_init_25 : decode cX6_init 25 = .ok (.aload_n 0, 1) := by decide +kernel
theorem dX6_init_26 : decode cX6_init 26 = .ok (.sipush 10300, 3) := by decide +kernel
theorem dX6_init_29 : decode cX6_init 29 = .ok (.newarray .int, 2) := by decide +kernel
theorem dX6_init_31 : decode cX6_init 31 = .ok (.putfield 19, 3) := by decide +kernel
theorem dX6_init_34 : decode cX6_init 34 = .ok (.aload_n 0, 1) := by decide +kernel
theorem dX6_init_35 : decode cX6_init 35 = .ok (.sipush 10300, 3) := by decide +kernel
theorem dX6_init_38 : decode cX6_init 38 = .ok (.newarray .int, 2) := by decide +kernel
theorem dX6_init_40 : decode cX6_init 40 = .ok (.putfield 22, 3) := by decide +kernel
theorem dX6_init_43 : decode cX6_init 43 = .ok (.aload_n 0, 1) := by decide +kernel
theorem dX6_init_44 : decode cX6_init 44 = .ok (.sipush 10300, 3) := by decide +kernel
theorem dX6_init_47 : decode cX6_init 47 = .ok (.newarray .int, 2) := by decide +kernel
theorem dX6_init_49 : decode cX6_init 49 = .ok (.putfield 25, 3) := by decide +kernel
theorem dX6_init_52 : decode cX6_init 52 = .ok (.aload_n 0, 1) := by decide +kernel
theorem dX6_init_53 : decode cX6_init 53 = .ok (.bipush 10, 2) := by decide +kernel
theorem dX6_init_55 : decode cX6_init 55 = .ok (.newarray .long, 2) := by decide +kernel
theorem dX6_init_57 : decode cX6_init 57 = .ok (.putfield 28, 3) := by decide +kernel
theorem dX6_init_60 : decode cX6_init 60 = .ok (.aload_n 0, 1) := by decide +kernel
theorem dX6_init_61 : decode cX6_init 61 = .ok (.getfield 13, 3) := by decide +kernel
theorem dX6_init_64 : decode cX6_init 64 = .ok (.iconst 0, 1) := by decide +kernel
theorem dX6_init_65 : decode cX6_init 65 = .ok (.sipush 7200, 3) := by decide +kernel
theorem dX6_init_68 : decode cX6_init 68 = .ok (.iastore, 1) := by decide +kernel
theorem dX6_init_69 : decode cX6_init 69 = .ok (.aload_n 0, 1) := by decide +kernel
theorem dX6_init_70 : decode cX6_init 70 = .ok (.getfield 13, 3) := by decide +kernel
theorem dX6_init_73 : decode cX6_init 73 = .ok (.iconst 1, 1) := by decide +kernel
theorem dX6_init_74 : decode cX6_init 74 = .ok (.ldc 32, 2) := by decide +kernel
theorem dX6_init_76 : decode cX6_init 76 = .ok (.iastore, 1) := by decide +kernel
theorem dX6_init_77 : decode cX6_init 77 = .ok (.aload_n 0, 1) := by decide +kernel
theorem dX6_init_78 : decode cX6_init 78 = .ok (.getfield 13, 3) := by decide +kernel
theorem dX6_init_81 : decode cX6_init 81 = .ok (.iconst 2, 1) := by decide +kernel
theorem dX6_init_82 : decode cX6_init 82 = .ok (.ldc 33, 2) := by decide +kernel
theorem dX6_init_84 : decode cX6_init 84 = .ok (.iastore, 1) := by decide +kernel
theorem dX6_init_85 : decode cX6_init 85 = .ok (.aload_n 0, 1) := by decide +kernel
theorem dX6_init_86 : decode cX6_init 86 = .ok (.getfield 13, 3) := by decide +kernel
theorem dX6_init_89 : decode cX6_init 89 = .ok (.iconst 3, 1) := by decide +kernel
theorem dX6_init_90 : decode cX6_init 90 = .ok (.ldc 34, 2) := by decide +kernel
theorem dX6_init_92 : decode cX6_init 92 = .ok (.iastore, 1) := by decide +kernel
theorem dX6_init_93 : decode cX6_init 93 = .ok (.return_, 1) := by decide +kernel
theorem dX6_thrown_0 : decode cX6_thrown 0 = .ok (.aload_n 0, 1) := by decide +kernel
theorem dX6_thrown_1 : decode cX6_thrown 1 = .ok (.getfield 35, 3) := by decide +kernel
theorem dX6_thrown_4 : decode cX6_thrown 4 = .ok (.ireturn, 1) := by decide +kernel
theorem dX6_can_0 : decode cX6_can 0 = .ok (.aload_n 0, 1) := by decide +kernel
theorem dX6_can_1 : decode cX6_can 1 = .ok (.iload_n 1, 1) := by decide +kernel
theorem dX6_can_2 : decode cX6_can 2 = .ok (.putfield 35, 3) := by decide +kernel
theorem dX6_can_5 : decode cX6_can 5 = .ok (.iload_n 1, 1) := by decide +kernel
theorem dX6_can_6 : decode cX6_can 6 = .ok (.ifCond .ne 7, 3) := by decide +kernel
theorem dX6_can_9 : decode cX6_can 9 = .ok (.iconst 1, 1) := by decide +kernel
theorem dX6_can_10 : decode cX6_can 10 = .ok (.goto 4, 3) := by decide +kernel
theorem dX6_can_13 : decode cX6_can 13 = .ok (.iconst 0, 1) := by decide +kernel
theorem dX6_can_14 : decode cX6_can 14 = .ok (.ireturn, 1) := by decide +kernel
theorem dX6_isIn_0 : decode cX6_isIn 0 = .ok (.iload_n 0, 1) := by decide +kernel
theorem dX6_isIn_1 : decode cX6_isIn 1 = .ok (.iload_n 1, 1) := by decide +kernel
theorem dX6_isIn_2 : decode cX6_isIn 2 = .ok (.if_icmp .lt 12, 3) := by decide +kernel
theorem dX6_isIn_5 : decode cX6_isIn 5 = .ok (.iload_n 0, 1) := by decide +kernel
theorem dX6_isIn_6 : decode cX6_isIn 6 = .ok (.iload_n 2, 1) := by decide +kernel
theorem dX6_isIn_7 : decode cX6_isIn 7 = .ok (.if_icmp .gt 7, 3) := by decide +kernel
theorem dX6_isIn_10 : decode cX6_isIn 10 = .ok (.iconst 1, 1) := by decide +kernel
theorem dX6_isIn_11 : decode cX6_isIn 11 = .ok (.goto 4, 3) := by decide +kernel
theorem dX6_isIn_14 : decode cX6_isIn 14 = .ok (.iconst 0, 1) := by decide +kernel
theorem dX6_isIn_15 : decode cX6_isIn 15 = .ok (.ireturn, 1) := by decide +kernel
theorem dX6_isSeries_0 : decode cX6_isSeries 0 = .ok (.iload_n 1, 1) := by decide +kernel
theorem dX6_isSeries_1 : decode cX6_isSeries 1 = .ok (.ifCond .lt 15, 3) := by decide +kernel
theorem dX6_isSeries_4 : decode cX6_isSeries 4 = .ok (.iload_n 1, 1) := by decide +kernel
theorem dX6_isSeries_5 : decode cX6_isSeries 5 = .ok (.aload_n 0, 1) := by decide +kernel
theorem dX6_isSeries_6 : decode cX6_isSeries 6 = .ok (.getfield 39, 3) := by decide +kernel
theorem dX6_isSeries_9 : decode cX6_isSeries 9 = .ok (.if_icmp .ge 7, 3) := by decide +kernel
theorem dX6_isSeries_12 : decode cX6_isSeries 12 = .ok (.iconst 1, 1) := by decide +kernel
theorem dX6_isSeries_13 : decode cX6_isSeries 13 = .ok (.goto 4, 3) := by decide +kernel
theorem dX6_isSeries_16 : decode cX6_isSeries 16 = .ok (.iconst 0, 1) := by decide +kernel
theorem dX6_isSeries_17 : decode cX6_isSeries 17 = .ok (.ireturn, 1) := by decide +kernel
theorem dX6_isTier_0 : decode cX6_isTier 0 = .ok (.iload_n 0, 1) := by decide +kernel
theorem dX6_isTier_1 : decode cX6_isTier 1 = .ok (.ifCond .lt 12, 3) := by decide +kernel
theorem dX6_isTier_4 : decode cX6_isTier 4 = .ok (.iload_n 0, 1) := by decide +kernel
theorem dX6_isTier_5 : decode cX6_isTier 5 = .ok (.iconst 3, 1) := by decide +kernel
theorem dX6_isTier_6 : decode cX6_isTier 6 = .ok (.if_icmp .gt 7, 3) := by decide +kernel
theorem dX6_isTier_9 : decode cX6_isTier 9 = .ok (.iconst 1, 1) := by decide +kernel
theorem dX6_isTier_10 : decode cX6_isTier 10 = .ok (.goto 4, 3) := by decide +kernel
theorem dX6_isTier_13 : decode cX6_isTier 13 = .ok (.iconst 0, 1) := by decide +kernel
theorem dX6_isTier_14 : decode cX6_isTier 14 = .ok (.ireturn, 1) := by decide +kernel
theorem dX6_isRolled_0 : decode cX6_isRolled 0 = .ok (.iload_n 0, 1) := by decide +kernel
theorem dX6_isRolled_1 : decode cX6_isRolled 1 = .ok (.iconst 1, 1) := by decide +kernel
theorem dX6_isRolled_2 : decode cX6_isRolled 2 = .ok (.if_icmp .lt 12, 3) := by decide +kernel
theorem dX6_isRolled_5 : decode cX6_isRolled 5 = .ok (.iload_n 0, 1) := by decide +kernel
theorem dX6_isRolled_6 : decode cX6_isRolled 6 = .ok (.iconst 3, 1) := by decide +kernel
theorem dX6_isRolled_7 : decode cX6_isRolled 7 = .ok (.if_icmp .gt 7, 3) := by decide +kernel
theorem dX6_isRolled_10 : decode cX6_isRolled 10 = .ok (.iconst 1, 1) := by decide +kernel
theorem dX6_isRolled_11 : decode cX6_isRolled 11 = .ok (.goto 4, 3) := by decide +kernel
theorem dX6_isRolled_14 : decode cX6_isRolled 14 = .ok (.iconst 0, 1) := by decide +kernel
theorem dX6_isRolled_15 : decode cX6_isRolled 15 = .ok (.ireturn, 1) := by decide +kernel
theorem dX6_length_0 : decode cX6_length 0 = .ok (.iload_n 0, 1) := by decide +kernel
theorem dX6_length_1 : decode cX6_length 1 = .ok (.iconst 1, 1) := by decide +kernel
theorem dX6_length_2 : decode cX6_length 2 = .ok (.if_icmp .ne 8, 3) := by decide +kernel
theorem dX6_length_5 : decode cX6_length 5 = .ok (.bipush 60, 2) := by decide +kernel
theorem dX6_length_7 : decode cX6_length 7 = .ok (.goto 16, 3) := by decide +kernel
theorem dX6_length_10 : decode cX6_length 10 = .ok (.iload_n 0, 1) := by decide +kernel
theorem dX6_length_11 : decode cX6_length 11 = .ok (.iconst 2, 1) := by decide +kernel
theorem dX6_length_12 : decode cX6_length 12 = .ok (.if_icmp .ne 9, 3) := by decide +kernel
theorem dX6_length_15 : decode cX6_length 15 = .ok (.sipush 3600, 3) := by decide +kernel
theorem dX6_length_18 : decode cX6_length 18 = .ok (.goto 5, 3) := by decide +kernel
theorem dX6_length_21 : decode cX6_length 21 = .ok (.ldc 32, 2) := by decide +kernel
theorem dX6_length_23 : decode cX6_length 23 = .ok (.ireturn, 1) := by decide +kernel
set_option maxRecDepth 400000 in
theorem ggX6_begin_X6_length : GoodIn wsX6_begin wsX6_length := goodIn_r _ [4, 5] rfl (by decide +kernel)
set_option maxRecDepth 20000 in
theorem gX6_begin_X6_length : GoodIn wsX6_begin (va_wsS RX6 42 yX6_length wsX6_length) := goodIn_app (goodIn_of _ (by decide +kernel)) ggX6_begin_X6_length
theorem dX6_begin_0 : decode cX6_begin 0 = .ok (.iload_n 1, 1) := by decide +kernel
theorem dX6_begin_1 : decode cX6_begin 1 = .ok (.iload_n 0, 1) := by decide +kernel
theorem dX6_begin_2 : decode cX6_begin 2 = .ok (.invokestatic 42, 3) := by decide +kernel
theorem dX6_begin_5 : decode cX6_begin 5 = .ok (.idiv, 1) := by decide +kernel
theorem dX6_begin_6 : decode cX6_begin 6 = .ok (.iload_n 0, 1) := by decide +kernel
theorem dX6_begin_7 : decode cX6_begin 7 = .ok (.invokestatic 42, 3) := by decide +kernel
theorem dX6_begin_10 : decode cX6_begin 10 = .ok (.imul, 1) := by decide +kernel
theorem dX6_begin_11 : decode cX6_begin 11 = .ok (.ireturn, 1) := by decide +kernel
set_option maxRecDepth 400000 in
theorem ggX6_isGone_X6_length : GoodIn wsX6_isGone wsX6_length := goodIn_r _ [5, 6] rfl (by decide +kernel)
set_option maxRecDepth 20000 in
theorem gX6_isGone_X6_length : GoodIn wsX6_isGone (va_wsS RX6 42 yX6_length wsX6_length) := goodIn_app (goodIn_of _ (by decide +kernel)) ggX6_isGone_X6_length
theorem dX6_isGone_0 : decode cX6_isGone 0 = .ok (.lload_n 2, 1) := by decide +kernel
theorem dX6_isGone_1 : decode cX6_isGone 1 = .ok (.iload_n 1, 1) := by decide +kernel
theorem dX6_isGone_2 : decode cX6_isGone 2 = .ok (.invokestatic 42, 3) := by decide +kernel
theorem dX6_isGone_5 : decode cX6_isGone 5 = .ok (.i2l, 1) := by decide +kernel
theorem dX6_isGone_6 : decode cX6_isGone 6 = .ok (.ladd, 1) := by decide +kernel
theorem dX6_isGone_7 : decode cX6_isGone 7 = .ok (.aload_n 0, 1) := by decide +kernel
theorem dX6_isGone_8 : decode cX6_isGone 8 = .ok (.getfield 16, 3) := by decide +kernel
theorem dX6_isGone_11 : decode cX6_isGone 11 = .ok (.iload_n 1, 1) := by decide +kernel
theorem dX6_isGone_12 : decode cX6_isGone 12 = .ok (.iaload, 1) := by decide +kernel
theorem dX6_isGone_13 : decode cX6_isGone 13 = .ok (.i2l, 1) := by decide +kernel
theorem dX6_isGone_14 : decode cX6_isGone 14 = .ok (.lcmp, 1) := by decide +kernel
theorem dX6_isGone_15 : decode cX6_isGone 15 = .ok (.ifCond .gt 7, 3) := by decide +kernel
theorem dX6_isGone_18 : decode cX6_isGone 18 = .ok (.iconst 1, 1) := by decide +kernel
theorem dX6_isGone_19 : decode cX6_isGone 19 = .ok (.goto 4, 3) := by decide +kernel
theorem dX6_isGone_22 : decode cX6_isGone 22 = .ok (.iconst 0, 1) := by decide +kernel
theorem dX6_isGone_23 : decode cX6_isGone 23 = .ok (.ireturn, 1) := by decide +kernel
theorem dX6_place_0 : decode cX6_place 0 = .ok (.iconst 0, 1) := by decide +kernel
theorem dX6_place_1 : decode cX6_place 1 = .ok (.istore_n 3, 1) := by decide +kernel
theorem dX6_place_2 : decode cX6_place 2 = .ok (.iload_n 3, 1) := by decide +kernel
theorem dX6_place_3 : decode cX6_place 3 = .ok (.aload_n 0, 1) := by decide +kernel
theorem dX6_place_4 : decode cX6_place 4 = .ok (.getfield 46, 3) := by decide +kernel
theorem dX6_place_7 : decode cX6_place 7 = .ok (.if_icmp .ge 39, 3) := by decide +kernel
theorem dX6_place_10 : decode cX6_place 10 = .ok (.aload_n 0, 1) := by decide +kernel
theorem dX6_place_11 : decode cX6_place 11 = .ok (.getfield 19, 3) := by decide +kernel
theorem dX6_place_14 : decode cX6_place 14 = .ok (.iload_n 3, 1) := by decide +kernel
theorem dX6_place_15 : decode cX6_place 15 = .ok (.iaload, 1) := by decide +kernel
theorem dX6_place_16 : decode cX6_place 16 = .ok (.iload_n 1, 1) := by decide +kernel
theorem dX6_place_17 : decode cX6_place 17 = .ok (.if_icmp .lt 23, 3) := by decide +kernel
theorem dX6_place_20 : decode cX6_place 20 = .ok (.aload_n 0, 1) := by decide +kernel
theorem dX6_place_21 : decode cX6_place 21 = .ok (.getfield 19, 3) := by decide +kernel
theorem dX6_place_24 : decode cX6_place 24 = .ok (.iload_n 3, 1) := by decide +kernel
theorem dX6_place_25 : decode cX6_place 25 = .ok (.iaload, 1) := by decide +kernel
theorem dX6_place_26 : decode cX6_place 26 = .ok (.iload_n 1, 1) := by decide +kernel
theorem dX6_place_27 : decode cX6_place 27 = .ok (.if_icmp .ne 19, 3) := by decide +kernel
theorem dX6_place_30 : decode cX6_place 30 = .ok (.aload_n 0, 1) := by decide +kernel
theorem dX6_place_31 : decode cX6_place 31 = .ok (.getfield 22, 3) := by decide +kernel
theorem dX6_place_34 : decode cX6_place 34 = .ok (.iload_n 3, 1) := by decide +kernel
theorem dX6_place_35 : decode cX6_place 35 = .ok (.iaload, 1) := by decide +kernel
theorem dX6_place_36 : decode cX6_place 36 = .ok (.iload_n 2, 1) := by decide +kernel
theorem dX6_place_37 : decode cX6_place 37 = .ok (.if_icmp .ge 9, 3) := by decide +kernel
theorem dX6_place_40 : decode cX6_place 40 = .ok (.iinc 3 1, 3) := by decide +kernel
theorem dX6_place_43 : decode cX6_place 43 = .ok (.goto (-41), 3) := by decide +kernel
theorem dX6_place_46 : decode cX6_place 46 = .ok (.iload_n 3, 1) := by decide +kernel
theorem dX6_place_47 : decode cX6_place 47 = .ok (.ireturn, 1) := by decide +kernel
theorem dX6_isAt_0 : decode cX6_isAt 0 = .ok (.iload_n 1, 1) := by decide +kernel
theorem dX6_isAt_1 : decode cX6_isAt 1 = .ok (.aload_n 0, 1) := by decide +kernel
theorem dX6_isAt_2 : decode cX6_isAt 2 = .ok (.getfield 46, 3) := by decide +kernel
theorem dX6_isAt_5 : decode cX6_isAt 5 = .ok (.if_icmp .ge 27, 3) := by decide +kernel
theorem dX6_isAt_8 : decode cX6_isAt 8 = .ok (.aload_n 0, 1) := by decide +kernel
theorem dX6_isAt_9 : decode cX6_isAt 9 = .ok (.getfield 19, 3) := by decide +kernel
theorem dX6_isAt_12 : decode cX6_isAt 12 = .ok (.iload_n 1, 1) := by decide +kernel
theorem dX6_isAt_13 : decode cX6_isAt 13 = .ok (.iaload, 1) := by decide +kernel
theorem dX6_isAt_14 : decode cX6_isAt 14 = .ok (.iload_n 2, 1) := by decide +kernel
theorem dX6_isAt_15 : decode cX6_isAt 15 = .ok (.if_icmp .ne 17, 3) := by decide +kernel
theorem dX6_isAt_18 : decode cX6_isAt 18 = .ok (.aload_n 0, 1) := by decide +kernel
theorem dX6_isAt_19 : decode cX6_isAt 19 = .ok (.getfield 22, 3) := by decide +kernel
theorem dX6_isAt_22 : decode cX6_isAt 22 = .ok (.iload_n 1, 1) := by decide +kernel
theorem dX6_isAt_23 : decode cX6_isAt 23 = .ok (.iaload, 1) := by decide +kernel
theorem dX6_isAt_24 : decode cX6_isAt 24 = .ok (.iload_n 3, 1) := by decide +kernel
theorem dX6_isAt_25 : decode cX6_isAt 25 = .ok (.if_icmp .ne 7, 3) := by decide +kernel
theorem dX6_isAt_28 : decode cX6_isAt 28 = .ok (.iconst 1, 1) := by decide +kernel
theorem dX6_isAt_29 : decode cX6_isAt 29 = .ok (.goto 4, 3) := by decide +kernel
theorem dX6_isAt_32 : decode cX6_isAt 32 = .ok (.iconst 0, 1) := by decide +kernel
theorem dX6_isAt_33 : decode cX6_isAt 33 = .ok (.ireturn, 1) := by decide +kernel
set_option maxRecDepth 400000 in
theorem ggX6_isKept_X6_place : GoodIn wsX6_isKept wsX6_place := goodIn_r _ [6, 7, 8, 9, 14, 15, 16, 17, 18, 19, 20, 21, 22, 23, 24, 25, 26, 27, 28, 29, 30] rfl (by decide +kernel)
set_option maxRecDepth 20000 in
theorem gX6_isKept_X6_place : GoodIn wsX6_isKept (wsV RX6 49 RX6 yX6_place wsX6_place) := goodIn_app (goodIn_of _ (by decide +kernel)) ggX6_isKept_X6_place
set_option maxRecDepth 400000 in
theorem ggX6_isKept_X6_isAt : GoodIn wsX6_isKept wsX6_isAt := goodIn_r _ [13, 7, 8, 9, 14, 15, 16, 17, 18, 19, 20, 21, 22, 23, 24, 25, 26, 27, 28, 29, 30] rfl (by decide +kernel)
set_option maxRecDepth 20000 in
theorem gX6_isKept_X6_isAt : GoodIn wsX6_isKept (wsV RX6 53 RX6 yX6_isAt wsX6_isAt) := goodIn_app (goodIn_of _ (by decide +kernel)) ggX6_isKept_X6_isAt
theorem dX6_isKept_0 : decode cX6_isKept 0 = .ok (.aload_n 0, 1) := by decide +kernel
theorem dX6_isKept_1 : decode cX6_isKept 1 = .ok (.aload_n 0, 1) := by decide +kernel
theorem dX6_isKept_2 : decode cX6_isKept 2 = .ok (.iload_n 1, 1) := by decide +kernel
theorem dX6_isKept_3 : decode cX6_isKept 3 = .ok (.iload_n 2, 1) := by decide +kernel
theorem dX6_isKept_4 : decode cX6_isKept 4 = .ok (.invokevirtual 49, 3) := by decide +kernel
theorem dX6_isKept_7 : decode cX6_isKept 7 = .ok (.iload_n 1, 1) := by decide +kernel
theorem dX6_isKept_8 : decode cX6_isKept 8 = .ok (.iload_n 2, 1) := by decide +kernel
theorem dX6_isKept_9 : decode cX6_isKept 9 = .ok (.invokevirtual 53, 3) := by decide +kernel
theorem dX6_isKept_12 : decode cX6_isKept 12 = .ok (.ifCond .eq 17, 3) := by decide +kernel
theorem dX6_isKept_15 : decode cX6_isKept 15 = .ok (.iload_n 2, 1) := by decide +kernel
theorem dX6_isKept_16 : decode cX6_isKept 16 = .ok (.aload_n 0, 1) := by decide +kernel
theorem dX6_isKept_17 : decode cX6_isKept 17 = .ok (.getfield 16, 3) := by decide +kernel
theorem dX6_isKept_20 : decode cX6_isKept 20 = .ok (.iconst 0, 1) := by decide +kernel
theorem dX6_isKept_21 : decode cX6_isKept 21 = .ok (.iaload, 1) := by decide +kernel
theorem dX6_isKept_22 : decode cX6_isKept 22 = .ok (.if_icmp .lt 7, 3) := by decide +kernel
theorem dX6_isKept_25 : decode cX6_isKept 25 = .ok (.iconst 1, 1) := by decide +kernel
theorem dX6_isKept_26 : decode cX6_isKept 26 = .ok (.goto 4, 3) := by decide +kernel
theorem dX6_isKept_29 : decode cX6_isKept 29 = .ok (.iconst 0, 1) := by decide +kernel
theorem dX6_isKept_30 : decode cX6_isKept 30 = .ok (.ireturn, 1) := by decide +kernel
theorem dX6_keptPoints_0 : decode cX6_keptPoints 0 = .ok (.iconst 0, 1) := by decide +kernel
theorem dX6_keptPoints_1 : decode cX6_keptPoints 1 = .ok (.istore_n 2, 1) := by decide +kernel
theorem dX6_keptPoints_2 : decode cX6_keptPoints 2 = .ok (.iconst 0, 1) := by decide +kernel
theorem dX6_keptPoints_3 : decode cX6_keptPoints 3 = .ok (.istore_n 3, 1) := by decide +kernel
theorem dX6_keptPoints_4 : decode cX6_keptPoints 4 = .ok (.iload_n 3, 1) := by decide +kernel
theorem dX6_keptPoints_5 : decode cX6_keptPoints 5 = .ok (.aload_n 0, 1) := by decide +kernel
theorem dX6_keptPoints_6 : decode cX6_keptPoints 6 = .ok (.getfield 46, 3) := by decide +kernel
theorem dX6_keptPoints_9 : decode cX6_keptPoints 9 = .ok (.if_icmp .ge 42, 3) := by decide +kernel
theorem dX6_keptPoints_12 : decode cX6_keptPoints 12 = .ok (.iload_n 2, 1) := by decide +kernel
theorem dX6_keptPoints_13 : decode cX6_keptPoints 13 = .ok (.aload_n 0, 1) := by decide +kernel
theorem dX6_keptPoints_14 : decode cX6_keptPoints 14 = .ok (.getfield 19, 3) := by decide +kernel
theorem dX6_keptPoints_17 : decode cX6_keptPoints 17 = .ok (.iload_n 3, 1) := by decide +kernel
theorem dX6_keptPoints_18 : decode cX6_keptPoints 18 = .ok (.iaload, 1) := by decide +kernel
theorem dX6_keptPoints_19 : decode cX6_keptPoints 19 = .ok (.iload_n 1, 1) := by decide +kernel
theorem dX6_keptPoints_20 : decode cX6_keptPoints 20 = .ok (.if_icmp .ne 22, 3) := by decide +kernel
theorem dX6_keptPoints_23 : decode cX6_keptPoints 23 = .ok (.aload_n 0, 1) := by decide +kernel
theorem dX6_keptPoints_24 : decode cX6_keptPoints 24 = .ok (.getfield 22, 3) := by decide +kernel
theorem dX6_keptPoints_27 : decode cX6_keptPoints 27 = .ok (.iload_n 3, 1) := by decide +kernel
theorem dX6_keptPoints_28 : decode cX6_keptPoints 28 = .ok (.iaload, 1) := by decide +kernel
theorem dX6_keptPoints_29 : decode cX6_keptPoints 29 = .ok (.aload_n 0, 1) := by decide +kernel
theorem dX6_keptPoints_30 : decode cX6_keptPoints 30 = .ok (.getfield 16, 3) := by decide +kernel
theorem dX6_keptPoints_33 : decode cX6_keptPoints 33 = .ok (.iconst 0, 1) := by decide +kernel
theorem dX6_keptPoints_34 : decode cX6_keptPoints 34 = .ok (.iaload, 1) := by decide +kernel
theorem dX6_keptPoints_35 : decode cX6_keptPoints 35 = .ok (.if_icmp .lt 7, 3) := by decide +kernel
theorem dX6_keptPoints_38 : decode cX6_keptPoints 38 = .ok (.iconst 1, 1) := by decide +kernel
theorem dX6_keptPoints_39 : decode cX6_keptPoints 39 = .ok (.goto 4, 3) := by decide +kernel
theorem dX6_keptPoints_42 : decode cX6_keptPoints 42 = .ok (.iconst 0, 1) := by decide +kernel
theorem dX6_keptPoints_43 : decode cX6_keptPoints 43 = .ok (.iadd, 1) := by decide +kernel
theorem dX6_keptPoints_44 : decode cX6_keptPoints 44 = .ok (.istore_n 2, 1) := by decide +kernel
theorem dX6_keptPoints_45 : decode cX6_keptPoints 45 = .ok (.iinc 3 1, 3) := by decide +kernel
theorem dX6_keptPoints_48 : decode cX6_keptPoints 48 = .ok (.goto (-44), 3) := by decide +kernel
theorem dX6_keptPoints_51 : decode cX6_keptPoints 51 = .ok (.iload_n 2, 1) := by decide +kernel
theorem dX6_keptPoints_52 : decode cX6_keptPoints 52 = .ok (.ireturn, 1) := by decide +kernel
set_option maxRecDepth 400000 in
theorem ggX6_isValue_X6_isIn : GoodIn wsX6_isValue wsX6_isIn := goodIn_r _ [7] rfl (by decide +kernel)
set_option maxRecDepth 20000 in
theorem gX6_isValue_X6_isIn : GoodIn wsX6_isValue (va_wsS RX6 59 yX6_isIn wsX6_isIn) := goodIn_app (goodIn_of _ (by decide +kernel)) ggX6_isValue_X6_isIn
theorem dX6_isValue_0 : decode cX6_isValue 0 = .ok (.iload_n 2, 1) := by decide +kernel
theorem dX6_isValue_1 : decode cX6_isValue 1 = .ok (.aload_n 0, 1) := by decide +kernel
theorem dX6_isValue_2 : decode cX6_isValue 2 = .ok (.getfield 7, 3) := by decide +kernel
theorem dX6_isValue_5 : decode cX6_isValue 5 = .ok (.iload_n 1, 1) := by decide +kernel
theorem dX6_isValue_6 : decode cX6_isValue 6 = .ok (.iaload, 1) := by decide +kernel
theorem dX6_isValue_7 : decode cX6_isValue 7 = .ok (.iconst 1, 1) := by decide +kernel
theorem dX6_isValue_8 : decode cX6_isValue 8 = .ok (.if_icmp .ne 7, 3) := by decide +kernel
theorem dX6_isValue_11 : decode cX6_isValue 11 = .ok (.iconst 0, 1) := by decide +kernel
theorem dX6_isValue_12 : decode cX6_isValue 12 = .ok (.goto 5, 3) := by decide +kernel
theorem dX6_isValue_15 : decode cX6_isValue 15 = .ok (.ldc 57, 2) := by decide +kernel
theorem dX6_isValue_17 : decode cX6_isValue 17 = .ok (.ldc 58, 2) := by decide +kernel
theorem dX6_isValue_19 : decode cX6_isValue 19 = .ok (.invokestatic 59, 3) := by decide +kernel
theorem dX6_isValue_22 : decode cX6_isValue 22 = .ok (.ireturn, 1) := by decide +kernel
set_option maxRecDepth 400000 in
theorem ggX6_fault_X6_isValue : GoodIn wsX6_fault wsX6_isValue := goodIn_r _ [6, 7, 8, 9, 10, 11, 5, 12, 33, 34, 35, 36, 37, 38, 39, 40, 41, 42, 43, 44, 45, 46, 47, 48, 49] rfl (by decide +kernel)
set_option maxRecDepth 20000 in
theorem gX6_fault_X6_isValue : GoodIn wsX6_fault (wsV RX6 65 RX6 yX6_isValue wsX6_isValue) := goodIn_app (goodIn_of _ (by decide +kernel)) ggX6_fault_X6_isValue
set_option maxRecDepth 400000 in
theorem ggX6_fault_X6_isKept : GoodIn wsX6_fault wsX6_isKept := goodIn_r _ [16, 17, 18, 19, 20, 5, 21, 22, 23, 24, 25, 26, 27, 28, 33, 34, 35, 36, 37, 38, 39, 40, 41, 42, 43, 44, 45, 46, 47, 48, 49] rfl (by decide +kernel)
set_option maxRecDepth 20000 in
theorem gX6_fault_X6_isKept : GoodIn wsX6_fault (wsV RX6 69 RX6 yX6_isKept wsX6_isKept) := goodIn_app (goodIn_of _ (by decide +kernel)) ggX6_fault_X6_isKept
set_option maxRecDepth 400000 in
theorem ggX6_fault_X6_keptPoints : GoodIn wsX6_fault wsX6_keptPoints := goodIn_r _ [32, 22, 23, 24, 17, 33, 34, 35, 36, 37, 38, 39, 40, 41, 42, 43, 44, 45, 46, 47, 48, 49] rfl (by decide +kernel)
set_option maxRecDepth 20000 in
theorem gX6_fault_X6_keptPoints : GoodIn wsX6_fault (wsV RX6 72 RX6 yX6_keptPoints wsX6_keptPoints) := goodIn_app (goodIn_of _ (by decide +kernel)) ggX6_fault_X6_keptPoints
theorem dX6_fault_0 : decode cX6_fault 0 = .ok (.iload_n 2, 1) := by decide +kernel
theorem dX6_fault_1 : decode cX6_fault 1 = .ok (.ifCond .lt 20, 3) := by decide +kernel
theorem dX6_fault_4 : decode cX6_fault 4 = .ok (.iload_n 2, 1) := by decide +kernel
theorem dX6_fault_5 : decode cX6_fault 5 = .ok (.aload_n 0, 1) := by decide +kernel
theorem dX6_fault_6 : decode cX6_fault 6 = .ok (.getfield 62, 3) := by decide +kernel
theorem dX6_fault_9 : decode cX6_fault 9 = .ok (.if_icmp .gt 12, 3) := by decide +kernel
theorem dX6_fault_12 : decode cX6_fault 12 = .ok (.aload_n 0, 1) := by decide +kernel
theorem dX6_fault_13 : decode cX6_fault 13 = .ok (.iload_n 1, 1) := by decide +kernel
theorem dX6_fault_14 : decode cX6_fault 14 = .ok (.iload_n 3, 1) := by decide +kernel
theorem dX6_fault_15 : decode cX6_fault 15 = .ok (.invokevirtual 65, 3) := by decide +kernel
theorem dX6_fault_18 : decode cX6_fault 18 = .ok (.ifCond .ne 5, 3) := by decide +kernel
theorem dX6_fault_21 : decode cX6_fault 21 = .ok (.iconst 2, 1) := by decide +kernel
theorem dX6_fault_22 : decode cX6_fault 22 = .ok (.ireturn, 1) := by decide +kernel
theorem dX6_fault_23 : decode cX6_fault 23 = .ok (.iload_n 2, 1) := by decide +kernel
theorem dX6_fault_24 : decode cX6_fault 24 = .ok (.aload_n 0, 1) := by decide +kernel
theorem dX6_fault_25 : decode cX6_fault 25 = .ok (.getfield 62, 3) := by decide +kernel
theorem dX6_fault_28 : decode cX6_fault 28 = .ok (.sipush 3600, 3) := by decide +kernel
theorem dX6_fault_31 : decode cX6_fault 31 = .ok (.isub, 1) := by decide +kernel
theorem dX6_fault_32 : decode cX6_fault 32 = .ok (.if_icmp .lt 22, 3) := by decide +kernel
theorem dX6_fault_35 : decode cX6_fault 35 = .ok (.aload_n 0, 1) := by decide +kernel
theorem dX6_fault_36 : decode cX6_fault 36 = .ok (.iload_n 1, 1) := by decide +kernel
theorem dX6_fault_37 : decode cX6_fault 37 = .ok (.iload_n 2, 1) := by decide +kernel
theorem dX6_fault_38 : decode cX6_fault 38 = .ok (.invokevirtual 69, 3) := by decide +kernel
theorem dX6_fault_41 : decode cX6_fault 41 = .ok (.ifCond .ne 17, 3) := by decide +kernel
theorem dX6_fault_44 : decode cX6_fault 44 = .ok (.aload_n 0, 1) := by decide +kernel
theorem dX6_fault_45 : decode cX6_fault 45 = .ok (.iload_n 1, 1) := by decide +kernel
theorem dX6_fault_46 : decode cX6_fault 46 = .ok (.invokevirtual 72, 3) := by decide +kernel
theorem dX6_fault_49 : decode cX6_fault 49 = .ok (.bipush 100, 2) := by decide +kernel
theorem dX6_fault_51 : decode cX6_fault 51 = .ok (.if_icmp .ne 7, 3) := by decide +kernel
theorem dX6_fault_54 : decode cX6_fault 54 = .ok (.iconst 3, 1) := by decide +kernel
theorem dX6_fault_55 : decode cX6_fault 55 = .ok (.goto 4, 3) := by decide +kernel
theorem dX6_fault_58 : decode cX6_fault 58 = .ok (.iconst 0, 1) := by decide +kernel
theorem dX6_fault_59 : decode cX6_fault 59 = .ok (.ireturn, 1) := by decide +kernel
set_option maxRecDepth 400000 in
theorem ggX6_writes_X6_place : GoodIn wsX6_writes wsX6_place := goodIn_r _ [9, 1, 2, 3, 14, 15, 16, 17, 18, 19, 20, 21, 22, 23, 24, 25, 26, 27, 28, 29, 30] rfl (by decide +kernel)
set_option maxRecDepth 20000 in
theorem gX6_writes_X6_place : GoodIn wsX6_writes (wsV RX6 49 RX6 yX6_place wsX6_place) := goodIn_app (goodIn_of _ (by decide +kernel)) ggX6_writes_X6_place
set_option maxRecDepth 400000 in
theorem ggX6_writes_X6_isAt : GoodIn wsX6_writes wsX6_isAt := goodIn_r _ [13, 1, 2, 3, 14, 15, 16, 17, 18, 19, 20, 21, 22, 23, 24, 25, 26, 27, 28, 29, 30] rfl (by decide +kernel)
set_option maxRecDepth 20000 in
theorem gX6_writes_X6_isAt : GoodIn wsX6_writes (wsV RX6 53 RX6 yX6_isAt wsX6_isAt) := goodIn_app (goodIn_of _ (by decide +kernel)) ggX6_writes_X6_isAt
theorem dX6_writes_0 : decode cX6_writes 0 = .ok (.aload_n 0, 1) := by decide +kernel
theorem dX6_writes_1 : decode cX6_writes 1 = .ok (.iload_n 1, 1) := by decide +kernel
theorem dX6_writes_2 : decode cX6_writes 2 = .ok (.iload_n 2, 1) := by decide +kernel
theorem dX6_writes_3 : decode cX6_writes 3 = .ok (.invokevirtual 49, 3) := by decide +kernel
theorem dX6_writes_6 : decode cX6_writes 6 = .ok (.istore 4, 2) := by decide +kernel
theorem dX6_writes_8 : decode cX6_writes 8 = .ok (.aload_n 0, 1) := by decide +kernel
theorem dX6_writes_9 : decode cX6_writes 9 = .ok (.iload 4, 2) := by decide +kernel
theorem dX6_writes_11 : decode cX6_writes 11 = .ok (.iload_n 1, 1) := by decide +kernel
theorem dX6_writes_12 : decode cX6_writes 12 = .ok (.iload_n 2, 1) := by decide +kernel
theorem dX6_writes_13 : decode cX6_writes 13 = .ok (.invokevirtual 53, 3) := by decide +kernel
theorem dX6_writes_16 : decode cX6_writes 16 = .ok (.istore 5, 2) := by decide +kernel
theorem dX6_writes_18 : decode cX6_writes 18 = .ok (.iload 5, 2) := by decide +kernel
theorem dX6_writes_20 : decode cX6_writes 20 = .ok (.ifCond .ne 80, 3) := by decide +kernel
theorem dX6_writes_23 : decode cX6_writes 23 = .ok (.aload_n 0, 1) := by decide +kernel
theorem dX6_writes_24 : decode cX6_writes 24 = .ok (.getfield 46, 3) := by decide +kernel
theorem dX6_writes_27 : decode cX6_writes 27 = .ok (.istore 6, 2) := by decide +kernel
theorem dX6_writes_29 : decode cX6_writes 29 = .ok (.iload 6, 2) := by decide +kernel
theorem dX6_writes_31 : decode cX6_writes 31 = .ok (.iload 4, 2) := by decide +kernel
theorem dX6_writes_33 : decode cX6_writes 33 = .ok (.if_icmp .le 57, 3) := by decide +kernel
theorem dX6_writes_36 : decode cX6_writes 36 = .ok (.aload_n 0, 1) := by decide +kernel
theorem dX6_writes_37 : decode cX6_writes 37 = .ok (.getfield 19, 3) := by decide +kernel
theorem dX6_writes_40 : decode cX6_writes 40 = .ok (.iload 6, 2) := by decide +kernel
theorem dX6_writes_42 : decode cX6_writes 42 = .ok (.aload_n 0, 1) := by decide +kernel
theorem dX6_writes_43 : decode cX6_writes 43 = .ok (.getfield 19, 3) := by decide +kernel
theorem dX6_writes_46 : decode cX6_writes 46 = .ok (.iload 6, 2) := by decide +kernel
theorem dX6_writes_48 : decode cX6_writes 48 = .ok (.iconst 1, 1) := by decide +kernel
theorem dX6_writes_49 : decode cX6_writes 49 = .ok (.isub, 1) := by decide +kernel
theorem dX6_writes_50 : decode cX6_writes 50 = .ok (.iaload, 1) := by decide +kernel
theorem dX6_writes_51 : decode cX6_writes 51 = .ok (.iastore, 1) := by decide +kernel
theorem dX6_writes_52 : decode cX6_writes 52 = .ok (.aload_n 0, 1) := by decide +kernel
theorem dX6_writes_53 : decode cX6_writes 53 = .ok (.getfield 22, 3) := by decide +kernel
theorem dX6_writes_56 : decode cX6_writes 56 = .ok (.iload 6, 2) := by decide +kernel
theorem dX6_writes_58 : decode cX6_writes 58 = .ok (.aload_n 0, 1) := by decide +kernel
theorem dX6_writes_59 : decode cX6_writes 59 = .ok (.getfield 22, 3) := by decide +kernel
theorem dX6_writes_62 : decode cX6_writes 62 = .ok (.iload 6, 2) := by decide +kernel
theorem dX6_writes_64 : decode cX6_writes 64 = .ok (.iconst 1, 1) := by decide +kernel
theorem dX6_writes_65 : decode cX6_writes 65 = .ok (.isub, 1) := by decide +kernel
theorem dX6_writes_66 : decode cX6_writes 66 = .ok (.iaload, 1) := by decide +kernel
theorem dX6_writes_67 : decode cX6_writes 67 = .ok (.iastore, 1) := by decide +kernel
theorem dX6_writes_68 : decode cX6_writes 68 = .ok (.aload_n 0, 1) := by decide +kernel
theorem dX6_writes_69 : decode cX6_writes 69 = .ok (.getfield 25, 3) := by decide +kernel
theorem dX6_writes_72 : decode cX6_writes 72 = .ok (.iload 6, 2) := by decide +kernel
theorem dX6_writes_74 : decode cX6_writes 74 = .ok (.aload_n 0, 1) := by decide +kernel
theorem dX6_writes_75 : decode cX6_writes 75 = .ok (.getfield 25, 3) := by decide +kernel
theorem dX6_writes_78 : decode cX6_writes 78 = .ok (.iload 6, 2) := by decide +kernel
theorem dX6_writes_80 : decode cX6_writes 80 = .ok (.iconst 1, 1) := by decide +kernel
theorem dX6_writes_81 : decode cX6_writes 81 = .ok (.isub, 1) := by decide +kernel
theorem dX6_writes_82 : decode cX6_writes 82 = .ok (.iaload, 1) := by decide +kernel
theorem dX6_writes_83 : decode cX6_writes 83 = .ok (.iastore, 1) := by decide +kernel
theorem dX6_writes_84 : decode cX6_writes 84 = .ok (.iinc 6 (-1), 3) := by decide +kernel
theorem dX6_writes_87 : decode cX6_writes 87 = .ok (.goto (-58), 3) := by decide +kernel
theorem dX6_writes_90 : decode cX6_writes 90 = .ok (.aload_n 0, 1) := by decide +kernel
theorem dX6_writes_91 : decode cX6_writes 91 = .ok (.dup, 1) := by decide +kernel
theorem dX6_writes_92 : decode cX6_writes 92 = .ok (.getfield 46, 3) := by decide +kernel
theorem dX6_writes_95 : decode cX6_writes 95 = .ok (.iconst 1, 1) := by decide +kernel
theorem dX6_writes_96 : decode cX6_writes 96 = .ok (.iadd, 1) := by decide +kernel
theorem dX6_writes_97 : decode cX6_writes 97 = .ok (.putfield 46, 3) := by decide +kernel
theorem dX6_writes_100 : decode cX6_writes 100 = .ok (.aload_n 0, 1) := by decide +kernel
theorem dX6_writes_101 : decode cX6_writes 101 = .ok (.getfield 19, 3) := by decide +kernel
theorem dX6_writes_104 : decode cX6_writes 104 = .ok (.iload 4, 2) := by decide +kernel
theorem dX6_writes_106 : decode cX6_writes 106 = .ok (.iload_n 1, 1) := by decide +kernel
theorem dX6_writes_107 : decode cX6_writes 107 = .ok (.iastore, 1) := by decide +kernel
theorem dX6_writes_108 : decode cX6_writes 108 = .ok (.aload_n 0, 1) := by decide +kernel
theorem dX6_writes_109 : decode cX6_writes 109 = .ok (.getfield 22, 3) := by decide +kernel
theorem dX6_writes_112 : decode cX6_writes 112 = .ok (.iload 4, 2) := by decide +kernel
theorem dX6_writes_114 : decode cX6_writes 114 = .ok (.iload_n 2, 1) := by decide +kernel
theorem dX6_writes_115 : decode cX6_writes 115 = .ok (.iastore, 1) := by decide +kernel
theorem dX6_writes_116 : decode cX6_writes 116 = .ok (.aload_n 0, 1) := by decide +kernel
theorem dX6_writes_117 : decode cX6_writes 117 = .ok (.getfield 25, 3) := by decide +kernel
theorem dX6_writes_120 : decode cX6_writes 120 = .ok (.iload 4, 2) := by decide +kernel
theorem dX6_writes_122 : decode cX6_writes 122 = .ok (.iload_n 3, 1) := by decide +kernel
theorem dX6_writes_123 : decode cX6_writes 123 = .ok (.iastore, 1) := by decide +kernel
theorem dX6_writes_124 : decode cX6_writes 124 = .ok (.iload 5, 2) := by decide +kernel
theorem dX6_writes_126 : decode cX6_writes 126 = .ok (.ireturn, 1) := by decide +kernel
set_option maxRecDepth 400000 in
theorem ggX6_addSeries_X6_isIn : GoodIn wsX6_addSeries wsX6_isIn := goodIn_r _ [6] rfl (by decide +kernel)
set_option maxRecDepth 20000 in
theorem gX6_addSeries_X6_isIn : GoodIn wsX6_addSeries (va_wsS RX6 59 yX6_isIn wsX6_isIn) := goodIn_app (goodIn_of _ (by decide +kernel)) ggX6_addSeries_X6_isIn
set_option maxRecDepth 400000 in
theorem ggX6_addSeries_X6_can : GoodIn wsX6_addSeries wsX6_can := goodIn_r _ [10, 11, 12, 13, 14, 15, 16, 17, 18, 19, 20, 21, 22, 23, 24, 25, 26, 27, 28] rfl (by decide +kernel)
set_option maxRecDepth 20000 in
theorem gX6_addSeries_X6_can : GoodIn wsX6_addSeries (wsV RX6 75 RX6 yX6_can wsX6_can) := goodIn_app (goodIn_of _ (by decide +kernel)) ggX6_addSeries_X6_can
theorem dX6_addSeries_0 : decode cX6_addSeries 0 = .ok (.aload_n 0, 1) := by decide +kernel
theorem dX6_addSeries_1 : decode cX6_addSeries 1 = .ok (.iload_n 1, 1) := by decide +kernel
theorem dX6_addSeries_2 : decode cX6_addSeries 2 = .ok (.iconst 0, 1) := by decide +kernel
theorem dX6_addSeries_3 : decode cX6_addSeries 3 = .ok (.iconst 1, 1) := by decide +kernel
theorem dX6_addSeries_4 : decode cX6_addSeries 4 = .ok (.invokestatic 59, 3) := by decide +kernel
theorem dX6_addSeries_7 : decode cX6_addSeries 7 = .ok (.ifCond .ne 7, 3) := by decide +kernel
theorem dX6_addSeries_10 : decode cX6_addSeries 10 = .ok (.iconst 1, 1) := by decide +kernel
theorem dX6_addSeries_11 : decode cX6_addSeries 11 = .ok (.goto 16, 3) := by decide +kernel
theorem dX6_addSeries_14 : decode cX6_addSeries 14 = .ok (.aload_n 0, 1) := by decide +kernel
theorem dX6_addSeries_15 : decode cX6_addSeries 15 = .ok (.getfield 39, 3) := by decide +kernel
theorem dX6_addSeries_18 : decode cX6_addSeries 18 = .ok (.iconst 4, 1) := by decide +kernel
theorem dX6_addSeries_19 : decode cX6_addSeries 19 = .ok (.if_icmp .ne 7, 3) := by decide +kernel
theorem dX6_addSeries_22 : decode cX6_addSeries 22 = .ok (.iconst 2, 1) := by decide +kernel
theorem dX6_addSeries_23 : decode cX6_addSeries 23 = .ok (.goto 4, 3) := by decide +kernel
theorem dX6_addSeries_26 : decode cX6_addSeries 26 = .ok (.iconst 0, 1) := by decide +kernel
theorem dX6_addSeries_27 : decode cX6_addSeries 27 = .ok (.invokevirtual 75, 3) := by decide +kernel
theorem dX6_addSeries_30 : decode cX6_addSeries 30 = .ok (.ifCond .ne 5, 3) := by decide +kernel
theorem dX6_addSeries_33 : decode cX6_addSeries 33 = .ok (.iconst 0, 1) := by decide +kernel
theorem dX6_addSeries_34 : decode cX6_addSeries 34 = .ok (.ireturn, 1) := by decide +kernel
theorem dX6_addSeries_35 : decode cX6_addSeries 35 = .ok (.aload_n 0, 1) := by decide +kernel
theorem dX6_addSeries_36 : decode cX6_addSeries 36 = .ok (.getfield 7, 3) := by decide +kernel
theorem dX6_addSeries_39 : decode cX6_addSeries 39 = .ok (.aload_n 0, 1) := by decide +kernel
theorem dX6_addSeries_40 : decode cX6_addSeries 40 = .ok (.getfield 39, 3) := by decide +kernel
theorem dX6_addSeries_43 : decode cX6_addSeries 43 = .ok (.iload_n 1, 1) := by decide +kernel
theorem dX6_addSeries_44 : decode cX6_addSeries 44 = .ok (.iastore, 1) := by decide +kernel
theorem dX6_addSeries_45 : decode cX6_addSeries 45 = .ok (.aload_n 0, 1) := by decide +kernel
theorem dX6_addSeries_46 : decode cX6_addSeries 46 = .ok (.dup, 1) := by decide +kernel
theorem dX6_addSeries_47 : decode cX6_addSeries 47 = .ok (.getfield 39, 3) := by decide +kernel
theorem dX6_addSeries_50 : decode cX6_addSeries 50 = .ok (.iconst 1, 1) := by decide +kernel
theorem dX6_addSeries_51 : decode cX6_addSeries 51 = .ok (.iadd, 1) := by decide +kernel
theorem dX6_addSeries_52 : decode cX6_addSeries 52 = .ok (.putfield 39, 3) := by decide +kernel
theorem dX6_addSeries_55 : decode cX6_addSeries 55 = .ok (.aload_n 0, 1) := by decide +kernel
theorem dX6_addSeries_56 : decode cX6_addSeries 56 = .ok (.getfield 39, 3) := by decide +kernel
theorem dX6_addSeries_59 : decode cX6_addSeries 59 = .ok (.iconst 1, 1) := by decide +kernel
theorem dX6_addSeries_60 : decode cX6_addSeries 60 = .ok (.isub, 1) := by decide +kernel
theorem dX6_addSeries_61 : decode cX6_addSeries 61 = .ok (.ireturn, 1) := by decide +kernel
set_option maxRecDepth 400000 in
theorem ggX6_put_X6_isSeries : GoodIn wsX6_put wsX6_isSeries := goodIn_r _ [5, 6, 52, 53, 54, 55, 56, 57, 58, 59, 60, 61, 62, 63, 64, 65, 66, 67, 68] rfl (by decide +kernel)
set_option maxRecDepth 20000 in
theorem gX6_put_X6_isSeries : GoodIn wsX6_put (wsV RX6 79 RX6 yX6_isSeries wsX6_isSeries) := goodIn_app (goodIn_of _ (by decide +kernel)) ggX6_put_X6_isSeries
set_option maxRecDepth 400000 in
theorem ggX6_put_X6_fault : GoodIn wsX6_put wsX6_fault := goodIn_r _ [10, 11, 12, 13, 14, 4, 15, 16, 17, 18, 19, 20, 21, 22, 23, 24, 25, 26, 27, 28, 29, 30, 31, 32, 33, 34, 35, 36, 37, 38, 39, 40, 41, 52, 53, 54, 55, 56, 57, 58, 59, 60, 61, 62, 63, 64, 65, 66, 67, 68] rfl (by decide +kernel)
set_option maxRecDepth 20000 in
theorem gX6_put_X6_fault : GoodIn wsX6_put (wsV RX6 82 RX6 yX6_fault wsX6_fault) := goodIn_app (goodIn_of _ (by decide +kernel)) ggX6_put_X6_fault
set_option maxRecDepth 400000 in
theorem ggX6_put_X6_can : GoodIn wsX6_put wsX6_can := goodIn_r _ [45, 46, 52, 53, 54, 55, 56, 57, 58, 59, 60, 61, 62, 63, 64, 65, 66, 67, 68] rfl (by decide +kernel)
set_option maxRecDepth 20000 in
theorem gX6_put_X6_can : GoodIn wsX6_put (wsV RX6 75 RX6 yX6_can wsX6_can) := goodIn_app (goodIn_of _ (by decide +kernel)) ggX6_put_X6_can
set_option maxRecDepth 400000 in
theorem ggX6_put_X6_writes : GoodIn wsX6_put wsX6_writes := goodIn_r _ [50, 31, 32, 33, 51, 27, 28, 29, 4, 30, 34, 35, 36, 37, 52, 53, 54, 55, 56, 57, 58, 59, 60, 61, 62, 63, 64, 65, 66, 67, 68] rfl (by decide +kernel)
set_option maxRecDepth 20000 in
theorem gX6_put_X6_writes : GoodIn wsX6_put (wsV RX6 86 RX6 yX6_writes wsX6_writes) := goodIn_app (goodIn_of _ (by decide +kernel)) ggX6_put_X6_writes
theorem dX6_put_0 : decode cX6_put 0 = .ok (.aload_n 0, 1) := by decide +kernel
theorem dX6_put_1 : decode cX6_put 1 = .ok (.aload_n 0, 1) := by decide +kernel
theorem dX6_put_2 : decode cX6_put 2 = .ok (.iload_n 1, 1) := by decide +kernel
theorem dX6_put_3 : decode cX6_put 3 = .ok (.invokevirtual 79, 3) := by decide +kernel
theorem dX6_put_6 : decode cX6_put 6 = .ok (.ifCond .ne 7, 3) := by decide +kernel
theorem dX6_put_9 : decode cX6_put 9 = .ok (.iconst 1, 1) := by decide +kernel
theorem dX6_put_10 : decode cX6_put 10 = .ok (.goto 10, 3) := by decide +kernel
theorem dX6_put_13 : decode cX6_put 13 = .ok (.aload_n 0, 1) := by decide +kernel
theorem dX6_put_14 : decode cX6_put 14 = .ok (.iload_n 1, 1) := by decide +kernel
theorem dX6_put_15 : decode cX6_put 15 = .ok (.iload_n 2, 1) := by decide +kernel
theorem dX6_put_16 : decode cX6_put 16 = .ok (.iload_n 3, 1) := by decide +kernel
theorem dX6_put_17 : decode cX6_put 17 = .ok (.invokevirtual 82, 3) := by decide +kernel
theorem dX6_put_20 : decode cX6_put 20 = .ok (.invokevirtual 75, 3) := by decide +kernel
theorem dX6_put_23 : decode cX6_put 23 = .ok (.ifCond .eq 17, 3) := by decide +kernel
theorem dX6_put_26 : decode cX6_put 26 = .ok (.aload_n 0, 1) := by decide +kernel
theorem dX6_put_27 : decode cX6_put 27 = .ok (.iload_n 1, 1) := by decide +kernel
theorem dX6_put_28 : decode cX6_put 28 = .ok (.iload_n 2, 1) := by decide +kernel
theorem dX6_put_29 : decode cX6_put 29 = .ok (.iload_n 3, 1) := by decide +kernel
theorem dX6_put_30 : decode cX6_put 30 = .ok (.invokevirtual 86, 3) := by decide +kernel
theorem dX6_put_33 : decode cX6_put 33 = .ok (.ifCond .eq 7, 3) := by decide +kernel
theorem dX6_put_36 : decode cX6_put 36 = .ok (.iconst 1, 1) := by decide +kernel
theorem dX6_put_37 : decode cX6_put 37 = .ok (.goto 4, 3) := by decide +kernel
theorem dX6_put_40 : decode cX6_put 40 = .ok (.iconst 0, 1) := by decide +kernel
theorem dX6_put_41 : decode cX6_put 41 = .ok (.ireturn, 1) := by decide +kernel
set_option maxRecDepth 400000 in
theorem ggX6_putMany_X6_isIn : GoodIn wsX6_putMany wsX6_isIn := goodIn_r _ [4] rfl (by decide +kernel)
set_option maxRecDepth 20000 in
theorem gX6_putMany_X6_isIn : GoodIn wsX6_putMany (va_wsS RX6 59 yX6_isIn wsX6_isIn) := goodIn_app (goodIn_of _ (by decide +kernel)) ggX6_putMany_X6_isIn
set_option maxRecDepth 400000 in
theorem ggX6_putMany_X6_isSeries : GoodIn wsX6_putMany wsX6_isSeries := goodIn_r _ [8, 9, 52, 53, 54, 55, 56, 57, 58, 59, 60, 61, 62, 63, 64, 65, 66, 67, 68] rfl (by decide +kernel)
set_option maxRecDepth 20000 in
theorem gX6_putMany_X6_isSeries : GoodIn wsX6_putMany (wsV RX6 79 RX6 yX6_isSeries wsX6_isSeries) := goodIn_app (goodIn_of _ (by decide +kernel)) ggX6_putMany_X6_isSeries
set_option maxRecDepth 400000 in
theorem ggX6_putMany_X6_fault : GoodIn wsX6_putMany wsX6_fault := goodIn_r _ [13, 14, 15, 16, 17, 3, 18, 19, 20, 21, 1, 2, 4, 22, 23, 24, 25, 26, 27, 28, 29, 30, 31, 32, 33, 34, 35, 36, 37, 38, 39, 40, 41, 52, 53, 54, 55, 56, 57, 58, 59, 60, 61, 62, 63, 64, 65, 66, 67, 68] rfl (by decide +kernel)
set_option maxRecDepth 20000 in
theorem gX6_putMany_X6_fault : GoodIn wsX6_putMany (wsV RX6 82 RX6 yX6_fault wsX6_fault) := goodIn_app (goodIn_of _ (by decide +kernel)) ggX6_putMany_X6_fault
set_option maxRecDepth 400000 in
theorem ggX6_putMany_X6_can : GoodIn wsX6_putMany wsX6_can := goodIn_r _ [45, 46, 52, 53, 54, 55, 56, 57, 58, 59, 60, 61, 62, 63, 64, 65, 66, 67, 68] rfl (by decide +kernel)
set_option maxRecDepth 20000 in
theorem gX6_putMany_X6_can : GoodIn wsX6_putMany (wsV RX6 75 RX6 yX6_can wsX6_can) := goodIn_app (goodIn_of _ (by decide +kernel)) ggX6_putMany_X6_can
set_option maxRecDepth 400000 in
theorem ggX6_putMany_X6_writes : GoodIn wsX6_putMany wsX6_writes := goodIn_r _ [50, 31, 32, 33, 51, 27, 28, 29, 3, 30, 34, 35, 36, 37, 52, 53, 54, 55, 56, 57, 58, 59, 60, 61, 62, 63, 64, 65, 66, 67, 68] rfl (by decide +kernel)
set_option maxRecDepth 20000 in
theorem gX6_putMany_X6_writes : GoodIn wsX6_putMany (wsV RX6 86 RX6 yX6_writes wsX6_writes) := goodIn_app (goodIn_of _ (by decide +kernel)) ggX6_putMany_X6_writes
theorem dX6_putMany_0 : decode cX6_putMany 0 = .ok (.iload 4, 2) := by decide +kernel
theorem dX6_putMany_2 : decode cX6_putMany 2 = .ok (.iconst 1, 1) := by decide +kernel
theorem dX6_putMany_3 : decode cX6_putMany 3 = .ok (.sipush 3600, 3) := by decide +kernel
theorem dX6_putMany_6 : decode cX6_putMany 6 = .ok (.invokestatic 59, 3) := by decide +kernel
theorem dX6_putMany_9 : decode cX6_putMany 9 = .ok (.ifCond .eq 32, 3) := by decide +kernel
theorem dX6_putMany_12 : decode cX6_putMany 12 = .ok (.iload 5, 2) := by decide +kernel
theorem dX6_putMany_14 : decode cX6_putMany 14 = .ok (.sipush (-1000), 3) := by decide +kernel
theorem dX6_putMany_17 : decode cX6_putMany 17 = .ok (.sipush 1000, 3) := by decide +kernel
theorem dX6_putMany_20 : decode cX6_putMany 20 = .ok (.invokestatic 59, 3) := by decide +kernel
theorem dX6_putMany_23 : decode cX6_putMany 23 = .ok (.ifCond .eq 18, 3) := by decide +kernel
theorem dX6_putMany_26 : decode cX6_putMany 26 = .ok (.iload 6, 2) := by decide +kernel
theorem dX6_putMany_28 : decode cX6_putMany 28 = .ok (.iconst 1, 1) := by decide +kernel
theorem dX6_putMany_29 : decode cX6_putMany 29 = .ok (.bipush 20, 2) := by decide +kernel
theorem dX6_putMany_31 : decode cX6_putMany 31 = .ok (.invokestatic 59, 3) := by decide +kernel
theorem dX6_putMany_34 : decode cX6_putMany 34 = .ok (.ifCond .eq 7, 3) := by decide +kernel
theorem dX6_putMany_37 : decode cX6_putMany 37 = .ok (.iconst 1, 1) := by decide +kernel
theorem dX6_putMany_38 : decode cX6_putMany 38 = .ok (.goto 4, 3) := by decide +kernel
theorem dX6_putMany_41 : decode cX6_putMany 41 = .ok (.iconst 0, 1) := by decide +kernel
theorem dX6_putMany_42 : decode cX6_putMany 42 = .ok (.istore 7, 2) := by decide +kernel
theorem dX6_putMany_44 : decode cX6_putMany 44 = .ok (.aload_n 0, 1) := by decide +kernel
theorem dX6_putMany_45 : decode cX6_putMany 45 = .ok (.aload_n 0, 1) := by decide +kernel
theorem dX6_putMany_46 : decode cX6_putMany 46 = .ok (.iload_n 1, 1) := by decide +kernel
theorem dX6_putMany_47 : decode cX6_putMany 47 = .ok (.invokevirtual 79, 3) := by decide +kernel
theorem dX6_putMany_50 : decode cX6_putMany 50 = .ok (.ifCond .ne 7, 3) := by decide +kernel
theorem dX6_putMany_53 : decode cX6_putMany 53 = .ok (.iconst 1, 1) := by decide +kernel
theorem dX6_putMany_54 : decode cX6_putMany 54 = .ok (.goto 19, 3) := by decide +kernel
theorem dX6_putMany_57 : decode cX6_putMany 57 = .ok (.iload 7, 2) := by decide +kernel
theorem dX6_putMany_59 : decode cX6_putMany 59 = .ok (.ifCond .ne 7, 3) := by decide +kernel
theorem dX6_putMany_62 : decode cX6_putMany 62 = .ok (.iconst 2, 1) := by decide +kernel
theorem dX6_putMany_63 : decode cX6_putMany 63 = .ok (.goto 10, 3) := by decide +kernel
theorem dX6_putMany_66 : decode cX6_putMany 66 = .ok (.aload_n 0, 1) := by decide +kernel
theorem dX6_putMany_67 : decode cX6_putMany 67 = .ok (.iload_n 1, 1) := by decide +kernel
theorem dX6_putMany_68 : decode cX6_putMany 68 = .ok (.iload_n 2, 1) := by decide +kernel
theorem dX6_putMany_69 : decode cX6_putMany 69 = .ok (.iload_n 3, 1) := by decide +kernel
theorem dX6_putMany_70 : decode cX6_putMany 70 = .ok (.invokevirtual 82, 3) := by decide +kernel
theorem dX6_putMany_73 : decode cX6_putMany 73 = .ok (.invokevirtual 75, 3) := by decide +kernel
theorem dX6_putMany_76 : decode cX6_putMany 76 = .ok (.ifCond .ne 5, 3) := by decide +kernel
theorem dX6_putMany_79 : decode cX6_putMany 79 = .ok (.iconst 0, 1) := by decide +kernel
theorem dX6_putMany_80 : decode cX6_putMany 80 = .ok (.ireturn, 1) := by decide +kernel
theorem dX6_putMany_81 : decode cX6_putMany 81 = .ok (.iconst 0, 1) := by decide +kernel
theorem dX6_putMany_82 : decode cX6_putMany 82 = .ok (.istore 8, 2) := by decide +kernel
theorem dX6_putMany_84 : decode cX6_putMany 84 = .ok (.iload 8, 2) := by decide +kernel
theorem dX6_putMany_86 : decode cX6_putMany 86 = .ok (.iload 6, 2) := by decide +kernel
theorem dX6_putMany_88 : decode cX6_putMany 88 = .ok (.if_icmp .ge 52, 3) := by decide +kernel
theorem dX6_putMany_91 : decode cX6_putMany 91 = .ok (.aload_n 0, 1) := by decide +kernel
theorem dX6_putMany_92 : decode cX6_putMany 92 = .ok (.iload_n 1, 1) := by decide +kernel
theorem dX6_putMany_93 : decode cX6_putMany 93 = .ok (.iload_n 2, 1) := by decide +kernel
theorem dX6_putMany_94 : decode cX6_putMany 94 = .ok (.iload 8, 2) := by decide +kernel
theorem dX6_putMany_96 : decode cX6_putMany 96 = .ok (.iload 4, 2) := by decide +kernel
theorem dX6_putMany_98 : decode cX6_putMany 98 = .ok (.imul, 1) := by decide +kernel
theorem dX6_putMany_99 : decode cX6_putMany 99 = .ok (.iadd, 1) := by decide +kernel
theorem dX6_putMany_100 : decode cX6_putMany 100 = .ok (.iload_n 3, 1) := by decide +kernel
theorem dX6_putMany_101 : decode cX6_putMany 101 = .ok (.iload 8, 2) := by decide +kernel
theorem dX6_putMany_103 : decode cX6_putMany 103 = .ok (.iload 5, 2) := by decide +kernel
theorem dX6_putMany_105 : decode cX6_putMany 105 = .ok (.imul, 1) := by decide +kernel
theorem dX6_putMany_106 : decode cX6_putMany 106 = .ok (.iadd, 1) := by decide +kernel
theorem dX6_putMany_107 : decode cX6_putMany 107 = .ok (.invokevirtual 82, 3) := by decide +kernel
theorem dX6_putMany_110 : decode cX6_putMany 110 = .ok (.ifCond .ne 30, 3) := by decide +kernel
theorem dX6_putMany_113 : decode cX6_putMany 113 = .ok (.aload_n 0, 1) := by decide +kernel
theorem dX6_putMany_114 : decode cX6_putMany 114 = .ok (.iload_n 1, 1) := by decide +kernel
theorem dX6_putMany_115 : decode cX6_putMany 115 = .ok (.iload_n 2, 1) := by decide +kernel
theorem dX6_putMany_116 : decode cX6_putMany 116 = .ok (.iload 8, 2) := by decide +kernel
theorem dX6_putMany_118 : decode cX6_putMany 118 = .ok (.iload 4, 2) := by decide +kernel
theorem dX6_putMany_120 : decode cX6_putMany 120 = .ok (.imul, 1) := by decide +kernel
theorem dX6_putMany_121 : decode cX6_putMany 121 = .ok (.iadd, 1) := by decide +kernel
theorem dX6_putMany_122 : decode cX6_putMany 122 = .ok (.iload_n 3, 1) := by decide +kernel
theorem dX6_putMany_123 : decode cX6_putMany 123 = .ok (.iload 8, 2) := by decide +kernel
theorem dX6_putMany_125 : decode cX6_putMany 125 = .ok (.iload 5, 2) := by decide +kernel
theorem dX6_putMany_127 : decode cX6_putMany 127 = .ok (.imul, 1) := by decide +kernel
theorem dX6_putMany_128 : decode cX6_putMany 128 = .ok (.iadd, 1) := by decide +kernel
theorem dX6_putMany_129 : decode cX6_putMany 129 = .ok (.invokevirtual 86, 3) := by decide +kernel
theorem dX6_putMany_132 : decode cX6_putMany 132 = .ok (.istore 9, 2) := by decide +kernel
theorem dX6_putMany_134 : decode cX6_putMany 134 = .ok (.iinc 8 1, 3) := by decide +kernel
theorem dX6_putMany_137 : decode cX6_putMany 137 = .ok (.goto (-53), 3) := by decide +kernel
theorem dX6_putMany_140 : decode cX6_putMany 140 = .ok (.iload 8, 2) := by decide +kernel
theorem dX6_putMany_142 : decode cX6_putMany 142 = .ok (.ireturn, 1) := by decide +kernel
set_option maxRecDepth 400000 in
theorem ggX6_erase_X6_isSeries : GoodIn wsX6_erase wsX6_isSeries := goodIn_r _ [10, 11, 30, 31, 32, 33, 34, 35, 36, 37, 38, 39, 40, 41, 42, 43, 44, 45, 46] rfl (by decide +kernel)
set_option maxRecDepth 20000 in
theorem gX6_erase_X6_isSeries : GoodIn wsX6_erase (wsV RX6 79 RX6 yX6_isSeries wsX6_isSeries) := goodIn_app (goodIn_of _ (by decide +kernel)) ggX6_erase_X6_isSeries
set_option maxRecDepth 400000 in
theorem ggX6_erase_X6_isKept : GoodIn wsX6_erase wsX6_isKept := goodIn_r _ [15, 16, 17, 18, 19, 9, 20, 3, 4, 5, 21, 22, 23, 24, 30, 31, 32, 33, 34, 35, 36, 37, 38, 39, 40, 41, 42, 43, 44, 45, 46] rfl (by decide +kernel)
set_option maxRecDepth 20000 in
theorem gX6_erase_X6_isKept : GoodIn wsX6_erase (wsV RX6 69 RX6 yX6_isKept wsX6_isKept) := goodIn_app (goodIn_of _ (by decide +kernel)) ggX6_erase_X6_isKept
set_option maxRecDepth 400000 in
theorem ggX6_erase_X6_can : GoodIn wsX6_erase wsX6_can := goodIn_r _ [28, 29, 30, 31, 32, 33, 34, 35, 36, 37, 38, 39, 40, 41, 42, 43, 44, 45, 46] rfl (by decide +kernel)
set_option maxRecDepth 20000 in
theorem gX6_erase_X6_can : GoodIn wsX6_erase (wsV RX6 75 RX6 yX6_can wsX6_can) := goodIn_app (goodIn_of _ (by decide +kernel)) ggX6_erase_X6_can
set_option maxRecDepth 400000 in
theorem ggX6_erase_X6_place : GoodIn wsX6_erase wsX6_place := goodIn_r _ [20, 3, 4, 5, 30, 31, 32, 33, 34, 35, 36, 37, 38, 39, 40, 41, 42, 43, 44, 45, 46] rfl (by decide +kernel)
set_option maxRecDepth 20000 in
theorem gX6_erase_X6_place : GoodIn wsX6_erase (wsV RX6 49 RX6 yX6_place wsX6_place) := goodIn_app (goodIn_of _ (by decide +kernel)) ggX6_erase_X6_place
theorem dX6_erase_0 : decode cX6_erase 0 = .ok (.aload_n 0, 1) := by decide +kernel
theorem dX6_erase_1 : decode cX6_erase 1 = .ok (.aload_n 0, 1) := by decide +kernel
theorem dX6_erase_2 : decode cX6_erase 2 = .ok (.iload_n 1, 1) := by decide +kernel
theorem dX6_erase_3 : decode cX6_erase 3 = .ok (.invokevirtual 79, 3) := by decide +kernel
theorem dX6_erase_6 : decode cX6_erase 6 = .ok (.ifCond .ne 7, 3) := by decide +kernel
theorem dX6_erase_9 : decode cX6_erase 9 = .ok (.iconst 1, 1) := by decide +kernel
theorem dX6_erase_10 : decode cX6_erase 10 = .ok (.goto 29, 3) := by decide +kernel
theorem dX6_erase_13 : decode cX6_erase 13 = .ok (.aload_n 0, 1) := by decide +kernel
theorem dX6_erase_14 : decode cX6_erase 14 = .ok (.iload_n 1, 1) := by decide +kernel
theorem dX6_erase_15 : decode cX6_erase 15 = .ok (.iload_n 2, 1) := by decide +kernel
theorem dX6_erase_16 : decode cX6_erase 16 = .ok (.invokevirtual 69, 3) := by decide +kernel
theorem dX6_erase_19 : decode cX6_erase 19 = .ok (.ifCond .eq 15, 3) := by decide +kernel
theorem dX6_erase_22 : decode cX6_erase 22 = .ok (.iload_n 2, 1) := by decide +kernel
theorem dX6_erase_23 : decode cX6_erase 23 = .ok (.aload_n 0, 1) := by decide +kernel
theorem dX6_erase_24 : decode cX6_erase 24 = .ok (.getfield 62, 3) := by decide +kernel
theorem dX6_erase_27 : decode cX6_erase 27 = .ok (.sipush 3600, 3) := by decide +kernel
theorem dX6_erase_30 : decode cX6_erase 30 = .ok (.isub, 1) := by decide +kernel
theorem dX6_erase_31 : decode cX6_erase 31 = .ok (.if_icmp .ge 7, 3) := by decide +kernel
theorem dX6_erase_34 : decode cX6_erase 34 = .ok (.iconst 2, 1) := by decide +kernel
theorem dX6_erase_35 : decode cX6_erase 35 = .ok (.goto 4, 3) := by decide +kernel
theorem dX6_erase_38 : decode cX6_erase 38 = .ok (.iconst 0, 1) := by decide +kernel
theorem dX6_erase_39 : decode cX6_erase 39 = .ok (.invokevirtual 75, 3) := by decide +kernel
theorem dX6_erase_42 : decode cX6_erase 42 = .ok (.ifCond .ne 5, 3) := by decide +kernel
theorem dX6_erase_45 : decode cX6_erase 45 = .ok (.iconst 0, 1) := by decide +kernel
theorem dX6_erase_46 : decode cX6_erase 46 = .ok (.ireturn, 1) := by decide +kernel
theorem dX6_erase_47 : decode cX6_erase 47 = .ok (.aload_n 0, 1) := by decide +kernel
theorem dX6_erase_48 : decode cX6_erase 48 = .ok (.iload_n 1, 1) := by decide +kernel
theorem dX6_erase_49 : decode cX6_erase 49 = .ok (.iload_n 2, 1) := by decide +kernel
theorem dX6_erase_50 : decode cX6_erase 50 = .ok (.invokevirtual 49, 3) := by decide +kernel
theorem dX6_erase_53 : decode cX6_erase 53 = .ok (.istore_n 3, 1) := by decide +kernel
theorem dX6_erase_54 : decode cX6_erase 54 = .ok (.aload_n 0, 1) := by decide +kernel
theorem dX6_erase_55 : decode cX6_erase 55 = .ok (.getfield 25, 3) := by decide +kernel
theorem dX6_erase_58 : decode cX6_erase 58 = .ok (.iload_n 3, 1) := by decide +kernel
theorem dX6_erase_59 : decode cX6_erase 59 = .ok (.iaload, 1) := by decide +kernel
theorem dX6_erase_60 : decode cX6_erase 60 = .ok (.istore 4, 2) := by decide +kernel
theorem dX6_erase_62 : decode cX6_erase 62 = .ok (.aload_n 0, 1) := by decide +kernel
theorem dX6_erase_63 : decode cX6_erase 63 = .ok (.dup, 1) := by decide +kernel
theorem dX6_erase_64 : decode cX6_erase 64 = .ok (.getfield 46, 3) := by decide +kernel
theorem dX6_erase_67 : decode cX6_erase 67 = .ok (.iconst 1, 1) := by decide +kernel
theorem dX6_erase_68 : decode cX6_erase 68 = .ok (.isub, 1) := by decide +kernel
theorem dX6_erase_69 : decode cX6_erase 69 = .ok (.putfield 46, 3) := by decide +kernel
theorem dX6_erase_72 : decode cX6_erase 72 = .ok (.iload_n 3, 1) := by decide +kernel
theorem dX6_erase_73 : decode cX6_erase 73 = .ok (.istore 5, 2) := by decide +kernel
theorem dX6_erase_75 : decode cX6_erase 75 = .ok (.iload 5, 2) := by decide +kernel
theorem dX6_erase_77 : decode cX6_erase 77 = .ok (.aload_n 0, 1) := by decide +kernel
theorem dX6_erase_78 : decode cX6_erase 78 = .ok (.getfield 46, 3) := by decide +kernel
theorem dX6_erase_81 : decode cX6_erase 81 = .ok (.if_icmp .ge 57, 3) := by decide +kernel
theorem dX6_erase_84 : decode cX6_erase 84 = .ok (.aload_n 0, 1) := by decide +kernel
theorem dX6_erase_85 : decode cX6_erase 85 = .ok (.getfield 19, 3) := by decide +kernel
theorem dX6_erase_88 : decode cX6_erase 88 = .ok (.iload 5, 2) := by decide +kernel
theorem dX6_erase_90 : decode cX6_erase 90 = .ok (.aload_n 0, 1) := by decide +kernel
theorem dX6_erase_91 : decode cX6_erase 91 = .ok (.getfield 19, 3) := by decide +kernel
theorem dX6_erase_94 : decode cX6_erase 94 = .ok (.iload 5, 2) := by decide +kernel
theorem dX6_erase_96 : decode cX6_erase 96 = .ok (.iconst 1, 1) := by decide +kernel
theorem dX6_erase_97 : decode cX6_erase 97 = .ok (.iadd, 1) := by decide +kernel
theorem dX6_erase_98 : decode cX6_erase 98 = .ok (.iaload, 1) := by decide +kernel
theorem dX6_erase_99 : decode cX6_erase 99 = .ok (.iastore, 1) := by decide +kernel
theorem dX6_erase_100 : decode cX6_erase 100 = .ok (.aload_n 0, 1) := by decide +kernel
theorem dX6_erase_101 : decode cX6_erase 101 = .ok (.getfield 22, 3) := by decide +kernel
theorem dX6_erase_104 : decode cX6_erase 104 = .ok (.iload 5, 2) := by decide +kernel
theorem dX6_erase_106 : decode cX6_erase 106 = .ok (.aload_n 0, 1) := by decide +kernel
theorem dX6_erase_107 : decode cX6_erase 107 = .ok (.getfield 22, 3) := by decide +kernel
theorem dX6_erase_110 : decode cX6_erase 110 = .ok (.iload 5, 2) := by decide +kernel
theorem dX6_erase_112 : decode cX6_erase 112 = .ok (.iconst 1, 1) := by decide +kernel
theorem dX6_erase_113 : decode cX6_erase 113 = .ok (.iadd, 1) := by decide +kernel
theorem dX6_erase_114 : decode cX6_erase 114 = .ok (.iaload, 1) := by decide +kernel
theorem dX6_erase_115 : decode cX6_erase 115 = .ok (.iastore, 1) := by decide +kernel
theorem dX6_erase_116 : decode cX6_erase 116 = .ok (.aload_n 0, 1) := by decide +kernel
theorem dX6_erase_117 : decode cX6_erase 117 = .ok (.getfield 25, 3) := by decide +kernel
theorem dX6_erase_120 : decode cX6_erase 120 = .ok (.iload 5, 2) := by decide +kernel
theorem dX6_erase_122 : decode cX6_erase 122 = .ok (.aload_n 0, 1) := by decide +kernel
theorem dX6_erase_123 : decode cX6_erase 123 = .ok (.getfield 25, 3) := by decide +kernel
theorem dX6_erase_126 : decode cX6_erase 126 = .ok (.iload 5, 2) := by decide +kernel
theorem dX6_erase_128 : decode cX6_erase 128 = .ok (.iconst 1, 1) := by decide +kernel
theorem dX6_erase_129 : decode cX6_erase 129 = .ok (.iadd, 1) := by decide +kernel
theorem dX6_erase_130 : decode cX6_erase 130 = .ok (.iaload, 1) := by decide +kernel
theorem dX6_erase_131 : decode cX6_erase 131 = .ok (.iastore, 1) := by decide +kernel
theorem dX6_erase_132 : decode cX6_erase 132 = .ok (.iinc 5 1, 3) := by decide +kernel
theorem dX6_erase_135 : decode cX6_erase 135 = .ok (.goto (-60), 3) := by decide +kernel
theorem dX6_erase_138 : decode cX6_erase 138 = .ok (.iload 4, 2) := by decide +kernel
theorem dX6_erase_140 : decode cX6_erase 140 = .ok (.ireturn, 1) := by decide +kernel
theorem dX6_expire_0 : decode cX6_expire 0 = .ok (.iconst 0, 1) := by decide +kernel
theorem dX6_expire_1 : decode cX6_expire 1 = .ok (.istore_n 1, 1) := by decide +kernel
theorem dX6_expire_2 : decode cX6_expire 2 = .ok (.iload_n 1, 1) := by decide +kernel
theorem dX6_expire_3 : decode cX6_expire 3 = .ok (.iconst 3, 1) := by decide +kernel
theorem dX6_expire_4 : decode cX6_expire 4 = .ok (.if_icmp .gt 47, 3) := by decide +kernel
theorem dX6_expire_7 : decode cX6_expire 7 = .ok (.aload_n 0, 1) := by decide +kernel
theorem dX6_expire_8 : decode cX6_expire 8 = .ok (.getfield 62, 3) := by decide +kernel
theorem dX6_expire_11 : decode cX6_expire 11 = .ok (.aload_n 0, 1) := by decide +kernel
theorem dX6_expire_12 : decode cX6_expire 12 = .ok (.getfield 13, 3) := by decide +kernel
theorem dX6_expire_15 : decode cX6_expire 15 = .ok (.iload_n 1, 1) := by decide +kernel
theorem dX6_expire_16 : decode cX6_expire 16 = .ok (.iaload, 1) := by decide +kernel
theorem dX6_expire_17 : decode cX6_expire 17 = .ok (.isub, 1) := by decide +kernel
theorem dX6_expire_18 : decode cX6_expire 18 = .ok (.istore_n 2, 1) := by decide +kernel
theorem dX6_expire_19 : decode cX6_expire 19 = .ok (.aload_n 0, 1) := by decide +kernel
theorem dX6_expire_20 : decode cX6_expire 20 = .ok (.getfield 16, 3) := by decide +kernel
theorem dX6_expire_23 : decode cX6_expire 23 = .ok (.iload_n 1, 1) := by decide +kernel
theorem dX6_expire_24 : decode cX6_expire 24 = .ok (.iload_n 2, 1) := by decide +kernel
theorem dX6_expire_25 : decode cX6_expire 25 = .ok (.aload_n 0, 1) := by decide +kernel
theorem dX6_expire_26 : decode cX6_expire 26 = .ok (.getfield 16, 3) := by decide +kernel
theorem dX6_expire_29 : decode cX6_expire 29 = .ok (.iload_n 1, 1) := by decide +kernel
theorem dX6_expire_30 : decode cX6_expire 30 = .ok (.iaload, 1) := by decide +kernel
theorem dX6_expire_31 : decode cX6_expire 31 = .ok (.if_icmp .le 7, 3) := by decide +kernel
theorem dX6_expire_34 : decode cX6_expire 34 = .ok (.iload_n 2, 1) := by decide +kernel
theorem dX6_expire_35 : decode cX6_expire 35 = .ok (.goto 9, 3) := by decide +kernel
theorem dX6_expire_38 : decode cX6_expire 38 = .ok (.aload_n 0, 1) := by decide +kernel
theorem dX6_expire_39 : decode cX6_expire 39 = .ok (.getfield 16, 3) := by decide +kernel
theorem dX6_expire_42 : decode cX6_expire 42 = .ok (.iload_n 1, 1) := by decide +kernel
theorem dX6_expire_43 : decode cX6_expire 43 = .ok (.iaload, 1) := by decide +kernel
theorem dX6_expire_44 : decode cX6_expire 44 = .ok (.iastore, 1) := by decide +kernel
theorem dX6_expire_45 : decode cX6_expire 45 = .ok (.iinc 1 1, 3) := by decide +kernel
theorem dX6_expire_48 : decode cX6_expire 48 = .ok (.goto (-46), 3) := by decide +kernel
theorem dX6_expire_51 : decode cX6_expire 51 = .ok (.return_, 1) := by decide +kernel
set_option maxRecDepth 400000 in
theorem ggX6_begins_X6_begin : GoodIn wsX6_begins wsX6_begin := goodIn_r _ [7, 8, 9, 6, 10, 11] rfl (by decide +kernel)
set_option maxRecDepth 20000 in
theorem gX6_begins_X6_begin : GoodIn wsX6_begins (va_wsS RX6 89 yX6_begin wsX6_begin) := goodIn_app (goodIn_of _ (by decide +kernel)) ggX6_begins_X6_begin
set_option maxRecDepth 400000 in
theorem ggX6_begins_X6_isGone : GoodIn wsX6_begins wsX6_isGone := goodIn_r _ [15, 2, 8, 9, 6, 10, 11, 16, 17, 18, 19, 20, 21, 22, 23, 24, 25, 26, 27, 28, 29, 30, 31, 32] rfl (by decide +kernel)
set_option maxRecDepth 20000 in
theorem gX6_begins_X6_isGone : GoodIn wsX6_begins (wsV RX6 92 RX6 yX6_isGone wsX6_isGone) := goodIn_app (goodIn_of _ (by decide +kernel)) ggX6_begins_X6_isGone
theorem dX6_begins_0 : decode cX6_begins 0 = .ok (.iload_n 2, 1) := by decide +kernel
theorem dX6_begins_1 : decode cX6_begins 1 = .ok (.ifCond .ne 24, 3) := by decide +kernel
theorem dX6_begins_4 : decode cX6_begins 4 = .ok (.aload_n 0, 1) := by decide +kernel
theorem dX6_begins_5 : decode cX6_begins 5 = .ok (.getfield 22, 3) := by decide +kernel
theorem dX6_begins_8 : decode cX6_begins 8 = .ok (.iload_n 1, 1) := by decide +kernel
theorem dX6_begins_9 : decode cX6_begins 9 = .ok (.iaload, 1) := by decide +kernel
theorem dX6_begins_10 : decode cX6_begins 10 = .ok (.aload_n 0, 1) := by decide +kernel
theorem dX6_begins_11 : decode cX6_begins 11 = .ok (.getfield 16, 3) := by decide +kernel
theorem dX6_begins_14 : decode cX6_begins 14 = .ok (.iconst 0, 1) := by decide +kernel
theorem dX6_begins_15 : decode cX6_begins 15 = .ok (.iaload, 1) := by decide +kernel
theorem dX6_begins_16 : decode cX6_begins 16 = .ok (.if_icmp .lt 7, 3) := by decide +kernel
theorem dX6_begins_19 : decode cX6_begins 19 = .ok (.iconst 1, 1) := by decide +kernel
theorem dX6_begins_20 : decode cX6_begins 20 = .ok (.goto 4, 3) := by decide +kernel
theorem dX6_begins_23 : decode cX6_begins 23 = .ok (.iconst 0, 1) := by decide +kernel
theorem dX6_begins_24 : decode cX6_begins 24 = .ok (.ireturn, 1) := by decide +kernel
theorem dX6_begins_25 : decode cX6_begins 25 = .ok (.iload_n 2, 1) := by decide +kernel
theorem dX6_begins_26 : decode cX6_begins 26 = .ok (.aload_n 0, 1) := by decide +kernel
theorem dX6_begins_27 : decode cX6_begins 27 = .ok (.getfield 22, 3) := by decide +kernel
theorem dX6_begins_30 : decode cX6_begins 30 = .ok (.iload_n 1, 1) := by decide +kernel
theorem dX6_begins_31 : decode cX6_begins 31 = .ok (.iaload, 1) := by decide +kernel
theorem dX6_begins_32 : decode cX6_begins 32 = .ok (.invokestatic 89, 3) := by decide +kernel
theorem dX6_begins_35 : decode cX6_begins 35 = .ok (.istore_n 3, 1) := by decide +kernel
theorem dX6_begins_36 : decode cX6_begins 36 = .ok (.aload_n 0, 1) := by decide +kernel
theorem dX6_begins_37 : decode cX6_begins 37 = .ok (.iload_n 2, 1) := by decide +kernel
theorem dX6_begins_38 : decode cX6_begins 38 = .ok (.iload_n 3, 1) := by decide +kernel
theorem dX6_begins_39 : decode cX6_begins 39 = .ok (.i2l, 1) := by decide +kernel
theorem dX6_begins_40 : decode cX6_begins 40 = .ok (.invokevirtual 92, 3) := by decide +kernel
theorem dX6_begins_43 : decode cX6_begins 43 = .ok (.ifCond .ne 44, 3) := by decide +kernel
theorem dX6_begins_46 : decode cX6_begins 46 = .ok (.iload_n 1, 1) := by decide +kernel
theorem dX6_begins_47 : decode cX6_begins 47 = .ok (.ifCond .eq 36, 3) := by decide +kernel
theorem dX6_begins_50 : decode cX6_begins 50 = .ok (.aload_n 0, 1) := by decide +kernel
theorem dX6_begins_51 : decode cX6_begins 51 = .ok (.getfield 19, 3) := by decide +kernel
theorem dX6_begins_54 : decode cX6_begins 54 = .ok (.iload_n 1, 1) := by decide +kernel
theorem dX6_begins_55 : decode cX6_begins 55 = .ok (.iconst 1, 1) := by decide +kernel
theorem dX6_begins_56 : decode cX6_begins 56 = .ok (.isub, 1) := by decide +kernel
theorem dX6_begins_57 : decode cX6_begins 57 = .ok (.iaload, 1) := by decide +kernel
theorem dX6_begins_58 : decode cX6_begins 58 = .ok (.aload_n 0, 1) := by decide +kernel
theorem dX6_begins_59 : decode cX6_begins 59 = .ok (.getfield 19, 3) := by decide +kernel
theorem dX6_begins_62 : decode cX6_begins 62 = .ok (.iload_n 1, 1) := by decide +kernel
theorem dX6_begins_63 : decode cX6_begins 63 = .ok (.iaload, 1) := by decide +kernel
theorem dX6_begins_64 : decode cX6_begins 64 = .ok (.if_icmp .ne 19, 3) := by decide +kernel
theorem dX6_begins_67 : decode cX6_begins 67 = .ok (.iload_n 2, 1) := by decide +kernel
theorem dX6_begins_68 : decode cX6_begins 68 = .ok (.aload_n 0, 1) := by decide +kernel
theorem dX6_begins_69 : decode cX6_begins 69 = .ok (.getfield 22, 3) := by decide +kernel
theorem dX6_begins_72 : decode cX6_begins 72 = .ok (.iload_n 1, 1) := by decide +kernel
theorem dX6_begins_73 : decode cX6_begins 73 = .ok (.iconst 1, 1) := by decide +kernel
theorem dX6_begins_74 : decode cX6_begins 74 = .ok (.isub, 1) := by decide +kernel
theorem dX6_begins_75 : decode cX6_begins 75 = .ok (.iaload, 1) := by decide +kernel
theorem dX6_begins_76 : decode cX6_begins 76 = .ok (.invokestatic 89, 3) := by decide +kernel
theorem dX6_begins_79 : decode cX6_begins 79 = .ok (.iload_n 3, 1) := by decide +kernel
theorem dX6_begins_80 : decode cX6_begins 80 = .ok (.if_icmp .eq 7, 3) := by decide +kernel
theorem dX6_begins_83 : decode cX6_begins 83 = .ok (.iconst 1, 1) := by decide +kernel
theorem dX6_begins_84 : decode cX6_begins 84 = .ok (.goto 4, 3) := by decide +kernel
theorem dX6_begins_87 : decode cX6_begins 87 = .ok (.iconst 0, 1) := by decide +kernel
theorem dX6_begins_88 : decode cX6_begins 88 = .ok (.ireturn, 1) := by decide +kernel
set_option maxRecDepth 400000 in
theorem ggX6_rowsOf_X6_begins : GoodIn wsX6_rowsOf wsX6_begins := goodIn_r _ [7, 8, 9, 2, 10, 11, 6, 12, 13, 14, 15, 16, 17, 18, 19, 20, 21, 22, 23, 24, 25, 26, 27, 28, 29, 30, 31, 32, 33, 34, 35, 36, 37] rfl (by decide +kernel)
set_option maxRecDepth 20000 in
theorem gX6_rowsOf_X6_begins : GoodIn wsX6_rowsOf (wsV RX6 96 RX6 yX6_begins wsX6_begins) := goodIn_app (goodIn_of _ (by decide +kernel)) ggX6_rowsOf_X6_begins
theorem dX6_rowsOf_0 : decode cX6_rowsOf 0 = .ok (.iconst 0, 1) := by decide +kernel
theorem dX6_rowsOf_1 : decode cX6_rowsOf 1 = .ok (.istore_n 3, 1) := by decide +kernel
theorem dX6_rowsOf_2 : decode cX6_rowsOf 2 = .ok (.iconst 0, 1) := by decide +kernel
theorem dX6_rowsOf_3 : decode cX6_rowsOf 3 = .ok (.istore 4, 2) := by decide +kernel
theorem dX6_rowsOf_5 : decode cX6_rowsOf 5 = .ok (.iload 4, 2) := by decide +kernel
theorem dX6_rowsOf_7 : decode cX6_rowsOf 7 = .ok (.aload_n 0, 1) := by decide +kernel
theorem dX6_rowsOf_8 : decode cX6_rowsOf 8 = .ok (.getfield 46, 3) := by decide +kernel
theorem dX6_rowsOf_11 : decode cX6_rowsOf 11 = .ok (.if_icmp .ge 38, 3) := by decide +kernel
theorem dX6_rowsOf_14 : decode cX6_rowsOf 14 = .ok (.iload_n 3, 1) := by decide +kernel
theorem dX6_rowsOf_15 : decode cX6_rowsOf 15 = .ok (.aload_n 0, 1) := by decide +kernel
theorem dX6_rowsOf_16 : decode cX6_rowsOf 16 = .ok (.getfield 19, 3) := by decide +kernel
theorem dX6_rowsOf_19 : decode cX6_rowsOf 19 = .ok (.iload 4, 2) := by decide +kernel
theorem dX6_rowsOf_21 : decode cX6_rowsOf 21 = .ok (.iaload, 1) := by decide +kernel
theorem dX6_rowsOf_22 : decode cX6_rowsOf 22 = .ok (.iload_n 1, 1) := by decide +kernel
theorem dX6_rowsOf_23 : decode cX6_rowsOf 23 = .ok (.if_icmp .ne 17, 3) := by decide +kernel
theorem dX6_rowsOf_26 : decode cX6_rowsOf 26 = .ok (.aload_n 0, 1) := by decide +kernel
theorem dX6_rowsOf_27 : decode cX6_rowsOf 27 = .ok (.iload 4, 2) := by decide +kernel
theorem dX6_rowsOf_29 : decode cX6_rowsOf 29 = .ok (.iload_n 2, 1) := by decide +kernel
theorem dX6_rowsOf_30 : decode cX6_rowsOf 30 = .ok (.invokevirtual 96, 3) := by decide +kernel
theorem dX6_rowsOf_33 : decode cX6_rowsOf 33 = .ok (.ifCond .eq 7, 3) := by decide +kernel
theorem dX6_rowsOf_36 : decode cX6_rowsOf 36 = .ok (.iconst 1, 1) := by decide +kernel
theorem dX6_rowsOf_37 : decode cX6_rowsOf 37 = .ok (.goto 4, 3) := by decide +kernel
theorem dX6_rowsOf_40 : decode cX6_rowsOf 40 = .ok (.iconst 0, 1) := by decide +kernel
theorem dX6_rowsOf_41 : decode cX6_rowsOf 41 = .ok (.iadd, 1) := by decide +kernel
theorem dX6_rowsOf_42 : decode cX6_rowsOf 42 = .ok (.istore_n 3, 1) := by decide +kernel
theorem dX6_rowsOf_43 : decode cX6_rowsOf 43 = .ok (.iinc 4 1, 3) := by decide +kernel
theorem dX6_rowsOf_46 : decode cX6_rowsOf 46 = .ok (.goto (-41), 3) := by decide +kernel
theorem dX6_rowsOf_49 : decode cX6_rowsOf 49 = .ok (.iload_n 3, 1) := by decide +kernel
theorem dX6_rowsOf_50 : decode cX6_rowsOf 50 = .ok (.ireturn, 1) := by decide +kernel
set_option maxRecDepth 400000 in
theorem ggX6_allRows_X6_rowsOf : GoodIn wsX6_allRows wsX6_rowsOf := goodIn_r _ [6, 7, 8, 9, 10, 11, 5, 12, 13, 14, 15, 16, 17, 18, 19, 20, 21, 22, 23, 24, 25, 26, 27, 28, 29, 30, 31, 32, 33, 34, 35, 36, 37, 38, 39, 40, 41, 42] rfl (by decide +kernel)
set_option maxRecDepth 20000 in
theorem gX6_allRows_X6_rowsOf : GoodIn wsX6_allRows (wsV RX6 99 RX6 yX6_rowsOf wsX6_rowsOf) := goodIn_app (goodIn_of _ (by decide +kernel)) ggX6_allRows_X6_rowsOf
theorem dX6_allRows_0 : decode cX6_allRows 0 = .ok (.iconst 0, 1) := by decide +kernel
theorem dX6_allRows_1 : decode cX6_allRows 1 = .ok (.istore_n 1, 1) := by decide +kernel
theorem dX6_allRows_2 : decode cX6_allRows 2 = .ok (.iconst 0, 1) := by decide +kernel
theorem dX6_allRows_3 : decode cX6_allRows 3 = .ok (.istore_n 2, 1) := by decide +kernel
theorem dX6_allRows_4 : decode cX6_allRows 4 = .ok (.iload_n 2, 1) := by decide +kernel
theorem dX6_allRows_5 : decode cX6_allRows 5 = .ok (.aload_n 0, 1) := by decide +kernel
theorem dX6_allRows_6 : decode cX6_allRows 6 = .ok (.getfield 39, 3) := by decide +kernel
theorem dX6_allRows_9 : decode cX6_allRows 9 = .ok (.if_icmp .ge 39, 3) := by decide +kernel
theorem dX6_allRows_12 : decode cX6_allRows 12 = .ok (.iload_n 1, 1) := by decide +kernel
theorem dX6_allRows_13 : decode cX6_allRows 13 = .ok (.aload_n 0, 1) := by decide +kernel
theorem dX6_allRows_14 : decode cX6_allRows 14 = .ok (.iload_n 2, 1) := by decide +kernel
theorem dX6_allRows_15 : decode cX6_allRows 15 = .ok (.iconst 0, 1) := by decide +kernel
theorem dX6_allRows_16 : decode cX6_allRows 16 = .ok (.invokevirtual 99, 3) := by decide +kernel
theorem dX6_allRows_19 : decode cX6_allRows 19 = .ok (.aload_n 0, 1) := by decide +kernel
theorem dX6_allRows_20 : decode cX6_allRows 20 = .ok (.iload_n 2, 1) := by decide +kernel
theorem dX6_allRows_21 : decode cX6_allRows 21 = .ok (.iconst 1, 1) := by decide +kernel
theorem dX6_allRows_22 : decode cX6_allRows 22 = .ok (.invokevirtual 99, 3) := by decide +kernel
theorem dX6_allRows_25 : decode cX6_allRows 25 = .ok (.iadd, 1) := by decide +kernel
theorem dX6_allRows_26 : decode cX6_allRows 26 = .ok (.aload_n 0, 1) := by decide +kernel
theorem dX6_allRows_27 : decode cX6_allRows 27 = .ok (.iload_n 2, 1) := by decide +kernel
theorem dX6_allRows_28 : decode cX6_allRows 28 = .ok (.iconst 2, 1) := by decide +kernel
theorem dX6_allRows_29 : decode cX6_allRows 29 = .ok (.invokevirtual 99, 3) := by decide +kernel
theorem dX6_allRows_32 : decode cX6_allRows 32 = .ok (.iadd, 1) := by decide +kernel
theorem dX6_allRows_33 : decode cX6_allRows 33 = .ok (.aload_n 0, 1) := by decide +kernel
theorem dX6_allRows_34 : decode cX6_allRows 34 = .ok (.iload_n 2, 1) := by decide +kernel
theorem dX6_allRows_35 : decode cX6_allRows 35 = .ok (.iconst 3, 1) := by decide +kernel
theorem dX6_allRows_36 : decode cX6_allRows 36 = .ok (.invokevirtual 99, 3) := by decide +kernel
theorem dX6_allRows_39 : decode cX6_allRows 39 = .ok (.iadd, 1) := by decide +kernel
theorem dX6_allRows_40 : decode cX6_allRows 40 = .ok (.iadd, 1) := by decide +kernel
theorem dX6_allRows_41 : decode cX6_allRows 41 = .ok (.istore_n 1, 1) := by decide +kernel
theorem dX6_allRows_42 : decode cX6_allRows 42 = .ok (.iinc 2 1, 3) := by decide +kernel
theorem dX6_allRows_45 : decode cX6_allRows 45 = .ok (.goto (-41), 3) := by decide +kernel
theorem dX6_allRows_48 : decode cX6_allRows 48 = .ok (.iload_n 1, 1) := by decide +kernel
theorem dX6_allRows_49 : decode cX6_allRows 49 = .ok (.ireturn, 1) := by decide +kernel
set_option maxRecDepth 400000 in
theorem ggX6_advance_X6_isIn : GoodIn wsX6_advance wsX6_isIn := goodIn_r _ [6] rfl (by decide +kernel)
set_option maxRecDepth 20000 in
theorem gX6_advance_X6_isIn : GoodIn wsX6_advance (va_wsS RX6 59 yX6_isIn wsX6_isIn) := goodIn_app (goodIn_of _ (by decide +kernel)) ggX6_advance_X6_isIn
set_option maxRecDepth 400000 in
theorem ggX6_advance_X6_can : GoodIn wsX6_advance wsX6_can := goodIn_r _ [10, 11, 45, 46, 47, 48, 49, 50, 51, 52, 53, 54, 55, 56, 57, 58, 59, 60, 61] rfl (by decide +kernel)
set_option maxRecDepth 20000 in
theorem gX6_advance_X6_can : GoodIn wsX6_advance (wsV RX6 75 RX6 yX6_can wsX6_can) := goodIn_app (goodIn_of _ (by decide +kernel)) ggX6_advance_X6_can
set_option maxRecDepth 400000 in
theorem ggX6_advance_X6_allRows : GoodIn wsX6_advance wsX6_allRows := goodIn_r _ [15, 16, 17, 18, 19, 5, 20, 21, 22, 23, 24, 25, 26, 27, 28, 29, 30, 31, 32, 33, 34, 35, 36, 37, 38, 39, 45, 46, 47, 48, 49, 50, 51, 52, 53, 54, 55, 56, 57, 58, 59, 60, 61] rfl (by decide +kernel)
set_option maxRecDepth 20000 in
theorem gX6_advance_X6_allRows : GoodIn wsX6_advance (wsV RX6 102 RX6 yX6_allRows wsX6_allRows) := goodIn_app (goodIn_of _ (by decide +kernel)) ggX6_advance_X6_allRows
set_option maxRecDepth 400000 in
theorem ggX6_advance_X6_expire : GoodIn wsX6_advance wsX6_expire := goodIn_r _ [43, 2, 44, 28, 45, 46, 47, 48, 49, 50, 51, 52, 53, 54, 55, 56, 57, 58, 59, 60, 61] rfl (by decide +kernel)
set_option maxRecDepth 20000 in
theorem gX6_advance_X6_expire : GoodIn wsX6_advance (wsV RX6 106 RX6 yX6_expire wsX6_expire) := goodIn_app (goodIn_of _ (by decide +kernel)) ggX6_advance_X6_expire
theorem dX6_advance_0 : decode cX6_advance 0 = .ok (.aload_n 0, 1) := by decide +kernel
theorem dX6_advance_1 : decode cX6_advance 1 = .ok (.iload_n 1, 1) := by decide +kernel
theorem dX6_advance_2 : decode cX6_advance 2 = .ok (.iconst 1, 1) := by decide +kernel
theorem dX6_advance_3 : decode cX6_advance 3 = .ok (.ldc 58, 2) := by decide +kernel
theorem dX6_advance_5 : decode cX6_advance 5 = .ok (.invokestatic 59, 3) := by decide +kernel
theorem dX6_advance_8 : decode cX6_advance 8 = .ok (.ifCond .eq 7, 3) := by decide +kernel
theorem dX6_advance_11 : decode cX6_advance 11 = .ok (.iconst 0, 1) := by decide +kernel
theorem dX6_advance_12 : decode cX6_advance 12 = .ok (.goto 4, 3) := by decide +kernel
theorem dX6_advance_15 : decode cX6_advance 15 = .ok (.iconst 1, 1) := by decide +kernel
theorem dX6_advance_16 : decode cX6_advance 16 = .ok (.invokevirtual 75, 3) := by decide +kernel
theorem dX6_advance_19 : decode cX6_advance 19 = .ok (.ifCond .ne 5, 3) := by decide +kernel
theorem dX6_advance_22 : decode cX6_advance 22 = .ok (.iconst 0, 1) := by decide +kernel
theorem dX6_advance_23 : decode cX6_advance 23 = .ok (.ireturn, 1) := by decide +kernel
theorem dX6_advance_24 : decode cX6_advance 24 = .ok (.aload_n 0, 1) := by decide +kernel
theorem dX6_advance_25 : decode cX6_advance 25 = .ok (.invokevirtual 102, 3) := by decide +kernel
theorem dX6_advance_28 : decode cX6_advance 28 = .ok (.istore_n 2, 1) := by decide +kernel
theorem dX6_advance_29 : decode cX6_advance 29 = .ok (.aload_n 0, 1) := by decide +kernel
theorem dX6_advance_30 : decode cX6_advance 30 = .ok (.dup, 1) := by decide +kernel
theorem dX6_advance_31 : decode cX6_advance 31 = .ok (.getfield 62, 3) := by decide +kernel
theorem dX6_advance_34 : decode cX6_advance 34 = .ok (.iload_n 1, 1) := by decide +kernel
theorem dX6_advance_35 : decode cX6_advance 35 = .ok (.iadd, 1) := by decide +kernel
theorem dX6_advance_36 : decode cX6_advance 36 = .ok (.putfield 62, 3) := by decide +kernel
theorem dX6_advance_39 : decode cX6_advance 39 = .ok (.aload_n 0, 1) := by decide +kernel
theorem dX6_advance_40 : decode cX6_advance 40 = .ok (.invokevirtual 106, 3) := by decide +kernel
theorem dX6_advance_43 : decode cX6_advance 43 = .ok (.iload_n 2, 1) := by decide +kernel
theorem dX6_advance_44 : decode cX6_advance 44 = .ok (.aload_n 0, 1) := by decide +kernel
theorem dX6_advance_45 : decode cX6_advance 45 = .ok (.invokevirtual 102, 3) := by decide +kernel
theorem dX6_advance_48 : decode cX6_advance 48 = .ok (.isub, 1) := by decide +kernel
theorem dX6_advance_49 : decode cX6_advance 49 = .ok (.ireturn, 1) := by decide +kernel
set_option maxRecDepth 400000 in
theorem ggX6_setRetention_X6_isTier : GoodIn wsX6_setRetention wsX6_isTier := goodIn_r _ [7] rfl (by decide +kernel)
set_option maxRecDepth 20000 in
theorem gX6_setRetention_X6_isTier : GoodIn wsX6_setRetention (va_wsS RX6 109 yX6_isTier wsX6_isTier) := goodIn_app (goodIn_of _ (by decide +kernel)) ggX6_setRetention_X6_isTier
set_option maxRecDepth 400000 in
theorem ggX6_setRetention_X6_isIn : GoodIn wsX6_setRetention wsX6_isIn := goodIn_r _ [10] rfl (by decide +kernel)
set_option maxRecDepth 20000 in
theorem gX6_setRetention_X6_isIn : GoodIn wsX6_setRetention (va_wsS RX6 59 yX6_isIn wsX6_isIn) := goodIn_app (goodIn_of _ (by decide +kernel)) ggX6_setRetention_X6_isIn
set_option maxRecDepth 400000 in
theorem ggX6_setRetention_X6_can : GoodIn wsX6_setRetention wsX6_can := goodIn_r _ [14, 15, 22, 23, 24, 25, 26, 27, 28, 29, 30, 31, 32, 33, 34, 35, 36, 37, 38] rfl (by decide +kernel)
set_option maxRecDepth 20000 in
theorem gX6_setRetention_X6_can : GoodIn wsX6_setRetention (wsV RX6 75 RX6 yX6_can wsX6_can) := goodIn_app (goodIn_of _ (by decide +kernel)) ggX6_setRetention_X6_can
set_option maxRecDepth 400000 in
theorem ggX6_setRetention_X6_expire : GoodIn wsX6_setRetention wsX6_expire := goodIn_r _ [19, 20, 3, 21, 22, 23, 24, 25, 26, 27, 28, 29, 30, 31, 32, 33, 34, 35, 36, 37, 38] rfl (by decide +kernel)
set_option maxRecDepth 20000 in
theorem gX6_setRetention_X6_expire : GoodIn wsX6_setRetention (wsV RX6 106 RX6 yX6_expire wsX6_expire) := goodIn_app (goodIn_of _ (by decide +kernel)) ggX6_setRetention_X6_expire
theorem dX6_setRetention_0 : decode cX6_setRetention 0 = .ok (.aload_n 0, 1) := by decide +kernel
theorem dX6_setRetention_1 : decode cX6_setRetention 1 = .ok (.iload_n 1, 1) := by decide +kernel
theorem dX6_setRetention_2 : decode cX6_setRetention 2 = .ok (.invokestatic 109, 3) := by decide +kernel
theorem dX6_setRetention_5 : decode cX6_setRetention 5 = .ok (.ifCond .eq 29, 3) := by decide +kernel
theorem dX6_setRetention_8 : decode cX6_setRetention 8 = .ok (.iload_n 2, 1) := by decide +kernel
theorem dX6_setRetention_9 : decode cX6_setRetention 9 = .ok (.iload_n 1, 1) := by decide +kernel
theorem dX6_setRetention_10 : decode cX6_setRetention 10 = .ok (.iconst 1, 1) := by decide +kernel
theorem dX6_setRetention_11 : decode cX6_setRetention 11 = .ok (.if_icmp .gt 9, 3) := by decide +kernel
theorem dX6_setRetention_14 : decode cX6_setRetention 14 = .ok (.sipush 7200, 3) := by decide +kernel
theorem dX6_setRetention_17 : decode cX6_setRetention 17 = .ok (.goto 5, 3) := by decide +kernel
theorem dX6_setRetention_20 : decode cX6_setRetention 20 = .ok (.ldc 112, 2) := by decide +kernel
theorem dX6_setRetention_22 : decode cX6_setRetention 22 = .ok (.ldc 113, 2) := by decide +kernel
theorem dX6_setRetention_24 : decode cX6_setRetention 24 = .ok (.invokestatic 59, 3) := by decide +kernel
theorem dX6_setRetention_27 : decode cX6_setRetention 27 = .ok (.ifCond .eq 7, 3) := by decide +kernel
theorem dX6_setRetention_30 : decode cX6_setRetention 30 = .ok (.iconst 0, 1) := by decide +kernel
theorem dX6_setRetention_31 : decode cX6_setRetention 31 = .ok (.goto 4, 3) := by decide +kernel
theorem dX6_setRetention_34 : decode cX6_setRetention 34 = .ok (.iconst 1, 1) := by decide +kernel
theorem dX6_setRetention_35 : decode cX6_setRetention 35 = .ok (.invokevirtual 75, 3) := by decide +kernel
theorem dX6_setRetention_38 : decode cX6_setRetention 38 = .ok (.ifCond .ne 5, 3) := by decide +kernel
theorem dX6_setRetention_41 : decode cX6_setRetention 41 = .ok (.iconst 0, 1) := by decide +kernel
theorem dX6_setRetention_42 : decode cX6_setRetention 42 = .ok (.ireturn, 1) := by decide +kernel
theorem dX6_setRetention_43 : decode cX6_setRetention 43 = .ok (.aload_n 0, 1) := by decide +kernel
theorem dX6_setRetention_44 : decode cX6_setRetention 44 = .ok (.getfield 13, 3) := by decide +kernel
theorem dX6_setRetention_47 : decode cX6_setRetention 47 = .ok (.iload_n 1, 1) := by decide +kernel
theorem dX6_setRetention_48 : decode cX6_setRetention 48 = .ok (.iaload, 1) := by decide +kernel
theorem dX6_setRetention_49 : decode cX6_setRetention 49 = .ok (.istore_n 3, 1) := by decide +kernel
theorem dX6_setRetention_50 : decode cX6_setRetention 50 = .ok (.aload_n 0, 1) := by decide +kernel
theorem dX6_setRetention_51 : decode cX6_setRetention 51 = .ok (.getfield 13, 3) := by decide +kernel
theorem dX6_setRetention_54 : decode cX6_setRetention 54 = .ok (.iload_n 1, 1) := by decide +kernel
theorem dX6_setRetention_55 : decode cX6_setRetention 55 = .ok (.iload_n 2, 1) := by decide +kernel
theorem dX6_setRetention_56 : decode cX6_setRetention 56 = .ok (.iastore, 1) := by decide +kernel
theorem dX6_setRetention_57 : decode cX6_setRetention 57 = .ok (.aload_n 0, 1) := by decide +kernel
theorem dX6_setRetention_58 : decode cX6_setRetention 58 = .ok (.invokevirtual 106, 3) := by decide +kernel
theorem dX6_setRetention_61 : decode cX6_setRetention 61 = .ok (.iload_n 3, 1) := by decide +kernel
theorem dX6_setRetention_62 : decode cX6_setRetention 62 = .ok (.ireturn, 1) := by decide +kernel
theorem dX6_clock_0 : decode cX6_clock 0 = .ok (.aload_n 0, 1) := by decide +kernel
theorem dX6_clock_1 : decode cX6_clock 1 = .ok (.iconst 0, 1) := by decide +kernel
theorem dX6_clock_2 : decode cX6_clock 2 = .ok (.putfield 35, 3) := by decide +kernel
theorem dX6_clock_5 : decode cX6_clock 5 = .ok (.aload_n 0, 1) := by decide +kernel
theorem dX6_clock_6 : decode cX6_clock 6 = .ok (.getfield 62, 3) := by decide +kernel
theorem dX6_clock_9 : decode cX6_clock 9 = .ok (.ireturn, 1) := by decide +kernel
theorem dX6_series_0 : decode cX6_series 0 = .ok (.aload_n 0, 1) := by decide +kernel
theorem dX6_series_1 : decode cX6_series 1 = .ok (.iconst 0, 1) := by decide +kernel
theorem dX6_series_2 : decode cX6_series 2 = .ok (.putfield 35, 3) := by decide +kernel
theorem dX6_series_5 : decode cX6_series 5 = .ok (.aload_n 0, 1) := by decide +kernel
theorem dX6_series_6 : decode cX6_series 6 = .ok (.getfield 39, 3) := by decide +kernel
theorem dX6_series_9 : decode cX6_series 9 = .ok (.ireturn, 1) := by decide +kernel
set_option maxRecDepth 400000 in
theorem ggX6_horizon_X6_isTier : GoodIn wsX6_horizon wsX6_isTier := goodIn_r _ [5] rfl (by decide +kernel)
set_option maxRecDepth 20000 in
theorem gX6_horizon_X6_isTier : GoodIn wsX6_horizon (va_wsS RX6 109 yX6_isTier wsX6_isTier) := goodIn_app (goodIn_of _ (by decide +kernel)) ggX6_horizon_X6_isTier
set_option maxRecDepth 400000 in
theorem ggX6_horizon_X6_can : GoodIn wsX6_horizon wsX6_can := goodIn_r _ [9, 10, 11, 12, 13, 14, 15, 16, 17, 18, 19, 20, 21, 22, 23, 24, 25, 26, 27] rfl (by decide +kernel)
set_option maxRecDepth 20000 in
theorem gX6_horizon_X6_can : GoodIn wsX6_horizon (wsV RX6 75 RX6 yX6_can wsX6_can) := goodIn_app (goodIn_of _ (by decide +kernel)) ggX6_horizon_X6_can
theorem dX6_horizon_0 : decode cX6_horizon 0 = .ok (.aload_n 0, 1) := by decide +kernel
theorem dX6_horizon_1 : decode cX6_horizon 1 = .ok (.iload_n 1, 1) := by decide +kernel
theorem dX6_horizon_2 : decode cX6_horizon 2 = .ok (.invokestatic 109, 3) := by decide +kernel
theorem dX6_horizon_5 : decode cX6_horizon 5 = .ok (.ifCond .eq 7, 3) := by decide +kernel
theorem dX6_horizon_8 : decode cX6_horizon 8 = .ok (.iconst 0, 1) := by decide +kernel
theorem dX6_horizon_9 : decode cX6_horizon 9 = .ok (.goto 4, 3) := by decide +kernel
theorem dX6_horizon_12 : decode cX6_horizon 12 = .ok (.iconst 1, 1) := by decide +kernel
theorem dX6_horizon_13 : decode cX6_horizon 13 = .ok (.invokevirtual 75, 3) := by decide +kernel
theorem dX6_horizon_16 : decode cX6_horizon 16 = .ok (.ifCond .eq 12, 3) := by decide +kernel
theorem dX6_horizon_19 : decode cX6_horizon 19 = .ok (.aload_n 0, 1) := by decide +kernel
theorem dX6_horizon_20 : decode cX6_horizon 20 = .ok (.getfield 16, 3) := by decide +kernel
theorem dX6_horizon_23 : decode cX6_horizon 23 = .ok (.iload_n 1, 1) := by decide +kernel
theorem dX6_horizon_24 : decode cX6_horizon 24 = .ok (.iaload, 1) := by decide +kernel
theorem dX6_horizon_25 : decode cX6_horizon 25 = .ok (.goto 4, 3) := by decide +kernel
theorem dX6_horizon_28 : decode cX6_horizon 28 = .ok (.iconst 0, 1) := by decide +kernel
theorem dX6_horizon_29 : decode cX6_horizon 29 = .ok (.ireturn, 1) := by decide +kernel
set_option maxRecDepth 400000 in
theorem ggX6_rows_X6_isSeries : GoodIn wsX6_rows wsX6_isSeries := goodIn_r _ [5, 6, 38, 39, 40, 41, 42, 43, 44, 45, 46, 47, 48, 49, 50, 51, 52, 53, 54] rfl (by decide +kernel)
set_option maxRecDepth 20000 in
theorem gX6_rows_X6_isSeries : GoodIn wsX6_rows (wsV RX6 79 RX6 yX6_isSeries wsX6_isSeries) := goodIn_app (goodIn_of _ (by decide +kernel)) ggX6_rows_X6_isSeries
set_option maxRecDepth 400000 in
theorem ggX6_rows_X6_isTier : GoodIn wsX6_rows wsX6_isTier := goodIn_r _ [9] rfl (by decide +kernel)
set_option maxRecDepth 20000 in
theorem gX6_rows_X6_isTier : GoodIn wsX6_rows (va_wsS RX6 109 yX6_isTier wsX6_isTier) := goodIn_app (goodIn_of _ (by decide +kernel)) ggX6_rows_X6_isTier
set_option maxRecDepth 400000 in
theorem ggX6_rows_X6_can : GoodIn wsX6_rows wsX6_can := goodIn_r _ [13, 14, 38, 39, 40, 41, 42, 43, 44, 45, 46, 47, 48, 49, 50, 51, 52, 53, 54] rfl (by decide +kernel)
set_option maxRecDepth 20000 in
theorem gX6_rows_X6_can : GoodIn wsX6_rows (wsV RX6 75 RX6 yX6_can wsX6_can) := goodIn_app (goodIn_of _ (by decide +kernel)) ggX6_rows_X6_can
set_option maxRecDepth 400000 in
theorem ggX6_rows_X6_rowsOf : GoodIn wsX6_rows wsX6_rowsOf := goodIn_r _ [18, 19, 20, 21, 22, 23, 4, 24, 25, 26, 27, 28, 29, 30, 31, 32, 33, 34, 35, 36, 37, 38, 39, 40, 41, 42, 43, 44, 45, 46, 47, 48, 49, 50, 51, 52, 53, 54] rfl (by decide +kernel)
set_option maxRecDepth 20000 in
theorem gX6_rows_X6_rowsOf : GoodIn wsX6_rows (wsV RX6 99 RX6 yX6_rowsOf wsX6_rowsOf) := goodIn_app (goodIn_of _ (by decide +kernel)) ggX6_rows_X6_rowsOf
theorem dX6_rows_0 : decode cX6_rows 0 = .ok (.aload_n 0, 1) := by decide +kernel
theorem dX6_rows_1 : decode cX6_rows 1 = .ok (.aload_n 0, 1) := by decide +kernel
theorem dX6_rows_2 : decode cX6_rows 2 = .ok (.iload_n 1, 1) := by decide +kernel
theorem dX6_rows_3 : decode cX6_rows 3 = .ok (.invokevirtual 79, 3) := by decide +kernel
theorem dX6_rows_6 : decode cX6_rows 6 = .ok (.ifCond .ne 7, 3) := by decide +kernel
theorem dX6_rows_9 : decode cX6_rows 9 = .ok (.iconst 1, 1) := by decide +kernel
theorem dX6_rows_10 : decode cX6_rows 10 = .ok (.goto 15, 3) := by decide +kernel
theorem dX6_rows_13 : decode cX6_rows 13 = .ok (.iload_n 2, 1) := by decide +kernel
theorem dX6_rows_14 : decode cX6_rows 14 = .ok (.invokestatic 109, 3) := by decide +kernel
theorem dX6_rows_17 : decode cX6_rows 17 = .ok (.ifCond .ne 7, 3) := by decide +kernel
theorem dX6_rows_20 : decode cX6_rows 20 = .ok (.iconst 2, 1) := by decide +kernel
theorem dX6_rows_21 : decode cX6_rows 21 = .ok (.goto 4, 3) := by decide +kernel
theorem dX6_rows_24 : decode cX6_rows 24 = .ok (.iconst 0, 1) := by decide +kernel
theorem dX6_rows_25 : decode cX6_rows 25 = .ok (.invokevirtual 75, 3) := by decide +kernel
theorem dX6_rows_28 : decode cX6_rows 28 = .ok (.ifCond .eq 12, 3) := by decide +kernel
theorem dX6_rows_31 : decode cX6_rows 31 = .ok (.aload_n 0, 1) := by decide +kernel
theorem dX6_rows_32 : decode cX6_rows 32 = .ok (.iload_n 1, 1) := by decide +kernel
theorem dX6_rows_33 : decode cX6_rows 33 = .ok (.iload_n 2, 1) := by decide +kernel
theorem dX6_rows_34 : decode cX6_rows 34 = .ok (.invokevirtual 99, 3) := by decide +kernel
theorem dX6_rows_37 : decode cX6_rows 37 = .ok (.goto 4, 3) := by decide +kernel
theorem dX6_rows_40 : decode cX6_rows 40 = .ok (.iconst 0, 1) := by decide +kernel
theorem dX6_rows_41 : decode cX6_rows 41 = .ok (.ireturn, 1) := by decide +kernel
set_option maxRecDepth 400000 in
theorem ggX6_timeOf_X6_isSeries : GoodIn wsX6_timeOf wsX6_isSeries := goodIn_r _ [7, 8, 38, 39, 40, 41, 42, 43, 44, 45, 46, 47, 48, 49, 50, 51, 52, 53, 54] rfl (by decide +kernel)
set_option maxRecDepth 20000 in
theorem gX6_timeOf_X6_isSeries : GoodIn wsX6_timeOf (wsV RX6 79 RX6 yX6_isSeries wsX6_isSeries) := goodIn_app (goodIn_of _ (by decide +kernel)) ggX6_timeOf_X6_isSeries
set_option maxRecDepth 400000 in
theorem ggX6_timeOf_X6_isTier : GoodIn wsX6_timeOf wsX6_isTier := goodIn_r _ [11] rfl (by decide +kernel)
set_option maxRecDepth 20000 in
theorem gX6_timeOf_X6_isTier : GoodIn wsX6_timeOf (va_wsS RX6 109 yX6_isTier wsX6_isTier) := goodIn_app (goodIn_of _ (by decide +kernel)) ggX6_timeOf_X6_isTier
set_option maxRecDepth 400000 in
theorem ggX6_timeOf_X6_rowsOf : GoodIn wsX6_timeOf wsX6_rowsOf := goodIn_r _ [15, 16, 1, 17, 18, 19, 6, 20, 2, 21, 22, 23, 24, 25, 26, 27, 28, 29, 30, 31, 32, 38, 39, 40, 41, 42, 43, 44, 45, 46, 47, 48, 49, 50, 51, 52, 53, 54] rfl (by decide +kernel)
set_option maxRecDepth 20000 in
theorem gX6_timeOf_X6_rowsOf : GoodIn wsX6_timeOf (wsV RX6 99 RX6 yX6_rowsOf wsX6_rowsOf) := goodIn_app (goodIn_of _ (by decide +kernel)) ggX6_timeOf_X6_rowsOf
set_option maxRecDepth 400000 in
theorem ggX6_timeOf_X6_can : GoodIn wsX6_timeOf wsX6_can := goodIn_r _ [36, 37, 38, 39, 40, 41, 42, 43, 44, 45, 46, 47, 48, 49, 50, 51, 52, 53, 54] rfl (by decide +kernel)
set_option maxRecDepth 20000 in
theorem gX6_timeOf_X6_can : GoodIn wsX6_timeOf (wsV RX6 75 RX6 yX6_can wsX6_can) := goodIn_app (goodIn_of _ (by decide +kernel)) ggX6_timeOf_X6_can
set_option maxRecDepth 400000 in
theorem ggX6_timeOf_X6_begins : GoodIn wsX6_timeOf wsX6_begins := goodIn_r _ [20, 2, 21, 1, 22, 23, 6, 24, 25, 26, 27, 28, 29, 30, 31, 32, 38, 39, 40, 41, 42, 43, 44, 45, 46, 47, 48, 49, 50, 51, 52, 53, 54] rfl (by decide +kernel)
set_option maxRecDepth 20000 in
theorem gX6_timeOf_X6_begins : GoodIn wsX6_timeOf (wsV RX6 96 RX6 yX6_begins wsX6_begins) := goodIn_app (goodIn_of _ (by decide +kernel)) ggX6_timeOf_X6_begins
set_option maxRecDepth 400000 in
theorem ggX6_timeOf_X6_begin : GoodIn wsX6_timeOf wsX6_begin := goodIn_r _ [24, 25, 26, 6, 27, 28] rfl (by decide +kernel)
set_option maxRecDepth 20000 in
theorem gX6_timeOf_X6_begin : GoodIn wsX6_timeOf (va_wsS RX6 89 yX6_begin wsX6_begin) := goodIn_app (goodIn_of _ (by decide +kernel)) ggX6_timeOf_X6_begin
theorem dX6_timeOf_0 : decode cX6_timeOf 0 = .ok (.aload_n 0, 1) := by decide +kernel
theorem dX6_timeOf_1 : decode cX6_timeOf 1 = .ok (.aload_n 0, 1) := by decide +kernel
theorem dX6_timeOf_2 : decode cX6_timeOf 2 = .ok (.iload_n 1, 1) := by decide +kernel
theorem dX6_timeOf_3 : decode cX6_timeOf 3 = .ok (.invokevirtual 79, 3) := by decide +kernel
theorem dX6_timeOf_6 : decode cX6_timeOf 6 = .ok (.ifCond .ne 7, 3) := by decide +kernel
theorem dX6_timeOf_9 : decode cX6_timeOf 9 = .ok (.iconst 1, 1) := by decide +kernel
theorem dX6_timeOf_10 : decode cX6_timeOf 10 = .ok (.goto 33, 3) := by decide +kernel
theorem dX6_timeOf_13 : decode cX6_timeOf 13 = .ok (.iload_n 2, 1) := by decide +kernel
theorem dX6_timeOf_14 : decode cX6_timeOf 14 = .ok (.invokestatic 109, 3) := by decide +kernel
theorem dX6_timeOf_17 : decode cX6_timeOf 17 = .ok (.ifCond .ne 7, 3) := by decide +kernel
theorem dX6_timeOf_20 : decode cX6_timeOf 20 = .ok (.iconst 2, 1) := by decide +kernel
theorem dX6_timeOf_21 : decode cX6_timeOf 21 = .ok (.goto 22, 3) := by decide +kernel
theorem dX6_timeOf_24 : decode cX6_timeOf 24 = .ok (.iload_n 3, 1) := by decide +kernel
theorem dX6_timeOf_25 : decode cX6_timeOf 25 = .ok (.ifCond .lt 13, 3) := by decide +kernel
theorem dX6_timeOf_28 : decode cX6_timeOf 28 = .ok (.iload_n 3, 1) := by decide +kernel
theorem dX6_timeOf_29 : decode cX6_timeOf 29 = .ok (.aload_n 0, 1) := by decide +kernel
theorem dX6_timeOf_30 : decode cX6_timeOf 30 = .ok (.iload_n 1, 1) := by decide +kernel
theorem dX6_timeOf_31 : decode cX6_timeOf 31 = .ok (.iload_n 2, 1) := by decide +kernel
theorem dX6_timeOf_32 : decode cX6_timeOf 32 = .ok (.invokevirtual 99, 3) := by decide +kernel
theorem dX6_timeOf_35 : decode cX6_timeOf 35 = .ok (.if_icmp .lt 7, 3) := by decide +kernel
theorem dX6_timeOf_38 : decode cX6_timeOf 38 = .ok (.iconst 3, 1) := by decide +kernel
theorem dX6_timeOf_39 : decode cX6_timeOf 39 = .ok (.goto 4, 3) := by decide +kernel
theorem dX6_timeOf_42 : decode cX6_timeOf 42 = .ok (.iconst 0, 1) := by decide +kernel
theorem dX6_timeOf_43 : decode cX6_timeOf 43 = .ok (.invokevirtual 75, 3) := by decide +kernel
theorem dX6_timeOf_46 : decode cX6_timeOf 46 = .ok (.ifCond .ne 5, 3) := by decide +kernel
theorem dX6_timeOf_49 : decode cX6_timeOf 49 = .ok (.iconst 0, 1) := by decide +kernel
theorem dX6_timeOf_50 : decode cX6_timeOf 50 = .ok (.ireturn, 1) := by decide +kernel
theorem dX6_timeOf_51 : decode cX6_timeOf 51 = .ok (.iload_n 3, 1) := by decide +kernel
theorem dX6_timeOf_52 : decode cX6_timeOf 52 = .ok (.istore 4, 2) := by decide +kernel
theorem dX6_timeOf_54 : decode cX6_timeOf 54 = .ok (.iconst 0, 1) := by decide +kernel
theorem dX6_timeOf_55 : decode cX6_timeOf 55 = .ok (.istore 5, 2) := by decide +kernel
theorem dX6_timeOf_57 : decode cX6_timeOf 57 = .ok (.iload 4, 2) := by decide +kernel
theorem dX6_timeOf_59 : decode cX6_timeOf 59 = .ok (.ifCond .gt 24, 3) := by decide +kernel
theorem dX6_timeOf_62 : decode cX6_timeOf 62 = .ok (.aload_n 0, 1) := by decide +kernel
theorem dX6_timeOf_63 : decode cX6_timeOf 63 = .ok (.getfield 19, 3) := by decide +kernel
theorem dX6_timeOf_66 : decode cX6_timeOf 66 = .ok (.iload 5, 2) := by decide +kernel
theorem dX6_timeOf_68 : decode cX6_timeOf 68 = .ok (.iaload, 1) := by decide +kernel
theorem dX6_timeOf_69 : decode cX6_timeOf 69 = .ok (.iload_n 1, 1) := by decide +kernel
theorem dX6_timeOf_70 : decode cX6_timeOf 70 = .ok (.if_icmp .ne 13, 3) := by decide +kernel
theorem dX6_timeOf_73 : decode cX6_timeOf 73 = .ok (.aload_n 0, 1) := by decide +kernel
theorem dX6_timeOf_74 : decode cX6_timeOf 74 = .ok (.iload 5, 2) := by decide +kernel
theorem dX6_timeOf_76 : decode cX6_timeOf 76 = .ok (.iload_n 2, 1) := by decide +kernel
theorem dX6_timeOf_77 : decode cX6_timeOf 77 = .ok (.invokevirtual 96, 3) := by decide +kernel
theorem dX6_timeOf_80 : decode cX6_timeOf 80 = .ok (.ifCond .ne 40, 3) := by decide +kernel
theorem dX6_timeOf_83 : decode cX6_timeOf 83 = .ok (.iload 4, 2) := by decide +kernel
theorem dX6_timeOf_85 : decode cX6_timeOf 85 = .ok (.aload_n 0, 1) := by decide +kernel
theorem dX6_timeOf_86 : decode cX6_timeOf 86 = .ok (.getfield 19, 3) := by decide +kernel
theorem dX6_timeOf_89 : decode cX6_timeOf 89 = .ok (.iload 5, 2) := by decide +kernel
theorem dX6_timeOf_91 : decode cX6_timeOf 91 = .ok (.iaload, 1) := by decide +kernel
theorem dX6_timeOf_92 : decode cX6_timeOf 92 = .ok (.iload_n 1, 1) := by decide +kernel
theorem dX6_timeOf_93 : decode cX6_timeOf 93 = .ok (.if_icmp .ne 17, 3) := by decide +kernel
theorem dX6_timeOf_96 : decode cX6_timeOf 96 = .ok (.aload_n 0, 1) := by decide +kernel
theorem dX6_timeOf_97 : decode cX6_timeOf 97 = .ok (.iload 5, 2) := by decide +kernel
theorem dX6_timeOf_99 : decode cX6_timeOf 99 = .ok (.iload_n 2, 1) := by decide +kernel
theorem dX6_timeOf_100 : decode cX6_timeOf 100 = .ok (.invokevirtual 96, 3) := by decide +kernel
theorem dX6_timeOf_103 : decode cX6_timeOf 103 = .ok (.ifCond .eq 7, 3) := by decide +kernel
theorem dX6_timeOf_106 : decode cX6_timeOf 106 = .ok (.iconst 1, 1) := by decide +kernel
theorem dX6_timeOf_107 : decode cX6_timeOf 107 = .ok (.goto 4, 3) := by decide +kernel
theorem dX6_timeOf_110 : decode cX6_timeOf 110 = .ok (.iconst 0, 1) := by decide +kernel
theorem dX6_timeOf_111 : decode cX6_timeOf 111 = .ok (.isub, 1) := by decide +kernel
theorem dX6_timeOf_112 : decode cX6_timeOf 112 = .ok (.istore 4, 2) := by decide +kernel
theorem dX6_timeOf_114 : decode cX6_timeOf 114 = .ok (.iinc 5 1, 3) := by decide +kernel
theorem dX6_timeOf_117 : decode cX6_timeOf 117 = .ok (.goto (-60), 3) := by decide +kernel
theorem dX6_timeOf_120 : decode cX6_timeOf 120 = .ok (.iload_n 2, 1) := by decide +kernel
theorem dX6_timeOf_121 : decode cX6_timeOf 121 = .ok (.ifCond .ne 13, 3) := by decide +kernel
theorem dX6_timeOf_124 : decode cX6_timeOf 124 = .ok (.aload_n 0, 1) := by decide +kernel
theorem dX6_timeOf_125 : decode cX6_timeOf 125 = .ok (.getfield 22, 3) := by decide +kernel
theorem dX6_timeOf_128 : decode cX6_timeOf 128 = .ok (.iload 5, 2) := by decide +kernel
theorem dX6_timeOf_130 : decode cX6_timeOf 130 = .ok (.iaload, 1) := by decide +kernel
theorem dX6_timeOf_131 : decode cX6_timeOf 131 = .ok (.goto 14, 3) := by decide +kernel
theorem dX6_timeOf_134 : decode cX6_timeOf 134 = .ok (.iload_n 2, 1) := by decide +kernel
theorem dX6_timeOf_135 : decode cX6_timeOf 135 = .ok (.aload_n 0, 1) := by decide +kernel
theorem dX6_timeOf_136 : decode cX6_timeOf 136 = .ok (.getfield 22, 3) := by decide +kernel
theorem dX6_timeOf_139 : decode cX6_timeOf 139 = .ok (.iload 5, 2) := by decide +kernel
theorem dX6_timeOf_141 : decode cX6_timeOf 141 = .ok (.iaload, 1) := by decide +kernel
theorem dX6_timeOf_142 : decode cX6_timeOf 142 = .ok (.invokestatic 89, 3) := by decide +kernel
theorem dX6_timeOf_145 : decode cX6_timeOf 145 = .ok (.ireturn, 1) := by decide +kernel
set_option maxRecDepth 400000 in
theorem ggX6_valueAt_X6_isSeries : GoodIn wsX6_valueAt wsX6_isSeries := goodIn_r _ [6, 7, 29, 30, 31, 32, 33, 34, 35, 36, 37, 38, 39, 40, 41, 42, 43, 44, 45] rfl (by decide +kernel)
set_option maxRecDepth 20000 in
theorem gX6_valueAt_X6_isSeries : GoodIn wsX6_valueAt (wsV RX6 79 RX6 yX6_isSeries wsX6_isSeries) := goodIn_app (goodIn_of _ (by decide +kernel)) ggX6_valueAt_X6_isSeries
set_option maxRecDepth 400000 in
theorem ggX6_valueAt_X6_isKept : GoodIn wsX6_valueAt wsX6_isKept := goodIn_r _ [11, 12, 13, 14, 15, 5, 16, 17, 18, 19, 20, 21, 22, 23, 29, 30, 31, 32, 33, 34, 35, 36, 37, 38, 39, 40, 41, 42, 43, 44, 45] rfl (by decide +kernel)
set_option maxRecDepth 20000 in
theorem gX6_valueAt_X6_isKept : GoodIn wsX6_valueAt (wsV RX6 69 RX6 yX6_isKept wsX6_isKept) := goodIn_app (goodIn_of _ (by decide +kernel)) ggX6_valueAt_X6_isKept
set_option maxRecDepth 400000 in
theorem ggX6_valueAt_X6_can : GoodIn wsX6_valueAt wsX6_can := goodIn_r _ [27, 28, 29, 30, 31, 32, 33, 34, 35, 36, 37, 38, 39, 40, 41, 42, 43, 44, 45] rfl (by decide +kernel)
set_option maxRecDepth 20000 in
theorem gX6_valueAt_X6_can : GoodIn wsX6_valueAt (wsV RX6 75 RX6 yX6_can wsX6_can) := goodIn_app (goodIn_of _ (by decide +kernel)) ggX6_valueAt_X6_can
set_option maxRecDepth 400000 in
theorem ggX6_valueAt_X6_place : GoodIn wsX6_valueAt wsX6_place := goodIn_r _ [16, 17, 18, 19, 29, 30, 31, 32, 33, 34, 35, 36, 37, 38, 39, 40, 41, 42, 43, 44, 45] rfl (by decide +kernel)
set_option maxRecDepth 20000 in
theorem gX6_valueAt_X6_place : GoodIn wsX6_valueAt (wsV RX6 49 RX6 yX6_place wsX6_place) := goodIn_app (goodIn_of _ (by decide +kernel)) ggX6_valueAt_X6_place
theorem dX6_valueAt_0 : decode cX6_valueAt 0 = .ok (.aload_n 0, 1) := by decide +kernel
theorem dX6_valueAt_1 : decode cX6_valueAt 1 = .ok (.aload_n 0, 1) := by decide +kernel
theorem dX6_valueAt_2 : decode cX6_valueAt 2 = .ok (.iload_n 1, 1) := by decide +kernel
theorem dX6_valueAt_3 : decode cX6_valueAt 3 = .ok (.invokevirtual 79, 3) := by decide +kernel
theorem dX6_valueAt_6 : decode cX6_valueAt 6 = .ok (.ifCond .ne 7, 3) := by decide +kernel
theorem dX6_valueAt_9 : decode cX6_valueAt 9 = .ok (.iconst 1, 1) := by decide +kernel
theorem dX6_valueAt_10 : decode cX6_valueAt 10 = .ok (.goto 17, 3) := by decide +kernel
theorem dX6_valueAt_13 : decode cX6_valueAt 13 = .ok (.aload_n 0, 1) := by decide +kernel
theorem dX6_valueAt_14 : decode cX6_valueAt 14 = .ok (.iload_n 1, 1) := by decide +kernel
theorem dX6_valueAt_15 : decode cX6_valueAt 15 = .ok (.iload_n 2, 1) := by decide +kernel
theorem dX6_valueAt_16 : decode cX6_valueAt 16 = .ok (.invokevirtual 69, 3) := by decide +kernel
theorem dX6_valueAt_19 : decode cX6_valueAt 19 = .ok (.ifCond .eq 7, 3) := by decide +kernel
theorem dX6_valueAt_22 : decode cX6_valueAt 22 = .ok (.iconst 0, 1) := by decide +kernel
theorem dX6_valueAt_23 : decode cX6_valueAt 23 = .ok (.goto 4, 3) := by decide +kernel
theorem dX6_valueAt_26 : decode cX6_valueAt 26 = .ok (.iconst 2, 1) := by decide +kernel
theorem dX6_valueAt_27 : decode cX6_valueAt 27 = .ok (.invokevirtual 75, 3) := by decide +kernel
theorem dX6_valueAt_30 : decode cX6_valueAt 30 = .ok (.ifCond .eq 17, 3) := by decide +kernel
theorem dX6_valueAt_33 : decode cX6_valueAt 33 = .ok (.aload_n 0, 1) := by decide +kernel
theorem dX6_valueAt_34 : decode cX6_valueAt 34 = .ok (.getfield 25, 3) := by decide +kernel
theorem dX6_valueAt_37 : decode cX6_valueAt 37 = .ok (.aload_n 0, 1) := by decide +kernel
theorem dX6_valueAt_38 : decode cX6_valueAt 38 = .ok (.iload_n 1, 1) := by decide +kernel
theorem dX6_valueAt_39 : decode cX6_valueAt 39 = .ok (.iload_n 2, 1) := by decide +kernel
theorem dX6_valueAt_40 : decode cX6_valueAt 40 = .ok (.invokevirtual 49, 3) := by decide +kernel
theorem dX6_valueAt_43 : decode cX6_valueAt 43 = .ok (.iaload, 1) := by decide +kernel
theorem dX6_valueAt_44 : decode cX6_valueAt 44 = .ok (.goto 4, 3) := by decide +kernel
theorem dX6_valueAt_47 : decode cX6_valueAt 47 = .ok (.iconst 0, 1) := by decide +kernel
theorem dX6_valueAt_48 : decode cX6_valueAt 48 = .ok (.ireturn, 1) := by decide +kernel
set_option maxRecDepth 400000 in
theorem ggX6_looks_X6_begin : GoodIn wsX6_looks wsX6_begin := goodIn_r _ [14, 15, 16, 13, 17, 18] rfl (by decide +kernel)
set_option maxRecDepth 20000 in
theorem gX6_looks_X6_begin : GoodIn wsX6_looks (va_wsS RX6 89 yX6_begin wsX6_begin) := goodIn_app (goodIn_of _ (by decide +kernel)) ggX6_looks_X6_begin
set_option maxRecDepth 400000 in
theorem ggX6_looks_X6_isGone : GoodIn wsX6_looks wsX6_isGone := goodIn_r _ [22, 23, 15, 16, 13, 17, 18, 24, 25, 26, 27, 28, 29, 30, 31, 32, 33, 34, 35, 36, 37, 38, 39, 40] rfl (by decide +kernel)
set_option maxRecDepth 20000 in
theorem gX6_looks_X6_isGone : GoodIn wsX6_looks (wsV RX6 92 RX6 yX6_isGone wsX6_isGone) := goodIn_app (goodIn_of _ (by decide +kernel)) ggX6_looks_X6_isGone
theorem dX6_looks_0 : decode cX6_looks 0 = .ok (.iload_n 2, 1) := by decide +kernel
theorem dX6_looks_1 : decode cX6_looks 1 = .ok (.iload_n 3, 1) := by decide +kernel
theorem dX6_looks_2 : decode cX6_looks 2 = .ok (.invokestatic 89, 3) := by decide +kernel
theorem dX6_looks_5 : decode cX6_looks 5 = .ok (.istore 4, 2) := by decide +kernel
theorem dX6_looks_7 : decode cX6_looks 7 = .ok (.aload_n 0, 1) := by decide +kernel
theorem dX6_looks_8 : decode cX6_looks 8 = .ok (.iconst 0, 1) := by decide +kernel
theorem dX6_looks_9 : decode cX6_looks 9 = .ok (.putfield 114, 3) := by decide +kernel
theorem dX6_looks_12 : decode cX6_looks 12 = .ok (.aload_n 0, 1) := by decide +kernel
theorem dX6_looks_13 : decode cX6_looks 13 = .ok (.lconst 0, 1) := by decide +kernel
theorem dX6_looks_14 : decode cX6_looks 14 = .ok (.putfield 117, 3) := by decide +kernel
theorem dX6_looks_17 : decode cX6_looks 17 = .ok (.iconst 0, 1) := by decide +kernel
theorem dX6_looks_18 : decode cX6_looks 18 = .ok (.istore 5, 2) := by decide +kernel
theorem dX6_looks_20 : decode cX6_looks 20 = .ok (.iload 5, 2) := by decide +kernel
theorem dX6_looks_22 : decode cX6_looks 22 = .ok (.aload_n 0, 1) := by decide +kernel
theorem dX6_looks_23 : decode cX6_looks 23 = .ok (.getfield 46, 3) := by decide +kernel
theorem dX6_looks_26 : decode cX6_looks 26 = .ok (.if_icmp .ge 188, 3) := by decide +kernel
theorem dX6_looks_29 : decode cX6_looks 29 = .ok (.aload_n 0, 1) := by decide +kernel
theorem dX6_looks_30 : decode cX6_looks 30 = .ok (.iload_n 2, 1) := by decide +kernel
theorem dX6_looks_31 : decode cX6_looks 31 = .ok (.iload 4, 2) := by decide +kernel
theorem dX6_looks_33 : decode cX6_looks 33 = .ok (.i2l, 1) := by decide +kernel
theorem dX6_looks_34 : decode cX6_looks 34 = .ok (.invokevirtual 92, 3) := by decide +kernel
theorem dX6_looks_37 : decode cX6_looks 37 = .ok (.ifCond .ne 177, 3) := by decide +kernel
theorem dX6_looks_40 : decode cX6_looks 40 = .ok (.aload_n 0, 1) := by decide +kernel
theorem dX6_looks_41 : decode cX6_looks 41 = .ok (.getfield 19, 3) := by decide +kernel
theorem dX6_looks_44 : decode cX6_looks 44 = .ok (.iload 5, 2) := by decide +kernel
theorem dX6_looks_46 : decode cX6_looks 46 = .ok (.iaload, 1) := by decide +kernel
theorem dX6_looks_47 : decode cX6_looks 47 = .ok (.iload_n 1, 1) := by decide +kernel
theorem dX6_looks_48 : decode cX6_looks 48 = .ok (.if_icmp .ne 160, 3) := by decide +kernel
theorem dX6_looks_51 : decode cX6_looks 51 = .ok (.iload_n 2, 1) := by decide +kernel
theorem dX6_looks_52 : decode cX6_looks 52 = .ok (.aload_n 0, 1) := by decide +kernel
theorem dX6_looks_53 : decode cX6_looks 53 = .ok (.getfield 22, 3) := by decide +kernel
theorem dX6_looks_56 : decode cX6_looks 56 = .ok (.iload 5, 2) := by decide +kernel
theorem dX6_looks_58 : decode cX6_looks 58 = .ok (.iaload, 1) := by decide +kernel
theorem dX6_looks_59 : decode cX6_looks 59 = .ok (.invokestatic 89, 3) := by decide +kernel
theorem dX6_looks_62 : decode cX6_looks 62 = .ok (.iload 4, 2) := by decide +kernel
theorem dX6_looks_64 : decode cX6_looks 64 = .ok (.if_icmp .ne 144, 3) := by decide +kernel
theorem dX6_looks_67 : decode cX6_looks 67 = .ok (.aload_n 0, 1) := by decide +kernel
theorem dX6_looks_68 : decode cX6_looks 68 = .ok (.aload_n 0, 1) := by decide +kernel
theorem dX6_looks_69 : decode cX6_looks 69 = .ok (.getfield 114, 3) := by decide +kernel
theorem dX6_looks_72 : decode cX6_looks 72 = .ok (.ifCond .eq 17, 3) := by decide +kernel
theorem dX6_looks_75 : decode cX6_looks 75 = .ok (.aload_n 0, 1) := by decide +kernel
theorem dX6_looks_76 : decode cX6_looks 76 = .ok (.getfield 25, 3) := by decide +kernel
theorem dX6_looks_79 : decode cX6_looks 79 = .ok (.iload 5, 2) := by decide +kernel
theorem dX6_looks_81 : decode cX6_looks 81 = .ok (.iaload, 1) := by decide +kernel
theorem dX6_looks_82 : decode cX6_looks 82 = .ok (.aload_n 0, 1) := by decide +kernel
theorem dX6_looks_83 : decode cX6_looks 83 = .ok (.getfield 121, 3) := by decide +kernel
theorem dX6_looks_86 : decode cX6_looks 86 = .ok (.if_icmp .ge 13, 3) := by decide +kernel
theorem dX6_looks_89 : decode cX6_looks 89 = .ok (.aload_n 0, 1) := by decide +kernel
theorem dX6_looks_90 : decode cX6_looks 90 = .ok (.getfield 25, 3) := by decide +kernel
theorem dX6_looks_93 : decode cX6_looks 93 = .ok (.iload 5, 2) := by decide +kernel
theorem dX6_looks_95 : decode cX6_looks 95 = .ok (.iaload, 1) := by decide +kernel
theorem dX6_looks_96 : decode cX6_looks 96 = .ok (.goto 7, 3) := by decide +kernel
theorem dX6_looks_99 : decode cX6_looks 99 = .ok (.aload_n 0, 1) := by decide +kernel
theorem dX6_looks_100 : decode cX6_looks 100 = .ok (.getfield 121, 3) := by decide +kernel
theorem dX6_looks_103 : decode cX6_looks 103 = .ok (.putfield 121, 3) := by decide +kernel
theorem dX6_looks_106 : decode cX6_looks 106 = .ok (.aload_n 0, 1) := by decide +kernel
theorem dX6_looks_107 : decode cX6_looks 107 = .ok (.aload_n 0, 1) := by decide +kernel
theorem dX6_looks_108 : decode cX6_looks 108 = .ok (.getfield 114, 3) := by decide +kernel
theorem dX6_looks_111 : decode cX6_looks 111 = .ok (.ifCond .eq 17, 3) := by decide +kernel
theorem dX6_looks_114 : decode cX6_looks 114 = .ok (.aload_n 0, 1) := by decide +kernel
theorem dX6_looks_115 : decode cX6_looks 115 = .ok (.getfield 25, 3) := by decide +kernel
theorem dX6_looks_118 : decode cX6_looks 118 = .ok (.iload 5, 2) := by decide +kernel
theorem dX6_looks_120 : decode cX6_looks 120 = .ok (.iaload, 1) := by decide +kernel
theorem dX6_looks_121 : decode cX6_looks 121 = .ok (.aload_n 0, 1) := by decide +kernel
theorem dX6_looks_122 : decode cX6_looks 122 = .ok (.getfield 124, 3) := by decide +kernel
theorem dX6_looks_125 : decode cX6_looks 125 = .ok (.if_icmp .le 13, 3) := by decide +kernel
theorem dX6_looks_128 : decode cX6_looks 128 = .ok (.aload_n 0, 1) := by decide +kernel
theorem dX6_looks_129 : decode cX6_looks 129 = .ok (.getfield 25, 3) := by decide +kernel
theorem dX6_looks_132 : decode cX6_looks 132 = .ok (.iload 5, 2) := by decide +kernel
theorem dX6_looks_134 : decode cX6_looks 134 = .ok (.iaload, 1) := by decide +kernel
theorem dX6_looks_135 : decode cX6_looks 135 = .ok (.goto 7, 3) := by decide +kernel
theorem dX6_looks_138 : decode cX6_looks 138 = .ok (.aload_n 0, 1) := by decide +kernel
theorem dX6_looks_139 : decode cX6_looks 139 = .ok (.getfield 124, 3) := by decide +kernel
theorem dX6_looks_142 : decode cX6_looks 142 = .ok (.putfield 124, 3) := by decide +kernel
theorem dX6_looks_145 : decode cX6_looks 145 = .ok (.aload_n 0, 1) := by decide +kernel
theorem dX6_looks_146 : decode cX6_looks 146 = .ok (.aload_n 0, 1) := by decide +kernel
theorem dX6_looks_147 : decode cX6_looks 147 = .ok (.getfield 114, 3) := by decide +kernel
theorem dX6_looks_150 : decode cX6_looks 150 = .ok (.ifCond .ne 13, 3) := by decide +kernel
theorem dX6_looks_153 : decode cX6_looks 153 = .ok (.aload_n 0, 1) := by decide +kernel
theorem dX6_looks_154 : decode cX6_looks 154 = .ok (.getfield 25, 3) := by decide +kernel
theorem dX6_looks_157 : decode cX6_looks 157 = .ok (.iload 5, 2) := by decide +kernel
theorem dX6_looks_159 : decode cX6_looks 159 = .ok (.iaload, 1) := by decide +kernel
theorem dX6_looks_160 : decode cX6_looks 160 = .ok (.goto 7, 3) := by decide +kernel
theorem dX6_looks_163 : decode cX6_looks 163 = .ok (.aload_n 0, 1) := by decide +kernel
theorem dX6_looks_164 : decode cX6_looks 164 = .ok (.getfield 127, 3) := by decide +kernel
theorem dX6_looks_167 : decode cX6_looks 167 = .ok (.putfield 127, 3) := by decide +kernel
theorem dX6_looks_170 : decode cX6_looks 170 = .ok (.aload_n 0, 1) := by decide +kernel
theorem dX6_looks_171 : decode cX6_looks 171 = .ok (.aload_n 0, 1) := by decide +kernel
theorem dX6_looks_172 : decode cX6_looks 172 = .ok (.getfield 25, 3) := by decide +kernel
theorem dX6_looks_175 : decode cX6_looks 175 = .ok (.iload 5, 2) := by decide +kernel
theorem dX6_looks_177 : decode cX6_looks 177 = .ok (.iaload, 1) := by decide +kernel
theorem dX6_looks_178 : decode cX6_looks 178 = .ok (.putfield 130, 3) := by decide +kernel
theorem dX6_looks_181 : decode cX6_looks 181 = .ok (.aload_n 0, 1) := by decide +kernel
theorem dX6_looks_182 : decode cX6_looks 182 = .ok (.dup, 1) := by decide +kernel
theorem dX6_looks_183 : decode cX6_looks 183 = .ok (.getfield 117, 3) := by decide +kernel
theorem dX6_looks_186 : decode cX6_looks 186 = .ok (.aload_n 0, 1) := by decide +kernel
theorem dX6_looks_187 : decode cX6_looks 187 = .ok (.getfield 25, 3) := by decide +kernel
theorem dX6_looks_190 : decode cX6_looks 190 = .ok (.iload 5, 2) := by decide +kernel
theorem dX6_looks_192 : decode cX6_looks 192 = .ok (.iaload, 1) := by decide +kernel
theorem dX6_looks_193 : decode cX6_looks 193 = .ok (.i2l, 1) := by decide +kernel
theorem dX6_looks_194 : decode cX6_looks 194 = .ok (.ladd, 1) := by decide +kernel
theorem dX6_looks_195 : decode cX6_looks 195 = .ok (.putfield 117, 3) := by decide +kernel
theorem dX6_looks_198 : decode cX6_looks 198 = .ok (.aload_n 0, 1) := by decide +kernel
theorem dX6_looks_199 : decode cX6_looks 199 = .ok (.dup, 1) := by decide +kernel
theorem dX6_looks_200 : decode cX6_looks 200 = .ok (.getfield 114, 3) := by decide +kernel
theorem dX6_looks_203 : decode cX6_looks 203 = .ok (.iconst 1, 1) := by decide +kernel
theorem dX6_looks_204 : decode cX6_looks 204 = .ok (.iadd, 1) := by decide +kernel
theorem dX6_looks_205 : decode cX6_looks 205 = .ok (.putfield 114, 3) := by decide +kernel
theorem dX6_looks_208 : decode cX6_looks 208 = .ok (.iinc 5 1, 3) := by decide +kernel
theorem dX6_looks_211 : decode cX6_looks 211 = .ok (.goto (-191), 3) := by decide +kernel
theorem dX6_looks_214 : decode cX6_looks 214 = .ok (.aload_n 0, 1) := by decide +kernel
theorem dX6_looks_215 : decode cX6_looks 215 = .ok (.getfield 114, 3) := by decide +kernel
theorem dX6_looks_218 : decode cX6_looks 218 = .ok (.ifCond .le 7, 3) := by decide +kernel
theorem dX6_looks_221 : decode cX6_looks 221 = .ok (.iconst 1, 1) := by decide +kernel
theorem dX6_looks_222 : decode cX6_looks 222 = .ok (.goto 4, 3) := by decide +kernel
theorem dX6_looks_225 : decode cX6_looks 225 = .ok (.iconst 0, 1) := by decide +kernel
theorem dX6_looks_226 : decode cX6_looks 226 = .ok (.ireturn, 1) := by decide +kernel
set_option maxRecDepth 400000 in
theorem ggX6_isAsked_X6_isSeries : GoodIn wsX6_isAsked wsX6_isSeries := goodIn_r _ [5, 6, 41, 42, 43, 44, 45, 46, 47, 48, 49, 50, 51, 52, 53, 54, 55, 56, 57] rfl (by decide +kernel)
set_option maxRecDepth 20000 in
theorem gX6_isAsked_X6_isSeries : GoodIn wsX6_isAsked (wsV RX6 79 RX6 yX6_isSeries wsX6_isSeries) := goodIn_app (goodIn_of _ (by decide +kernel)) ggX6_isAsked_X6_isSeries
set_option maxRecDepth 400000 in
theorem ggX6_isAsked_X6_isRolled : GoodIn wsX6_isAsked wsX6_isRolled := goodIn_r _ [9] rfl (by decide +kernel)
set_option maxRecDepth 20000 in
theorem gX6_isAsked_X6_isRolled : GoodIn wsX6_isAsked (va_wsS RX6 133 yX6_isRolled wsX6_isRolled) := goodIn_app (goodIn_of _ (by decide +kernel)) ggX6_isAsked_X6_isRolled
set_option maxRecDepth 400000 in
theorem ggX6_isAsked_X6_looks : GoodIn wsX6_isAsked wsX6_looks := goodIn_r _ [13, 14, 15, 16, 17, 18, 19, 20, 21, 22, 23, 24, 25, 4, 26, 27, 28, 29, 30, 31, 32, 33, 34, 35, 41, 42, 43, 44, 45, 46, 47, 48, 49, 50, 51, 52, 53, 54, 55, 56, 57] rfl (by decide +kernel)
set_option maxRecDepth 20000 in
theorem gX6_isAsked_X6_looks : GoodIn wsX6_isAsked (wsV RX6 136 RX6 yX6_looks wsX6_looks) := goodIn_app (goodIn_of _ (by decide +kernel)) ggX6_isAsked_X6_looks
set_option maxRecDepth 400000 in
theorem ggX6_isAsked_X6_can : GoodIn wsX6_isAsked wsX6_can := goodIn_r _ [39, 40, 41, 42, 43, 44, 45, 46, 47, 48, 49, 50, 51, 52, 53, 54, 55, 56, 57] rfl (by decide +kernel)
set_option maxRecDepth 20000 in
theorem gX6_isAsked_X6_can : GoodIn wsX6_isAsked (wsV RX6 75 RX6 yX6_can wsX6_can) := goodIn_app (goodIn_of _ (by decide +kernel)) ggX6_isAsked_X6_can
theorem dX6_isAsked_0 : decode cX6_isAsked 0 = .ok (.aload_n 0, 1) := by decide +kernel
theorem dX6_isAsked_1 : decode cX6_isAsked 1 = .ok (.aload_n 0, 1) := by decide +kernel
theorem dX6_isAsked_2 : decode cX6_isAsked 2 = .ok (.iload_n 1, 1) := by decide +kernel
theorem dX6_isAsked_3 : decode cX6_isAsked 3 = .ok (.invokevirtual 79, 3) := by decide +kernel
theorem dX6_isAsked_6 : decode cX6_isAsked 6 = .ok (.ifCond .ne 7, 3) := by decide +kernel
theorem dX6_isAsked_9 : decode cX6_isAsked 9 = .ok (.iconst 1, 1) := by decide +kernel
theorem dX6_isAsked_10 : decode cX6_isAsked 10 = .ok (.goto 33, 3) := by decide +kernel
theorem dX6_isAsked_13 : decode cX6_isAsked 13 = .ok (.iload_n 2, 1) := by decide +kernel
theorem dX6_isAsked_14 : decode cX6_isAsked 14 = .ok (.invokestatic 133, 3) := by decide +kernel
theorem dX6_isAsked_17 : decode cX6_isAsked 17 = .ok (.ifCond .eq 7, 3) := by decide +kernel
theorem dX6_isAsked_20 : decode cX6_isAsked 20 = .ok (.iload_n 3, 1) := by decide +kernel
theorem dX6_isAsked_21 : decode cX6_isAsked 21 = .ok (.ifCond .ge 7, 3) := by decide +kernel
theorem dX6_isAsked_24 : decode cX6_isAsked 24 = .ok (.iconst 2, 1) := by decide +kernel
theorem dX6_isAsked_25 : decode cX6_isAsked 25 = .ok (.goto 18, 3) := by decide +kernel
theorem dX6_isAsked_28 : decode cX6_isAsked 28 = .ok (.aload_n 0, 1) := by decide +kernel
theorem dX6_isAsked_29 : decode cX6_isAsked 29 = .ok (.iload_n 1, 1) := by decide +kernel
theorem dX6_isAsked_30 : decode cX6_isAsked 30 = .ok (.iload_n 2, 1) := by decide +kernel
theorem dX6_isAsked_31 : decode cX6_isAsked 31 = .ok (.iload_n 3, 1) := by decide +kernel
theorem dX6_isAsked_32 : decode cX6_isAsked 32 = .ok (.invokevirtual 136, 3) := by decide +kernel
theorem dX6_isAsked_35 : decode cX6_isAsked 35 = .ok (.ifCond .eq 7, 3) := by decide +kernel
theorem dX6_isAsked_38 : decode cX6_isAsked 38 = .ok (.iconst 0, 1) := by decide +kernel
theorem dX6_isAsked_39 : decode cX6_isAsked 39 = .ok (.goto 4, 3) := by decide +kernel
theorem dX6_isAsked_42 : decode cX6_isAsked 42 = .ok (.iconst 3, 1) := by decide +kernel
theorem dX6_isAsked_43 : decode cX6_isAsked 43 = .ok (.invokevirtual 75, 3) := by decide +kernel
theorem dX6_isAsked_46 : decode cX6_isAsked 46 = .ok (.ireturn, 1) := by decide +kernel
set_option maxRecDepth 400000 in
theorem ggX6_hasRollup_X6_isSeries : GoodIn wsX6_hasRollup wsX6_isSeries := goodIn_r _ [5, 6, 41, 42, 43, 44, 45, 46, 47, 48, 49, 50, 51, 52, 53, 54, 55, 56, 57] rfl (by decide +kernel)
set_option maxRecDepth 20000 in
theorem gX6_hasRollup_X6_isSeries : GoodIn wsX6_hasRollup (wsV RX6 79 RX6 yX6_isSeries wsX6_isSeries) := goodIn_app (goodIn_of _ (by decide +kernel)) ggX6_hasRollup_X6_isSeries
set_option maxRecDepth 400000 in
theorem ggX6_hasRollup_X6_isRolled : GoodIn wsX6_hasRollup wsX6_isRolled := goodIn_r _ [9] rfl (by decide +kernel)
set_option maxRecDepth 20000 in
theorem gX6_hasRollup_X6_isRolled : GoodIn wsX6_hasRollup (va_wsS RX6 133 yX6_isRolled wsX6_isRolled) := goodIn_app (goodIn_of _ (by decide +kernel)) ggX6_hasRollup_X6_isRolled
set_option maxRecDepth 400000 in
theorem ggX6_hasRollup_X6_can : GoodIn wsX6_hasRollup wsX6_can := goodIn_r _ [13, 14, 41, 42, 43, 44, 45, 46, 47, 48, 49, 50, 51, 52, 53, 54, 55, 56, 57] rfl (by decide +kernel)
set_option maxRecDepth 20000 in
theorem gX6_hasRollup_X6_can : GoodIn wsX6_hasRollup (wsV RX6 75 RX6 yX6_can wsX6_can) := goodIn_app (goodIn_of _ (by decide +kernel)) ggX6_hasRollup_X6_can
set_option maxRecDepth 400000 in
theorem ggX6_hasRollup_X6_looks : GoodIn wsX6_hasRollup wsX6_looks := goodIn_r _ [18, 19, 20, 21, 22, 23, 24, 25, 26, 27, 28, 29, 30, 4, 31, 32, 33, 34, 35, 36, 37, 38, 39, 40, 41, 42, 43, 44, 45, 46, 47, 48, 49, 50, 51, 52, 53, 54, 55, 56, 57] rfl (by decide +kernel)
set_option maxRecDepth 20000 in
theorem gX6_hasRollup_X6_looks : GoodIn wsX6_hasRollup (wsV RX6 136 RX6 yX6_looks wsX6_looks) := goodIn_app (goodIn_of _ (by decide +kernel)) ggX6_hasRollup_X6_looks
theorem dX6_hasRollup_0 : decode cX6_hasRollup 0 = .ok (.aload_n 0, 1) := by decide +kernel
theorem dX6_hasRollup_1 : decode cX6_hasRollup 1 = .ok (.aload_n 0, 1) := by decide +kernel
theorem dX6_hasRollup_2 : decode cX6_hasRollup 2 = .ok (.iload_n 1, 1) := by decide +kernel
theorem dX6_hasRollup_3 : decode cX6_hasRollup 3 = .ok (.invokevirtual 79, 3) := by decide +kernel
theorem dX6_hasRollup_6 : decode cX6_hasRollup 6 = .ok (.ifCond .ne 7, 3) := by decide +kernel
theorem dX6_hasRollup_9 : decode cX6_hasRollup 9 = .ok (.iconst 1, 1) := by decide +kernel
theorem dX6_hasRollup_10 : decode cX6_hasRollup 10 = .ok (.goto 19, 3) := by decide +kernel
theorem dX6_hasRollup_13 : decode cX6_hasRollup 13 = .ok (.iload_n 2, 1) := by decide +kernel
theorem dX6_hasRollup_14 : decode cX6_hasRollup 14 = .ok (.invokestatic 133, 3) := by decide +kernel
theorem dX6_hasRollup_17 : decode cX6_hasRollup 17 = .ok (.ifCond .eq 7, 3) := by decide +kernel
theorem dX6_hasRollup_20 : decode cX6_hasRollup 20 = .ok (.iload_n 3, 1) := by decide +kernel
theorem dX6_hasRollup_21 : decode cX6_hasRollup 21 = .ok (.ifCond .ge 7, 3) := by decide +kernel
theorem dX6_hasRollup_24 : decode cX6_hasRollup 24 = .ok (.iconst 2, 1) := by decide +kernel
theorem dX6_hasRollup_25 : decode cX6_hasRollup 25 = .ok (.goto 4, 3) := by decide +kernel
theorem dX6_hasRollup_28 : decode cX6_hasRollup 28 = .ok (.iconst 0, 1) := by decide +kernel
theorem dX6_hasRollup_29 : decode cX6_hasRollup 29 = .ok (.invokevirtual 75, 3) := by decide +kernel
theorem dX6_hasRollup_32 : decode cX6_hasRollup 32 = .ok (.ifCond .eq 17, 3) := by decide +kernel
theorem dX6_hasRollup_35 : decode cX6_hasRollup 35 = .ok (.aload_n 0, 1) := by decide +kernel
theorem dX6_hasRollup_36 : decode cX6_hasRollup 36 = .ok (.iload_n 1, 1) := by decide +kernel
theorem dX6_hasRollup_37 : decode cX6_hasRollup 37 = .ok (.iload_n 2, 1) := by decide +kernel
theorem dX6_hasRollup_38 : decode cX6_hasRollup 38 = .ok (.iload_n 3, 1) := by decide +kernel
theorem dX6_hasRollup_39 : decode cX6_hasRollup 39 = .ok (.invokevirtual 136, 3) := by decide +kernel
theorem dX6_hasRollup_42 : decode cX6_hasRollup 42 = .ok (.ifCond .eq 7, 3) := by decide +kernel
theorem dX6_hasRollup_45 : decode cX6_hasRollup 45 = .ok (.iconst 1, 1) := by decide +kernel
theorem dX6_hasRollup_46 : decode cX6_hasRollup 46 = .ok (.goto 4, 3) := by decide +kernel
theorem dX6_hasRollup_49 : decode cX6_hasRollup 49 = .ok (.iconst 0, 1) := by decide +kernel
theorem dX6_hasRollup_50 : decode cX6_hasRollup 50 = .ok (.ireturn, 1) := by decide +kernel
set_option maxRecDepth 400000 in
theorem ggX6_count_X6_isAsked : GoodIn wsX6_count wsX6_isAsked := goodIn_r _ [6, 7, 8, 9, 5, 10, 11, 12, 13, 14, 15, 16, 17, 18, 1, 19, 20, 21, 22, 23, 24, 25, 26, 27, 28, 29, 30, 31, 32, 33, 34, 35, 36, 37, 38, 39, 40, 41, 42, 43, 44, 45, 46, 47, 48, 49, 50, 51, 52, 53, 54, 55, 56, 57, 58, 59, 60, 61] rfl (by decide +kernel)
set_option maxRecDepth 20000 in
theorem gX6_count_X6_isAsked : GoodIn wsX6_count (wsV RX6 139 RX6 yX6_isAsked wsX6_isAsked) := goodIn_app (goodIn_of _ (by decide +kernel)) ggX6_count_X6_isAsked
theorem dX6_count_0 : decode cX6_count 0 = .ok (.aload_n 0, 1) := by decide +kernel
theorem dX6_count_1 : decode cX6_count 1 = .ok (.iload_n 1, 1) := by decide +kernel
theorem dX6_count_2 : decode cX6_count 2 = .ok (.iload_n 2, 1) := by decide +kernel
theorem dX6_count_3 : decode cX6_count 3 = .ok (.iload_n 3, 1) := by decide +kernel
theorem dX6_count_4 : decode cX6_count 4 = .ok (.invokevirtual 139, 3) := by decide +kernel
theorem dX6_count_7 : decode cX6_count 7 = .ok (.ifCond .eq 10, 3) := by decide +kernel
theorem dX6_count_10 : decode cX6_count 10 = .ok (.aload_n 0, 1) := by decide +kernel
theorem dX6_count_11 : decode cX6_count 11 = .ok (.getfield 114, 3) := by decide +kernel
theorem dX6_count_14 : decode cX6_count 14 = .ok (.goto 4, 3) := by decide +kernel
theorem dX6_count_17 : decode cX6_count 17 = .ok (.iconst 0, 1) := by decide +kernel
theorem dX6_count_18 : decode cX6_count 18 = .ok (.ireturn, 1) := by decide +kernel
set_option maxRecDepth 400000 in
theorem ggX6_sum_X6_isAsked : GoodIn wsX6_sum wsX6_isAsked := goodIn_r _ [6, 7, 8, 9, 5, 10, 11, 12, 13, 14, 15, 16, 17, 18, 19, 1, 20, 21, 22, 23, 24, 25, 26, 27, 28, 29, 30, 31, 32, 33, 34, 35, 36, 37, 38, 39, 40, 41, 42, 43, 44, 45, 46, 47, 48, 49, 50, 51, 52, 53, 54, 55, 56, 57, 58, 59, 60, 61] rfl (by decide +kernel)
set_option maxRecDepth 20000 in
theorem gX6_sum_X6_isAsked : GoodIn wsX6_sum (wsV RX6 139 RX6 yX6_isAsked wsX6_isAsked) := goodIn_app (goodIn_of _ (by decide +kernel)) ggX6_sum_X6_isAsked
theorem dX6_sum_0 : decode cX6_sum 0 = .ok (.aload_n 0, 1) := by decide +kernel
theorem dX6_sum_1 : decode cX6_sum 1 = .ok (.iload_n 1, 1) := by decide +kernel
theorem dX6_sum_2 : decode cX6_sum 2 = .ok (.iload_n 2, 1) := by decide +kernel
theorem dX6_sum_3 : decode cX6_sum 3 = .ok (.iload_n 3, 1) := by decide +kernel
theorem dX6_sum_4 : decode cX6_sum 4 = .ok (.invokevirtual 139, 3) := by decide +kernel
theorem dX6_sum_7 : decode cX6_sum 7 = .ok (.ifCond .eq 10, 3) := by decide +kernel
theorem dX6_sum_10 : decode cX6_sum 10 = .ok (.aload_n 0, 1) := by decide +kernel
theorem dX6_sum_11 : decode cX6_sum 11 = .ok (.getfield 117, 3) := by decide +kernel
theorem dX6_sum_14 : decode cX6_sum 14 = .ok (.goto 4, 3) := by decide +kernel
theorem dX6_sum_17 : decode cX6_sum 17 = .ok (.lconst 0, 1) := by decide +kernel
theorem dX6_sum_18 : decode cX6_sum 18 = .ok (.lreturn, 1) := by decide +kernel
set_option maxRecDepth 400000 in
theorem ggX6_average_X6_isAsked : GoodIn wsX6_average wsX6_isAsked := goodIn_r _ [7, 8, 9, 10, 6, 11, 12, 13, 14, 15, 16, 17, 18, 19, 2, 1, 20, 21, 22, 23, 24, 25, 26, 27, 28, 29, 30, 31, 32, 33, 34, 35, 36, 37, 38, 39, 40, 41, 42, 43, 44, 45, 46, 47, 48, 49, 50, 51, 52, 53, 54, 55, 56, 57, 58, 59, 60, 61] rfl (by decide +kernel)
set_option maxRecDepth 20000 in
theorem gX6_average_X6_isAsked : GoodIn wsX6_average (wsV RX6 139 RX6 yX6_isAsked wsX6_isAsked) := goodIn_app (goodIn_of _ (by decide +kernel)) ggX6_average_X6_isAsked
theorem dX6_average_0 : decode cX6_average 0 = .ok (.aload_n 0, 1) := by decide +kernel
theorem dX6_average_1 : decode cX6_average 1 = .ok (.iload_n 1, 1) := by decide +kernel
theorem dX6_average_2 : decode cX6_average 2 = .ok (.iload_n 2, 1) := by decide +kernel
theorem dX6_average_3 : decode cX6_average 3 = .ok (.iload_n 3, 1) := by decide +kernel
theorem dX6_average_4 : decode cX6_average 4 = .ok (.invokevirtual 139, 3) := by decide +kernel
theorem dX6_average_7 : decode cX6_average 7 = .ok (.ifCond .eq 17, 3) := by decide +kernel
theorem dX6_average_10 : decode cX6_average 10 = .ok (.aload_n 0, 1) := by decide +kernel
theorem dX6_average_11 : decode cX6_average 11 = .ok (.getfield 117, 3) := by decide +kernel
theorem dX6_average_14 : decode cX6_average 14 = .ok (.l2d, 1) := by decide +kernel
theorem dX6_average_15 : decode cX6_average 15 = .ok (.aload_n 0, 1) := by decide +kernel
theorem dX6_average_16 : decode cX6_average 16 = .ok (.getfield 114, 3) := by decide +kernel
theorem dX6_average_19 : decode cX6_average 19 = .ok (.i2d, 1) := by decide +kernel
theorem dX6_average_20 : decode cX6_average 20 = .ok (.ddiv, 1) := by decide +kernel
theorem dX6_average_21 : decode cX6_average 21 = .ok (.goto 4, 3) := by decide +kernel
theorem dX6_average_24 : decode cX6_average 24 = .ok (.dconst 0, 1) := by decide +kernel
theorem dX6_average_25 : decode cX6_average 25 = .ok (.dreturn, 1) := by decide +kernel
set_option maxRecDepth 400000 in
theorem ggX6_least_X6_isAsked : GoodIn wsX6_least wsX6_isAsked := goodIn_r _ [6, 7, 8, 9, 5, 10, 11, 12, 13, 14, 15, 16, 17, 18, 19, 20, 21, 22, 23, 24, 1, 25, 26, 27, 28, 29, 30, 31, 32, 33, 34, 35, 36, 37, 38, 39, 40, 41, 42, 43, 44, 45, 46, 47, 48, 49, 50, 51, 52, 53, 54, 55, 56, 57, 58, 59, 60, 61] rfl (by decide +kernel)
set_option maxRecDepth 20000 in
theorem gX6_least_X6_isAsked : GoodIn wsX6_least (wsV RX6 139 RX6 yX6_isAsked wsX6_isAsked) := goodIn_app (goodIn_of _ (by decide +kernel)) ggX6_least_X6_isAsked
theorem dX6_least_0 : decode cX6_least 0 = .ok (.aload_n 0, 1) := by decide +kernel
theorem dX6_least_1 : decode cX6_least 1 = .ok (.iload_n 1, 1) := by decide +kernel
theorem dX6_least_2 : decode cX6_least 2 = .ok (.iload_n 2, 1) := by decide +kernel
theorem dX6_least_3 : decode cX6_least 3 = .ok (.iload_n 3, 1) := by decide +kernel
theorem dX6_least_4 : decode cX6_least 4 = .ok (.invokevirtual 139, 3) := by decide +kernel
theorem dX6_least_7 : decode cX6_least 7 = .ok (.ifCond .eq 10, 3) := by decide +kernel
theorem dX6_least_10 : decode cX6_least 10 = .ok (.aload_n 0, 1) := by decide +kernel
theorem dX6_least_11 : decode cX6_least 11 = .ok (.getfield 121, 3) := by decide +kernel
theorem dX6_least_14 : decode cX6_least 14 = .ok (.goto 4, 3) := by decide +kernel
theorem dX6_least_17 : decode cX6_least 17 = .ok (.iconst 0, 1) := by decide +kernel
theorem dX6_least_18 : decode cX6_least 18 = .ok (.ireturn, 1) := by decide +kernel
set_option maxRecDepth 400000 in
theorem ggX6_greatest_X6_isAsked : GoodIn wsX6_greatest wsX6_isAsked := goodIn_r _ [6, 7, 8, 9, 5, 10, 11, 12, 13, 14, 15, 16, 17, 18, 19, 20, 21, 22, 23, 24, 25, 1, 26, 27, 28, 29, 30, 31, 32, 33, 34, 35, 36, 37, 38, 39, 40, 41, 42, 43, 44, 45, 46, 47, 48, 49, 50, 51, 52, 53, 54, 55, 56, 57, 58, 59, 60, 61] rfl (by decide +kernel)
set_option maxRecDepth 20000 in
theorem gX6_greatest_X6_isAsked : GoodIn wsX6_greatest (wsV RX6 139 RX6 yX6_isAsked wsX6_isAsked) := goodIn_app (goodIn_of _ (by decide +kernel)) ggX6_greatest_X6_isAsked
theorem dX6_greatest_0 : decode cX6_greatest 0 = .ok (.aload_n 0, 1) := by decide +kernel
theorem dX6_greatest_1 : decode cX6_greatest 1 = .ok (.iload_n 1, 1) := by decide +kernel
theorem dX6_greatest_2 : decode cX6_greatest 2 = .ok (.iload_n 2, 1) := by decide +kernel
theorem dX6_greatest_3 : decode cX6_greatest 3 = .ok (.iload_n 3, 1) := by decide +kernel
theorem dX6_greatest_4 : decode cX6_greatest 4 = .ok (.invokevirtual 139, 3) := by decide +kernel
theorem dX6_greatest_7 : decode cX6_greatest 7 = .ok (.ifCond .eq 10, 3) := by decide +kernel
theorem dX6_greatest_10 : decode cX6_greatest 10 = .ok (.aload_n 0, 1) := by decide +kernel
theorem dX6_greatest_11 : decode cX6_greatest 11 = .ok (.getfield 124, 3) := by decide +kernel
theorem dX6_greatest_14 : decode cX6_greatest 14 = .ok (.goto 4, 3) := by decide +kernel
theorem dX6_greatest_17 : decode cX6_greatest 17 = .ok (.iconst 0, 1) := by decide +kernel
theorem dX6_greatest_18 : decode cX6_greatest 18 = .ok (.ireturn, 1) := by decide +kernel
set_option maxRecDepth 400000 in
theorem ggX6_first_X6_isAsked : GoodIn wsX6_first wsX6_isAsked := goodIn_r _ [6, 7, 8, 9, 5, 10, 11, 12, 13, 14, 15, 16, 17, 18, 19, 20, 21, 22, 23, 24, 25, 26, 1, 27, 28, 29, 30, 31, 32, 33, 34, 35, 36, 37, 38, 39, 40, 41, 42, 43, 44, 45, 46, 47, 48, 49, 50, 51, 52, 53, 54, 55, 56, 57, 58, 59, 60, 61] rfl (by decide +kernel)
set_option maxRecDepth 20000 in
theorem gX6_first_X6_isAsked : GoodIn wsX6_first (wsV RX6 139 RX6 yX6_isAsked wsX6_isAsked) := goodIn_app (goodIn_of _ (by decide +kernel)) ggX6_first_X6_isAsked
theorem dX6_first_0 : decode cX6_first 0 = .ok (.aload_n 0, 1) := by decide +kernel
theorem dX6_first_1 : decode cX6_first 1 = .ok (.iload_n 1, 1) := by decide +kernel
theorem dX6_first_2 : decode cX6_first 2 = .ok (.iload_n 2, 1) := by decide +kernel
theorem dX6_first_3 : decode cX6_first 3 = .ok (.iload_n 3, 1) := by decide +kernel
theorem dX6_first_4 : decode cX6_first 4 = .ok (.invokevirtual 139, 3) := by decide +kernel
theorem dX6_first_7 : decode cX6_first 7 = .ok (.ifCond .eq 10, 3) := by decide +kernel
theorem dX6_first_10 : decode cX6_first 10 = .ok (.aload_n 0, 1) := by decide +kernel
theorem dX6_first_11 : decode cX6_first 11 = .ok (.getfield 127, 3) := by decide +kernel
theorem dX6_first_14 : decode cX6_first 14 = .ok (.goto 4, 3) := by decide +kernel
theorem dX6_first_17 : decode cX6_first 17 = .ok (.iconst 0, 1) := by decide +kernel
theorem dX6_first_18 : decode cX6_first 18 = .ok (.ireturn, 1) := by decide +kernel
set_option maxRecDepth 400000 in
theorem ggX6_last_X6_isAsked : GoodIn wsX6_last wsX6_isAsked := goodIn_r _ [6, 7, 8, 9, 5, 10, 11, 12, 13, 14, 15, 16, 17, 18, 19, 20, 21, 22, 23, 24, 25, 26, 27, 1, 28, 29, 30, 31, 32, 33, 34, 35, 36, 37, 38, 39, 40, 41, 42, 43, 44, 45, 46, 47, 48, 49, 50, 51, 52, 53, 54, 55, 56, 57, 58, 59, 60, 61] rfl (by decide +kernel)
set_option maxRecDepth 20000 in
theorem gX6_last_X6_isAsked : GoodIn wsX6_last (wsV RX6 139 RX6 yX6_isAsked wsX6_isAsked) := goodIn_app (goodIn_of _ (by decide +kernel)) ggX6_last_X6_isAsked
theorem dX6_last_0 : decode cX6_last 0 = .ok (.aload_n 0, 1) := by decide +kernel
theorem dX6_last_1 : decode cX6_last 1 = .ok (.iload_n 1, 1) := by decide +kernel
theorem dX6_last_2 : decode cX6_last 2 = .ok (.iload_n 2, 1) := by decide +kernel
theorem dX6_last_3 : decode cX6_last 3 = .ok (.iload_n 3, 1) := by decide +kernel
theorem dX6_last_4 : decode cX6_last 4 = .ok (.invokevirtual 139, 3) := by decide +kernel
theorem dX6_last_7 : decode cX6_last 7 = .ok (.ifCond .eq 10, 3) := by decide +kernel
theorem dX6_last_10 : decode cX6_last 10 = .ok (.aload_n 0, 1) := by decide +kernel
theorem dX6_last_11 : decode cX6_last 11 = .ok (.getfield 130, 3) := by decide +kernel
theorem dX6_last_14 : decode cX6_last 14 = .ok (.goto 4, 3) := by decide +kernel
theorem dX6_last_17 : decode cX6_last 17 = .ok (.iconst 0, 1) := by decide +kernel
theorem dX6_last_18 : decode cX6_last 18 = .ok (.ireturn, 1) := by decide +kernel
set_option maxRecDepth 400000 in
theorem ggX6_filled_X6_isSeries : GoodIn wsX6_filled wsX6_isSeries := goodIn_r _ [10, 11, 44, 45, 46, 47, 48, 49, 50, 51, 52, 53, 54, 55, 56, 57, 58, 59, 60] rfl (by decide +kernel)
set_option maxRecDepth 20000 in
theorem gX6_filled_X6_isSeries : GoodIn wsX6_filled (wsV RX6 79 RX6 yX6_isSeries wsX6_isSeries) := goodIn_app (goodIn_of _ (by decide +kernel)) ggX6_filled_X6_isSeries
set_option maxRecDepth 400000 in
theorem ggX6_filled_X6_isRolled : GoodIn wsX6_filled wsX6_isRolled := goodIn_r _ [14] rfl (by decide +kernel)
set_option maxRecDepth 20000 in
theorem gX6_filled_X6_isRolled : GoodIn wsX6_filled (va_wsS RX6 133 yX6_isRolled wsX6_isRolled) := goodIn_app (goodIn_of _ (by decide +kernel)) ggX6_filled_X6_isRolled
set_option maxRecDepth 400000 in
theorem ggX6_filled_X6_isIn : GoodIn wsX6_filled wsX6_isIn := goodIn_r _ [17] rfl (by decide +kernel)
set_option maxRecDepth 20000 in
theorem gX6_filled_X6_isIn : GoodIn wsX6_filled (va_wsS RX6 59 yX6_isIn wsX6_isIn) := goodIn_app (goodIn_of _ (by decide +kernel)) ggX6_filled_X6_isIn
set_option maxRecDepth 400000 in
theorem ggX6_filled_X6_can : GoodIn wsX6_filled wsX6_can := goodIn_r _ [21, 22, 44, 45, 46, 47, 48, 49, 50, 51, 52, 53, 54, 55, 56, 57, 58, 59, 60] rfl (by decide +kernel)
set_option maxRecDepth 20000 in
theorem gX6_filled_X6_can : GoodIn wsX6_filled (wsV RX6 75 RX6 yX6_can wsX6_can) := goodIn_app (goodIn_of _ (by decide +kernel)) ggX6_filled_X6_can
set_option maxRecDepth 400000 in
theorem ggX6_filled_X6_looks : GoodIn wsX6_filled wsX6_looks := goodIn_r _ [26, 27, 28, 2, 3, 4, 5, 29, 30, 31, 1, 32, 33, 9, 34, 35, 36, 37, 38, 39, 40, 41, 42, 43, 44, 45, 46, 47, 48, 49, 50, 51, 52, 53, 54, 55, 56, 57, 58, 59, 60] rfl (by decide +kernel)
set_option maxRecDepth 20000 in
theorem gX6_filled_X6_looks : GoodIn wsX6_filled (wsV RX6 136 RX6 yX6_looks wsX6_looks) := goodIn_app (goodIn_of _ (by decide +kernel)) ggX6_filled_X6_looks
set_option maxRecDepth 400000 in
theorem ggX6_filled_X6_begin : GoodIn wsX6_filled wsX6_begin := goodIn_r _ [34, 35, 36, 9, 37, 38] rfl (by decide +kernel)
set_option maxRecDepth 20000 in
theorem gX6_filled_X6_begin : GoodIn wsX6_filled (va_wsS RX6 89 yX6_begin wsX6_begin) := goodIn_app (goodIn_of _ (by decide +kernel)) ggX6_filled_X6_begin
set_option maxRecDepth 400000 in
theorem ggX6_filled_X6_isGone : GoodIn wsX6_filled wsX6_isGone := goodIn_r _ [42, 43, 35, 36, 9, 37, 38, 44, 45, 46, 47, 48, 49, 50, 51, 52, 53, 54, 55, 56, 57, 58, 59, 60] rfl (by decide +kernel)
set_option maxRecDepth 20000 in
theorem gX6_filled_X6_isGone : GoodIn wsX6_filled (wsV RX6 92 RX6 yX6_isGone wsX6_isGone) := goodIn_app (goodIn_of _ (by decide +kernel)) ggX6_filled_X6_isGone
theorem dX6_filled_0 : decode cX6_filled 0 = .ok (.aload_n 0, 1) := by decide +kernel
theorem dX6_filled_1 : decode cX6_filled 1 = .ok (.aload_n 0, 1) := by decide +kernel
theorem dX6_filled_2 : decode cX6_filled 2 = .ok (.iload_n 1, 1) := by decide +kernel
theorem dX6_filled_3 : decode cX6_filled 3 = .ok (.invokevirtual 79, 3) := by decide +kernel
theorem dX6_filled_6 : decode cX6_filled 6 = .ok (.ifCond .ne 7, 3) := by decide +kernel
theorem dX6_filled_9 : decode cX6_filled 9 = .ok (.iconst 1, 1) := by decide +kernel
theorem dX6_filled_10 : decode cX6_filled 10 = .ok (.goto 29, 3) := by decide +kernel
theorem dX6_filled_13 : decode cX6_filled 13 = .ok (.iload_n 2, 1) := by decide +kernel
theorem dX6_filled_14 : decode cX6_filled 14 = .ok (.invokestatic 133, 3) := by decide +kernel
theorem dX6_filled_17 : decode cX6_filled 17 = .ok (.ifCond .eq 17, 3) := by decide +kernel
theorem dX6_filled_20 : decode cX6_filled 20 = .ok (.iload 4, 2) := by decide +kernel
theorem dX6_filled_22 : decode cX6_filled 22 = .ok (.iconst 0, 1) := by decide +kernel
theorem dX6_filled_23 : decode cX6_filled 23 = .ok (.iconst 2, 1) := by decide +kernel
theorem dX6_filled_24 : decode cX6_filled 24 = .ok (.invokestatic 59, 3) := by decide +kernel
theorem dX6_filled_27 : decode cX6_filled 27 = .ok (.ifCond .eq 7, 3) := by decide +kernel
theorem dX6_filled_30 : decode cX6_filled 30 = .ok (.iload_n 3, 1) := by decide +kernel
theorem dX6_filled_31 : decode cX6_filled 31 = .ok (.ifCond .ge 7, 3) := by decide +kernel
theorem dX6_filled_34 : decode cX6_filled 34 = .ok (.iconst 2, 1) := by decide +kernel
theorem dX6_filled_35 : decode cX6_filled 35 = .ok (.goto 4, 3) := by decide +kernel
theorem dX6_filled_38 : decode cX6_filled 38 = .ok (.iconst 0, 1) := by decide +kernel
theorem dX6_filled_39 : decode cX6_filled 39 = .ok (.invokevirtual 75, 3) := by decide +kernel
theorem dX6_filled_42 : decode cX6_filled 42 = .ok (.ifCond .ne 5, 3) := by decide +kernel
theorem dX6_filled_45 : decode cX6_filled 45 = .ok (.iconst 0, 1) := by decide +kernel
theorem dX6_filled_46 : decode cX6_filled 46 = .ok (.ireturn, 1) := by decide +kernel
theorem dX6_filled_47 : decode cX6_filled 47 = .ok (.aload_n 0, 1) := by decide +kernel
theorem dX6_filled_48 : decode cX6_filled 48 = .ok (.iload_n 1, 1) := by decide +kernel
theorem dX6_filled_49 : decode cX6_filled 49 = .ok (.iload_n 2, 1) := by decide +kernel
theorem dX6_filled_50 : decode cX6_filled 50 = .ok (.iload_n 3, 1) := by decide +kernel
theorem dX6_filled_51 : decode cX6_filled 51 = .ok (.invokevirtual 136, 3) := by decide +kernel
theorem dX6_filled_54 : decode cX6_filled 54 = .ok (.ifCond .eq 8, 3) := by decide +kernel
theorem dX6_filled_57 : decode cX6_filled 57 = .ok (.aload_n 0, 1) := by decide +kernel
theorem dX6_filled_58 : decode cX6_filled 58 = .ok (.getfield 130, 3) := by decide +kernel
theorem dX6_filled_61 : decode cX6_filled 61 = .ok (.ireturn, 1) := by decide +kernel
theorem dX6_filled_62 : decode cX6_filled 62 = .ok (.iload_n 2, 1) := by decide +kernel
theorem dX6_filled_63 : decode cX6_filled 63 = .ok (.iload_n 3, 1) := by decide +kernel
theorem dX6_filled_64 : decode cX6_filled 64 = .ok (.invokestatic 89, 3) := by decide +kernel
theorem dX6_filled_67 : decode cX6_filled 67 = .ok (.istore 5, 2) := by decide +kernel
theorem dX6_filled_69 : decode cX6_filled 69 = .ok (.iconst (-1), 1) := by decide +kernel
theorem dX6_filled_70 : decode cX6_filled 70 = .ok (.istore 6, 2) := by decide +kernel
theorem dX6_filled_72 : decode cX6_filled 72 = .ok (.iconst (-1), 1) := by decide +kernel
theorem dX6_filled_73 : decode cX6_filled 73 = .ok (.istore 7, 2) := by decide +kernel
theorem dX6_filled_75 : decode cX6_filled 75 = .ok (.iconst 0, 1) := by decide +kernel
theorem dX6_filled_76 : decode cX6_filled 76 = .ok (.istore 8, 2) := by decide +kernel
theorem dX6_filled_78 : decode cX6_filled 78 = .ok (.iload 8, 2) := by decide +kernel
theorem dX6_filled_80 : decode cX6_filled 80 = .ok (.aload_n 0, 1) := by decide +kernel
theorem dX6_filled_81 : decode cX6_filled 81 = .ok (.getfield 46, 3) := by decide +kernel
theorem dX6_filled_84 : decode cX6_filled 84 = .ok (.if_icmp .ge 105, 3) := by decide +kernel
theorem dX6_filled_87 : decode cX6_filled 87 = .ok (.aload_n 0, 1) := by decide +kernel
theorem dX6_filled_88 : decode cX6_filled 88 = .ok (.getfield 19, 3) := by decide +kernel
theorem dX6_filled_91 : decode cX6_filled 91 = .ok (.iload 8, 2) := by decide +kernel
theorem dX6_filled_93 : decode cX6_filled 93 = .ok (.iaload, 1) := by decide +kernel
theorem dX6_filled_94 : decode cX6_filled 94 = .ok (.iload_n 1, 1) := by decide +kernel
theorem dX6_filled_95 : decode cX6_filled 95 = .ok (.if_icmp .ne 27, 3) := by decide +kernel
theorem dX6_filled_98 : decode cX6_filled 98 = .ok (.aload_n 0, 1) := by decide +kernel
theorem dX6_filled_99 : decode cX6_filled 99 = .ok (.iload_n 2, 1) := by decide +kernel
theorem dX6_filled_100 : decode cX6_filled 100 = .ok (.iload_n 2, 1) := by decide +kernel
theorem dX6_filled_101 : decode cX6_filled 101 = .ok (.aload_n 0, 1) := by decide +kernel
theorem dX6_filled_102 : decode cX6_filled 102 = .ok (.getfield 22, 3) := by decide +kernel
theorem dX6_filled_105 : decode cX6_filled 105 = .ok (.iload 8, 2) := by decide +kernel
theorem dX6_filled_107 : decode cX6_filled 107 = .ok (.iaload, 1) := by decide +kernel
theorem dX6_filled_108 : decode cX6_filled 108 = .ok (.invokestatic 89, 3) := by decide +kernel
theorem dX6_filled_111 : decode cX6_filled 111 = .ok (.i2l, 1) := by decide +kernel
theorem dX6_filled_112 : decode cX6_filled 112 = .ok (.invokevirtual 92, 3) := by decide +kernel
theorem dX6_filled_115 : decode cX6_filled 115 = .ok (.ifCond .ne 7, 3) := by decide +kernel
theorem dX6_filled_118 : decode cX6_filled 118 = .ok (.iconst 1, 1) := by decide +kernel
theorem dX6_filled_119 : decode cX6_filled 119 = .ok (.goto 4, 3) := by decide +kernel
theorem dX6_filled_122 : decode cX6_filled 122 = .ok (.iconst 0, 1) := by decide +kernel
theorem dX6_filled_123 : decode cX6_filled 123 = .ok (.istore 9, 2) := by decide +kernel
theorem dX6_filled_125 : decode cX6_filled 125 = .ok (.iload 9, 2) := by decide +kernel
theorem dX6_filled_127 : decode cX6_filled 127 = .ok (.ifCond .eq 20, 3) := by decide +kernel
theorem dX6_filled_130 : decode cX6_filled 130 = .ok (.aload_n 0, 1) := by decide +kernel
theorem dX6_filled_131 : decode cX6_filled 131 = .ok (.getfield 22, 3) := by decide +kernel
theorem dX6_filled_134 : decode cX6_filled 134 = .ok (.iload 8, 2) := by decide +kernel
theorem dX6_filled_136 : decode cX6_filled 136 = .ok (.iaload, 1) := by decide +kernel
theorem dX6_filled_137 : decode cX6_filled 137 = .ok (.iload 5, 2) := by decide +kernel
theorem dX6_filled_139 : decode cX6_filled 139 = .ok (.if_icmp .ge 8, 3) := by decide +kernel
theorem dX6_filled_142 : decode cX6_filled 142 = .ok (.iload 8, 2) := by decide +kernel
theorem dX6_filled_144 : decode cX6_filled 144 = .ok (.goto 5, 3) := by decide +kernel
theorem dX6_filled_147 : decode cX6_filled 147 = .ok (.iload 6, 2) := by decide +kernel
theorem dX6_filled_149 : decode cX6_filled 149 = .ok (.istore 6, 2) := by decide +kernel
theorem dX6_filled_151 : decode cX6_filled 151 = .ok (.iload 9, 2) := by decide +kernel
theorem dX6_filled_153 : decode cX6_filled 153 = .ok (.ifCond .eq 26, 3) := by decide +kernel
theorem dX6_filled_156 : decode cX6_filled 156 = .ok (.aload_n 0, 1) := by decide +kernel
theorem dX6_filled_157 : decode cX6_filled 157 = .ok (.getfield 22, 3) := by decide +kernel
theorem dX6_filled_160 : decode cX6_filled 160 = .ok (.iload 8, 2) := by decide +kernel
theorem dX6_filled_162 : decode cX6_filled 162 = .ok (.iaload, 1) := by decide +kernel
theorem dX6_filled_163 : decode cX6_filled 163 = .ok (.iload 5, 2) := by decide +kernel
theorem dX6_filled_165 : decode cX6_filled 165 = .ok (.if_icmp .le 14, 3) := by decide +kernel
theorem dX6_filled_168 : decode cX6_filled 168 = .ok (.iload 7, 2) := by decide +kernel
theorem dX6_filled_170 : decode cX6_filled 170 = .ok (.iconst (-1), 1) := by decide +kernel
theorem dX6_filled_171 : decode cX6_filled 171 = .ok (.if_icmp .ne 8, 3) := by decide +kernel
theorem dX6_filled_174 : decode cX6_filled 174 = .ok (.iload 8, 2) := by decide +kernel
theorem dX6_filled_176 : decode cX6_filled 176 = .ok (.goto 5, 3) := by decide +kernel
theorem dX6_filled_179 : decode cX6_filled 179 = .ok (.iload 7, 2) := by decide +kernel
theorem dX6_filled_181 : decode cX6_filled 181 = .ok (.istore 7, 2) := by decide +kernel
theorem dX6_filled_183 : decode cX6_filled 183 = .ok (.iinc 8 1, 3) := by decide +kernel
theorem dX6_filled_186 : decode cX6_filled 186 = .ok (.goto (-108), 3) := by decide +kernel
theorem dX6_filled_189 : decode cX6_filled 189 = .ok (.aload_n 0, 1) := by decide +kernel
theorem dX6_filled_190 : decode cX6_filled 190 = .ok (.iload 4, 2) := by decide +kernel
theorem dX6_filled_192 : decode cX6_filled 192 = .ok (.ifCond .eq 9, 3) := by decide +kernel
theorem dX6_filled_195 : decode cX6_filled 195 = .ok (.iload 6, 2) := by decide +kernel
theorem dX6_filled_197 : decode cX6_filled 197 = .ok (.iconst (-1), 1) := by decide +kernel
theorem dX6_filled_198 : decode cX6_filled 198 = .ok (.if_icmp .eq 15, 3) := by decide +kernel
theorem dX6_filled_201 : decode cX6_filled 201 = .ok (.iload 4, 2) := by decide +kernel
theorem dX6_filled_203 : decode cX6_filled 203 = .ok (.iconst 2, 1) := by decide +kernel
theorem dX6_filled_204 : decode cX6_filled 204 = .ok (.if_icmp .ne 13, 3) := by decide +kernel
theorem dX6_filled_207 : decode cX6_filled 207 = .ok (.iload 7, 2) := by decide +kernel
theorem dX6_filled_209 : decode cX6_filled 209 = .ok (.iconst (-1), 1) := by decide +kernel
theorem dX6_filled_210 : decode cX6_filled 210 = .ok (.if_icmp .ne 7, 3) := by decide +kernel
theorem dX6_filled_213 : decode cX6_filled 213 = .ok (.iconst 3, 1) := by decide +kernel
theorem dX6_filled_214 : decode cX6_filled 214 = .ok (.goto 4, 3) := by decide +kernel
theorem dX6_filled_217 : decode cX6_filled 217 = .ok (.iconst 0, 1) := by decide +kernel
theorem dX6_filled_218 : decode cX6_filled 218 = .ok (.invokevirtual 75, 3) := by decide +kernel
theorem dX6_filled_221 : decode cX6_filled 221 = .ok (.ifCond .eq 8, 3) := by decide +kernel
theorem dX6_filled_224 : decode cX6_filled 224 = .ok (.iload 4, 2) := by decide +kernel
theorem dX6_filled_226 : decode cX6_filled 226 = .ok (.ifCond .ne 5, 3) := by decide +kernel
theorem dX6_filled_229 : decode cX6_filled 229 = .ok (.iconst 0, 1) := by decide +kernel
theorem dX6_filled_230 : decode cX6_filled 230 = .ok (.ireturn, 1) := by decide +kernel
theorem dX6_filled_231 : decode cX6_filled 231 = .ok (.aload_n 0, 1) := by decide +kernel
theorem dX6_filled_232 : decode cX6_filled 232 = .ok (.getfield 25, 3) := by decide +kernel
theorem dX6_filled_235 : decode cX6_filled 235 = .ok (.iload 6, 2) := by decide +kernel
theorem dX6_filled_237 : decode cX6_filled 237 = .ok (.iaload, 1) := by decide +kernel
theorem dX6_filled_238 : decode cX6_filled 238 = .ok (.istore 8, 2) := by decide +kernel
theorem dX6_filled_240 : decode cX6_filled 240 = .ok (.iload 4, 2) := by decide +kernel
theorem dX6_filled_242 : decode cX6_filled 242 = .ok (.iconst 2, 1) := by decide +kernel
theorem dX6_filled_243 : decode cX6_filled 243 = .ok (.if_icmp .eq 6, 3) := by decide +kernel
theorem dX6_filled_246 : decode cX6_filled 246 = .ok (.iload 8, 2) := by decide +kernel
theorem dX6_filled_248 : decode cX6_filled 248 = .ok (.ireturn, 1) := by decide +kernel
theorem dX6_filled_249 : decode cX6_filled 249 = .ok (.iload_n 2, 1) := by decide +kernel
theorem dX6_filled_250 : decode cX6_filled 250 = .ok (.aload_n 0, 1) := by decide +kernel
theorem dX6_filled_251 : decode cX6_filled 251 = .ok (.getfield 22, 3) := by decide +kernel
theorem dX6_filled_254 : decode cX6_filled 254 = .ok (.iload 6, 2) := by decide +kernel
theorem dX6_filled_256 : decode cX6_filled 256 = .ok (.iaload, 1) := by decide +kernel
theorem dX6_filled_257 : decode cX6_filled 257 = .ok (.invokestatic 89, 3) := by decide +kernel
theorem dX6_filled_260 : decode cX6_filled 260 = .ok (.i2l, 1) := by decide +kernel
theorem dX6_filled_261 : decode cX6_filled 261 = .ok (.lstore 9, 2) := by decide +kernel
theorem dX6_filled_263 : decode cX6_filled 263 = .ok (.iload_n 2, 1) := by decide +kernel
theorem dX6_filled_264 : decode cX6_filled 264 = .ok (.aload_n 0, 1) := by decide +kernel
theorem dX6_filled_265 : decode cX6_filled 265 = .ok (.getfield 22, 3) := by decide +kernel
theorem dX6_filled_268 : decode cX6_filled 268 = .ok (.iload 7, 2) := by decide +kernel
theorem dX6_filled_270 : decode cX6_filled 270 = .ok (.iaload, 1) := by decide +kernel
theorem dX6_filled_271 : decode cX6_filled 271 = .ok (.invokestatic 89, 3) := by decide +kernel
theorem dX6_filled_274 : decode cX6_filled 274 = .ok (.i2l, 1) := by decide +kernel
theorem dX6_filled_275 : decode cX6_filled 275 = .ok (.lstore 11, 2) := by decide +kernel
theorem dX6_filled_277 : decode cX6_filled 277 = .ok (.aload_n 0, 1) := by decide +kernel
theorem dX6_filled_278 : decode cX6_filled 278 = .ok (.iload_n 1, 1) := by decide +kernel
theorem dX6_filled_279 : decode cX6_filled 279 = .ok (.iload_n 2, 1) := by decide +kernel
theorem dX6_filled_280 : decode cX6_filled 280 = .ok (.aload_n 0, 1) := by decide +kernel
theorem dX6_filled_281 : decode cX6_filled 281 = .ok (.getfield 22, 3) := by decide +kernel
theorem dX6_filled_284 : decode cX6_filled 284 = .ok (.iload 7, 2) := by decide +kernel
theorem dX6_filled_286 : decode cX6_filled 286 = .ok (.iaload, 1) := by decide +kernel
theorem dX6_filled_287 : decode cX6_filled 287 = .ok (.invokevirtual 136, 3) := by decide +kernel
theorem dX6_filled_290 : decode cX6_filled 290 = .ok (.istore 13, 2) := by decide +kernel
theorem dX6_filled_292 : decode cX6_filled 292 = .ok (.iload 8, 2) := by decide +kernel
theorem dX6_filled_294 : decode cX6_filled 294 = .ok (.aload_n 0, 1) := by decide +kernel
theorem dX6_filled_295 : decode cX6_filled 295 = .ok (.getfield 130, 3) := by decide +kernel
theorem dX6_filled_298 : decode cX6_filled 298 = .ok (.iload 8, 2) := by decide +kernel
theorem dX6_filled_300 : decode cX6_filled 300 = .ok (.isub, 1) := by decide +kernel
theorem dX6_filled_301 : decode cX6_filled 301 = .ok (.i2l, 1) := by decide +kernel
theorem dX6_filled_302 : decode cX6_filled 302 = .ok (.iload 5, 2) := by decide +kernel
theorem dX6_filled_304 : decode cX6_filled 304 = .ok (.i2l, 1) := by decide +kernel
theorem dX6_filled_305 : decode cX6_filled 305 = .ok (.lload 9, 2) := by decide +kernel
theorem dX6_filled_307 : decode cX6_filled 307 = .ok (.lsub, 1) := by decide +kernel
theorem dX6_filled_308 : decode cX6_filled 308 = .ok (.lmul, 1) := by decide +kernel
theorem dX6_filled_309 : decode cX6_filled 309 = .ok (.lload 11, 2) := by decide +kernel
theorem dX6_filled_311 : decode cX6_filled 311 = .ok (.lload 9, 2) := by decide +kernel
theorem dX6_filled_313 : decode cX6_filled 313 = .ok (.lsub, 1) := by decide +kernel
theorem dX6_filled_314 : decode cX6_filled 314 = .ok (.ldiv, 1) := by decide +kernel
theorem dX6_filled_315 : decode cX6_filled 315 = .ok (.l2i, 1) := by decide +kernel
theorem dX6_filled_316 : decode cX6_filled 316 = .ok (.iadd, 1) := by decide +kernel
theorem dX6_filled_317 : decode cX6_filled 317 = .ok (.ireturn, 1) := by decide +kernel
theorem dX6_isWindow_0 : decode cX6_isWindow 0 = .ok (.iload_n 0, 1) := by decide +kernel
theorem dX6_isWindow_1 : decode cX6_isWindow 1 = .ok (.ifCond .lt 24, 3) := by decide +kernel
theorem dX6_isWindow_4 : decode cX6_isWindow 4 = .ok (.iload_n 0, 1) := by decide +kernel
theorem dX6_isWindow_5 : decode cX6_isWindow 5 = .ok (.iload_n 2, 1) := by decide +kernel
theorem dX6_isWindow_6 : decode cX6_isWindow 6 = .ok (.irem, 1) := by decide +kernel
theorem dX6_isWindow_7 : decode cX6_isWindow 7 = .ok (.ifCond .ne 18, 3) := by decide +kernel
theorem dX6_isWindow_10 : decode cX6_isWindow 10 = .ok (.iload_n 1, 1) := by decide +kernel
theorem dX6_isWindow_11 : decode cX6_isWindow 11 = .ok (.iload_n 0, 1) := by decide +kernel
theorem dX6_isWindow_12 : decode cX6_isWindow 12 = .ok (.if_icmp .lt 13, 3) := by decide +kernel
theorem dX6_isWindow_15 : decode cX6_isWindow 15 = .ok (.iload_n 1, 1) := by decide +kernel
theorem dX6_isWindow_16 : decode cX6_isWindow 16 = .ok (.iload_n 2, 1) := by decide +kernel
theorem dX6_isWindow_17 : decode cX6_isWindow 17 = .ok (.irem, 1) := by decide +kernel
theorem dX6_isWindow_18 : decode cX6_isWindow 18 = .ok (.ifCond .ne 7, 3) := by decide +kernel
theorem dX6_isWindow_21 : decode cX6_isWindow 21 = .ok (.iconst 1, 1) := by decide +kernel
theorem dX6_isWindow_22 : decode cX6_isWindow 22 = .ok (.goto 4, 3) := by decide +kernel
theorem dX6_isWindow_25 : decode cX6_isWindow 25 = .ok (.iconst 0, 1) := by decide +kernel
theorem dX6_isWindow_26 : decode cX6_isWindow 26 = .ok (.ireturn, 1) := by decide +kernel
theorem dX6_up_0 : decode cX6_up 0 = .ok (.lload_n 0, 1) := by decide +kernel
theorem dX6_up_1 : decode cX6_up 1 = .ok (.lload_n 2, 1) := by decide +kernel
theorem dX6_up_2 : decode cX6_up 2 = .ok (.ladd, 1) := by decide +kernel
theorem dX6_up_3 : decode cX6_up 3 = .ok (.lconst 1, 1) := by decide +kernel
theorem dX6_up_4 : decode cX6_up 4 = .ok (.lsub, 1) := by decide +kernel
theorem dX6_up_5 : decode cX6_up 5 = .ok (.lload_n 2, 1) := by decide +kernel
theorem dX6_up_6 : decode cX6_up 6 = .ok (.ldiv, 1) := by decide +kernel
theorem dX6_up_7 : decode cX6_up 7 = .ok (.lload_n 2, 1) := by decide +kernel
theorem dX6_up_8 : decode cX6_up 8 = .ok (.lmul, 1) := by decide +kernel
theorem dX6_up_9 : decode cX6_up 9 = .ok (.lreturn, 1) := by decide +kernel
theorem dX6_putPart_0 : decode cX6_putPart 0 = .ok (.aload_n 0, 1) := by decide +kernel
theorem dX6_putPart_1 : decode cX6_putPart 1 = .ok (.getfield 28, 3) := by decide +kernel
theorem dX6_putPart_4 : decode cX6_putPart 4 = .ok (.iconst 2, 1) := by decide +kernel
theorem dX6_putPart_5 : decode cX6_putPart 5 = .ok (.iload_n 1, 1) := by decide +kernel
theorem dX6_putPart_6 : decode cX6_putPart 6 = .ok (.imul, 1) := by decide +kernel
theorem dX6_putPart_7 : decode cX6_putPart 7 = .ok (.lload_n 2, 1) := by decide +kernel
theorem dX6_putPart_8 : decode cX6_putPart 8 = .ok (.lastore, 1) := by decide +kernel
theorem dX6_putPart_9 : decode cX6_putPart 9 = .ok (.aload_n 0, 1) := by decide +kernel
theorem dX6_putPart_10 : decode cX6_putPart 10 = .ok (.getfield 28, 3) := by decide +kernel
theorem dX6_putPart_13 : decode cX6_putPart 13 = .ok (.iconst 2, 1) := by decide +kernel
theorem dX6_putPart_14 : decode cX6_putPart 14 = .ok (.iload_n 1, 1) := by decide +kernel
theorem dX6_putPart_15 : decode cX6_putPart 15 = .ok (.imul, 1) := by decide +kernel
theorem dX6_putPart_16 : decode cX6_putPart 16 = .ok (.iconst 1, 1) := by decide +kernel
theorem dX6_putPart_17 : decode cX6_putPart 17 = .ok (.iadd, 1) := by decide +kernel
theorem dX6_putPart_18 : decode cX6_putPart 18 = .ok (.lload 4, 2) := by decide +kernel
theorem dX6_putPart_20 : decode cX6_putPart 20 = .ok (.lload_n 2, 1) := by decide +kernel
theorem dX6_putPart_21 : decode cX6_putPart 21 = .ok (.lcmp, 1) := by decide +kernel
theorem dX6_putPart_22 : decode cX6_putPart 22 = .ok (.ifCond .le 8, 3) := by decide +kernel
theorem dX6_putPart_25 : decode cX6_putPart 25 = .ok (.lload 4, 2) := by decide +kernel
theorem dX6_putPart_27 : decode cX6_putPart 27 = .ok (.goto 4, 3) := by decide +kernel
theorem dX6_putPart_30 : decode cX6_putPart 30 = .ok (.lload_n 2, 1) := by decide +kernel
theorem dX6_putPart_31 : decode cX6_putPart 31 = .ok (.lastore, 1) := by decide +kernel
theorem dX6_putPart_32 : decode cX6_putPart 32 = .ok (.return_, 1) := by decide +kernel
set_option maxRecDepth 400000 in
theorem ggX6_takeApart_X6_up : GoodIn wsX6_takeApart wsX6_up := goodIn_r _ [7] rfl (by decide +kernel)
set_option maxRecDepth 20000 in
theorem gX6_takeApart_X6_up : GoodIn wsX6_takeApart (va_wsS RX6 144 yX6_up wsX6_up) := goodIn_app (goodIn_of _ (by decide +kernel)) ggX6_takeApart_X6_up
set_option maxRecDepth 400000 in
theorem ggX6_takeApart_X6_putPart : GoodIn wsX6_takeApart wsX6_putPart := goodIn_r _ [11, 12, 13, 14, 15, 16, 17, 18, 19, 20, 21, 22, 23, 24, 25, 26, 27, 28, 29] rfl (by decide +kernel)
set_option maxRecDepth 20000 in
theorem gX6_takeApart_X6_putPart : GoodIn wsX6_takeApart (wsV RX6 150 RX6 yX6_putPart wsX6_putPart) := goodIn_app (goodIn_of _ (by decide +kernel)) ggX6_takeApart_X6_putPart
theorem dX6_takeApart_0 : decode cX6_takeApart 0 = .ok (.iload_n 1, 1) := by decide +kernel
theorem dX6_takeApart_1 : decode cX6_takeApart 1 = .ok (.i2l, 1) := by decide +kernel
theorem dX6_takeApart_2 : decode cX6_takeApart 2 = .ok (.ldc2_w 142, 3) := by decide +kernel
theorem dX6_takeApart_5 : decode cX6_takeApart 5 = .ok (.invokestatic 144, 3) := by decide +kernel
theorem dX6_takeApart_8 : decode cX6_takeApart 8 = .ok (.lstore_n 3, 1) := by decide +kernel
theorem dX6_takeApart_9 : decode cX6_takeApart 9 = .ok (.iload_n 2, 1) := by decide +kernel
theorem dX6_takeApart_10 : decode cX6_takeApart 10 = .ok (.ldc 32, 2) := by decide +kernel
theorem dX6_takeApart_12 : decode cX6_takeApart 12 = .ok (.idiv, 1) := by decide +kernel
theorem dX6_takeApart_13 : decode cX6_takeApart 13 = .ok (.ldc 32, 2) := by decide +kernel
theorem dX6_takeApart_15 : decode cX6_takeApart 15 = .ok (.imul, 1) := by decide +kernel
theorem dX6_takeApart_16 : decode cX6_takeApart 16 = .ok (.i2l, 1) := by decide +kernel
theorem dX6_takeApart_17 : decode cX6_takeApart 17 = .ok (.lstore 5, 2) := by decide +kernel
theorem dX6_takeApart_19 : decode cX6_takeApart 19 = .ok (.iload_n 1, 1) := by decide +kernel
theorem dX6_takeApart_20 : decode cX6_takeApart 20 = .ok (.i2l, 1) := by decide +kernel
theorem dX6_takeApart_21 : decode cX6_takeApart 21 = .ok (.ldc2_w 148, 3) := by decide +kernel
theorem dX6_takeApart_24 : decode cX6_takeApart 24 = .ok (.invokestatic 144, 3) := by decide +kernel
theorem dX6_takeApart_27 : decode cX6_takeApart 27 = .ok (.lstore 7, 2) := by decide +kernel
theorem dX6_takeApart_29 : decode cX6_takeApart 29 = .ok (.iload_n 2, 1) := by decide +kernel
theorem dX6_takeApart_30 : decode cX6_takeApart 30 = .ok (.sipush 3600, 3) := by decide +kernel
theorem dX6_takeApart_33 : decode cX6_takeApart 33 = .ok (.idiv, 1) := by decide +kernel
theorem dX6_takeApart_34 : decode cX6_takeApart 34 = .ok (.sipush 3600, 3) := by decide +kernel
theorem dX6_takeApart_37 : decode cX6_takeApart 37 = .ok (.imul, 1) := by decide +kernel
theorem dX6_takeApart_38 : decode cX6_takeApart 38 = .ok (.i2l, 1) := by decide +kernel
theorem dX6_takeApart_39 : decode cX6_takeApart 39 = .ok (.lstore 9, 2) := by decide +kernel
theorem dX6_takeApart_41 : decode cX6_takeApart 41 = .ok (.lload_n 3, 1) := by decide +kernel
theorem dX6_takeApart_42 : decode cX6_takeApart 42 = .ok (.lload 5, 2) := by decide +kernel
theorem dX6_takeApart_44 : decode cX6_takeApart 44 = .ok (.lcmp, 1) := by decide +kernel
theorem dX6_takeApart_45 : decode cX6_takeApart 45 = .ok (.ifCond .ge 7, 3) := by decide +kernel
theorem dX6_takeApart_48 : decode cX6_takeApart 48 = .ok (.iconst 1, 1) := by decide +kernel
theorem dX6_takeApart_49 : decode cX6_takeApart 49 = .ok (.goto 4, 3) := by decide +kernel
theorem dX6_takeApart_52 : decode cX6_takeApart 52 = .ok (.iconst 0, 1) := by decide +kernel
theorem dX6_takeApart_53 : decode cX6_takeApart 53 = .ok (.istore 11, 2) := by decide +kernel
theorem dX6_takeApart_55 : decode cX6_takeApart 55 = .ok (.lload 7, 2) := by decide +kernel
theorem dX6_takeApart_57 : decode cX6_takeApart 57 = .ok (.lload 9, 2) := by decide +kernel
theorem dX6_takeApart_59 : decode cX6_takeApart 59 = .ok (.lcmp, 1) := by decide +kernel
theorem dX6_takeApart_60 : decode cX6_takeApart 60 = .ok (.ifCond .ge 7, 3) := by decide +kernel
theorem dX6_takeApart_63 : decode cX6_takeApart 63 = .ok (.iconst 1, 1) := by decide +kernel
theorem dX6_takeApart_64 : decode cX6_takeApart 64 = .ok (.goto 4, 3) := by decide +kernel
theorem dX6_takeApart_67 : decode cX6_takeApart 67 = .ok (.iconst 0, 1) := by decide +kernel
theorem dX6_takeApart_68 : decode cX6_takeApart 68 = .ok (.istore 12, 2) := by decide +kernel
theorem dX6_takeApart_70 : decode cX6_takeApart 70 = .ok (.aload_n 0, 1) := by decide +kernel
theorem dX6_takeApart_71 : decode cX6_takeApart 71 = .ok (.iconst 0, 1) := by decide +kernel
theorem dX6_takeApart_72 : decode cX6_takeApart 72 = .ok (.lload_n 3, 1) := by decide +kernel
theorem dX6_takeApart_73 : decode cX6_takeApart 73 = .ok (.lload 5, 2) := by decide +kernel
theorem dX6_takeApart_75 : decode cX6_takeApart 75 = .ok (.invokevirtual 150, 3) := by decide +kernel
theorem dX6_takeApart_78 : decode cX6_takeApart 78 = .ok (.aload_n 0, 1) := by decide +kernel
theorem dX6_takeApart_79 : decode cX6_takeApart 79 = .ok (.iconst 1, 1) := by decide +kernel
theorem dX6_takeApart_80 : decode cX6_takeApart 80 = .ok (.lload 7, 2) := by decide +kernel
theorem dX6_takeApart_82 : decode cX6_takeApart 82 = .ok (.iload 11, 2) := by decide +kernel
theorem dX6_takeApart_84 : decode cX6_takeApart 84 = .ok (.ifCond .eq 7, 3) := by decide +kernel
theorem dX6_takeApart_87 : decode cX6_takeApart 87 = .ok (.lload_n 3, 1) := by decide +kernel
theorem dX6_takeApart_88 : decode cX6_takeApart 88 = .ok (.goto 5, 3) := by decide +kernel
theorem dX6_takeApart_91 : decode cX6_takeApart 91 = .ok (.lload 9, 2) := by decide +kernel
theorem dX6_takeApart_93 : decode cX6_takeApart 93 = .ok (.invokevirtual 150, 3) := by decide +kernel
theorem dX6_takeApart_96 : decode cX6_takeApart 96 = .ok (.aload_n 0, 1) := by decide +kernel
theorem dX6_takeApart_97 : decode cX6_takeApart 97 = .ok (.iconst 2, 1) := by decide +kernel
theorem dX6_takeApart_98 : decode cX6_takeApart 98 = .ok (.iload 11, 2) := by decide +kernel
theorem dX6_takeApart_100 : decode cX6_takeApart 100 = .ok (.ifCond .eq 8, 3) := by decide +kernel
theorem dX6_takeApart_103 : decode cX6_takeApart 103 = .ok (.lload 5, 2) := by decide +kernel
theorem dX6_takeApart_105 : decode cX6_takeApart 105 = .ok (.goto 5, 3) := by decide +kernel
theorem dX6_takeApart_108 : decode cX6_takeApart 108 = .ok (.lload 9, 2) := by decide +kernel
theorem dX6_takeApart_110 : decode cX6_takeApart 110 = .ok (.lload 9, 2) := by decide +kernel
theorem dX6_takeApart_112 : decode cX6_takeApart 112 = .ok (.invokevirtual 150, 3) := by decide +kernel
theorem dX6_takeApart_115 : decode cX6_takeApart 115 = .ok (.aload_n 0, 1) := by decide +kernel
theorem dX6_takeApart_116 : decode cX6_takeApart 116 = .ok (.iconst 3, 1) := by decide +kernel
theorem dX6_takeApart_117 : decode cX6_takeApart 117 = .ok (.iload_n 1, 1) := by decide +kernel
theorem dX6_takeApart_118 : decode cX6_takeApart 118 = .ok (.i2l, 1) := by decide +kernel
theorem dX6_takeApart_119 : decode cX6_takeApart 119 = .ok (.iload 12, 2) := by decide +kernel
theorem dX6_takeApart_121 : decode cX6_takeApart 121 = .ok (.ifCond .eq 8, 3) := by decide +kernel
theorem dX6_takeApart_124 : decode cX6_takeApart 124 = .ok (.lload 7, 2) := by decide +kernel
theorem dX6_takeApart_126 : decode cX6_takeApart 126 = .ok (.goto 5, 3) := by decide +kernel
theorem dX6_takeApart_129 : decode cX6_takeApart 129 = .ok (.iload_n 2, 1) := by decide +kernel
theorem dX6_takeApart_130 : decode cX6_takeApart 130 = .ok (.i2l, 1) := by decide +kernel
theorem dX6_takeApart_131 : decode cX6_takeApart 131 = .ok (.invokevirtual 150, 3) := by decide +kernel
theorem dX6_takeApart_134 : decode cX6_takeApart 134 = .ok (.aload_n 0, 1) := by decide +kernel
theorem dX6_takeApart_135 : decode cX6_takeApart 135 = .ok (.iconst 4, 1) := by decide +kernel
theorem dX6_takeApart_136 : decode cX6_takeApart 136 = .ok (.iload 12, 2) := by decide +kernel
theorem dX6_takeApart_138 : decode cX6_takeApart 138 = .ok (.ifCond .eq 8, 3) := by decide +kernel
theorem dX6_takeApart_141 : decode cX6_takeApart 141 = .ok (.lload 9, 2) := by decide +kernel
theorem dX6_takeApart_143 : decode cX6_takeApart 143 = .ok (.goto 5, 3) := by decide +kernel
theorem dX6_takeApart_146 : decode cX6_takeApart 146 = .ok (.iload_n 2, 1) := by decide +kernel
theorem dX6_takeApart_147 : decode cX6_takeApart 147 = .ok (.i2l, 1) := by decide +kernel
theorem dX6_takeApart_148 : decode cX6_takeApart 148 = .ok (.iload_n 2, 1) := by decide +kernel
theorem dX6_takeApart_149 : decode cX6_takeApart 149 = .ok (.i2l, 1) := by decide +kernel
theorem dX6_takeApart_150 : decode cX6_takeApart 150 = .ok (.invokevirtual 150, 3) := by decide +kernel
theorem dX6_takeApart_153 : decode cX6_takeApart 153 = .ok (.return_, 1) := by decide +kernel
set_option maxRecDepth 400000 in
theorem ggX6_parts_X6_isWindow : GoodIn wsX6_parts wsX6_isWindow := goodIn_r _ [8] rfl (by decide +kernel)
set_option maxRecDepth 20000 in
theorem gX6_parts_X6_isWindow : GoodIn wsX6_parts (va_wsS RX6 154 yX6_isWindow wsX6_isWindow) := goodIn_app (goodIn_of _ (by decide +kernel)) ggX6_parts_X6_isWindow
set_option maxRecDepth 400000 in
theorem ggX6_parts_X6_can : GoodIn wsX6_parts wsX6_can := goodIn_r _ [12, 13, 26, 27, 28, 29, 30, 31, 32, 33, 34, 35, 36, 37, 38, 39, 40, 41, 42] rfl (by decide +kernel)
set_option maxRecDepth 20000 in
theorem gX6_parts_X6_can : GoodIn wsX6_parts (wsV RX6 75 RX6 yX6_can wsX6_can) := goodIn_app (goodIn_of _ (by decide +kernel)) ggX6_parts_X6_can
set_option maxRecDepth 400000 in
theorem ggX6_parts_X6_takeApart : GoodIn wsX6_parts wsX6_takeApart := goodIn_r _ [17, 2, 18, 3, 19, 20, 7, 21, 22, 23, 24, 25, 1, 26, 27, 28, 29, 30, 31, 32, 33, 34, 35, 36, 37, 38, 39, 40, 41, 42] rfl (by decide +kernel)
set_option maxRecDepth 20000 in
theorem gX6_parts_X6_takeApart : GoodIn wsX6_parts (wsV RX6 157 RX6 yX6_takeApart wsX6_takeApart) := goodIn_app (goodIn_of _ (by decide +kernel)) ggX6_parts_X6_takeApart
theorem dX6_parts_0 : decode cX6_parts 0 = .ok (.aload_n 0, 1) := by decide +kernel
theorem dX6_parts_1 : decode cX6_parts 1 = .ok (.iload_n 1, 1) := by decide +kernel
theorem dX6_parts_2 : decode cX6_parts 2 = .ok (.iload_n 2, 1) := by decide +kernel
theorem dX6_parts_3 : decode cX6_parts 3 = .ok (.bipush 60, 2) := by decide +kernel
theorem dX6_parts_5 : decode cX6_parts 5 = .ok (.invokestatic 154, 3) := by decide +kernel
theorem dX6_parts_8 : decode cX6_parts 8 = .ok (.ifCond .eq 7, 3) := by decide +kernel
theorem dX6_parts_11 : decode cX6_parts 11 = .ok (.iconst 0, 1) := by decide +kernel
theorem dX6_parts_12 : decode cX6_parts 12 = .ok (.goto 4, 3) := by decide +kernel
theorem dX6_parts_15 : decode cX6_parts 15 = .ok (.iconst 1, 1) := by decide +kernel
theorem dX6_parts_16 : decode cX6_parts 16 = .ok (.invokevirtual 75, 3) := by decide +kernel
theorem dX6_parts_19 : decode cX6_parts 19 = .ok (.ifCond .ne 5, 3) := by decide +kernel
theorem dX6_parts_22 : decode cX6_parts 22 = .ok (.iconst 0, 1) := by decide +kernel
theorem dX6_parts_23 : decode cX6_parts 23 = .ok (.ireturn, 1) := by decide +kernel
theorem dX6_parts_24 : decode cX6_parts 24 = .ok (.aload_n 0, 1) := by decide +kernel
theorem dX6_parts_25 : decode cX6_parts 25 = .ok (.iload_n 1, 1) := by decide +kernel
theorem dX6_parts_26 : decode cX6_parts 26 = .ok (.iload_n 2, 1) := by decide +kernel
theorem dX6_parts_27 : decode cX6_parts 27 = .ok (.invokevirtual 157, 3) := by decide +kernel
theorem dX6_parts_30 : decode cX6_parts 30 = .ok (.aload_n 0, 1) := by decide +kernel
theorem dX6_parts_31 : decode cX6_parts 31 = .ok (.getfield 28, 3) := by decide +kernel
theorem dX6_parts_34 : decode cX6_parts 34 = .ok (.iconst 1, 1) := by decide +kernel
theorem dX6_parts_35 : decode cX6_parts 35 = .ok (.laload, 1) := by decide +kernel
theorem dX6_parts_36 : decode cX6_parts 36 = .ok (.aload_n 0, 1) := by decide +kernel
theorem dX6_parts_37 : decode cX6_parts 37 = .ok (.getfield 28, 3) := by decide +kernel
theorem dX6_parts_40 : decode cX6_parts 40 = .ok (.iconst 0, 1) := by decide +kernel
theorem dX6_parts_41 : decode cX6_parts 41 = .ok (.laload, 1) := by decide +kernel
theorem dX6_parts_42 : decode cX6_parts 42 = .ok (.lsub, 1) := by decide +kernel
theorem dX6_parts_43 : decode cX6_parts 43 = .ok (.ldc2_w 142, 3) := by decide +kernel
theorem dX6_parts_46 : decode cX6_parts 46 = .ok (.ldiv, 1) := by decide +kernel
theorem dX6_parts_47 : decode cX6_parts 47 = .ok (.aload_n 0, 1) := by decide +kernel
theorem dX6_parts_48 : decode cX6_parts 48 = .ok (.getfield 28, 3) := by decide +kernel
theorem dX6_parts_51 : decode cX6_parts 51 = .ok (.iconst 3, 1) := by decide +kernel
theorem dX6_parts_52 : decode cX6_parts 52 = .ok (.laload, 1) := by decide +kernel
theorem dX6_parts_53 : decode cX6_parts 53 = .ok (.aload_n 0, 1) := by decide +kernel
theorem dX6_parts_54 : decode cX6_parts 54 = .ok (.getfield 28, 3) := by decide +kernel
theorem dX6_parts_57 : decode cX6_parts 57 = .ok (.iconst 2, 1) := by decide +kernel
theorem dX6_parts_58 : decode cX6_parts 58 = .ok (.laload, 1) := by decide +kernel
theorem dX6_parts_59 : decode cX6_parts 59 = .ok (.lsub, 1) := by decide +kernel
theorem dX6_parts_60 : decode cX6_parts 60 = .ok (.aload_n 0, 1) := by decide +kernel
theorem dX6_parts_61 : decode cX6_parts 61 = .ok (.getfield 28, 3) := by decide +kernel
theorem dX6_parts_64 : decode cX6_parts 64 = .ok (.iconst 5, 1) := by decide +kernel
theorem dX6_parts_65 : decode cX6_parts 65 = .ok (.laload, 1) := by decide +kernel
theorem dX6_parts_66 : decode cX6_parts 66 = .ok (.ladd, 1) := by decide +kernel
theorem dX6_parts_67 : decode cX6_parts 67 = .ok (.aload_n 0, 1) := by decide +kernel
theorem dX6_parts_68 : decode cX6_parts 68 = .ok (.getfield 28, 3) := by decide +kernel
theorem dX6_parts_71 : decode cX6_parts 71 = .ok (.iconst 4, 1) := by decide +kernel
theorem dX6_parts_72 : decode cX6_parts 72 = .ok (.laload, 1) := by decide +kernel
theorem dX6_parts_73 : decode cX6_parts 73 = .ok (.lsub, 1) := by decide +kernel
theorem dX6_parts_74 : decode cX6_parts 74 = .ok (.ldc2_w 148, 3) := by decide +kernel
theorem dX6_parts_77 : decode cX6_parts 77 = .ok (.ldiv, 1) := by decide +kernel
theorem dX6_parts_78 : decode cX6_parts 78 = .ok (.ladd, 1) := by decide +kernel
theorem dX6_parts_79 : decode cX6_parts 79 = .ok (.aload_n 0, 1) := by decide +kernel
theorem dX6_parts_80 : decode cX6_parts 80 = .ok (.getfield 28, 3) := by decide +kernel
theorem dX6_parts_83 : decode cX6_parts 83 = .ok (.bipush 7, 2) := by decide +kernel
theorem dX6_parts_85 : decode cX6_parts 85 = .ok (.laload, 1) := by decide +kernel
theorem dX6_parts_86 : decode cX6_parts 86 = .ok (.aload_n 0, 1) := by decide +kernel
theorem dX6_parts_87 : decode cX6_parts 87 = .ok (.getfield 28, 3) := by decide +kernel
theorem dX6_parts_90 : decode cX6_parts 90 = .ok (.bipush 6, 2) := by decide +kernel
theorem dX6_parts_92 : decode cX6_parts 92 = .ok (.laload, 1) := by decide +kernel
theorem dX6_parts_93 : decode cX6_parts 93 = .ok (.lsub, 1) := by decide +kernel
theorem dX6_parts_94 : decode cX6_parts 94 = .ok (.aload_n 0, 1) := by decide +kernel
theorem dX6_parts_95 : decode cX6_parts 95 = .ok (.getfield 28, 3) := by decide +kernel
theorem dX6_parts_98 : decode cX6_parts 98 = .ok (.bipush 9, 2) := by decide +kernel
theorem dX6_parts_100 : decode cX6_parts 100 = .ok (.laload, 1) := by decide +kernel
theorem dX6_parts_101 : decode cX6_parts 101 = .ok (.ladd, 1) := by decide +kernel
theorem dX6_parts_102 : decode cX6_parts 102 = .ok (.aload_n 0, 1) := by decide +kernel
theorem dX6_parts_103 : decode cX6_parts 103 = .ok (.getfield 28, 3) := by decide +kernel
theorem dX6_parts_106 : decode cX6_parts 106 = .ok (.bipush 8, 2) := by decide +kernel
theorem dX6_parts_108 : decode cX6_parts 108 = .ok (.laload, 1) := by decide +kernel
theorem dX6_parts_109 : decode cX6_parts 109 = .ok (.lsub, 1) := by decide +kernel
theorem dX6_parts_110 : decode cX6_parts 110 = .ok (.ldc2_w 161, 3) := by decide +kernel
theorem dX6_parts_113 : decode cX6_parts 113 = .ok (.ldiv, 1) := by decide +kernel
theorem dX6_parts_114 : decode cX6_parts 114 = .ok (.ladd, 1) := by decide +kernel
theorem dX6_parts_115 : decode cX6_parts 115 = .ok (.lstore_n 3, 1) := by decide +kernel
theorem dX6_parts_116 : decode cX6_parts 116 = .ok (.lload_n 3, 1) := by decide +kernel
theorem dX6_parts_117 : decode cX6_parts 117 = .ok (.l2i, 1) := by decide +kernel
theorem dX6_parts_118 : decode cX6_parts 118 = .ok (.ireturn, 1) := by decide +kernel
set_option maxRecDepth 400000 in
theorem ggX6_knows_X6_takeApart : GoodIn wsX6_knows wsX6_takeApart := goodIn_r _ [6, 7, 8, 9, 10, 11, 5, 12, 13, 14, 15, 16, 1, 25, 26, 27, 28, 29, 30, 31, 32, 33, 34, 35, 36, 37, 38, 39, 40, 41] rfl (by decide +kernel)
set_option maxRecDepth 20000 in
theorem gX6_knows_X6_takeApart : GoodIn wsX6_knows (wsV RX6 157 RX6 yX6_takeApart wsX6_takeApart) := goodIn_app (goodIn_of _ (by decide +kernel)) ggX6_knows_X6_takeApart
set_option maxRecDepth 400000 in
theorem ggX6_knows_X6_isGone : GoodIn wsX6_knows wsX6_isGone := goodIn_r _ [20, 21, 22, 23, 5, 24, 8, 25, 26, 27, 28, 29, 30, 31, 32, 33, 34, 35, 36, 37, 38, 39, 40, 41] rfl (by decide +kernel)
set_option maxRecDepth 20000 in
theorem gX6_knows_X6_isGone : GoodIn wsX6_knows (wsV RX6 92 RX6 yX6_isGone wsX6_isGone) := goodIn_app (goodIn_of _ (by decide +kernel)) ggX6_knows_X6_isGone
theorem dX6_knows_0 : decode cX6_knows 0 = .ok (.aload_n 0, 1) := by decide +kernel
theorem dX6_knows_1 : decode cX6_knows 1 = .ok (.iload_n 1, 1) := by decide +kernel
theorem dX6_knows_2 : decode cX6_knows 2 = .ok (.iload_n 2, 1) := by decide +kernel
theorem dX6_knows_3 : decode cX6_knows 3 = .ok (.invokevirtual 157, 3) := by decide +kernel
theorem dX6_knows_6 : decode cX6_knows 6 = .ok (.iconst 1, 1) := by decide +kernel
theorem dX6_knows_7 : decode cX6_knows 7 = .ok (.istore_n 3, 1) := by decide +kernel
theorem dX6_knows_8 : decode cX6_knows 8 = .ok (.iconst 0, 1) := by decide +kernel
theorem dX6_knows_9 : decode cX6_knows 9 = .ok (.istore 4, 2) := by decide +kernel
theorem dX6_knows_11 : decode cX6_knows 11 = .ok (.iload 4, 2) := by decide +kernel
theorem dX6_knows_13 : decode cX6_knows 13 = .ok (.iconst 5, 1) := by decide +kernel
theorem dX6_knows_14 : decode cX6_knows 14 = .ok (.if_icmp .ge 83, 3) := by decide +kernel
theorem dX6_knows_17 : decode cX6_knows 17 = .ok (.iload 4, 2) := by decide +kernel
theorem dX6_knows_19 : decode cX6_knows 19 = .ok (.ifCond .ne 7, 3) := by decide +kernel
theorem dX6_knows_22 : decode cX6_knows 22 = .ok (.iconst 3, 1) := by decide +kernel
theorem dX6_knows_23 : decode cX6_knows 23 = .ok (.goto 14, 3) := by decide +kernel
theorem dX6_knows_26 : decode cX6_knows 26 = .ok (.iload 4, 2) := by decide +kernel
theorem dX6_knows_28 : decode cX6_knows 28 = .ok (.iconst 3, 1) := by decide +kernel
theorem dX6_knows_29 : decode cX6_knows 29 = .ok (.if_icmp .ge 7, 3) := by decide +kernel
theorem dX6_knows_32 : decode cX6_knows 32 = .ok (.iconst 2, 1) := by decide +kernel
theorem dX6_knows_33 : decode cX6_knows 33 = .ok (.goto 4, 3) := by decide +kernel
theorem dX6_knows_36 : decode cX6_knows 36 = .ok (.iconst 1, 1) := by decide +kernel
theorem dX6_knows_37 : decode cX6_knows 37 = .ok (.istore 5, 2) := by decide +kernel
theorem dX6_knows_39 : decode cX6_knows 39 = .ok (.iload_n 3, 1) := by decide +kernel
theorem dX6_knows_40 : decode cX6_knows 40 = .ok (.ifCond .eq 49, 3) := by decide +kernel
theorem dX6_knows_43 : decode cX6_knows 43 = .ok (.aload_n 0, 1) := by decide +kernel
theorem dX6_knows_44 : decode cX6_knows 44 = .ok (.getfield 28, 3) := by decide +kernel
theorem dX6_knows_47 : decode cX6_knows 47 = .ok (.iconst 2, 1) := by decide +kernel
theorem dX6_knows_48 : decode cX6_knows 48 = .ok (.iload 4, 2) := by decide +kernel
theorem dX6_knows_50 : decode cX6_knows 50 = .ok (.imul, 1) := by decide +kernel
theorem dX6_knows_51 : decode cX6_knows 51 = .ok (.laload, 1) := by decide +kernel
theorem dX6_knows_52 : decode cX6_knows 52 = .ok (.aload_n 0, 1) := by decide +kernel
theorem dX6_knows_53 : decode cX6_knows 53 = .ok (.getfield 28, 3) := by decide +kernel
theorem dX6_knows_56 : decode cX6_knows 56 = .ok (.iconst 2, 1) := by decide +kernel
theorem dX6_knows_57 : decode cX6_knows 57 = .ok (.iload 4, 2) := by decide +kernel
theorem dX6_knows_59 : decode cX6_knows 59 = .ok (.imul, 1) := by decide +kernel
theorem dX6_knows_60 : decode cX6_knows 60 = .ok (.iconst 1, 1) := by decide +kernel
theorem dX6_knows_61 : decode cX6_knows 61 = .ok (.iadd, 1) := by decide +kernel
theorem dX6_knows_62 : decode cX6_knows 62 = .ok (.laload, 1) := by decide +kernel
theorem dX6_knows_63 : decode cX6_knows 63 = .ok (.lcmp, 1) := by decide +kernel
theorem dX6_knows_64 : decode cX6_knows 64 = .ok (.ifCond .eq 21, 3) := by decide +kernel
theorem dX6_knows_67 : decode cX6_knows 67 = .ok (.aload_n 0, 1) := by decide +kernel
theorem dX6_knows_68 : decode cX6_knows 68 = .ok (.iload 5, 2) := by decide +kernel
theorem dX6_knows_70 : decode cX6_knows 70 = .ok (.aload_n 0, 1) := by decide +kernel
theorem dX6_knows_71 : decode cX6_knows 71 = .ok (.getfield 28, 3) := by decide +kernel
theorem dX6_knows_74 : decode cX6_knows 74 = .ok (.iconst 2, 1) := by decide +kernel
theorem dX6_knows_75 : decode cX6_knows 75 = .ok (.iload 4, 2) := by decide +kernel
theorem dX6_knows_77 : decode cX6_knows 77 = .ok (.imul, 1) := by decide +kernel
theorem dX6_knows_78 : decode cX6_knows 78 = .ok (.laload, 1) := by decide +kernel
theorem dX6_knows_79 : decode cX6_knows 79 = .ok (.invokevirtual 92, 3) := by decide +kernel
theorem dX6_knows_82 : decode cX6_knows 82 = .ok (.ifCond .ne 7, 3) := by decide +kernel
theorem dX6_knows_85 : decode cX6_knows 85 = .ok (.iconst 1, 1) := by decide +kernel
theorem dX6_knows_86 : decode cX6_knows 86 = .ok (.goto 4, 3) := by decide +kernel
theorem dX6_knows_89 : decode cX6_knows 89 = .ok (.iconst 0, 1) := by decide +kernel
theorem dX6_knows_90 : decode cX6_knows 90 = .ok (.istore_n 3, 1) := by decide +kernel
theorem dX6_knows_91 : decode cX6_knows 91 = .ok (.iinc 4 1, 3) := by decide +kernel
theorem dX6_knows_94 : decode cX6_knows 94 = .ok (.goto (-83), 3) := by decide +kernel
theorem dX6_knows_97 : decode cX6_knows 97 = .ok (.iload_n 3, 1) := by decide +kernel
theorem dX6_knows_98 : decode cX6_knows 98 = .ok (.ireturn, 1) := by decide +kernel
