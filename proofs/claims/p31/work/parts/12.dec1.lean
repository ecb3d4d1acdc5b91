theorem dX0_init_0 : decode cX0_init 0 = .ok (.aload_n 0, 1) := by decide +kernel
theorem dX0_init_1 : decode cX0_init 1 = .ok (.invokespecial 3, 3) := by decide +kernel
theorem dX0_init_4 : decode cX0_init 4 = .ok (.aload_n 0, 1) := by decide +kernel
theorem dX0_init_5 : decode cX0_init 5 = .ok (.bipush 100, 2) := by decide +kernel
theorem dX0_init_7 : decode cX0_init 7 = .ok (.newarray .int, 2) := by decide +kernel
theorem dX0_init_9 : decode cX0_init 9 = .ok (.putfield 9, 3) := by decide +kernel
theorem dX0_init_12 : decode cX0_init 12 = .ok (.aload_n 0, 1) := by decide +kernel
theorem dX0_init_13 : decode cX0_init 13 = .ok (.bipush 100, 2) := by decide +kernel
theorem dX0_init_15 : decode cX0_init 15 = .ok (.newarray .int, 2) := by decide +kernel
theorem dX0_init_17 : decode cX0_init 17 = .ok (.putfield 15, 3) := by decide +kernel
theorem dX0_init_20 : decode cX0_init 20 = .ok (.return_, 1) := by decide +kernel
theorem dX0_placeFrom_0 : decode cX0_placeFrom 0 = .ok (.iconst 0, 1) := by decide +kernel
theorem dX0_placeFrom_1 : decode cX0_placeFrom 1 = .ok (.istore_n 2, 1) := by decide +kernel
theorem dX0_placeFrom_2 : decode cX0_placeFrom 2 = .ok (.bipush 64, 2) := by decide +kernel
theorem dX0_placeFrom_4 : decode cX0_placeFrom 4 = .ok (.istore_n 3, 1) := by decide +kernel
theorem dX0_placeFrom_5 : decode cX0_placeFrom 5 = .ok (.iload_n 3, 1) := by decide +kernel
theorem dX0_placeFrom_6 : decode cX0_placeFrom 6 = .ok (.ifCond .le 38, 3) := by decide +kernel
theorem dX0_placeFrom_9 : decode cX0_placeFrom 9 = .ok (.iload_n 2, 1) := by decide +kernel
theorem dX0_placeFrom_10 : decode cX0_placeFrom 10 = .ok (.iload_n 3, 1) := by decide +kernel
theorem dX0_placeFrom_11 : decode cX0_placeFrom 11 = .ok (.iadd, 1) := by decide +kernel
theorem dX0_placeFrom_12 : decode cX0_placeFrom 12 = .ok (.aload_n 0, 1) := by decide +kernel
theorem dX0_placeFrom_13 : decode cX0_placeFrom 13 = .ok (.getfield 18, 3) := by decide +kernel
theorem dX0_placeFrom_16 : decode cX0_placeFrom 16 = .ok (.if_icmp .gt 21, 3) := by decide +kernel
theorem dX0_placeFrom_19 : decode cX0_placeFrom 19 = .ok (.aload_n 0, 1) := by decide +kernel
theorem dX0_placeFrom_20 : decode cX0_placeFrom 20 = .ok (.getfield 9, 3) := by decide +kernel
theorem dX0_placeFrom_23 : decode cX0_placeFrom 23 = .ok (.iload_n 2, 1) := by decide +kernel
theorem dX0_placeFrom_24 : decode cX0_placeFrom 24 = .ok (.iload_n 3, 1) := by decide +kernel
theorem dX0_placeFrom_25 : decode cX0_placeFrom 25 = .ok (.iadd, 1) := by decide +kernel
theorem dX0_placeFrom_26 : decode cX0_placeFrom 26 = .ok (.iconst 1, 1) := by decide +kernel
theorem dX0_placeFrom_27 : decode cX0_placeFrom 27 = .ok (.isub, 1) := by decide +kernel
theorem dX0_placeFrom_28 : decode cX0_placeFrom 28 = .ok (.iaload, 1) := by decide +kernel
theorem dX0_placeFrom_29 : decode cX0_placeFrom 29 = .ok (.iload_n 1, 1) := by decide +kernel
theorem dX0_placeFrom_30 : decode cX0_placeFrom 30 = .ok (.if_icmp .ge 7, 3) := by decide +kernel
theorem dX0_placeFrom_33 : decode cX0_placeFrom 33 = .ok (.iload_n 2, 1) := by decide +kernel
theorem dX0_placeFrom_34 : decode cX0_placeFrom 34 = .ok (.iload_n 3, 1) := by decide +kernel
theorem dX0_placeFrom_35 : decode cX0_placeFrom 35 = .ok (.iadd, 1) := by decide +kernel
theorem dX0_placeFrom_36 : decode cX0_placeFrom 36 = .ok (.istore_n 2, 1) := by decide +kernel
theorem dX0_placeFrom_37 : decode cX0_placeFrom 37 = .ok (.iload_n 3, 1) := by decide +kernel
theorem dX0_placeFrom_38 : decode cX0_placeFrom 38 = .ok (.iconst 1, 1) := by decide +kernel
theorem dX0_placeFrom_39 : decode cX0_placeFrom 39 = .ok (.ishr, 1) := by decide +kernel
theorem dX0_placeFrom_40 : decode cX0_placeFrom 40 = .ok (.istore_n 3, 1) := by decide +kernel
theorem dX0_placeFrom_41 : decode cX0_placeFrom 41 = .ok (.goto (-36), 3) := by decide +kernel
theorem dX0_placeFrom_44 : decode cX0_placeFrom 44 = .ok (.iload_n 2, 1) := by decide +kernel
theorem dX0_placeFrom_45 : decode cX0_placeFrom 45 = .ok (.ireturn, 1) := by decide +kernel
theorem dX0_isAt_0 : decode cX0_isAt 0 = .ok (.iload_n 1, 1) := by decide +kernel
theorem dX0_isAt_1 : decode cX0_isAt 1 = .ok (.ifCond .lt 25, 3) := by decide +kernel
theorem dX0_isAt_4 : decode cX0_isAt 4 = .ok (.iload_n 1, 1) := by decide +kernel
theorem dX0_isAt_5 : decode cX0_isAt 5 = .ok (.aload_n 0, 1) := by decide +kernel
theorem dX0_isAt_6 : decode cX0_isAt 6 = .ok (.getfield 18, 3) := by decide +kernel
theorem dX0_isAt_9 : decode cX0_isAt 9 = .ok (.if_icmp .ge 17, 3) := by decide +kernel
theorem dX0_isAt_12 : decode cX0_isAt 12 = .ok (.aload_n 0, 1) := by decide +kernel
theorem dX0_isAt_13 : decode cX0_isAt 13 = .ok (.getfield 9, 3) := by decide +kernel
theorem dX0_isAt_16 : decode cX0_isAt 16 = .ok (.iload_n 1, 1) := by decide +kernel
theorem dX0_isAt_17 : decode cX0_isAt 17 = .ok (.iaload, 1) := by decide +kernel
theorem dX0_isAt_18 : decode cX0_isAt 18 = .ok (.iload_n 2, 1) := by decide +kernel
theorem dX0_isAt_19 : decode cX0_isAt 19 = .ok (.if_icmp .ne 7, 3) := by decide +kernel
theorem dX0_isAt_22 : decode cX0_isAt 22 = .ok (.iconst 1, 1) := by decide +kernel
theorem dX0_isAt_23 : decode cX0_isAt 23 = .ok (.goto 4, 3) := by decide +kernel
theorem dX0_isAt_26 : decode cX0_isAt 26 = .ok (.iconst 0, 1) := by decide +kernel
theorem dX0_isAt_27 : decode cX0_isAt 27 = .ok (.ireturn, 1) := by decide +kernel
set_option maxRecDepth 400000 in
theorem ggX0_write_X0_placeFrom : GoodIn wsX0_write wsX0_placeFrom := goodIn_r _ [12, 1, 2, 17, 18, 19] rfl (by decide +kernel)
set_option maxRecDepth 20000 in
theorem gX0_write_X0_placeFrom : GoodIn wsX0_write (wsV RX0 22 RX0 yX0_placeFrom wsX0_placeFrom) := goodIn_app (goodIn_of _ (by decide +kernel)) ggX0_write_X0_placeFrom
set_option maxRecDepth 400000 in
theorem ggX0_write_X0_isAt : GoodIn wsX0_write wsX0_isAt := goodIn_r _ [16, 1, 2, 17, 18, 19] rfl (by decide +kernel)
set_option maxRecDepth 20000 in
theorem gX0_write_X0_isAt : GoodIn wsX0_write (wsV RX0 26 RX0 yX0_isAt wsX0_isAt) := goodIn_app (goodIn_of _ (by decide +kernel)) ggX0_write_X0_isAt
theorem dX0_write_0 : decode cX0_write 0 = .ok (.aload_n 0, 1) := by decide +kernel
theorem dX0_write_1 : decode cX0_write 1 = .ok (.iload_n 1, 1) := by decide +kernel
theorem dX0_write_2 : decode cX0_write 2 = .ok (.invokevirtual 22, 3) := by decide +kernel
theorem dX0_write_5 : decode cX0_write 5 = .ok (.istore_n 3, 1) := by decide +kernel
theorem dX0_write_6 : decode cX0_write 6 = .ok (.aload_n 0, 1) := by decide +kernel
theorem dX0_write_7 : decode cX0_write 7 = .ok (.iload_n 3, 1) := by decide +kernel
theorem dX0_write_8 : decode cX0_write 8 = .ok (.iload_n 1, 1) := by decide +kernel
theorem dX0_write_9 : decode cX0_write 9 = .ok (.invokevirtual 26, 3) := by decide +kernel
theorem dX0_write_12 : decode cX0_write 12 = .ok (.istore 4, 2) := by decide +kernel
theorem dX0_write_14 : decode cX0_write 14 = .ok (.iload 4, 2) := by decide +kernel
theorem dX0_write_16 : decode cX0_write 16 = .ok (.ifCond .ne 71, 3) := by decide +kernel
theorem dX0_write_19 : decode cX0_write 19 = .ok (.aload_n 0, 1) := by decide +kernel
theorem dX0_write_20 : decode cX0_write 20 = .ok (.getfield 18, 3) := by decide +kernel
theorem dX0_write_23 : decode cX0_write 23 = .ok (.bipush 100, 2) := by decide +kernel
theorem dX0_write_25 : decode cX0_write 25 = .ok (.if_icmp .ge 62, 3) := by decide +kernel
theorem dX0_write_28 : decode cX0_write 28 = .ok (.aload_n 0, 1) := by decide +kernel
theorem dX0_write_29 : decode cX0_write 29 = .ok (.getfield 9, 3) := by decide +kernel
theorem dX0_write_32 : decode cX0_write 32 = .ok (.iload_n 3, 1) := by decide +kernel
theorem dX0_write_33 : decode cX0_write 33 = .ok (.aload_n 0, 1) := by decide +kernel
theorem dX0_write_34 : decode cX0_write 34 = .ok (.getfield 9, 3) := by decide +kernel
theorem dX0_write_37 : decode cX0_write 37 = .ok (.iload_n 3, 1) := by decide +kernel
theorem dX0_write_38 : decode cX0_write 38 = .ok (.iconst 1, 1) := by decide +kernel
theorem dX0_write_39 : decode cX0_write 39 = .ok (.iadd, 1) := by decide +kernel
theorem dX0_write_40 : decode cX0_write 40 = .ok (.aload_n 0, 1) := by decide +kernel
theorem dX0_write_41 : decode cX0_write 41 = .ok (.getfield 18, 3) := by decide +kernel
theorem dX0_write_44 : decode cX0_write 44 = .ok (.iload_n 3, 1) := by decide +kernel
theorem dX0_write_45 : decode cX0_write 45 = .ok (.isub, 1) := by decide +kernel
theorem dX0_write_46 : decode cX0_write 46 = .ok (.invokestatic 30, 3) := by decide +kernel
theorem dX0_write_49 : decode cX0_write 49 = .ok (.aload_n 0, 1) := by decide +kernel
theorem dX0_write_50 : decode cX0_write 50 = .ok (.getfield 15, 3) := by decide +kernel
theorem dX0_write_53 : decode cX0_write 53 = .ok (.iload_n 3, 1) := by decide +kernel
theorem dX0_write_54 : decode cX0_write 54 = .ok (.aload_n 0, 1) := by decide +kernel
theorem dX0_write_55 : decode cX0_write 55 = .ok (.getfield 15, 3) := by decide +kernel
theorem dX0_write_58 : decode cX0_write 58 = .ok (.iload_n 3, 1) := by decide +kernel
theorem dX0_write_59 : decode cX0_write 59 = .ok (.iconst 1, 1) := by decide +kernel
theorem dX0_write_60 : decode cX0_write 60 = .ok (.iadd, 1) := by decide +kernel
theorem dX0_write_61 : decode cX0_write 61 = .ok (.aload_n 0, 1) := by decide +kernel
theorem dX0_write_62 : decode cX0_write 62 = .ok (.getfield 18, 3) := by decide +kernel
theorem dX0_write_65 : decode cX0_write 65 = .ok (.iload_n 3, 1) := by decide +kernel
theorem dX0_write_66 : decode cX0_write 66 = .ok (.isub, 1) := by decide +kernel
theorem dX0_write_67 : decode cX0_write 67 = .ok (.invokestatic 30, 3) := by decide +kernel
theorem dX0_write_70 : decode cX0_write 70 = .ok (.aload_n 0, 1) := by decide +kernel
theorem dX0_write_71 : decode cX0_write 71 = .ok (.getfield 9, 3) := by decide +kernel
theorem dX0_write_74 : decode cX0_write 74 = .ok (.iload_n 3, 1) := by decide +kernel
theorem dX0_write_75 : decode cX0_write 75 = .ok (.iload_n 1, 1) := by decide +kernel
theorem dX0_write_76 : decode cX0_write 76 = .ok (.iastore, 1) := by decide +kernel
theorem dX0_write_77 : decode cX0_write 77 = .ok (.aload_n 0, 1) := by decide +kernel
theorem dX0_write_78 : decode cX0_write 78 = .ok (.dup, 1) := by decide +kernel
theorem dX0_write_79 : decode cX0_write 79 = .ok (.getfield 18, 3) := by decide +kernel
theorem dX0_write_82 : decode cX0_write 82 = .ok (.iconst 1, 1) := by decide +kernel
theorem dX0_write_83 : decode cX0_write 83 = .ok (.iadd, 1) := by decide +kernel
theorem dX0_write_84 : decode cX0_write 84 = .ok (.putfield 18, 3) := by decide +kernel
theorem dX0_write_87 : decode cX0_write 87 = .ok (.aload_n 0, 1) := by decide +kernel
theorem dX0_write_88 : decode cX0_write 88 = .ok (.iload_n 3, 1) := by decide +kernel
theorem dX0_write_89 : decode cX0_write 89 = .ok (.iload_n 1, 1) := by decide +kernel
theorem dX0_write_90 : decode cX0_write 90 = .ok (.invokevirtual 26, 3) := by decide +kernel
theorem dX0_write_93 : decode cX0_write 93 = .ok (.ifCond .eq 10, 3) := by decide +kernel
theorem dX0_write_96 : decode cX0_write 96 = .ok (.aload_n 0, 1) := by decide +kernel
theorem dX0_write_97 : decode cX0_write 97 = .ok (.getfield 15, 3) := by decide +kernel
theorem dX0_write_100 : decode cX0_write 100 = .ok (.iload_n 3, 1) := by decide +kernel
theorem dX0_write_101 : decode cX0_write 101 = .ok (.iload_n 2, 1) := by decide +kernel
theorem dX0_write_102 : decode cX0_write 102 = .ok (.iastore, 1) := by decide +kernel
theorem dX0_write_103 : decode cX0_write 103 = .ok (.iload 4, 2) := by decide +kernel
theorem dX0_write_105 : decode cX0_write 105 = .ok (.ireturn, 1) := by decide +kernel
theorem dX0_remove_0 : decode cX0_remove 0 = .ok (.iload_n 1, 1) := by decide +kernel
theorem dX0_remove_1 : decode cX0_remove 1 = .ok (.ifCond .lt 18, 3) := by decide +kernel
theorem dX0_remove_4 : decode cX0_remove 4 = .ok (.iload_n 2, 1) := by decide +kernel
theorem dX0_remove_5 : decode cX0_remove 5 = .ok (.iconst 1, 1) := by decide +kernel
theorem dX0_remove_6 : decode cX0_remove 6 = .ok (.if_icmp .lt 13, 3) := by decide +kernel
theorem dX0_remove_9 : decode cX0_remove 9 = .ok (.iload_n 2, 1) := by decide +kernel
theorem dX0_remove_10 : decode cX0_remove 10 = .ok (.aload_n 0, 1) := by decide +kernel
theorem dX0_remove_11 : decode cX0_remove 11 = .ok (.getfield 18, 3) := by decide +kernel
theorem dX0_remove_14 : decode cX0_remove 14 = .ok (.iload_n 1, 1) := by decide +kernel
theorem dX0_remove_15 : decode cX0_remove 15 = .ok (.isub, 1) := by decide +kernel
theorem dX0_remove_16 : decode cX0_remove 16 = .ok (.if_icmp .le 4, 3) := by decide +kernel
theorem dX0_remove_19 : decode cX0_remove 19 = .ok (.return_, 1) := by decide +kernel
theorem dX0_remove_20 : decode cX0_remove 20 = .ok (.aload_n 0, 1) := by decide +kernel
theorem dX0_remove_21 : decode cX0_remove 21 = .ok (.getfield 9, 3) := by decide +kernel
theorem dX0_remove_24 : decode cX0_remove 24 = .ok (.iload_n 1, 1) := by decide +kernel
theorem dX0_remove_25 : decode cX0_remove 25 = .ok (.iload_n 2, 1) := by decide +kernel
theorem dX0_remove_26 : decode cX0_remove 26 = .ok (.iadd, 1) := by decide +kernel
theorem dX0_remove_27 : decode cX0_remove 27 = .ok (.aload_n 0, 1) := by decide +kernel
theorem dX0_remove_28 : decode cX0_remove 28 = .ok (.getfield 9, 3) := by decide +kernel
theorem dX0_remove_31 : decode cX0_remove 31 = .ok (.iload_n 1, 1) := by decide +kernel
theorem dX0_remove_32 : decode cX0_remove 32 = .ok (.aload_n 0, 1) := by decide +kernel
theorem dX0_remove_33 : decode cX0_remove 33 = .ok (.getfield 18, 3) := by decide +kernel
theorem dX0_remove_36 : decode cX0_remove 36 = .ok (.iload_n 1, 1) := by decide +kernel
theorem dX0_remove_37 : decode cX0_remove 37 = .ok (.isub, 1) := by decide +kernel
theorem dX0_remove_38 : decode cX0_remove 38 = .ok (.iload_n 2, 1) := by decide +kernel
theorem dX0_remove_39 : decode cX0_remove 39 = .ok (.isub, 1) := by decide +kernel
theorem dX0_remove_40 : decode cX0_remove 40 = .ok (.invokestatic 30, 3) := by decide +kernel
theorem dX0_remove_43 : decode cX0_remove 43 = .ok (.aload_n 0, 1) := by decide +kernel
theorem dX0_remove_44 : decode cX0_remove 44 = .ok (.getfield 15, 3) := by decide +kernel
theorem dX0_remove_47 : decode cX0_remove 47 = .ok (.iload_n 1, 1) := by decide +kernel
theorem dX0_remove_48 : decode cX0_remove 48 = .ok (.iload_n 2, 1) := by decide +kernel
theorem dX0_remove_49 : decode cX0_remove 49 = .ok (.iadd, 1) := by decide +kernel
theorem dX0_remove_50 : decode cX0_remove 50 = .ok (.aload_n 0, 1) := by decide +kernel
theorem dX0_remove_51 : decode cX0_remove 51 = .ok (.getfield 15, 3) := by decide +kernel
theorem dX0_remove_54 : decode cX0_remove 54 = .ok (.iload_n 1, 1) := by decide +kernel
theorem dX0_remove_55 : decode cX0_remove 55 = .ok (.aload_n 0, 1) := by decide +kernel
theorem dX0_remove_56 : decode cX0_remove 56 = .ok (.getfield 18, 3) := by decide +kernel
theorem dX0_remove_59 : decode cX0_remove 59 = .ok (.iload_n 1, 1) := by decide +kernel
theorem dX0_remove_60 : decode cX0_remove 60 = .ok (.isub, 1) := by decide +kernel
theorem dX0_remove_61 : decode cX0_remove 61 = .ok (.iload_n 2, 1) := by decide +kernel
theorem dX0_remove_62 : decode cX0_remove 62 = .ok (.isub, 1) := by decide +kernel
theorem dX0_remove_63 : decode cX0_remove 63 = .ok (.invokestatic 30, 3) := by decide +kernel
theorem dX0_remove_66 : decode cX0_remove 66 = .ok (.aload_n 0, 1) := by decide +kernel
theorem dX0_remove_67 : decode cX0_remove 67 = .ok (.dup, 1) := by decide +kernel
theorem dX0_remove_68 : decode cX0_remove 68 = .ok (.getfield 18, 3) := by decide +kernel
theorem dX0_remove_71 : decode cX0_remove 71 = .ok (.iload_n 2, 1) := by decide +kernel
theorem dX0_remove_72 : decode cX0_remove 72 = .ok (.isub, 1) := by decide +kernel
theorem dX0_remove_73 : decode cX0_remove 73 = .ok (.putfield 18, 3) := by decide +kernel
theorem dX0_remove_76 : decode cX0_remove 76 = .ok (.return_, 1) := by decide +kernel
set_option maxRecDepth 400000 in
theorem ggX0_expire_X0_placeFrom : GoodIn wsX0_expire wsX0_placeFrom := goodIn_r _ [5, 6, 7, 17, 18, 19] rfl (by decide +kernel)
set_option maxRecDepth 20000 in
theorem gX0_expire_X0_placeFrom : GoodIn wsX0_expire (wsV RX0 22 RX0 yX0_placeFrom wsX0_placeFrom) := goodIn_app (goodIn_of _ (by decide +kernel)) ggX0_expire_X0_placeFrom
set_option maxRecDepth 400000 in
theorem ggX0_expire_X0_remove : GoodIn wsX0_expire wsX0_remove := goodIn_r _ [11, 6, 7, 12, 13, 14, 15, 16, 17, 18, 19] rfl (by decide +kernel)
set_option maxRecDepth 20000 in
theorem gX0_expire_X0_remove : GoodIn wsX0_expire (wsV RX0 36 RX0 yX0_remove wsX0_remove) := goodIn_app (goodIn_of _ (by decide +kernel)) ggX0_expire_X0_remove
theorem dX0_expire_0 : decode cX0_expire 0 = .ok (.aload_n 0, 1) := by decide +kernel
theorem dX0_expire_1 : decode cX0_expire 1 = .ok (.iload_n 1, 1) := by decide +kernel
theorem dX0_expire_2 : decode cX0_expire 2 = .ok (.invokevirtual 22, 3) := by decide +kernel
theorem dX0_expire_5 : decode cX0_expire 5 = .ok (.istore_n 2, 1) := by decide +kernel
theorem dX0_expire_6 : decode cX0_expire 6 = .ok (.aload_n 0, 1) := by decide +kernel
theorem dX0_expire_7 : decode cX0_expire 7 = .ok (.iconst 0, 1) := by decide +kernel
theorem dX0_expire_8 : decode cX0_expire 8 = .ok (.iload_n 2, 1) := by decide +kernel
theorem dX0_expire_9 : decode cX0_expire 9 = .ok (.invokevirtual 36, 3) := by decide +kernel
theorem dX0_expire_12 : decode cX0_expire 12 = .ok (.iload_n 2, 1) := by decide +kernel
theorem dX0_expire_13 : decode cX0_expire 13 = .ok (.ireturn, 1) := by decide +kernel
set_option maxRecDepth 400000 in
theorem ggX0_addTo_X0_placeFrom : GoodIn wsX0_addTo wsX0_placeFrom := goodIn_r _ [8, 1, 2, 32, 33, 34] rfl (by decide +kernel)
set_option maxRecDepth 20000 in
theorem gX0_addTo_X0_placeFrom : GoodIn wsX0_addTo (wsV RX0 22 RX0 yX0_placeFrom wsX0_placeFrom) := goodIn_app (goodIn_of _ (by decide +kernel)) ggX0_addTo_X0_placeFrom
set_option maxRecDepth 400000 in
theorem ggX0_addTo_X1_addPoint : GoodIn wsX0_addTo wsX1_addPoint := goodIn_r _ [13, 14, 15, 16, 17, 18, 19, 20, 21, 22, 23, 24, 25, 26, 27, 12, 28, 29, 30, 31, 35, 36, 37, 38, 39, 40, 41, 42] rfl (by decide +kernel)
set_option maxRecDepth 20000 in
theorem gX0_addTo_X1_addPoint : GoodIn wsX0_addTo (wsV RX0 40 RX1 yX1_addPoint wsX1_addPoint) := goodIn_app (goodIn_of _ (by decide +kernel)) ggX0_addTo_X1_addPoint
theorem dX0_addTo_0 : decode cX0_addTo 0 = .ok (.aload_n 0, 1) := by decide +kernel
theorem dX0_addTo_1 : decode cX0_addTo 1 = .ok (.iload_n 2, 1) := by decide +kernel
theorem dX0_addTo_2 : decode cX0_addTo 2 = .ok (.invokevirtual 22, 3) := by decide +kernel
theorem dX0_addTo_5 : decode cX0_addTo 5 = .ok (.istore 4, 2) := by decide +kernel
theorem dX0_addTo_7 : decode cX0_addTo 7 = .ok (.iload 4, 2) := by decide +kernel
theorem dX0_addTo_9 : decode cX0_addTo 9 = .ok (.aload_n 0, 1) := by decide +kernel
theorem dX0_addTo_10 : decode cX0_addTo 10 = .ok (.getfield 18, 3) := by decide +kernel
theorem dX0_addTo_13 : decode cX0_addTo 13 = .ok (.if_icmp .ge 31, 3) := by decide +kernel
theorem dX0_addTo_16 : decode cX0_addTo 16 = .ok (.aload_n 0, 1) := by decide +kernel
theorem dX0_addTo_17 : decode cX0_addTo 17 = .ok (.getfield 9, 3) := by decide +kernel
theorem dX0_addTo_20 : decode cX0_addTo 20 = .ok (.iload 4, 2) := by decide +kernel
theorem dX0_addTo_22 : decode cX0_addTo 22 = .ok (.iaload, 1) := by decide +kernel
theorem dX0_addTo_23 : decode cX0_addTo 23 = .ok (.iload_n 3, 1) := by decide +kernel
theorem dX0_addTo_24 : decode cX0_addTo 24 = .ok (.if_icmp .ge 20, 3) := by decide +kernel
theorem dX0_addTo_27 : decode cX0_addTo 27 = .ok (.aload_n 1, 1) := by decide +kernel
theorem dX0_addTo_28 : decode cX0_addTo 28 = .ok (.aload_n 0, 1) := by decide +kernel
theorem dX0_addTo_29 : decode cX0_addTo 29 = .ok (.getfield 15, 3) := by decide +kernel
theorem dX0_addTo_32 : decode cX0_addTo 32 = .ok (.iload 4, 2) := by decide +kernel
theorem dX0_addTo_34 : decode cX0_addTo 34 = .ok (.iaload, 1) := by decide +kernel
theorem dX0_addTo_35 : decode cX0_addTo 35 = .ok (.invokevirtual 40, 3) := by decide +kernel
theorem dX0_addTo_38 : decode cX0_addTo 38 = .ok (.iinc 4 1, 3) := by decide +kernel
theorem dX0_addTo_41 : decode cX0_addTo 41 = .ok (.goto (-34), 3) := by decide +kernel
theorem dX0_addTo_44 : decode cX0_addTo 44 = .ok (.return_, 1) := by decide +kernel
theorem dX1_init_0 : decode cX1_init 0 = .ok (.aload_n 0, 1) := by decide +kernel
theorem dX1_init_1 : decode cX1_init 1 = .ok (.invokespecial 1, 3) := by decide +kernel
theorem dX1_init_4 : decode cX1_init 4 = .ok (.return_, 1) := by decide +kernel
theorem dX1_clear_0 : decode cX1_clear 0 = .ok (.aload_n 0, 1) := by decide +kernel
theorem dX1_clear_1 : decode cX1_clear 1 = .ok (.iconst 0, 1) := by decide +kernel
theorem dX1_clear_2 : decode cX1_clear 2 = .ok (.putfield 7, 3) := by decide +kernel
theorem dX1_clear_5 : decode cX1_clear 5 = .ok (.aload_n 0, 1) := by decide +kernel
theorem dX1_clear_6 : decode cX1_clear 6 = .ok (.lconst 0, 1) := by decide +kernel
theorem dX1_clear_7 : decode cX1_clear 7 = .ok (.putfield 13, 3) := by decide +kernel
theorem dX1_clear_10 : decode cX1_clear 10 = .ok (.aload_n 0, 1) := by decide +kernel
theorem dX1_clear_11 : decode cX1_clear 11 = .ok (.lconst 0, 1) := by decide +kernel
theorem dX1_clear_12 : decode cX1_clear 12 = .ok (.putfield 17, 3) := by decide +kernel
theorem dX1_clear_15 : decode cX1_clear 15 = .ok (.return_, 1) := by decide +kernel
set_option maxRecDepth 400000 in
theorem ggX1_addPoint_X1_join : GoodIn wsX1_addPoint wsX1_join := goodIn_r _ [16, 1, 17, 18, 19, 20, 21, 22, 23, 24, 25, 26, 27] rfl (by decide +kernel)
set_option maxRecDepth 20000 in
theorem gX1_addPoint_X1_join : GoodIn wsX1_addPoint (wsV RX1 20 RX1 yX1_join wsX1_join) := goodIn_app (goodIn_of _ (by decide +kernel)) ggX1_addPoint_X1_join
theorem dX1_addPoint_0 : decode cX1_addPoint 0 = .ok (.aload_n 0, 1) := by decide +kernel
theorem dX1_addPoint_1 : decode cX1_addPoint 1 = .ok (.iconst 1, 1) := by decide +kernel
theorem dX1_addPoint_2 : decode cX1_addPoint 2 = .ok (.iload_n 1, 1) := by decide +kernel
theorem dX1_addPoint_3 : decode cX1_addPoint 3 = .ok (.iload_n 1, 1) := by decide +kernel
theorem dX1_addPoint_4 : decode cX1_addPoint 4 = .ok (.invokevirtual 20, 3) := by decide +kernel
theorem dX1_addPoint_7 : decode cX1_addPoint 7 = .ok (.aload_n 0, 1) := by decide +kernel
theorem dX1_addPoint_8 : decode cX1_addPoint 8 = .ok (.aload_n 0, 1) := by decide +kernel
theorem dX1_addPoint_9 : decode cX1_addPoint 9 = .ok (.getfield 7, 3) := by decide +kernel
theorem dX1_addPoint_12 : decode cX1_addPoint 12 = .ok (.iconst 1, 1) := by decide +kernel
theorem dX1_addPoint_13 : decode cX1_addPoint 13 = .ok (.if_icmp .ne 7, 3) := by decide +kernel
theorem dX1_addPoint_16 : decode cX1_addPoint 16 = .ok (.iload_n 1, 1) := by decide +kernel
theorem dX1_addPoint_17 : decode cX1_addPoint 17 = .ok (.goto 11, 3) := by decide +kernel
theorem dX1_addPoint_20 : decode cX1_addPoint 20 = .ok (.aload_n 0, 1) := by decide +kernel
theorem dX1_addPoint_21 : decode cX1_addPoint 21 = .ok (.getfield 24, 3) := by decide +kernel
theorem dX1_addPoint_24 : decode cX1_addPoint 24 = .ok (.iload_n 1, 1) := by decide +kernel
theorem dX1_addPoint_25 : decode cX1_addPoint 25 = .ok (.invokestatic 27, 3) := by decide +kernel
theorem dX1_addPoint_28 : decode cX1_addPoint 28 = .ok (.putfield 24, 3) := by decide +kernel
theorem dX1_addPoint_31 : decode cX1_addPoint 31 = .ok (.aload_n 0, 1) := by decide +kernel
theorem dX1_addPoint_32 : decode cX1_addPoint 32 = .ok (.aload_n 0, 1) := by decide +kernel
theorem dX1_addPoint_33 : decode cX1_addPoint 33 = .ok (.getfield 7, 3) := by decide +kernel
theorem dX1_addPoint_36 : decode cX1_addPoint 36 = .ok (.iconst 1, 1) := by decide +kernel
theorem dX1_addPoint_37 : decode cX1_addPoint 37 = .ok (.if_icmp .ne 7, 3) := by decide +kernel
theorem dX1_addPoint_40 : decode cX1_addPoint 40 = .ok (.iload_n 1, 1) := by decide +kernel
theorem dX1_addPoint_41 : decode cX1_addPoint 41 = .ok (.goto 11, 3) := by decide +kernel
theorem dX1_addPoint_44 : decode cX1_addPoint 44 = .ok (.aload_n 0, 1) := by decide +kernel
theorem dX1_addPoint_45 : decode cX1_addPoint 45 = .ok (.getfield 33, 3) := by decide +kernel
theorem dX1_addPoint_48 : decode cX1_addPoint 48 = .ok (.iload_n 1, 1) := by decide +kernel
theorem dX1_addPoint_49 : decode cX1_addPoint 49 = .ok (.invokestatic 36, 3) := by decide +kernel
theorem dX1_addPoint_52 : decode cX1_addPoint 52 = .ok (.putfield 33, 3) := by decide +kernel
theorem dX1_addPoint_55 : decode cX1_addPoint 55 = .ok (.aload_n 0, 1) := by decide +kernel
theorem dX1_addPoint_56 : decode cX1_addPoint 56 = .ok (.dup, 1) := by decide +kernel
theorem dX1_addPoint_57 : decode cX1_addPoint 57 = .ok (.getfield 13, 3) := by decide +kernel
theorem dX1_addPoint_60 : decode cX1_addPoint 60 = .ok (.iload_n 1, 1) := by decide +kernel
theorem dX1_addPoint_61 : decode cX1_addPoint 61 = .ok (.i2l, 1) := by decide +kernel
theorem dX1_addPoint_62 : decode cX1_addPoint 62 = .ok (.ladd, 1) := by decide +kernel
theorem dX1_addPoint_63 : decode cX1_addPoint 63 = .ok (.putfield 13, 3) := by decide +kernel
theorem dX1_addPoint_66 : decode cX1_addPoint 66 = .ok (.return_, 1) := by decide +kernel
set_option maxRecDepth 400000 in
theorem ggX1_addRollup_X1_join : GoodIn wsX1_addRollup wsX1_join := goodIn_r _ [19, 1, 2, 14, 3, 20, 21, 22, 23, 24, 25, 26, 27] rfl (by decide +kernel)
set_option maxRecDepth 20000 in
theorem gX1_addRollup_X1_join : GoodIn wsX1_addRollup (wsV RX1 20 RX1 yX1_join wsX1_join) := goodIn_app (goodIn_of _ (by decide +kernel)) ggX1_addRollup_X1_join
theorem dX1_addRollup_0 : decode cX1_addRollup 0 = .ok (.aload_n 0, 1) := by decide +kernel
theorem dX1_addRollup_1 : decode cX1_addRollup 1 = .ok (.getfield 7, 3) := by decide +kernel
theorem dX1_addRollup_4 : decode cX1_addRollup 4 = .ok (.ifCond .ne 7, 3) := by decide +kernel
theorem dX1_addRollup_7 : decode cX1_addRollup 7 = .ok (.iconst 1, 1) := by decide +kernel
theorem dX1_addRollup_8 : decode cX1_addRollup 8 = .ok (.goto 4, 3) := by decide +kernel
theorem dX1_addRollup_11 : decode cX1_addRollup 11 = .ok (.iconst 0, 1) := by decide +kernel
theorem dX1_addRollup_12 : decode cX1_addRollup 12 = .ok (.istore_n 2, 1) := by decide +kernel
theorem dX1_addRollup_13 : decode cX1_addRollup 13 = .ok (.aload_n 0, 1) := by decide +kernel
theorem dX1_addRollup_14 : decode cX1_addRollup 14 = .ok (.aload_n 1, 1) := by decide +kernel
theorem dX1_addRollup_15 : decode cX1_addRollup 15 = .ok (.getfield 7, 3) := by decide +kernel
theorem dX1_addRollup_18 : decode cX1_addRollup 18 = .ok (.aload_n 1, 1) := by decide +kernel
theorem dX1_addRollup_19 : decode cX1_addRollup 19 = .ok (.getfield 39, 3) := by decide +kernel
theorem dX1_addRollup_22 : decode cX1_addRollup 22 = .ok (.aload_n 1, 1) := by decide +kernel
theorem dX1_addRollup_23 : decode cX1_addRollup 23 = .ok (.getfield 42, 3) := by decide +kernel
theorem dX1_addRollup_26 : decode cX1_addRollup 26 = .ok (.invokevirtual 20, 3) := by decide +kernel
theorem dX1_addRollup_29 : decode cX1_addRollup 29 = .ok (.aload_n 0, 1) := by decide +kernel
theorem dX1_addRollup_30 : decode cX1_addRollup 30 = .ok (.iload_n 2, 1) := by decide +kernel
theorem dX1_addRollup_31 : decode cX1_addRollup 31 = .ok (.ifCond .eq 10, 3) := by decide +kernel
theorem dX1_addRollup_34 : decode cX1_addRollup 34 = .ok (.aload_n 1, 1) := by decide +kernel
theorem dX1_addRollup_35 : decode cX1_addRollup 35 = .ok (.getfield 24, 3) := by decide +kernel
theorem dX1_addRollup_38 : decode cX1_addRollup 38 = .ok (.goto 14, 3) := by decide +kernel
theorem dX1_addRollup_41 : decode cX1_addRollup 41 = .ok (.aload_n 0, 1) := by decide +kernel
theorem dX1_addRollup_42 : decode cX1_addRollup 42 = .ok (.getfield 24, 3) := by decide +kernel
theorem dX1_addRollup_45 : decode cX1_addRollup 45 = .ok (.aload_n 1, 1) := by decide +kernel
theorem dX1_addRollup_46 : decode cX1_addRollup 46 = .ok (.getfield 24, 3) := by decide +kernel
theorem dX1_addRollup_49 : decode cX1_addRollup 49 = .ok (.invokestatic 27, 3) := by decide +kernel
theorem dX1_addRollup_52 : decode cX1_addRollup 52 = .ok (.putfield 24, 3) := by decide +kernel
theorem dX1_addRollup_55 : decode cX1_addRollup 55 = .ok (.aload_n 0, 1) := by decide +kernel
theorem dX1_addRollup_56 : decode cX1_addRollup 56 = .ok (.iload_n 2, 1) := by decide +kernel
theorem dX1_addRollup_57 : decode cX1_addRollup 57 = .ok (.ifCond .eq 10, 3) := by decide +kernel
theorem dX1_addRollup_60 : decode cX1_addRollup 60 = .ok (.aload_n 1, 1) := by decide +kernel
theorem dX1_addRollup_61 : decode cX1_addRollup 61 = .ok (.getfield 33, 3) := by decide +kernel
theorem dX1_addRollup_64 : decode cX1_addRollup 64 = .ok (.goto 14, 3) := by decide +kernel
theorem dX1_addRollup_67 : decode cX1_addRollup 67 = .ok (.aload_n 0, 1) := by decide +kernel
theorem dX1_addRollup_68 : decode cX1_addRollup 68 = .ok (.getfield 33, 3) := by decide +kernel
theorem dX1_addRollup_71 : decode cX1_addRollup 71 = .ok (.aload_n 1, 1) := by decide +kernel
theorem dX1_addRollup_72 : decode cX1_addRollup 72 = .ok (.getfield 33, 3) := by decide +kernel
theorem dX1_addRollup_75 : decode cX1_addRollup 75 = .ok (.invokestatic 36, 3) := by decide +kernel
theorem dX1_addRollup_78 : decode cX1_addRollup 78 = .ok (.putfield 33, 3) := by decide +kernel
theorem dX1_addRollup_81 : decode cX1_addRollup 81 = .ok (.aload_n 0, 1) := by decide +kernel
theorem dX1_addRollup_82 : decode cX1_addRollup 82 = .ok (.dup, 1) := by decide +kernel
theorem dX1_addRollup_83 : decode cX1_addRollup 83 = .ok (.getfield 13, 3) := by decide +kernel
theorem dX1_addRollup_86 : decode cX1_addRollup 86 = .ok (.aload_n 1, 1) := by decide +kernel
theorem dX1_addRollup_87 : decode cX1_addRollup 87 = .ok (.getfield 13, 3) := by decide +kernel
theorem dX1_addRollup_90 : decode cX1_addRollup 90 = .ok (.ladd, 1) := by decide +kernel
theorem dX1_addRollup_91 : decode cX1_addRollup 91 = .ok (.putfield 13, 3) := by decide +kernel
theorem dX1_addRollup_94 : decode cX1_addRollup 94 = .ok (.aload_n 0, 1) := by decide +kernel
theorem dX1_addRollup_95 : decode cX1_addRollup 95 = .ok (.dup, 1) := by decide +kernel
theorem dX1_addRollup_96 : decode cX1_addRollup 96 = .ok (.getfield 17, 3) := by decide +kernel
theorem dX1_addRollup_99 : decode cX1_addRollup 99 = .ok (.aload_n 1, 1) := by decide +kernel
theorem dX1_addRollup_100 : decode cX1_addRollup 100 = .ok (.getfield 17, 3) := by decide +kernel
theorem dX1_addRollup_103 : decode cX1_addRollup 103 = .ok (.ladd, 1) := by decide +kernel
theorem dX1_addRollup_104 : decode cX1_addRollup 104 = .ok (.putfield 17, 3) := by decide +kernel
theorem dX1_addRollup_107 : decode cX1_addRollup 107 = .ok (.return_, 1) := by decide +kernel
theorem dX1_join_0 : decode cX1_join 0 = .ok (.aload_n 0, 1) := by decide +kernel
theorem dX1_join_1 : decode cX1_join 1 = .ok (.getfield 7, 3) := by decide +kernel
theorem dX1_join_4 : decode cX1_join 4 = .ok (.ifCond .ne 11, 3) := by decide +kernel
theorem dX1_join_7 : decode cX1_join 7 = .ok (.aload_n 0, 1) := by decide +kernel
theorem dX1_join_8 : decode cX1_join 8 = .ok (.iload_n 2, 1) := by decide +kernel
theorem dX1_join_9 : decode cX1_join 9 = .ok (.putfield 39, 3) := by decide +kernel
theorem dX1_join_12 : decode cX1_join 12 = .ok (.goto 32, 3) := by decide +kernel
theorem dX1_join_15 : decode cX1_join 15 = .ok (.aload_n 0, 1) := by decide +kernel
theorem dX1_join_16 : decode cX1_join 16 = .ok (.dup, 1) := by decide +kernel
theorem dX1_join_17 : decode cX1_join 17 = .ok (.getfield 17, 3) := by decide +kernel
theorem dX1_join_20 : decode cX1_join 20 = .ok (.iload_n 2, 1) := by decide +kernel
theorem dX1_join_21 : decode cX1_join 21 = .ok (.aload_n 0, 1) := by decide +kernel
theorem dX1_join_22 : decode cX1_join 22 = .ok (.getfield 42, 3) := by decide +kernel
theorem dX1_join_25 : decode cX1_join 25 = .ok (.if_icmp .ge 8, 3) := by decide +kernel
theorem dX1_join_28 : decode cX1_join 28 = .ok (.iload_n 2, 1) := by decide +kernel
theorem dX1_join_29 : decode cX1_join 29 = .ok (.i2l, 1) := by decide +kernel
theorem dX1_join_30 : decode cX1_join 30 = .ok (.goto 10, 3) := by decide +kernel
theorem dX1_join_33 : decode cX1_join 33 = .ok (.iload_n 2, 1) := by decide +kernel
theorem dX1_join_34 : decode cX1_join 34 = .ok (.aload_n 0, 1) := by decide +kernel
theorem dX1_join_35 : decode cX1_join 35 = .ok (.getfield 42, 3) := by decide +kernel
theorem dX1_join_38 : decode cX1_join 38 = .ok (.isub, 1) := by decide +kernel
theorem dX1_join_39 : decode cX1_join 39 = .ok (.i2l, 1) := by decide +kernel
theorem dX1_join_40 : decode cX1_join 40 = .ok (.ladd, 1) := by decide +kernel
theorem dX1_join_41 : decode cX1_join 41 = .ok (.putfield 17, 3) := by decide +kernel
theorem dX1_join_44 : decode cX1_join 44 = .ok (.aload_n 0, 1) := by decide +kernel
theorem dX1_join_45 : decode cX1_join 45 = .ok (.iload_n 3, 1) := by decide +kernel
theorem dX1_join_46 : decode cX1_join 46 = .ok (.putfield 42, 3) := by decide +kernel
theorem dX1_join_49 : decode cX1_join 49 = .ok (.aload_n 0, 1) := by decide +kernel
theorem dX1_join_50 : decode cX1_join 50 = .ok (.dup, 1) := by decide +kernel
theorem dX1_join_51 : decode cX1_join 51 = .ok (.getfield 7, 3) := by decide +kernel
theorem dX1_join_54 : decode cX1_join 54 = .ok (.iload_n 1, 1) := by decide +kernel
theorem dX1_join_55 : decode cX1_join 55 = .ok (.iadd, 1) := by decide +kernel
theorem dX1_join_56 : decode cX1_join 56 = .ok (.putfield 7, 3) := by decide +kernel
theorem dX1_join_59 : decode cX1_join 59 = .ok (.return_, 1) := by decide +kernel
theorem dX2_init_0 : decode cX2_init 0 = .ok (.aload_n 0, 1) := by decide +kernel
theorem dX2_init_1 : decode cX2_init 1 = .ok (.invokespecial 3, 3) := by decide +kernel
theorem dX2_init_4 : decode cX2_init 4 = .ok (.aload_n 0, 1) := by decide +kernel
theorem dX2_init_5 : decode cX2_init 5 = .ok (.bipush 8, 2) := by decide +kernel
theorem dX2_init_7 : decode cX2_init 7 = .ok (.anewarray 9, 3) := by decide +kernel
theorem dX2_init_10 : decode cX2_init 10 = .ok (.putfield 11, 3) := by decide +kernel
theorem dX2_init_13 : decode cX2_init 13 = .ok (.aload_n 0, 1) := by decide +kernel
theorem dX2_init_14 : decode cX2_init 14 = .ok (.iload_n 1, 1) := by decide +kernel
theorem dX2_init_15 : decode cX2_init 15 = .ok (.putfield 17, 3) := by decide +kernel
theorem dX2_init_18 : decode cX2_init 18 = .ok (.return_, 1) := by decide +kernel
set_option maxRecDepth 400000 in
theorem ggX2_placeFrom_X2_rowOrNull : GoodIn wsX2_placeFrom wsX2_rowOrNull := goodIn_r _ [6, 7, 8, 17, 18, 19] rfl (by decide +kernel)
set_option maxRecDepth 20000 in
theorem gX2_placeFrom_X2_rowOrNull : GoodIn wsX2_placeFrom (wsV RX2 21 RX2 yX2_rowOrNull wsX2_rowOrNull) := goodIn_app (goodIn_of _ (by decide +kernel)) ggX2_placeFrom_X2_rowOrNull
theorem dX2_placeFrom_0 : decode cX2_placeFrom 0 = .ok (.iconst 0, 1) := by decide +kernel
theorem dX2_placeFrom_1 : decode cX2_placeFrom 1 = .ok (.istore_n 2, 1) := by decide +kernel
theorem dX2_placeFrom_2 : decode cX2_placeFrom 2 = .ok (.sipush 16384, 3) := by decide +kernel
theorem dX2_placeFrom_5 : decode cX2_placeFrom 5 = .ok (.istore_n 3, 1) := by decide +kernel
theorem dX2_placeFrom_6 : decode cX2_placeFrom 6 = .ok (.iload_n 3, 1) := by decide +kernel
theorem dX2_placeFrom_7 : decode cX2_placeFrom 7 = .ok (.ifCond .le 39, 3) := by decide +kernel
theorem dX2_placeFrom_10 : decode cX2_placeFrom 10 = .ok (.aload_n 0, 1) := by decide +kernel
theorem dX2_placeFrom_11 : decode cX2_placeFrom 11 = .ok (.iload_n 2, 1) := by decide +kernel
theorem dX2_placeFrom_12 : decode cX2_placeFrom 12 = .ok (.iload_n 3, 1) := by decide +kernel
theorem dX2_placeFrom_13 : decode cX2_placeFrom 13 = .ok (.iadd, 1) := by decide +kernel
theorem dX2_placeFrom_14 : decode cX2_placeFrom 14 = .ok (.iconst 1, 1) := by decide +kernel
theorem dX2_placeFrom_15 : decode cX2_placeFrom 15 = .ok (.isub, 1) := by decide +kernel
theorem dX2_placeFrom_16 : decode cX2_placeFrom 16 = .ok (.invokevirtual 21, 3) := by decide +kernel
theorem dX2_placeFrom_19 : decode cX2_placeFrom 19 = .ok (.astore 4, 2) := by decide +kernel
theorem dX2_placeFrom_21 : decode cX2_placeFrom 21 = .ok (.aload 4, 2) := by decide +kernel
theorem dX2_placeFrom_23 : decode cX2_placeFrom 23 = .ok (.ifnull 16, 3) := by decide +kernel
theorem dX2_placeFrom_26 : decode cX2_placeFrom 26 = .ok (.aload 4, 2) := by decide +kernel
theorem dX2_placeFrom_28 : decode cX2_placeFrom 28 = .ok (.getfield 25, 3) := by decide +kernel
theorem dX2_placeFrom_31 : decode cX2_placeFrom 31 = .ok (.iload_n 1, 1) := by decide +kernel
theorem dX2_placeFrom_32 : decode cX2_placeFrom 32 = .ok (.if_icmp .ge 7, 3) := by decide +kernel
theorem dX2_placeFrom_35 : decode cX2_placeFrom 35 = .ok (.iload_n 2, 1) := by decide +kernel
theorem dX2_placeFrom_36 : decode cX2_placeFrom 36 = .ok (.iload_n 3, 1) := by decide +kernel
theorem dX2_placeFrom_37 : decode cX2_placeFrom 37 = .ok (.iadd, 1) := by decide +kernel
theorem dX2_placeFrom_38 : decode cX2_placeFrom 38 = .ok (.istore_n 2, 1) := by decide +kernel
theorem dX2_placeFrom_39 : decode cX2_placeFrom 39 = .ok (.iload_n 3, 1) := by decide +kernel
theorem dX2_placeFrom_40 : decode cX2_placeFrom 40 = .ok (.iconst 1, 1) := by decide +kernel
theorem dX2_placeFrom_41 : decode cX2_placeFrom 41 = .ok (.ishr, 1) := by decide +kernel
theorem dX2_placeFrom_42 : decode cX2_placeFrom 42 = .ok (.istore_n 3, 1) := by decide +kernel
theorem dX2_placeFrom_43 : decode cX2_placeFrom 43 = .ok (.goto (-37), 3) := by decide +kernel
theorem dX2_placeFrom_46 : decode cX2_placeFrom 46 = .ok (.iload_n 2, 1) := by decide +kernel
theorem dX2_placeFrom_47 : decode cX2_placeFrom 47 = .ok (.ireturn, 1) := by decide +kernel
theorem dX2_rowOrNull_0 : decode cX2_rowOrNull 0 = .ok (.iload_n 1, 1) := by decide +kernel
theorem dX2_rowOrNull_1 : decode cX2_rowOrNull 1 = .ok (.ifCond .lt 11, 3) := by decide +kernel
theorem dX2_rowOrNull_4 : decode cX2_rowOrNull 4 = .ok (.iload_n 1, 1) := by decide +kernel
theorem dX2_rowOrNull_5 : decode cX2_rowOrNull 5 = .ok (.aload_n 0, 1) := by decide +kernel
theorem dX2_rowOrNull_6 : decode cX2_rowOrNull 6 = .ok (.getfield 28, 3) := by decide +kernel
theorem dX2_rowOrNull_9 : decode cX2_rowOrNull 9 = .ok (.if_icmp .lt 7, 3) := by decide +kernel
theorem dX2_rowOrNull_12 : decode cX2_rowOrNull 12 = .ok (.aconst_null, 1) := by decide +kernel
theorem dX2_rowOrNull_13 : decode cX2_rowOrNull 13 = .ok (.goto 9, 3) := by decide +kernel
theorem dX2_rowOrNull_16 : decode cX2_rowOrNull 16 = .ok (.aload_n 0, 1) := by decide +kernel
theorem dX2_rowOrNull_17 : decode cX2_rowOrNull 17 = .ok (.getfield 11, 3) := by decide +kernel
theorem dX2_rowOrNull_20 : decode cX2_rowOrNull 20 = .ok (.iload_n 1, 1) := by decide +kernel
theorem dX2_rowOrNull_21 : decode cX2_rowOrNull 21 = .ok (.aaload, 1) := by decide +kernel
theorem dX2_rowOrNull_22 : decode cX2_rowOrNull 22 = .ok (.areturn, 1) := by decide +kernel
set_option maxRecDepth 400000 in
theorem ggX2_find_X2_placeFrom : GoodIn wsX2_find wsX2_placeFrom := goodIn_r _ [6, 1, 7, 8, 9, 5, 10, 11, 12, 13, 14, 15, 16, 17, 18, 19, 20, 21, 22, 23] rfl (by decide +kernel)
set_option maxRecDepth 20000 in
theorem gX2_find_X2_placeFrom : GoodIn wsX2_find (wsV RX2 31 RX2 yX2_placeFrom wsX2_placeFrom) := goodIn_app (goodIn_of _ (by decide +kernel)) ggX2_find_X2_placeFrom
set_option maxRecDepth 400000 in
theorem ggX2_find_X2_rowOrNull : GoodIn wsX2_find wsX2_rowOrNull := goodIn_r _ [10, 11, 12, 21, 22, 23] rfl (by decide +kernel)
set_option maxRecDepth 20000 in
theorem gX2_find_X2_rowOrNull : GoodIn wsX2_find (wsV RX2 21 RX2 yX2_rowOrNull wsX2_rowOrNull) := goodIn_app (goodIn_of _ (by decide +kernel)) ggX2_find_X2_rowOrNull
theorem dX2_find_0 : decode cX2_find 0 = .ok (.aload_n 0, 1) := by decide +kernel
theorem dX2_find_1 : decode cX2_find 1 = .ok (.aload_n 0, 1) := by decide +kernel
theorem dX2_find_2 : decode cX2_find 2 = .ok (.iload_n 1, 1) := by decide +kernel
theorem dX2_find_3 : decode cX2_find 3 = .ok (.invokevirtual 31, 3) := by decide +kernel
theorem dX2_find_6 : decode cX2_find 6 = .ok (.invokevirtual 21, 3) := by decide +kernel
theorem dX2_find_9 : decode cX2_find 9 = .ok (.astore_n 2, 1) := by decide +kernel
theorem dX2_find_10 : decode cX2_find 10 = .ok (.aload_n 2, 1) := by decide +kernel
theorem dX2_find_11 : decode cX2_find 11 = .ok (.ifnull 15, 3) := by decide +kernel
theorem dX2_find_14 : decode cX2_find 14 = .ok (.aload_n 2, 1) := by decide +kernel
theorem dX2_find_15 : decode cX2_find 15 = .ok (.getfield 25, 3) := by decide +kernel
theorem dX2_find_18 : decode cX2_find 18 = .ok (.iload_n 1, 1) := by decide +kernel
theorem dX2_find_19 : decode cX2_find 19 = .ok (.if_icmp .ne 7, 3) := by decide +kernel
theorem dX2_find_22 : decode cX2_find 22 = .ok (.aload_n 2, 1) := by decide +kernel
theorem dX2_find_23 : decode cX2_find 23 = .ok (.goto 4, 3) := by decide +kernel
theorem dX2_find_26 : decode cX2_find 26 = .ok (.aconst_null, 1) := by decide +kernel
theorem dX2_find_27 : decode cX2_find 27 = .ok (.areturn, 1) := by decide +kernel
set_option maxRecDepth 400000 in
theorem ggX2_findOrMake_X2_placeFrom : GoodIn wsX2_findOrMake wsX2_placeFrom := goodIn_r _ [11, 1, 12, 13, 14, 10, 15, 2, 3, 29, 30, 31, 32, 33, 34, 35, 36, 37, 38, 39] rfl (by decide +kernel)
set_option maxRecDepth 20000 in
theorem gX2_findOrMake_X2_placeFrom : GoodIn wsX2_findOrMake (wsV RX2 31 RX2 yX2_placeFrom wsX2_placeFrom) := goodIn_app (goodIn_of _ (by decide +kernel)) ggX2_findOrMake_X2_placeFrom
set_option maxRecDepth 400000 in
theorem ggX2_findOrMake_X2_rowOrNull : GoodIn wsX2_findOrMake wsX2_rowOrNull := goodIn_r _ [15, 2, 3, 37, 38, 39] rfl (by decide +kernel)
set_option maxRecDepth 20000 in
theorem gX2_findOrMake_X2_rowOrNull : GoodIn wsX2_findOrMake (wsV RX2 21 RX2 yX2_rowOrNull wsX2_rowOrNull) := goodIn_app (goodIn_of _ (by decide +kernel)) ggX2_findOrMake_X2_rowOrNull
set_option maxRecDepth 400000 in
theorem ggX2_findOrMake_X2_makeRoom : GoodIn wsX2_findOrMake wsX2_makeRoom := goodIn_r _ [19, 2, 3, 20, 21, 22, 23, 4, 37, 38, 39] rfl (by decide +kernel)
set_option maxRecDepth 20000 in
theorem gX2_findOrMake_X2_makeRoom : GoodIn wsX2_findOrMake (wsV RX2 35 RX2 yX2_makeRoom wsX2_makeRoom) := goodIn_app (goodIn_of _ (by decide +kernel)) ggX2_findOrMake_X2_makeRoom
set_option maxRecDepth 400000 in
theorem ggX2_findOrMake_X1_init : GoodIn wsX2_findOrMake wsX1_init := goodIn_r _ [25, 26, 27, 28] rfl (by decide +kernel)
set_option maxRecDepth 20000 in
theorem gX2_findOrMake_X1_init_n38 : GoodIn wsX2_findOrMake (wsX1_init) := ggX2_findOrMake_X1_init
theorem dX2_findOrMake_0 : decode cX2_findOrMake 0 = .ok (.aload_n 0, 1) := by decide +kernel
theorem dX2_findOrMake_1 : decode cX2_findOrMake 1 = .ok (.iload_n 1, 1) := by decide +kernel
theorem dX2_findOrMake_2 : decode cX2_findOrMake 2 = .ok (.invokevirtual 31, 3) := by decide +kernel
theorem dX2_findOrMake_5 : decode cX2_findOrMake 5 = .ok (.istore_n 2, 1) := by decide +kernel
theorem dX2_findOrMake_6 : decode cX2_findOrMake 6 = .ok (.aload_n 0, 1) := by decide +kernel
theorem dX2_findOrMake_7 : decode cX2_findOrMake 7 = .ok (.iload_n 2, 1) := by decide +kernel
theorem dX2_findOrMake_8 : decode cX2_findOrMake 8 = .ok (.invokevirtual 21, 3) := by decide +kernel
theorem dX2_findOrMake_11 : decode cX2_findOrMake 11 = .ok (.astore_n 3, 1) := by decide +kernel
theorem dX2_findOrMake_12 : decode cX2_findOrMake 12 = .ok (.aload_n 3, 1) := by decide +kernel
theorem dX2_findOrMake_13 : decode cX2_findOrMake 13 = .ok (.ifnull 13, 3) := by decide +kernel
theorem dX2_findOrMake_16 : decode cX2_findOrMake 16 = .ok (.aload_n 3, 1) := by decide +kernel
theorem dX2_findOrMake_17 : decode cX2_findOrMake 17 = .ok (.getfield 25, 3) := by decide +kernel
theorem dX2_findOrMake_20 : decode cX2_findOrMake 20 = .ok (.iload_n 1, 1) := by decide +kernel
theorem dX2_findOrMake_21 : decode cX2_findOrMake 21 = .ok (.if_icmp .ne 5, 3) := by decide +kernel
theorem dX2_findOrMake_24 : decode cX2_findOrMake 24 = .ok (.aload_n 3, 1) := by decide +kernel
theorem dX2_findOrMake_25 : decode cX2_findOrMake 25 = .ok (.areturn, 1) := by decide +kernel
theorem dX2_findOrMake_26 : decode cX2_findOrMake 26 = .ok (.aload_n 0, 1) := by decide +kernel
theorem dX2_findOrMake_27 : decode cX2_findOrMake 27 = .ok (.getfield 28, 3) := by decide +kernel
theorem dX2_findOrMake_30 : decode cX2_findOrMake 30 = .ok (.sipush 16384, 3) := by decide +kernel
theorem dX2_findOrMake_33 : decode cX2_findOrMake 33 = .ok (.if_icmp .lt 5, 3) := by decide +kernel
theorem dX2_findOrMake_36 : decode cX2_findOrMake 36 = .ok (.aconst_null, 1) := by decide +kernel
theorem dX2_findOrMake_37 : decode cX2_findOrMake 37 = .ok (.areturn, 1) := by decide +kernel
theorem dX2_findOrMake_38 : decode cX2_findOrMake 38 = .ok (.aload_n 0, 1) := by decide +kernel
theorem dX2_findOrMake_39 : decode cX2_findOrMake 39 = .ok (.invokevirtual 35, 3) := by decide +kernel
theorem dX2_findOrMake_42 : decode cX2_findOrMake 42 = .ok (.aload_n 0, 1) := by decide +kernel
theorem dX2_findOrMake_43 : decode cX2_findOrMake 43 = .ok (.getfield 11, 3) := by decide +kernel
theorem dX2_findOrMake_46 : decode cX2_findOrMake 46 = .ok (.aload_n 0, 1) := by decide +kernel
theorem dX2_findOrMake_47 : decode cX2_findOrMake 47 = .ok (.getfield 28, 3) := by decide +kernel
theorem dX2_findOrMake_50 : decode cX2_findOrMake 50 = .ok (.aaload, 1) := by decide +kernel
theorem dX2_findOrMake_51 : decode cX2_findOrMake 51 = .ok (.ifnonnull 13, 3) := by decide +kernel
theorem dX2_findOrMake_54 : decode cX2_findOrMake 54 = .ok (.new 9, 3) := by decide +kernel
theorem dX2_findOrMake_57 : decode cX2_findOrMake 57 = .ok (.dup, 1) := by decide +kernel
theorem dX2_findOrMake_58 : decode cX2_findOrMake 58 = .ok (.invokespecial 38, 3) := by decide +kernel
theorem dX2_findOrMake_61 : decode cX2_findOrMake 61 = .ok (.goto 12, 3) := by decide +kernel
theorem dX2_findOrMake_64 : decode cX2_findOrMake 64 = .ok (.aload_n 0, 1) := by decide +kernel
theorem dX2_findOrMake_65 : decode cX2_findOrMake 65 = .ok (.getfield 11, 3) := by decide +kernel
theorem dX2_findOrMake_68 : decode cX2_findOrMake 68 = .ok (.aload_n 0, 1) := by decide +kernel
theorem dX2_findOrMake_69 : decode cX2_findOrMake 69 = .ok (.getfield 28, 3) := by decide +kernel
theorem dX2_findOrMake_72 : decode cX2_findOrMake 72 = .ok (.aaload, 1) := by decide +kernel
theorem dX2_findOrMake_73 : decode cX2_findOrMake 73 = .ok (.astore 4, 2) := by decide +kernel
theorem dX2_findOrMake_75 : decode cX2_findOrMake 75 = .ok (.aload_n 0, 1) := by decide +kernel
theorem dX2_findOrMake_76 : decode cX2_findOrMake 76 = .ok (.getfield 28, 3) := by decide +kernel
theorem dX2_findOrMake_79 : decode cX2_findOrMake 79 = .ok (.istore 5, 2) := by decide +kernel
theorem dX2_findOrMake_81 : decode cX2_findOrMake 81 = .ok (.iload 5, 2) := by decide +kernel
theorem dX2_findOrMake_83 : decode cX2_findOrMake 83 = .ok (.iload_n 2, 1) := by decide +kernel
theorem dX2_findOrMake_84 : decode cX2_findOrMake 84 = .ok (.if_icmp .le 25, 3) := by decide +kernel
theorem dX2_findOrMake_87 : decode cX2_findOrMake 87 = .ok (.aload_n 0, 1) := by decide +kernel
theorem dX2_findOrMake_88 : decode cX2_findOrMake 88 = .ok (.getfield 11, 3) := by decide +kernel
theorem dX2_findOrMake_91 : decode cX2_findOrMake 91 = .ok (.iload 5, 2) := by decide +kernel
theorem dX2_findOrMake_93 : decode cX2_findOrMake 93 = .ok (.aload_n 0, 1) := by decide +kernel
theorem dX2_findOrMake_94 : decode cX2_findOrMake 94 = .ok (.getfield 11, 3) := by decide +kernel
theorem dX2_findOrMake_97 : decode cX2_findOrMake 97 = .ok (.iload 5, 2) := by decide +kernel
theorem dX2_findOrMake_99 : decode cX2_findOrMake 99 = .ok (.iconst 1, 1) := by decide +kernel
theorem dX2_findOrMake_100 : decode cX2_findOrMake 100 = .ok (.isub, 1) := by decide +kernel
theorem dX2_findOrMake_101 : decode cX2_findOrMake 101 = .ok (.aaload, 1) := by decide +kernel
theorem dX2_findOrMake_102 : decode cX2_findOrMake 102 = .ok (.aastore, 1) := by decide +kernel
theorem dX2_findOrMake_103 : decode cX2_findOrMake 103 = .ok (.iinc 5 (-1), 3) := by decide +kernel
theorem dX2_findOrMake_106 : decode cX2_findOrMake 106 = .ok (.goto (-25), 3) := by decide +kernel
theorem dX2_findOrMake_109 : decode cX2_findOrMake 109 = .ok (.aload_n 0, 1) := by decide +kernel
theorem dX2_findOrMake_110 : decode cX2_findOrMake 110 = .ok (.getfield 11, 3) := by decide +kernel
theorem dX2_findOrMake_113 : decode cX2_findOrMake 113 = .ok (.iload_n 2, 1) := by decide +kernel
theorem dX2_findOrMake_114 : decode cX2_findOrMake 114 = .ok (.aload 4, 2) := by decide +kernel
theorem dX2_findOrMake_116 : decode cX2_findOrMake 116 = .ok (.aastore, 1) := by decide +kernel
theorem dX2_findOrMake_117 : decode cX2_findOrMake 117 = .ok (.aload 4, 2) := by decide +kernel
theorem dX2_findOrMake_119 : decode cX2_findOrMake 119 = .ok (.iload_n 1, 1) := by decide +kernel
theorem dX2_findOrMake_120 : decode cX2_findOrMake 120 = .ok (.putfield 25, 3) := by decide +kernel
theorem dX2_findOrMake_123 : decode cX2_findOrMake 123 = .ok (.aload_n 0, 1) := by decide +kernel
theorem dX2_findOrMake_124 : decode cX2_findOrMake 124 = .ok (.dup, 1) := by decide +kernel
theorem dX2_findOrMake_125 : decode cX2_findOrMake 125 = .ok (.getfield 28, 3) := by decide +kernel
theorem dX2_findOrMake_128 : decode cX2_findOrMake 128 = .ok (.iconst 1, 1) := by decide +kernel
theorem dX2_findOrMake_129 : decode cX2_findOrMake 129 = .ok (.iadd, 1) := by decide +kernel
theorem dX2_findOrMake_130 : decode cX2_findOrMake 130 = .ok (.putfield 28, 3) := by decide +kernel
theorem dX2_findOrMake_133 : decode cX2_findOrMake 133 = .ok (.aload 4, 2) := by decide +kernel
theorem dX2_findOrMake_135 : decode cX2_findOrMake 135 = .ok (.areturn, 1) := by decide +kernel
theorem dX2_makeRoom_0 : decode cX2_makeRoom 0 = .ok (.aload_n 0, 1) := by decide +kernel
theorem dX2_makeRoom_1 : decode cX2_makeRoom 1 = .ok (.getfield 28, 3) := by decide +kernel
theorem dX2_makeRoom_4 : decode cX2_makeRoom 4 = .ok (.aload_n 0, 1) := by decide +kernel
theorem dX2_makeRoom_5 : decode cX2_makeRoom 5 = .ok (.getfield 11, 3) := by decide +kernel
theorem dX2_makeRoom_8 : decode cX2_makeRoom 8 = .ok (.arraylength, 1) := by decide +kernel
theorem dX2_makeRoom_9 : decode cX2_makeRoom 9 = .ok (.if_icmp .ge 4, 3) := by decide +kernel
theorem dX2_makeRoom_12 : decode cX2_makeRoom 12 = .ok (.return_, 1) := by decide +kernel
theorem dX2_makeRoom_13 : decode cX2_makeRoom 13 = .ok (.iconst 2, 1) := by decide +kernel
theorem dX2_makeRoom_14 : decode cX2_makeRoom 14 = .ok (.aload_n 0, 1) := by decide +kernel
theorem dX2_makeRoom_15 : decode cX2_makeRoom 15 = .ok (.getfield 11, 3) := by decide +kernel
theorem dX2_makeRoom_18 : decode cX2_makeRoom 18 = .ok (.arraylength, 1) := by decide +kernel
theorem dX2_makeRoom_19 : decode cX2_makeRoom 19 = .ok (.imul, 1) := by decide +kernel
theorem dX2_makeRoom_20 : decode cX2_makeRoom 20 = .ok (.sipush 16384, 3) := by decide +kernel
theorem dX2_makeRoom_23 : decode cX2_makeRoom 23 = .ok (.invokestatic 39, 3) := by decide +kernel
theorem dX2_makeRoom_26 : decode cX2_makeRoom 26 = .ok (.anewarray 9, 3) := by decide +kernel
theorem dX2_makeRoom_29 : decode cX2_makeRoom 29 = .ok (.astore_n 1, 1) := by decide +kernel
theorem dX2_makeRoom_30 : decode cX2_makeRoom 30 = .ok (.iconst 0, 1) := by decide +kernel
theorem dX2_makeRoom_31 : decode cX2_makeRoom 31 = .ok (.istore_n 2, 1) := by decide +kernel
theorem dX2_makeRoom_32 : decode cX2_makeRoom 32 = .ok (.iload_n 2, 1) := by decide +kernel
theorem dX2_makeRoom_33 : decode cX2_makeRoom 33 = .ok (.aload_n 0, 1) := by decide +kernel
theorem dX2_makeRoom_34 : decode cX2_makeRoom 34 = .ok (.getfield 28, 3) := by decide +kernel
theorem dX2_makeRoom_37 : decode cX2_makeRoom 37 = .ok (.if_icmp .ge 18, 3) := by decide +kernel
theorem dX2_makeRoom_40 : decode cX2_makeRoom 40 = .ok (.aload_n 1, 1) := by decide +kernel
theorem dX2_makeRoom_41 : decode cX2_makeRoom 41 = .ok (.iload_n 2, 1) := by decide +kernel
theorem dX2_makeRoom_42 : decode cX2_makeRoom 42 = .ok (.aload_n 0, 1) := by decide +kernel
theorem dX2_makeRoom_43 : decode cX2_makeRoom 43 = .ok (.getfield 11, 3) := by decide +kernel
theorem dX2_makeRoom_46 : decode cX2_makeRoom 46 = .ok (.iload_n 2, 1) := by decide +kernel
theorem dX2_makeRoom_47 : decode cX2_makeRoom 47 = .ok (.aaload, 1) := by decide +kernel
theorem dX2_makeRoom_48 : decode cX2_makeRoom 48 = .ok (.aastore, 1) := by decide +kernel
theorem dX2_makeRoom_49 : decode cX2_makeRoom 49 = .ok (.iinc 2 1, 3) := by decide +kernel
theorem dX2_makeRoom_52 : decode cX2_makeRoom 52 = .ok (.goto (-20), 3) := by decide +kernel
theorem dX2_makeRoom_55 : decode cX2_makeRoom 55 = .ok (.aload_n 0, 1) := by decide +kernel
theorem dX2_makeRoom_56 : decode cX2_makeRoom 56 = .ok (.aload_n 1, 1) := by decide +kernel
theorem dX2_makeRoom_57 : decode cX2_makeRoom 57 = .ok (.putfield 11, 3) := by decide +kernel
theorem dX2_makeRoom_60 : decode cX2_makeRoom 60 = .ok (.return_, 1) := by decide +kernel
theorem dX2_remove_0 : decode cX2_remove 0 = .ok (.iload_n 1, 1) := by decide +kernel
theorem dX2_remove_1 : decode cX2_remove 1 = .ok (.ifCond .lt 18, 3) := by decide +kernel
theorem dX2_remove_4 : decode cX2_remove 4 = .ok (.iload_n 2, 1) := by decide +kernel
theorem dX2_remove_5 : decode cX2_remove 5 = .ok (.iconst 1, 1) := by decide +kernel
theorem dX2_remove_6 : decode cX2_remove 6 = .ok (.if_icmp .lt 13, 3) := by decide +kernel
theorem dX2_remove_9 : decode cX2_remove 9 = .ok (.iload_n 2, 1) := by decide +kernel
theorem dX2_remove_10 : decode cX2_remove 10 = .ok (.aload_n 0, 1) := by decide +kernel
theorem dX2_remove_11 : decode cX2_remove 11 = .ok (.getfield 28, 3) := by decide +kernel
theorem dX2_remove_14 : decode cX2_remove 14 = .ok (.iload_n 1, 1) := by decide +kernel
theorem dX2_remove_15 : decode cX2_remove 15 = .ok (.isub, 1) := by decide +kernel
theorem dX2_remove_16 : decode cX2_remove 16 = .ok (.if_icmp .le 4, 3) := by decide +kernel
theorem dX2_remove_19 : decode cX2_remove 19 = .ok (.return_, 1) := by decide +kernel
theorem dX2_remove_20 : decode cX2_remove 20 = .ok (.iload_n 1, 1) := by decide +kernel
theorem dX2_remove_21 : decode cX2_remove 21 = .ok (.iload_n 2, 1) := by decide +kernel
theorem dX2_remove_22 : decode cX2_remove 22 = .ok (.iadd, 1) := by decide +kernel
theorem dX2_remove_23 : decode cX2_remove 23 = .ok (.istore_n 3, 1) := by decide +kernel
theorem dX2_remove_24 : decode cX2_remove 24 = .ok (.iload_n 3, 1) := by decide +kernel
theorem dX2_remove_25 : decode cX2_remove 25 = .ok (.aload_n 0, 1) := by decide +kernel
theorem dX2_remove_26 : decode cX2_remove 26 = .ok (.getfield 28, 3) := by decide +kernel
theorem dX2_remove_29 : decode cX2_remove 29 = .ok (.if_icmp .ge 41, 3) := by decide +kernel
theorem dX2_remove_32 : decode cX2_remove 32 = .ok (.aload_n 0, 1) := by decide +kernel
theorem dX2_remove_33 : decode cX2_remove 33 = .ok (.getfield 11, 3) := by decide +kernel
theorem dX2_remove_36 : decode cX2_remove 36 = .ok (.iload_n 3, 1) := by decide +kernel
theorem dX2_remove_37 : decode cX2_remove 37 = .ok (.iload_n 2, 1) := by decide +kernel
theorem dX2_remove_38 : decode cX2_remove 38 = .ok (.isub, 1) := by decide +kernel
theorem dX2_remove_39 : decode cX2_remove 39 = .ok (.aaload, 1) := by decide +kernel
theorem dX2_remove_40 : decode cX2_remove 40 = .ok (.astore 4, 2) := by decide +kernel
theorem dX2_remove_42 : decode cX2_remove 42 = .ok (.aload_n 0, 1) := by decide +kernel
theorem dX2_remove_43 : decode cX2_remove 43 = .ok (.getfield 11, 3) := by decide +kernel
theorem dX2_remove_46 : decode cX2_remove 46 = .ok (.iload_n 3, 1) := by decide +kernel
theorem dX2_remove_47 : decode cX2_remove 47 = .ok (.iload_n 2, 1) := by decide +kernel
theorem dX2_remove_48 : decode cX2_remove 48 = .ok (.isub, 1) := by decide +kernel
theorem dX2_remove_49 : decode cX2_remove 49 = .ok (.aload_n 0, 1) := by decide +kernel
theorem dX2_remove_50 : decode cX2_remove 50 = .ok (.getfield 11, 3) := by decide +kernel
theorem dX2_remove_53 : decode cX2_remove 53 = .ok (.iload_n 3, 1) := by decide +kernel
theorem dX2_remove_54 : decode cX2_remove 54 = .ok (.aaload, 1) := by decide +kernel
theorem dX2_remove_55 : decode cX2_remove 55 = .ok (.aastore, 1) := by decide +kernel
theorem dX2_remove_56 : decode cX2_remove 56 = .ok (.aload_n 0, 1) := by decide +kernel
theorem dX2_remove_57 : decode cX2_remove 57 = .ok (.getfield 11, 3) := by decide +kernel
theorem dX2_remove_60 : decode cX2_remove 60 = .ok (.iload_n 3, 1) := by decide +kernel
theorem dX2_remove_61 : decode cX2_remove 61 = .ok (.aload 4, 2) := by decide +kernel
theorem dX2_remove_63 : decode cX2_remove 63 = .ok (.aastore, 1) := by decide +kernel
theorem dX2_remove_64 : decode cX2_remove 64 = .ok (.iinc 3 1, 3) := by decide +kernel
theorem dX2_remove_67 : decode cX2_remove 67 = .ok (.goto (-43), 3) := by decide +kernel
theorem dX2_remove_70 : decode cX2_remove 70 = .ok (.aload_n 0, 1) := by decide +kernel
theorem dX2_remove_71 : decode cX2_remove 71 = .ok (.dup, 1) := by decide +kernel
theorem dX2_remove_72 : decode cX2_remove 72 = .ok (.getfield 28, 3) := by decide +kernel
theorem dX2_remove_75 : decode cX2_remove 75 = .ok (.iload_n 2, 1) := by decide +kernel
theorem dX2_remove_76 : decode cX2_remove 76 = .ok (.isub, 1) := by decide +kernel
theorem dX2_remove_77 : decode cX2_remove 77 = .ok (.putfield 28, 3) := by decide +kernel
theorem dX2_remove_80 : decode cX2_remove 80 = .ok (.return_, 1) := by decide +kernel
set_option maxRecDepth 400000 in
theorem ggX2_expire_X2_placeFrom : GoodIn wsX2_expire wsX2_placeFrom := goodIn_r _ [6, 7, 8, 9, 10, 5, 11, 12, 13, 21, 22, 23, 24, 25, 26, 27, 28, 18, 19, 20] rfl (by decide +kernel)
set_option maxRecDepth 20000 in
theorem gX2_expire_X2_placeFrom : GoodIn wsX2_expire (wsV RX2 31 RX2 yX2_placeFrom wsX2_placeFrom) := goodIn_app (goodIn_of _ (by decide +kernel)) ggX2_expire_X2_placeFrom
set_option maxRecDepth 400000 in
theorem ggX2_expire_X2_remove : GoodIn wsX2_expire wsX2_remove := goodIn_r _ [17, 12, 13, 18, 19, 20] rfl (by decide +kernel)
set_option maxRecDepth 20000 in
theorem gX2_expire_X2_remove : GoodIn wsX2_expire (wsV RX2 45 RX2 yX2_remove wsX2_remove) := goodIn_app (goodIn_of _ (by decide +kernel)) ggX2_expire_X2_remove
theorem dX2_expire_0 : decode cX2_expire 0 = .ok (.aload_n 0, 1) := by decide +kernel
theorem dX2_expire_1 : decode cX2_expire 1 = .ok (.iload_n 1, 1) := by decide +kernel
theorem dX2_expire_2 : decode cX2_expire 2 = .ok (.aload_n 0, 1) := by decide +kernel
theorem dX2_expire_3 : decode cX2_expire 3 = .ok (.getfield 17, 3) := by decide +kernel
theorem dX2_expire_6 : decode cX2_expire 6 = .ok (.isub, 1) := by decide +kernel
theorem dX2_expire_7 : decode cX2_expire 7 = .ok (.iconst 1, 1) := by decide +kernel
theorem dX2_expire_8 : decode cX2_expire 8 = .ok (.iadd, 1) := by decide +kernel
theorem dX2_expire_9 : decode cX2_expire 9 = .ok (.invokevirtual 31, 3) := by decide +kernel
theorem dX2_expire_12 : decode cX2_expire 12 = .ok (.istore_n 2, 1) := by decide +kernel
theorem dX2_expire_13 : decode cX2_expire 13 = .ok (.aload_n 0, 1) := by decide +kernel
theorem dX2_expire_14 : decode cX2_expire 14 = .ok (.iconst 0, 1) := by decide +kernel
theorem dX2_expire_15 : decode cX2_expire 15 = .ok (.iload_n 2, 1) := by decide +kernel
theorem dX2_expire_16 : decode cX2_expire 16 = .ok (.invokevirtual 45, 3) := by decide +kernel
theorem dX2_expire_19 : decode cX2_expire 19 = .ok (.iload_n 2, 1) := by decide +kernel
theorem dX2_expire_20 : decode cX2_expire 20 = .ok (.ireturn, 1) := by decide +kernel
set_option maxRecDepth 400000 in
theorem ggX2_addTo_X2_placeFrom : GoodIn wsX2_addTo wsX2_placeFrom := goodIn_r _ [7, 2, 8, 9, 10, 6, 11, 1, 12, 39, 40, 41, 42, 43, 44, 45, 46, 36, 37, 38] rfl (by decide +kernel)
set_option maxRecDepth 20000 in
theorem gX2_addTo_X2_placeFrom : GoodIn wsX2_addTo (wsV RX2 31 RX2 yX2_placeFrom wsX2_placeFrom) := goodIn_app (goodIn_of _ (by decide +kernel)) ggX2_addTo_X2_placeFrom
set_option maxRecDepth 400000 in
theorem ggX2_addTo_X2_rowOrNull : GoodIn wsX2_addTo wsX2_rowOrNull := goodIn_r _ [11, 1, 12, 36, 37, 38] rfl (by decide +kernel)
set_option maxRecDepth 20000 in
theorem gX2_addTo_X2_rowOrNull : GoodIn wsX2_addTo (wsV RX2 21 RX2 yX2_rowOrNull wsX2_rowOrNull) := goodIn_app (goodIn_of _ (by decide +kernel)) ggX2_addTo_X2_rowOrNull
set_option maxRecDepth 400000 in
theorem ggX2_addTo_X1_addRollup : GoodIn wsX2_addTo wsX1_addRollup := goodIn_r _ [17, 18, 19, 20, 21, 22, 23, 24, 25, 26, 27, 28, 29, 30, 31, 32, 33, 34, 16, 35, 39, 40, 41, 42, 43, 44, 45, 46] rfl (by decide +kernel)
set_option maxRecDepth 20000 in
theorem gX2_addTo_X1_addRollup : GoodIn wsX2_addTo (wsV RX2 49 RX1 yX1_addRollup wsX1_addRollup) := goodIn_app (goodIn_of _ (by decide +kernel)) ggX2_addTo_X1_addRollup
theorem dX2_addTo_0 : decode cX2_addTo 0 = .ok (.aload_n 0, 1) := by decide +kernel
theorem dX2_addTo_1 : decode cX2_addTo 1 = .ok (.iload_n 2, 1) := by decide +kernel
theorem dX2_addTo_2 : decode cX2_addTo 2 = .ok (.invokevirtual 31, 3) := by decide +kernel
theorem dX2_addTo_5 : decode cX2_addTo 5 = .ok (.istore 4, 2) := by decide +kernel
theorem dX2_addTo_7 : decode cX2_addTo 7 = .ok (.iload 4, 2) := by decide +kernel
theorem dX2_addTo_9 : decode cX2_addTo 9 = .ok (.aload_n 0, 1) := by decide +kernel
theorem dX2_addTo_10 : decode cX2_addTo 10 = .ok (.getfield 28, 3) := by decide +kernel
theorem dX2_addTo_13 : decode cX2_addTo 13 = .ok (.if_icmp .ge 38, 3) := by decide +kernel
theorem dX2_addTo_16 : decode cX2_addTo 16 = .ok (.aload_n 0, 1) := by decide +kernel
theorem dX2_addTo_17 : decode cX2_addTo 17 = .ok (.iload 4, 2) := by decide +kernel
theorem dX2_addTo_19 : decode cX2_addTo 19 = .ok (.invokevirtual 21, 3) := by decide +kernel
theorem dX2_addTo_22 : decode cX2_addTo 22 = .ok (.astore 5, 2) := by decide +kernel
theorem dX2_addTo_24 : decode cX2_addTo 24 = .ok (.aload 5, 2) := by decide +kernel
theorem dX2_addTo_26 : decode cX2_addTo 26 = .ok (.ifnull 12, 3) := by decide +kernel
theorem dX2_addTo_29 : decode cX2_addTo 29 = .ok (.aload 5, 2) := by decide +kernel
theorem dX2_addTo_31 : decode cX2_addTo 31 = .ok (.getfield 25, 3) := by decide +kernel
theorem dX2_addTo_34 : decode cX2_addTo 34 = .ok (.iload_n 3, 1) := by decide +kernel
theorem dX2_addTo_35 : decode cX2_addTo 35 = .ok (.if_icmp .lt 4, 3) := by decide +kernel
theorem dX2_addTo_38 : decode cX2_addTo 38 = .ok (.return_, 1) := by decide +kernel
theorem dX2_addTo_39 : decode cX2_addTo 39 = .ok (.aload_n 1, 1) := by decide +kernel
theorem dX2_addTo_40 : decode cX2_addTo 40 = .ok (.aload 5, 2) := by decide +kernel
theorem dX2_addTo_42 : decode cX2_addTo 42 = .ok (.invokevirtual 49, 3) := by decide +kernel
theorem dX2_addTo_45 : decode cX2_addTo 45 = .ok (.iinc 4 1, 3) := by decide +kernel
theorem dX2_addTo_48 : decode cX2_addTo 48 = .ok (.goto (-41), 3) := by decide +kernel
theorem dX2_addTo_51 : decode cX2_addTo 51 = .ok (.return_, 1) := by decide +kernel
set_option maxRecDepth 400000 in
theorem ggX3_init_X0_init : GoodIn wsX3_init wsX0_init := goodIn_r _ [17, 18, 2, 3, 19, 20, 21, 29, 30, 31] rfl (by decide +kernel)
set_option maxRecDepth 20000 in
theorem gX3_init_X0_init_n11 : GoodIn wsX3_init (wsX0_init) := ggX3_init_X0_init
set_option maxRecDepth 400000 in
theorem ggX3_init_X2_init : GoodIn wsX3_init wsX2_init := goodIn_r _ [24, 25, 2, 3, 26, 27, 28, 37, 38, 39] rfl (by decide +kernel)
set_option maxRecDepth 20000 in
theorem gX3_init_X2_init : GoodIn wsX3_init (wsX2_init) := ggX3_init_X2_init
theorem dX3_init_0 : decode cX3_init 0 = .ok (.aload_n 0, 1) := by decide +kernel
theorem dX3_init_1 : decode cX3_init 1 = .ok (.invokespecial 3, 3) := by decide +kernel
theorem dX3_init_4 : decode cX3_init 4 = .ok (.aload_n 0, 1) := by decide +kernel
theorem dX3_init_5 : decode cX3_init 5 = .ok (.new 9, 3) := by decide +kernel
theorem dX3_init_8 : decode cX3_init 8 = .ok (.dup, 1) := by decide +kernel
theorem dX3_init_9 : decode cX3_init 9 = .ok (.invokespecial 11, 3) := by decide +kernel
theorem dX3_init_12 : decode cX3_init 12 = .ok (.putfield 12, 3) := by decide +kernel
theorem dX3_init_15 : decode cX3_init 15 = .ok (.aload_n 0, 1) := by decide +kernel
theorem dX3_init_16 : decode cX3_init 16 = .ok (.new 18, 3) := by decide +kernel
theorem dX3_init_19 : decode cX3_init 19 = .ok (.dup, 1) := by decide +kernel
theorem dX3_init_20 : decode cX3_init 20 = .ok (.bipush 60, 2) := by decide +kernel
theorem dX3_init_22 : decode cX3_init 22 = .ok (.invokespecial 20, 3) := by decide +kernel
theorem dX3_init_25 : decode cX3_init 25 = .ok (.putfield 23, 3) := by decide +kernel
theorem dX3_init_28 : decode cX3_init 28 = .ok (.aload_n 0, 1) := by decide +kernel
theorem dX3_init_29 : decode cX3_init 29 = .ok (.new 18, 3) := by decide +kernel
theorem dX3_init_32 : decode cX3_init 32 = .ok (.dup, 1) := by decide +kernel
theorem dX3_init_33 : decode cX3_init 33 = .ok (.sipush 3600, 3) := by decide +kernel
theorem dX3_init_36 : decode cX3_init 36 = .ok (.invokespecial 20, 3) := by decide +kernel
theorem dX3_init_39 : decode cX3_init 39 = .ok (.putfield 27, 3) := by decide +kernel
theorem dX3_init_42 : decode cX3_init 42 = .ok (.aload_n 0, 1) := by decide +kernel
theorem dX3_init_43 : decode cX3_init 43 = .ok (.new 18, 3) := by decide +kernel
theorem dX3_init_46 : decode cX3_init 46 = .ok (.dup, 1) := by decide +kernel
theorem dX3_init_47 : decode cX3_init 47 = .ok (.ldc 30, 2) := by decide +kernel
theorem dX3_init_49 : decode cX3_init 49 = .ok (.invokespecial 20, 3) := by decide +kernel
theorem dX3_init_52 : decode cX3_init 52 = .ok (.putfield 31, 3) := by decide +kernel
theorem dX3_init_55 : decode cX3_init 55 = .ok (.aload_n 0, 1) := by decide +kernel
theorem dX3_init_56 : decode cX3_init 56 = .ok (.iload_n 1, 1) := by decide +kernel
theorem dX3_init_57 : decode cX3_init 57 = .ok (.putfield 34, 3) := by decide +kernel
theorem dX3_init_60 : decode cX3_init 60 = .ok (.return_, 1) := by decide +kernel
theorem dX3_rollupsOf_0 : decode cX3_rollupsOf 0 = .ok (.iload_n 1, 1) := by decide +kernel
theorem dX3_rollupsOf_1 : decode cX3_rollupsOf 1 = .ok (.iconst 3, 1) := by decide +kernel
theorem dX3_rollupsOf_2 : decode cX3_rollupsOf 2 = .ok (.if_icmp .ne 10, 3) := by decide +kernel
theorem dX3_rollupsOf_5 : decode cX3_rollupsOf 5 = .ok (.aload_n 0, 1) := by decide +kernel
theorem dX3_rollupsOf_6 : decode cX3_rollupsOf 6 = .ok (.getfield 31, 3) := by decide +kernel
theorem dX3_rollupsOf_9 : decode cX3_rollupsOf 9 = .ok (.goto 19, 3) := by decide +kernel
theorem dX3_rollupsOf_12 : decode cX3_rollupsOf 12 = .ok (.iload_n 1, 1) := by decide +kernel
theorem dX3_rollupsOf_13 : decode cX3_rollupsOf 13 = .ok (.iconst 2, 1) := by decide +kernel
theorem dX3_rollupsOf_14 : decode cX3_rollupsOf 14 = .ok (.if_icmp .ne 10, 3) := by decide +kernel
theorem dX3_rollupsOf_17 : decode cX3_rollupsOf 17 = .ok (.aload_n 0, 1) := by decide +kernel
theorem dX3_rollupsOf_18 : decode cX3_rollupsOf 18 = .ok (.getfield 27, 3) := by decide +kernel
theorem dX3_rollupsOf_21 : decode cX3_rollupsOf 21 = .ok (.goto 7, 3) := by decide +kernel
theorem dX3_rollupsOf_24 : decode cX3_rollupsOf 24 = .ok (.aload_n 0, 1) := by decide +kernel
theorem dX3_rollupsOf_25 : decode cX3_rollupsOf 25 = .ok (.getfield 23, 3) := by decide +kernel
theorem dX3_rollupsOf_28 : decode cX3_rollupsOf 28 = .ok (.areturn, 1) := by decide +kernel
set_option maxRecDepth 400000 in
theorem ggX3_rowsOf_X3_rollupsOf : GoodIn wsX3_rowsOf wsX3_rollupsOf := goodIn_r _ [8, 9, 10, 11, 12, 13, 14, 15, 16] rfl (by decide +kernel)
set_option maxRecDepth 20000 in
theorem gX3_rowsOf_X3_rollupsOf : GoodIn wsX3_rowsOf (wsV RX3 41 RX3 yX3_rollupsOf wsX3_rollupsOf) := goodIn_app (goodIn_of _ (by decide +kernel)) ggX3_rowsOf_X3_rollupsOf
theorem dX3_rowsOf_0 : decode cX3_rowsOf 0 = .ok (.iload_n 1, 1) := by decide +kernel
theorem dX3_rowsOf_1 : decode cX3_rowsOf 1 = .ok (.ifCond .ne 13, 3) := by decide +kernel
theorem dX3_rowsOf_4 : decode cX3_rowsOf 4 = .ok (.aload_n 0, 1) := by decide +kernel
theorem dX3_rowsOf_5 : decode cX3_rowsOf 5 = .ok (.getfield 12, 3) := by decide +kernel
theorem dX3_rowsOf_8 : decode cX3_rowsOf 8 = .ok (.getfield 38, 3) := by decide +kernel
theorem dX3_rowsOf_11 : decode cX3_rowsOf 11 = .ok (.goto 11, 3) := by decide +kernel
theorem dX3_rowsOf_14 : decode cX3_rowsOf 14 = .ok (.aload_n 0, 1) := by decide +kernel
theorem dX3_rowsOf_15 : decode cX3_rowsOf 15 = .ok (.iload_n 1, 1) := by decide +kernel
theorem dX3_rowsOf_16 : decode cX3_rowsOf 16 = .ok (.invokevirtual 41, 3) := by decide +kernel
theorem dX3_rowsOf_19 : decode cX3_rowsOf 19 = .ok (.getfield 45, 3) := by decide +kernel
theorem dX3_rowsOf_22 : decode cX3_rowsOf 22 = .ok (.ireturn, 1) := by decide +kernel
set_option maxRecDepth 400000 in
theorem ggX3_expire_X0_expire : GoodIn wsX3_expire wsX0_expire := goodIn_r _ [6, 7, 8, 9, 5, 10, 11, 12, 13, 14, 15, 16, 17, 18, 19, 20, 21, 56, 57, 58] rfl (by decide +kernel)
set_option maxRecDepth 20000 in
theorem gX3_expire_X0_expire : GoodIn wsX3_expire (wsV RX3 46 RX0 yX0_expire wsX0_expire) := goodIn_app (goodIn_of _ (by decide +kernel)) ggX3_expire_X0_expire
set_option maxRecDepth 400000 in
theorem ggX3_expire_X3_rollupsOf : GoodIn wsX3_expire wsX3_rollupsOf := goodIn_r _ [26, 27, 28, 29, 51, 52, 53, 54, 55] rfl (by decide +kernel)
set_option maxRecDepth 20000 in
theorem gX3_expire_X3_rollupsOf : GoodIn wsX3_expire (wsV RX3 41 RX3 yX3_rollupsOf wsX3_rollupsOf) := goodIn_app (goodIn_of _ (by decide +kernel)) ggX3_expire_X3_rollupsOf
set_option maxRecDepth 400000 in
theorem ggX3_expire_X2_expire : GoodIn wsX3_expire wsX2_expire := goodIn_r _ [34, 35, 36, 37, 38, 33, 39, 40, 41, 42, 43, 44, 45, 46, 47, 48, 49, 50, 59, 60, 61, 62, 63, 64, 65, 66, 67, 68, 69] rfl (by decide +kernel)
set_option maxRecDepth 20000 in
theorem gX3_expire_X2_expire : GoodIn wsX3_expire (wsV RX3 50 RX2 yX2_expire wsX2_expire) := goodIn_app (goodIn_of _ (by decide +kernel)) ggX3_expire_X2_expire
theorem dX3_expire_0 : decode cX3_expire 0 = .ok (.iload_n 1, 1) := by decide +kernel
theorem dX3_expire_1 : decode cX3_expire 1 = .ok (.ifCond .ne 14, 3) := by decide +kernel
theorem dX3_expire_4 : decode cX3_expire 4 = .ok (.aload_n 0, 1) := by decide +kernel
theorem dX3_expire_5 : decode cX3_expire 5 = .ok (.getfield 12, 3) := by decide +kernel
theorem dX3_expire_8 : decode cX3_expire 8 = .ok (.iload_n 2, 1) := by decide +kernel
theorem dX3_expire_9 : decode cX3_expire 9 = .ok (.invokevirtual 46, 3) := by decide +kernel
theorem dX3_expire_12 : decode cX3_expire 12 = .ok (.goto 12, 3) := by decide +kernel
theorem dX3_expire_15 : decode cX3_expire 15 = .ok (.aload_n 0, 1) := by decide +kernel
theorem dX3_expire_16 : decode cX3_expire 16 = .ok (.iload_n 1, 1) := by decide +kernel
theorem dX3_expire_17 : decode cX3_expire 17 = .ok (.invokevirtual 41, 3) := by decide +kernel
theorem dX3_expire_20 : decode cX3_expire 20 = .ok (.iload_n 2, 1) := by decide +kernel
theorem dX3_expire_21 : decode cX3_expire 21 = .ok (.invokevirtual 50, 3) := by decide +kernel
theorem dX3_expire_24 : decode cX3_expire 24 = .ok (.ireturn, 1) := by decide +kernel
set_option maxRecDepth 400000 in
theorem ggX3_write_X0_write : GoodIn wsX3_write wsX0_write := goodIn_r _ [6, 7, 8, 9, 10, 11, 12, 13, 14, 15, 16, 5, 17, 18, 19, 20, 21, 124, 125, 126] rfl (by decide +kernel)
set_option maxRecDepth 20000 in
theorem gX3_write_X0_write : GoodIn wsX3_write (wsV RX3 51 RX0 yX0_write wsX0_write) := goodIn_app (goodIn_of _ (by decide +kernel)) ggX3_write_X0_write
set_option maxRecDepth 400000 in
theorem ggX3_write_X3_refresh : GoodIn wsX3_write wsX3_refresh := goodIn_r _ [26, 27, 28, 29, 30, 31, 32, 33, 34, 35, 36, 25, 37, 38, 1, 39, 40, 41, 42, 43, 44, 45, 46, 47, 48, 49, 50, 51, 52, 53, 54, 55, 56, 57, 58, 59, 60, 61, 62, 63, 64, 65, 66, 67, 68, 69, 70, 71, 72, 73, 74, 75, 76, 77, 78, 79, 80, 81, 82, 83, 84, 85, 86, 87, 88, 5, 89, 7, 8, 13, 14, 15, 16, 17, 90, 91, 92, 93, 94, 95, 96, 97, 98, 99, 100, 101, 102, 103, 104, 105, 106, 107, 108, 109, 110, 111, 112, 113, 114, 115, 116, 117, 118, 127, 128, 129, 119, 120, 121, 122, 123, 130, 131, 132, 133, 134, 135, 136, 137, 124, 125, 126] rfl (by decide +kernel)
set_option maxRecDepth 20000 in
theorem gX3_write_X3_refresh : GoodIn wsX3_write (wsV RX3 55 RX3 yX3_refresh wsX3_refresh) := goodIn_app (goodIn_of _ (by decide +kernel)) ggX3_write_X3_refresh
theorem dX3_write_0 : decode cX3_write 0 = .ok (.aload_n 0, 1) := by decide +kernel
theorem dX3_write_1 : decode cX3_write 1 = .ok (.getfield 12, 3) := by decide +kernel
theorem dX3_write_4 : decode cX3_write 4 = .ok (.iload_n 1, 1) := by decide +kernel
theorem dX3_write_5 : decode cX3_write 5 = .ok (.iload_n 2, 1) := by decide +kernel
theorem dX3_write_6 : decode cX3_write 6 = .ok (.invokevirtual 51, 3) := by decide +kernel
theorem dX3_write_9 : decode cX3_write 9 = .ok (.istore_n 3, 1) := by decide +kernel
theorem dX3_write_10 : decode cX3_write 10 = .ok (.aload_n 0, 1) := by decide +kernel
theorem dX3_write_11 : decode cX3_write 11 = .ok (.iload_n 1, 1) := by decide +kernel
theorem dX3_write_12 : decode cX3_write 12 = .ok (.invokevirtual 55, 3) := by decide +kernel
theorem dX3_write_15 : decode cX3_write 15 = .ok (.iload_n 3, 1) := by decide +kernel
theorem dX3_write_16 : decode cX3_write 16 = .ok (.ireturn, 1) := by decide +kernel
set_option maxRecDepth 400000 in
theorem ggX3_erasePoint_X0_remove : GoodIn wsX3_erasePoint wsX0_remove := goodIn_r _ [6, 7, 8, 9, 10, 11, 12, 13, 120, 121, 122] rfl (by decide +kernel)
set_option maxRecDepth 20000 in
theorem gX3_erasePoint_X0_remove : GoodIn wsX3_erasePoint (wsV RX3 58 RX0 yX0_remove wsX0_remove) := goodIn_app (goodIn_of _ (by decide +kernel)) ggX3_erasePoint_X0_remove
set_option maxRecDepth 400000 in
theorem ggX3_erasePoint_X3_refresh : GoodIn wsX3_erasePoint wsX3_refresh := goodIn_r _ [18, 19, 20, 21, 22, 23, 24, 25, 26, 27, 28, 17, 29, 30, 1, 31, 32, 33, 34, 35, 36, 37, 38, 39, 40, 41, 42, 43, 44, 45, 46, 47, 48, 49, 50, 51, 52, 53, 54, 55, 56, 57, 58, 59, 60, 61, 62, 63, 64, 65, 66, 67, 68, 69, 70, 71, 72, 73, 74, 75, 76, 77, 78, 79, 80, 5, 81, 7, 8, 13, 82, 83, 84, 85, 86, 87, 88, 89, 90, 91, 92, 93, 94, 95, 96, 97, 98, 99, 100, 101, 102, 103, 104, 105, 106, 107, 108, 109, 110, 111, 112, 113, 114, 123, 124, 125, 115, 116, 117, 118, 119, 126, 127, 128, 129, 130, 131, 132, 133, 120, 121, 122] rfl (by decide +kernel)
set_option maxRecDepth 20000 in
theorem gX3_erasePoint_X3_refresh : GoodIn wsX3_erasePoint (wsV RX3 55 RX3 yX3_refresh wsX3_refresh) := goodIn_app (goodIn_of _ (by decide +kernel)) ggX3_erasePoint_X3_refresh
theorem dX3_erasePoint_0 : decode cX3_erasePoint 0 = .ok (.aload_n 0, 1) := by decide +kernel
theorem dX3_erasePoint_1 : decode cX3_erasePoint 1 = .ok (.getfield 12, 3) := by decide +kernel
theorem dX3_erasePoint_4 : decode cX3_erasePoint 4 = .ok (.iload_n 1, 1) := by decide +kernel
theorem dX3_erasePoint_5 : decode cX3_erasePoint 5 = .ok (.iconst 1, 1) := by decide +kernel
theorem dX3_erasePoint_6 : decode cX3_erasePoint 6 = .ok (.invokevirtual 58, 3) := by decide +kernel
theorem dX3_erasePoint_9 : decode cX3_erasePoint 9 = .ok (.aload_n 0, 1) := by decide +kernel
theorem dX3_erasePoint_10 : decode cX3_erasePoint 10 = .ok (.iload_n 2, 1) := by decide +kernel
theorem dX3_erasePoint_11 : decode cX3_erasePoint 11 = .ok (.invokevirtual 55, 3) := by decide +kernel
theorem dX3_erasePoint_14 : decode cX3_erasePoint 14 = .ok (.return_, 1) := by decide +kernel
set_option maxRecDepth 400000 in
theorem ggX3_refresh_X5_beginOf : GoodIn wsX3_refresh wsX5_beginOf := goodIn_r _ [3, 4, 5, 2, 6, 7] rfl (by decide +kernel)
set_option maxRecDepth 20000 in
theorem gX3_refresh_X5_beginOf_n62 : GoodIn wsX3_refresh (wsX5_beginOf) := ggX3_refresh_X5_beginOf
set_option maxRecDepth 400000 in
theorem ggX3_refresh_X3_refreshRollup : GoodIn wsX3_refresh wsX3_refreshRollup := goodIn_r _ [12, 13, 14, 15, 16, 17, 18, 11, 19, 20, 21, 22, 23, 24, 25, 26, 27, 28, 29, 30, 31, 32, 33, 34, 35, 36, 37, 38, 39, 40, 41, 42, 43, 44, 45, 46, 47, 48, 49, 50, 51, 52, 53, 54, 55, 56, 57, 58, 59, 60, 61, 62, 63, 64, 65, 66, 67, 68, 69, 70, 71, 72, 73, 74, 75, 76, 77, 78, 79, 80, 81, 82, 83, 84, 85, 86, 87, 88, 89, 90, 91, 92, 93, 94, 95, 96, 97, 98, 99, 100, 101, 102, 103, 104, 105, 106, 107, 108, 109, 110, 111, 112, 113, 114, 115, 116, 117, 118, 119, 120, 121] rfl (by decide +kernel)
set_option maxRecDepth 20000 in
theorem gX3_refresh_X3_refreshRollup : GoodIn wsX3_refresh (wsV RX3 66 RX3 yX3_refreshRollup wsX3_refreshRollup) := goodIn_app (goodIn_of _ (by decide +kernel)) ggX3_refresh_X3_refreshRollup
theorem dX3_refresh_0 : decode cX3_refresh 0 = .ok (.iconst 1, 1) := by decide +kernel
theorem dX3_refresh_1 : decode cX3_refresh 1 = .ok (.istore_n 2, 1) := by decide +kernel
theorem dX3_refresh_2 : decode cX3_refresh 2 = .ok (.iload_n 2, 1) := by decide +kernel
theorem dX3_refresh_3 : decode cX3_refresh 3 = .ok (.iconst 3, 1) := by decide +kernel
theorem dX3_refresh_4 : decode cX3_refresh 4 = .ok (.if_icmp .gt 19, 3) := by decide +kernel
theorem dX3_refresh_7 : decode cX3_refresh 7 = .ok (.aload_n 0, 1) := by decide +kernel
theorem dX3_refresh_8 : decode cX3_refresh 8 = .ok (.iload_n 2, 1) := by decide +kernel
theorem dX3_refresh_9 : decode cX3_refresh 9 = .ok (.iload_n 2, 1) := by decide +kernel
theorem dX3_refresh_10 : decode cX3_refresh 10 = .ok (.iload_n 1, 1) := by decide +kernel
theorem dX3_refresh_11 : decode cX3_refresh 11 = .ok (.invokestatic 62, 3) := by decide +kernel
theorem dX3_refresh_14 : decode cX3_refresh 14 = .ok (.invokevirtual 66, 3) := by decide +kernel
theorem dX3_refresh_17 : decode cX3_refresh 17 = .ok (.iinc 2 1, 3) := by decide +kernel
theorem dX3_refresh_20 : decode cX3_refresh 20 = .ok (.goto (-18), 3) := by decide +kernel
theorem dX3_refresh_23 : decode cX3_refresh 23 = .ok (.return_, 1) := by decide +kernel
set_option maxRecDepth 400000 in
theorem ggX3_refreshRollup_X3_rollupsOf : GoodIn wsX3_refreshRollup wsX3_rollupsOf := goodIn_r _ [8, 9, 10, 11, 95, 96, 97, 98, 99] rfl (by decide +kernel)
set_option maxRecDepth 20000 in
theorem gX3_refreshRollup_X3_rollupsOf : GoodIn wsX3_refreshRollup (wsV RX3 41 RX3 yX3_rollupsOf wsX3_rollupsOf) := goodIn_app (goodIn_of _ (by decide +kernel)) ggX3_refreshRollup_X3_rollupsOf
set_option maxRecDepth 400000 in
theorem ggX3_refreshRollup_X2_findOrMake : GoodIn wsX3_refreshRollup wsX2_findOrMake := goodIn_r _ [16, 17, 18, 19, 20, 21, 22, 23, 24, 25, 15, 26, 27, 28, 29, 30, 31, 32, 33, 34, 35, 36, 37, 38, 39, 40, 41, 42, 43, 100, 101, 102, 103, 104, 105, 106, 107, 92, 93, 94] rfl (by decide +kernel)
set_option maxRecDepth 20000 in
theorem gX3_refreshRollup_X2_findOrMake : GoodIn wsX3_refreshRollup (wsV RX3 69 RX2 yX2_findOrMake wsX2_findOrMake) := goodIn_app (goodIn_of _ (by decide +kernel)) ggX3_refreshRollup_X2_findOrMake
set_option maxRecDepth 400000 in
theorem ggX3_refreshRollup_X1_clear : GoodIn wsX3_refreshRollup wsX1_clear := goodIn_r _ [47, 48, 49, 50, 100, 101, 102, 103, 104, 105, 106, 107] rfl (by decide +kernel)
set_option maxRecDepth 20000 in
theorem gX3_refreshRollup_X1_clear : GoodIn wsX3_refreshRollup (wsV RX3 73 RX1 yX1_clear wsX1_clear) := goodIn_app (goodIn_of _ (by decide +kernel)) ggX3_refreshRollup_X1_clear
set_option maxRecDepth 400000 in
theorem ggX3_refreshRollup_X0_addTo : GoodIn wsX3_refreshRollup wsX0_addTo := goodIn_r _ [55, 56, 57, 58, 59, 60, 61, 54, 62, 63, 64, 65, 22, 66, 48, 67, 68, 36, 37, 38, 69, 70, 71, 72, 49, 73, 74, 75, 76, 77, 50, 78, 108, 109, 110, 100, 101, 102, 103, 104, 105, 106, 107] rfl (by decide +kernel)
set_option maxRecDepth 20000 in
theorem gX3_refreshRollup_X0_addTo : GoodIn wsX3_refreshRollup (wsV RX3 81 RX0 yX0_addTo wsX0_addTo) := goodIn_app (goodIn_of _ (by decide +kernel)) ggX3_refreshRollup_X0_addTo
set_option maxRecDepth 400000 in
theorem ggX3_refreshRollup_X2_addTo : GoodIn wsX3_refreshRollup wsX2_addTo := goodIn_r _ [82, 18, 17, 23, 24, 25, 15, 26, 27, 28, 29, 30, 19, 83, 84, 85, 22, 86, 48, 77, 78, 67, 68, 36, 37, 38, 69, 70, 71, 72, 49, 50, 73, 74, 75, 76, 92, 93, 94, 100, 101, 102, 103, 104, 105, 106, 107] rfl (by decide +kernel)
set_option maxRecDepth 20000 in
theorem gX3_refreshRollup_X2_addTo : GoodIn wsX3_refreshRollup (wsV RX3 85 RX2 yX2_addTo wsX2_addTo) := goodIn_app (goodIn_of _ (by decide +kernel)) ggX3_refreshRollup_X2_addTo
set_option maxRecDepth 400000 in
theorem ggX3_refreshRollup_X2_placeFrom : GoodIn wsX3_refreshRollup wsX2_placeFrom := goodIn_r _ [26, 17, 27, 28, 29, 15, 30, 18, 19, 100, 101, 102, 103, 104, 105, 106, 107, 92, 93, 94] rfl (by decide +kernel)
set_option maxRecDepth 20000 in
theorem gX3_refreshRollup_X2_placeFrom : GoodIn wsX3_refreshRollup (wsV RX3 89 RX2 yX2_placeFrom wsX2_placeFrom) := goodIn_app (goodIn_of _ (by decide +kernel)) ggX3_refreshRollup_X2_placeFrom
set_option maxRecDepth 400000 in
theorem ggX3_refreshRollup_X2_remove : GoodIn wsX3_refreshRollup wsX2_remove := goodIn_r _ [91, 18, 19, 92, 93, 94] rfl (by decide +kernel)
set_option maxRecDepth 20000 in
theorem gX3_refreshRollup_X2_remove : GoodIn wsX3_refreshRollup (wsV RX3 92 RX2 yX2_remove wsX2_remove) := goodIn_app (goodIn_of _ (by decide +kernel)) ggX3_refreshRollup_X2_remove
theorem dX3_refreshRollup_0 : decode cX3_refreshRollup 0 = .ok (.aload_n 0, 1) := by decide +kernel
theorem dX3_refreshRollup_1 : decode cX3_refreshRollup 1 = .ok (.iload_n 1, 1) := by decide +kernel
theorem dX3_refreshRollup_2 : decode cX3_refreshRollup 2 = .ok (.invokevirtual 41, 3) := by decide +kernel
theorem dX3_refreshRollup_5 : decode cX3_refreshRollup 5 = .ok (.astore_n 3, 1) := by decide +kernel
theorem dX3_refreshRollup_6 : decode cX3_refreshRollup 6 = .ok (.aload_n 3, 1) := by decide +kernel
theorem dX3_refreshRollup_7 : decode cX3_refreshRollup 7 = .ok (.iload_n 2, 1) := by decide +kernel
theorem dX3_refreshRollup_8 : decode cX3_refreshRollup 8 = .ok (.invokevirtual 69, 3) := by decide +kernel
theorem dX3_refreshRollup_11 : decode cX3_refreshRollup 11 = .ok (.astore 4, 2) := by decide +kernel
theorem dX3_refreshRollup_13 : decode cX3_refreshRollup 13 = .ok (.aload 4, 2) := by decide +kernel
theorem dX3_refreshRollup_15 : decode cX3_refreshRollup 15 = .ok (.ifnonnull 4, 3) := by decide +kernel
theorem dX3_refreshRollup_18 : decode cX3_refreshRollup 18 = .ok (.return_, 1) := by decide +kernel
theorem dX3_refreshRollup_19 : decode cX3_refreshRollup 19 = .ok (.aload 4, 2) := by decide +kernel
theorem dX3_refreshRollup_21 : decode cX3_refreshRollup 21 = .ok (.invokevirtual 73, 3) := by decide +kernel
theorem dX3_refreshRollup_24 : decode cX3_refreshRollup 24 = .ok (.iload_n 2, 1) := by decide +kernel
theorem dX3_refreshRollup_25 : decode cX3_refreshRollup 25 = .ok (.aload_n 3, 1) := by decide +kernel
theorem dX3_refreshRollup_26 : decode cX3_refreshRollup 26 = .ok (.getfield 78, 3) := by decide +kernel
theorem dX3_refreshRollup_29 : decode cX3_refreshRollup 29 = .ok (.iadd, 1) := by decide +kernel
theorem dX3_refreshRollup_30 : decode cX3_refreshRollup 30 = .ok (.istore 5, 2) := by decide +kernel
theorem dX3_refreshRollup_32 : decode cX3_refreshRollup 32 = .ok (.iload_n 1, 1) := by decide +kernel
theorem dX3_refreshRollup_33 : decode cX3_refreshRollup 33 = .ok (.iconst 1, 1) := by decide +kernel
theorem dX3_refreshRollup_34 : decode cX3_refreshRollup 34 = .ok (.if_icmp .ne 18, 3) := by decide +kernel
theorem dX3_refreshRollup_37 : decode cX3_refreshRollup 37 = .ok (.aload_n 0, 1) := by decide +kernel
theorem dX3_refreshRollup_38 : decode cX3_refreshRollup 38 = .ok (.getfield 12, 3) := by decide +kernel
theorem dX3_refreshRollup_41 : decode cX3_refreshRollup 41 = .ok (.aload 4, 2) := by decide +kernel
theorem dX3_refreshRollup_43 : decode cX3_refreshRollup 43 = .ok (.iload_n 2, 1) := by decide +kernel
theorem dX3_refreshRollup_44 : decode cX3_refreshRollup 44 = .ok (.iload 5, 2) := by decide +kernel
theorem dX3_refreshRollup_46 : decode cX3_refreshRollup 46 = .ok (.invokevirtual 81, 3) := by decide +kernel
theorem dX3_refreshRollup_49 : decode cX3_refreshRollup 49 = .ok (.goto 18, 3) := by decide +kernel
theorem dX3_refreshRollup_52 : decode cX3_refreshRollup 52 = .ok (.aload_n 0, 1) := by decide +kernel
theorem dX3_refreshRollup_53 : decode cX3_refreshRollup 53 = .ok (.iload_n 1, 1) := by decide +kernel
theorem dX3_refreshRollup_54 : decode cX3_refreshRollup 54 = .ok (.iconst 1, 1) := by decide +kernel
theorem dX3_refreshRollup_55 : decode cX3_refreshRollup 55 = .ok (.isub, 1) := by decide +kernel
theorem dX3_refreshRollup_56 : decode cX3_refreshRollup 56 = .ok (.invokevirtual 41, 3) := by decide +kernel
theorem dX3_refreshRollup_59 : decode cX3_refreshRollup 59 = .ok (.aload 4, 2) := by decide +kernel
theorem dX3_refreshRollup_61 : decode cX3_refreshRollup 61 = .ok (.iload_n 2, 1) := by decide +kernel
theorem dX3_refreshRollup_62 : decode cX3_refreshRollup 62 = .ok (.iload 5, 2) := by decide +kernel
theorem dX3_refreshRollup_64 : decode cX3_refreshRollup 64 = .ok (.invokevirtual 85, 3) := by decide +kernel
theorem dX3_refreshRollup_67 : decode cX3_refreshRollup 67 = .ok (.aload 4, 2) := by decide +kernel
theorem dX3_refreshRollup_69 : decode cX3_refreshRollup 69 = .ok (.getfield 86, 3) := by decide +kernel
theorem dX3_refreshRollup_72 : decode cX3_refreshRollup 72 = .ok (.ifCond .ne 13, 3) := by decide +kernel
theorem dX3_refreshRollup_75 : decode cX3_refreshRollup 75 = .ok (.aload_n 3, 1) := by decide +kernel
theorem dX3_refreshRollup_76 : decode cX3_refreshRollup 76 = .ok (.aload_n 3, 1) := by decide +kernel
theorem dX3_refreshRollup_77 : decode cX3_refreshRollup 77 = .ok (.iload_n 2, 1) := by decide +kernel
theorem dX3_refreshRollup_78 : decode cX3_refreshRollup 78 = .ok (.invokevirtual 89, 3) := by decide +kernel
theorem dX3_refreshRollup_81 : decode cX3_refreshRollup 81 = .ok (.iconst 1, 1) := by decide +kernel
theorem dX3_refreshRollup_82 : decode cX3_refreshRollup 82 = .ok (.invokevirtual 92, 3) := by decide +kernel
theorem dX3_refreshRollup_85 : decode cX3_refreshRollup 85 = .ok (.return_, 1) := by decide +kernel
set_option maxRecDepth 400000 in
theorem ggX3_addTo_X2_addTo : GoodIn wsX3_addTo wsX2_addTo := goodIn_r _ [14, 15, 16, 17, 18, 19, 13, 20, 21, 22, 23, 24, 25, 26, 27, 28, 29, 30, 31, 32, 33, 34, 35, 36, 37, 38, 39, 40, 41, 42, 43, 44, 45, 46, 47, 48, 60, 61, 62, 63, 64, 65, 66, 67, 68, 69, 70] rfl (by decide +kernel)
set_option maxRecDepth 20000 in
theorem gX3_addTo_X2_addTo : GoodIn wsX3_addTo (wsV RX3 85 RX2 yX2_addTo wsX2_addTo) := goodIn_app (goodIn_of _ (by decide +kernel)) ggX3_addTo_X2_addTo
theorem dX3_addTo_0 : decode cX3_addTo 0 = .ok (.aload_n 0, 1) := by decide +kernel
theorem dX3_addTo_1 : decode cX3_addTo 1 = .ok (.getfield 23, 3) := by decide +kernel
theorem dX3_addTo_4 : decode cX3_addTo 4 = .ok (.aload_n 1, 1) := by decide +kernel
theorem dX3_addTo_5 : decode cX3_addTo 5 = .ok (.aload_n 2, 1) := by decide +kernel
theorem dX3_addTo_6 : decode cX3_addTo 6 = .ok (.getfield 93, 3) := by decide +kernel
theorem dX3_addTo_9 : decode cX3_addTo 9 = .ok (.aload_n 2, 1) := by decide +kernel
theorem dX3_addTo_10 : decode cX3_addTo 10 = .ok (.getfield 98, 3) := by decide +kernel
theorem dX3_addTo_13 : decode cX3_addTo 13 = .ok (.invokevirtual 85, 3) := by decide +kernel
theorem dX3_addTo_16 : decode cX3_addTo 16 = .ok (.aload_n 0, 1) := by decide +kernel
theorem dX3_addTo_17 : decode cX3_addTo 17 = .ok (.getfield 27, 3) := by decide +kernel
theorem dX3_addTo_20 : decode cX3_addTo 20 = .ok (.aload_n 1, 1) := by decide +kernel
theorem dX3_addTo_21 : decode cX3_addTo 21 = .ok (.aload_n 2, 1) := by decide +kernel
theorem dX3_addTo_22 : decode cX3_addTo 22 = .ok (.getfield 98, 3) := by decide +kernel
theorem dX3_addTo_25 : decode cX3_addTo 25 = .ok (.aload_n 2, 1) := by decide +kernel
theorem dX3_addTo_26 : decode cX3_addTo 26 = .ok (.getfield 101, 3) := by decide +kernel
theorem dX3_addTo_29 : decode cX3_addTo 29 = .ok (.invokevirtual 85, 3) := by decide +kernel
theorem dX3_addTo_32 : decode cX3_addTo 32 = .ok (.aload_n 0, 1) := by decide +kernel
theorem dX3_addTo_33 : decode cX3_addTo 33 = .ok (.getfield 31, 3) := by decide +kernel
theorem dX3_addTo_36 : decode cX3_addTo 36 = .ok (.aload_n 1, 1) := by decide +kernel
theorem dX3_addTo_37 : decode cX3_addTo 37 = .ok (.aload_n 2, 1) := by decide +kernel
theorem dX3_addTo_38 : decode cX3_addTo 38 = .ok (.getfield 101, 3) := by decide +kernel
theorem dX3_addTo_41 : decode cX3_addTo 41 = .ok (.aload_n 2, 1) := by decide +kernel
theorem dX3_addTo_42 : decode cX3_addTo 42 = .ok (.getfield 104, 3) := by decide +kernel
theorem dX3_addTo_45 : decode cX3_addTo 45 = .ok (.invokevirtual 85, 3) := by decide +kernel
theorem dX3_addTo_48 : decode cX3_addTo 48 = .ok (.aload_n 0, 1) := by decide +kernel
theorem dX3_addTo_49 : decode cX3_addTo 49 = .ok (.getfield 27, 3) := by decide +kernel
theorem dX3_addTo_52 : decode cX3_addTo 52 = .ok (.aload_n 1, 1) := by decide +kernel
theorem dX3_addTo_53 : decode cX3_addTo 53 = .ok (.aload_n 2, 1) := by decide +kernel
theorem dX3_addTo_54 : decode cX3_addTo 54 = .ok (.getfield 104, 3) := by decide +kernel
theorem dX3_addTo_57 : decode cX3_addTo 57 = .ok (.aload_n 2, 1) := by decide +kernel
theorem dX3_addTo_58 : decode cX3_addTo 58 = .ok (.getfield 107, 3) := by decide +kernel
theorem dX3_addTo_61 : decode cX3_addTo 61 = .ok (.invokevirtual 85, 3) := by decide +kernel
theorem dX3_addTo_64 : decode cX3_addTo 64 = .ok (.aload_n 0, 1) := by decide +kernel
theorem dX3_addTo_65 : decode cX3_addTo 65 = .ok (.getfield 23, 3) := by decide +kernel
theorem dX3_addTo_68 : decode cX3_addTo 68 = .ok (.aload_n 1, 1) := by decide +kernel
theorem dX3_addTo_69 : decode cX3_addTo 69 = .ok (.aload_n 2, 1) := by decide +kernel
theorem dX3_addTo_70 : decode cX3_addTo 70 = .ok (.getfield 107, 3) := by decide +kernel
theorem dX3_addTo_73 : decode cX3_addTo 73 = .ok (.aload_n 2, 1) := by decide +kernel
theorem dX3_addTo_74 : decode cX3_addTo 74 = .ok (.getfield 110, 3) := by decide +kernel
theorem dX3_addTo_77 : decode cX3_addTo 77 = .ok (.invokevirtual 85, 3) := by decide +kernel
theorem dX3_addTo_80 : decode cX3_addTo 80 = .ok (.return_, 1) := by decide +kernel
theorem dX4_init_0 : decode cX4_init 0 = .ok (.aload_n 0, 1) := by decide +kernel
theorem dX4_init_1 : decode cX4_init 1 = .ok (.invokespecial 3, 3) := by decide +kernel
theorem dX4_init_4 : decode cX4_init 4 = .ok (.return_, 1) := by decide +kernel
set_option maxRecDepth 400000 in
theorem ggX4_cut_X4_cutHours : GoodIn wsX4_cut wsX4_cutHours := goodIn_r _ [10, 11, 4, 5, 12, 16, 17, 18, 19, 20, 21] rfl (by decide +kernel)
set_option maxRecDepth 20000 in
theorem gX4_cut_X4_cutHours : GoodIn wsX4_cut (wsV RX4 18 RX4 yX4_cutHours wsX4_cutHours) := goodIn_app (goodIn_of _ (by decide +kernel)) ggX4_cut_X4_cutHours
set_option maxRecDepth 400000 in
theorem ggX4_cut_X4_roundUp : GoodIn wsX4_cut wsX4_roundUp := goodIn_r _ [15] rfl (by decide +kernel)
set_option maxRecDepth 20000 in
theorem gX4_cut_X4_roundUp : GoodIn wsX4_cut (va_wsS RX4 22 yX4_roundUp wsX4_roundUp) := goodIn_app (goodIn_of _ (by decide +kernel)) ggX4_cut_X4_roundUp
theorem dX4_cut_0 : decode cX4_cut 0 = .ok (.aload_n 0, 1) := by decide +kernel
theorem dX4_cut_1 : decode cX4_cut 1 = .ok (.iload_n 1, 1) := by decide +kernel
theorem dX4_cut_2 : decode cX4_cut 2 = .ok (.putfield 9, 3) := by decide +kernel
theorem dX4_cut_5 : decode cX4_cut 5 = .ok (.aload_n 0, 1) := by decide +kernel
theorem dX4_cut_6 : decode cX4_cut 6 = .ok (.iload_n 2, 1) := by decide +kernel
theorem dX4_cut_7 : decode cX4_cut 7 = .ok (.putfield 15, 3) := by decide +kernel
theorem dX4_cut_10 : decode cX4_cut 10 = .ok (.aload_n 0, 1) := by decide +kernel
theorem dX4_cut_11 : decode cX4_cut 11 = .ok (.aload_n 0, 1) := by decide +kernel
theorem dX4_cut_12 : decode cX4_cut 12 = .ok (.getfield 15, 3) := by decide +kernel
theorem dX4_cut_15 : decode cX4_cut 15 = .ok (.aload_n 0, 1) := by decide +kernel
theorem dX4_cut_16 : decode cX4_cut 16 = .ok (.getfield 15, 3) := by decide +kernel
theorem dX4_cut_19 : decode cX4_cut 19 = .ok (.invokevirtual 18, 3) := by decide +kernel
theorem dX4_cut_22 : decode cX4_cut 22 = .ok (.aload_n 0, 1) := by decide +kernel
theorem dX4_cut_23 : decode cX4_cut 23 = .ok (.getfield 9, 3) := by decide +kernel
theorem dX4_cut_26 : decode cX4_cut 26 = .ok (.sipush 3600, 3) := by decide +kernel
theorem dX4_cut_29 : decode cX4_cut 29 = .ok (.invokestatic 22, 3) := by decide +kernel
theorem dX4_cut_32 : decode cX4_cut 32 = .ok (.lstore_n 3, 1) := by decide +kernel
theorem dX4_cut_33 : decode cX4_cut 33 = .ok (.aload_n 0, 1) := by decide +kernel
theorem dX4_cut_34 : decode cX4_cut 34 = .ok (.getfield 15, 3) := by decide +kernel
theorem dX4_cut_37 : decode cX4_cut 37 = .ok (.aload_n 0, 1) := by decide +kernel
theorem dX4_cut_38 : decode cX4_cut 38 = .ok (.getfield 15, 3) := by decide +kernel
theorem dX4_cut_41 : decode cX4_cut 41 = .ok (.sipush 3600, 3) := by decide +kernel
theorem dX4_cut_44 : decode cX4_cut 44 = .ok (.irem, 1) := by decide +kernel
theorem dX4_cut_45 : decode cX4_cut 45 = .ok (.isub, 1) := by decide +kernel
theorem dX4_cut_46 : decode cX4_cut 46 = .ok (.istore 5, 2) := by decide +kernel
theorem dX4_cut_48 : decode cX4_cut 48 = .ok (.lload_n 3, 1) := by decide +kernel
theorem dX4_cut_49 : decode cX4_cut 49 = .ok (.iload 5, 2) := by decide +kernel
theorem dX4_cut_51 : decode cX4_cut 51 = .ok (.i2l, 1) := by decide +kernel
theorem dX4_cut_52 : decode cX4_cut 52 = .ok (.lcmp, 1) := by decide +kernel
theorem dX4_cut_53 : decode cX4_cut 53 = .ok (.ifCond .lt 4, 3) := by decide +kernel
theorem dX4_cut_56 : decode cX4_cut 56 = .ok (.return_, 1) := by decide +kernel
theorem dX4_cut_57 : decode cX4_cut 57 = .ok (.aload_n 0, 1) := by decide +kernel
theorem dX4_cut_58 : decode cX4_cut 58 = .ok (.lload_n 3, 1) := by decide +kernel
theorem dX4_cut_59 : decode cX4_cut 59 = .ok (.l2i, 1) := by decide +kernel
theorem dX4_cut_60 : decode cX4_cut 60 = .ok (.iload 5, 2) := by decide +kernel
theorem dX4_cut_62 : decode cX4_cut 62 = .ok (.invokevirtual 18, 3) := by decide +kernel
theorem dX4_cut_65 : decode cX4_cut 65 = .ok (.aload_n 0, 1) := by decide +kernel
theorem dX4_cut_66 : decode cX4_cut 66 = .ok (.getfield 9, 3) := by decide +kernel
theorem dX4_cut_69 : decode cX4_cut 69 = .ok (.ldc 26, 2) := by decide +kernel
theorem dX4_cut_71 : decode cX4_cut 71 = .ok (.invokestatic 22, 3) := by decide +kernel
theorem dX4_cut_74 : decode cX4_cut 74 = .ok (.lstore 6, 2) := by decide +kernel
theorem dX4_cut_76 : decode cX4_cut 76 = .ok (.aload_n 0, 1) := by decide +kernel
theorem dX4_cut_77 : decode cX4_cut 77 = .ok (.getfield 15, 3) := by decide +kernel
theorem dX4_cut_80 : decode cX4_cut 80 = .ok (.aload_n 0, 1) := by decide +kernel
theorem dX4_cut_81 : decode cX4_cut 81 = .ok (.getfield 15, 3) := by decide +kernel
theorem dX4_cut_84 : decode cX4_cut 84 = .ok (.ldc 26, 2) := by decide +kernel
theorem dX4_cut_86 : decode cX4_cut 86 = .ok (.irem, 1) := by decide +kernel
theorem dX4_cut_87 : decode cX4_cut 87 = .ok (.isub, 1) := by decide +kernel
theorem dX4_cut_88 : decode cX4_cut 88 = .ok (.istore 8, 2) := by decide +kernel
theorem dX4_cut_90 : decode cX4_cut 90 = .ok (.lload 6, 2) := by decide +kernel
theorem dX4_cut_92 : decode cX4_cut 92 = .ok (.iload 8, 2) := by decide +kernel
theorem dX4_cut_94 : decode cX4_cut 94 = .ok (.i2l, 1) := by decide +kernel
theorem dX4_cut_95 : decode cX4_cut 95 = .ok (.lcmp, 1) := by decide +kernel
theorem dX4_cut_96 : decode cX4_cut 96 = .ok (.ifCond .ge 16, 3) := by decide +kernel
theorem dX4_cut_99 : decode cX4_cut 99 = .ok (.aload_n 0, 1) := by decide +kernel
theorem dX4_cut_100 : decode cX4_cut 100 = .ok (.lload 6, 2) := by decide +kernel
theorem dX4_cut_102 : decode cX4_cut 102 = .ok (.l2i, 1) := by decide +kernel
theorem dX4_cut_103 : decode cX4_cut 103 = .ok (.putfield 27, 3) := by decide +kernel
theorem dX4_cut_106 : decode cX4_cut 106 = .ok (.aload_n 0, 1) := by decide +kernel
theorem dX4_cut_107 : decode cX4_cut 107 = .ok (.iload 8, 2) := by decide +kernel
theorem dX4_cut_109 : decode cX4_cut 109 = .ok (.putfield 30, 3) := by decide +kernel
theorem dX4_cut_112 : decode cX4_cut 112 = .ok (.return_, 1) := by decide +kernel
theorem dX4_cutHours_0 : decode cX4_cutHours 0 = .ok (.aload_n 0, 1) := by decide +kernel
theorem dX4_cutHours_1 : decode cX4_cutHours 1 = .ok (.iload_n 1, 1) := by decide +kernel
theorem dX4_cutHours_2 : decode cX4_cutHours 2 = .ok (.putfield 33, 3) := by decide +kernel
theorem dX4_cutHours_5 : decode cX4_cutHours 5 = .ok (.aload_n 0, 1) := by decide +kernel
theorem dX4_cutHours_6 : decode cX4_cutHours 6 = .ok (.iload_n 2, 1) := by decide +kernel
theorem dX4_cutHours_7 : decode cX4_cutHours 7 = .ok (.putfield 27, 3) := by decide +kernel
theorem dX4_cutHours_10 : decode cX4_cutHours 10 = .ok (.aload_n 0, 1) := by decide +kernel
theorem dX4_cutHours_11 : decode cX4_cutHours 11 = .ok (.iload_n 2, 1) := by decide +kernel
theorem dX4_cutHours_12 : decode cX4_cutHours 12 = .ok (.putfield 30, 3) := by decide +kernel
theorem dX4_cutHours_15 : decode cX4_cutHours 15 = .ok (.aload_n 0, 1) := by decide +kernel
theorem dX4_cutHours_16 : decode cX4_cutHours 16 = .ok (.iload_n 2, 1) := by decide +kernel
theorem dX4_cutHours_17 : decode cX4_cutHours 17 = .ok (.putfield 36, 3) := by decide +kernel
theorem dX4_cutHours_20 : decode cX4_cutHours 20 = .ok (.return_, 1) := by decide +kernel
theorem dX4_roundUp_0 : decode cX4_roundUp 0 = .ok (.iload_n 0, 1) := by decide +kernel
theorem dX4_roundUp_1 : decode cX4_roundUp 1 = .ok (.i2l, 1) := by decide +kernel
theorem dX4_roundUp_2 : decode cX4_roundUp 2 = .ok (.iload_n 1, 1) := by decide +kernel
theorem dX4_roundUp_3 : decode cX4_roundUp 3 = .ok (.i2l, 1) := by decide +kernel
theorem dX4_roundUp_4 : decode cX4_roundUp 4 = .ok (.ladd, 1) := by decide +kernel
theorem dX4_roundUp_5 : decode cX4_roundUp 5 = .ok (.lconst 1, 1) := by decide +kernel
theorem dX4_roundUp_6 : decode cX4_roundUp 6 = .ok (.lsub, 1) := by decide +kernel
theorem dX4_roundUp_7 : decode cX4_roundUp 7 = .ok (.lstore_n 2, 1) := by decide +kernel
theorem dX4_roundUp_8 : decode cX4_roundUp 8 = .ok (.iload_n 1, 1) := by decide +kernel
theorem dX4_roundUp_9 : decode cX4_roundUp 9 = .ok (.iconst 1, 1) := by decide +kernel
theorem dX4_roundUp_10 : decode cX4_roundUp 10 = .ok (.if_icmp .ge 8, 3) := by decide +kernel
theorem dX4_roundUp_13 : decode cX4_roundUp 13 = .ok (.iload_n 0, 1) := by decide +kernel
theorem dX4_roundUp_14 : decode cX4_roundUp 14 = .ok (.i2l, 1) := by decide +kernel
theorem dX4_roundUp_15 : decode cX4_roundUp 15 = .ok (.goto 9, 3) := by decide +kernel
theorem dX4_roundUp_18 : decode cX4_roundUp 18 = .ok (.lload_n 2, 1) := by decide +kernel
theorem dX4_roundUp_19 : decode cX4_roundUp 19 = .ok (.lload_n 2, 1) := by decide +kernel
theorem dX4_roundUp_20 : decode cX4_roundUp 20 = .ok (.iload_n 1, 1) := by decide +kernel
theorem dX4_roundUp_21 : decode cX4_roundUp 21 = .ok (.i2l, 1) := by decide +kernel
theorem dX4_roundUp_22 : decode cX4_roundUp 22 = .ok (.lrem, 1) := by decide +kernel
theorem dX4_roundUp_23 : decode cX4_roundUp 23 = .ok (.lsub, 1) := by decide +kernel
theorem dX4_roundUp_24 : decode cX4_roundUp 24 = .ok (.lreturn, 1) := by decide +kernel
theorem dX4_countParts_0 : decode cX4_countParts 0 = .ok (.aload_n 0, 1) := by decide +kernel
theorem dX4_countParts_1 : decode cX4_countParts 1 = .ok (.getfield 33, 3) := by decide +kernel
theorem dX4_countParts_4 : decode cX4_countParts 4 = .ok (.aload_n 0, 1) := by decide +kernel
theorem dX4_countParts_5 : decode cX4_countParts 5 = .ok (.getfield 9, 3) := by decide +kernel
theorem dX4_countParts_8 : decode cX4_countParts 8 = .ok (.isub, 1) := by decide +kernel
theorem dX4_countParts_9 : decode cX4_countParts 9 = .ok (.bipush 60, 2) := by decide +kernel
theorem dX4_countParts_11 : decode cX4_countParts 11 = .ok (.idiv, 1) := by decide +kernel
theorem dX4_countParts_12 : decode cX4_countParts 12 = .ok (.aload_n 0, 1) := by decide +kernel
theorem dX4_countParts_13 : decode cX4_countParts 13 = .ok (.getfield 15, 3) := by decide +kernel
theorem dX4_countParts_16 : decode cX4_countParts 16 = .ok (.aload_n 0, 1) := by decide +kernel
theorem dX4_countParts_17 : decode cX4_countParts 17 = .ok (.getfield 36, 3) := by decide +kernel
theorem dX4_countParts_20 : decode cX4_countParts 20 = .ok (.isub, 1) := by decide +kernel
theorem dX4_countParts_21 : decode cX4_countParts 21 = .ok (.bipush 60, 2) := by decide +kernel
theorem dX4_countParts_23 : decode cX4_countParts 23 = .ok (.idiv, 1) := by decide +kernel
theorem dX4_countParts_24 : decode cX4_countParts 24 = .ok (.iadd, 1) := by decide +kernel
theorem dX4_countParts_25 : decode cX4_countParts 25 = .ok (.istore_n 1, 1) := by decide +kernel
theorem dX4_countParts_26 : decode cX4_countParts 26 = .ok (.aload_n 0, 1) := by decide +kernel
theorem dX4_countParts_27 : decode cX4_countParts 27 = .ok (.getfield 27, 3) := by decide +kernel
theorem dX4_countParts_30 : decode cX4_countParts 30 = .ok (.aload_n 0, 1) := by decide +kernel
theorem dX4_countParts_31 : decode cX4_countParts 31 = .ok (.getfield 33, 3) := by decide +kernel
theorem dX4_countParts_34 : decode cX4_countParts 34 = .ok (.isub, 1) := by decide +kernel
theorem dX4_countParts_35 : decode cX4_countParts 35 = .ok (.sipush 3600, 3) := by decide +kernel
theorem dX4_countParts_38 : decode cX4_countParts 38 = .ok (.idiv, 1) := by decide +kernel
theorem dX4_countParts_39 : decode cX4_countParts 39 = .ok (.aload_n 0, 1) := by decide +kernel
theorem dX4_countParts_40 : decode cX4_countParts 40 = .ok (.getfield 36, 3) := by decide +kernel
theorem dX4_countParts_43 : decode cX4_countParts 43 = .ok (.aload_n 0, 1) := by decide +kernel
theorem dX4_countParts_44 : decode cX4_countParts 44 = .ok (.getfield 30, 3) := by decide +kernel
theorem dX4_countParts_47 : decode cX4_countParts 47 = .ok (.isub, 1) := by decide +kernel
theorem dX4_countParts_48 : decode cX4_countParts 48 = .ok (.sipush 3600, 3) := by decide +kernel
theorem dX4_countParts_51 : decode cX4_countParts 51 = .ok (.idiv, 1) := by decide +kernel
theorem dX4_countParts_52 : decode cX4_countParts 52 = .ok (.iadd, 1) := by decide +kernel
theorem dX4_countParts_53 : decode cX4_countParts 53 = .ok (.istore_n 2, 1) := by decide +kernel
theorem dX4_countParts_54 : decode cX4_countParts 54 = .ok (.iload_n 1, 1) := by decide +kernel
theorem dX4_countParts_55 : decode cX4_countParts 55 = .ok (.iload_n 2, 1) := by decide +kernel
theorem dX4_countParts_56 : decode cX4_countParts 56 = .ok (.iadd, 1) := by decide +kernel
theorem dX4_countParts_57 : decode cX4_countParts 57 = .ok (.aload_n 0, 1) := by decide +kernel
theorem dX4_countParts_58 : decode cX4_countParts 58 = .ok (.getfield 30, 3) := by decide +kernel
theorem dX4_countParts_61 : decode cX4_countParts 61 = .ok (.aload_n 0, 1) := by decide +kernel
theorem dX4_countParts_62 : decode cX4_countParts 62 = .ok (.getfield 27, 3) := by decide +kernel
theorem dX4_countParts_65 : decode cX4_countParts 65 = .ok (.isub, 1) := by decide +kernel
theorem dX4_countParts_66 : decode cX4_countParts 66 = .ok (.ldc 26, 2) := by decide +kernel
theorem dX4_countParts_68 : decode cX4_countParts 68 = .ok (.idiv, 1) := by decide +kernel
theorem dX4_countParts_69 : decode cX4_countParts 69 = .ok (.iadd, 1) := by decide +kernel
theorem dX4_countParts_70 : decode cX4_countParts 70 = .ok (.ireturn, 1) := by decide +kernel
set_option maxRecDepth 400000 in
theorem ggX4_hasExpiredPart_X4_isFirstExpired : GoodIn wsX4_hasExpiredPart wsX4_isFirstExpired := goodIn_r _ [11] rfl (by decide +kernel)
set_option maxRecDepth 20000 in
theorem gX4_hasExpiredPart_X4_isFirstExpired : GoodIn wsX4_hasExpiredPart (va_wsS RX4 39 yX4_isFirstExpired wsX4_isFirstExpired) := goodIn_app (goodIn_of _ (by decide +kernel)) ggX4_hasExpiredPart_X4_isFirstExpired
theorem dX4_hasExpiredPart_0 : decode cX4_hasExpiredPart 0 = .ok (.aload_n 0, 1) := by decide +kernel
theorem dX4_hasExpiredPart_1 : decode cX4_hasExpiredPart 1 = .ok (.getfield 9, 3) := by decide +kernel
theorem dX4_hasExpiredPart_4 : decode cX4_hasExpiredPart 4 = .ok (.aload_n 0, 1) := by decide +kernel
theorem dX4_hasExpiredPart_5 : decode cX4_hasExpiredPart 5 = .ok (.getfield 33, 3) := by decide +kernel
theorem dX4_hasExpiredPart_8 : decode cX4_hasExpiredPart 8 = .ok (.bipush 60, 2) := by decide +kernel
theorem dX4_hasExpiredPart_10 : decode cX4_hasExpiredPart 10 = .ok (.aload_n 1, 1) := by decide +kernel
theorem dX4_hasExpiredPart_11 : decode cX4_hasExpiredPart 11 = .ok (.iconst 1, 1) := by decide +kernel
theorem dX4_hasExpiredPart_12 : decode cX4_hasExpiredPart 12 = .ok (.iaload, 1) := by decide +kernel
theorem dX4_hasExpiredPart_13 : decode cX4_hasExpiredPart 13 = .ok (.invokestatic 39, 3) := by decide +kernel
theorem dX4_hasExpiredPart_16 : decode cX4_hasExpiredPart 16 = .ok (.ifCond .ne 81, 3) := by decide +kernel
theorem dX4_hasExpiredPart_19 : decode cX4_hasExpiredPart 19 = .ok (.aload_n 0, 1) := by decide +kernel
theorem dX4_hasExpiredPart_20 : decode cX4_hasExpiredPart 20 = .ok (.getfield 33, 3) := by decide +kernel
theorem dX4_hasExpiredPart_23 : decode cX4_hasExpiredPart 23 = .ok (.aload_n 0, 1) := by decide +kernel
theorem dX4_hasExpiredPart_24 : decode cX4_hasExpiredPart 24 = .ok (.getfield 27, 3) := by decide +kernel
theorem dX4_hasExpiredPart_27 : decode cX4_hasExpiredPart 27 = .ok (.sipush 3600, 3) := by decide +kernel
theorem dX4_hasExpiredPart_30 : decode cX4_hasExpiredPart 30 = .ok (.aload_n 1, 1) := by decide +kernel
theorem dX4_hasExpiredPart_31 : decode cX4_hasExpiredPart 31 = .ok (.iconst 2, 1) := by decide +kernel
theorem dX4_hasExpiredPart_32 : decode cX4_hasExpiredPart 32 = .ok (.iaload, 1) := by decide +kernel
theorem dX4_hasExpiredPart_33 : decode cX4_hasExpiredPart 33 = .ok (.invokestatic 39, 3) := by decide +kernel
theorem dX4_hasExpiredPart_36 : decode cX4_hasExpiredPart 36 = .ok (.ifCond .ne 61, 3) := by decide +kernel
theorem dX4_hasExpiredPart_39 : decode cX4_hasExpiredPart 39 = .ok (.aload_n 0, 1) := by decide +kernel
theorem dX4_hasExpiredPart_40 : decode cX4_hasExpiredPart 40 = .ok (.getfield 27, 3) := by decide +kernel
theorem dX4_hasExpiredPart_43 : decode cX4_hasExpiredPart 43 = .ok (.aload_n 0, 1) := by decide +kernel
theorem dX4_hasExpiredPart_44 : decode cX4_hasExpiredPart 44 = .ok (.getfield 30, 3) := by decide +kernel
theorem dX4_hasExpiredPart_47 : decode cX4_hasExpiredPart 47 = .ok (.ldc 26, 2) := by decide +kernel
theorem dX4_hasExpiredPart_49 : decode cX4_hasExpiredPart 49 = .ok (.aload_n 1, 1) := by decide +kernel
theorem dX4_hasExpiredPart_50 : decode cX4_hasExpiredPart 50 = .ok (.iconst 3, 1) := by decide +kernel
theorem dX4_hasExpiredPart_51 : decode cX4_hasExpiredPart 51 = .ok (.iaload, 1) := by decide +kernel
theorem dX4_hasExpiredPart_52 : decode cX4_hasExpiredPart 52 = .ok (.invokestatic 39, 3) := by decide +kernel
theorem dX4_hasExpiredPart_55 : decode cX4_hasExpiredPart 55 = .ok (.ifCond .ne 42, 3) := by decide +kernel
theorem dX4_hasExpiredPart_58 : decode cX4_hasExpiredPart 58 = .ok (.aload_n 0, 1) := by decide +kernel
theorem dX4_hasExpiredPart_59 : decode cX4_hasExpiredPart 59 = .ok (.getfield 30, 3) := by decide +kernel
theorem dX4_hasExpiredPart_62 : decode cX4_hasExpiredPart 62 = .ok (.aload_n 0, 1) := by decide +kernel
theorem dX4_hasExpiredPart_63 : decode cX4_hasExpiredPart 63 = .ok (.getfield 36, 3) := by decide +kernel
theorem dX4_hasExpiredPart_66 : decode cX4_hasExpiredPart 66 = .ok (.sipush 3600, 3) := by decide +kernel
theorem dX4_hasExpiredPart_69 : decode cX4_hasExpiredPart 69 = .ok (.aload_n 1, 1) := by decide +kernel
theorem dX4_hasExpiredPart_70 : decode cX4_hasExpiredPart 70 = .ok (.iconst 2, 1) := by decide +kernel
theorem dX4_hasExpiredPart_71 : decode cX4_hasExpiredPart 71 = .ok (.iaload, 1) := by decide +kernel
theorem dX4_hasExpiredPart_72 : decode cX4_hasExpiredPart 72 = .ok (.invokestatic 39, 3) := by decide +kernel
theorem dX4_hasExpiredPart_75 : decode cX4_hasExpiredPart 75 = .ok (.ifCond .ne 22, 3) := by decide +kernel
theorem dX4_hasExpiredPart_78 : decode cX4_hasExpiredPart 78 = .ok (.aload_n 0, 1) := by decide +kernel
theorem dX4_hasExpiredPart_79 : decode cX4_hasExpiredPart 79 = .ok (.getfield 36, 3) := by decide +kernel
theorem dX4_hasExpiredPart_82 : decode cX4_hasExpiredPart 82 = .ok (.aload_n 0, 1) := by decide +kernel
theorem dX4_hasExpiredPart_83 : decode cX4_hasExpiredPart 83 = .ok (.getfield 15, 3) := by decide +kernel
theorem dX4_hasExpiredPart_86 : decode cX4_hasExpiredPart 86 = .ok (.bipush 60, 2) := by decide +kernel
theorem dX4_hasExpiredPart_88 : decode cX4_hasExpiredPart 88 = .ok (.aload_n 1, 1) := by decide +kernel
theorem dX4_hasExpiredPart_89 : decode cX4_hasExpiredPart 89 = .ok (.iconst 1, 1) := by decide +kernel
theorem dX4_hasExpiredPart_90 : decode cX4_hasExpiredPart 90 = .ok (.iaload, 1) := by decide +kernel
theorem dX4_hasExpiredPart_91 : decode cX4_hasExpiredPart 91 = .ok (.invokestatic 39, 3) := by decide +kernel
theorem dX4_hasExpiredPart_94 : decode cX4_hasExpiredPart 94 = .ok (.ifCond .eq 7, 3) := by decide +kernel
theorem dX4_hasExpiredPart_97 : decode cX4_hasExpiredPart 97 = .ok (.iconst 1, 1) := by decide +kernel
theorem dX4_hasExpiredPart_98 : decode cX4_hasExpiredPart 98 = .ok (.goto 4, 3) := by decide +kernel
theorem dX4_hasExpiredPart_101 : decode cX4_hasExpiredPart 101 = .ok (.iconst 0, 1) := by decide +kernel
theorem dX4_hasExpiredPart_102 : decode cX4_hasExpiredPart 102 = .ok (.ireturn, 1) := by decide +kernel
theorem dX4_isFirstExpired_0 : decode cX4_isFirstExpired 0 = .ok (.iload_n 0, 1) := by decide +kernel
theorem dX4_isFirstExpired_1 : decode cX4_isFirstExpired 1 = .ok (.iload_n 1, 1) := by decide +kernel
theorem dX4_isFirstExpired_2 : decode cX4_isFirstExpired 2 = .ok (.if_icmp .ge 14, 3) := by decide +kernel
theorem dX4_isFirstExpired_5 : decode cX4_isFirstExpired 5 = .ok (.iload_n 0, 1) := by decide +kernel
theorem dX4_isFirstExpired_6 : decode cX4_isFirstExpired 6 = .ok (.iload_n 2, 1) := by decide +kernel
theorem dX4_isFirstExpired_7 : decode cX4_isFirstExpired 7 = .ok (.iadd, 1) := by decide +kernel
theorem dX4_isFirstExpired_8 : decode cX4_isFirstExpired 8 = .ok (.iload_n 3, 1) := by decide +kernel
theorem dX4_isFirstExpired_9 : decode cX4_isFirstExpired 9 = .ok (.if_icmp .gt 7, 3) := by decide +kernel
theorem dX4_isFirstExpired_12 : decode cX4_isFirstExpired 12 = .ok (.iconst 1, 1) := by decide +kernel
theorem dX4_isFirstExpired_13 : decode cX4_isFirstExpired 13 = .ok (.goto 4, 3) := by decide +kernel
theorem dX4_isFirstExpired_16 : decode cX4_isFirstExpired 16 = .ok (.iconst 0, 1) := by decide +kernel
theorem dX4_isFirstExpired_17 : decode cX4_isFirstExpired 17 = .ok (.ireturn, 1) := by decide +kernel
set_option maxRecDepth 400000 in
theorem ggX5_init_X4_init : GoodIn wsX5_init wsX4_init := goodIn_r _ [21, 22, 2, 3] rfl (by decide +kernel)
set_option maxRecDepth 20000 in
theorem gX5_init_X4_init_n27 : GoodIn wsX5_init (wsX4_init) := ggX5_init_X4_init
set_option maxRecDepth 400000 in
theorem ggX5_init_X1_init : GoodIn wsX5_init wsX1_init := goodIn_r _ [24, 25, 2, 3] rfl (by decide +kernel)
set_option maxRecDepth 20000 in
theorem gX5_init_X1_init_n34 : GoodIn wsX5_init (wsX1_init) := ggX5_init_X1_init
theorem dX5_init_0 : decode cX5_init 0 = .ok (.aload_n 0, 1) := by decide +kernel
theorem dX5_init_1 : decode cX5_init 1 = .ok (.invokespecial 1, 3) := by decide +kernel
theorem dX5_init_4 : decode cX5_init 4 = .ok (.aload_n 0, 1) := by decide +kernel
theorem dX5_init_5 : decode cX5_init 5 = .ok (.iconst 4, 1) := by decide +kernel
theorem dX5_init_6 : decode cX5_init 6 = .ok (.anewarray 9, 3) := by decide +kernel
theorem dX5_init_9 : decode cX5_init 9 = .ok (.putfield 11, 3) := by decide +kernel
theorem dX5_init_12 : decode cX5_init 12 = .ok (.aload_n 0, 1) := by decide +kernel
theorem dX5_init_13 : decode cX5_init 13 = .ok (.iconst 4, 1) := by decide +kernel
theorem dX5_init_14 : decode cX5_init 14 = .ok (.newarray .int, 2) := by decide +kernel
theorem dX5_init_16 : decode cX5_init 16 = .ok (.dup, 1) := by decide +kernel
theorem dX5_init_17 : decode cX5_init 17 = .ok (.iconst 0, 1) := by decide +kernel
theorem dX5_init_18 : decode cX5_init 18 = .ok (.sipush 7200, 3) := by decide +kernel
theorem dX5_init_21 : decode cX5_init 21 = .ok (.iastore, 1) := by decide +kernel
theorem dX5_init_22 : decode cX5_init 22 = .ok (.dup, 1) := by decide +kernel
theorem dX5_init_23 : decode cX5_init 23 = .ok (.iconst 1, 1) := by decide +kernel
theorem dX5_init_24 : decode cX5_init 24 = .ok (.ldc 15, 2) := by decide +kernel
theorem dX5_init_26 : decode cX5_init 26 = .ok (.iastore, 1) := by decide +kernel
theorem dX5_init_27 : decode cX5_init 27 = .ok (.dup, 1) := by decide +kernel
theorem dX5_init_28 : decode cX5_init 28 = .ok (.iconst 2, 1) := by decide +kernel
theorem dX5_init_29 : decode cX5_init 29 = .ok (.ldc 16, 2) := by decide +kernel
theorem dX5_init_31 : decode cX5_init 31 = .ok (.iastore, 1) := by decide +kernel
theorem dX5_init_32 : decode cX5_init 32 = .ok (.dup, 1) := by decide +kernel
theorem dX5_init_33 : decode cX5_init 33 = .ok (.iconst 3, 1) := by decide +kernel
theorem dX5_init_34 : decode cX5_init 34 = .ok (.ldc 17, 2) := by decide +kernel
theorem dX5_init_36 : decode cX5_init 36 = .ok (.iastore, 1) := by decide +kernel
theorem dX5_init_37 : decode cX5_init 37 = .ok (.putfield 18, 3) := by decide +kernel
theorem dX5_init_40 : decode cX5_init 40 = .ok (.aload_n 0, 1) := by decide +kernel
theorem dX5_init_41 : decode cX5_init 41 = .ok (.iconst 4, 1) := by decide +kernel
theorem dX5_init_42 : decode cX5_init 42 = .ok (.newarray .int, 2) := by decide +kernel
theorem dX5_init_44 : decode cX5_init 44 = .ok (.putfield 22, 3) := by decide +kernel
theorem dX5_init_47 : decode cX5_init 47 = .ok (.aload_n 0, 1) := by decide +kernel
theorem dX5_init_48 : decode cX5_init 48 = .ok (.new 25, 3) := by decide +kernel
theorem dX5_init_51 : decode cX5_init 51 = .ok (.dup, 1) := by decide +kernel
theorem dX5_init_52 : decode cX5_init 52 = .ok (.invokespecial 27, 3) := by decide +kernel
theorem dX5_init_55 : decode cX5_init 55 = .ok (.putfield 28, 3) := by decide +kernel
theorem dX5_init_58 : decode cX5_init 58 = .ok (.aload_n 0, 1) := by decide +kernel
theorem dX5_init_59 : decode cX5_init 59 = .ok (.new 32, 3) := by decide +kernel
theorem dX5_init_62 : decode cX5_init 62 = .ok (.dup, 1) := by decide +kernel
theorem dX5_init_63 : decode cX5_init 63 = .ok (.invokespecial 34, 3) := by decide +kernel
theorem dX5_init_66 : decode cX5_init 66 = .ok (.putfield 35, 3) := by decide +kernel
theorem dX5_init_69 : decode cX5_init 69 = .ok (.return_, 1) := by decide +kernel
set_option maxRecDepth 400000 in
theorem ggX5_addSeries_X5_needRange : GoodIn wsX5_addSeries wsX5_needRange := goodIn_ca (goodIn_r _ [11, 12, 13] rfl (by decide +kernel)) (goodIn_sub (fun _ h => List.mem_cons_of_mem _ (List.mem_append_right _ h)) (by decide +kernel))
set_option maxRecDepth 20000 in
theorem gX5_addSeries_X5_needRange : GoodIn wsX5_addSeries (va_wsS RX5 39 yX5_needRange wsX5_needRange) := goodIn_app (goodIn_of _ (by decide +kernel)) ggX5_addSeries_X5_needRange
set_option maxRecDepth 400000 in
theorem ggX5_addSeries_X3_init : GoodIn wsX5_addSeries wsX3_init := goodIn_r _ [16, 17, 18, 19, 20, 21, 22, 23, 24, 25, 26, 27, 28, 29, 30, 31, 32, 33, 34, 35, 36, 37, 38, 39, 40, 41, 42, 43, 44, 57, 58, 59, 52, 53, 54, 55, 56, 60, 61, 62] rfl (by decide +kernel)
set_option maxRecDepth 20000 in
theorem gX5_addSeries_X3_init : GoodIn wsX5_addSeries (wsX3_init) := ggX5_addSeries_X3_init
theorem dX5_addSeries_0 : decode cX5_addSeries 0 = .ok (.iload_n 1, 1) := by decide +kernel
theorem dX5_addSeries_1 : decode cX5_addSeries 1 = .ok (.iconst 0, 1) := by decide +kernel
theorem dX5_addSeries_2 : decode cX5_addSeries 2 = .ok (.iconst 1, 1) := by decide +kernel
theorem dX5_addSeries_3 : decode cX5_addSeries 3 = .ok (.invokestatic 39, 3) := by decide +kernel
theorem dX5_addSeries_6 : decode cX5_addSeries 6 = .ok (.aload_n 0, 1) := by decide +kernel
theorem dX5_addSeries_7 : decode cX5_addSeries 7 = .ok (.getfield 43, 3) := by decide +kernel
theorem dX5_addSeries_10 : decode cX5_addSeries 10 = .ok (.iconst 4, 1) := by decide +kernel
theorem dX5_addSeries_11 : decode cX5_addSeries 11 = .ok (.if_icmp .lt 13, 3) := by decide +kernel
theorem dX5_addSeries_14 : decode cX5_addSeries 14 = .ok (.new 47, 3) := by decide +kernel
theorem dX5_addSeries_17 : decode cX5_addSeries 17 = .ok (.dup, 1) := by decide +kernel
theorem dX5_addSeries_18 : decode cX5_addSeries 18 = .ok (.ldc 49, 2) := by decide +kernel
theorem dX5_addSeries_20 : decode cX5_addSeries 20 = .ok (.invokespecial 51, 3) := by decide +kernel
theorem dX5_addSeries_23 : decode cX5_addSeries 23 = .ok (.athrow, 1) := by decide +kernel
theorem dX5_addSeries_24 : decode cX5_addSeries 24 = .ok (.aload_n 0, 1) := by decide +kernel
theorem dX5_addSeries_25 : decode cX5_addSeries 25 = .ok (.getfield 11, 3) := by decide +kernel
theorem dX5_addSeries_28 : decode cX5_addSeries 28 = .ok (.aload_n 0, 1) := by decide +kernel
theorem dX5_addSeries_29 : decode cX5_addSeries 29 = .ok (.getfield 43, 3) := by decide +kernel
theorem dX5_addSeries_32 : decode cX5_addSeries 32 = .ok (.new 9, 3) := by decide +kernel
theorem dX5_addSeries_35 : decode cX5_addSeries 35 = .ok (.dup, 1) := by decide +kernel
theorem dX5_addSeries_36 : decode cX5_addSeries 36 = .ok (.iload_n 1, 1) := by decide +kernel
theorem dX5_addSeries_37 : decode cX5_addSeries 37 = .ok (.invokespecial 54, 3) := by decide +kernel
theorem dX5_addSeries_40 : decode cX5_addSeries 40 = .ok (.aastore, 1) := by decide +kernel
theorem dX5_addSeries_41 : decode cX5_addSeries 41 = .ok (.aload_n 0, 1) := by decide +kernel
theorem dX5_addSeries_42 : decode cX5_addSeries 42 = .ok (.dup, 1) := by decide +kernel
theorem dX5_addSeries_43 : decode cX5_addSeries 43 = .ok (.getfield 43, 3) := by decide +kernel
theorem dX5_addSeries_46 : decode cX5_addSeries 46 = .ok (.iconst 1, 1) := by decide +kernel
theorem dX5_addSeries_47 : decode cX5_addSeries 47 = .ok (.iadd, 1) := by decide +kernel
theorem dX5_addSeries_48 : decode cX5_addSeries 48 = .ok (.putfield 43, 3) := by decide +kernel
theorem dX5_addSeries_51 : decode cX5_addSeries 51 = .ok (.aload_n 0, 1) := by decide +kernel
theorem dX5_addSeries_52 : decode cX5_addSeries 52 = .ok (.getfield 43, 3) := by decide +kernel
theorem dX5_addSeries_55 : decode cX5_addSeries 55 = .ok (.iconst 1, 1) := by decide +kernel
theorem dX5_addSeries_56 : decode cX5_addSeries 56 = .ok (.isub, 1) := by decide +kernel
theorem dX5_addSeries_57 : decode cX5_addSeries 57 = .ok (.ireturn, 1) := by decide +kernel
set_option maxRecDepth 400000 in
theorem ggX5_put_X5_seriesAt : GoodIn wsX5_put wsX5_seriesAt := goodIn_ca (goodIn_r _ [5, 6, 7, 8, 9, 163, 164, 165, 166, 167, 168, 169] rfl (by decide +kernel)) (goodIn_sub (fun _ h => List.mem_cons_of_mem _ (List.mem_append_left _ (List.mem_append_left _ (List.mem_append_right _ h)))) (by decide +kernel))
set_option maxRecDepth 20000 in
theorem gX5_put_X5_seriesAt : GoodIn wsX5_put (wsV RX5 57 RX5 yX5_seriesAt wsX5_seriesAt) := goodIn_app (goodIn_of _ (by decide +kernel)) ggX5_put_X5_seriesAt
set_option maxRecDepth 400000 in
theorem ggX5_put_X5_needPoint : GoodIn wsX5_put wsX5_needPoint := goodIn_ca (goodIn_r _ [13, 14, 15, 16, 17, 18, 4, 19, 20, 21, 22, 23, 170, 171, 172, 173, 174, 163, 164, 165, 166, 167, 168, 169] rfl (by decide +kernel)) (goodIn_sub (fun _ h => List.mem_cons_of_mem _ (List.mem_append_left _ (List.mem_append_right _ h))) (by decide +kernel))
set_option maxRecDepth 20000 in
theorem gX5_put_X5_needPoint : GoodIn wsX5_put (wsV RX5 61 RX5 yX5_needPoint wsX5_needPoint) := goodIn_app (goodIn_of _ (by decide +kernel)) ggX5_put_X5_needPoint
set_option maxRecDepth 400000 in
theorem ggX5_put_X5_needPlace : GoodIn wsX5_put wsX5_needPlace := goodIn_ca (goodIn_r _ [27, 28, 29, 30, 31, 32, 4, 33, 34, 35, 36, 37, 38, 39, 22, 40, 41, 42, 43, 44, 45, 46, 47, 48, 49, 50, 170, 171, 172, 173, 174, 175, 176, 177, 163, 164, 165, 166, 167, 168, 169] rfl (by decide +kernel)) (goodIn_sub (fun _ h => List.mem_cons_of_mem _ (List.mem_append_right _ h)) (by decide +kernel))
set_option maxRecDepth 20000 in
theorem gX5_put_X5_needPlace : GoodIn wsX5_put (wsV RX5 65 RX5 yX5_needPlace wsX5_needPlace) := goodIn_app (goodIn_of _ (by decide +kernel)) ggX5_put_X5_needPlace
set_option maxRecDepth 400000 in
theorem ggX5_put_X3_write : GoodIn wsX5_put wsX3_write := goodIn_r _ [55, 56, 57, 58, 59, 43, 60, 45, 46, 61, 62, 63, 64, 65, 66, 41, 42, 44, 67, 48, 49, 50, 68, 69, 70, 54, 71, 72, 4, 73, 74, 75, 76, 77, 78, 79, 80, 81, 82, 83, 84, 85, 86, 87, 88, 89, 90, 91, 92, 93, 94, 95, 96, 97, 98, 99, 100, 101, 102, 103, 104, 105, 106, 107, 108, 109, 110, 111, 112, 113, 114, 115, 116, 117, 118, 119, 120, 121, 122, 123, 124, 125, 126, 127, 128, 129, 130, 131, 132, 133, 134, 135, 136, 137, 138, 139, 140, 141, 142, 143, 144, 145, 146, 147, 148, 149, 150, 151, 152, 153, 154, 155, 156, 157, 158, 159, 160, 161, 162, 170, 171, 172, 173, 174, 175, 176, 177, 178, 179, 180, 181, 182, 183, 184, 185, 186, 187, 188] rfl (by decide +kernel)
set_option maxRecDepth 20000 in
theorem gX5_put_X3_write : GoodIn wsX5_put (wsV RX5 69 RX3 yX3_write wsX3_write) := goodIn_app (goodIn_of _ (by decide +kernel)) ggX5_put_X3_write
theorem dX5_put_0 : decode cX5_put 0 = .ok (.aload_n 0, 1) := by decide +kernel
theorem dX5_put_1 : decode cX5_put 1 = .ok (.iload_n 1, 1) := by decide +kernel
theorem dX5_put_2 : decode cX5_put 2 = .ok (.invokevirtual 57, 3) := by decide +kernel
theorem dX5_put_5 : decode cX5_put 5 = .ok (.astore 4, 2) := by decide +kernel
theorem dX5_put_7 : decode cX5_put 7 = .ok (.aload_n 0, 1) := by decide +kernel
theorem dX5_put_8 : decode cX5_put 8 = .ok (.aload 4, 2) := by decide +kernel
theorem dX5_put_10 : decode cX5_put 10 = .ok (.iload_n 2, 1) := by decide +kernel
theorem dX5_put_11 : decode cX5_put 11 = .ok (.iload_n 3, 1) := by decide +kernel
theorem dX5_put_12 : decode cX5_put 12 = .ok (.invokevirtual 61, 3) := by decide +kernel
theorem dX5_put_15 : decode cX5_put 15 = .ok (.aload_n 0, 1) := by decide +kernel
theorem dX5_put_16 : decode cX5_put 16 = .ok (.aload 4, 2) := by decide +kernel
theorem dX5_put_18 : decode cX5_put 18 = .ok (.iload_n 2, 1) := by decide +kernel
theorem dX5_put_19 : decode cX5_put 19 = .ok (.invokevirtual 65, 3) := by decide +kernel
theorem dX5_put_22 : decode cX5_put 22 = .ok (.aload 4, 2) := by decide +kernel
theorem dX5_put_24 : decode cX5_put 24 = .ok (.iload_n 2, 1) := by decide +kernel
theorem dX5_put_25 : decode cX5_put 25 = .ok (.iload_n 3, 1) := by decide +kernel
theorem dX5_put_26 : decode cX5_put 26 = .ok (.invokevirtual 69, 3) := by decide +kernel
theorem dX5_put_29 : decode cX5_put 29 = .ok (.ireturn, 1) := by decide +kernel
set_option maxRecDepth 400000 in
theorem ggX5_putMany_X5_seriesAt : GoodIn wsX5_putMany wsX5_seriesAt := goodIn_ca (goodIn_r _ [5, 6, 7, 8, 9, 166, 167, 168, 169, 170, 171, 172] rfl (by decide +kernel)) (goodIn_sub (fun _ h => List.mem_cons_of_mem _ (List.mem_append_left _ (List.mem_append_left _ (List.mem_append_right _ h)))) (by decide +kernel))
set_option maxRecDepth 20000 in
theorem gX5_putMany_X5_seriesAt : GoodIn wsX5_putMany (wsV RX5 57 RX5 yX5_seriesAt wsX5_seriesAt) := goodIn_app (goodIn_of _ (by decide +kernel)) ggX5_putMany_X5_seriesAt
set_option maxRecDepth 400000 in
theorem ggX5_putMany_X5_needPoint : GoodIn wsX5_putMany wsX5_needPoint := goodIn_ca (goodIn_r _ [13, 14, 15, 16, 17, 18, 4, 19, 20, 21, 22, 23, 173, 174, 175, 176, 177, 166, 167, 168, 169, 170, 171, 172] rfl (by decide +kernel)) (goodIn_sub (fun _ h => List.mem_cons_of_mem _ (List.mem_append_left _ (List.mem_append_right _ h))) (by decide +kernel))
set_option maxRecDepth 20000 in
theorem gX5_putMany_X5_needPoint : GoodIn wsX5_putMany (wsV RX5 61 RX5 yX5_needPoint wsX5_needPoint) := goodIn_app (goodIn_of _ (by decide +kernel)) ggX5_putMany_X5_needPoint
set_option maxRecDepth 400000 in
theorem ggX5_putMany_X5_needRange : GoodIn wsX5_putMany wsX5_needRange := goodIn_ca (goodIn_r _ [26, 14, 15] rfl (by decide +kernel)) (goodIn_sub (fun _ h => List.mem_cons_of_mem _ (List.mem_append_left _ (List.mem_append_right _ h))) (by decide +kernel))
set_option maxRecDepth 20000 in
theorem gX5_putMany_X5_needRange : GoodIn wsX5_putMany (va_wsS RX5 39 yX5_needRange wsX5_needRange) := goodIn_app (goodIn_of _ (by decide +kernel)) ggX5_putMany_X5_needRange
set_option maxRecDepth 400000 in
theorem ggX5_putMany_X5_needPlace : GoodIn wsX5_putMany wsX5_needPlace := goodIn_ca (goodIn_r _ [30, 31, 32, 33, 34, 35, 4, 36, 37, 38, 39, 40, 41, 42, 22, 43, 44, 45, 46, 47, 48, 49, 50, 51, 52, 53, 173, 174, 175, 176, 177, 178, 179, 180, 166, 167, 168, 169, 170, 171, 172] rfl (by decide +kernel)) (goodIn_sub (fun _ h => List.mem_cons_of_mem _ (List.mem_append_right _ h)) (by decide +kernel))
set_option maxRecDepth 20000 in
theorem gX5_putMany_X5_needPlace : GoodIn wsX5_putMany (wsV RX5 65 RX5 yX5_needPlace wsX5_needPlace) := goodIn_app (goodIn_of _ (by decide +kernel)) ggX5_putMany_X5_needPlace
set_option maxRecDepth 400000 in
theorem ggX5_putMany_X5_isPoint : GoodIn wsX5_putMany wsX5_isPoint := goodIn_r _ [19, 20, 21, 22, 23, 173, 174, 175, 176, 177, 166, 167, 168, 169, 170, 171, 172] rfl (by decide +kernel)
set_option maxRecDepth 20000 in
theorem gX5_putMany_X5_isPoint : GoodIn wsX5_putMany (wsV RX5 73 RX5 yX5_isPoint wsX5_isPoint) := goodIn_app (goodIn_of _ (by decide +kernel)) ggX5_putMany_X5_isPoint
set_option maxRecDepth 400000 in
theorem ggX5_putMany_X5_hasPlace : GoodIn wsX5_putMany wsX5_hasPlace := goodIn_r _ [36, 37, 38, 39, 40, 41, 4, 42, 22, 43, 44, 45, 46, 47, 48, 49, 50, 51, 52, 53, 173, 174, 175, 176, 177, 178, 179, 180, 166, 167, 168, 169, 170, 171, 172] rfl (by decide +kernel)
set_option maxRecDepth 20000 in
theorem gX5_putMany_X5_hasPlace : GoodIn wsX5_putMany (wsV RX5 77 RX5 yX5_hasPlace wsX5_hasPlace) := goodIn_app (goodIn_of _ (by decide +kernel)) ggX5_putMany_X5_hasPlace
set_option maxRecDepth 400000 in
theorem ggX5_putMany_X3_write : GoodIn wsX5_putMany wsX3_write := goodIn_r _ [58, 59, 60, 61, 62, 46, 63, 48, 49, 64, 65, 66, 67, 68, 69, 44, 45, 47, 70, 51, 52, 53, 71, 72, 73, 57, 74, 75, 4, 76, 77, 78, 79, 80, 81, 82, 83, 84, 85, 86, 87, 88, 89, 90, 91, 92, 93, 94, 95, 96, 97, 98, 99, 100, 101, 102, 103, 104, 105, 106, 107, 108, 109, 110, 111, 112, 113, 114, 115, 116, 117, 118, 119, 120, 121, 122, 123, 124, 125, 126, 127, 128, 129, 130, 131, 132, 133, 134, 135, 136, 137, 138, 139, 140, 141, 142, 143, 144, 145, 146, 147, 148, 149, 150, 151, 152, 153, 154, 155, 156, 157, 158, 159, 160, 161, 162, 163, 164, 165, 173, 174, 175, 176, 177, 178, 179, 180, 181, 182, 183, 184, 185, 186, 187, 188, 189, 190, 191] rfl (by decide +kernel)
set_option maxRecDepth 20000 in
theorem gX5_putMany_X3_write : GoodIn wsX5_putMany (wsV RX5 69 RX3 yX3_write wsX3_write) := goodIn_app (goodIn_of _ (by decide +kernel)) ggX5_putMany_X3_write
theorem dX5_putMany_0 : decode cX5_putMany 0 = .ok (.aload_n 0, 1) := by decide +kernel
theorem dX5_putMany_1 : decode cX5_putMany 1 = .ok (.iload_n 1, 1) := by decide +kernel
theorem dX5_putMany_2 : decode cX5_putMany 2 = .ok (.invokevirtual 57, 3) := by decide +kernel
theorem dX5_putMany_5 : decode cX5_putMany 5 = .ok (.astore 7, 2) := by decide +kernel
theorem dX5_putMany_7 : decode cX5_putMany 7 = .ok (.aload_n 0, 1) := by decide +kernel
theorem dX5_putMany_8 : decode cX5_putMany 8 = .ok (.aload 7, 2) := by decide +kernel
theorem dX5_putMany_10 : decode cX5_putMany 10 = .ok (.iload_n 2, 1) := by decide +kernel
theorem dX5_putMany_11 : decode cX5_putMany 11 = .ok (.iload_n 3, 1) := by decide +kernel
theorem dX5_putMany_12 : decode cX5_putMany 12 = .ok (.invokevirtual 61, 3) := by decide +kernel
theorem dX5_putMany_15 : decode cX5_putMany 15 = .ok (.iload 4, 2) := by decide +kernel
theorem dX5_putMany_17 : decode cX5_putMany 17 = .ok (.iconst 1, 1) := by decide +kernel
theorem dX5_putMany_18 : decode cX5_putMany 18 = .ok (.sipush 3600, 3) := by decide +kernel
theorem dX5_putMany_21 : decode cX5_putMany 21 = .ok (.invokestatic 39, 3) := by decide +kernel
theorem dX5_putMany_24 : decode cX5_putMany 24 = .ok (.iload 5, 2) := by decide +kernel
theorem dX5_putMany_26 : decode cX5_putMany 26 = .ok (.sipush (-1000), 3) := by decide +kernel
theorem dX5_putMany_29 : decode cX5_putMany 29 = .ok (.sipush 1000, 3) := by decide +kernel
theorem dX5_putMany_32 : decode cX5_putMany 32 = .ok (.invokestatic 39, 3) := by decide +kernel
theorem dX5_putMany_35 : decode cX5_putMany 35 = .ok (.iload 6, 2) := by decide +kernel
theorem dX5_putMany_37 : decode cX5_putMany 37 = .ok (.iconst 1, 1) := by decide +kernel
theorem dX5_putMany_38 : decode cX5_putMany 38 = .ok (.bipush 20, 2) := by decide +kernel
theorem dX5_putMany_40 : decode cX5_putMany 40 = .ok (.invokestatic 39, 3) := by decide +kernel
theorem dX5_putMany_43 : decode cX5_putMany 43 = .ok (.aload_n 0, 1) := by decide +kernel
theorem dX5_putMany_44 : decode cX5_putMany 44 = .ok (.aload 7, 2) := by decide +kernel
theorem dX5_putMany_46 : decode cX5_putMany 46 = .ok (.iload_n 2, 1) := by decide +kernel
theorem dX5_putMany_47 : decode cX5_putMany 47 = .ok (.invokevirtual 65, 3) := by decide +kernel
theorem dX5_putMany_50 : decode cX5_putMany 50 = .ok (.iconst 0, 1) := by decide +kernel
theorem dX5_putMany_51 : decode cX5_putMany 51 = .ok (.istore 8, 2) := by decide +kernel
theorem dX5_putMany_53 : decode cX5_putMany 53 = .ok (.iload 8, 2) := by decide +kernel
theorem dX5_putMany_55 : decode cX5_putMany 55 = .ok (.iload 6, 2) := by decide +kernel
theorem dX5_putMany_57 : decode cX5_putMany 57 = .ok (.if_icmp .ge 64, 3) := by decide +kernel
theorem dX5_putMany_60 : decode cX5_putMany 60 = .ok (.iload_n 2, 1) := by decide +kernel
theorem dX5_putMany_61 : decode cX5_putMany 61 = .ok (.iload 8, 2) := by decide +kernel
theorem dX5_putMany_63 : decode cX5_putMany 63 = .ok (.iload 4, 2) := by decide +kernel
theorem dX5_putMany_65 : decode cX5_putMany 65 = .ok (.imul, 1) := by decide +kernel
theorem dX5_putMany_66 : decode cX5_putMany 66 = .ok (.iadd, 1) := by decide +kernel
theorem dX5_putMany_67 : decode cX5_putMany 67 = .ok (.istore 9, 2) := by decide +kernel
theorem dX5_putMany_69 : decode cX5_putMany 69 = .ok (.iload_n 3, 1) := by decide +kernel
theorem dX5_putMany_70 : decode cX5_putMany 70 = .ok (.iload 8, 2) := by decide +kernel
theorem dX5_putMany_72 : decode cX5_putMany 72 = .ok (.iload 5, 2) := by decide +kernel
theorem dX5_putMany_74 : decode cX5_putMany 74 = .ok (.imul, 1) := by decide +kernel
theorem dX5_putMany_75 : decode cX5_putMany 75 = .ok (.iadd, 1) := by decide +kernel
theorem dX5_putMany_76 : decode cX5_putMany 76 = .ok (.istore 10, 2) := by decide +kernel
theorem dX5_putMany_78 : decode cX5_putMany 78 = .ok (.aload_n 0, 1) := by decide +kernel
theorem dX5_putMany_79 : decode cX5_putMany 79 = .ok (.aload 7, 2) := by decide +kernel
theorem dX5_putMany_81 : decode cX5_putMany 81 = .ok (.iload 9, 2) := by decide +kernel
theorem dX5_putMany_83 : decode cX5_putMany 83 = .ok (.iload 10, 2) := by decide +kernel
theorem dX5_putMany_85 : decode cX5_putMany 85 = .ok (.invokevirtual 73, 3) := by decide +kernel
theorem dX5_putMany_88 : decode cX5_putMany 88 = .ok (.ifCond .eq 14, 3) := by decide +kernel
theorem dX5_putMany_91 : decode cX5_putMany 91 = .ok (.aload_n 0, 1) := by decide +kernel
theorem dX5_putMany_92 : decode cX5_putMany 92 = .ok (.aload 7, 2) := by decide +kernel
theorem dX5_putMany_94 : decode cX5_putMany 94 = .ok (.iload 9, 2) := by decide +kernel
theorem dX5_putMany_96 : decode cX5_putMany 96 = .ok (.invokevirtual 77, 3) := by decide +kernel
theorem dX5_putMany_99 : decode cX5_putMany 99 = .ok (.ifCond .ne 6, 3) := by decide +kernel
theorem dX5_putMany_102 : decode cX5_putMany 102 = .ok (.iload 8, 2) := by decide +kernel
theorem dX5_putMany_104 : decode cX5_putMany 104 = .ok (.ireturn, 1) := by decide +kernel
theorem dX5_putMany_105 : decode cX5_putMany 105 = .ok (.aload 7, 2) := by decide +kernel
theorem dX5_putMany_107 : decode cX5_putMany 107 = .ok (.iload 9, 2) := by decide +kernel
theorem dX5_putMany_109 : decode cX5_putMany 109 = .ok (.iload 10, 2) := by decide +kernel
theorem dX5_putMany_111 : decode cX5_putMany 111 = .ok (.invokevirtual 69, 3) := by decide +kernel
theorem dX5_putMany_114 : decode cX5_putMany 114 = .ok (.pop, 1) := by decide +kernel
theorem dX5_putMany_115 : decode cX5_putMany 115 = .ok (.iinc 8 1, 3) := by decide +kernel
theorem dX5_putMany_118 : decode cX5_putMany 118 = .ok (.goto (-65), 3) := by decide +kernel
theorem dX5_putMany_121 : decode cX5_putMany 121 = .ok (.iload 6, 2) := by decide +kernel
theorem dX5_putMany_123 : decode cX5_putMany 123 = .ok (.ireturn, 1) := by decide +kernel
set_option maxRecDepth 400000 in
theorem ggX5_erase_X5_seriesAt : GoodIn wsX5_erase wsX5_seriesAt := goodIn_ca (goodIn_r _ [9, 10, 11, 12, 13, 152, 153, 154, 155, 156, 157, 158] rfl (by decide +kernel)) (goodIn_sub (fun _ h => List.mem_cons_of_mem _ (List.mem_append_right _ h)) (by decide +kernel))
set_option maxRecDepth 20000 in
theorem gX5_erase_X5_seriesAt : GoodIn wsX5_erase (wsV RX5 57 RX5 yX5_seriesAt wsX5_seriesAt) := goodIn_app (goodIn_of _ (by decide +kernel)) ggX5_erase_X5_seriesAt
set_option maxRecDepth 400000 in
theorem ggX5_erase_X5_placeOfPoint : GoodIn wsX5_erase wsX5_placeOfPoint := goodIn_ca (goodIn_r _ [16, 1, 2, 3, 17, 18, 19, 20, 21, 22, 23, 24, 25, 26, 27, 144, 145, 146, 147, 148, 149, 150, 151] rfl (by decide +kernel)) (goodIn_sub (fun _ h => List.mem_cons_of_mem _ (List.mem_append_left _ (List.mem_append_right _ h))) (by decide +kernel))
set_option maxRecDepth 20000 in
theorem gX5_erase_X5_placeOfPoint : GoodIn wsX5_erase (va_wsS RX5 81 yX5_placeOfPoint wsX5_placeOfPoint) := goodIn_app (goodIn_of _ (by decide +kernel)) ggX5_erase_X5_placeOfPoint
set_option maxRecDepth 400000 in
theorem ggX5_erase_X5_isTooOld : GoodIn wsX5_erase wsX5_isTooOld := goodIn_r _ [31, 32, 152, 153, 154, 155, 156, 157, 158] rfl (by decide +kernel)
set_option maxRecDepth 20000 in
theorem gX5_erase_X5_isTooOld : GoodIn wsX5_erase (wsV RX5 85 RX5 yX5_isTooOld wsX5_isTooOld) := goodIn_app (goodIn_of _ (by decide +kernel)) ggX5_erase_X5_isTooOld
set_option maxRecDepth 400000 in
theorem ggX5_erase_X3_erasePoint : GoodIn wsX5_erase wsX3_erasePoint := goodIn_r _ [37, 38, 39, 40, 41, 20, 42, 22, 23, 43, 44, 45, 46, 47, 48, 49, 50, 36, 51, 52, 8, 53, 54, 55, 56, 57, 58, 59, 60, 61, 62, 63, 64, 65, 66, 67, 68, 69, 70, 71, 72, 73, 74, 75, 76, 77, 78, 79, 80, 81, 82, 83, 84, 85, 86, 87, 88, 89, 90, 91, 92, 93, 94, 95, 96, 97, 98, 99, 100, 101, 102, 103, 104, 105, 106, 107, 108, 109, 110, 111, 112, 113, 114, 18, 19, 21, 115, 116, 117, 118, 119, 120, 121, 122, 123, 124, 125, 126, 127, 128, 129, 130, 131, 132, 133, 134, 135, 136, 137, 138, 139, 140, 141, 142, 143, 144, 145, 146, 147, 148, 149, 150, 151, 159, 160, 161, 162, 163, 164, 165, 166, 167, 168, 169] rfl (by decide +kernel)
set_option maxRecDepth 20000 in
theorem gX5_erase_X3_erasePoint : GoodIn wsX5_erase (wsV RX5 100 RX3 yX3_erasePoint wsX3_erasePoint) := goodIn_app (goodIn_of _ (by decide +kernel)) ggX5_erase_X3_erasePoint
theorem dX5_erase_0 : decode cX5_erase 0 = .ok (.aload_n 0, 1) := by decide +kernel
theorem dX5_erase_1 : decode cX5_erase 1 = .ok (.iload_n 1, 1) := by decide +kernel
theorem dX5_erase_2 : decode cX5_erase 2 = .ok (.invokevirtual 57, 3) := by decide +kernel
theorem dX5_erase_5 : decode cX5_erase 5 = .ok (.astore_n 3, 1) := by decide +kernel
theorem dX5_erase_6 : decode cX5_erase 6 = .ok (.aload_n 3, 1) := by decide +kernel
theorem dX5_erase_7 : decode cX5_erase 7 = .ok (.iload_n 2, 1) := by decide +kernel
theorem dX5_erase_8 : decode cX5_erase 8 = .ok (.invokestatic 81, 3) := by decide +kernel
theorem dX5_erase_11 : decode cX5_erase 11 = .ok (.istore 4, 2) := by decide +kernel
theorem dX5_erase_13 : decode cX5_erase 13 = .ok (.aload_n 0, 1) := by decide +kernel
theorem dX5_erase_14 : decode cX5_erase 14 = .ok (.iload_n 2, 1) := by decide +kernel
theorem dX5_erase_15 : decode cX5_erase 15 = .ok (.invokevirtual 85, 3) := by decide +kernel
theorem dX5_erase_18 : decode cX5_erase 18 = .ok (.ifCond .eq 13, 3) := by decide +kernel
theorem dX5_erase_21 : decode cX5_erase 21 = .ok (.new 47, 3) := by decide +kernel
theorem dX5_erase_24 : decode cX5_erase 24 = .ok (.dup, 1) := by decide +kernel
theorem dX5_erase_25 : decode cX5_erase 25 = .ok (.ldc 89, 2) := by decide +kernel
theorem dX5_erase_27 : decode cX5_erase 27 = .ok (.invokespecial 51, 3) := by decide +kernel
theorem dX5_erase_30 : decode cX5_erase 30 = .ok (.athrow, 1) := by decide +kernel
theorem dX5_erase_31 : decode cX5_erase 31 = .ok (.aload_n 3, 1) := by decide +kernel
theorem dX5_erase_32 : decode cX5_erase 32 = .ok (.getfield 91, 3) := by decide +kernel
theorem dX5_erase_35 : decode cX5_erase 35 = .ok (.getfield 95, 3) := by decide +kernel
theorem dX5_erase_38 : decode cX5_erase 38 = .ok (.iload 4, 2) := by decide +kernel
theorem dX5_erase_40 : decode cX5_erase 40 = .ok (.iaload, 1) := by decide +kernel
theorem dX5_erase_41 : decode cX5_erase 41 = .ok (.istore 5, 2) := by decide +kernel
theorem dX5_erase_43 : decode cX5_erase 43 = .ok (.aload_n 3, 1) := by decide +kernel
theorem dX5_erase_44 : decode cX5_erase 44 = .ok (.iload 4, 2) := by decide +kernel
theorem dX5_erase_46 : decode cX5_erase 46 = .ok (.iload_n 2, 1) := by decide +kernel
theorem dX5_erase_47 : decode cX5_erase 47 = .ok (.invokevirtual 100, 3) := by decide +kernel
theorem dX5_erase_50 : decode cX5_erase 50 = .ok (.iload 5, 2) := by decide +kernel
theorem dX5_erase_52 : decode cX5_erase 52 = .ok (.ireturn, 1) := by decide +kernel
set_option maxRecDepth 400000 in
theorem ggX5_advance_X5_needRange : GoodIn wsX5_advance wsX5_needRange := goodIn_ca (goodIn_r _ [11, 12, 13] rfl (by decide +kernel)) (goodIn_sub (fun _ h => List.mem_cons_of_mem _ (List.mem_append_left _ (List.mem_append_right _ h))) (by decide +kernel))
set_option maxRecDepth 20000 in
theorem gX5_advance_X5_needRange : GoodIn wsX5_advance (va_wsS RX5 39 yX5_needRange wsX5_needRange) := goodIn_app (goodIn_of _ (by decide +kernel)) ggX5_advance_X5_needRange
set_option maxRecDepth 400000 in
theorem ggX5_advance_X5_moveHorizon : GoodIn wsX5_advance wsX5_moveHorizon := goodIn_ca (goodIn_r _ [17, 18, 2, 19, 20, 21, 6, 22, 23, 24, 25, 26, 10, 27, 28, 29, 30, 31, 32, 33, 34, 35, 36, 37, 38, 39, 40, 41, 42, 43, 44, 45, 46, 47, 48, 49, 50, 51, 52, 53, 54, 55, 56, 57, 58, 59, 60, 61, 62, 63, 64, 65, 66, 67, 68, 69, 70, 71, 72, 73, 74, 75, 76, 77, 78, 79, 80, 81, 82, 83, 84, 85, 86, 87, 88, 89, 90, 91, 92, 93, 94, 95, 96, 97, 98, 99, 100, 101, 102, 103, 104, 105, 106, 107, 108, 109, 110] rfl (by decide +kernel)) (goodIn_sub (fun _ h => List.mem_cons_of_mem _ (List.mem_append_right _ h)) (by decide +kernel))
set_option maxRecDepth 20000 in
theorem gX5_advance_X5_moveHorizon : GoodIn wsX5_advance (wsV RX5 115 RX5 yX5_moveHorizon wsX5_moveHorizon) := goodIn_app (goodIn_of _ (by decide +kernel)) ggX5_advance_X5_moveHorizon
theorem dX5_advance_0 : decode cX5_advance 0 = .ok (.iload_n 1, 1) := by decide +kernel
theorem dX5_advance_1 : decode cX5_advance 1 = .ok (.iconst 1, 1) := by decide +kernel
theorem dX5_advance_2 : decode cX5_advance 2 = .ok (.ldc 104, 2) := by decide +kernel
theorem dX5_advance_4 : decode cX5_advance 4 = .ok (.invokestatic 39, 3) := by decide +kernel
theorem dX5_advance_7 : decode cX5_advance 7 = .ok (.aload_n 0, 1) := by decide +kernel
theorem dX5_advance_8 : decode cX5_advance 8 = .ok (.aload_n 0, 1) := by decide +kernel
theorem dX5_advance_9 : decode cX5_advance 9 = .ok (.getfield 105, 3) := by decide +kernel
theorem dX5_advance_12 : decode cX5_advance 12 = .ok (.iload_n 1, 1) := by decide +kernel
theorem dX5_advance_13 : decode cX5_advance 13 = .ok (.iadd, 1) := by decide +kernel
theorem dX5_advance_14 : decode cX5_advance 14 = .ok (.ldc 108, 2) := by decide +kernel
theorem dX5_advance_16 : decode cX5_advance 16 = .ok (.invokestatic 109, 3) := by decide +kernel
theorem dX5_advance_19 : decode cX5_advance 19 = .ok (.putfield 105, 3) := by decide +kernel
theorem dX5_advance_22 : decode cX5_advance 22 = .ok (.iconst 0, 1) := by decide +kernel
theorem dX5_advance_23 : decode cX5_advance 23 = .ok (.istore_n 2, 1) := by decide +kernel
theorem dX5_advance_24 : decode cX5_advance 24 = .ok (.iconst 0, 1) := by decide +kernel
theorem dX5_advance_25 : decode cX5_advance 25 = .ok (.istore_n 3, 1) := by decide +kernel
theorem dX5_advance_26 : decode cX5_advance 26 = .ok (.iload_n 3, 1) := by decide +kernel
theorem dX5_advance_27 : decode cX5_advance 27 = .ok (.iconst 3, 1) := by decide +kernel
theorem dX5_advance_28 : decode cX5_advance 28 = .ok (.if_icmp .gt 17, 3) := by decide +kernel
theorem dX5_advance_31 : decode cX5_advance 31 = .ok (.iload_n 2, 1) := by decide +kernel
theorem dX5_advance_32 : decode cX5_advance 32 = .ok (.aload_n 0, 1) := by decide +kernel
theorem dX5_advance_33 : decode cX5_advance 33 = .ok (.iload_n 3, 1) := by decide +kernel
theorem dX5_advance_34 : decode cX5_advance 34 = .ok (.invokevirtual 115, 3) := by decide +kernel
theorem dX5_advance_37 : decode cX5_advance 37 = .ok (.iadd, 1) := by decide +kernel
theorem dX5_advance_38 : decode cX5_advance 38 = .ok (.istore_n 2, 1) := by decide +kernel
theorem dX5_advance_39 : decode cX5_advance 39 = .ok (.iinc 3 1, 3) := by decide +kernel
theorem dX5_advance_42 : decode cX5_advance 42 = .ok (.goto (-16), 3) := by decide +kernel
theorem dX5_advance_45 : decode cX5_advance 45 = .ok (.iload_n 2, 1) := by decide +kernel
theorem dX5_advance_46 : decode cX5_advance 46 = .ok (.ireturn, 1) := by decide +kernel
set_option maxRecDepth 400000 in
theorem ggX5_setRetention_X5_needRange : GoodIn wsX5_setRetention wsX5_needRange := goodIn_ca (goodIn_r _ [7, 8, 9] rfl (by decide +kernel)) (goodIn_sub (fun _ h => List.mem_cons_of_mem _ (List.mem_append_left _ (List.mem_append_right _ h))) (by decide +kernel))
set_option maxRecDepth 20000 in
theorem gX5_setRetention_X5_needRange : GoodIn wsX5_setRetention (va_wsS RX5 39 yX5_needRange wsX5_needRange) := goodIn_app (goodIn_of _ (by decide +kernel)) ggX5_setRetention_X5_needRange
set_option maxRecDepth 400000 in
theorem ggX5_setRetention_X5_moveHorizon : GoodIn wsX5_setRetention wsX5_moveHorizon := goodIn_ca (goodIn_r _ [13, 14, 15, 3, 16, 17, 18, 19, 20, 21, 22, 23, 6, 24, 25, 26, 27, 28, 29, 30, 31, 32, 33, 34, 35, 36, 37, 38, 39, 40, 41, 42, 43, 44, 45, 46, 47, 48, 49, 50, 51, 52, 53, 54, 55, 56, 57, 58, 59, 60, 61, 62, 63, 64, 65, 66, 67, 68, 69, 70, 71, 72, 73, 74, 75, 76, 77, 78, 79, 80, 81, 82, 83, 84, 85, 86, 87, 88, 89, 90, 91, 92, 93, 94, 95, 96, 97, 98, 99, 100, 101, 102, 103, 104, 105, 106, 107] rfl (by decide +kernel)) (goodIn_sub (fun _ h => List.mem_cons_of_mem _ (List.mem_append_right _ h)) (by decide +kernel))
set_option maxRecDepth 20000 in
theorem gX5_setRetention_X5_moveHorizon : GoodIn wsX5_setRetention (wsV RX5 115 RX5 yX5_moveHorizon wsX5_moveHorizon) := goodIn_app (goodIn_of _ (by decide +kernel)) ggX5_setRetention_X5_moveHorizon
theorem dX5_setRetention_0 : decode cX5_setRetention 0 = .ok (.iload_n 1, 1) := by decide +kernel
theorem dX5_setRetention_1 : decode cX5_setRetention 1 = .ok (.iconst 0, 1) := by decide +kernel
theorem dX5_setRetention_2 : decode cX5_setRetention 2 = .ok (.iconst 3, 1) := by decide +kernel
theorem dX5_setRetention_3 : decode cX5_setRetention 3 = .ok (.invokestatic 39, 3) := by decide +kernel
theorem dX5_setRetention_6 : decode cX5_setRetention 6 = .ok (.iload_n 2, 1) := by decide +kernel
theorem dX5_setRetention_7 : decode cX5_setRetention 7 = .ok (.iload_n 1, 1) := by decide +kernel
theorem dX5_setRetention_8 : decode cX5_setRetention 8 = .ok (.iconst 1, 1) := by decide +kernel
theorem dX5_setRetention_9 : decode cX5_setRetention 9 = .ok (.if_icmp .gt 9, 3) := by decide +kernel
theorem dX5_setRetention_12 : decode cX5_setRetention 12 = .ok (.sipush 7200, 3) := by decide +kernel
theorem dX5_setRetention_15 : decode cX5_setRetention 15 = .ok (.goto 5, 3) := by decide +kernel
theorem dX5_setRetention_18 : decode cX5_setRetention 18 = .ok (.ldc 119, 2) := by decide +kernel
theorem dX5_setRetention_20 : decode cX5_setRetention 20 = .ok (.ldc 120, 2) := by decide +kernel
theorem dX5_setRetention_22 : decode cX5_setRetention 22 = .ok (.invokestatic 39, 3) := by decide +kernel
theorem dX5_setRetention_25 : decode cX5_setRetention 25 = .ok (.aload_n 0, 1) := by decide +kernel
theorem dX5_setRetention_26 : decode cX5_setRetention 26 = .ok (.getfield 18, 3) := by decide +kernel
theorem dX5_setRetention_29 : decode cX5_setRetention 29 = .ok (.iload_n 1, 1) := by decide +kernel
theorem dX5_setRetention_30 : decode cX5_setRetention 30 = .ok (.iaload, 1) := by decide +kernel
theorem dX5_setRetention_31 : decode cX5_setRetention 31 = .ok (.istore_n 3, 1) := by decide +kernel
theorem dX5_setRetention_32 : decode cX5_setRetention 32 = .ok (.aload_n 0, 1) := by decide +kernel
theorem dX5_setRetention_33 : decode cX5_setRetention 33 = .ok (.getfield 18, 3) := by decide +kernel
theorem dX5_setRetention_36 : decode cX5_setRetention 36 = .ok (.iload_n 1, 1) := by decide +kernel
theorem dX5_setRetention_37 : decode cX5_setRetention 37 = .ok (.iload_n 2, 1) := by decide +kernel
theorem dX5_setRetention_38 : decode cX5_setRetention 38 = .ok (.iastore, 1) := by decide +kernel
theorem dX5_setRetention_39 : decode cX5_setRetention 39 = .ok (.aload_n 0, 1) := by decide +kernel
theorem dX5_setRetention_40 : decode cX5_setRetention 40 = .ok (.iload_n 1, 1) := by decide +kernel
theorem dX5_setRetention_41 : decode cX5_setRetention 41 = .ok (.invokevirtual 115, 3) := by decide +kernel
theorem dX5_setRetention_44 : decode cX5_setRetention 44 = .ok (.pop, 1) := by decide +kernel
theorem dX5_setRetention_45 : decode cX5_setRetention 45 = .ok (.iload_n 3, 1) := by decide +kernel
theorem dX5_setRetention_46 : decode cX5_setRetention 46 = .ok (.ireturn, 1) := by decide +kernel
theorem dX5_clock_0 : decode cX5_clock 0 = .ok (.aload_n 0, 1) := by decide +kernel
theorem dX5_clock_1 : decode cX5_clock 1 = .ok (.getfield 105, 3) := by decide +kernel
theorem dX5_clock_4 : decode cX5_clock 4 = .ok (.ireturn, 1) := by decide +kernel
set_option maxRecDepth 400000 in
theorem ggX5_horizon_X5_needRange : GoodIn wsX5_horizon wsX5_needRange := goodIn_ca (goodIn_r _ [5, 6, 7] rfl (by decide +kernel)) (goodIn_sub (fun _ h => List.mem_cons_of_mem _ (List.mem_append_right _ h)) (by decide +kernel))
set_option maxRecDepth 20000 in
theorem gX5_horizon_X5_needRange : GoodIn wsX5_horizon (va_wsS RX5 39 yX5_needRange wsX5_needRange) := goodIn_app (goodIn_of _ (by decide +kernel)) ggX5_horizon_X5_needRange
theorem dX5_horizon_0 : decode cX5_horizon 0 = .ok (.iload_n 1, 1) := by decide +kernel
theorem dX5_horizon_1 : decode cX5_horizon 1 = .ok (.iconst 0, 1) := by decide +kernel
theorem dX5_horizon_2 : decode cX5_horizon 2 = .ok (.iconst 3, 1) := by decide +kernel
theorem dX5_horizon_3 : decode cX5_horizon 3 = .ok (.invokestatic 39, 3) := by decide +kernel
theorem dX5_horizon_6 : decode cX5_horizon 6 = .ok (.aload_n 0, 1) := by decide +kernel
theorem dX5_horizon_7 : decode cX5_horizon 7 = .ok (.getfield 22, 3) := by decide +kernel
theorem dX5_horizon_10 : decode cX5_horizon 10 = .ok (.iload_n 1, 1) := by decide +kernel
theorem dX5_horizon_11 : decode cX5_horizon 11 = .ok (.iaload, 1) := by decide +kernel
theorem dX5_horizon_12 : decode cX5_horizon 12 = .ok (.ireturn, 1) := by decide +kernel
set_option maxRecDepth 400000 in
theorem ggX5_rows_X5_seriesAt : GoodIn wsX5_rows wsX5_seriesAt := goodIn_ca (goodIn_r _ [5, 6, 7, 8, 9, 30, 31, 32, 33, 34, 35, 36] rfl (by decide +kernel)) (goodIn_sub (fun _ h => List.mem_cons_of_mem _ (List.mem_append_left _ (List.mem_append_right _ h))) (by decide +kernel))
set_option maxRecDepth 20000 in
theorem gX5_rows_X5_seriesAt : GoodIn wsX5_rows (wsV RX5 57 RX5 yX5_seriesAt wsX5_seriesAt) := goodIn_app (goodIn_of _ (by decide +kernel)) ggX5_rows_X5_seriesAt
set_option maxRecDepth 400000 in
theorem ggX5_rows_X5_needRange : GoodIn wsX5_rows wsX5_needRange := goodIn_ca (goodIn_r _ [12, 13, 14] rfl (by decide +kernel)) (goodIn_sub (fun _ h => List.mem_cons_of_mem _ (List.mem_append_right _ h)) (by decide +kernel))
set_option maxRecDepth 20000 in
theorem gX5_rows_X5_needRange : GoodIn wsX5_rows (va_wsS RX5 39 yX5_needRange wsX5_needRange) := goodIn_app (goodIn_of _ (by decide +kernel)) ggX5_rows_X5_needRange
set_option maxRecDepth 400000 in
theorem ggX5_rows_X3_rowsOf : GoodIn wsX5_rows wsX3_rowsOf := goodIn_r _ [19, 20, 21, 22, 23, 24, 25, 18, 26, 27, 28, 29, 37, 38, 39, 40, 41, 42, 43, 44, 45, 46, 47] rfl (by decide +kernel)
set_option maxRecDepth 20000 in
theorem gX5_rows_X3_rowsOf : GoodIn wsX5_rows (wsV RX5 121 RX3 yX3_rowsOf wsX3_rowsOf) := goodIn_app (goodIn_of _ (by decide +kernel)) ggX5_rows_X3_rowsOf
theorem dX5_rows_0 : decode cX5_rows 0 = .ok (.aload_n 0, 1) := by decide +kernel
theorem dX5_rows_1 : decode cX5_rows 1 = .ok (.iload_n 1, 1) := by decide +kernel
theorem dX5_rows_2 : decode cX5_rows 2 = .ok (.invokevirtual 57, 3) := by decide +kernel
theorem dX5_rows_5 : decode cX5_rows 5 = .ok (.astore_n 3, 1) := by decide +kernel
theorem dX5_rows_6 : decode cX5_rows 6 = .ok (.iload_n 2, 1) := by decide +kernel
theorem dX5_rows_7 : decode cX5_rows 7 = .ok (.iconst 0, 1) := by decide +kernel
theorem dX5_rows_8 : decode cX5_rows 8 = .ok (.iconst 3, 1) := by decide +kernel
theorem dX5_rows_9 : decode cX5_rows 9 = .ok (.invokestatic 39, 3) := by decide +kernel
theorem dX5_rows_12 : decode cX5_rows 12 = .ok (.aload_n 3, 1) := by decide +kernel
theorem dX5_rows_13 : decode cX5_rows 13 = .ok (.iload_n 2, 1) := by decide +kernel
theorem dX5_rows_14 : decode cX5_rows 14 = .ok (.invokevirtual 121, 3) := by decide +kernel
theorem dX5_rows_17 : decode cX5_rows 17 = .ok (.ireturn, 1) := by decide +kernel
set_option maxRecDepth 400000 in
theorem ggX5_timeOf_X5_seriesAt : GoodIn wsX5_timeOf wsX5_seriesAt := goodIn_ca (goodIn_r _ [9, 10, 11, 12, 13, 52, 53, 54, 55, 56, 57, 58] rfl (by decide +kernel)) (goodIn_sub (fun _ h => List.mem_cons_of_mem _ (List.mem_append_left _ (List.mem_append_right _ h))) (by decide +kernel))
set_option maxRecDepth 20000 in
theorem gX5_timeOf_X5_seriesAt : GoodIn wsX5_timeOf (wsV RX5 57 RX5 yX5_seriesAt wsX5_seriesAt) := goodIn_app (goodIn_of _ (by decide +kernel)) ggX5_timeOf_X5_seriesAt
set_option maxRecDepth 400000 in
theorem ggX5_timeOf_X5_needRange : GoodIn wsX5_timeOf wsX5_needRange := goodIn_ca (goodIn_r _ [16, 17, 18] rfl (by decide +kernel)) (goodIn_sub (fun _ h => List.mem_cons_of_mem _ (List.mem_append_right _ h)) (by decide +kernel))
set_option maxRecDepth 20000 in
theorem gX5_timeOf_X5_needRange : GoodIn wsX5_timeOf (va_wsS RX5 39 yX5_needRange wsX5_needRange) := goodIn_app (goodIn_of _ (by decide +kernel)) ggX5_timeOf_X5_needRange
set_option maxRecDepth 400000 in
theorem ggX5_timeOf_X5_timeOfPoint : GoodIn wsX5_timeOf wsX5_timeOfPoint := goodIn_ca (goodIn_r _ [21, 1, 2, 22, 23, 59, 60, 61] rfl (by decide +kernel)) (goodIn_sub (fun _ h => List.mem_cons_of_mem _ (List.mem_append_left _ (List.mem_append_left _ (List.mem_append_right _ h)))) (by decide +kernel))
set_option maxRecDepth 20000 in
theorem gX5_timeOf_X5_timeOfPoint : GoodIn wsX5_timeOf (va_wsS RX5 124 yX5_timeOfPoint wsX5_timeOfPoint) := goodIn_app (goodIn_of _ (by decide +kernel)) ggX5_timeOf_X5_timeOfPoint
set_option maxRecDepth 400000 in
theorem ggX5_timeOf_X3_rollupsOf : GoodIn wsX5_timeOf wsX3_rollupsOf := goodIn_r _ [28, 29, 30, 31, 39, 40, 41, 42, 43] rfl (by decide +kernel)
set_option maxRecDepth 20000 in
theorem gX5_timeOf_X3_rollupsOf : GoodIn wsX5_timeOf (wsV RX5 128 RX3 yX3_rollupsOf wsX3_rollupsOf) := goodIn_app (goodIn_of _ (by decide +kernel)) ggX5_timeOf_X3_rollupsOf
set_option maxRecDepth 400000 in
theorem ggX5_timeOf_X2_rowOrNull : GoodIn wsX5_timeOf wsX2_rowOrNull := goodIn_r _ [36, 37, 38, 62, 63, 64] rfl (by decide +kernel)
set_option maxRecDepth 20000 in
theorem gX5_timeOf_X2_rowOrNull : GoodIn wsX5_timeOf (wsV RX5 132 RX2 yX2_rowOrNull wsX2_rowOrNull) := goodIn_app (goodIn_of _ (by decide +kernel)) ggX5_timeOf_X2_rowOrNull
theorem dX5_timeOf_0 : decode cX5_timeOf 0 = .ok (.aload_n 0, 1) := by decide +kernel
theorem dX5_timeOf_1 : decode cX5_timeOf 1 = .ok (.iload_n 1, 1) := by decide +kernel
theorem dX5_timeOf_2 : decode cX5_timeOf 2 = .ok (.invokevirtual 57, 3) := by decide +kernel
theorem dX5_timeOf_5 : decode cX5_timeOf 5 = .ok (.astore 4, 2) := by decide +kernel
theorem dX5_timeOf_7 : decode cX5_timeOf 7 = .ok (.iload_n 2, 1) := by decide +kernel
theorem dX5_timeOf_8 : decode cX5_timeOf 8 = .ok (.iconst 0, 1) := by decide +kernel
theorem dX5_timeOf_9 : decode cX5_timeOf 9 = .ok (.iconst 3, 1) := by decide +kernel
theorem dX5_timeOf_10 : decode cX5_timeOf 10 = .ok (.invokestatic 39, 3) := by decide +kernel
theorem dX5_timeOf_13 : decode cX5_timeOf 13 = .ok (.iload_n 2, 1) := by decide +kernel
theorem dX5_timeOf_14 : decode cX5_timeOf 14 = .ok (.ifCond .ne 13, 3) := by decide +kernel
theorem dX5_timeOf_17 : decode cX5_timeOf 17 = .ok (.aload 4, 2) := by decide +kernel
theorem dX5_timeOf_19 : decode cX5_timeOf 19 = .ok (.getfield 91, 3) := by decide +kernel
theorem dX5_timeOf_22 : decode cX5_timeOf 22 = .ok (.iload_n 3, 1) := by decide +kernel
theorem dX5_timeOf_23 : decode cX5_timeOf 23 = .ok (.invokestatic 124, 3) := by decide +kernel
theorem dX5_timeOf_26 : decode cX5_timeOf 26 = .ok (.ireturn, 1) := by decide +kernel
theorem dX5_timeOf_27 : decode cX5_timeOf 27 = .ok (.aload 4, 2) := by decide +kernel
theorem dX5_timeOf_29 : decode cX5_timeOf 29 = .ok (.iload_n 2, 1) := by decide +kernel
theorem dX5_timeOf_30 : decode cX5_timeOf 30 = .ok (.invokevirtual 128, 3) := by decide +kernel
theorem dX5_timeOf_33 : decode cX5_timeOf 33 = .ok (.iload_n 3, 1) := by decide +kernel
theorem dX5_timeOf_34 : decode cX5_timeOf 34 = .ok (.invokevirtual 132, 3) := by decide +kernel
theorem dX5_timeOf_37 : decode cX5_timeOf 37 = .ok (.astore 5, 2) := by decide +kernel
theorem dX5_timeOf_39 : decode cX5_timeOf 39 = .ok (.aload 5, 2) := by decide +kernel
theorem dX5_timeOf_41 : decode cX5_timeOf 41 = .ok (.ifnonnull 13, 3) := by decide +kernel
theorem dX5_timeOf_44 : decode cX5_timeOf 44 = .ok (.new 47, 3) := by decide +kernel
theorem dX5_timeOf_47 : decode cX5_timeOf 47 = .ok (.dup, 1) := by decide +kernel
theorem dX5_timeOf_48 : decode cX5_timeOf 48 = .ok (.ldc 138, 2) := by decide +kernel
theorem dX5_timeOf_50 : decode cX5_timeOf 50 = .ok (.invokespecial 51, 3) := by decide +kernel
theorem dX5_timeOf_53 : decode cX5_timeOf 53 = .ok (.athrow, 1) := by decide +kernel
theorem dX5_timeOf_54 : decode cX5_timeOf 54 = .ok (.aload 5, 2) := by decide +kernel
theorem dX5_timeOf_56 : decode cX5_timeOf 56 = .ok (.getfield 140, 3) := by decide +kernel
theorem dX5_timeOf_59 : decode cX5_timeOf 59 = .ok (.ireturn, 1) := by decide +kernel
set_option maxRecDepth 400000 in
theorem ggX5_valueAt_X5_seriesAt : GoodIn wsX5_valueAt wsX5_seriesAt := goodIn_ca (goodIn_r _ [7, 8, 9, 10, 11, 36, 37, 38, 39, 40, 41, 42] rfl (by decide +kernel)) (goodIn_sub (fun _ h => List.mem_cons_of_mem _ (List.mem_append_left _ (List.mem_append_right _ h))) (by decide +kernel))
set_option maxRecDepth 20000 in
theorem gX5_valueAt_X5_seriesAt : GoodIn wsX5_valueAt (wsV RX5 57 RX5 yX5_seriesAt wsX5_seriesAt) := goodIn_app (goodIn_of _ (by decide +kernel)) ggX5_valueAt_X5_seriesAt
set_option maxRecDepth 400000 in
theorem ggX5_valueAt_X5_placeOfPoint : GoodIn wsX5_valueAt wsX5_placeOfPoint := goodIn_ca (goodIn_r _ [14, 15, 16, 1, 17, 18, 19, 20, 21, 22, 23, 24, 25, 26, 27, 28, 29, 30, 31, 32, 33, 34, 35] rfl (by decide +kernel)) (goodIn_sub (fun _ h => List.mem_cons_of_mem _ (List.mem_append_right _ h)) (by decide +kernel))
set_option maxRecDepth 20000 in
theorem gX5_valueAt_X5_placeOfPoint : GoodIn wsX5_valueAt (va_wsS RX5 81 yX5_placeOfPoint wsX5_placeOfPoint) := goodIn_app (goodIn_of _ (by decide +kernel)) ggX5_valueAt_X5_placeOfPoint
theorem dX5_valueAt_0 : decode cX5_valueAt 0 = .ok (.aload_n 0, 1) := by decide +kernel
theorem dX5_valueAt_1 : decode cX5_valueAt 1 = .ok (.iload_n 1, 1) := by decide +kernel
theorem dX5_valueAt_2 : decode cX5_valueAt 2 = .ok (.invokevirtual 57, 3) := by decide +kernel
theorem dX5_valueAt_5 : decode cX5_valueAt 5 = .ok (.astore_n 3, 1) := by decide +kernel
theorem dX5_valueAt_6 : decode cX5_valueAt 6 = .ok (.aload_n 3, 1) := by decide +kernel
theorem dX5_valueAt_7 : decode cX5_valueAt 7 = .ok (.getfield 91, 3) := by decide +kernel
theorem dX5_valueAt_10 : decode cX5_valueAt 10 = .ok (.getfield 95, 3) := by decide +kernel
theorem dX5_valueAt_13 : decode cX5_valueAt 13 = .ok (.aload_n 3, 1) := by decide +kernel
theorem dX5_valueAt_14 : decode cX5_valueAt 14 = .ok (.iload_n 2, 1) := by decide +kernel
theorem dX5_valueAt_15 : decode cX5_valueAt 15 = .ok (.invokestatic 81, 3) := by decide +kernel
theorem dX5_valueAt_18 : decode cX5_valueAt 18 = .ok (.iaload, 1) := by decide +kernel
theorem dX5_valueAt_19 : decode cX5_valueAt 19 = .ok (.ireturn, 1) := by decide +kernel
set_option maxRecDepth 400000 in
theorem ggX5_hasRollup_X5_rollupOrNull : GoodIn wsX5_hasRollup wsX5_rollupOrNull := goodIn_ca (goodIn_ca (goodIn_r _ [5, 6, 7, 8, 4, 9, 10, 11, 12, 13, 14, 15, 16, 17, 18, 19, 20, 21, 22, 23, 24, 25, 26, 27, 28, 29, 30, 31, 32, 33, 34, 35, 36, 37, 38, 39, 40, 41, 42, 43, 44, 45, 46, 47, 48, 49, 50, 51, 52, 53, 54, 55, 56, 57, 58, 59, 60, 61, 62, 63, 64, 65, 66, 67, 68, 69, 70, 71, 72, 73, 74, 75, 76] rfl (by decide +kernel)) (goodIn_sub (fun _ h => List.mem_cons_of_mem _ (List.mem_append_left _ (List.mem_append_right _ h))) (by decide +kernel))) (goodIn_sub (fun _ h => List.mem_cons_of_mem _ (List.mem_append_right _ h)) (by decide +kernel))
set_option maxRecDepth 20000 in
theorem gX5_hasRollup_X5_rollupOrNull : GoodIn wsX5_hasRollup (wsV RX5 143 RX5 yX5_rollupOrNull wsX5_rollupOrNull) := goodIn_app (goodIn_of _ (by decide +kernel)) ggX5_hasRollup_X5_rollupOrNull
theorem dX5_hasRollup_0 : decode cX5_hasRollup 0 = .ok (.aload_n 0, 1) := by decide +kernel
theorem dX5_hasRollup_1 : decode cX5_hasRollup 1 = .ok (.iload_n 1, 1) := by decide +kernel
theorem dX5_hasRollup_2 : decode cX5_hasRollup 2 = .ok (.iload_n 2, 1) := by decide +kernel
theorem dX5_hasRollup_3 : decode cX5_hasRollup 3 = .ok (.iload_n 3, 1) := by decide +kernel
theorem dX5_hasRollup_4 : decode cX5_hasRollup 4 = .ok (.invokevirtual 143, 3) := by decide +kernel
theorem dX5_hasRollup_7 : decode cX5_hasRollup 7 = .ok (.ifnull 7, 3) := by decide +kernel
theorem dX5_hasRollup_10 : decode cX5_hasRollup 10 = .ok (.iconst 1, 1) := by decide +kernel
theorem dX5_hasRollup_11 : decode cX5_hasRollup 11 = .ok (.goto 4, 3) := by decide +kernel
theorem dX5_hasRollup_14 : decode cX5_hasRollup 14 = .ok (.iconst 0, 1) := by decide +kernel
theorem dX5_hasRollup_15 : decode cX5_hasRollup 15 = .ok (.ireturn, 1) := by decide +kernel
set_option maxRecDepth 400000 in
theorem ggX5_count_X5_rollupAt : GoodIn wsX5_count wsX5_rollupAt := goodIn_ca (goodIn_ca (goodIn_ca (goodIn_r _ [6, 7, 8, 9, 10, 11, 5, 12, 13, 14, 15, 16, 17, 18, 19, 20, 21, 22, 23, 24, 25, 26, 27, 28, 29, 30, 31, 32, 33, 34, 35, 36, 37, 38, 39, 40, 41, 42, 43, 44, 45, 46, 47, 48, 49, 50, 51, 52, 53, 54, 55, 56, 57, 58, 59, 60, 69, 70, 71, 72, 73, 74, 75, 76, 77, 78, 79, 80, 61, 62, 63, 64, 65, 66, 67, 68, 81, 82, 83] rfl (by decide +kernel)) (goodIn_sub (fun _ h => List.mem_cons_of_mem _ (List.mem_append_left _ (List.mem_append_left _ (List.mem_append_right _ h)))) (by decide +kernel))) (goodIn_sub (fun _ h => List.mem_cons_of_mem _ (List.mem_append_left _ (List.mem_append_right _ h))) (by decide +kernel))) (goodIn_sub (fun _ h => List.mem_cons_of_mem _ (List.mem_append_right _ h)) (by decide +kernel))
set_option maxRecDepth 20000 in
theorem gX5_count_X5_rollupAt : GoodIn wsX5_count (wsV RX5 147 RX5 yX5_rollupAt wsX5_rollupAt) := goodIn_app (goodIn_of _ (by decide +kernel)) ggX5_count_X5_rollupAt
theorem dX5_count_0 : decode cX5_count 0 = .ok (.aload_n 0, 1) := by decide +kernel
theorem dX5_count_1 : decode cX5_count 1 = .ok (.iload_n 1, 1) := by decide +kernel
theorem dX5_count_2 : decode cX5_count 2 = .ok (.iload_n 2, 1) := by decide +kernel
theorem dX5_count_3 : decode cX5_count 3 = .ok (.iload_n 3, 1) := by decide +kernel
theorem dX5_count_4 : decode cX5_count 4 = .ok (.invokevirtual 147, 3) := by decide +kernel
theorem dX5_count_7 : decode cX5_count 7 = .ok (.getfield 150, 3) := by decide +kernel
theorem dX5_count_10 : decode cX5_count 10 = .ok (.ireturn, 1) := by decide +kernel
set_option maxRecDepth 400000 in
theorem ggX5_sum_X5_rollupAt : GoodIn wsX5_sum wsX5_rollupAt := goodIn_ca (goodIn_ca (goodIn_ca (goodIn_r _ [6, 7, 8, 9, 10, 11, 5, 12, 13, 14, 15, 16, 17, 18, 19, 20, 21, 22, 23, 24, 25, 26, 27, 28, 29, 30, 31, 32, 33, 34, 35, 36, 37, 38, 39, 40, 41, 42, 43, 44, 45, 46, 47, 48, 49, 50, 51, 52, 53, 54, 55, 56, 57, 58, 59, 60, 69, 70, 71, 72, 73, 74, 75, 76, 77, 78, 79, 80, 61, 62, 63, 64, 65, 66, 67, 68, 81, 82, 83] rfl (by decide +kernel)) (goodIn_sub (fun _ h => List.mem_cons_of_mem _ (List.mem_append_left _ (List.mem_append_left _ (List.mem_append_right _ h)))) (by decide +kernel))) (goodIn_sub (fun _ h => List.mem_cons_of_mem _ (List.mem_append_left _ (List.mem_append_right _ h))) (by decide +kernel))) (goodIn_sub (fun _ h => List.mem_cons_of_mem _ (List.mem_append_right _ h)) (by decide +kernel))
set_option maxRecDepth 20000 in
theorem gX5_sum_X5_rollupAt : GoodIn wsX5_sum (wsV RX5 147 RX5 yX5_rollupAt wsX5_rollupAt) := goodIn_app (goodIn_of _ (by decide +kernel)) ggX5_sum_X5_rollupAt
theorem dX5_sum_0 : decode cX5_sum 0 = .ok (.aload_n 0, 1) := by decide +kernel
theorem dX5_sum_1 : decode cX5_sum 1 = .ok (.iload_n 1, 1) := by decide +kernel
theorem dX5_sum_2 : decode cX5_sum 2 = .ok (.iload_n 2, 1) := by decide +kernel
theorem dX5_sum_3 : decode cX5_sum 3 = .ok (.iload_n 3, 1) := by decide +kernel
theorem dX5_sum_4 : decode cX5_sum 4 = .ok (.invokevirtual 147, 3) := by decide +kernel
theorem dX5_sum_7 : decode cX5_sum 7 = .ok (.getfield 153, 3) := by decide +kernel
theorem dX5_sum_10 : decode cX5_sum 10 = .ok (.lreturn, 1) := by decide +kernel
set_option maxRecDepth 400000 in
theorem ggX5_average_X5_rollupAt : GoodIn wsX5_average wsX5_rollupAt := goodIn_ca (goodIn_ca (goodIn_ca (goodIn_r _ [11, 12, 13, 14, 15, 16, 10, 17, 18, 19, 20, 21, 22, 23, 24, 25, 26, 27, 28, 29, 30, 31, 32, 33, 34, 35, 36, 37, 38, 39, 40, 41, 42, 43, 44, 45, 46, 47, 48, 49, 50, 51, 52, 53, 54, 55, 56, 57, 58, 59, 60, 61, 62, 63, 64, 65, 74, 75, 76, 77, 78, 79, 80, 81, 82, 83, 84, 85, 66, 67, 68, 69, 70, 71, 72, 73, 86, 87, 88] rfl (by decide +kernel)) (goodIn_sub (fun _ h => List.mem_cons_of_mem _ (List.mem_append_left _ (List.mem_append_left _ (List.mem_append_right _ h)))) (by decide +kernel))) (goodIn_sub (fun _ h => List.mem_cons_of_mem _ (List.mem_append_left _ (List.mem_append_right _ h))) (by decide +kernel))) (goodIn_sub (fun _ h => List.mem_cons_of_mem _ (List.mem_append_right _ h)) (by decide +kernel))
set_option maxRecDepth 20000 in
theorem gX5_average_X5_rollupAt : GoodIn wsX5_average (wsV RX5 147 RX5 yX5_rollupAt wsX5_rollupAt) := goodIn_app (goodIn_of _ (by decide +kernel)) ggX5_average_X5_rollupAt
theorem dX5_average_0 : decode cX5_average 0 = .ok (.aload_n 0, 1) := by decide +kernel
theorem dX5_average_1 : decode cX5_average 1 = .ok (.iload_n 1, 1) := by decide +kernel
theorem dX5_average_2 : decode cX5_average 2 = .ok (.iload_n 2, 1) := by decide +kernel
theorem dX5_average_3 : decode cX5_average 3 = .ok (.iload_n 3, 1) := by decide +kernel
theorem dX5_average_4 : decode cX5_average 4 = .ok (.invokevirtual 147, 3) := by decide +kernel
theorem dX5_average_7 : decode cX5_average 7 = .ok (.astore 4, 2) := by decide +kernel
theorem dX5_average_9 : decode cX5_average 9 = .ok (.aload 4, 2) := by decide +kernel
theorem dX5_average_11 : decode cX5_average 11 = .ok (.getfield 153, 3) := by decide +kernel
theorem dX5_average_14 : decode cX5_average 14 = .ok (.l2d, 1) := by decide +kernel
theorem dX5_average_15 : decode cX5_average 15 = .ok (.iconst 1, 1) := by decide +kernel
theorem dX5_average_16 : decode cX5_average 16 = .ok (.aload 4, 2) := by decide +kernel
theorem dX5_average_18 : decode cX5_average 18 = .ok (.getfield 150, 3) := by decide +kernel
theorem dX5_average_21 : decode cX5_average 21 = .ok (.invokestatic 157, 3) := by decide +kernel
theorem dX5_average_24 : decode cX5_average 24 = .ok (.i2d, 1) := by decide +kernel
theorem dX5_average_25 : decode cX5_average 25 = .ok (.ddiv, 1) := by decide +kernel
theorem dX5_average_26 : decode cX5_average 26 = .ok (.dreturn, 1) := by decide +kernel
set_option maxRecDepth 400000 in
theorem ggX5_least_X5_rollupAt : GoodIn wsX5_least wsX5_rollupAt := goodIn_ca (goodIn_ca (goodIn_ca (goodIn_r _ [6, 7, 8, 9, 10, 11, 5, 12, 13, 14, 15, 16, 17, 18, 19, 20, 21, 22, 23, 24, 25, 26, 27, 28, 29, 30, 31, 32, 33, 34, 35, 36, 37, 38, 39, 40, 41, 42, 43, 44, 45, 46, 47, 48, 49, 50, 51, 52, 53, 54, 55, 56, 57, 58, 59, 60, 69, 70, 71, 72, 73, 74, 75, 76, 77, 78, 79, 80, 61, 62, 63, 64, 65, 66, 67, 68, 81, 82, 83] rfl (by decide +kernel)) (goodIn_sub (fun _ h => List.mem_cons_of_mem _ (List.mem_append_left _ (List.mem_append_left _ (List.mem_append_right _ h)))) (by decide +kernel))) (goodIn_sub (fun _ h => List.mem_cons_of_mem _ (List.mem_append_left _ (List.mem_append_right _ h))) (by decide +kernel))) (goodIn_sub (fun _ h => List.mem_cons_of_mem _ (List.mem_append_right _ h)) (by decide +kernel))
set_option maxRecDepth 20000 in
theorem gX5_least_X5_rollupAt : GoodIn wsX5_least (wsV RX5 147 RX5 yX5_rollupAt wsX5_rollupAt) := goodIn_app (goodIn_of _ (by decide +kernel)) ggX5_least_X5_rollupAt
theorem dX5_least_0 : decode cX5_least 0 = .ok (.aload_n 0, 1) := by decide +kernel
theorem dX5_least_1 : decode cX5_least 1 = .ok (.iload_n 1, 1) := by decide +kernel
theorem dX5_least_2 : decode cX5_least 2 = .ok (.iload_n 2, 1) := by decide +kernel
theorem dX5_least_3 : decode cX5_least 3 = .ok (.iload_n 3, 1) := by decide +kernel
theorem dX5_least_4 : decode cX5_least 4 = .ok (.invokevirtual 147, 3) := by decide +kernel
theorem dX5_least_7 : decode cX5_least 7 = .ok (.getfield 160, 3) := by decide +kernel
theorem dX5_least_10 : decode cX5_least 10 = .ok (.ireturn, 1) := by decide +kernel
set_option maxRecDepth 400000 in
theorem ggX5_greatest_X5_rollupAt : GoodIn wsX5_greatest wsX5_rollupAt := goodIn_ca (goodIn_ca (goodIn_ca (goodIn_r _ [6, 7, 8, 9, 10, 11, 5, 12, 13, 14, 15, 16, 17, 18, 19, 20, 21, 22, 23, 24, 25, 26, 27, 28, 29, 30, 31, 32, 33, 34, 35, 36, 37, 38, 39, 40, 41, 42, 43, 44, 45, 46, 47, 48, 49, 50, 51, 52, 53, 54, 55, 56, 57, 58, 59, 60, 69, 70, 71, 72, 73, 74, 75, 76, 77, 78, 79, 80, 61, 62, 63, 64, 65, 66, 67, 68, 81, 82, 83] rfl (by decide +kernel)) (goodIn_sub (fun _ h => List.mem_cons_of_mem _ (List.mem_append_left _ (List.mem_append_left _ (List.mem_append_right _ h)))) (by decide +kernel))) (goodIn_sub (fun _ h => List.mem_cons_of_mem _ (List.mem_append_left _ (List.mem_append_right _ h))) (by decide +kernel))) (goodIn_sub (fun _ h => List.mem_cons_of_mem _ (List.mem_append_right _ h)) (by decide +kernel))
set_option maxRecDepth 20000 in
theorem gX5_greatest_X5_rollupAt : GoodIn wsX5_greatest (wsV RX5 147 RX5 yX5_rollupAt wsX5_rollupAt) := goodIn_app (goodIn_of _ (by decide +kernel)) ggX5_greatest_X5_rollupAt
theorem dX5_greatest_0 : decode cX5_greatest 0 = .ok (.aload_n 0, 1) := by decide +kernel
theorem dX5_greatest_1 : decode cX5_greatest 1 = .ok (.iload_n 1, 1) := by decide +kernel
theorem dX5_greatest_2 : decode cX5_greatest 2 = .ok (.iload_n 2, 1) := by decide +kernel
theorem dX5_greatest_3 : decode cX5_greatest 3 = .ok (.iload_n 3, 1) := by decide +kernel
theorem dX5_greatest_4 : decode cX5_greatest 4 = .ok (.invokevirtual 147, 3) := by decide +kernel
theorem dX5_greatest_7 : decode cX5_greatest 7 = .ok (.getfield 163, 3) := by decide +kernel
theorem dX5_greatest_10 : decode cX5_greatest 10 = .ok (.ireturn, 1) := by decide +kernel
set_option maxRecDepth 400000 in
theorem ggX5_first_X5_rollupAt : GoodIn wsX5_first wsX5_rollupAt := goodIn_ca (goodIn_ca (goodIn_ca (goodIn_r _ [6, 7, 8, 9, 10, 11, 5, 12, 13, 14, 15, 16, 17, 18, 19, 20, 21, 22, 23, 24, 25, 26, 27, 28, 29, 30, 31, 32, 33, 34, 35, 36, 37, 38, 39, 40, 41, 42, 43, 44, 45, 46, 47, 48, 49, 50, 51, 52, 53, 54, 55, 56, 57, 58, 59, 60, 69, 70, 71, 72, 73, 74, 75, 76, 77, 78, 79, 80, 61, 62, 63, 64, 65, 66, 67, 68, 81, 82, 83] rfl (by decide +kernel)) (goodIn_sub (fun _ h => List.mem_cons_of_mem _ (List.mem_append_left _ (List.mem_append_left _ (List.mem_append_right _ h)))) (by decide +kernel))) (goodIn_sub (fun _ h => List.mem_cons_of_mem _ (List.mem_append_left _ (List.mem_append_right _ h))) (by decide +kernel))) (goodIn_sub (fun _ h => List.mem_cons_of_mem _ (List.mem_append_right _ h)) (by decide +kernel))
set_option maxRecDepth 20000 in
theorem gX5_first_X5_rollupAt : GoodIn wsX5_first (wsV RX5 147 RX5 yX5_rollupAt wsX5_rollupAt) := goodIn_app (goodIn_of _ (by decide +kernel)) ggX5_first_X5_rollupAt
theorem dX5_first_0 : decode cX5_first 0 = .ok (.aload_n 0, 1) := by decide +kernel
theorem dX5_first_1 : decode cX5_first 1 = .ok (.iload_n 1, 1) := by decide +kernel
theorem dX5_first_2 : decode cX5_first 2 = .ok (.iload_n 2, 1) := by decide +kernel
theorem dX5_first_3 : decode cX5_first 3 = .ok (.iload_n 3, 1) := by decide +kernel
theorem dX5_first_4 : decode cX5_first 4 = .ok (.invokevirtual 147, 3) := by decide +kernel
theorem dX5_first_7 : decode cX5_first 7 = .ok (.getfield 166, 3) := by decide +kernel
theorem dX5_first_10 : decode cX5_first 10 = .ok (.ireturn, 1) := by decide +kernel
set_option maxRecDepth 400000 in
theorem ggX5_last_X5_rollupAt : GoodIn wsX5_last wsX5_rollupAt := goodIn_ca (goodIn_ca (goodIn_ca (goodIn_r _ [6, 7, 8, 9, 10, 11, 5, 12, 13, 14, 15, 16, 17, 18, 19, 20, 21, 22, 23, 24, 25, 26, 27, 28, 29, 30, 31, 32, 33, 34, 35, 36, 37, 38, 39, 40, 41, 42, 43, 44, 45, 46, 47, 48, 49, 50, 51, 52, 53, 54, 55, 56, 57, 58, 59, 60, 69, 70, 71, 72, 73, 74, 75, 76, 77, 78, 79, 80, 61, 62, 63, 64, 65, 66, 67, 68, 81, 82, 83] rfl (by decide +kernel)) (goodIn_sub (fun _ h => List.mem_cons_of_mem _ (List.mem_append_left _ (List.mem_append_left _ (List.mem_append_right _ h)))) (by decide +kernel))) (goodIn_sub (fun _ h => List.mem_cons_of_mem _ (List.mem_append_left _ (List.mem_append_right _ h))) (by decide +kernel))) (goodIn_sub (fun _ h => List.mem_cons_of_mem _ (List.mem_append_right _ h)) (by decide +kernel))
set_option maxRecDepth 20000 in
theorem gX5_last_X5_rollupAt : GoodIn wsX5_last (wsV RX5 147 RX5 yX5_rollupAt wsX5_rollupAt) := goodIn_app (goodIn_of _ (by decide +kernel)) ggX5_last_X5_rollupAt
theorem dX5_last_0 : decode cX5_last 0 = .ok (.aload_n 0, 1) := by decide +kernel
theorem dX5_last_1 : decode cX5_last 1 = .ok (.iload_n 1, 1) := by decide +kernel
theorem dX5_last_2 : decode cX5_last 2 = .ok (.iload_n 2, 1) := by decide +kernel
theorem dX5_last_3 : decode cX5_last 3 = .ok (.iload_n 3, 1) := by decide +kernel
theorem dX5_last_4 : decode cX5_last 4 = .ok (.invokevirtual 147, 3) := by decide +kernel
theorem dX5_last_7 : decode cX5_last 7 = .ok (.getfield 169, 3) := by decide +kernel
theorem dX5_last_10 : decode cX5_last 10 = .ok (.ireturn, 1) := by decide +kernel
set_option maxRecDepth 400000 in
theorem ggX5_filled_X5_rollupsAt : GoodIn wsX5_filled wsX5_rollupsAt := goodIn_ca (goodIn_ca (goodIn_r _ [9, 10, 11, 12, 13, 14, 8, 15, 16, 17, 18, 19, 20, 21, 22, 23, 24, 25, 26, 27, 28, 29, 30, 66, 67, 68, 69, 70, 71, 72, 73, 74, 75, 76, 77] rfl (by decide +kernel)) (goodIn_sub (fun _ h => List.mem_cons_of_mem _ (List.mem_append_left _ (List.mem_append_right _ h))) (by decide +kernel))) (goodIn_sub (fun _ h => List.mem_cons_of_mem _ (List.mem_append_right _ h)) (by decide +kernel))
set_option maxRecDepth 20000 in
theorem gX5_filled_X5_rollupsAt : GoodIn wsX5_filled (wsV RX5 172 RX5 yX5_rollupsAt wsX5_rollupsAt) := goodIn_app (goodIn_of _ (by decide +kernel)) ggX5_filled_X5_rollupsAt
set_option maxRecDepth 400000 in
theorem ggX5_filled_X5_needRange : GoodIn wsX5_filled wsX5_needRange := goodIn_ca (goodIn_r _ [22, 10, 11] rfl (by decide +kernel)) (goodIn_sub (fun _ h => List.mem_cons_of_mem _ (List.mem_append_left _ (List.mem_append_right _ h))) (by decide +kernel))
set_option maxRecDepth 20000 in
theorem gX5_filled_X5_needRange : GoodIn wsX5_filled (va_wsS RX5 39 yX5_needRange wsX5_needRange) := goodIn_app (goodIn_of _ (by decide +kernel)) ggX5_filled_X5_needRange
set_option maxRecDepth 400000 in
theorem ggX5_filled_X5_beginOf : GoodIn wsX5_filled wsX5_beginOf := goodIn_r _ [33, 34, 35, 8, 36, 37] rfl (by decide +kernel)
set_option maxRecDepth 20000 in
theorem gX5_filled_X5_beginOf : GoodIn wsX5_filled (va_wsS RX5 176 yX5_beginOf wsX5_beginOf) := goodIn_app (goodIn_of _ (by decide +kernel)) ggX5_filled_X5_beginOf
set_option maxRecDepth 400000 in
theorem ggX5_filled_X2_placeFrom : GoodIn wsX5_filled wsX2_placeFrom := goodIn_r _ [42, 43, 44, 45, 46, 41, 47, 48, 49, 58, 59, 60, 61, 62, 63, 64, 65, 78, 79, 80] rfl (by decide +kernel)
set_option maxRecDepth 20000 in
theorem gX5_filled_X2_placeFrom : GoodIn wsX5_filled (wsV RX5 179 RX2 yX2_placeFrom wsX2_placeFrom) := goodIn_app (goodIn_of _ (by decide +kernel)) ggX5_filled_X2_placeFrom
set_option maxRecDepth 400000 in
theorem ggX5_filled_X2_rowOrNull : GoodIn wsX5_filled wsX2_rowOrNull := goodIn_r _ [47, 48, 49, 78, 79, 80] rfl (by decide +kernel)
set_option maxRecDepth 20000 in
theorem gX5_filled_X2_rowOrNull : GoodIn wsX5_filled (wsV RX5 132 RX2 yX2_rowOrNull wsX2_rowOrNull) := goodIn_app (goodIn_of _ (by decide +kernel)) ggX5_filled_X2_rowOrNull
set_option maxRecDepth 400000 in
theorem ggX5_filled_X5_valueBetween : GoodIn wsX5_filled wsX5_valueBetween := goodIn_r _ [53, 4, 3, 54, 55, 56, 57, 58, 59, 60, 61, 62, 63, 64, 65] rfl (by decide +kernel)
set_option maxRecDepth 20000 in
theorem gX5_filled_X5_valueBetween : GoodIn wsX5_filled (va_wsS RX5 184 yX5_valueBetween wsX5_valueBetween) := goodIn_app (goodIn_of _ (by decide +kernel)) ggX5_filled_X5_valueBetween
theorem dX5_filled_0 : decode cX5_filled 0 = .ok (.aload_n 0, 1) := by decide +kernel
theorem dX5_filled_1 : decode cX5_filled 1 = .ok (.iload_n 1, 1) := by decide +kernel
theorem dX5_filled_2 : decode cX5_filled 2 = .ok (.iload_n 2, 1) := by decide +kernel
theorem dX5_filled_3 : decode cX5_filled 3 = .ok (.iload_n 3, 1) := by decide +kernel
theorem dX5_filled_4 : decode cX5_filled 4 = .ok (.invokevirtual 172, 3) := by decide +kernel
theorem dX5_filled_7 : decode cX5_filled 7 = .ok (.astore 5, 2) := by decide +kernel
theorem dX5_filled_9 : decode cX5_filled 9 = .ok (.iload 4, 2) := by decide +kernel
theorem dX5_filled_11 : decode cX5_filled 11 = .ok (.iconst 0, 1) := by decide +kernel
theorem dX5_filled_12 : decode cX5_filled 12 = .ok (.iconst 2, 1) := by decide +kernel
theorem dX5_filled_13 : decode cX5_filled 13 = .ok (.invokestatic 39, 3) := by decide +kernel
theorem dX5_filled_16 : decode cX5_filled 16 = .ok (.iload_n 2, 1) := by decide +kernel
theorem dX5_filled_17 : decode cX5_filled 17 = .ok (.iload_n 3, 1) := by decide +kernel
theorem dX5_filled_18 : decode cX5_filled 18 = .ok (.invokestatic 176, 3) := by decide +kernel
theorem dX5_filled_21 : decode cX5_filled 21 = .ok (.istore 6, 2) := by decide +kernel
theorem dX5_filled_23 : decode cX5_filled 23 = .ok (.aload 5, 2) := by decide +kernel
theorem dX5_filled_25 : decode cX5_filled 25 = .ok (.iload 6, 2) := by decide +kernel
theorem dX5_filled_27 : decode cX5_filled 27 = .ok (.invokevirtual 179, 3) := by decide +kernel
theorem dX5_filled_30 : decode cX5_filled 30 = .ok (.istore 7, 2) := by decide +kernel
theorem dX5_filled_32 : decode cX5_filled 32 = .ok (.aload 5, 2) := by decide +kernel
theorem dX5_filled_34 : decode cX5_filled 34 = .ok (.iload 7, 2) := by decide +kernel
theorem dX5_filled_36 : decode cX5_filled 36 = .ok (.iconst 1, 1) := by decide +kernel
theorem dX5_filled_37 : decode cX5_filled 37 = .ok (.isub, 1) := by decide +kernel
theorem dX5_filled_38 : decode cX5_filled 38 = .ok (.invokevirtual 132, 3) := by decide +kernel
theorem dX5_filled_41 : decode cX5_filled 41 = .ok (.astore 8, 2) := by decide +kernel
theorem dX5_filled_43 : decode cX5_filled 43 = .ok (.aload 5, 2) := by decide +kernel
theorem dX5_filled_45 : decode cX5_filled 45 = .ok (.iload 7, 2) := by decide +kernel
theorem dX5_filled_47 : decode cX5_filled 47 = .ok (.invokevirtual 132, 3) := by decide +kernel
theorem dX5_filled_50 : decode cX5_filled 50 = .ok (.astore 9, 2) := by decide +kernel
theorem dX5_filled_52 : decode cX5_filled 52 = .ok (.aload 9, 2) := by decide +kernel
theorem dX5_filled_54 : decode cX5_filled 54 = .ok (.ifnull 19, 3) := by decide +kernel
theorem dX5_filled_57 : decode cX5_filled 57 = .ok (.aload 9, 2) := by decide +kernel
theorem dX5_filled_59 : decode cX5_filled 59 = .ok (.getfield 140, 3) := by decide +kernel
theorem dX5_filled_62 : decode cX5_filled 62 = .ok (.iload 6, 2) := by decide +kernel
theorem dX5_filled_64 : decode cX5_filled 64 = .ok (.if_icmp .ne 9, 3) := by decide +kernel
theorem dX5_filled_67 : decode cX5_filled 67 = .ok (.aload 9, 2) := by decide +kernel
theorem dX5_filled_69 : decode cX5_filled 69 = .ok (.getfield 169, 3) := by decide +kernel
theorem dX5_filled_72 : decode cX5_filled 72 = .ok (.ireturn, 1) := by decide +kernel
theorem dX5_filled_73 : decode cX5_filled 73 = .ok (.iload 4, 2) := by decide +kernel
theorem dX5_filled_75 : decode cX5_filled 75 = .ok (.ifCond .ne 5, 3) := by decide +kernel
theorem dX5_filled_78 : decode cX5_filled 78 = .ok (.iconst 0, 1) := by decide +kernel
theorem dX5_filled_79 : decode cX5_filled 79 = .ok (.ireturn, 1) := by decide +kernel
theorem dX5_filled_80 : decode cX5_filled 80 = .ok (.aload 8, 2) := by decide +kernel
theorem dX5_filled_82 : decode cX5_filled 82 = .ok (.ifnull 14, 3) := by decide +kernel
theorem dX5_filled_85 : decode cX5_filled 85 = .ok (.iload 4, 2) := by decide +kernel
theorem dX5_filled_87 : decode cX5_filled 87 = .ok (.iconst 2, 1) := by decide +kernel
theorem dX5_filled_88 : decode cX5_filled 88 = .ok (.if_icmp .ne 18, 3) := by decide +kernel
theorem dX5_filled_91 : decode cX5_filled 91 = .ok (.aload 9, 2) := by decide +kernel
theorem dX5_filled_93 : decode cX5_filled 93 = .ok (.ifnonnull 13, 3) := by decide +kernel
theorem dX5_filled_96 : decode cX5_filled 96 = .ok (.new 47, 3) := by decide +kernel
theorem dX5_filled_99 : decode cX5_filled 99 = .ok (.dup, 1) := by decide +kernel
theorem dX5_filled_100 : decode cX5_filled 100 = .ok (.ldc 182, 2) := by decide +kernel
theorem dX5_filled_102 : decode cX5_filled 102 = .ok (.invokespecial 51, 3) := by decide +kernel
theorem dX5_filled_105 : decode cX5_filled 105 = .ok (.athrow, 1) := by decide +kernel
theorem dX5_filled_106 : decode cX5_filled 106 = .ok (.iload 4, 2) := by decide +kernel
theorem dX5_filled_108 : decode cX5_filled 108 = .ok (.iconst 1, 1) := by decide +kernel
theorem dX5_filled_109 : decode cX5_filled 109 = .ok (.if_icmp .ne 11, 3) := by decide +kernel
theorem dX5_filled_112 : decode cX5_filled 112 = .ok (.aload 8, 2) := by decide +kernel
theorem dX5_filled_114 : decode cX5_filled 114 = .ok (.getfield 169, 3) := by decide +kernel
theorem dX5_filled_117 : decode cX5_filled 117 = .ok (.goto 12, 3) := by decide +kernel
theorem dX5_filled_120 : decode cX5_filled 120 = .ok (.aload 8, 2) := by decide +kernel
theorem dX5_filled_122 : decode cX5_filled 122 = .ok (.aload 9, 2) := by decide +kernel
theorem dX5_filled_124 : decode cX5_filled 124 = .ok (.iload 6, 2) := by decide +kernel
theorem dX5_filled_126 : decode cX5_filled 126 = .ok (.invokestatic 184, 3) := by decide +kernel
theorem dX5_filled_129 : decode cX5_filled 129 = .ok (.ireturn, 1) := by decide +kernel
set_option maxRecDepth 400000 in
theorem ggX5_parts_X5_needWindow : GoodIn wsX5_parts wsX5_needWindow := goodIn_ca (goodIn_r _ [5, 6, 7] rfl (by decide +kernel)) (goodIn_sub (fun _ h => List.mem_cons_of_mem _ (List.mem_append_right _ h)) (by decide +kernel))
set_option maxRecDepth 20000 in
theorem gX5_parts_X5_needWindow : GoodIn wsX5_parts (va_wsS RX5 188 yX5_needWindow wsX5_needWindow) := goodIn_app (goodIn_of _ (by decide +kernel)) ggX5_parts_X5_needWindow
set_option maxRecDepth 400000 in
theorem ggX5_parts_X4_cut : GoodIn wsX5_parts wsX4_cut := goodIn_r _ [12, 13, 14, 15, 16, 17, 18, 19, 20, 11, 21, 22, 23, 24, 25, 26, 38, 39, 40, 41, 42, 43] rfl (by decide +kernel)
set_option maxRecDepth 20000 in
theorem gX5_parts_X4_cut : GoodIn wsX5_parts (wsV RX5 191 RX4 yX4_cut wsX4_cut) := goodIn_app (goodIn_of _ (by decide +kernel)) ggX5_parts_X4_cut
set_option maxRecDepth 400000 in
theorem ggX5_parts_X4_countParts : GoodIn wsX5_parts wsX4_countParts := goodIn_r _ [30, 22, 13, 14, 23, 16, 17, 15, 38, 39, 40, 41, 42, 43] rfl (by decide +kernel)
set_option maxRecDepth 20000 in
theorem gX5_parts_X4_countParts : GoodIn wsX5_parts (wsV RX5 194 RX4 yX4_countParts wsX4_countParts) := goodIn_app (goodIn_of _ (by decide +kernel)) ggX5_parts_X4_countParts
theorem dX5_parts_0 : decode cX5_parts 0 = .ok (.iload_n 1, 1) := by decide +kernel
theorem dX5_parts_1 : decode cX5_parts 1 = .ok (.iload_n 2, 1) := by decide +kernel
theorem dX5_parts_2 : decode cX5_parts 2 = .ok (.bipush 60, 2) := by decide +kernel
theorem dX5_parts_4 : decode cX5_parts 4 = .ok (.invokestatic 188, 3) := by decide +kernel
theorem dX5_parts_7 : decode cX5_parts 7 = .ok (.aload_n 0, 1) := by decide +kernel
theorem dX5_parts_8 : decode cX5_parts 8 = .ok (.getfield 28, 3) := by decide +kernel
theorem dX5_parts_11 : decode cX5_parts 11 = .ok (.iload_n 1, 1) := by decide +kernel
theorem dX5_parts_12 : decode cX5_parts 12 = .ok (.iload_n 2, 1) := by decide +kernel
theorem dX5_parts_13 : decode cX5_parts 13 = .ok (.invokevirtual 191, 3) := by decide +kernel
theorem dX5_parts_16 : decode cX5_parts 16 = .ok (.aload_n 0, 1) := by decide +kernel
theorem dX5_parts_17 : decode cX5_parts 17 = .ok (.getfield 28, 3) := by decide +kernel
theorem dX5_parts_20 : decode cX5_parts 20 = .ok (.invokevirtual 194, 3) := by decide +kernel
theorem dX5_parts_23 : decode cX5_parts 23 = .ok (.ireturn, 1) := by decide +kernel
set_option maxRecDepth 400000 in
theorem ggX5_isKnown_X5_needWindow : GoodIn wsX5_isKnown wsX5_needWindow := goodIn_ca (goodIn_r _ [6, 7, 8] rfl (by decide +kernel)) (goodIn_sub (fun _ h => List.mem_cons_of_mem _ (List.mem_append_right _ h)) (by decide +kernel))
set_option maxRecDepth 20000 in
theorem gX5_isKnown_X5_needWindow : GoodIn wsX5_isKnown (va_wsS RX5 188 yX5_needWindow wsX5_needWindow) := goodIn_app (goodIn_of _ (by decide +kernel)) ggX5_isKnown_X5_needWindow
set_option maxRecDepth 400000 in
theorem ggX5_isKnown_X4_cut : GoodIn wsX5_isKnown wsX4_cut := goodIn_r _ [13, 14, 15, 16, 17, 18, 19, 20, 21, 12, 22, 23, 24, 25, 26, 27, 42, 43, 44, 45, 46, 47] rfl (by decide +kernel)
set_option maxRecDepth 20000 in
theorem gX5_isKnown_X4_cut : GoodIn wsX5_isKnown (wsV RX5 191 RX4 yX4_cut wsX4_cut) := goodIn_app (goodIn_of _ (by decide +kernel)) ggX5_isKnown_X4_cut
set_option maxRecDepth 400000 in
theorem ggX5_isKnown_X4_hasExpiredPart : GoodIn wsX5_isKnown wsX4_hasExpiredPart := goodIn_r _ [31, 14, 23, 17, 18, 16, 24, 15, 32, 33, 12, 34, 42, 43, 44, 45, 46, 47] rfl (by decide +kernel)
set_option maxRecDepth 20000 in
theorem gX5_isKnown_X4_hasExpiredPart : GoodIn wsX5_isKnown (wsV RX5 198 RX4 yX4_hasExpiredPart wsX4_hasExpiredPart) := goodIn_app (goodIn_of _ (by decide +kernel)) ggX5_isKnown_X4_hasExpiredPart
theorem dX5_isKnown_0 : decode cX5_isKnown 0 = .ok (.iload_n 1, 1) := by decide +kernel
theorem dX5_isKnown_1 : decode cX5_isKnown 1 = .ok (.iload_n 2, 1) := by decide +kernel
theorem dX5_isKnown_2 : decode cX5_isKnown 2 = .ok (.bipush 60, 2) := by decide +kernel
theorem dX5_isKnown_4 : decode cX5_isKnown 4 = .ok (.invokestatic 188, 3) := by decide +kernel
theorem dX5_isKnown_7 : decode cX5_isKnown 7 = .ok (.aload_n 0, 1) := by decide +kernel
theorem dX5_isKnown_8 : decode cX5_isKnown 8 = .ok (.getfield 28, 3) := by decide +kernel
theorem dX5_isKnown_11 : decode cX5_isKnown 11 = .ok (.iload_n 1, 1) := by decide +kernel
theorem dX5_isKnown_12 : decode cX5_isKnown 12 = .ok (.iload_n 2, 1) := by decide +kernel
theorem dX5_isKnown_13 : decode cX5_isKnown 13 = .ok (.invokevirtual 191, 3) := by decide +kernel
theorem dX5_isKnown_16 : decode cX5_isKnown 16 = .ok (.aload_n 0, 1) := by decide +kernel
theorem dX5_isKnown_17 : decode cX5_isKnown 17 = .ok (.getfield 28, 3) := by decide +kernel
theorem dX5_isKnown_20 : decode cX5_isKnown 20 = .ok (.aload_n 0, 1) := by decide +kernel
theorem dX5_isKnown_21 : decode cX5_isKnown 21 = .ok (.getfield 22, 3) := by decide +kernel
theorem dX5_isKnown_24 : decode cX5_isKnown 24 = .ok (.invokevirtual 198, 3) := by decide +kernel
theorem dX5_isKnown_27 : decode cX5_isKnown 27 = .ok (.ifCond .ne 7, 3) := by decide +kernel
theorem dX5_isKnown_30 : decode cX5_isKnown 30 = .ok (.iconst 1, 1) := by decide +kernel
theorem dX5_isKnown_31 : decode cX5_isKnown 31 = .ok (.goto 4, 3) := by decide +kernel
theorem dX5_isKnown_34 : decode cX5_isKnown 34 = .ok (.iconst 0, 1) := by decide +kernel
theorem dX5_isKnown_35 : decode cX5_isKnown 35 = .ok (.ireturn, 1) := by decide +kernel
set_option maxRecDepth 400000 in
theorem ggX5_total_X5_seriesAt : GoodIn wsX5_total wsX5_seriesAt := goodIn_ca (goodIn_r _ [7, 8, 9, 10, 11, 108, 109, 110, 111, 112, 113, 114] rfl (by decide +kernel)) (goodIn_sub (fun _ h => List.mem_cons_of_mem _ (List.mem_append_left _ (List.mem_append_left _ (List.mem_append_right _ h)))) (by decide +kernel))
set_option maxRecDepth 20000 in
theorem gX5_total_X5_seriesAt : GoodIn wsX5_total (wsV RX5 57 RX5 yX5_seriesAt wsX5_seriesAt) := goodIn_app (goodIn_of _ (by decide +kernel)) ggX5_total_X5_seriesAt
set_option maxRecDepth 400000 in
theorem ggX5_total_X5_needWindow : GoodIn wsX5_total wsX5_needWindow := goodIn_ca (goodIn_r _ [14, 15, 16] rfl (by decide +kernel)) (goodIn_sub (fun _ h => List.mem_cons_of_mem _ (List.mem_append_left _ (List.mem_append_right _ h))) (by decide +kernel))
set_option maxRecDepth 20000 in
theorem gX5_total_X5_needWindow : GoodIn wsX5_total (va_wsS RX5 188 yX5_needWindow wsX5_needWindow) := goodIn_app (goodIn_of _ (by decide +kernel)) ggX5_total_X5_needWindow
set_option maxRecDepth 400000 in
theorem ggX5_total_X5_summarize : GoodIn wsX5_total wsX5_summarize := goodIn_ca (goodIn_r _ [20, 21, 22, 23, 24, 1, 25, 26, 27, 28, 29, 30, 31, 32, 33, 34, 35, 36, 37, 38, 39, 40, 41, 42, 43, 44, 45, 46, 47, 48, 49, 50, 51, 52, 53, 54, 55, 56, 57, 58, 59, 60, 61, 62, 63, 64, 65, 66, 67, 68, 69, 70, 71, 72, 73, 74, 75, 76, 77, 78, 79, 80, 81, 82, 83, 84, 85, 86, 87, 88, 89, 90, 91, 92, 93, 94, 95, 96, 97, 98, 99, 100, 101, 102, 103, 104, 105, 106, 107, 108, 109, 110, 111, 112, 113, 114, 123, 124, 125, 126, 127, 128, 115, 116, 117, 118, 119, 120, 121, 122, 129, 130, 131, 132, 133, 134, 135, 136] rfl (by decide +kernel)) (goodIn_sub (fun _ h => List.mem_cons_of_mem _ (List.mem_append_right _ h)) (by decide +kernel))
set_option maxRecDepth 20000 in
theorem gX5_total_X5_summarize : GoodIn wsX5_total (wsV RX5 202 RX5 yX5_summarize wsX5_summarize) := goodIn_app (goodIn_of _ (by decide +kernel)) ggX5_total_X5_summarize
theorem dX5_total_0 : decode cX5_total 0 = .ok (.aload_n 0, 1) := by decide +kernel
theorem dX5_total_1 : decode cX5_total 1 = .ok (.iload_n 1, 1) := by decide +kernel
theorem dX5_total_2 : decode cX5_total 2 = .ok (.invokevirtual 57, 3) := by decide +kernel
theorem dX5_total_5 : decode cX5_total 5 = .ok (.astore 4, 2) := by decide +kernel
theorem dX5_total_7 : decode cX5_total 7 = .ok (.iload_n 2, 1) := by decide +kernel
theorem dX5_total_8 : decode cX5_total 8 = .ok (.iload_n 3, 1) := by decide +kernel
theorem dX5_total_9 : decode cX5_total 9 = .ok (.bipush 60, 2) := by decide +kernel
theorem dX5_total_11 : decode cX5_total 11 = .ok (.invokestatic 188, 3) := by decide +kernel
theorem dX5_total_14 : decode cX5_total 14 = .ok (.aload_n 0, 1) := by decide +kernel
theorem dX5_total_15 : decode cX5_total 15 = .ok (.aload 4, 2) := by decide +kernel
theorem dX5_total_17 : decode cX5_total 17 = .ok (.iload_n 2, 1) := by decide +kernel
theorem dX5_total_18 : decode cX5_total 18 = .ok (.iload_n 3, 1) := by decide +kernel
theorem dX5_total_19 : decode cX5_total 19 = .ok (.invokevirtual 202, 3) := by decide +kernel
theorem dX5_total_22 : decode cX5_total 22 = .ok (.aload_n 0, 1) := by decide +kernel
theorem dX5_total_23 : decode cX5_total 23 = .ok (.getfield 35, 3) := by decide +kernel
theorem dX5_total_26 : decode cX5_total 26 = .ok (.getfield 153, 3) := by decide +kernel
theorem dX5_total_29 : decode cX5_total 29 = .ok (.lreturn, 1) := by decide +kernel
set_option maxRecDepth 400000 in
theorem ggX5_totalByPoints_X5_seriesAt : GoodIn wsX5_totalByPoints wsX5_seriesAt := goodIn_ca (goodIn_r _ [11, 12, 13, 14, 15, 60, 61, 62, 63, 64, 65, 66] rfl (by decide +kernel)) (goodIn_sub (fun _ h => List.mem_cons_of_mem _ (List.mem_append_left _ (List.mem_append_right _ h))) (by decide +kernel))
set_option maxRecDepth 20000 in
theorem gX5_totalByPoints_X5_seriesAt : GoodIn wsX5_totalByPoints (wsV RX5 57 RX5 yX5_seriesAt wsX5_seriesAt) := goodIn_app (goodIn_of _ (by decide +kernel)) ggX5_totalByPoints_X5_seriesAt
set_option maxRecDepth 400000 in
theorem ggX5_totalByPoints_X5_needWindow : GoodIn wsX5_totalByPoints wsX5_needWindow := goodIn_ca (goodIn_r _ [18, 19, 20] rfl (by decide +kernel)) (goodIn_sub (fun _ h => List.mem_cons_of_mem _ (List.mem_append_right _ h)) (by decide +kernel))
set_option maxRecDepth 20000 in
theorem gX5_totalByPoints_X5_needWindow : GoodIn wsX5_totalByPoints (va_wsS RX5 188 yX5_needWindow wsX5_needWindow) := goodIn_app (goodIn_of _ (by decide +kernel)) ggX5_totalByPoints_X5_needWindow
set_option maxRecDepth 400000 in
theorem ggX5_totalByPoints_X1_clear : GoodIn wsX5_totalByPoints wsX1_clear := goodIn_r _ [25, 26, 27, 28, 72, 73, 74, 75, 76, 77, 78, 79] rfl (by decide +kernel)
set_option maxRecDepth 20000 in
theorem gX5_totalByPoints_X1_clear : GoodIn wsX5_totalByPoints (wsV RX5 207 RX1 yX1_clear wsX1_clear) := goodIn_app (goodIn_of _ (by decide +kernel)) ggX5_totalByPoints_X1_clear
set_option maxRecDepth 400000 in
theorem ggX5_totalByPoints_X0_addTo : GoodIn wsX5_totalByPoints wsX0_addTo := goodIn_r _ [33, 34, 35, 36, 37, 38, 39, 32, 40, 41, 42, 43, 24, 44, 26, 45, 46, 47, 48, 49, 50, 51, 52, 53, 27, 54, 55, 56, 57, 58, 28, 59, 80, 81, 82, 72, 73, 74, 75, 76, 77, 78, 79] rfl (by decide +kernel)
set_option maxRecDepth 20000 in
theorem gX5_totalByPoints_X0_addTo : GoodIn wsX5_totalByPoints (wsV RX5 210 RX0 yX0_addTo wsX0_addTo) := goodIn_app (goodIn_of _ (by decide +kernel)) ggX5_totalByPoints_X0_addTo
theorem dX5_totalByPoints_0 : decode cX5_totalByPoints 0 = .ok (.aload_n 0, 1) := by decide +kernel
theorem dX5_totalByPoints_1 : decode cX5_totalByPoints 1 = .ok (.iload_n 1, 1) := by decide +kernel
theorem dX5_totalByPoints_2 : decode cX5_totalByPoints 2 = .ok (.invokevirtual 57, 3) := by decide +kernel
theorem dX5_totalByPoints_5 : decode cX5_totalByPoints 5 = .ok (.astore 4, 2) := by decide +kernel
theorem dX5_totalByPoints_7 : decode cX5_totalByPoints 7 = .ok (.iload_n 2, 1) := by decide +kernel
theorem dX5_totalByPoints_8 : decode cX5_totalByPoints 8 = .ok (.iload_n 3, 1) := by decide +kernel
theorem dX5_totalByPoints_9 : decode cX5_totalByPoints 9 = .ok (.bipush 60, 2) := by decide +kernel
theorem dX5_totalByPoints_11 : decode cX5_totalByPoints 11 = .ok (.invokestatic 188, 3) := by decide +kernel
theorem dX5_totalByPoints_14 : decode cX5_totalByPoints 14 = .ok (.iload_n 2, 1) := by decide +kernel
theorem dX5_totalByPoints_15 : decode cX5_totalByPoints 15 = .ok (.aload_n 0, 1) := by decide +kernel
theorem dX5_totalByPoints_16 : decode cX5_totalByPoints 16 = .ok (.getfield 22, 3) := by decide +kernel
theorem dX5_totalByPoints_19 : decode cX5_totalByPoints 19 = .ok (.iconst 0, 1) := by decide +kernel
theorem dX5_totalByPoints_20 : decode cX5_totalByPoints 20 = .ok (.iaload, 1) := by decide +kernel
theorem dX5_totalByPoints_21 : decode cX5_totalByPoints 21 = .ok (.if_icmp .ge 13, 3) := by decide +kernel
theorem dX5_totalByPoints_24 : decode cX5_totalByPoints 24 = .ok (.new 47, 3) := by decide +kernel
theorem dX5_totalByPoints_27 : decode cX5_totalByPoints 27 = .ok (.dup, 1) := by decide +kernel
theorem dX5_totalByPoints_28 : decode cX5_totalByPoints 28 = .ok (.ldc 205, 2) := by decide +kernel
theorem dX5_totalByPoints_30 : decode cX5_totalByPoints 30 = .ok (.invokespecial 51, 3) := by decide +kernel
theorem dX5_totalByPoints_33 : decode cX5_totalByPoints 33 = .ok (.athrow, 1) := by decide +kernel
theorem dX5_totalByPoints_34 : decode cX5_totalByPoints 34 = .ok (.aload_n 0, 1) := by decide +kernel
theorem dX5_totalByPoints_35 : decode cX5_totalByPoints 35 = .ok (.getfield 35, 3) := by decide +kernel
theorem dX5_totalByPoints_38 : decode cX5_totalByPoints 38 = .ok (.invokevirtual 207, 3) := by decide +kernel
theorem dX5_totalByPoints_41 : decode cX5_totalByPoints 41 = .ok (.aload 4, 2) := by decide +kernel
theorem dX5_totalByPoints_43 : decode cX5_totalByPoints 43 = .ok (.getfield 91, 3) := by decide +kernel
theorem dX5_totalByPoints_46 : decode cX5_totalByPoints 46 = .ok (.aload_n 0, 1) := by decide +kernel
theorem dX5_totalByPoints_47 : decode cX5_totalByPoints 47 = .ok (.getfield 35, 3) := by decide +kernel
theorem dX5_totalByPoints_50 : decode cX5_totalByPoints 50 = .ok (.iload_n 2, 1) := by decide +kernel
theorem dX5_totalByPoints_51 : decode cX5_totalByPoints 51 = .ok (.iload_n 3, 1) := by decide +kernel
theorem dX5_totalByPoints_52 : decode cX5_totalByPoints 52 = .ok (.invokevirtual 210, 3) := by decide +kernel
theorem dX5_totalByPoints_55 : decode cX5_totalByPoints 55 = .ok (.aload_n 0, 1) := by decide +kernel
theorem dX5_totalByPoints_56 : decode cX5_totalByPoints 56 = .ok (.getfield 35, 3) := by decide +kernel
theorem dX5_totalByPoints_59 : decode cX5_totalByPoints 59 = .ok (.getfield 153, 3) := by decide +kernel
theorem dX5_totalByPoints_62 : decode cX5_totalByPoints 62 = .ok (.lreturn, 1) := by decide +kernel
set_option maxRecDepth 400000 in
theorem ggX5_increase_X5_seriesAt : GoodIn wsX5_increase wsX5_seriesAt := goodIn_ca (goodIn_r _ [5, 6, 7, 8, 9, 113, 114, 115, 116, 117, 118, 119] rfl (by decide +kernel)) (goodIn_sub (fun _ h => List.mem_cons_of_mem _ (List.mem_append_left _ (List.mem_append_left _ (List.mem_append_right _ h)))) (by decide +kernel))
set_option maxRecDepth 20000 in
theorem gX5_increase_X5_seriesAt : GoodIn wsX5_increase (wsV RX5 57 RX5 yX5_seriesAt wsX5_seriesAt) := goodIn_app (goodIn_of _ (by decide +kernel)) ggX5_increase_X5_seriesAt
set_option maxRecDepth 400000 in
theorem ggX5_increase_X5_needWindow : GoodIn wsX5_increase wsX5_needWindow := goodIn_ca (goodIn_r _ [12, 13, 14] rfl (by decide +kernel)) (goodIn_sub (fun _ h => List.mem_cons_of_mem _ (List.mem_append_left _ (List.mem_append_right _ h))) (by decide +kernel))
set_option maxRecDepth 20000 in
theorem gX5_increase_X5_needWindow : GoodIn wsX5_increase (va_wsS RX5 188 yX5_needWindow wsX5_needWindow) := goodIn_app (goodIn_of _ (by decide +kernel)) ggX5_increase_X5_needWindow
set_option maxRecDepth 400000 in
theorem ggX5_increase_X5_increaseIn : GoodIn wsX5_increase wsX5_increaseIn := goodIn_ca (goodIn_r _ [18, 19, 20, 21, 22, 23, 24, 25, 26, 4, 27, 28, 29, 30, 31, 32, 33, 34, 35, 36, 37, 38, 39, 40, 41, 42, 43, 44, 45, 46, 47, 48, 49, 50, 51, 52, 53, 54, 55, 56, 57, 58, 59, 60, 61, 62, 63, 64, 65, 66, 67, 68, 69, 70, 71, 72, 73, 74, 75, 76, 77, 78, 79, 80, 81, 82, 83, 84, 85, 86, 87, 88, 89, 90, 91, 92, 93, 94, 95, 96, 97, 98, 99, 100, 101, 102, 103, 104, 105, 106, 107, 108, 109, 110, 111, 112, 120, 121, 122, 123, 124, 113, 114, 115, 116, 117, 118, 119, 125, 126, 127, 128, 129, 130, 131, 132, 133, 134, 135, 136, 137, 138, 139, 140, 141] rfl (by decide +kernel)) (goodIn_sub (fun _ h => List.mem_cons_of_mem _ (List.mem_append_right _ h)) (by decide +kernel))
set_option maxRecDepth 20000 in
theorem gX5_increase_X5_increaseIn : GoodIn wsX5_increase (wsV RX5 214 RX5 yX5_increaseIn wsX5_increaseIn) := goodIn_app (goodIn_of _ (by decide +kernel)) ggX5_increase_X5_increaseIn
theorem dX5_increase_0 : decode cX5_increase 0 = .ok (.aload_n 0, 1) := by decide +kernel
theorem dX5_increase_1 : decode cX5_increase 1 = .ok (.iload_n 1, 1) := by decide +kernel
theorem dX5_increase_2 : decode cX5_increase 2 = .ok (.invokevirtual 57, 3) := by decide +kernel
theorem dX5_increase_5 : decode cX5_increase 5 = .ok (.astore 4, 2) := by decide +kernel
theorem dX5_increase_7 : decode cX5_increase 7 = .ok (.iload_n 2, 1) := by decide +kernel
theorem dX5_increase_8 : decode cX5_increase 8 = .ok (.iload_n 3, 1) := by decide +kernel
theorem dX5_increase_9 : decode cX5_increase 9 = .ok (.bipush 60, 2) := by decide +kernel
theorem dX5_increase_11 : decode cX5_increase 11 = .ok (.invokestatic 188, 3) := by decide +kernel
theorem dX5_increase_14 : decode cX5_increase 14 = .ok (.aload_n 0, 1) := by decide +kernel
theorem dX5_increase_15 : decode cX5_increase 15 = .ok (.aload 4, 2) := by decide +kernel
theorem dX5_increase_17 : decode cX5_increase 17 = .ok (.iload_n 2, 1) := by decide +kernel
theorem dX5_increase_18 : decode cX5_increase 18 = .ok (.iload_n 3, 1) := by decide +kernel
theorem dX5_increase_19 : decode cX5_increase 19 = .ok (.invokevirtual 214, 3) := by decide +kernel
theorem dX5_increase_22 : decode cX5_increase 22 = .ok (.lreturn, 1) := by decide +kernel
set_option maxRecDepth 400000 in
theorem ggX5_ratePerHour_X5_seriesAt : GoodIn wsX5_ratePerHour wsX5_seriesAt := goodIn_ca (goodIn_r _ [8, 9, 10, 11, 12, 114, 115, 116, 117, 118, 119, 120] rfl (by decide +kernel)) (goodIn_sub (fun _ h => List.mem_cons_of_mem _ (List.mem_append_left _ (List.mem_append_right _ h))) (by decide +kernel))
set_option maxRecDepth 20000 in
theorem gX5_ratePerHour_X5_seriesAt : GoodIn wsX5_ratePerHour (wsV RX5 57 RX5 yX5_seriesAt wsX5_seriesAt) := goodIn_app (goodIn_of _ (by decide +kernel)) ggX5_ratePerHour_X5_seriesAt
set_option maxRecDepth 400000 in
theorem ggX5_ratePerHour_X5_needWindow : GoodIn wsX5_ratePerHour wsX5_needWindow := goodIn_ca (goodIn_r _ [15, 1, 2] rfl (by decide +kernel)) (goodIn_sub (fun _ h => List.mem_cons_of_mem _ (List.mem_append_left _ (List.mem_append_left _ (List.mem_append_right _ h)))) (by decide +kernel))
set_option maxRecDepth 20000 in
theorem gX5_ratePerHour_X5_needWindow : GoodIn wsX5_ratePerHour (va_wsS RX5 188 yX5_needWindow wsX5_needWindow) := goodIn_app (goodIn_of _ (by decide +kernel)) ggX5_ratePerHour_X5_needWindow
set_option maxRecDepth 400000 in
theorem ggX5_ratePerHour_X5_increaseIn : GoodIn wsX5_ratePerHour wsX5_increaseIn := goodIn_ca (goodIn_r _ [19, 20, 21, 22, 23, 24, 25, 26, 27, 7, 28, 29, 30, 31, 32, 33, 34, 35, 36, 37, 38, 39, 40, 41, 42, 43, 44, 45, 46, 47, 48, 49, 50, 51, 52, 53, 54, 55, 56, 57, 58, 59, 60, 61, 62, 63, 64, 65, 66, 67, 68, 69, 70, 71, 72, 73, 74, 75, 76, 77, 78, 79, 80, 81, 82, 83, 84, 85, 86, 87, 88, 89, 90, 91, 92, 93, 94, 95, 96, 97, 98, 99, 100, 101, 102, 103, 104, 105, 106, 107, 108, 109, 110, 111, 112, 113, 121, 122, 123, 124, 125, 114, 115, 116, 117, 118, 119, 120, 126, 127, 128, 129, 130, 131, 132, 133, 134, 135, 136, 137, 138, 139, 140, 141, 142] rfl (by decide +kernel)) (goodIn_sub (fun _ h => List.mem_cons_of_mem _ (List.mem_append_right _ h)) (by decide +kernel))
set_option maxRecDepth 20000 in
theorem gX5_ratePerHour_X5_increaseIn : GoodIn wsX5_ratePerHour (wsV RX5 214 RX5 yX5_increaseIn wsX5_increaseIn) := goodIn_app (goodIn_of _ (by decide +kernel)) ggX5_ratePerHour_X5_increaseIn
theorem dX5_ratePerHour_0 : decode cX5_ratePerHour 0 = .ok (.aload_n 0, 1) := by decide +kernel
theorem dX5_ratePerHour_1 : decode cX5_ratePerHour 1 = .ok (.iload_n 1, 1) := by decide +kernel
theorem dX5_ratePerHour_2 : decode cX5_ratePerHour 2 = .ok (.invokevirtual 57, 3) := by decide +kernel
theorem dX5_ratePerHour_5 : decode cX5_ratePerHour 5 = .ok (.astore 4, 2) := by decide +kernel
theorem dX5_ratePerHour_7 : decode cX5_ratePerHour 7 = .ok (.iload_n 2, 1) := by decide +kernel
theorem dX5_ratePerHour_8 : decode cX5_ratePerHour 8 = .ok (.iload_n 3, 1) := by decide +kernel
theorem dX5_ratePerHour_9 : decode cX5_ratePerHour 9 = .ok (.bipush 60, 2) := by decide +kernel
theorem dX5_ratePerHour_11 : decode cX5_ratePerHour 11 = .ok (.invokestatic 188, 3) := by decide +kernel
theorem dX5_ratePerHour_14 : decode cX5_ratePerHour 14 = .ok (.iload_n 2, 1) := by decide +kernel
theorem dX5_ratePerHour_15 : decode cX5_ratePerHour 15 = .ok (.iload_n 3, 1) := by decide +kernel
theorem dX5_ratePerHour_16 : decode cX5_ratePerHour 16 = .ok (.if_icmp .ne 13, 3) := by decide +kernel
theorem dX5_ratePerHour_19 : decode cX5_ratePerHour 19 = .ok (.new 218, 3) := by decide +kernel
theorem dX5_ratePerHour_22 : decode cX5_ratePerHour 22 = .ok (.dup, 1) := by decide +kernel
theorem dX5_ratePerHour_23 : decode cX5_ratePerHour 23 = .ok (.ldc 220, 2) := by decide +kernel
theorem dX5_ratePerHour_25 : decode cX5_ratePerHour 25 = .ok (.invokespecial 222, 3) := by decide +kernel
theorem dX5_ratePerHour_28 : decode cX5_ratePerHour 28 = .ok (.athrow, 1) := by decide +kernel
theorem dX5_ratePerHour_29 : decode cX5_ratePerHour 29 = .ok (.aload_n 0, 1) := by decide +kernel
theorem dX5_ratePerHour_30 : decode cX5_ratePerHour 30 = .ok (.aload 4, 2) := by decide +kernel
theorem dX5_ratePerHour_32 : decode cX5_ratePerHour 32 = .ok (.iload_n 2, 1) := by decide +kernel
theorem dX5_ratePerHour_33 : decode cX5_ratePerHour 33 = .ok (.iload_n 3, 1) := by decide +kernel
theorem dX5_ratePerHour_34 : decode cX5_ratePerHour 34 = .ok (.invokevirtual 214, 3) := by decide +kernel
theorem dX5_ratePerHour_37 : decode cX5_ratePerHour 37 = .ok (.l2d, 1) := by decide +kernel
theorem dX5_ratePerHour_38 : decode cX5_ratePerHour 38 = .ok (.ldc2_w 223, 3) := by decide +kernel
theorem dX5_ratePerHour_41 : decode cX5_ratePerHour 41 = .ok (.dmul, 1) := by decide +kernel
theorem dX5_ratePerHour_42 : decode cX5_ratePerHour 42 = .ok (.iload_n 3, 1) := by decide +kernel
theorem dX5_ratePerHour_43 : decode cX5_ratePerHour 43 = .ok (.iload_n 2, 1) := by decide +kernel
theorem dX5_ratePerHour_44 : decode cX5_ratePerHour 44 = .ok (.isub, 1) := by decide +kernel
theorem dX5_ratePerHour_45 : decode cX5_ratePerHour 45 = .ok (.i2d, 1) := by decide +kernel
theorem dX5_ratePerHour_46 : decode cX5_ratePerHour 46 = .ok (.ddiv, 1) := by decide +kernel
theorem dX5_ratePerHour_47 : decode cX5_ratePerHour 47 = .ok (.dreturn, 1) := by decide +kernel
set_option maxRecDepth 400000 in
theorem ggX5_gaps_X5_rollupsAt : GoodIn wsX5_gaps wsX5_rollupsAt := goodIn_ca (goodIn_ca (goodIn_r _ [10, 11, 12, 13, 14, 15, 9, 16, 17, 18, 19, 20, 21, 22, 23, 24, 25, 26, 27, 28, 29, 30, 31, 54, 55, 56, 57, 58, 59, 60, 61, 62, 63, 64, 65] rfl (by decide +kernel)) (goodIn_sub (fun _ h => List.mem_cons_of_mem _ (List.mem_append_left _ (List.mem_append_right _ h))) (by decide +kernel))) (goodIn_sub (fun _ h => List.mem_cons_of_mem _ (List.mem_append_right _ h)) (by decide +kernel))
set_option maxRecDepth 20000 in
theorem gX5_gaps_X5_rollupsAt : GoodIn wsX5_gaps (wsV RX5 172 RX5 yX5_rollupsAt wsX5_rollupsAt) := goodIn_app (goodIn_of _ (by decide +kernel)) ggX5_gaps_X5_rollupsAt
set_option maxRecDepth 400000 in
theorem ggX5_gaps_X5_lengthOf : GoodIn wsX5_gaps wsX5_lengthOf := goodIn_r _ [34, 35] rfl (by decide +kernel)
set_option maxRecDepth 20000 in
theorem gX5_gaps_X5_lengthOf : GoodIn wsX5_gaps (va_wsS RX5 225 yX5_lengthOf wsX5_lengthOf) := goodIn_app (goodIn_of _ (by decide +kernel)) ggX5_gaps_X5_lengthOf
set_option maxRecDepth 400000 in
theorem ggX5_gaps_X5_needWindow : GoodIn wsX5_gaps wsX5_needWindow := goodIn_ca (goodIn_r _ [38, 11, 12] rfl (by decide +kernel)) (goodIn_sub (fun _ h => List.mem_cons_of_mem _ (List.mem_append_left _ (List.mem_append_right _ h))) (by decide +kernel))
set_option maxRecDepth 20000 in
theorem gX5_gaps_X5_needWindow : GoodIn wsX5_gaps (va_wsS RX5 188 yX5_needWindow wsX5_needWindow) := goodIn_app (goodIn_of _ (by decide +kernel)) ggX5_gaps_X5_needWindow
set_option maxRecDepth 400000 in
theorem ggX5_gaps_X5_beginOf : GoodIn wsX5_gaps wsX5_beginOf := goodIn_r _ [41, 32, 33, 9, 34, 35] rfl (by decide +kernel)
set_option maxRecDepth 20000 in
theorem gX5_gaps_X5_beginOf : GoodIn wsX5_gaps (va_wsS RX5 176 yX5_beginOf wsX5_beginOf) := goodIn_app (goodIn_of _ (by decide +kernel)) ggX5_gaps_X5_beginOf
set_option maxRecDepth 400000 in
theorem ggX5_gaps_X2_placeFrom : GoodIn wsX5_gaps wsX2_placeFrom := goodIn_r _ [46, 47, 48, 49, 50, 45, 51, 52, 53, 66, 67, 68, 69, 70, 71, 72, 73, 74, 75, 76] rfl (by decide +kernel)
set_option maxRecDepth 20000 in
theorem gX5_gaps_X2_placeFrom : GoodIn wsX5_gaps (wsV RX5 179 RX2 yX2_placeFrom wsX2_placeFrom) := goodIn_app (goodIn_of _ (by decide +kernel)) ggX5_gaps_X2_placeFrom
theorem dX5_gaps_0 : decode cX5_gaps 0 = .ok (.aload_n 0, 1) := by decide +kernel
theorem dX5_gaps_1 : decode cX5_gaps 1 = .ok (.iload_n 1, 1) := by decide +kernel
theorem dX5_gaps_2 : decode cX5_gaps 2 = .ok (.iload_n 2, 1) := by decide +kernel
theorem dX5_gaps_3 : decode cX5_gaps 3 = .ok (.iconst 0, 1) := by decide +kernel
theorem dX5_gaps_4 : decode cX5_gaps 4 = .ok (.invokevirtual 172, 3) := by decide +kernel
theorem dX5_gaps_7 : decode cX5_gaps 7 = .ok (.astore 5, 2) := by decide +kernel
theorem dX5_gaps_9 : decode cX5_gaps 9 = .ok (.iload_n 3, 1) := by decide +kernel
theorem dX5_gaps_10 : decode cX5_gaps 10 = .ok (.iload 4, 2) := by decide +kernel
theorem dX5_gaps_12 : decode cX5_gaps 12 = .ok (.iload_n 2, 1) := by decide +kernel
theorem dX5_gaps_13 : decode cX5_gaps 13 = .ok (.invokestatic 225, 3) := by decide +kernel
theorem dX5_gaps_16 : decode cX5_gaps 16 = .ok (.invokestatic 188, 3) := by decide +kernel
theorem dX5_gaps_19 : decode cX5_gaps 19 = .ok (.iload_n 3, 1) := by decide +kernel
theorem dX5_gaps_20 : decode cX5_gaps 20 = .ok (.iload_n 2, 1) := by decide +kernel
theorem dX5_gaps_21 : decode cX5_gaps 21 = .ok (.aload_n 0, 1) := by decide +kernel
theorem dX5_gaps_22 : decode cX5_gaps 22 = .ok (.getfield 22, 3) := by decide +kernel
theorem dX5_gaps_25 : decode cX5_gaps 25 = .ok (.iload_n 2, 1) := by decide +kernel
theorem dX5_gaps_26 : decode cX5_gaps 26 = .ok (.iaload, 1) := by decide +kernel
theorem dX5_gaps_27 : decode cX5_gaps 27 = .ok (.invokestatic 176, 3) := by decide +kernel
theorem dX5_gaps_30 : decode cX5_gaps 30 = .ok (.invokestatic 157, 3) := by decide +kernel
theorem dX5_gaps_33 : decode cX5_gaps 33 = .ok (.istore 6, 2) := by decide +kernel
theorem dX5_gaps_35 : decode cX5_gaps 35 = .ok (.iload 6, 2) := by decide +kernel
theorem dX5_gaps_37 : decode cX5_gaps 37 = .ok (.iload 4, 2) := by decide +kernel
theorem dX5_gaps_39 : decode cX5_gaps 39 = .ok (.if_icmp .lt 5, 3) := by decide +kernel
theorem dX5_gaps_42 : decode cX5_gaps 42 = .ok (.iconst 0, 1) := by decide +kernel
theorem dX5_gaps_43 : decode cX5_gaps 43 = .ok (.ireturn, 1) := by decide +kernel
theorem dX5_gaps_44 : decode cX5_gaps 44 = .ok (.iload 4, 2) := by decide +kernel
theorem dX5_gaps_46 : decode cX5_gaps 46 = .ok (.iload 6, 2) := by decide +kernel
theorem dX5_gaps_48 : decode cX5_gaps 48 = .ok (.isub, 1) := by decide +kernel
theorem dX5_gaps_49 : decode cX5_gaps 49 = .ok (.iload_n 2, 1) := by decide +kernel
theorem dX5_gaps_50 : decode cX5_gaps 50 = .ok (.invokestatic 225, 3) := by decide +kernel
theorem dX5_gaps_53 : decode cX5_gaps 53 = .ok (.idiv, 1) := by decide +kernel
theorem dX5_gaps_54 : decode cX5_gaps 54 = .ok (.istore 7, 2) := by decide +kernel
theorem dX5_gaps_56 : decode cX5_gaps 56 = .ok (.iload 7, 2) := by decide +kernel
theorem dX5_gaps_58 : decode cX5_gaps 58 = .ok (.aload 5, 2) := by decide +kernel
theorem dX5_gaps_60 : decode cX5_gaps 60 = .ok (.iload 4, 2) := by decide +kernel
theorem dX5_gaps_62 : decode cX5_gaps 62 = .ok (.invokevirtual 179, 3) := by decide +kernel
theorem dX5_gaps_65 : decode cX5_gaps 65 = .ok (.aload 5, 2) := by decide +kernel
theorem dX5_gaps_67 : decode cX5_gaps 67 = .ok (.iload 6, 2) := by decide +kernel
theorem dX5_gaps_69 : decode cX5_gaps 69 = .ok (.invokevirtual 179, 3) := by decide +kernel
theorem dX5_gaps_72 : decode cX5_gaps 72 = .ok (.isub, 1) := by decide +kernel
theorem dX5_gaps_73 : decode cX5_gaps 73 = .ok (.isub, 1) := by decide +kernel
theorem dX5_gaps_74 : decode cX5_gaps 74 = .ok (.ireturn, 1) := by decide +kernel
theorem dX5_seriesAt_0 : decode cX5_seriesAt 0 = .ok (.iload_n 1, 1) := by decide +kernel
theorem dX5_seriesAt_1 : decode cX5_seriesAt 1 = .ok (.ifCond .lt 11, 3) := by decide +kernel
theorem dX5_seriesAt_4 : decode cX5_seriesAt 4 = .ok (.iload_n 1, 1) := by decide +kernel
theorem dX5_seriesAt_5 : decode cX5_seriesAt 5 = .ok (.aload_n 0, 1) := by decide +kernel
theorem dX5_seriesAt_6 : decode cX5_seriesAt 6 = .ok (.getfield 43, 3) := by decide +kernel
theorem dX5_seriesAt_9 : decode cX5_seriesAt 9 = .ok (.if_icmp .lt 7, 3) := by decide +kernel
theorem dX5_seriesAt_12 : decode cX5_seriesAt 12 = .ok (.aconst_null, 1) := by decide +kernel
theorem dX5_seriesAt_13 : decode cX5_seriesAt 13 = .ok (.goto 9, 3) := by decide +kernel
theorem dX5_seriesAt_16 : decode cX5_seriesAt 16 = .ok (.aload_n 0, 1) := by decide +kernel
theorem dX5_seriesAt_17 : decode cX5_seriesAt 17 = .ok (.getfield 11, 3) := by decide +kernel
theorem dX5_seriesAt_20 : decode cX5_seriesAt 20 = .ok (.iload_n 1, 1) := by decide +kernel
theorem dX5_seriesAt_21 : decode cX5_seriesAt 21 = .ok (.aaload, 1) := by decide +kernel
theorem dX5_seriesAt_22 : decode cX5_seriesAt 22 = .ok (.astore_n 2, 1) := by decide +kernel
theorem dX5_seriesAt_23 : decode cX5_seriesAt 23 = .ok (.aload_n 2, 1) := by decide +kernel
theorem dX5_seriesAt_24 : decode cX5_seriesAt 24 = .ok (.ifnonnull 13, 3) := by decide +kernel
theorem dX5_seriesAt_27 : decode cX5_seriesAt 27 = .ok (.new 228, 3) := by decide +kernel
theorem dX5_seriesAt_30 : decode cX5_seriesAt 30 = .ok (.dup, 1) := by decide +kernel
theorem dX5_seriesAt_31 : decode cX5_seriesAt 31 = .ok (.ldc 230, 2) := by decide +kernel
theorem dX5_seriesAt_33 : decode cX5_seriesAt 33 = .ok (.invokespecial 232, 3) := by decide +kernel
theorem dX5_seriesAt_36 : decode cX5_seriesAt 36 = .ok (.athrow, 1) := by decide +kernel
theorem dX5_seriesAt_37 : decode cX5_seriesAt 37 = .ok (.aload_n 2, 1) := by decide +kernel
theorem dX5_seriesAt_38 : decode cX5_seriesAt 38 = .ok (.areturn, 1) := by decide +kernel
theorem dX5_needRange_0 : decode cX5_needRange 0 = .ok (.iload_n 0, 1) := by decide +kernel
theorem dX5_needRange_1 : decode cX5_needRange 1 = .ok (.iload_n 1, 1) := by decide +kernel
theorem dX5_needRange_2 : decode cX5_needRange 2 = .ok (.if_icmp .lt 8, 3) := by decide +kernel
theorem dX5_needRange_5 : decode cX5_needRange 5 = .ok (.iload_n 0, 1) := by decide +kernel
theorem dX5_needRange_6 : decode cX5_needRange 6 = .ok (.iload_n 2, 1) := by decide +kernel
theorem dX5_needRange_7 : decode cX5_needRange 7 = .ok (.if_icmp .le 13, 3) := by decide +kernel
theorem dX5_needRange_10 : decode cX5_needRange 10 = .ok (.new 218, 3) := by decide +kernel
theorem dX5_needRange_13 : decode cX5_needRange 13 = .ok (.dup, 1) := by decide +kernel
theorem dX5_needRange_14 : decode cX5_needRange 14 = .ok (.ldc 233, 2) := by decide +kernel
theorem dX5_needRange_16 : decode cX5_needRange 16 = .ok (.invokespecial 222, 3) := by decide +kernel
theorem dX5_needRange_19 : decode cX5_needRange 19 = .ok (.athrow, 1) := by decide +kernel
theorem dX5_needRange_20 : decode cX5_needRange 20 = .ok (.return_, 1) := by decide +kernel
theorem dX5_needWindow_0 : decode cX5_needWindow 0 = .ok (.iload_n 0, 1) := by decide +kernel
theorem dX5_needWindow_1 : decode cX5_needWindow 1 = .ok (.ifCond .lt 25, 3) := by decide +kernel
theorem dX5_needWindow_4 : decode cX5_needWindow 4 = .ok (.iload_n 1, 1) := by decide +kernel
theorem dX5_needWindow_5 : decode cX5_needWindow 5 = .ok (.iload_n 0, 1) := by decide +kernel
theorem dX5_needWindow_6 : decode cX5_needWindow 6 = .ok (.if_icmp .lt 20, 3) := by decide +kernel
theorem dX5_needWindow_9 : decode cX5_needWindow 9 = .ok (.iload_n 2, 1) := by decide +kernel
theorem dX5_needWindow_10 : decode cX5_needWindow 10 = .ok (.iconst 1, 1) := by decide +kernel
theorem dX5_needWindow_11 : decode cX5_needWindow 11 = .ok (.if_icmp .lt 15, 3) := by decide +kernel
theorem dX5_needWindow_14 : decode cX5_needWindow 14 = .ok (.iload_n 0, 1) := by decide +kernel
theorem dX5_needWindow_15 : decode cX5_needWindow 15 = .ok (.iload_n 2, 1) := by decide +kernel
theorem dX5_needWindow_16 : decode cX5_needWindow 16 = .ok (.irem, 1) := by decide +kernel
theorem dX5_needWindow_17 : decode cX5_needWindow 17 = .ok (.ifCond .ne 9, 3) := by decide +kernel
theorem dX5_needWindow_20 : decode cX5_needWindow 20 = .ok (.iload_n 1, 1) := by decide +kernel
theorem dX5_needWindow_21 : decode cX5_needWindow 21 = .ok (.iload_n 2, 1) := by decide +kernel
theorem dX5_needWindow_22 : decode cX5_needWindow 22 = .ok (.irem, 1) := by decide +kernel
theorem dX5_needWindow_23 : decode cX5_needWindow 23 = .ok (.ifCond .eq 13, 3) := by decide +kernel
theorem dX5_needWindow_26 : decode cX5_needWindow 26 = .ok (.new 218, 3) := by decide +kernel
theorem dX5_needWindow_29 : decode cX5_needWindow 29 = .ok (.dup, 1) := by decide +kernel
theorem dX5_needWindow_30 : decode cX5_needWindow 30 = .ok (.ldc 235, 2) := by decide +kernel
theorem dX5_needWindow_32 : decode cX5_needWindow 32 = .ok (.invokespecial 222, 3) := by decide +kernel
theorem dX5_needWindow_35 : decode cX5_needWindow 35 = .ok (.athrow, 1) := by decide +kernel
theorem dX5_needWindow_36 : decode cX5_needWindow 36 = .ok (.return_, 1) := by decide +kernel
theorem dX5_isPoint_0 : decode cX5_isPoint 0 = .ok (.aload_n 1, 1) := by decide +kernel
theorem dX5_isPoint_1 : decode cX5_isPoint 1 = .ok (.getfield 237, 3) := by decide +kernel
theorem dX5_isPoint_4 : decode cX5_isPoint 4 = .ok (.iconst 1, 1) := by decide +kernel
theorem dX5_isPoint_5 : decode cX5_isPoint 5 = .ok (.if_icmp .ne 7, 3) := by decide +kernel
theorem dX5_isPoint_8 : decode cX5_isPoint 8 = .ok (.iconst 0, 1) := by decide +kernel
theorem dX5_isPoint_9 : decode cX5_isPoint 9 = .ok (.goto 5, 3) := by decide +kernel
theorem dX5_isPoint_12 : decode cX5_isPoint 12 = .ok (.ldc 240, 2) := by decide +kernel
theorem dX5_isPoint_14 : decode cX5_isPoint 14 = .ok (.istore 4, 2) := by decide +kernel
theorem dX5_isPoint_16 : decode cX5_isPoint 16 = .ok (.iload_n 2, 1) := by decide +kernel
theorem dX5_isPoint_17 : decode cX5_isPoint 17 = .ok (.ifCond .lt 27, 3) := by decide +kernel
theorem dX5_isPoint_20 : decode cX5_isPoint 20 = .ok (.iload_n 2, 1) := by decide +kernel
theorem dX5_isPoint_21 : decode cX5_isPoint 21 = .ok (.aload_n 0, 1) := by decide +kernel
theorem dX5_isPoint_22 : decode cX5_isPoint 22 = .ok (.getfield 105, 3) := by decide +kernel
theorem dX5_isPoint_25 : decode cX5_isPoint 25 = .ok (.if_icmp .gt 19, 3) := by decide +kernel
theorem dX5_isPoint_28 : decode cX5_isPoint 28 = .ok (.iload_n 3, 1) := by decide +kernel
theorem dX5_isPoint_29 : decode cX5_isPoint 29 = .ok (.iload 4, 2) := by decide +kernel
theorem dX5_isPoint_31 : decode cX5_isPoint 31 = .ok (.if_icmp .lt 13, 3) := by decide +kernel
theorem dX5_isPoint_34 : decode cX5_isPoint 34 = .ok (.iload_n 3, 1) := by decide +kernel
theorem dX5_isPoint_35 : decode cX5_isPoint 35 = .ok (.ldc 104, 2) := by decide +kernel
theorem dX5_isPoint_37 : decode cX5_isPoint 37 = .ok (.if_icmp .gt 7, 3) := by decide +kernel
theorem dX5_isPoint_40 : decode cX5_isPoint 40 = .ok (.iconst 1, 1) := by decide +kernel
theorem dX5_isPoint_41 : decode cX5_isPoint 41 = .ok (.goto 4, 3) := by decide +kernel
theorem dX5_isPoint_44 : decode cX5_isPoint 44 = .ok (.iconst 0, 1) := by decide +kernel
theorem dX5_isPoint_45 : decode cX5_isPoint 45 = .ok (.ireturn, 1) := by decide +kernel
set_option maxRecDepth 400000 in
theorem ggX5_needPoint_X5_isPoint : GoodIn wsX5_needPoint wsX5_isPoint := goodIn_r _ [7, 8, 9, 10, 11, 12, 13, 14, 15, 16, 17, 18, 19, 20, 21, 22, 23] rfl (by decide +kernel)
set_option maxRecDepth 20000 in
theorem gX5_needPoint_X5_isPoint : GoodIn wsX5_needPoint (wsV RX5 73 RX5 yX5_isPoint wsX5_isPoint) := goodIn_app (goodIn_of _ (by decide +kernel)) ggX5_needPoint_X5_isPoint
theorem dX5_needPoint_0 : decode cX5_needPoint 0 = .ok (.aload_n 0, 1) := by decide +kernel
theorem dX5_needPoint_1 : decode cX5_needPoint 1 = .ok (.aload_n 1, 1) := by decide +kernel
theorem dX5_needPoint_2 : decode cX5_needPoint 2 = .ok (.iload_n 2, 1) := by decide +kernel
theorem dX5_needPoint_3 : decode cX5_needPoint 3 = .ok (.iload_n 3, 1) := by decide +kernel
theorem dX5_needPoint_4 : decode cX5_needPoint 4 = .ok (.invokevirtual 73, 3) := by decide +kernel
theorem dX5_needPoint_7 : decode cX5_needPoint 7 = .ok (.ifCond .ne 13, 3) := by decide +kernel
theorem dX5_needPoint_10 : decode cX5_needPoint 10 = .ok (.new 218, 3) := by decide +kernel
theorem dX5_needPoint_13 : decode cX5_needPoint 13 = .ok (.dup, 1) := by decide +kernel
theorem dX5_needPoint_14 : decode cX5_needPoint 14 = .ok (.ldc 241, 2) := by decide +kernel
theorem dX5_needPoint_16 : decode cX5_needPoint 16 = .ok (.invokespecial 222, 3) := by decide +kernel
theorem dX5_needPoint_19 : decode cX5_needPoint 19 = .ok (.athrow, 1) := by decide +kernel
theorem dX5_needPoint_20 : decode cX5_needPoint 20 = .ok (.return_, 1) := by decide +kernel
theorem dX5_isTooOld_0 : decode cX5_isTooOld 0 = .ok (.iload_n 1, 1) := by decide +kernel
theorem dX5_isTooOld_1 : decode cX5_isTooOld 1 = .ok (.aload_n 0, 1) := by decide +kernel
theorem dX5_isTooOld_2 : decode cX5_isTooOld 2 = .ok (.getfield 105, 3) := by decide +kernel
theorem dX5_isTooOld_5 : decode cX5_isTooOld 5 = .ok (.sipush 3600, 3) := by decide +kernel
theorem dX5_isTooOld_8 : decode cX5_isTooOld 8 = .ok (.isub, 1) := by decide +kernel
theorem dX5_isTooOld_9 : decode cX5_isTooOld 9 = .ok (.if_icmp .ge 7, 3) := by decide +kernel
theorem dX5_isTooOld_12 : decode cX5_isTooOld 12 = .ok (.iconst 1, 1) := by decide +kernel
theorem dX5_isTooOld_13 : decode cX5_isTooOld 13 = .ok (.goto 4, 3) := by decide +kernel
theorem dX5_isTooOld_16 : decode cX5_isTooOld 16 = .ok (.iconst 0, 1) := by decide +kernel
theorem dX5_isTooOld_17 : decode cX5_isTooOld 17 = .ok (.ireturn, 1) := by decide +kernel
set_option maxRecDepth 400000 in
theorem ggX5_hasPlace_X5_isTooOld : GoodIn wsX5_hasPlace wsX5_isTooOld := goodIn_r _ [7, 8, 28, 29, 30, 31, 32, 33, 34] rfl (by decide +kernel)
set_option maxRecDepth 20000 in
theorem gX5_hasPlace_X5_isTooOld : GoodIn wsX5_hasPlace (wsV RX5 85 RX5 yX5_isTooOld wsX5_isTooOld) := goodIn_app (goodIn_of _ (by decide +kernel)) ggX5_hasPlace_X5_isTooOld
set_option maxRecDepth 400000 in
theorem ggX5_hasPlace_X0_placeFrom : GoodIn wsX5_hasPlace wsX0_placeFrom := goodIn_r _ [13, 14, 15, 25, 26, 27] rfl (by decide +kernel)
set_option maxRecDepth 20000 in
theorem gX5_hasPlace_X0_placeFrom : GoodIn wsX5_hasPlace (wsV RX5 245 RX0 yX0_placeFrom wsX0_placeFrom) := goodIn_app (goodIn_of _ (by decide +kernel)) ggX5_hasPlace_X0_placeFrom
set_option maxRecDepth 400000 in
theorem ggX5_hasPlace_X0_isAt : GoodIn wsX5_hasPlace wsX0_isAt := goodIn_r _ [19, 14, 15, 25, 26, 27] rfl (by decide +kernel)
set_option maxRecDepth 20000 in
theorem gX5_hasPlace_X0_isAt : GoodIn wsX5_hasPlace (wsV RX5 246 RX0 yX0_isAt wsX0_isAt) := goodIn_app (goodIn_of _ (by decide +kernel)) ggX5_hasPlace_X0_isAt
theorem dX5_hasPlace_0 : decode cX5_hasPlace 0 = .ok (.aload_n 1, 1) := by decide +kernel
theorem dX5_hasPlace_1 : decode cX5_hasPlace 1 = .ok (.getfield 91, 3) := by decide +kernel
theorem dX5_hasPlace_4 : decode cX5_hasPlace 4 = .ok (.astore_n 3, 1) := by decide +kernel
theorem dX5_hasPlace_5 : decode cX5_hasPlace 5 = .ok (.aload_n 0, 1) := by decide +kernel
theorem dX5_hasPlace_6 : decode cX5_hasPlace 6 = .ok (.iload_n 2, 1) := by decide +kernel
theorem dX5_hasPlace_7 : decode cX5_hasPlace 7 = .ok (.invokevirtual 85, 3) := by decide +kernel
theorem dX5_hasPlace_10 : decode cX5_hasPlace 10 = .ok (.ifCond .ne 29, 3) := by decide +kernel
theorem dX5_hasPlace_13 : decode cX5_hasPlace 13 = .ok (.aload_n 3, 1) := by decide +kernel
theorem dX5_hasPlace_14 : decode cX5_hasPlace 14 = .ok (.getfield 243, 3) := by decide +kernel
theorem dX5_hasPlace_17 : decode cX5_hasPlace 17 = .ok (.bipush 100, 2) := by decide +kernel
theorem dX5_hasPlace_19 : decode cX5_hasPlace 19 = .ok (.if_icmp .lt 16, 3) := by decide +kernel
theorem dX5_hasPlace_22 : decode cX5_hasPlace 22 = .ok (.aload_n 3, 1) := by decide +kernel
theorem dX5_hasPlace_23 : decode cX5_hasPlace 23 = .ok (.aload_n 3, 1) := by decide +kernel
theorem dX5_hasPlace_24 : decode cX5_hasPlace 24 = .ok (.iload_n 2, 1) := by decide +kernel
theorem dX5_hasPlace_25 : decode cX5_hasPlace 25 = .ok (.invokevirtual 245, 3) := by decide +kernel
theorem dX5_hasPlace_28 : decode cX5_hasPlace 28 = .ok (.iload_n 2, 1) := by decide +kernel
theorem dX5_hasPlace_29 : decode cX5_hasPlace 29 = .ok (.invokevirtual 246, 3) := by decide +kernel
theorem dX5_hasPlace_32 : decode cX5_hasPlace 32 = .ok (.ifCond .eq 7, 3) := by decide +kernel
theorem dX5_hasPlace_35 : decode cX5_hasPlace 35 = .ok (.iconst 1, 1) := by decide +kernel
theorem dX5_hasPlace_36 : decode cX5_hasPlace 36 = .ok (.goto 4, 3) := by decide +kernel
theorem dX5_hasPlace_39 : decode cX5_hasPlace 39 = .ok (.iconst 0, 1) := by decide +kernel
theorem dX5_hasPlace_40 : decode cX5_hasPlace 40 = .ok (.ireturn, 1) := by decide +kernel
set_option maxRecDepth 400000 in
theorem ggX5_needPlace_X5_hasPlace : GoodIn wsX5_needPlace wsX5_hasPlace := goodIn_r _ [7, 8, 9, 10, 11, 12, 6, 13, 14, 15, 16, 17, 18, 19, 20, 21, 22, 23, 24, 25, 26, 27, 28, 29, 30, 31, 32, 33, 34, 35, 36, 37, 38, 39, 40] rfl (by decide +kernel)
set_option maxRecDepth 20000 in
theorem gX5_needPlace_X5_hasPlace : GoodIn wsX5_needPlace (wsV RX5 77 RX5 yX5_hasPlace wsX5_hasPlace) := goodIn_app (goodIn_of _ (by decide +kernel)) ggX5_needPlace_X5_hasPlace
theorem dX5_needPlace_0 : decode cX5_needPlace 0 = .ok (.aload_n 0, 1) := by decide +kernel
theorem dX5_needPlace_1 : decode cX5_needPlace 1 = .ok (.aload_n 1, 1) := by decide +kernel
theorem dX5_needPlace_2 : decode cX5_needPlace 2 = .ok (.iload_n 2, 1) := by decide +kernel
theorem dX5_needPlace_3 : decode cX5_needPlace 3 = .ok (.invokevirtual 77, 3) := by decide +kernel
theorem dX5_needPlace_6 : decode cX5_needPlace 6 = .ok (.ifCond .ne 13, 3) := by decide +kernel
theorem dX5_needPlace_9 : decode cX5_needPlace 9 = .ok (.new 47, 3) := by decide +kernel
theorem dX5_needPlace_12 : decode cX5_needPlace 12 = .ok (.dup, 1) := by decide +kernel
theorem dX5_needPlace_13 : decode cX5_needPlace 13 = .ok (.ldc 249, 2) := by decide +kernel
theorem dX5_needPlace_15 : decode cX5_needPlace 15 = .ok (.invokespecial 51, 3) := by decide +kernel
theorem dX5_needPlace_18 : decode cX5_needPlace 18 = .ok (.athrow, 1) := by decide +kernel
theorem dX5_needPlace_19 : decode cX5_needPlace 19 = .ok (.return_, 1) := by decide +kernel
theorem dX5_timeOfPoint_0 : decode cX5_timeOfPoint 0 = .ok (.iload_n 1, 1) := by decide +kernel
theorem dX5_timeOfPoint_1 : decode cX5_timeOfPoint 1 = .ok (.ifCond .lt 11, 3) := by decide +kernel
theorem dX5_timeOfPoint_4 : decode cX5_timeOfPoint 4 = .ok (.iload_n 1, 1) := by decide +kernel
theorem dX5_timeOfPoint_5 : decode cX5_timeOfPoint 5 = .ok (.aload_n 0, 1) := by decide +kernel
theorem dX5_timeOfPoint_6 : decode cX5_timeOfPoint 6 = .ok (.getfield 243, 3) := by decide +kernel
theorem dX5_timeOfPoint_9 : decode cX5_timeOfPoint 9 = .ok (.if_icmp .lt 13, 3) := by decide +kernel
theorem dX5_timeOfPoint_12 : decode cX5_timeOfPoint 12 = .ok (.new 47, 3) := by decide +kernel
theorem dX5_timeOfPoint_15 : decode cX5_timeOfPoint 15 = .ok (.dup, 1) := by decide +kernel
theorem dX5_timeOfPoint_16 : decode cX5_timeOfPoint 16 = .ok (.ldc 138, 2) := by decide +kernel
theorem dX5_timeOfPoint_18 : decode cX5_timeOfPoint 18 = .ok (.invokespecial 51, 3) := by decide +kernel
theorem dX5_timeOfPoint_21 : decode cX5_timeOfPoint 21 = .ok (.athrow, 1) := by decide +kernel
theorem dX5_timeOfPoint_22 : decode cX5_timeOfPoint 22 = .ok (.aload_n 0, 1) := by decide +kernel
theorem dX5_timeOfPoint_23 : decode cX5_timeOfPoint 23 = .ok (.getfield 251, 3) := by decide +kernel
theorem dX5_timeOfPoint_26 : decode cX5_timeOfPoint 26 = .ok (.iload_n 1, 1) := by decide +kernel
theorem dX5_timeOfPoint_27 : decode cX5_timeOfPoint 27 = .ok (.iaload, 1) := by decide +kernel
theorem dX5_timeOfPoint_28 : decode cX5_timeOfPoint 28 = .ok (.ireturn, 1) := by decide +kernel
set_option maxRecDepth 400000 in
theorem ggX5_placeOfPoint_X0_placeFrom : GoodIn wsX5_placeOfPoint wsX0_placeFrom := goodIn_r _ [8, 9, 10, 20, 21, 22] rfl (by decide +kernel)
set_option maxRecDepth 20000 in
theorem gX5_placeOfPoint_X0_placeFrom : GoodIn wsX5_placeOfPoint (wsV RX5 245 RX0 yX0_placeFrom wsX0_placeFrom) := goodIn_app (goodIn_of _ (by decide +kernel)) ggX5_placeOfPoint_X0_placeFrom
set_option maxRecDepth 400000 in
theorem ggX5_placeOfPoint_X0_isAt : GoodIn wsX5_placeOfPoint wsX0_isAt := goodIn_r _ [14, 9, 10, 20, 21, 22] rfl (by decide +kernel)
set_option maxRecDepth 20000 in
theorem gX5_placeOfPoint_X0_isAt : GoodIn wsX5_placeOfPoint (wsV RX5 246 RX0 yX0_isAt wsX0_isAt) := goodIn_app (goodIn_of _ (by decide +kernel)) ggX5_placeOfPoint_X0_isAt
theorem dX5_placeOfPoint_0 : decode cX5_placeOfPoint 0 = .ok (.aload_n 0, 1) := by decide +kernel
theorem dX5_placeOfPoint_1 : decode cX5_placeOfPoint 1 = .ok (.getfield 91, 3) := by decide +kernel
theorem dX5_placeOfPoint_4 : decode cX5_placeOfPoint 4 = .ok (.iload_n 1, 1) := by decide +kernel
theorem dX5_placeOfPoint_5 : decode cX5_placeOfPoint 5 = .ok (.invokevirtual 245, 3) := by decide +kernel
theorem dX5_placeOfPoint_8 : decode cX5_placeOfPoint 8 = .ok (.istore_n 2, 1) := by decide +kernel
theorem dX5_placeOfPoint_9 : decode cX5_placeOfPoint 9 = .ok (.aload_n 0, 1) := by decide +kernel
theorem dX5_placeOfPoint_10 : decode cX5_placeOfPoint 10 = .ok (.getfield 91, 3) := by decide +kernel
theorem dX5_placeOfPoint_13 : decode cX5_placeOfPoint 13 = .ok (.iload_n 2, 1) := by decide +kernel
theorem dX5_placeOfPoint_14 : decode cX5_placeOfPoint 14 = .ok (.iload_n 1, 1) := by decide +kernel
theorem dX5_placeOfPoint_15 : decode cX5_placeOfPoint 15 = .ok (.invokevirtual 246, 3) := by decide +kernel
theorem dX5_placeOfPoint_18 : decode cX5_placeOfPoint 18 = .ok (.ifCond .ne 13, 3) := by decide +kernel
theorem dX5_placeOfPoint_21 : decode cX5_placeOfPoint 21 = .ok (.new 47, 3) := by decide +kernel
theorem dX5_placeOfPoint_24 : decode cX5_placeOfPoint 24 = .ok (.dup, 1) := by decide +kernel
theorem dX5_placeOfPoint_25 : decode cX5_placeOfPoint 25 = .ok (.ldc 254, 2) := by decide +kernel
theorem dX5_placeOfPoint_27 : decode cX5_placeOfPoint 27 = .ok (.invokespecial 51, 3) := by decide +kernel
theorem dX5_placeOfPoint_30 : decode cX5_placeOfPoint 30 = .ok (.athrow, 1) := by decide +kernel
theorem dX5_placeOfPoint_31 : decode cX5_placeOfPoint 31 = .ok (.iload_n 2, 1) := by decide +kernel
theorem dX5_placeOfPoint_32 : decode cX5_placeOfPoint 32 = .ok (.ireturn, 1) := by decide +kernel
set_option maxRecDepth 400000 in
theorem ggX5_rollupsAt_X5_seriesAt : GoodIn wsX5_rollupsAt wsX5_seriesAt := goodIn_ca (goodIn_r _ [7, 8, 9, 10, 11, 23, 24, 25, 26, 27, 28, 29] rfl (by decide +kernel)) (goodIn_sub (fun _ h => List.mem_cons_of_mem _ (List.mem_append_right _ h)) (by decide +kernel))
set_option maxRecDepth 20000 in
theorem gX5_rollupsAt_X5_seriesAt : GoodIn wsX5_rollupsAt (wsV RX5 57 RX5 yX5_seriesAt wsX5_seriesAt) := goodIn_app (goodIn_of _ (by decide +kernel)) ggX5_rollupsAt_X5_seriesAt
set_option maxRecDepth 400000 in
theorem ggX5_rollupsAt_X5_needRange : GoodIn wsX5_rollupsAt wsX5_needRange := goodIn_ca (goodIn_r _ [14, 1, 2] rfl (by decide +kernel)) (goodIn_sub (fun _ h => List.mem_cons_of_mem _ (List.mem_append_left _ (List.mem_append_right _ h))) (by decide +kernel))
set_option maxRecDepth 20000 in
theorem gX5_rollupsAt_X5_needRange : GoodIn wsX5_rollupsAt (va_wsS RX5 39 yX5_needRange wsX5_needRange) := goodIn_app (goodIn_of _ (by decide +kernel)) ggX5_rollupsAt_X5_needRange
set_option maxRecDepth 400000 in
theorem ggX5_rollupsAt_X3_rollupsOf : GoodIn wsX5_rollupsAt wsX3_rollupsOf := goodIn_r _ [19, 20, 21, 22, 30, 31, 32, 33, 34] rfl (by decide +kernel)
set_option maxRecDepth 20000 in
theorem gX5_rollupsAt_X3_rollupsOf : GoodIn wsX5_rollupsAt (wsV RX5 128 RX3 yX3_rollupsOf wsX3_rollupsOf) := goodIn_app (goodIn_of _ (by decide +kernel)) ggX5_rollupsAt_X3_rollupsOf
theorem dX5_rollupsAt_0 : decode cX5_rollupsAt 0 = .ok (.aload_n 0, 1) := by decide +kernel
theorem dX5_rollupsAt_1 : decode cX5_rollupsAt 1 = .ok (.iload_n 1, 1) := by decide +kernel
theorem dX5_rollupsAt_2 : decode cX5_rollupsAt 2 = .ok (.invokevirtual 57, 3) := by decide +kernel
theorem dX5_rollupsAt_5 : decode cX5_rollupsAt 5 = .ok (.astore 4, 2) := by decide +kernel
theorem dX5_rollupsAt_7 : decode cX5_rollupsAt 7 = .ok (.iload_n 2, 1) := by decide +kernel
theorem dX5_rollupsAt_8 : decode cX5_rollupsAt 8 = .ok (.iconst 1, 1) := by decide +kernel
theorem dX5_rollupsAt_9 : decode cX5_rollupsAt 9 = .ok (.iconst 3, 1) := by decide +kernel
theorem dX5_rollupsAt_10 : decode cX5_rollupsAt 10 = .ok (.invokestatic 39, 3) := by decide +kernel
theorem dX5_rollupsAt_13 : decode cX5_rollupsAt 13 = .ok (.iload_n 3, 1) := by decide +kernel
theorem dX5_rollupsAt_14 : decode cX5_rollupsAt 14 = .ok (.ifCond .ge 14, 3) := by decide +kernel
theorem dX5_rollupsAt_17 : decode cX5_rollupsAt 17 = .ok (.new 218, 3) := by decide +kernel
theorem dX5_rollupsAt_20 : decode cX5_rollupsAt 20 = .ok (.dup, 1) := by decide +kernel
theorem dX5_rollupsAt_21 : decode cX5_rollupsAt 21 = .ok (.ldc_w 256, 3) := by decide +kernel
theorem dX5_rollupsAt_24 : decode cX5_rollupsAt 24 = .ok (.invokespecial 222, 3) := by decide +kernel
theorem dX5_rollupsAt_27 : decode cX5_rollupsAt 27 = .ok (.athrow, 1) := by decide +kernel
theorem dX5_rollupsAt_28 : decode cX5_rollupsAt 28 = .ok (.aload 4, 2) := by decide +kernel
theorem dX5_rollupsAt_30 : decode cX5_rollupsAt 30 = .ok (.iload_n 2, 1) := by decide +kernel
theorem dX5_rollupsAt_31 : decode cX5_rollupsAt 31 = .ok (.invokevirtual 128, 3) := by decide +kernel
theorem dX5_rollupsAt_34 : decode cX5_rollupsAt 34 = .ok (.areturn, 1) := by decide +kernel
set_option maxRecDepth 400000 in
theorem ggX5_rollupOrNull_X5_rollupsAt : GoodIn wsX5_rollupOrNull wsX5_rollupsAt := goodIn_ca (goodIn_ca (goodIn_r _ [5, 6, 7, 8, 9, 10, 4, 11, 12, 13, 14, 15, 16, 17, 18, 19, 20, 21, 22, 23, 24, 25, 26, 50, 51, 52, 53, 54, 55, 56, 57, 58, 59, 60, 61] rfl (by decide +kernel)) (goodIn_sub (fun _ h => List.mem_cons_of_mem _ (List.mem_append_left _ (List.mem_append_right _ h))) (by decide +kernel))) (goodIn_sub (fun _ h => List.mem_cons_of_mem _ (List.mem_append_right _ h)) (by decide +kernel))
set_option maxRecDepth 20000 in
theorem gX5_rollupOrNull_X5_rollupsAt : GoodIn wsX5_rollupOrNull (wsV RX5 172 RX5 yX5_rollupsAt wsX5_rollupsAt) := goodIn_app (goodIn_of _ (by decide +kernel)) ggX5_rollupOrNull_X5_rollupsAt
set_option maxRecDepth 400000 in
theorem ggX5_rollupOrNull_X5_beginOf : GoodIn wsX5_rollupOrNull wsX5_beginOf := goodIn_r _ [29, 30, 31, 4, 32, 33] rfl (by decide +kernel)
set_option maxRecDepth 20000 in
theorem gX5_rollupOrNull_X5_beginOf : GoodIn wsX5_rollupOrNull (va_wsS RX5 176 yX5_beginOf wsX5_beginOf) := goodIn_app (goodIn_of _ (by decide +kernel)) ggX5_rollupOrNull_X5_beginOf
set_option maxRecDepth 400000 in
theorem ggX5_rollupOrNull_X2_find : GoodIn wsX5_rollupOrNull wsX2_find := goodIn_r _ [38, 39, 40, 41, 42, 37, 43, 44, 45, 46, 47, 48, 49, 62, 63, 64, 65, 66, 67, 68, 69, 70, 71, 72] rfl (by decide +kernel)
set_option maxRecDepth 20000 in
theorem gX5_rollupOrNull_X2_find : GoodIn wsX5_rollupOrNull (wsV RX5 258 RX2 yX2_find wsX2_find) := goodIn_app (goodIn_of _ (by decide +kernel)) ggX5_rollupOrNull_X2_find
theorem dX5_rollupOrNull_0 : decode cX5_rollupOrNull 0 = .ok (.aload_n 0, 1) := by decide +kernel
theorem dX5_rollupOrNull_1 : decode cX5_rollupOrNull 1 = .ok (.iload_n 1, 1) := by decide +kernel
theorem dX5_rollupOrNull_2 : decode cX5_rollupOrNull 2 = .ok (.iload_n 2, 1) := by decide +kernel
theorem dX5_rollupOrNull_3 : decode cX5_rollupOrNull 3 = .ok (.iload_n 3, 1) := by decide +kernel
theorem dX5_rollupOrNull_4 : decode cX5_rollupOrNull 4 = .ok (.invokevirtual 172, 3) := by decide +kernel
theorem dX5_rollupOrNull_7 : decode cX5_rollupOrNull 7 = .ok (.iload_n 2, 1) := by decide +kernel
theorem dX5_rollupOrNull_8 : decode cX5_rollupOrNull 8 = .ok (.iload_n 3, 1) := by decide +kernel
theorem dX5_rollupOrNull_9 : decode cX5_rollupOrNull 9 = .ok (.invokestatic 176, 3) := by decide +kernel
theorem dX5_rollupOrNull_12 : decode cX5_rollupOrNull 12 = .ok (.invokevirtual 258, 3) := by decide +kernel
theorem dX5_rollupOrNull_15 : decode cX5_rollupOrNull 15 = .ok (.areturn, 1) := by decide +kernel
set_option maxRecDepth 400000 in
theorem ggX5_rollupAt_X5_rollupOrNull : GoodIn wsX5_rollupAt wsX5_rollupOrNull := goodIn_ca (goodIn_ca (goodIn_r _ [7, 8, 9, 10, 6, 11, 12, 13, 14, 15, 16, 17, 18, 19, 20, 21, 22, 23, 24, 25, 26, 27, 28, 29, 30, 31, 32, 33, 34, 35, 36, 37, 38, 39, 40, 41, 42, 43, 44, 45, 46, 47, 48, 49, 50, 51, 52, 53, 54, 55, 56, 57, 58, 59, 60, 61, 62, 63, 64, 65, 66, 67, 68, 69, 70, 71, 72, 73, 74, 75, 76, 77, 78] rfl (by decide +kernel)) (goodIn_sub (fun _ h => List.mem_cons_of_mem _ (List.mem_append_left _ (List.mem_append_right _ h))) (by decide +kernel))) (goodIn_sub (fun _ h => List.mem_cons_of_mem _ (List.mem_append_right _ h)) (by decide +kernel))
set_option maxRecDepth 20000 in
theorem gX5_rollupAt_X5_rollupOrNull : GoodIn wsX5_rollupAt (wsV RX5 143 RX5 yX5_rollupOrNull wsX5_rollupOrNull) := goodIn_app (goodIn_of _ (by decide +kernel)) ggX5_rollupAt_X5_rollupOrNull
theorem dX5_rollupAt_0 : decode cX5_rollupAt 0 = .ok (.aload_n 0, 1) := by decide +kernel
theorem dX5_rollupAt_1 : decode cX5_rollupAt 1 = .ok (.iload_n 1, 1) := by decide +kernel
theorem dX5_rollupAt_2 : decode cX5_rollupAt 2 = .ok (.iload_n 2, 1) := by decide +kernel
theorem dX5_rollupAt_3 : decode cX5_rollupAt 3 = .ok (.iload_n 3, 1) := by decide +kernel
theorem dX5_rollupAt_4 : decode cX5_rollupAt 4 = .ok (.invokevirtual 143, 3) := by decide +kernel
theorem dX5_rollupAt_7 : decode cX5_rollupAt 7 = .ok (.astore 4, 2) := by decide +kernel
theorem dX5_rollupAt_9 : decode cX5_rollupAt 9 = .ok (.aload 4, 2) := by decide +kernel
theorem dX5_rollupAt_11 : decode cX5_rollupAt 11 = .ok (.ifnonnull 14, 3) := by decide +kernel
theorem dX5_rollupAt_14 : decode cX5_rollupAt 14 = .ok (.new 47, 3) := by decide +kernel
theorem dX5_rollupAt_17 : decode cX5_rollupAt 17 = .ok (.dup, 1) := by decide +kernel
theorem dX5_rollupAt_18 : decode cX5_rollupAt 18 = .ok (.ldc_w 261, 3) := by decide +kernel
theorem dX5_rollupAt_21 : decode cX5_rollupAt 21 = .ok (.invokespecial 51, 3) := by decide +kernel
theorem dX5_rollupAt_24 : decode cX5_rollupAt 24 = .ok (.athrow, 1) := by decide +kernel
theorem dX5_rollupAt_25 : decode cX5_rollupAt 25 = .ok (.aload 4, 2) := by decide +kernel
theorem dX5_rollupAt_27 : decode cX5_rollupAt 27 = .ok (.areturn, 1) := by decide +kernel
theorem dX5_lengthOf_0 : decode cX5_lengthOf 0 = .ok (.iload_n 0, 1) := by decide +kernel
theorem dX5_lengthOf_1 : decode cX5_lengthOf 1 = .ok (.iconst 3, 1) := by decide +kernel
theorem dX5_lengthOf_2 : decode cX5_lengthOf 2 = .ok (.if_icmp .ne 8, 3) := by decide +kernel
theorem dX5_lengthOf_5 : decode cX5_lengthOf 5 = .ok (.ldc 15, 2) := by decide +kernel
theorem dX5_lengthOf_7 : decode cX5_lengthOf 7 = .ok (.goto 16, 3) := by decide +kernel
theorem dX5_lengthOf_10 : decode cX5_lengthOf 10 = .ok (.iload_n 0, 1) := by decide +kernel
theorem dX5_lengthOf_11 : decode cX5_lengthOf 11 = .ok (.iconst 2, 1) := by decide +kernel
theorem dX5_lengthOf_12 : decode cX5_lengthOf 12 = .ok (.if_icmp .ne 9, 3) := by decide +kernel
theorem dX5_lengthOf_15 : decode cX5_lengthOf 15 = .ok (.sipush 3600, 3) := by decide +kernel
theorem dX5_lengthOf_18 : decode cX5_lengthOf 18 = .ok (.goto 5, 3) := by decide +kernel
theorem dX5_lengthOf_21 : decode cX5_lengthOf 21 = .ok (.bipush 60, 2) := by decide +kernel
theorem dX5_lengthOf_23 : decode cX5_lengthOf 23 = .ok (.ireturn, 1) := by decide +kernel
set_option maxRecDepth 400000 in
theorem ggX5_beginOf_X5_lengthOf : GoodIn wsX5_beginOf wsX5_lengthOf := goodIn_r _ [4, 5] rfl (by decide +kernel)
set_option maxRecDepth 20000 in
theorem gX5_beginOf_X5_lengthOf : GoodIn wsX5_beginOf (va_wsS RX5 225 yX5_lengthOf wsX5_lengthOf) := goodIn_app (goodIn_of _ (by decide +kernel)) ggX5_beginOf_X5_lengthOf
theorem dX5_beginOf_0 : decode cX5_beginOf 0 = .ok (.iload_n 1, 1) := by decide +kernel
theorem dX5_beginOf_1 : decode cX5_beginOf 1 = .ok (.iload_n 1, 1) := by decide +kernel
theorem dX5_beginOf_2 : decode cX5_beginOf 2 = .ok (.iload_n 0, 1) := by decide +kernel
theorem dX5_beginOf_3 : decode cX5_beginOf 3 = .ok (.invokestatic 225, 3) := by decide +kernel
theorem dX5_beginOf_6 : decode cX5_beginOf 6 = .ok (.irem, 1) := by decide +kernel
theorem dX5_beginOf_7 : decode cX5_beginOf 7 = .ok (.isub, 1) := by decide +kernel
theorem dX5_beginOf_8 : decode cX5_beginOf 8 = .ok (.ireturn, 1) := by decide +kernel
theorem dX5_valueBetween_0 : decode cX5_valueBetween 0 = .ok (.aload_n 1, 1) := by decide +kernel
theorem dX5_valueBetween_1 : decode cX5_valueBetween 1 = .ok (.getfield 169, 3) := by decide +kernel
theorem dX5_valueBetween_4 : decode cX5_valueBetween 4 = .ok (.aload_n 0, 1) := by decide +kernel
theorem dX5_valueBetween_5 : decode cX5_valueBetween 5 = .ok (.getfield 169, 3) := by decide +kernel
theorem dX5_valueBetween_8 : decode cX5_valueBetween 8 = .ok (.isub, 1) := by decide +kernel
theorem dX5_valueBetween_9 : decode cX5_valueBetween 9 = .ok (.i2l, 1) := by decide +kernel
theorem dX5_valueBetween_10 : decode cX5_valueBetween 10 = .ok (.lstore_n 3, 1) := by decide +kernel
theorem dX5_valueBetween_11 : decode cX5_valueBetween 11 = .ok (.iconst 1, 1) := by decide +kernel
theorem dX5_valueBetween_12 : decode cX5_valueBetween 12 = .ok (.aload_n 1, 1) := by decide +kernel
theorem dX5_valueBetween_13 : decode cX5_valueBetween 13 = .ok (.getfield 140, 3) := by decide +kernel
theorem dX5_valueBetween_16 : decode cX5_valueBetween 16 = .ok (.aload_n 0, 1) := by decide +kernel
theorem dX5_valueBetween_17 : decode cX5_valueBetween 17 = .ok (.getfield 140, 3) := by decide +kernel
theorem dX5_valueBetween_20 : decode cX5_valueBetween 20 = .ok (.isub, 1) := by decide +kernel
theorem dX5_valueBetween_21 : decode cX5_valueBetween 21 = .ok (.invokestatic 157, 3) := by decide +kernel
theorem dX5_valueBetween_24 : decode cX5_valueBetween 24 = .ok (.i2l, 1) := by decide +kernel
theorem dX5_valueBetween_25 : decode cX5_valueBetween 25 = .ok (.lstore 5, 2) := by decide +kernel
theorem dX5_valueBetween_27 : decode cX5_valueBetween 27 = .ok (.aload_n 0, 1) := by decide +kernel
theorem dX5_valueBetween_28 : decode cX5_valueBetween 28 = .ok (.getfield 169, 3) := by decide +kernel
theorem dX5_valueBetween_31 : decode cX5_valueBetween 31 = .ok (.i2l, 1) := by decide +kernel
theorem dX5_valueBetween_32 : decode cX5_valueBetween 32 = .ok (.lload_n 3, 1) := by decide +kernel
theorem dX5_valueBetween_33 : decode cX5_valueBetween 33 = .ok (.iload_n 2, 1) := by decide +kernel
theorem dX5_valueBetween_34 : decode cX5_valueBetween 34 = .ok (.aload_n 0, 1) := by decide +kernel
theorem dX5_valueBetween_35 : decode cX5_valueBetween 35 = .ok (.getfield 140, 3) := by decide +kernel
theorem dX5_valueBetween_38 : decode cX5_valueBetween 38 = .ok (.isub, 1) := by decide +kernel
theorem dX5_valueBetween_39 : decode cX5_valueBetween 39 = .ok (.i2l, 1) := by decide +kernel
