theorem dX5_off_42 : decode cX5_off 42 = .ok (.iload_n 2, 1) := by decide +kernel
theorem dX5_off_43 : decode cX5_off 43 = .ok (.iload_n 3, 1) := by decide +kernel
theorem dX5_off_44 : decode cX5_off 44 = .ok (.invokevirtual 87, 3) := by decide +kernel
theorem dX5_off_47 : decode cX5_off 47 = .ok (.ireturn, 1) := by decide +kernel
theorem dX5_quarrel_0 : decode cX5_quarrel 0 = .ok (.aload_n 0, 1) := by decide +kernel
theorem dX5_quarrel_1 : decode cX5_quarrel 1 = .ok (.getfield 47, 3) := by decide +kernel
theorem dX5_quarrel_4 : decode cX5_quarrel 4 = .ok (.ireturn, 1) := by decide +kernel
set_option maxRecDepth 20000 in
theorem ggX5_untie_X3_slotOf : GoodIn wsX5_untie wsX3_slotOf := goodIn_r _ [7, 8, 9, 46, 47, 48, 49, 50, 51, 52, 53, 54, 55, 56] (by decide +kernel) (by decide +kernel)
set_option maxRecDepth 20000 in
theorem gX5_untie_X3_slotOf : GoodIn wsX5_untie (wsV RX5 94 RX3 yX3_slotOf wsX3_slotOf) := goodIn_app (goodIn_of _ (by decide +kernel)) ggX5_untie_X3_slotOf
set_option maxRecDepth 20000 in
theorem ggX5_untie_X3_drop : GoodIn wsX5_untie wsX3_drop := goodIn_r _ [13, 8, 9, 14, 15, 16, 17, 18, 19, 20, 21, 6, 22, 23, 24, 25, 26, 27, 28, 29, 30, 31, 32, 33, 34, 35, 36, 37, 46, 47, 48, 49, 50, 51, 52, 53, 54, 55, 56, 57] (by decide +kernel) (by decide +kernel)
set_option maxRecDepth 20000 in
theorem gX5_untie_X3_drop : GoodIn wsX5_untie (wsV RX5 97 RX3 yX3_drop wsX3_drop) := goodIn_app (goodIn_of _ (by decide +kernel)) ggX5_untie_X3_drop
theorem dX5_untie_0 : decode cX5_untie 0 = .ok (.aload_n 0, 1) := by decide +kernel
theorem dX5_untie_1 : decode cX5_untie 1 = .ok (.getfield 26, 3) := by decide +kernel
theorem dX5_untie_4 : decode cX5_untie 4 = .ok (.iload_n 1, 1) := by decide +kernel
theorem dX5_untie_5 : decode cX5_untie 5 = .ok (.invokevirtual 94, 3) := by decide +kernel
theorem dX5_untie_8 : decode cX5_untie 8 = .ok (.istore_n 2, 1) := by decide +kernel
theorem dX5_untie_9 : decode cX5_untie 9 = .ok (.iload_n 2, 1) := by decide +kernel
theorem dX5_untie_10 : decode cX5_untie 10 = .ok (.iconst (-1), 1) := by decide +kernel
theorem dX5_untie_11 : decode cX5_untie 11 = .ok (.if_icmp .ne 10, 3) := by decide +kernel
theorem dX5_untie_14 : decode cX5_untie 14 = .ok (.aload_n 0, 1) := by decide +kernel
theorem dX5_untie_15 : decode cX5_untie 15 = .ok (.iconst 1, 1) := by decide +kernel
theorem dX5_untie_16 : decode cX5_untie 16 = .ok (.putfield 44, 3) := by decide +kernel
theorem dX5_untie_19 : decode cX5_untie 19 = .ok (.iconst 0, 1) := by decide +kernel
theorem dX5_untie_20 : decode cX5_untie 20 = .ok (.ireturn, 1) := by decide +kernel
theorem dX5_untie_21 : decode cX5_untie 21 = .ok (.aload_n 0, 1) := by decide +kernel
theorem dX5_untie_22 : decode cX5_untie 22 = .ok (.iconst 0, 1) := by decide +kernel
theorem dX5_untie_23 : decode cX5_untie 23 = .ok (.putfield 44, 3) := by decide +kernel
theorem dX5_untie_26 : decode cX5_untie 26 = .ok (.aload_n 0, 1) := by decide +kernel
theorem dX5_untie_27 : decode cX5_untie 27 = .ok (.getfield 26, 3) := by decide +kernel
theorem dX5_untie_30 : decode cX5_untie 30 = .ok (.iload_n 2, 1) := by decide +kernel
theorem dX5_untie_31 : decode cX5_untie 31 = .ok (.invokevirtual 97, 3) := by decide +kernel
theorem dX5_untie_34 : decode cX5_untie 34 = .ok (.iconst 1, 1) := by decide +kernel
theorem dX5_untie_35 : decode cX5_untie 35 = .ok (.ireturn, 1) := by decide +kernel
set_option maxRecDepth 20000 in
theorem ggX5_idle_X3_slotOf : GoodIn wsX5_idle wsX3_slotOf := goodIn_r _ [7, 8, 9, 56, 57, 58, 59, 60, 61, 62, 63, 64, 65, 66] (by decide +kernel) (by decide +kernel)
set_option maxRecDepth 20000 in
theorem gX5_idle_X3_slotOf : GoodIn wsX5_idle (wsV RX5 94 RX3 yX3_slotOf wsX3_slotOf) := goodIn_app (goodIn_of _ (by decide +kernel)) ggX5_idle_X3_slotOf
set_option maxRecDepth 20000 in
theorem ggX5_idle_X5_refuse : GoodIn wsX5_idle wsX5_refuse := goodIn_r _ [14, 2, 48, 49, 50, 51, 52, 53, 54, 55] (by decide +kernel) (by decide +kernel)
set_option maxRecDepth 20000 in
theorem gX5_idle_X5_refuse : GoodIn wsX5_idle (wsV RX5 50 RX5 yX5_refuse wsX5_refuse) := goodIn_app (goodIn_of _ (by decide +kernel)) ggX5_idle_X5_refuse
set_option maxRecDepth 20000 in
theorem ggX5_idle_X3_isOfNoMatter : GoodIn wsX5_idle wsX3_isOfNoMatter := goodIn_r _ [18, 19, 20, 21, 22, 23, 6, 24, 8, 25, 26, 27, 28, 29, 30, 31, 32, 33, 34, 35, 36, 37, 38, 39, 40, 41, 42, 43, 44, 45, 46, 47, 56, 57, 58, 59, 60, 61, 62, 63, 64, 65, 66, 67] (by decide +kernel) (by decide +kernel)
set_option maxRecDepth 20000 in
theorem gX5_idle_X3_isOfNoMatter : GoodIn wsX5_idle (wsV RX5 101 RX3 yX3_isOfNoMatter wsX3_isOfNoMatter) := goodIn_app (goodIn_of _ (by decide +kernel)) ggX5_idle_X3_isOfNoMatter
theorem dX5_idle_0 : decode cX5_idle 0 = .ok (.aload_n 0, 1) := by decide +kernel
theorem dX5_idle_1 : decode cX5_idle 1 = .ok (.getfield 26, 3) := by decide +kernel
theorem dX5_idle_4 : decode cX5_idle 4 = .ok (.iload_n 1, 1) := by decide +kernel
theorem dX5_idle_5 : decode cX5_idle 5 = .ok (.invokevirtual 94, 3) := by decide +kernel
theorem dX5_idle_8 : decode cX5_idle 8 = .ok (.istore_n 2, 1) := by decide +kernel
theorem dX5_idle_9 : decode cX5_idle 9 = .ok (.iload_n 2, 1) := by decide +kernel
theorem dX5_idle_10 : decode cX5_idle 10 = .ok (.iconst (-1), 1) := by decide +kernel
theorem dX5_idle_11 : decode cX5_idle 11 = .ok (.if_icmp .ne 9, 3) := by decide +kernel
theorem dX5_idle_14 : decode cX5_idle 14 = .ok (.aload_n 0, 1) := by decide +kernel
theorem dX5_idle_15 : decode cX5_idle 15 = .ok (.iconst 1, 1) := by decide +kernel
theorem dX5_idle_16 : decode cX5_idle 16 = .ok (.invokevirtual 50, 3) := by decide +kernel
theorem dX5_idle_19 : decode cX5_idle 19 = .ok (.ireturn, 1) := by decide +kernel
theorem dX5_idle_20 : decode cX5_idle 20 = .ok (.aload_n 0, 1) := by decide +kernel
theorem dX5_idle_21 : decode cX5_idle 21 = .ok (.iconst 0, 1) := by decide +kernel
theorem dX5_idle_22 : decode cX5_idle 22 = .ok (.putfield 44, 3) := by decide +kernel
theorem dX5_idle_25 : decode cX5_idle 25 = .ok (.aload_n 0, 1) := by decide +kernel
theorem dX5_idle_26 : decode cX5_idle 26 = .ok (.getfield 26, 3) := by decide +kernel
theorem dX5_idle_29 : decode cX5_idle 29 = .ok (.iload_n 2, 1) := by decide +kernel
theorem dX5_idle_30 : decode cX5_idle 30 = .ok (.invokevirtual 101, 3) := by decide +kernel
theorem dX5_idle_33 : decode cX5_idle 33 = .ok (.ifCond .eq 7, 3) := by decide +kernel
theorem dX5_idle_36 : decode cX5_idle 36 = .ok (.iconst 1, 1) := by decide +kernel
theorem dX5_idle_37 : decode cX5_idle 37 = .ok (.goto 4, 3) := by decide +kernel
theorem dX5_idle_40 : decode cX5_idle 40 = .ok (.iconst 0, 1) := by decide +kernel
theorem dX5_idle_41 : decode cX5_idle 41 = .ok (.ireturn, 1) := by decide +kernel
set_option maxRecDepth 20000 in
theorem ggX5_range_X5_hasCamera : GoodIn wsX5_range wsX5_hasCamera := goodIn_r _ [8, 9, 20, 21, 22, 23, 24, 25, 26, 27] (by decide +kernel) (by decide +kernel)
set_option maxRecDepth 20000 in
theorem gX5_range_X5_hasCamera : GoodIn wsX5_range (wsV RX5 69 RX5 yX5_hasCamera wsX5_hasCamera) := goodIn_app (goodIn_of _ (by decide +kernel)) ggX5_range_X5_hasCamera
set_option maxRecDepth 20000 in
theorem ggX5_range_X2_most : GoodIn wsX5_range wsX2_most := goodIn_r _ [14, 15, 39] (by decide +kernel) (by decide +kernel)
set_option maxRecDepth 20000 in
theorem gX5_range_X2_most : GoodIn wsX5_range (wsV RX5 109 RX2 yX2_most wsX2_most) := goodIn_app (goodIn_of _ (by decide +kernel)) ggX5_range_X2_most
set_option maxRecDepth 20000 in
theorem ggX5_range_X2_least : GoodIn wsX5_range wsX2_least := goodIn_r _ [19, 15, 39] (by decide +kernel) (by decide +kernel)
set_option maxRecDepth 20000 in
theorem gX5_range_X2_least : GoodIn wsX5_range (wsV RX5 115 RX2 yX2_least wsX2_least) := goodIn_app (goodIn_of _ (by decide +kernel)) ggX5_range_X2_least
theorem dX5_range_0 : decode cX5_range 0 = .ok (.aload_n 0, 1) := by decide +kernel
theorem dX5_range_1 : decode cX5_range 1 = .ok (.iload_n 1, 1) := by decide +kernel
theorem dX5_range_2 : decode cX5_range 2 = .ok (.invokevirtual 69, 3) := by decide +kernel
theorem dX5_range_5 : decode cX5_range 5 = .ok (.ifCond .ne 6, 3) := by decide +kernel
theorem dX5_range_8 : decode cX5_range 8 = .ok (.ldc 104, 2) := by decide +kernel
theorem dX5_range_10 : decode cX5_range 10 = .ok (.ireturn, 1) := by decide +kernel
theorem dX5_range_11 : decode cX5_range 11 = .ok (.iload_n 2, 1) := by decide +kernel
theorem dX5_range_12 : decode cX5_range 12 = .ok (.ifCond .eq 18, 3) := by decide +kernel
theorem dX5_range_15 : decode cX5_range 15 = .ok (.aload_n 0, 1) := by decide +kernel
theorem dX5_range_16 : decode cX5_range 16 = .ok (.getfield 26, 3) := by decide +kernel
theorem dX5_range_19 : decode cX5_range 19 = .ok (.getfield 105, 3) := by decide +kernel
theorem dX5_range_22 : decode cX5_range 22 = .ok (.iconst 0, 1) := by decide +kernel
theorem dX5_range_23 : decode cX5_range 23 = .ok (.iload_n 1, 1) := by decide +kernel
theorem dX5_range_24 : decode cX5_range 24 = .ok (.invokevirtual 109, 3) := by decide +kernel
theorem dX5_range_27 : decode cX5_range 27 = .ok (.goto 15, 3) := by decide +kernel
theorem dX5_range_30 : decode cX5_range 30 = .ok (.aload_n 0, 1) := by decide +kernel
theorem dX5_range_31 : decode cX5_range 31 = .ok (.getfield 26, 3) := by decide +kernel
theorem dX5_range_34 : decode cX5_range 34 = .ok (.getfield 105, 3) := by decide +kernel
theorem dX5_range_37 : decode cX5_range 37 = .ok (.iconst 0, 1) := by decide +kernel
theorem dX5_range_38 : decode cX5_range 38 = .ok (.iload_n 1, 1) := by decide +kernel
theorem dX5_range_39 : decode cX5_range 39 = .ok (.invokevirtual 115, 3) := by decide +kernel
theorem dX5_range_42 : decode cX5_range 42 = .ok (.ireturn, 1) := by decide +kernel
set_option maxRecDepth 20000 in
theorem ggX5_between_X0_has : GoodIn wsX5_between wsX0_has := goodIn_r _ [7, 8, 40, 41, 42, 43, 44] (by decide +kernel) (by decide +kernel)
set_option maxRecDepth 20000 in
theorem gX5_between_X0_has : GoodIn wsX5_between (wsV RX5 79 RX0 yX0_has wsX0_has) := goodIn_app (goodIn_of _ (by decide +kernel)) ggX5_between_X0_has
set_option maxRecDepth 20000 in
theorem ggX5_between_X5_mostBehind : GoodIn wsX5_between wsX5_mostBehind := goodIn_r _ [13, 1, 14, 15, 16, 17, 18, 19, 20, 21, 22, 23, 32, 33, 34, 35, 36, 37, 38, 39, 40, 41, 42, 43, 44, 45, 46, 47, 48, 49, 50, 51, 52, 53, 54, 55, 56] (by decide +kernel) (by decide +kernel)
set_option maxRecDepth 20000 in
theorem gX5_between_X5_mostBehind : GoodIn wsX5_between (wsV RX5 118 RX5 yX5_mostBehind wsX5_mostBehind) := goodIn_app (goodIn_of _ (by decide +kernel)) ggX5_between_X5_mostBehind
set_option maxRecDepth 20000 in
theorem ggX5_between_X5_leastBehind : GoodIn wsX5_between wsX5_leastBehind := goodIn_r _ [27, 1, 14, 15, 16, 17, 28, 29, 30, 21, 31, 23, 32, 33, 34, 35, 36, 37, 38, 39, 40, 41, 42, 43, 44, 45, 46, 47, 48, 49, 50, 51, 52, 53, 54, 55, 56] (by decide +kernel) (by decide +kernel)
set_option maxRecDepth 20000 in
theorem gX5_between_X5_leastBehind : GoodIn wsX5_between (wsV RX5 121 RX5 yX5_leastBehind wsX5_leastBehind) := goodIn_app (goodIn_of _ (by decide +kernel)) ggX5_between_X5_leastBehind
theorem dX5_between_0 : decode cX5_between 0 = .ok (.aload_n 0, 1) := by decide +kernel
theorem dX5_between_1 : decode cX5_between 1 = .ok (.getfield 10, 3) := by decide +kernel
theorem dX5_between_4 : decode cX5_between 4 = .ok (.iload_n 1, 1) := by decide +kernel
theorem dX5_between_5 : decode cX5_between 5 = .ok (.invokevirtual 79, 3) := by decide +kernel
theorem dX5_between_8 : decode cX5_between 8 = .ok (.ifCond .eq 14, 3) := by decide +kernel
theorem dX5_between_11 : decode cX5_between 11 = .ok (.aload_n 0, 1) := by decide +kernel
theorem dX5_between_12 : decode cX5_between 12 = .ok (.getfield 10, 3) := by decide +kernel
theorem dX5_between_15 : decode cX5_between 15 = .ok (.iload_n 2, 1) := by decide +kernel
theorem dX5_between_16 : decode cX5_between 16 = .ok (.invokevirtual 79, 3) := by decide +kernel
theorem dX5_between_19 : decode cX5_between 19 = .ok (.ifCond .ne 6, 3) := by decide +kernel
theorem dX5_between_22 : decode cX5_between 22 = .ok (.ldc 104, 2) := by decide +kernel
theorem dX5_between_24 : decode cX5_between 24 = .ok (.ireturn, 1) := by decide +kernel
theorem dX5_between_25 : decode cX5_between 25 = .ok (.iload_n 3, 1) := by decide +kernel
theorem dX5_between_26 : decode cX5_between 26 = .ok (.ifCond .eq 12, 3) := by decide +kernel
theorem dX5_between_29 : decode cX5_between 29 = .ok (.aload_n 0, 1) := by decide +kernel
theorem dX5_between_30 : decode cX5_between 30 = .ok (.iload_n 1, 1) := by decide +kernel
theorem dX5_between_31 : decode cX5_between 31 = .ok (.iload_n 2, 1) := by decide +kernel
theorem dX5_between_32 : decode cX5_between 32 = .ok (.invokevirtual 118, 3) := by decide +kernel
theorem dX5_between_35 : decode cX5_between 35 = .ok (.goto 9, 3) := by decide +kernel
theorem dX5_between_38 : decode cX5_between 38 = .ok (.aload_n 0, 1) := by decide +kernel
theorem dX5_between_39 : decode cX5_between 39 = .ok (.iload_n 1, 1) := by decide +kernel
theorem dX5_between_40 : decode cX5_between 40 = .ok (.iload_n 2, 1) := by decide +kernel
theorem dX5_between_41 : decode cX5_between 41 = .ok (.invokevirtual 121, 3) := by decide +kernel
theorem dX5_between_44 : decode cX5_between 44 = .ok (.ireturn, 1) := by decide +kernel
set_option maxRecDepth 20000 in
theorem ggX5_order_X0_has : GoodIn wsX5_order wsX0_has := goodIn_r _ [6, 7, 43, 44, 45, 46, 47] (by decide +kernel) (by decide +kernel)
set_option maxRecDepth 20000 in
theorem gX5_order_X0_has : GoodIn wsX5_order (wsV RX5 79 RX0 yX0_has wsX0_has) := goodIn_app (goodIn_of _ (by decide +kernel)) ggX5_order_X0_has
set_option maxRecDepth 20000 in
theorem ggX5_order_X5_sureOrder : GoodIn wsX5_order wsX5_sureOrder := goodIn_r _ [12, 13, 14, 15, 11, 16, 1, 17, 18, 19, 20, 21, 22, 23, 24, 25, 26, 27, 28, 29, 30, 31, 32, 33, 34, 35, 36, 37, 38, 39, 40, 41, 42, 43, 44, 45, 46, 47, 48, 49, 50, 51, 52, 53, 54, 55, 56, 57, 58, 59] (by decide +kernel) (by decide +kernel)
set_option maxRecDepth 20000 in
theorem gX5_order_X5_sureOrder : GoodIn wsX5_order (wsV RX5 124 RX5 yX5_sureOrder wsX5_sureOrder) := goodIn_app (goodIn_of _ (by decide +kernel)) ggX5_order_X5_sureOrder
theorem dX5_order_0 : decode cX5_order 0 = .ok (.aload_n 0, 1) := by decide +kernel
theorem dX5_order_1 : decode cX5_order 1 = .ok (.getfield 10, 3) := by decide +kernel
theorem dX5_order_4 : decode cX5_order 4 = .ok (.iload_n 1, 1) := by decide +kernel
theorem dX5_order_5 : decode cX5_order 5 = .ok (.invokevirtual 79, 3) := by decide +kernel
theorem dX5_order_8 : decode cX5_order 8 = .ok (.ifCond .eq 14, 3) := by decide +kernel
theorem dX5_order_11 : decode cX5_order 11 = .ok (.aload_n 0, 1) := by decide +kernel
theorem dX5_order_12 : decode cX5_order 12 = .ok (.getfield 10, 3) := by decide +kernel
theorem dX5_order_15 : decode cX5_order 15 = .ok (.iload_n 2, 1) := by decide +kernel
theorem dX5_order_16 : decode cX5_order 16 = .ok (.invokevirtual 79, 3) := by decide +kernel
theorem dX5_order_19 : decode cX5_order 19 = .ok (.ifCond .ne 5, 3) := by decide +kernel
theorem dX5_order_22 : decode cX5_order 22 = .ok (.iconst (-1), 1) := by decide +kernel
theorem dX5_order_23 : decode cX5_order 23 = .ok (.ireturn, 1) := by decide +kernel
theorem dX5_order_24 : decode cX5_order 24 = .ok (.aload_n 0, 1) := by decide +kernel
theorem dX5_order_25 : decode cX5_order 25 = .ok (.iload_n 1, 1) := by decide +kernel
theorem dX5_order_26 : decode cX5_order 26 = .ok (.iload_n 2, 1) := by decide +kernel
theorem dX5_order_27 : decode cX5_order 27 = .ok (.invokevirtual 124, 3) := by decide +kernel
theorem dX5_order_30 : decode cX5_order 30 = .ok (.ireturn, 1) := by decide +kernel
set_option maxRecDepth 20000 in
theorem ggX5_unsure_X5_sureOrder : GoodIn wsX5_unsure wsX5_sureOrder := goodIn_r _ [7, 8, 9, 10, 6, 11, 1, 12, 13, 14, 15, 16, 17, 18, 19, 20, 21, 22, 23, 24, 25, 26, 27, 28, 29, 30, 31, 32, 33, 34, 35, 36, 37, 38, 39, 40, 41, 42, 43, 44, 45, 46, 47, 48, 49, 50, 51, 52, 53, 54] (by decide +kernel) (by decide +kernel)
set_option maxRecDepth 20000 in
theorem gX5_unsure_X5_sureOrder : GoodIn wsX5_unsure (wsV RX5 124 RX5 yX5_sureOrder wsX5_sureOrder) := goodIn_app (goodIn_of _ (by decide +kernel)) ggX5_unsure_X5_sureOrder
theorem dX5_unsure_0 : decode cX5_unsure 0 = .ok (.iconst 0, 1) := by decide +kernel
theorem dX5_unsure_1 : decode cX5_unsure 1 = .ok (.istore_n 1, 1) := by decide +kernel
theorem dX5_unsure_2 : decode cX5_unsure 2 = .ok (.iconst 0, 1) := by decide +kernel
theorem dX5_unsure_3 : decode cX5_unsure 3 = .ok (.istore_n 2, 1) := by decide +kernel
theorem dX5_unsure_4 : decode cX5_unsure 4 = .ok (.iload_n 2, 1) := by decide +kernel
theorem dX5_unsure_5 : decode cX5_unsure 5 = .ok (.aload_n 0, 1) := by decide +kernel
theorem dX5_unsure_6 : decode cX5_unsure 6 = .ok (.getfield 10, 3) := by decide +kernel
theorem dX5_unsure_9 : decode cX5_unsure 9 = .ok (.getfield 74, 3) := by decide +kernel
theorem dX5_unsure_12 : decode cX5_unsure 12 = .ok (.if_icmp .ge 42, 3) := by decide +kernel
theorem dX5_unsure_15 : decode cX5_unsure 15 = .ok (.iload_n 2, 1) := by decide +kernel
theorem dX5_unsure_16 : decode cX5_unsure 16 = .ok (.iconst 1, 1) := by decide +kernel
theorem dX5_unsure_17 : decode cX5_unsure 17 = .ok (.iadd, 1) := by decide +kernel
theorem dX5_unsure_18 : decode cX5_unsure 18 = .ok (.istore_n 3, 1) := by decide +kernel
theorem dX5_unsure_19 : decode cX5_unsure 19 = .ok (.iload_n 3, 1) := by decide +kernel
theorem dX5_unsure_20 : decode cX5_unsure 20 = .ok (.aload_n 0, 1) := by decide +kernel
theorem dX5_unsure_21 : decode cX5_unsure 21 = .ok (.getfield 10, 3) := by decide +kernel
theorem dX5_unsure_24 : decode cX5_unsure 24 = .ok (.getfield 74, 3) := by decide +kernel
theorem dX5_unsure_27 : decode cX5_unsure 27 = .ok (.if_icmp .ge 21, 3) := by decide +kernel
theorem dX5_unsure_30 : decode cX5_unsure 30 = .ok (.aload_n 0, 1) := by decide +kernel
theorem dX5_unsure_31 : decode cX5_unsure 31 = .ok (.iload_n 2, 1) := by decide +kernel
theorem dX5_unsure_32 : decode cX5_unsure 32 = .ok (.iload_n 3, 1) := by decide +kernel
theorem dX5_unsure_33 : decode cX5_unsure 33 = .ok (.invokevirtual 124, 3) := by decide +kernel
theorem dX5_unsure_36 : decode cX5_unsure 36 = .ok (.ifCond .ne 6, 3) := by decide +kernel
theorem dX5_unsure_39 : decode cX5_unsure 39 = .ok (.iinc 1 1, 3) := by decide +kernel
theorem dX5_unsure_42 : decode cX5_unsure 42 = .ok (.iinc 3 1, 3) := by decide +kernel
theorem dX5_unsure_45 : decode cX5_unsure 45 = .ok (.goto (-26), 3) := by decide +kernel
theorem dX5_unsure_48 : decode cX5_unsure 48 = .ok (.iinc 2 1, 3) := by decide +kernel
theorem dX5_unsure_51 : decode cX5_unsure 51 = .ok (.goto (-47), 3) := by decide +kernel
theorem dX5_unsure_54 : decode cX5_unsure 54 = .ok (.iload_n 1, 1) := by decide +kernel
theorem dX5_unsure_55 : decode cX5_unsure 55 = .ok (.ireturn, 1) := by decide +kernel
set_option maxRecDepth 20000 in
theorem ggX5_known_X2_least : GoodIn wsX5_known wsX2_least := goodIn_r _ [8, 9, 33] (by decide +kernel) (by decide +kernel)
set_option maxRecDepth 20000 in
theorem gX5_known_X2_least : GoodIn wsX5_known (wsV RX5 115 RX2 yX2_least wsX2_least) := goodIn_app (goodIn_of _ (by decide +kernel)) ggX5_known_X2_least
set_option maxRecDepth 20000 in
theorem ggX5_known_X2_most : GoodIn wsX5_known wsX2_most := goodIn_r _ [13, 9, 33] (by decide +kernel) (by decide +kernel)
set_option maxRecDepth 20000 in
theorem gX5_known_X2_most : GoodIn wsX5_known (wsV RX5 109 RX2 yX2_most wsX2_most) := goodIn_app (goodIn_of _ (by decide +kernel)) ggX5_known_X2_most
theorem dX5_known_0 : decode cX5_known 0 = .ok (.iconst 0, 1) := by decide +kernel
theorem dX5_known_1 : decode cX5_known 1 = .ok (.istore_n 1, 1) := by decide +kernel
theorem dX5_known_2 : decode cX5_known 2 = .ok (.iconst 0, 1) := by decide +kernel
theorem dX5_known_3 : decode cX5_known 3 = .ok (.istore_n 2, 1) := by decide +kernel
theorem dX5_known_4 : decode cX5_known 4 = .ok (.iload_n 2, 1) := by decide +kernel
theorem dX5_known_5 : decode cX5_known 5 = .ok (.aload_n 0, 1) := by decide +kernel
theorem dX5_known_6 : decode cX5_known 6 = .ok (.getfield 37, 3) := by decide +kernel
theorem dX5_known_9 : decode cX5_known 9 = .ok (.if_icmp .ge 39, 3) := by decide +kernel
theorem dX5_known_12 : decode cX5_known 12 = .ok (.aload_n 0, 1) := by decide +kernel
theorem dX5_known_13 : decode cX5_known 13 = .ok (.getfield 26, 3) := by decide +kernel
theorem dX5_known_16 : decode cX5_known 16 = .ok (.getfield 105, 3) := by decide +kernel
theorem dX5_known_19 : decode cX5_known 19 = .ok (.iconst 0, 1) := by decide +kernel
theorem dX5_known_20 : decode cX5_known 20 = .ok (.iload_n 2, 1) := by decide +kernel
theorem dX5_known_21 : decode cX5_known 21 = .ok (.invokevirtual 115, 3) := by decide +kernel
theorem dX5_known_24 : decode cX5_known 24 = .ok (.aload_n 0, 1) := by decide +kernel
theorem dX5_known_25 : decode cX5_known 25 = .ok (.getfield 26, 3) := by decide +kernel
theorem dX5_known_28 : decode cX5_known 28 = .ok (.getfield 105, 3) := by decide +kernel
theorem dX5_known_31 : decode cX5_known 31 = .ok (.iconst 0, 1) := by decide +kernel
theorem dX5_known_32 : decode cX5_known 32 = .ok (.iload_n 2, 1) := by decide +kernel
theorem dX5_known_33 : decode cX5_known 33 = .ok (.invokevirtual 109, 3) := by decide +kernel
theorem dX5_known_36 : decode cX5_known 36 = .ok (.if_icmp .ne 6, 3) := by decide +kernel
theorem dX5_known_39 : decode cX5_known 39 = .ok (.iinc 1 1, 3) := by decide +kernel
theorem dX5_known_42 : decode cX5_known 42 = .ok (.iinc 2 1, 3) := by decide +kernel
theorem dX5_known_45 : decode cX5_known 45 = .ok (.goto (-41), 3) := by decide +kernel
theorem dX5_known_48 : decode cX5_known 48 = .ok (.iload_n 1, 1) := by decide +kernel
theorem dX5_known_49 : decode cX5_known 49 = .ok (.ireturn, 1) := by decide +kernel
set_option maxRecDepth 20000 in
theorem ggX5_put_X4_settle : GoodIn wsX5_put wsX4_settle := goodIn_r _ [11, 12, 13, 14, 15, 16, 17, 18, 19, 20, 21, 22, 23, 24, 25, 26, 27, 28, 29, 30, 31, 65, 66, 67, 68, 69, 70, 71] (by decide +kernel) (by decide +kernel)
set_option maxRecDepth 20000 in
theorem gX5_put_X4_settle : GoodIn wsX5_put (wsV RX5 127 RX4 yX4_settle wsX4_settle) := goodIn_app (goodIn_of _ (by decide +kernel)) ggX5_put_X4_settle
set_option maxRecDepth 20000 in
theorem ggX5_put_X4_line : GoodIn wsX5_put wsX4_line := goodIn_r _ [35, 36, 37, 38, 39, 14, 40, 41, 42, 43, 44, 10, 45, 72, 73, 74, 75, 76, 65, 66, 67, 68, 69, 70] (by decide +kernel) (by decide +kernel)
set_option maxRecDepth 20000 in
theorem gX5_put_X4_line : GoodIn wsX5_put (wsV RX5 131 RX4 yX4_line wsX4_line) := goodIn_app (goodIn_of _ (by decide +kernel)) ggX5_put_X4_line
theorem dX5_put_0 : decode cX5_put 0 = .ok (.aload_n 0, 1) := by decide +kernel
theorem dX5_put_1 : decode cX5_put 1 = .ok (.getfield 33, 3) := by decide +kernel
theorem dX5_put_4 : decode cX5_put 4 = .ok (.aload_n 0, 1) := by decide +kernel
theorem dX5_put_5 : decode cX5_put 5 = .ok (.getfield 37, 3) := by decide +kernel
theorem dX5_put_8 : decode cX5_put 8 = .ok (.aload_n 0, 1) := by decide +kernel
theorem dX5_put_9 : decode cX5_put 9 = .ok (.getfield 26, 3) := by decide +kernel
theorem dX5_put_12 : decode cX5_put 12 = .ok (.getfield 105, 3) := by decide +kernel
theorem dX5_put_15 : decode cX5_put 15 = .ok (.invokevirtual 127, 3) := by decide +kernel
theorem dX5_put_18 : decode cX5_put 18 = .ok (.aload_n 0, 1) := by decide +kernel
theorem dX5_put_19 : decode cX5_put 19 = .ok (.getfield 33, 3) := by decide +kernel
theorem dX5_put_22 : decode cX5_put 22 = .ok (.aload_n 0, 1) := by decide +kernel
theorem dX5_put_23 : decode cX5_put 23 = .ok (.getfield 10, 3) := by decide +kernel
theorem dX5_put_26 : decode cX5_put 26 = .ok (.invokevirtual 131, 3) := by decide +kernel
theorem dX5_put_29 : decode cX5_put 29 = .ok (.aload_n 0, 1) := by decide +kernel
theorem dX5_put_30 : decode cX5_put 30 = .ok (.getfield 33, 3) := by decide +kernel
theorem dX5_put_33 : decode cX5_put 33 = .ok (.getfield 135, 3) := by decide +kernel
theorem dX5_put_36 : decode cX5_put 36 = .ok (.ireturn, 1) := by decide +kernel
set_option maxRecDepth 20000 in
theorem ggX5_offset_X4_hasCamera : GoodIn wsX5_offset wsX4_hasCamera := goodIn_r _ [8, 9, 18, 19, 20, 21, 22, 23] (by decide +kernel) (by decide +kernel)
set_option maxRecDepth 20000 in
theorem gX5_offset_X4_hasCamera : GoodIn wsX5_offset (wsV RX5 136 RX4 yX4_hasCamera wsX4_hasCamera) := goodIn_app (goodIn_of _ (by decide +kernel)) ggX5_offset_X4_hasCamera
theorem dX5_offset_0 : decode cX5_offset 0 = .ok (.aload_n 0, 1) := by decide +kernel
theorem dX5_offset_1 : decode cX5_offset 1 = .ok (.getfield 33, 3) := by decide +kernel
theorem dX5_offset_4 : decode cX5_offset 4 = .ok (.iload_n 1, 1) := by decide +kernel
theorem dX5_offset_5 : decode cX5_offset 5 = .ok (.invokevirtual 136, 3) := by decide +kernel
theorem dX5_offset_8 : decode cX5_offset 8 = .ok (.ifCond .eq 15, 3) := by decide +kernel
theorem dX5_offset_11 : decode cX5_offset 11 = .ok (.aload_n 0, 1) := by decide +kernel
theorem dX5_offset_12 : decode cX5_offset 12 = .ok (.getfield 33, 3) := by decide +kernel
theorem dX5_offset_15 : decode cX5_offset 15 = .ok (.getfield 137, 3) := by decide +kernel
theorem dX5_offset_18 : decode cX5_offset 18 = .ok (.iload_n 1, 1) := by decide +kernel
theorem dX5_offset_19 : decode cX5_offset 19 = .ok (.iaload, 1) := by decide +kernel
theorem dX5_offset_20 : decode cX5_offset 20 = .ok (.goto 5, 3) := by decide +kernel
theorem dX5_offset_23 : decode cX5_offset 23 = .ok (.ldc 104, 2) := by decide +kernel
theorem dX5_offset_25 : decode cX5_offset 25 = .ok (.ireturn, 1) := by decide +kernel
set_option maxRecDepth 20000 in
theorem ggX5_row_X4_has : GoodIn wsX5_row wsX4_has := goodIn_r _ [9, 10, 19, 20, 21, 22, 23, 24] (by decide +kernel) (by decide +kernel)
set_option maxRecDepth 20000 in
theorem gX5_row_X4_has : GoodIn wsX5_row (wsV RX5 140 RX4 yX4_has wsX4_has) := goodIn_app (goodIn_of _ (by decide +kernel)) ggX5_row_X4_has
theorem dX5_row_0 : decode cX5_row 0 = .ok (.aload_n 0, 1) := by decide +kernel
theorem dX5_row_1 : decode cX5_row 1 = .ok (.getfield 33, 3) := by decide +kernel
theorem dX5_row_4 : decode cX5_row 4 = .ok (.iload_n 1, 1) := by decide +kernel
theorem dX5_row_5 : decode cX5_row 5 = .ok (.invokevirtual 140, 3) := by decide +kernel
theorem dX5_row_8 : decode cX5_row 8 = .ok (.ifCond .ne 13, 3) := by decide +kernel
theorem dX5_row_11 : decode cX5_row 11 = .ok (.new 141, 3) := by decide +kernel
theorem dX5_row_14 : decode cX5_row 14 = .ok (.dup, 1) := by decide +kernel
theorem dX5_row_15 : decode cX5_row 15 = .ok (.ldc 143, 2) := by decide +kernel
theorem dX5_row_17 : decode cX5_row 17 = .ok (.invokespecial 145, 3) := by decide +kernel
theorem dX5_row_20 : decode cX5_row 20 = .ok (.athrow, 1) := by decide +kernel
theorem dX5_row_21 : decode cX5_row 21 = .ok (.aload_n 0, 1) := by decide +kernel
theorem dX5_row_22 : decode cX5_row 22 = .ok (.getfield 33, 3) := by decide +kernel
theorem dX5_row_25 : decode cX5_row 25 = .ok (.getfield 148, 3) := by decide +kernel
theorem dX5_row_28 : decode cX5_row 28 = .ok (.iload_n 1, 1) := by decide +kernel
theorem dX5_row_29 : decode cX5_row 29 = .ok (.iaload, 1) := by decide +kernel
theorem dX5_row_30 : decode cX5_row 30 = .ok (.ireturn, 1) := by decide +kernel
set_option maxRecDepth 20000 in
theorem ggX5_time_X4_has : GoodIn wsX5_time wsX4_has := goodIn_r _ [8, 9, 18, 19, 20, 21, 22, 23] (by decide +kernel) (by decide +kernel)
set_option maxRecDepth 20000 in
theorem gX5_time_X4_has : GoodIn wsX5_time (wsV RX5 140 RX4 yX4_has wsX4_has) := goodIn_app (goodIn_of _ (by decide +kernel)) ggX5_time_X4_has
theorem dX5_time_0 : decode cX5_time 0 = .ok (.aload_n 0, 1) := by decide +kernel
theorem dX5_time_1 : decode cX5_time 1 = .ok (.getfield 33, 3) := by decide +kernel
theorem dX5_time_4 : decode cX5_time 4 = .ok (.iload_n 1, 1) := by decide +kernel
theorem dX5_time_5 : decode cX5_time 5 = .ok (.invokevirtual 140, 3) := by decide +kernel
theorem dX5_time_8 : decode cX5_time 8 = .ok (.ifCond .eq 15, 3) := by decide +kernel
theorem dX5_time_11 : decode cX5_time 11 = .ok (.aload_n 0, 1) := by decide +kernel
theorem dX5_time_12 : decode cX5_time 12 = .ok (.getfield 33, 3) := by decide +kernel
theorem dX5_time_15 : decode cX5_time 15 = .ok (.getfield 151, 3) := by decide +kernel
theorem dX5_time_18 : decode cX5_time 18 = .ok (.iload_n 1, 1) := by decide +kernel
theorem dX5_time_19 : decode cX5_time 19 = .ok (.iaload, 1) := by decide +kernel
theorem dX5_time_20 : decode cX5_time 20 = .ok (.goto 5, 3) := by decide +kernel
theorem dX5_time_23 : decode cX5_time 23 = .ok (.ldc 104, 2) := by decide +kernel
theorem dX5_time_25 : decode cX5_time 25 = .ok (.ireturn, 1) := by decide +kernel
set_option maxRecDepth 20000 in
theorem ggX5_days_X4_dayTally : GoodIn wsX5_days wsX4_dayTally := goodIn_r _ [8, 9, 10, 11, 12, 7, 13, 14, 15, 16, 17, 18, 19, 28, 29, 30, 31, 32, 33] (by decide +kernel) (by decide +kernel)
set_option maxRecDepth 20000 in
theorem gX5_days_X4_dayTally : GoodIn wsX5_days (wsV RX5 158 RX4 yX4_dayTally wsX4_dayTally) := goodIn_app (goodIn_of _ (by decide +kernel)) ggX5_days_X4_dayTally
theorem dX5_days_0 : decode cX5_days 0 = .ok (.aload_n 0, 1) := by decide +kernel
theorem dX5_days_1 : decode cX5_days 1 = .ok (.getfield 33, 3) := by decide +kernel
theorem dX5_days_4 : decode cX5_days 4 = .ok (.getfield 154, 3) := by decide +kernel
theorem dX5_days_7 : decode cX5_days 7 = .ok (.ifCond .eq 17, 3) := by decide +kernel
theorem dX5_days_10 : decode cX5_days 10 = .ok (.aload_n 0, 1) := by decide +kernel
theorem dX5_days_11 : decode cX5_days 11 = .ok (.getfield 33, 3) := by decide +kernel
theorem dX5_days_14 : decode cX5_days 14 = .ok (.aload_n 0, 1) := by decide +kernel
theorem dX5_days_15 : decode cX5_days 15 = .ok (.getfield 41, 3) := by decide +kernel
theorem dX5_days_18 : decode cX5_days 18 = .ok (.invokevirtual 158, 3) := by decide +kernel
theorem dX5_days_21 : decode cX5_days 21 = .ok (.goto 4, 3) := by decide +kernel
theorem dX5_days_24 : decode cX5_days 24 = .ok (.iconst (-1), 1) := by decide +kernel
theorem dX5_days_25 : decode cX5_days 25 = .ok (.ireturn, 1) := by decide +kernel
set_option maxRecDepth 20000 in
theorem ggX5_day_X4_startOfDay : GoodIn wsX5_day wsX4_startOfDay := goodIn_r _ [7, 8, 9, 10, 11, 6, 12, 13, 14, 15, 16, 17, 18, 32, 33, 34, 35, 36, 37] (by decide +kernel) (by decide +kernel)
set_option maxRecDepth 20000 in
theorem gX5_day_X4_startOfDay : GoodIn wsX5_day (wsV RX5 161 RX4 yX4_startOfDay wsX4_startOfDay) := goodIn_app (goodIn_of _ (by decide +kernel)) ggX5_day_X4_startOfDay
set_option maxRecDepth 20000 in
theorem ggX5_day_X4_endOfDay : GoodIn wsX5_day wsX4_endOfDay := goodIn_r _ [22, 8, 9, 10, 11, 6, 12, 13, 14, 15, 16, 17, 18, 32, 33, 34, 35, 36, 37] (by decide +kernel) (by decide +kernel)
set_option maxRecDepth 20000 in
theorem gX5_day_X4_endOfDay : GoodIn wsX5_day (wsV RX5 164 RX4 yX4_endOfDay wsX4_endOfDay) := goodIn_app (goodIn_of _ (by decide +kernel)) ggX5_day_X4_endOfDay
set_option maxRecDepth 20000 in
theorem ggX5_day_X4_minutesFrom : GoodIn wsX5_day wsX4_minutesFrom := goodIn_r _ [16, 17, 18, 32, 33, 34, 35, 36, 37] (by decide +kernel) (by decide +kernel)
set_option maxRecDepth 20000 in
theorem gX5_day_X4_minutesFrom : GoodIn wsX5_day (wsV RX5 167 RX4 yX4_minutesFrom wsX4_minutesFrom) := goodIn_app (goodIn_of _ (by decide +kernel)) ggX5_day_X4_minutesFrom
theorem dX5_day_0 : decode cX5_day 0 = .ok (.iload_n 1, 1) := by decide +kernel
theorem dX5_day_1 : decode cX5_day 1 = .ok (.ifCond .ge 5, 3) := by decide +kernel
theorem dX5_day_4 : decode cX5_day 4 = .ok (.iconst (-1), 1) := by decide +kernel
theorem dX5_day_5 : decode cX5_day 5 = .ok (.ireturn, 1) := by decide +kernel
theorem dX5_day_6 : decode cX5_day 6 = .ok (.aload_n 0, 1) := by decide +kernel
theorem dX5_day_7 : decode cX5_day 7 = .ok (.getfield 33, 3) := by decide +kernel
theorem dX5_day_10 : decode cX5_day 10 = .ok (.iload_n 1, 1) := by decide +kernel
theorem dX5_day_11 : decode cX5_day 11 = .ok (.aload_n 0, 1) := by decide +kernel
theorem dX5_day_12 : decode cX5_day 12 = .ok (.getfield 41, 3) := by decide +kernel
theorem dX5_day_15 : decode cX5_day 15 = .ok (.invokevirtual 161, 3) := by decide +kernel
theorem dX5_day_18 : decode cX5_day 18 = .ok (.istore_n 3, 1) := by decide +kernel
theorem dX5_day_19 : decode cX5_day 19 = .ok (.iload_n 3, 1) := by decide +kernel
theorem dX5_day_20 : decode cX5_day 20 = .ok (.iconst (-1), 1) := by decide +kernel
theorem dX5_day_21 : decode cX5_day 21 = .ok (.if_icmp .ne 5, 3) := by decide +kernel
theorem dX5_day_24 : decode cX5_day 24 = .ok (.iconst (-1), 1) := by decide +kernel
theorem dX5_day_25 : decode cX5_day 25 = .ok (.ireturn, 1) := by decide +kernel
theorem dX5_day_26 : decode cX5_day 26 = .ok (.aload_n 0, 1) := by decide +kernel
theorem dX5_day_27 : decode cX5_day 27 = .ok (.getfield 33, 3) := by decide +kernel
theorem dX5_day_30 : decode cX5_day 30 = .ok (.iload_n 3, 1) := by decide +kernel
theorem dX5_day_31 : decode cX5_day 31 = .ok (.aload_n 0, 1) := by decide +kernel
theorem dX5_day_32 : decode cX5_day 32 = .ok (.getfield 41, 3) := by decide +kernel
theorem dX5_day_35 : decode cX5_day 35 = .ok (.invokevirtual 164, 3) := by decide +kernel
theorem dX5_day_38 : decode cX5_day 38 = .ok (.istore 4, 2) := by decide +kernel
theorem dX5_day_40 : decode cX5_day 40 = .ok (.iload_n 2, 1) := by decide +kernel
theorem dX5_day_41 : decode cX5_day 41 = .ok (.tableswitch 47 0 2 #[27, 29, 36], 27) := by decide +kernel
theorem dX5_day_68 : decode cX5_day 68 = .ok (.iload_n 3, 1) := by decide +kernel
theorem dX5_day_69 : decode cX5_day 69 = .ok (.ireturn, 1) := by decide +kernel
theorem dX5_day_70 : decode cX5_day 70 = .ok (.iload 4, 2) := by decide +kernel
theorem dX5_day_72 : decode cX5_day 72 = .ok (.iload_n 3, 1) := by decide +kernel
theorem dX5_day_73 : decode cX5_day 73 = .ok (.isub, 1) := by decide +kernel
theorem dX5_day_74 : decode cX5_day 74 = .ok (.iconst 1, 1) := by decide +kernel
theorem dX5_day_75 : decode cX5_day 75 = .ok (.iadd, 1) := by decide +kernel
theorem dX5_day_76 : decode cX5_day 76 = .ok (.ireturn, 1) := by decide +kernel
theorem dX5_day_77 : decode cX5_day 77 = .ok (.aload_n 0, 1) := by decide +kernel
theorem dX5_day_78 : decode cX5_day 78 = .ok (.getfield 33, 3) := by decide +kernel
theorem dX5_day_81 : decode cX5_day 81 = .ok (.iload_n 3, 1) := by decide +kernel
theorem dX5_day_82 : decode cX5_day 82 = .ok (.iload 4, 2) := by decide +kernel
theorem dX5_day_84 : decode cX5_day 84 = .ok (.invokevirtual 167, 3) := by decide +kernel
theorem dX5_day_87 : decode cX5_day 87 = .ok (.ireturn, 1) := by decide +kernel
theorem dX5_day_88 : decode cX5_day 88 = .ok (.iconst (-1), 1) := by decide +kernel
theorem dX5_day_89 : decode cX5_day 89 = .ok (.ireturn, 1) := by decide +kernel
set_option maxRecDepth 20000 in
theorem ggX5_bursts_X4_burstLengthAt : GoodIn wsX5_bursts wsX4_burstLengthAt := goodIn_r _ [9, 10, 11, 12, 13, 14, 8, 15, 16, 17, 18, 19, 20, 21, 22, 23, 24, 33, 34, 35, 36, 37, 38, 39, 40, 41, 42, 43] (by decide +kernel) (by decide +kernel)
set_option maxRecDepth 20000 in
theorem gX5_bursts_X4_burstLengthAt : GoodIn wsX5_bursts (wsV RX5 170 RX4 yX4_burstLengthAt wsX4_burstLengthAt) := goodIn_app (goodIn_of _ (by decide +kernel)) ggX5_bursts_X4_burstLengthAt
theorem dX5_bursts_0 : decode cX5_bursts 0 = .ok (.aload_n 0, 1) := by decide +kernel
theorem dX5_bursts_1 : decode cX5_bursts 1 = .ok (.getfield 33, 3) := by decide +kernel
theorem dX5_bursts_4 : decode cX5_bursts 4 = .ok (.getfield 154, 3) := by decide +kernel
theorem dX5_bursts_7 : decode cX5_bursts 7 = .ok (.ifCond .ne 5, 3) := by decide +kernel
theorem dX5_bursts_10 : decode cX5_bursts 10 = .ok (.iconst (-1), 1) := by decide +kernel
theorem dX5_bursts_11 : decode cX5_bursts 11 = .ok (.ireturn, 1) := by decide +kernel
theorem dX5_bursts_12 : decode cX5_bursts 12 = .ok (.iconst 0, 1) := by decide +kernel
theorem dX5_bursts_13 : decode cX5_bursts 13 = .ok (.istore_n 1, 1) := by decide +kernel
theorem dX5_bursts_14 : decode cX5_bursts 14 = .ok (.iconst 0, 1) := by decide +kernel
theorem dX5_bursts_15 : decode cX5_bursts 15 = .ok (.istore_n 2, 1) := by decide +kernel
theorem dX5_bursts_16 : decode cX5_bursts 16 = .ok (.iload_n 2, 1) := by decide +kernel
theorem dX5_bursts_17 : decode cX5_bursts 17 = .ok (.aload_n 0, 1) := by decide +kernel
theorem dX5_bursts_18 : decode cX5_bursts 18 = .ok (.getfield 33, 3) := by decide +kernel
theorem dX5_bursts_21 : decode cX5_bursts 21 = .ok (.getfield 135, 3) := by decide +kernel
theorem dX5_bursts_24 : decode cX5_bursts 24 = .ok (.if_icmp .ge 28, 3) := by decide +kernel
theorem dX5_bursts_27 : decode cX5_bursts 27 = .ok (.aload_n 0, 1) := by decide +kernel
theorem dX5_bursts_28 : decode cX5_bursts 28 = .ok (.getfield 33, 3) := by decide +kernel
theorem dX5_bursts_31 : decode cX5_bursts 31 = .ok (.iload_n 2, 1) := by decide +kernel
theorem dX5_bursts_32 : decode cX5_bursts 32 = .ok (.aload_n 0, 1) := by decide +kernel
theorem dX5_bursts_33 : decode cX5_bursts 33 = .ok (.getfield 10, 3) := by decide +kernel
theorem dX5_bursts_36 : decode cX5_bursts 36 = .ok (.invokevirtual 170, 3) := by decide +kernel
theorem dX5_bursts_39 : decode cX5_bursts 39 = .ok (.iconst 2, 1) := by decide +kernel
theorem dX5_bursts_40 : decode cX5_bursts 40 = .ok (.if_icmp .ne 6, 3) := by decide +kernel
theorem dX5_bursts_43 : decode cX5_bursts 43 = .ok (.iinc 1 1, 3) := by decide +kernel
theorem dX5_bursts_46 : decode cX5_bursts 46 = .ok (.iinc 2 1, 3) := by decide +kernel
theorem dX5_bursts_49 : decode cX5_bursts 49 = .ok (.goto (-33), 3) := by decide +kernel
theorem dX5_bursts_52 : decode cX5_bursts 52 = .ok (.iload_n 1, 1) := by decide +kernel
theorem dX5_bursts_53 : decode cX5_bursts 53 = .ok (.ireturn, 1) := by decide +kernel
set_option maxRecDepth 20000 in
theorem ggX5_longest_X4_burstLengthAt : GoodIn wsX5_longest wsX4_burstLengthAt := goodIn_r _ [13, 14, 15, 16, 17, 18, 12, 19, 20, 21, 22, 23, 24, 25, 26, 27, 28, 37, 38, 39, 40, 41, 42, 43, 44, 45, 46, 47] (by decide +kernel) (by decide +kernel)
set_option maxRecDepth 20000 in
theorem gX5_longest_X4_burstLengthAt : GoodIn wsX5_longest (wsV RX5 170 RX4 yX4_burstLengthAt wsX4_burstLengthAt) := goodIn_app (goodIn_of _ (by decide +kernel)) ggX5_longest_X4_burstLengthAt
theorem dX5_longest_0 : decode cX5_longest 0 = .ok (.aload_n 0, 1) := by decide +kernel
theorem dX5_longest_1 : decode cX5_longest 1 = .ok (.getfield 33, 3) := by decide +kernel
theorem dX5_longest_4 : decode cX5_longest 4 = .ok (.getfield 154, 3) := by decide +kernel
theorem dX5_longest_7 : decode cX5_longest 7 = .ok (.ifCond .ne 5, 3) := by decide +kernel
theorem dX5_longest_10 : decode cX5_longest 10 = .ok (.iconst (-1), 1) := by decide +kernel
theorem dX5_longest_11 : decode cX5_longest 11 = .ok (.ireturn, 1) := by decide +kernel
theorem dX5_longest_12 : decode cX5_longest 12 = .ok (.iconst 0, 1) := by decide +kernel
theorem dX5_longest_13 : decode cX5_longest 13 = .ok (.istore_n 1, 1) := by decide +kernel
theorem dX5_longest_14 : decode cX5_longest 14 = .ok (.iconst 0, 1) := by decide +kernel
theorem dX5_longest_15 : decode cX5_longest 15 = .ok (.istore_n 2, 1) := by decide +kernel
theorem dX5_longest_16 : decode cX5_longest 16 = .ok (.iload_n 2, 1) := by decide +kernel
theorem dX5_longest_17 : decode cX5_longest 17 = .ok (.aload_n 0, 1) := by decide +kernel
theorem dX5_longest_18 : decode cX5_longest 18 = .ok (.getfield 33, 3) := by decide +kernel
theorem dX5_longest_21 : decode cX5_longest 21 = .ok (.getfield 135, 3) := by decide +kernel
theorem dX5_longest_24 : decode cX5_longest 24 = .ok (.if_icmp .ge 26, 3) := by decide +kernel
theorem dX5_longest_27 : decode cX5_longest 27 = .ok (.iload_n 1, 1) := by decide +kernel
theorem dX5_longest_28 : decode cX5_longest 28 = .ok (.aload_n 0, 1) := by decide +kernel
theorem dX5_longest_29 : decode cX5_longest 29 = .ok (.getfield 33, 3) := by decide +kernel
theorem dX5_longest_32 : decode cX5_longest 32 = .ok (.iload_n 2, 1) := by decide +kernel
theorem dX5_longest_33 : decode cX5_longest 33 = .ok (.aload_n 0, 1) := by decide +kernel
theorem dX5_longest_34 : decode cX5_longest 34 = .ok (.getfield 10, 3) := by decide +kernel
theorem dX5_longest_37 : decode cX5_longest 37 = .ok (.invokevirtual 170, 3) := by decide +kernel
theorem dX5_longest_40 : decode cX5_longest 40 = .ok (.invokestatic 174, 3) := by decide +kernel
theorem dX5_longest_43 : decode cX5_longest 43 = .ok (.istore_n 1, 1) := by decide +kernel
theorem dX5_longest_44 : decode cX5_longest 44 = .ok (.iinc 2 1, 3) := by decide +kernel
theorem dX5_longest_47 : decode cX5_longest 47 = .ok (.goto (-31), 3) := by decide +kernel
theorem dX5_longest_50 : decode cX5_longest 50 = .ok (.iload_n 1, 1) := by decide +kernel
theorem dX5_longest_51 : decode cX5_longest 51 = .ok (.iconst 2, 1) := by decide +kernel
theorem dX5_longest_52 : decode cX5_longest 52 = .ok (.if_icmp .lt 7, 3) := by decide +kernel
theorem dX5_longest_55 : decode cX5_longest 55 = .ok (.iload_n 1, 1) := by decide +kernel
theorem dX5_longest_56 : decode cX5_longest 56 = .ok (.goto 4, 3) := by decide +kernel
theorem dX5_longest_59 : decode cX5_longest 59 = .ok (.iconst 0, 1) := by decide +kernel
theorem dX5_longest_60 : decode cX5_longest 60 = .ok (.ireturn, 1) := by decide +kernel
set_option maxRecDepth 20000 in
theorem ggX5_doubles_X4_doubleTally : GoodIn wsX5_doubles wsX4_doubleTally := goodIn_r _ [8, 9, 10, 11, 12, 13, 7, 14, 15, 16, 17, 18, 19, 20, 29, 30, 31, 32, 33, 34, 35, 36, 37, 38, 39] (by decide +kernel) (by decide +kernel)
set_option maxRecDepth 20000 in
theorem gX5_doubles_X4_doubleTally : GoodIn wsX5_doubles (wsV RX5 179 RX4 yX4_doubleTally wsX4_doubleTally) := goodIn_app (goodIn_of _ (by decide +kernel)) ggX5_doubles_X4_doubleTally
theorem dX5_doubles_0 : decode cX5_doubles 0 = .ok (.aload_n 0, 1) := by decide +kernel
theorem dX5_doubles_1 : decode cX5_doubles 1 = .ok (.getfield 33, 3) := by decide +kernel
theorem dX5_doubles_4 : decode cX5_doubles 4 = .ok (.getfield 154, 3) := by decide +kernel
theorem dX5_doubles_7 : decode cX5_doubles 7 = .ok (.ifCond .eq 17, 3) := by decide +kernel
theorem dX5_doubles_10 : decode cX5_doubles 10 = .ok (.aload_n 0, 1) := by decide +kernel
theorem dX5_doubles_11 : decode cX5_doubles 11 = .ok (.getfield 33, 3) := by decide +kernel
theorem dX5_doubles_14 : decode cX5_doubles 14 = .ok (.aload_n 0, 1) := by decide +kernel
theorem dX5_doubles_15 : decode cX5_doubles 15 = .ok (.getfield 10, 3) := by decide +kernel
theorem dX5_doubles_18 : decode cX5_doubles 18 = .ok (.invokevirtual 179, 3) := by decide +kernel
theorem dX5_doubles_21 : decode cX5_doubles 21 = .ok (.goto 4, 3) := by decide +kernel
theorem dX5_doubles_24 : decode cX5_doubles 24 = .ok (.iconst (-1), 1) := by decide +kernel
theorem dX5_doubles_25 : decode cX5_doubles 25 = .ok (.ireturn, 1) := by decide +kernel
set_option maxRecDepth 20000 in
theorem ggX5_can_X0_has : GoodIn wsX5_can wsX0_has := goodIn_r _ [7, 8, 36, 37, 38, 39, 40] (by decide +kernel) (by decide +kernel)
set_option maxRecDepth 20000 in
theorem gX5_can_X0_has : GoodIn wsX5_can (wsV RX5 79 RX0 yX0_has wsX0_has) := goodIn_app (goodIn_of _ (by decide +kernel)) ggX5_can_X0_has
set_option maxRecDepth 20000 in
theorem ggX5_can_X1_possiblePlaces : GoodIn wsX5_can wsX1_possiblePlaces := goodIn_r _ [13, 14, 15, 16, 17, 18, 12, 19, 20, 21, 22, 23, 24, 25, 26, 27, 36, 37, 38, 39, 40, 41, 42] (by decide +kernel) (by decide +kernel)
set_option maxRecDepth 20000 in
theorem gX5_can_X1_possiblePlaces : GoodIn wsX5_can (wsV RX5 183 RX1 yX1_possiblePlaces wsX1_possiblePlaces) := goodIn_app (goodIn_of _ (by decide +kernel)) ggX5_can_X1_possiblePlaces
theorem dX5_can_0 : decode cX5_can 0 = .ok (.aload_n 0, 1) := by decide +kernel
theorem dX5_can_1 : decode cX5_can 1 = .ok (.getfield 10, 3) := by decide +kernel
theorem dX5_can_4 : decode cX5_can 4 = .ok (.iload_n 1, 1) := by decide +kernel
theorem dX5_can_5 : decode cX5_can 5 = .ok (.invokevirtual 79, 3) := by decide +kernel
theorem dX5_can_8 : decode cX5_can 8 = .ok (.ifCond .eq 18, 3) := by decide +kernel
theorem dX5_can_11 : decode cX5_can 11 = .ok (.aload_n 0, 1) := by decide +kernel
theorem dX5_can_12 : decode cX5_can 12 = .ok (.getfield 19, 3) := by decide +kernel
theorem dX5_can_15 : decode cX5_can 15 = .ok (.aload_n 0, 1) := by decide +kernel
theorem dX5_can_16 : decode cX5_can 16 = .ok (.getfield 10, 3) := by decide +kernel
theorem dX5_can_19 : decode cX5_can 19 = .ok (.iload_n 1, 1) := by decide +kernel
theorem dX5_can_20 : decode cX5_can 20 = .ok (.invokevirtual 183, 3) := by decide +kernel
theorem dX5_can_23 : decode cX5_can 23 = .ok (.goto 4, 3) := by decide +kernel
theorem dX5_can_26 : decode cX5_can 26 = .ok (.iconst (-1), 1) := by decide +kernel
theorem dX5_can_27 : decode cX5_can 27 = .ok (.ireturn, 1) := by decide +kernel
set_option maxRecDepth 20000 in
theorem ggX5_found_X1_possiblePlaces : GoodIn wsX5_found wsX1_possiblePlaces := goodIn_r _ [9, 10, 11, 12, 13, 14, 8, 15, 16, 17, 18, 19, 20, 21, 22, 23, 39, 40, 41, 42, 43, 44, 45] (by decide +kernel) (by decide +kernel)
set_option maxRecDepth 20000 in
theorem gX5_found_X1_possiblePlaces : GoodIn wsX5_found (wsV RX5 183 RX1 yX1_possiblePlaces wsX1_possiblePlaces) := goodIn_app (goodIn_of _ (by decide +kernel)) ggX5_found_X1_possiblePlaces
set_option maxRecDepth 20000 in
theorem ggX5_found_J6_bitCount_0f7a4 : GoodIn wsX5_found wsJ6_bitCount_0f7a4 := goodIn_r _ [27, 28, 29, 30] (by decide +kernel) (by decide +kernel)
set_option maxRecDepth 20000 in
theorem gX5_found_J6_bitCount_0f7a4 : GoodIn wsX5_found (va_wsS RX5 190 yJ6_bitCount_0f7a4 wsJ6_bitCount_0f7a4) := goodIn_app (goodIn_of _ (by decide +kernel)) ggX5_found_J6_bitCount_0f7a4
theorem dX5_found_0 : decode cX5_found 0 = .ok (.iconst 0, 1) := by decide +kernel
theorem dX5_found_1 : decode cX5_found 1 = .ok (.istore_n 1, 1) := by decide +kernel
theorem dX5_found_2 : decode cX5_found 2 = .ok (.iconst 0, 1) := by decide +kernel
theorem dX5_found_3 : decode cX5_found 3 = .ok (.istore_n 2, 1) := by decide +kernel
theorem dX5_found_4 : decode cX5_found 4 = .ok (.iload_n 2, 1) := by decide +kernel
theorem dX5_found_5 : decode cX5_found 5 = .ok (.aload_n 0, 1) := by decide +kernel
theorem dX5_found_6 : decode cX5_found 6 = .ok (.getfield 10, 3) := by decide +kernel
theorem dX5_found_9 : decode cX5_found 9 = .ok (.getfield 74, 3) := by decide +kernel
theorem dX5_found_12 : decode cX5_found 12 = .ok (.if_icmp .ge 44, 3) := by decide +kernel
theorem dX5_found_15 : decode cX5_found 15 = .ok (.aload_n 0, 1) := by decide +kernel
theorem dX5_found_16 : decode cX5_found 16 = .ok (.getfield 10, 3) := by decide +kernel
theorem dX5_found_19 : decode cX5_found 19 = .ok (.getfield 187, 3) := by decide +kernel
theorem dX5_found_22 : decode cX5_found 22 = .ok (.iload_n 2, 1) := by decide +kernel
theorem dX5_found_23 : decode cX5_found 23 = .ok (.iaload, 1) := by decide +kernel
theorem dX5_found_24 : decode cX5_found 24 = .ok (.iconst (-1), 1) := by decide +kernel
theorem dX5_found_25 : decode cX5_found 25 = .ok (.if_icmp .ne 25, 3) := by decide +kernel
theorem dX5_found_28 : decode cX5_found 28 = .ok (.aload_n 0, 1) := by decide +kernel
theorem dX5_found_29 : decode cX5_found 29 = .ok (.getfield 19, 3) := by decide +kernel
theorem dX5_found_32 : decode cX5_found 32 = .ok (.aload_n 0, 1) := by decide +kernel
theorem dX5_found_33 : decode cX5_found 33 = .ok (.getfield 10, 3) := by decide +kernel
theorem dX5_found_36 : decode cX5_found 36 = .ok (.iload_n 2, 1) := by decide +kernel
theorem dX5_found_37 : decode cX5_found 37 = .ok (.invokevirtual 183, 3) := by decide +kernel
theorem dX5_found_40 : decode cX5_found 40 = .ok (.invokestatic 190, 3) := by decide +kernel
theorem dX5_found_43 : decode cX5_found 43 = .ok (.iconst 1, 1) := by decide +kernel
theorem dX5_found_44 : decode cX5_found 44 = .ok (.if_icmp .ne 6, 3) := by decide +kernel
theorem dX5_found_47 : decode cX5_found 47 = .ok (.iinc 1 1, 3) := by decide +kernel
theorem dX5_found_50 : decode cX5_found 50 = .ok (.iinc 2 1, 3) := by decide +kernel
theorem dX5_found_53 : decode cX5_found 53 = .ok (.goto (-49), 3) := by decide +kernel
theorem dX5_found_56 : decode cX5_found 56 = .ok (.iload_n 1, 1) := by decide +kernel
theorem dX5_found_57 : decode cX5_found 57 = .ok (.ireturn, 1) := by decide +kernel
set_option maxRecDepth 20000 in
theorem ggX5_strange_X1_isWithinReach : GoodIn wsX5_strange wsX1_isWithinReach := goodIn_r _ [9, 10, 11, 12, 13, 14, 15, 16, 17, 18, 27, 28, 29, 30, 31, 32, 33] (by decide +kernel) (by decide +kernel)
set_option maxRecDepth 20000 in
theorem gX5_strange_X1_isWithinReach : GoodIn wsX5_strange (wsV RX5 195 RX1 yX1_isWithinReach wsX1_isWithinReach) := goodIn_app (goodIn_of _ (by decide +kernel)) ggX5_strange_X1_isWithinReach
theorem dX5_strange_0 : decode cX5_strange 0 = .ok (.iconst 0, 1) := by decide +kernel
theorem dX5_strange_1 : decode cX5_strange 1 = .ok (.istore_n 1, 1) := by decide +kernel
theorem dX5_strange_2 : decode cX5_strange 2 = .ok (.iload_n 1, 1) := by decide +kernel
theorem dX5_strange_3 : decode cX5_strange 3 = .ok (.aload_n 0, 1) := by decide +kernel
theorem dX5_strange_4 : decode cX5_strange 4 = .ok (.getfield 10, 3) := by decide +kernel
theorem dX5_strange_7 : decode cX5_strange 7 = .ok (.getfield 74, 3) := by decide +kernel
theorem dX5_strange_10 : decode cX5_strange 10 = .ok (.if_icmp .ge 42, 3) := by decide +kernel
theorem dX5_strange_13 : decode cX5_strange 13 = .ok (.aload_n 0, 1) := by decide +kernel
theorem dX5_strange_14 : decode cX5_strange 14 = .ok (.getfield 10, 3) := by decide +kernel
theorem dX5_strange_17 : decode cX5_strange 17 = .ok (.getfield 187, 3) := by decide +kernel
theorem dX5_strange_20 : decode cX5_strange 20 = .ok (.iload_n 1, 1) := by decide +kernel
theorem dX5_strange_21 : decode cX5_strange 21 = .ok (.iaload, 1) := by decide +kernel
theorem dX5_strange_22 : decode cX5_strange 22 = .ok (.istore_n 2, 1) := by decide +kernel
theorem dX5_strange_23 : decode cX5_strange 23 = .ok (.iload_n 2, 1) := by decide +kernel
theorem dX5_strange_24 : decode cX5_strange 24 = .ok (.iconst (-1), 1) := by decide +kernel
theorem dX5_strange_25 : decode cX5_strange 25 = .ok (.if_icmp .eq 21, 3) := by decide +kernel
theorem dX5_strange_28 : decode cX5_strange 28 = .ok (.aload_n 0, 1) := by decide +kernel
theorem dX5_strange_29 : decode cX5_strange 29 = .ok (.getfield 19, 3) := by decide +kernel
theorem dX5_strange_32 : decode cX5_strange 32 = .ok (.aload_n 0, 1) := by decide +kernel
theorem dX5_strange_33 : decode cX5_strange 33 = .ok (.getfield 10, 3) := by decide +kernel
theorem dX5_strange_36 : decode cX5_strange 36 = .ok (.iload_n 1, 1) := by decide +kernel
theorem dX5_strange_37 : decode cX5_strange 37 = .ok (.iload_n 2, 1) := by decide +kernel
theorem dX5_strange_38 : decode cX5_strange 38 = .ok (.invokevirtual 195, 3) := by decide +kernel
theorem dX5_strange_41 : decode cX5_strange 41 = .ok (.ifCond .ne 5, 3) := by decide +kernel
theorem dX5_strange_44 : decode cX5_strange 44 = .ok (.iload_n 1, 1) := by decide +kernel
theorem dX5_strange_45 : decode cX5_strange 45 = .ok (.ireturn, 1) := by decide +kernel
theorem dX5_strange_46 : decode cX5_strange 46 = .ok (.iinc 1 1, 3) := by decide +kernel
theorem dX5_strange_49 : decode cX5_strange 49 = .ok (.goto (-47), 3) := by decide +kernel
theorem dX5_strange_52 : decode cX5_strange 52 = .ok (.bipush (-2), 2) := by decide +kernel
theorem dX5_strange_54 : decode cX5_strange 54 = .ok (.ireturn, 1) := by decide +kernel
theorem dX5_count_0 : decode cX5_count 0 = .ok (.iload_n 1, 1) := by decide +kernel
theorem dX5_count_1 : decode cX5_count 1 = .ok (.tableswitch 72 0 4 #[35, 40, 48, 56, 64], 35) := by decide +kernel
theorem dX5_count_36 : decode cX5_count 36 = .ok (.aload_n 0, 1) := by decide +kernel
theorem dX5_count_37 : decode cX5_count 37 = .ok (.getfield 37, 3) := by decide +kernel
theorem dX5_count_40 : decode cX5_count 40 = .ok (.ireturn, 1) := by decide +kernel
theorem dX5_count_41 : decode cX5_count 41 = .ok (.aload_n 0, 1) := by decide +kernel
theorem dX5_count_42 : decode cX5_count 42 = .ok (.getfield 19, 3) := by decide +kernel
theorem dX5_count_45 : decode cX5_count 45 = .ok (.getfield 54, 3) := by decide +kernel
theorem dX5_count_48 : decode cX5_count 48 = .ok (.ireturn, 1) := by decide +kernel
theorem dX5_count_49 : decode cX5_count 49 = .ok (.aload_n 0, 1) := by decide +kernel
theorem dX5_count_50 : decode cX5_count 50 = .ok (.getfield 10, 3) := by decide +kernel
theorem dX5_count_53 : decode cX5_count 53 = .ok (.getfield 74, 3) := by decide +kernel
theorem dX5_count_56 : decode cX5_count 56 = .ok (.ireturn, 1) := by decide +kernel
theorem dX5_count_57 : decode cX5_count 57 = .ok (.aload_n 0, 1) := by decide +kernel
theorem dX5_count_58 : decode cX5_count 58 = .ok (.getfield 26, 3) := by decide +kernel
theorem dX5_count_61 : decode cX5_count 61 = .ok (.getfield 199, 3) := by decide +kernel
theorem dX5_count_64 : decode cX5_count 64 = .ok (.ireturn, 1) := by decide +kernel
theorem dX5_count_65 : decode cX5_count 65 = .ok (.aload_n 0, 1) := by decide +kernel
theorem dX5_count_66 : decode cX5_count 66 = .ok (.getfield 26, 3) := by decide +kernel
theorem dX5_count_69 : decode cX5_count 69 = .ok (.getfield 200, 3) := by decide +kernel
theorem dX5_count_72 : decode cX5_count 72 = .ok (.ireturn, 1) := by decide +kernel
theorem dX5_count_73 : decode cX5_count 73 = .ok (.iconst (-1), 1) := by decide +kernel
theorem dX5_count_74 : decode cX5_count 74 = .ok (.ireturn, 1) := by decide +kernel
theorem dX5_trouble_0 : decode cX5_trouble 0 = .ok (.aload_n 0, 1) := by decide +kernel
theorem dX5_trouble_1 : decode cX5_trouble 1 = .ok (.getfield 44, 3) := by decide +kernel
theorem dX5_trouble_4 : decode cX5_trouble 4 = .ok (.ireturn, 1) := by decide +kernel
theorem dX5_refuse_0 : decode cX5_refuse 0 = .ok (.aload_n 0, 1) := by decide +kernel
theorem dX5_refuse_1 : decode cX5_refuse 1 = .ok (.iload_n 1, 1) := by decide +kernel
theorem dX5_refuse_2 : decode cX5_refuse 2 = .ok (.putfield 44, 3) := by decide +kernel
theorem dX5_refuse_5 : decode cX5_refuse 5 = .ok (.iconst (-1), 1) := by decide +kernel
theorem dX5_refuse_6 : decode cX5_refuse 6 = .ok (.ireturn, 1) := by decide +kernel
theorem dX5_hasCamera_0 : decode cX5_hasCamera 0 = .ok (.iload_n 1, 1) := by decide +kernel
theorem dX5_hasCamera_1 : decode cX5_hasCamera 1 = .ok (.ifCond .lt 15, 3) := by decide +kernel
theorem dX5_hasCamera_4 : decode cX5_hasCamera 4 = .ok (.iload_n 1, 1) := by decide +kernel
theorem dX5_hasCamera_5 : decode cX5_hasCamera 5 = .ok (.aload_n 0, 1) := by decide +kernel
theorem dX5_hasCamera_6 : decode cX5_hasCamera 6 = .ok (.getfield 37, 3) := by decide +kernel
theorem dX5_hasCamera_9 : decode cX5_hasCamera 9 = .ok (.if_icmp .ge 7, 3) := by decide +kernel
theorem dX5_hasCamera_12 : decode cX5_hasCamera 12 = .ok (.iconst 1, 1) := by decide +kernel
theorem dX5_hasCamera_13 : decode cX5_hasCamera 13 = .ok (.goto 4, 3) := by decide +kernel
theorem dX5_hasCamera_16 : decode cX5_hasCamera 16 = .ok (.iconst 0, 1) := by decide +kernel
theorem dX5_hasCamera_17 : decode cX5_hasCamera 17 = .ok (.ireturn, 1) := by decide +kernel
theorem dX5_within_0 : decode cX5_within 0 = .ok (.iload_n 0, 1) := by decide +kernel
theorem dX5_within_1 : decode cX5_within 1 = .ok (.iload_n 1, 1) := by decide +kernel
theorem dX5_within_2 : decode cX5_within 2 = .ok (.if_icmp .lt 12, 3) := by decide +kernel
theorem dX5_within_5 : decode cX5_within 5 = .ok (.iload_n 0, 1) := by decide +kernel
theorem dX5_within_6 : decode cX5_within 6 = .ok (.iload_n 2, 1) := by decide +kernel
theorem dX5_within_7 : decode cX5_within 7 = .ok (.if_icmp .gt 7, 3) := by decide +kernel
theorem dX5_within_10 : decode cX5_within 10 = .ok (.iconst 1, 1) := by decide +kernel
theorem dX5_within_11 : decode cX5_within 11 = .ok (.goto 4, 3) := by decide +kernel
theorem dX5_within_14 : decode cX5_within 14 = .ok (.iconst 0, 1) := by decide +kernel
theorem dX5_within_15 : decode cX5_within 15 = .ok (.ireturn, 1) := by decide +kernel
set_option maxRecDepth 20000 in
theorem ggX5_isOffset_X5_within : GoodIn wsX5_isOffset wsX5_within := goodIn_r _ [6] (by decide +kernel) (by decide +kernel)
set_option maxRecDepth 20000 in
theorem gX5_isOffset_X5_within : GoodIn wsX5_isOffset (va_wsS RX5 61 yX5_within wsX5_within) := goodIn_app (goodIn_of _ (by decide +kernel)) ggX5_isOffset_X5_within
theorem dX5_isOffset_0 : decode cX5_isOffset 0 = .ok (.iload_n 0, 1) := by decide +kernel
theorem dX5_isOffset_1 : decode cX5_isOffset 1 = .ok (.ldc 203, 2) := by decide +kernel
theorem dX5_isOffset_3 : decode cX5_isOffset 3 = .ok (.ldc 204, 2) := by decide +kernel
theorem dX5_isOffset_5 : decode cX5_isOffset 5 = .ok (.invokestatic 61, 3) := by decide +kernel
theorem dX5_isOffset_8 : decode cX5_isOffset 8 = .ok (.ireturn, 1) := by decide +kernel
set_option maxRecDepth 20000 in
theorem ggX5_tie_X5_refuse : GoodIn wsX5_tie wsX5_refuse := goodIn_r _ [10, 5, 77, 78, 79, 80, 81, 82, 83, 84] (by decide +kernel) (by decide +kernel)
set_option maxRecDepth 20000 in
theorem gX5_tie_X5_refuse : GoodIn wsX5_tie (wsV RX5 50 RX5 yX5_refuse wsX5_refuse) := goodIn_app (goodIn_of _ (by decide +kernel)) ggX5_tie_X5_refuse
set_option maxRecDepth 20000 in
theorem ggX5_tie_X2_admits : GoodIn wsX5_tie wsX2_admits := goodIn_r _ [15, 16, 17, 18, 14, 19, 20, 21, 22, 23, 24, 96] (by decide +kernel) (by decide +kernel)
set_option maxRecDepth 20000 in
theorem gX5_tie_X2_admits : GoodIn wsX5_tie (wsV RX5 205 RX2 yX2_admits wsX2_admits) := goodIn_app (goodIn_of _ (by decide +kernel)) ggX5_tie_X2_admits
set_option maxRecDepth 20000 in
theorem ggX5_tie_X3_fewestAgainst : GoodIn wsX5_tie wsX3_fewestAgainst := goodIn_r _ [29, 30, 31, 32, 33, 34, 35, 36, 28, 37, 38, 39, 40, 41, 42, 43, 44, 45, 46, 47, 48, 49, 50, 51, 52, 53, 54, 55, 56, 57, 58, 59, 60, 61, 85, 86, 87, 88, 89, 90, 91, 92, 93, 94, 95] (by decide +kernel) (by decide +kernel)
set_option maxRecDepth 20000 in
theorem gX5_tie_X3_fewestAgainst : GoodIn wsX5_tie (wsV RX5 209 RX3 yX3_fewestAgainst wsX3_fewestAgainst) := goodIn_app (goodIn_of _ (by decide +kernel)) ggX5_tie_X3_fewestAgainst
set_option maxRecDepth 20000 in
theorem ggX5_tie_X3_take : GoodIn wsX5_tie wsX3_take := goodIn_r _ [65, 66, 57, 67, 58, 59, 61, 60, 68, 69, 70, 71, 14, 72, 73, 74, 75, 76, 20, 85, 86, 87, 88, 89, 90, 91, 92, 93, 94, 95, 96] (by decide +kernel) (by decide +kernel)
set_option maxRecDepth 20000 in
theorem gX5_tie_X3_take : GoodIn wsX5_tie (wsV RX5 212 RX3 yX3_take wsX3_take) := goodIn_app (goodIn_of _ (by decide +kernel)) ggX5_tie_X3_take
theorem dX5_tie_0 : decode cX5_tie 0 = .ok (.aload_n 0, 1) := by decide +kernel
theorem dX5_tie_1 : decode cX5_tie 1 = .ok (.getfield 26, 3) := by decide +kernel
theorem dX5_tie_4 : decode cX5_tie 4 = .ok (.getfield 199, 3) := by decide +kernel
theorem dX5_tie_7 : decode cX5_tie 7 = .ok (.bipush 60, 2) := by decide +kernel
theorem dX5_tie_9 : decode cX5_tie 9 = .ok (.if_icmp .lt 9, 3) := by decide +kernel
theorem dX5_tie_12 : decode cX5_tie 12 = .ok (.aload_n 0, 1) := by decide +kernel
theorem dX5_tie_13 : decode cX5_tie 13 = .ok (.iconst 3, 1) := by decide +kernel
theorem dX5_tie_14 : decode cX5_tie 14 = .ok (.invokevirtual 50, 3) := by decide +kernel
theorem dX5_tie_17 : decode cX5_tie 17 = .ok (.ireturn, 1) := by decide +kernel
theorem dX5_tie_18 : decode cX5_tie 18 = .ok (.aload_n 0, 1) := by decide +kernel
theorem dX5_tie_19 : decode cX5_tie 19 = .ok (.getfield 26, 3) := by decide +kernel
theorem dX5_tie_22 : decode cX5_tie 22 = .ok (.getfield 105, 3) := by decide +kernel
theorem dX5_tie_25 : decode cX5_tie 25 = .ok (.iload_n 1, 1) := by decide +kernel
theorem dX5_tie_26 : decode cX5_tie 26 = .ok (.iload_n 2, 1) := by decide +kernel
theorem dX5_tie_27 : decode cX5_tie 27 = .ok (.iload_n 3, 1) := by decide +kernel
theorem dX5_tie_28 : decode cX5_tie 28 = .ok (.iload 4, 2) := by decide +kernel
theorem dX5_tie_30 : decode cX5_tie 30 = .ok (.invokevirtual 205, 3) := by decide +kernel
theorem dX5_tie_33 : decode cX5_tie 33 = .ok (.ifCond .ne 25, 3) := by decide +kernel
theorem dX5_tie_36 : decode cX5_tie 36 = .ok (.aload_n 0, 1) := by decide +kernel
theorem dX5_tie_37 : decode cX5_tie 37 = .ok (.aload_n 0, 1) := by decide +kernel
theorem dX5_tie_38 : decode cX5_tie 38 = .ok (.getfield 26, 3) := by decide +kernel
theorem dX5_tie_41 : decode cX5_tie 41 = .ok (.iload_n 1, 1) := by decide +kernel
theorem dX5_tie_42 : decode cX5_tie 42 = .ok (.iload_n 2, 1) := by decide +kernel
theorem dX5_tie_43 : decode cX5_tie 43 = .ok (.iload_n 3, 1) := by decide +kernel
theorem dX5_tie_44 : decode cX5_tie 44 = .ok (.iload 4, 2) := by decide +kernel
theorem dX5_tie_46 : decode cX5_tie 46 = .ok (.invokevirtual 209, 3) := by decide +kernel
theorem dX5_tie_49 : decode cX5_tie 49 = .ok (.putfield 47, 3) := by decide +kernel
theorem dX5_tie_52 : decode cX5_tie 52 = .ok (.aload_n 0, 1) := by decide +kernel
theorem dX5_tie_53 : decode cX5_tie 53 = .ok (.iconst 4, 1) := by decide +kernel
theorem dX5_tie_54 : decode cX5_tie 54 = .ok (.invokevirtual 50, 3) := by decide +kernel
theorem dX5_tie_57 : decode cX5_tie 57 = .ok (.ireturn, 1) := by decide +kernel
theorem dX5_tie_58 : decode cX5_tie 58 = .ok (.aload_n 0, 1) := by decide +kernel
theorem dX5_tie_59 : decode cX5_tie 59 = .ok (.iconst 0, 1) := by decide +kernel
theorem dX5_tie_60 : decode cX5_tie 60 = .ok (.putfield 44, 3) := by decide +kernel
theorem dX5_tie_63 : decode cX5_tie 63 = .ok (.aload_n 0, 1) := by decide +kernel
theorem dX5_tie_64 : decode cX5_tie 64 = .ok (.getfield 26, 3) := by decide +kernel
theorem dX5_tie_67 : decode cX5_tie 67 = .ok (.iload_n 1, 1) := by decide +kernel
theorem dX5_tie_68 : decode cX5_tie 68 = .ok (.iload_n 2, 1) := by decide +kernel
theorem dX5_tie_69 : decode cX5_tie 69 = .ok (.iload_n 3, 1) := by decide +kernel
theorem dX5_tie_70 : decode cX5_tie 70 = .ok (.iload 4, 2) := by decide +kernel
theorem dX5_tie_72 : decode cX5_tie 72 = .ok (.invokevirtual 212, 3) := by decide +kernel
theorem dX5_tie_75 : decode cX5_tie 75 = .ok (.ireturn, 1) := by decide +kernel
set_option maxRecDepth 20000 in
theorem ggX5_leastBehind_X2_least : GoodIn wsX5_leastBehind wsX2_least := goodIn_r _ [10, 11, 36] (by decide +kernel) (by decide +kernel)
set_option maxRecDepth 20000 in
theorem gX5_leastBehind_X2_least : GoodIn wsX5_leastBehind (wsV RX5 115 RX2 yX2_least wsX2_least) := goodIn_app (goodIn_of _ (by decide +kernel)) ggX5_leastBehind_X2_least
theorem dX5_leastBehind_0 : decode cX5_leastBehind 0 = .ok (.aload_n 0, 1) := by decide +kernel
theorem dX5_leastBehind_1 : decode cX5_leastBehind 1 = .ok (.getfield 10, 3) := by decide +kernel
theorem dX5_leastBehind_4 : decode cX5_leastBehind 4 = .ok (.getfield 80, 3) := by decide +kernel
theorem dX5_leastBehind_7 : decode cX5_leastBehind 7 = .ok (.iload_n 2, 1) := by decide +kernel
theorem dX5_leastBehind_8 : decode cX5_leastBehind 8 = .ok (.iaload, 1) := by decide +kernel
theorem dX5_leastBehind_9 : decode cX5_leastBehind 9 = .ok (.aload_n 0, 1) := by decide +kernel
theorem dX5_leastBehind_10 : decode cX5_leastBehind 10 = .ok (.getfield 10, 3) := by decide +kernel
theorem dX5_leastBehind_13 : decode cX5_leastBehind 13 = .ok (.getfield 80, 3) := by decide +kernel
theorem dX5_leastBehind_16 : decode cX5_leastBehind 16 = .ok (.iload_n 1, 1) := by decide +kernel
theorem dX5_leastBehind_17 : decode cX5_leastBehind 17 = .ok (.iaload, 1) := by decide +kernel
theorem dX5_leastBehind_18 : decode cX5_leastBehind 18 = .ok (.isub, 1) := by decide +kernel
theorem dX5_leastBehind_19 : decode cX5_leastBehind 19 = .ok (.istore_n 3, 1) := by decide +kernel
theorem dX5_leastBehind_20 : decode cX5_leastBehind 20 = .ok (.iload_n 3, 1) := by decide +kernel
theorem dX5_leastBehind_21 : decode cX5_leastBehind 21 = .ok (.aload_n 0, 1) := by decide +kernel
theorem dX5_leastBehind_22 : decode cX5_leastBehind 22 = .ok (.getfield 26, 3) := by decide +kernel
theorem dX5_leastBehind_25 : decode cX5_leastBehind 25 = .ok (.getfield 105, 3) := by decide +kernel
theorem dX5_leastBehind_28 : decode cX5_leastBehind 28 = .ok (.aload_n 0, 1) := by decide +kernel
theorem dX5_leastBehind_29 : decode cX5_leastBehind 29 = .ok (.getfield 10, 3) := by decide +kernel
theorem dX5_leastBehind_32 : decode cX5_leastBehind 32 = .ok (.getfield 84, 3) := by decide +kernel
theorem dX5_leastBehind_35 : decode cX5_leastBehind 35 = .ok (.iload_n 1, 1) := by decide +kernel
theorem dX5_leastBehind_36 : decode cX5_leastBehind 36 = .ok (.iaload, 1) := by decide +kernel
theorem dX5_leastBehind_37 : decode cX5_leastBehind 37 = .ok (.aload_n 0, 1) := by decide +kernel
theorem dX5_leastBehind_38 : decode cX5_leastBehind 38 = .ok (.getfield 10, 3) := by decide +kernel
theorem dX5_leastBehind_41 : decode cX5_leastBehind 41 = .ok (.getfield 84, 3) := by decide +kernel
theorem dX5_leastBehind_44 : decode cX5_leastBehind 44 = .ok (.iload_n 2, 1) := by decide +kernel
theorem dX5_leastBehind_45 : decode cX5_leastBehind 45 = .ok (.iaload, 1) := by decide +kernel
theorem dX5_leastBehind_46 : decode cX5_leastBehind 46 = .ok (.invokevirtual 115, 3) := by decide +kernel
theorem dX5_leastBehind_49 : decode cX5_leastBehind 49 = .ok (.iadd, 1) := by decide +kernel
theorem dX5_leastBehind_50 : decode cX5_leastBehind 50 = .ok (.ireturn, 1) := by decide +kernel
set_option maxRecDepth 20000 in
theorem ggX5_mostBehind_X2_most : GoodIn wsX5_mostBehind wsX2_most := goodIn_r _ [10, 11, 36] (by decide +kernel) (by decide +kernel)
set_option maxRecDepth 20000 in
theorem gX5_mostBehind_X2_most : GoodIn wsX5_mostBehind (wsV RX5 109 RX2 yX2_most wsX2_most) := goodIn_app (goodIn_of _ (by decide +kernel)) ggX5_mostBehind_X2_most
theorem dX5_mostBehind_0 : decode cX5_mostBehind 0 = .ok (.aload_n 0, 1) := by decide +kernel
theorem dX5_mostBehind_1 : decode cX5_mostBehind 1 = .ok (.getfield 10, 3) := by decide +kernel
theorem dX5_mostBehind_4 : decode cX5_mostBehind 4 = .ok (.getfield 80, 3) := by decide +kernel
theorem dX5_mostBehind_7 : decode cX5_mostBehind 7 = .ok (.iload_n 2, 1) := by decide +kernel
theorem dX5_mostBehind_8 : decode cX5_mostBehind 8 = .ok (.iaload, 1) := by decide +kernel
theorem dX5_mostBehind_9 : decode cX5_mostBehind 9 = .ok (.aload_n 0, 1) := by decide +kernel
theorem dX5_mostBehind_10 : decode cX5_mostBehind 10 = .ok (.getfield 10, 3) := by decide +kernel
theorem dX5_mostBehind_13 : decode cX5_mostBehind 13 = .ok (.getfield 80, 3) := by decide +kernel
theorem dX5_mostBehind_16 : decode cX5_mostBehind 16 = .ok (.iload_n 1, 1) := by decide +kernel
theorem dX5_mostBehind_17 : decode cX5_mostBehind 17 = .ok (.iaload, 1) := by decide +kernel
theorem dX5_mostBehind_18 : decode cX5_mostBehind 18 = .ok (.isub, 1) := by decide +kernel
theorem dX5_mostBehind_19 : decode cX5_mostBehind 19 = .ok (.istore_n 3, 1) := by decide +kernel
theorem dX5_mostBehind_20 : decode cX5_mostBehind 20 = .ok (.iload_n 3, 1) := by decide +kernel
theorem dX5_mostBehind_21 : decode cX5_mostBehind 21 = .ok (.aload_n 0, 1) := by decide +kernel
theorem dX5_mostBehind_22 : decode cX5_mostBehind 22 = .ok (.getfield 26, 3) := by decide +kernel
theorem dX5_mostBehind_25 : decode cX5_mostBehind 25 = .ok (.getfield 105, 3) := by decide +kernel
theorem dX5_mostBehind_28 : decode cX5_mostBehind 28 = .ok (.aload_n 0, 1) := by decide +kernel
theorem dX5_mostBehind_29 : decode cX5_mostBehind 29 = .ok (.getfield 10, 3) := by decide +kernel
theorem dX5_mostBehind_32 : decode cX5_mostBehind 32 = .ok (.getfield 84, 3) := by decide +kernel
theorem dX5_mostBehind_35 : decode cX5_mostBehind 35 = .ok (.iload_n 1, 1) := by decide +kernel
theorem dX5_mostBehind_36 : decode cX5_mostBehind 36 = .ok (.iaload, 1) := by decide +kernel
theorem dX5_mostBehind_37 : decode cX5_mostBehind 37 = .ok (.aload_n 0, 1) := by decide +kernel
theorem dX5_mostBehind_38 : decode cX5_mostBehind 38 = .ok (.getfield 10, 3) := by decide +kernel
theorem dX5_mostBehind_41 : decode cX5_mostBehind 41 = .ok (.getfield 84, 3) := by decide +kernel
theorem dX5_mostBehind_44 : decode cX5_mostBehind 44 = .ok (.iload_n 2, 1) := by decide +kernel
theorem dX5_mostBehind_45 : decode cX5_mostBehind 45 = .ok (.iaload, 1) := by decide +kernel
theorem dX5_mostBehind_46 : decode cX5_mostBehind 46 = .ok (.invokevirtual 109, 3) := by decide +kernel
theorem dX5_mostBehind_49 : decode cX5_mostBehind 49 = .ok (.iadd, 1) := by decide +kernel
theorem dX5_mostBehind_50 : decode cX5_mostBehind 50 = .ok (.ireturn, 1) := by decide +kernel
set_option maxRecDepth 20000 in
theorem ggX5_sureOrder_X5_leastBehind : GoodIn wsX5_sureOrder wsX5_leastBehind := goodIn_r _ [5, 6, 7, 8, 9, 10, 11, 12, 13, 14, 15, 16, 25, 26, 27, 28, 29, 30, 31, 32, 33, 34, 35, 36, 37, 38, 39, 40, 41, 42, 43, 44, 45, 46, 47, 48, 49] (by decide +kernel) (by decide +kernel)
set_option maxRecDepth 20000 in
theorem gX5_sureOrder_X5_leastBehind : GoodIn wsX5_sureOrder (wsV RX5 121 RX5 yX5_leastBehind wsX5_leastBehind) := goodIn_app (goodIn_of _ (by decide +kernel)) ggX5_sureOrder_X5_leastBehind
set_option maxRecDepth 20000 in
theorem ggX5_sureOrder_X5_mostBehind : GoodIn wsX5_sureOrder wsX5_mostBehind := goodIn_r _ [20, 6, 7, 8, 9, 10, 21, 22, 23, 14, 24, 16, 25, 26, 27, 28, 29, 30, 31, 32, 33, 34, 35, 36, 37, 38, 39, 40, 41, 42, 43, 44, 45, 46, 47, 48, 49] (by decide +kernel) (by decide +kernel)
set_option maxRecDepth 20000 in
theorem gX5_sureOrder_X5_mostBehind : GoodIn wsX5_sureOrder (wsV RX5 118 RX5 yX5_mostBehind wsX5_mostBehind) := goodIn_app (goodIn_of _ (by decide +kernel)) ggX5_sureOrder_X5_mostBehind
theorem dX5_sureOrder_0 : decode cX5_sureOrder 0 = .ok (.aload_n 0, 1) := by decide +kernel
theorem dX5_sureOrder_1 : decode cX5_sureOrder 1 = .ok (.iload_n 1, 1) := by decide +kernel
theorem dX5_sureOrder_2 : decode cX5_sureOrder 2 = .ok (.iload_n 2, 1) := by decide +kernel
theorem dX5_sureOrder_3 : decode cX5_sureOrder 3 = .ok (.invokevirtual 121, 3) := by decide +kernel
theorem dX5_sureOrder_6 : decode cX5_sureOrder 6 = .ok (.istore_n 3, 1) := by decide +kernel
theorem dX5_sureOrder_7 : decode cX5_sureOrder 7 = .ok (.aload_n 0, 1) := by decide +kernel
theorem dX5_sureOrder_8 : decode cX5_sureOrder 8 = .ok (.iload_n 1, 1) := by decide +kernel
theorem dX5_sureOrder_9 : decode cX5_sureOrder 9 = .ok (.iload_n 2, 1) := by decide +kernel
theorem dX5_sureOrder_10 : decode cX5_sureOrder 10 = .ok (.invokevirtual 118, 3) := by decide +kernel
theorem dX5_sureOrder_13 : decode cX5_sureOrder 13 = .ok (.istore 4, 2) := by decide +kernel
theorem dX5_sureOrder_15 : decode cX5_sureOrder 15 = .ok (.iload_n 3, 1) := by decide +kernel
theorem dX5_sureOrder_16 : decode cX5_sureOrder 16 = .ok (.ifCond .le 5, 3) := by decide +kernel
theorem dX5_sureOrder_19 : decode cX5_sureOrder 19 = .ok (.iconst 1, 1) := by decide +kernel
theorem dX5_sureOrder_20 : decode cX5_sureOrder 20 = .ok (.ireturn, 1) := by decide +kernel
theorem dX5_sureOrder_21 : decode cX5_sureOrder 21 = .ok (.iload 4, 2) := by decide +kernel
theorem dX5_sureOrder_23 : decode cX5_sureOrder 23 = .ok (.ifCond .ge 5, 3) := by decide +kernel
theorem dX5_sureOrder_26 : decode cX5_sureOrder 26 = .ok (.iconst 2, 1) := by decide +kernel
theorem dX5_sureOrder_27 : decode cX5_sureOrder 27 = .ok (.ireturn, 1) := by decide +kernel
theorem dX5_sureOrder_28 : decode cX5_sureOrder 28 = .ok (.iload_n 3, 1) := by decide +kernel
theorem dX5_sureOrder_29 : decode cX5_sureOrder 29 = .ok (.ifCond .ne 12, 3) := by decide +kernel
theorem dX5_sureOrder_32 : decode cX5_sureOrder 32 = .ok (.iload 4, 2) := by decide +kernel
theorem dX5_sureOrder_34 : decode cX5_sureOrder 34 = .ok (.ifCond .ne 7, 3) := by decide +kernel
theorem dX5_sureOrder_37 : decode cX5_sureOrder 37 = .ok (.iconst 3, 1) := by decide +kernel
theorem dX5_sureOrder_38 : decode cX5_sureOrder 38 = .ok (.goto 4, 3) := by decide +kernel
theorem dX5_sureOrder_41 : decode cX5_sureOrder 41 = .ok (.iconst 0, 1) := by decide +kernel
theorem dX5_sureOrder_42 : decode cX5_sureOrder 42 = .ok (.ireturn, 1) := by decide +kernel
theorem dX6_init_0 : decode cX6_init 0 = .ok (.aload_n 0, 1) := by decide +kernel
theorem dX6_init_1 : decode cX6_init 1 = .ok (.invokespecial 1, 3) := by decide +kernel
theorem dX6_init_4 : decode cX6_init 4 = .ok (.aload_n 0, 1) := by decide +kernel
theorem dX6_init_5 : decode cX6_init 5 = .ok (.sipush 360, 3) := by decide +kernel
theorem dX6_init_8 : decode cX6_init 8 = .ok (.putfield 7, 3) := by decide +kernel
theorem dX6_init_11 : decode cX6_init 11 = .ok (.aload_n 0, 1) := by decide +kernel
theorem dX6_init_12 : decode cX6_init 12 = .ok (.iconst (-1), 1) := by decide +kernel
theorem dX6_init_13 : decode cX6_init 13 = .ok (.putfield 13, 3) := by decide +kernel
theorem dX6_init_16 : decode cX6_init 16 = .ok (.aload_n 0, 1) := by decide +kernel
theorem dX6_init_17 : decode cX6_init 17 = .ok (.bipush 100, 2) := by decide +kernel
theorem dX6_init_19 : decode cX6_init 19 = .ok (.newarray .int, 2) := by decide +kernel
theorem dX6_init_21 : decode cX6_init 21 = .ok (.putfield 16, 3) := by decide +kernel
theorem dX6_init_24 : decode cX6_init 24 = .ok (.aload_n 0, 1) := by decide +kernel
theorem dX6_init_25 : decode cX6_init 25 = .ok (.bipush 120, 2) := by decide +kernel
theorem dX6_init_27 : decode cX6_init 27 = .ok (.newarray .int, 2) := by decide +kernel
theorem dX6_init_29 : decode cX6_init 29 = .ok (.putfield 20, 3) := by decide +kernel
theorem dX6_init_32 : decode cX6_init 32 = .ok (.aload_n 0, 1) := by decide +kernel
theorem dX6_init_33 : decode cX6_init 33 = .ok (.bipush 120, 2) := by decide +kernel
theorem dX6_init_35 : decode cX6_init 35 = .ok (.newarray .int, 2) := by decide +kernel
theorem dX6_init_37 : decode cX6_init 37 = .ok (.putfield 23, 3) := by decide +kernel
theorem dX6_init_40 : decode cX6_init 40 = .ok (.aload_n 0, 1) := by decide +kernel
theorem dX6_init_41 : decode cX6_init 41 = .ok (.bipush 120, 2) := by decide +kernel
theorem dX6_init_43 : decode cX6_init 43 = .ok (.newarray .int, 2) := by decide +kernel
theorem dX6_init_45 : decode cX6_init 45 = .ok (.putfield 26, 3) := by decide +kernel
theorem dX6_init_48 : decode cX6_init 48 = .ok (.aload_n 0, 1) := by decide +kernel
theorem dX6_init_49 : decode cX6_init 49 = .ok (.bipush 120, 2) := by decide +kernel
theorem dX6_init_51 : decode cX6_init 51 = .ok (.newarray .int, 2) := by decide +kernel
theorem dX6_init_53 : decode cX6_init 53 = .ok (.putfield 29, 3) := by decide +kernel
theorem dX6_init_56 : decode cX6_init 56 = .ok (.aload_n 0, 1) := by decide +kernel
theorem dX6_init_57 : decode cX6_init 57 = .ok (.bipush 61, 2) := by decide +kernel
theorem dX6_init_59 : decode cX6_init 59 = .ok (.newarray .int, 2) := by decide +kernel
theorem dX6_init_61 : decode cX6_init 61 = .ok (.putfield 32, 3) := by decide +kernel
theorem dX6_init_64 : decode cX6_init 64 = .ok (.aload_n 0, 1) := by decide +kernel
theorem dX6_init_65 : decode cX6_init 65 = .ok (.bipush 61, 2) := by decide +kernel
theorem dX6_init_67 : decode cX6_init 67 = .ok (.newarray .int, 2) := by decide +kernel
theorem dX6_init_69 : decode cX6_init 69 = .ok (.putfield 35, 3) := by decide +kernel
theorem dX6_init_72 : decode cX6_init 72 = .ok (.aload_n 0, 1) := by decide +kernel
theorem dX6_init_73 : decode cX6_init 73 = .ok (.bipush 61, 2) := by decide +kernel
theorem dX6_init_75 : decode cX6_init 75 = .ok (.newarray .int, 2) := by decide +kernel
theorem dX6_init_77 : decode cX6_init 77 = .ok (.putfield 38, 3) := by decide +kernel
theorem dX6_init_80 : decode cX6_init 80 = .ok (.aload_n 0, 1) := by decide +kernel
theorem dX6_init_81 : decode cX6_init 81 = .ok (.bipush 61, 2) := by decide +kernel
theorem dX6_init_83 : decode cX6_init 83 = .ok (.newarray .int, 2) := by decide +kernel
theorem dX6_init_85 : decode cX6_init 85 = .ok (.putfield 41, 3) := by decide +kernel
theorem dX6_init_88 : decode cX6_init 88 = .ok (.aload_n 0, 1) := by decide +kernel
theorem dX6_init_89 : decode cX6_init 89 = .ok (.bipush 61, 2) := by decide +kernel
theorem dX6_init_91 : decode cX6_init 91 = .ok (.newarray .int, 2) := by decide +kernel
theorem dX6_init_93 : decode cX6_init 93 = .ok (.putfield 44, 3) := by decide +kernel
theorem dX6_init_96 : decode cX6_init 96 = .ok (.aload_n 0, 1) := by decide +kernel
theorem dX6_init_97 : decode cX6_init 97 = .ok (.bipush 64, 2) := by decide +kernel
theorem dX6_init_99 : decode cX6_init 99 = .ok (.newarray .int, 2) := by decide +kernel
theorem dX6_init_101 : decode cX6_init 101 = .ok (.putfield 47, 3) := by decide +kernel
theorem dX6_init_104 : decode cX6_init 104 = .ok (.aload_n 0, 1) := by decide +kernel
theorem dX6_init_105 : decode cX6_init 105 = .ok (.bipush 64, 2) := by decide +kernel
theorem dX6_init_107 : decode cX6_init 107 = .ok (.newarray .int, 2) := by decide +kernel
theorem dX6_init_109 : decode cX6_init 109 = .ok (.putfield 50, 3) := by decide +kernel
theorem dX6_init_112 : decode cX6_init 112 = .ok (.aload_n 0, 1) := by decide +kernel
theorem dX6_init_113 : decode cX6_init 113 = .ok (.bipush 64, 2) := by decide +kernel
theorem dX6_init_115 : decode cX6_init 115 = .ok (.newarray .int, 2) := by decide +kernel
theorem dX6_init_117 : decode cX6_init 117 = .ok (.putfield 53, 3) := by decide +kernel
theorem dX6_init_120 : decode cX6_init 120 = .ok (.aload_n 0, 1) := by decide +kernel
theorem dX6_init_121 : decode cX6_init 121 = .ok (.bipush 64, 2) := by decide +kernel
theorem dX6_init_123 : decode cX6_init 123 = .ok (.newarray .int, 2) := by decide +kernel
theorem dX6_init_125 : decode cX6_init 125 = .ok (.putfield 56, 3) := by decide +kernel
theorem dX6_init_128 : decode cX6_init 128 = .ok (.aload_n 0, 1) := by decide +kernel
theorem dX6_init_129 : decode cX6_init 129 = .ok (.bipush 64, 2) := by decide +kernel
theorem dX6_init_131 : decode cX6_init 131 = .ok (.newarray .int, 2) := by decide +kernel
theorem dX6_init_133 : decode cX6_init 133 = .ok (.putfield 59, 3) := by decide +kernel
theorem dX6_init_136 : decode cX6_init 136 = .ok (.aload_n 0, 1) := by decide +kernel
theorem dX6_init_137 : decode cX6_init 137 = .ok (.bipush 64, 2) := by decide +kernel
theorem dX6_init_139 : decode cX6_init 139 = .ok (.newarray .int, 2) := by decide +kernel
theorem dX6_init_141 : decode cX6_init 141 = .ok (.putfield 62, 3) := by decide +kernel
theorem dX6_init_144 : decode cX6_init 144 = .ok (.aload_n 0, 1) := by decide +kernel
theorem dX6_init_145 : decode cX6_init 145 = .ok (.iconst (-1), 1) := by decide +kernel
theorem dX6_init_146 : decode cX6_init 146 = .ok (.putfield 65, 3) := by decide +kernel
theorem dX6_init_149 : decode cX6_init 149 = .ok (.aload_n 0, 1) := by decide +kernel
theorem dX6_init_150 : decode cX6_init 150 = .ok (.bipush 8, 2) := by decide +kernel
theorem dX6_init_152 : decode cX6_init 152 = .ok (.newarray .int, 2) := by decide +kernel
theorem dX6_init_154 : decode cX6_init 154 = .ok (.putfield 68, 3) := by decide +kernel
theorem dX6_init_157 : decode cX6_init 157 = .ok (.aload_n 0, 1) := by decide +kernel
theorem dX6_init_158 : decode cX6_init 158 = .ok (.bipush 120, 2) := by decide +kernel
theorem dX6_init_160 : decode cX6_init 160 = .ok (.newarray .int, 2) := by decide +kernel
theorem dX6_init_162 : decode cX6_init 162 = .ok (.putfield 71, 3) := by decide +kernel
theorem dX6_init_165 : decode cX6_init 165 = .ok (.return_, 1) := by decide +kernel
theorem dX6_thrown_0 : decode cX6_thrown 0 = .ok (.aload_n 0, 1) := by decide +kernel
theorem dX6_thrown_1 : decode cX6_thrown 1 = .ok (.getfield 74, 3) := by decide +kernel
theorem dX6_thrown_4 : decode cX6_thrown 4 = .ok (.ireturn, 1) := by decide +kernel
theorem dX6_refused_0 : decode cX6_refused 0 = .ok (.aload_n 0, 1) := by decide +kernel
theorem dX6_refused_1 : decode cX6_refused 1 = .ok (.iload_n 1, 1) := by decide +kernel
theorem dX6_refused_2 : decode cX6_refused 2 = .ok (.putfield 77, 3) := by decide +kernel
theorem dX6_refused_5 : decode cX6_refused 5 = .ok (.iconst (-1), 1) := by decide +kernel
theorem dX6_refused_6 : decode cX6_refused 6 = .ok (.ireturn, 1) := by decide +kernel
theorem dX6_denied_0 : decode cX6_denied 0 = .ok (.aload_n 0, 1) := by decide +kernel
theorem dX6_denied_1 : decode cX6_denied 1 = .ok (.iload_n 1, 1) := by decide +kernel
theorem dX6_denied_2 : decode cX6_denied 2 = .ok (.putfield 77, 3) := by decide +kernel
theorem dX6_denied_5 : decode cX6_denied 5 = .ok (.iconst 0, 1) := by decide +kernel
theorem dX6_denied_6 : decode cX6_denied 6 = .ok (.ireturn, 1) := by decide +kernel
theorem dX6_done_0 : decode cX6_done 0 = .ok (.aload_n 0, 1) := by decide +kernel
theorem dX6_done_1 : decode cX6_done 1 = .ok (.iconst 0, 1) := by decide +kernel
theorem dX6_done_2 : decode cX6_done 2 = .ok (.putfield 77, 3) := by decide +kernel
theorem dX6_done_5 : decode cX6_done 5 = .ok (.iload_n 1, 1) := by decide +kernel
theorem dX6_done_6 : decode cX6_done 6 = .ok (.ireturn, 1) := by decide +kernel
theorem dX6_granted_0 : decode cX6_granted 0 = .ok (.aload_n 0, 1) := by decide +kernel
theorem dX6_granted_1 : decode cX6_granted 1 = .ok (.iconst 0, 1) := by decide +kernel
theorem dX6_granted_2 : decode cX6_granted 2 = .ok (.putfield 77, 3) := by decide +kernel
theorem dX6_granted_5 : decode cX6_granted 5 = .ok (.iconst 1, 1) := by decide +kernel
theorem dX6_granted_6 : decode cX6_granted 6 = .ok (.ireturn, 1) := by decide +kernel
theorem dX6_in_0 : decode cX6_in 0 = .ok (.iload_n 0, 1) := by decide +kernel
theorem dX6_in_1 : decode cX6_in 1 = .ok (.iload_n 1, 1) := by decide +kernel
theorem dX6_in_2 : decode cX6_in 2 = .ok (.if_icmp .lt 12, 3) := by decide +kernel
theorem dX6_in_5 : decode cX6_in 5 = .ok (.iload_n 0, 1) := by decide +kernel
theorem dX6_in_6 : decode cX6_in 6 = .ok (.iload_n 2, 1) := by decide +kernel
theorem dX6_in_7 : decode cX6_in 7 = .ok (.if_icmp .gt 7, 3) := by decide +kernel
theorem dX6_in_10 : decode cX6_in 10 = .ok (.iconst 1, 1) := by decide +kernel
theorem dX6_in_11 : decode cX6_in 11 = .ok (.goto 4, 3) := by decide +kernel
theorem dX6_in_14 : decode cX6_in 14 = .ok (.iconst 0, 1) := by decide +kernel
theorem dX6_in_15 : decode cX6_in 15 = .ok (.ireturn, 1) := by decide +kernel
set_option maxRecDepth 20000 in
theorem ggX6_camera_X6_refused : GoodIn wsX6_camera wsX6_refused := goodIn_r _ [7, 8, 13, 14, 15, 16, 17, 18, 19, 20, 21, 22, 23, 24, 25, 26, 27, 28, 29, 30, 31, 32, 33, 34, 35, 36, 37, 38, 39, 40, 41] (by decide +kernel) (by decide +kernel)
set_option maxRecDepth 20000 in
theorem gX6_camera_X6_refused : GoodIn wsX6_camera (wsV RX6 83 RX6 yX6_refused wsX6_refused) := goodIn_app (goodIn_of _ (by decide +kernel)) ggX6_camera_X6_refused
set_option maxRecDepth 20000 in
theorem ggX6_camera_X6_done : GoodIn wsX6_camera wsX6_done := goodIn_r _ [12, 8, 13, 14, 15, 16, 17, 18, 19, 20, 21, 22, 23, 24, 25, 26, 27, 28, 29, 30, 31, 32, 33, 34, 35, 36, 37, 38, 39, 40, 41] (by decide +kernel) (by decide +kernel)
set_option maxRecDepth 20000 in
theorem gX6_camera_X6_done : GoodIn wsX6_camera (wsV RX6 87 RX6 yX6_done wsX6_done) := goodIn_app (goodIn_of _ (by decide +kernel)) ggX6_camera_X6_done
theorem dX6_camera_0 : decode cX6_camera 0 = .ok (.aload_n 0, 1) := by decide +kernel
theorem dX6_camera_1 : decode cX6_camera 1 = .ok (.iconst 0, 1) := by decide +kernel
theorem dX6_camera_2 : decode cX6_camera 2 = .ok (.putfield 74, 3) := by decide +kernel
theorem dX6_camera_5 : decode cX6_camera 5 = .ok (.aload_n 0, 1) := by decide +kernel
theorem dX6_camera_6 : decode cX6_camera 6 = .ok (.getfield 80, 3) := by decide +kernel
theorem dX6_camera_9 : decode cX6_camera 9 = .ok (.bipush 8, 2) := by decide +kernel
theorem dX6_camera_11 : decode cX6_camera 11 = .ok (.if_icmp .ne 9, 3) := by decide +kernel
theorem dX6_camera_14 : decode cX6_camera 14 = .ok (.aload_n 0, 1) := by decide +kernel
theorem dX6_camera_15 : decode cX6_camera 15 = .ok (.iconst 3, 1) := by decide +kernel
theorem dX6_camera_16 : decode cX6_camera 16 = .ok (.invokevirtual 83, 3) := by decide +kernel
theorem dX6_camera_19 : decode cX6_camera 19 = .ok (.ireturn, 1) := by decide +kernel
theorem dX6_camera_20 : decode cX6_camera 20 = .ok (.aload_n 0, 1) := by decide +kernel
theorem dX6_camera_21 : decode cX6_camera 21 = .ok (.dup, 1) := by decide +kernel
theorem dX6_camera_22 : decode cX6_camera 22 = .ok (.getfield 80, 3) := by decide +kernel
theorem dX6_camera_25 : decode cX6_camera 25 = .ok (.iconst 1, 1) := by decide +kernel
theorem dX6_camera_26 : decode cX6_camera 26 = .ok (.iadd, 1) := by decide +kernel
theorem dX6_camera_27 : decode cX6_camera 27 = .ok (.putfield 80, 3) := by decide +kernel
theorem dX6_camera_30 : decode cX6_camera 30 = .ok (.aload_n 0, 1) := by decide +kernel
theorem dX6_camera_31 : decode cX6_camera 31 = .ok (.aload_n 0, 1) := by decide +kernel
theorem dX6_camera_32 : decode cX6_camera 32 = .ok (.getfield 80, 3) := by decide +kernel
theorem dX6_camera_35 : decode cX6_camera 35 = .ok (.iconst 1, 1) := by decide +kernel
theorem dX6_camera_36 : decode cX6_camera 36 = .ok (.isub, 1) := by decide +kernel
theorem dX6_camera_37 : decode cX6_camera 37 = .ok (.invokevirtual 87, 3) := by decide +kernel
theorem dX6_camera_40 : decode cX6_camera 40 = .ok (.ireturn, 1) := by decide +kernel
set_option maxRecDepth 20000 in
theorem ggX6_place_X6_refused : GoodIn wsX6_place wsX6_refused := goodIn_r _ [7, 8, 13, 14, 15, 16, 17, 18, 19, 20, 21, 22, 23, 24, 25, 26, 27, 28, 29, 30, 31, 32, 33, 34, 35, 36, 37, 38, 39, 40, 41] (by decide +kernel) (by decide +kernel)
set_option maxRecDepth 20000 in
theorem gX6_place_X6_refused : GoodIn wsX6_place (wsV RX6 83 RX6 yX6_refused wsX6_refused) := goodIn_app (goodIn_of _ (by decide +kernel)) ggX6_place_X6_refused
set_option maxRecDepth 20000 in
theorem ggX6_place_X6_done : GoodIn wsX6_place wsX6_done := goodIn_r _ [12, 8, 13, 14, 15, 16, 17, 18, 19, 20, 21, 22, 23, 24, 25, 26, 27, 28, 29, 30, 31, 32, 33, 34, 35, 36, 37, 38, 39, 40, 41] (by decide +kernel) (by decide +kernel)
set_option maxRecDepth 20000 in
theorem gX6_place_X6_done : GoodIn wsX6_place (wsV RX6 87 RX6 yX6_done wsX6_done) := goodIn_app (goodIn_of _ (by decide +kernel)) ggX6_place_X6_done
theorem dX6_place_0 : decode cX6_place 0 = .ok (.aload_n 0, 1) := by decide +kernel
theorem dX6_place_1 : decode cX6_place 1 = .ok (.iconst 0, 1) := by decide +kernel
theorem dX6_place_2 : decode cX6_place 2 = .ok (.putfield 74, 3) := by decide +kernel
theorem dX6_place_5 : decode cX6_place 5 = .ok (.aload_n 0, 1) := by decide +kernel
theorem dX6_place_6 : decode cX6_place 6 = .ok (.getfield 90, 3) := by decide +kernel
theorem dX6_place_9 : decode cX6_place 9 = .ok (.bipush 10, 2) := by decide +kernel
theorem dX6_place_11 : decode cX6_place 11 = .ok (.if_icmp .ne 9, 3) := by decide +kernel
theorem dX6_place_14 : decode cX6_place 14 = .ok (.aload_n 0, 1) := by decide +kernel
theorem dX6_place_15 : decode cX6_place 15 = .ok (.iconst 3, 1) := by decide +kernel
theorem dX6_place_16 : decode cX6_place 16 = .ok (.invokevirtual 83, 3) := by decide +kernel
theorem dX6_place_19 : decode cX6_place 19 = .ok (.ireturn, 1) := by decide +kernel
theorem dX6_place_20 : decode cX6_place 20 = .ok (.aload_n 0, 1) := by decide +kernel
theorem dX6_place_21 : decode cX6_place 21 = .ok (.dup, 1) := by decide +kernel
theorem dX6_place_22 : decode cX6_place 22 = .ok (.getfield 90, 3) := by decide +kernel
theorem dX6_place_25 : decode cX6_place 25 = .ok (.iconst 1, 1) := by decide +kernel
theorem dX6_place_26 : decode cX6_place 26 = .ok (.iadd, 1) := by decide +kernel
theorem dX6_place_27 : decode cX6_place 27 = .ok (.putfield 90, 3) := by decide +kernel
theorem dX6_place_30 : decode cX6_place 30 = .ok (.aload_n 0, 1) := by decide +kernel
theorem dX6_place_31 : decode cX6_place 31 = .ok (.aload_n 0, 1) := by decide +kernel
theorem dX6_place_32 : decode cX6_place 32 = .ok (.getfield 90, 3) := by decide +kernel
theorem dX6_place_35 : decode cX6_place 35 = .ok (.iconst 1, 1) := by decide +kernel
theorem dX6_place_36 : decode cX6_place 36 = .ok (.isub, 1) := by decide +kernel
theorem dX6_place_37 : decode cX6_place 37 = .ok (.invokevirtual 87, 3) := by decide +kernel
theorem dX6_place_40 : decode cX6_place 40 = .ok (.ireturn, 1) := by decide +kernel
theorem dX6_isPlace_0 : decode cX6_isPlace 0 = .ok (.iload_n 1, 1) := by decide +kernel
theorem dX6_isPlace_1 : decode cX6_isPlace 1 = .ok (.ifCond .lt 15, 3) := by decide +kernel
theorem dX6_isPlace_4 : decode cX6_isPlace 4 = .ok (.iload_n 1, 1) := by decide +kernel
theorem dX6_isPlace_5 : decode cX6_isPlace 5 = .ok (.aload_n 0, 1) := by decide +kernel
theorem dX6_isPlace_6 : decode cX6_isPlace 6 = .ok (.getfield 90, 3) := by decide +kernel
theorem dX6_isPlace_9 : decode cX6_isPlace 9 = .ok (.if_icmp .ge 7, 3) := by decide +kernel
theorem dX6_isPlace_12 : decode cX6_isPlace 12 = .ok (.iconst 1, 1) := by decide +kernel
theorem dX6_isPlace_13 : decode cX6_isPlace 13 = .ok (.goto 4, 3) := by decide +kernel
theorem dX6_isPlace_16 : decode cX6_isPlace 16 = .ok (.iconst 0, 1) := by decide +kernel
theorem dX6_isPlace_17 : decode cX6_isPlace 17 = .ok (.ireturn, 1) := by decide +kernel
theorem dX6_isCamera_0 : decode cX6_isCamera 0 = .ok (.iload_n 1, 1) := by decide +kernel
theorem dX6_isCamera_1 : decode cX6_isCamera 1 = .ok (.ifCond .lt 15, 3) := by decide +kernel
theorem dX6_isCamera_4 : decode cX6_isCamera 4 = .ok (.iload_n 1, 1) := by decide +kernel
theorem dX6_isCamera_5 : decode cX6_isCamera 5 = .ok (.aload_n 0, 1) := by decide +kernel
theorem dX6_isCamera_6 : decode cX6_isCamera 6 = .ok (.getfield 80, 3) := by decide +kernel
theorem dX6_isCamera_9 : decode cX6_isCamera 9 = .ok (.if_icmp .ge 7, 3) := by decide +kernel
theorem dX6_isCamera_12 : decode cX6_isCamera 12 = .ok (.iconst 1, 1) := by decide +kernel
theorem dX6_isCamera_13 : decode cX6_isCamera 13 = .ok (.goto 4, 3) := by decide +kernel
theorem dX6_isCamera_16 : decode cX6_isCamera 16 = .ok (.iconst 0, 1) := by decide +kernel
theorem dX6_isCamera_17 : decode cX6_isCamera 17 = .ok (.ireturn, 1) := by decide +kernel
theorem dX6_isPicture_0 : decode cX6_isPicture 0 = .ok (.iload_n 1, 1) := by decide +kernel
theorem dX6_isPicture_1 : decode cX6_isPicture 1 = .ok (.ifCond .lt 15, 3) := by decide +kernel
theorem dX6_isPicture_4 : decode cX6_isPicture 4 = .ok (.iload_n 1, 1) := by decide +kernel
theorem dX6_isPicture_5 : decode cX6_isPicture 5 = .ok (.aload_n 0, 1) := by decide +kernel
theorem dX6_isPicture_6 : decode cX6_isPicture 6 = .ok (.getfield 93, 3) := by decide +kernel
theorem dX6_isPicture_9 : decode cX6_isPicture 9 = .ok (.if_icmp .ge 7, 3) := by decide +kernel
theorem dX6_isPicture_12 : decode cX6_isPicture 12 = .ok (.iconst 1, 1) := by decide +kernel
theorem dX6_isPicture_13 : decode cX6_isPicture 13 = .ok (.goto 4, 3) := by decide +kernel
theorem dX6_isPicture_16 : decode cX6_isPicture 16 = .ok (.iconst 0, 1) := by decide +kernel
theorem dX6_isPicture_17 : decode cX6_isPicture 17 = .ok (.ireturn, 1) := by decide +kernel
set_option maxRecDepth 20000 in
theorem ggX6_way_X6_isPlace : GoodIn wsX6_way wsX6_isPlace := goodIn_r _ [7, 8, 21, 22, 23, 24, 25, 26, 27, 28, 29, 30, 31, 32, 33, 34, 35, 36, 37, 38, 39, 40, 41, 42, 43, 44, 45, 46, 47, 48, 49] (by decide +kernel) (by decide +kernel)
set_option maxRecDepth 20000 in
theorem gX6_way_X6_isPlace : GoodIn wsX6_way (wsV RX6 96 RX6 yX6_isPlace wsX6_isPlace) := goodIn_app (goodIn_of _ (by decide +kernel)) ggX6_way_X6_isPlace
set_option maxRecDepth 20000 in
theorem ggX6_way_X6_denied : GoodIn wsX6_way wsX6_denied := goodIn_r _ [12, 13, 21, 22, 23, 24, 25, 26, 27, 28, 29, 30, 31, 32, 33, 34, 35, 36, 37, 38, 39, 40, 41, 42, 43, 44, 45, 46, 47, 48, 49] (by decide +kernel) (by decide +kernel)
set_option maxRecDepth 20000 in
theorem gX6_way_X6_denied : GoodIn wsX6_way (wsV RX6 100 RX6 yX6_denied wsX6_denied) := goodIn_app (goodIn_of _ (by decide +kernel)) ggX6_way_X6_denied
set_option maxRecDepth 20000 in
theorem ggX6_way_X6_in : GoodIn wsX6_way wsX6_in := goodIn_r _ [16] (by decide +kernel) (by decide +kernel)
set_option maxRecDepth 20000 in
theorem gX6_way_X6_in : GoodIn wsX6_way (va_wsS RX6 103 yX6_in wsX6_in) := goodIn_app (goodIn_of _ (by decide +kernel)) ggX6_way_X6_in
set_option maxRecDepth 20000 in
theorem ggX6_way_X6_granted : GoodIn wsX6_way wsX6_granted := goodIn_r _ [20, 13, 21, 22, 23, 24, 25, 26, 27, 28, 29, 30, 31, 32, 33, 34, 35, 36, 37, 38, 39, 40, 41, 42, 43, 44, 45, 46, 47, 48, 49] (by decide +kernel) (by decide +kernel)
set_option maxRecDepth 20000 in
theorem gX6_way_X6_granted : GoodIn wsX6_way (wsV RX6 107 RX6 yX6_granted wsX6_granted) := goodIn_app (goodIn_of _ (by decide +kernel)) ggX6_way_X6_granted
theorem dX6_way_0 : decode cX6_way 0 = .ok (.aload_n 0, 1) := by decide +kernel
theorem dX6_way_1 : decode cX6_way 1 = .ok (.iconst 0, 1) := by decide +kernel
theorem dX6_way_2 : decode cX6_way 2 = .ok (.putfield 74, 3) := by decide +kernel
theorem dX6_way_5 : decode cX6_way 5 = .ok (.aload_n 0, 1) := by decide +kernel
theorem dX6_way_6 : decode cX6_way 6 = .ok (.iload_n 1, 1) := by decide +kernel
theorem dX6_way_7 : decode cX6_way 7 = .ok (.invokevirtual 96, 3) := by decide +kernel
theorem dX6_way_10 : decode cX6_way 10 = .ok (.ifCond .eq 16, 3) := by decide +kernel
theorem dX6_way_13 : decode cX6_way 13 = .ok (.aload_n 0, 1) := by decide +kernel
theorem dX6_way_14 : decode cX6_way 14 = .ok (.iload_n 2, 1) := by decide +kernel
theorem dX6_way_15 : decode cX6_way 15 = .ok (.invokevirtual 96, 3) := by decide +kernel
theorem dX6_way_18 : decode cX6_way 18 = .ok (.ifCond .eq 8, 3) := by decide +kernel
theorem dX6_way_21 : decode cX6_way 21 = .ok (.iload_n 1, 1) := by decide +kernel
theorem dX6_way_22 : decode cX6_way 22 = .ok (.iload_n 2, 1) := by decide +kernel
theorem dX6_way_23 : decode cX6_way 23 = .ok (.if_icmp .ne 9, 3) := by decide +kernel
theorem dX6_way_26 : decode cX6_way 26 = .ok (.aload_n 0, 1) := by decide +kernel
theorem dX6_way_27 : decode cX6_way 27 = .ok (.iconst 1, 1) := by decide +kernel
theorem dX6_way_28 : decode cX6_way 28 = .ok (.invokevirtual 100, 3) := by decide +kernel
theorem dX6_way_31 : decode cX6_way 31 = .ok (.ireturn, 1) := by decide +kernel
theorem dX6_way_32 : decode cX6_way 32 = .ok (.iload_n 3, 1) := by decide +kernel
theorem dX6_way_33 : decode cX6_way 33 = .ok (.iconst 0, 1) := by decide +kernel
theorem dX6_way_34 : decode cX6_way 34 = .ok (.sipush 10000, 3) := by decide +kernel
theorem dX6_way_37 : decode cX6_way 37 = .ok (.invokestatic 103, 3) := by decide +kernel
theorem dX6_way_40 : decode cX6_way 40 = .ok (.ifCond .ne 9, 3) := by decide +kernel
theorem dX6_way_43 : decode cX6_way 43 = .ok (.aload_n 0, 1) := by decide +kernel
theorem dX6_way_44 : decode cX6_way 44 = .ok (.iconst 2, 1) := by decide +kernel
theorem dX6_way_45 : decode cX6_way 45 = .ok (.invokevirtual 100, 3) := by decide +kernel
theorem dX6_way_48 : decode cX6_way 48 = .ok (.ireturn, 1) := by decide +kernel
theorem dX6_way_49 : decode cX6_way 49 = .ok (.aload_n 0, 1) := by decide +kernel
theorem dX6_way_50 : decode cX6_way 50 = .ok (.getfield 16, 3) := by decide +kernel
theorem dX6_way_53 : decode cX6_way 53 = .ok (.bipush 10, 2) := by decide +kernel
theorem dX6_way_55 : decode cX6_way 55 = .ok (.iload_n 1, 1) := by decide +kernel
theorem dX6_way_56 : decode cX6_way 56 = .ok (.imul, 1) := by decide +kernel
theorem dX6_way_57 : decode cX6_way 57 = .ok (.iload_n 2, 1) := by decide +kernel
theorem dX6_way_58 : decode cX6_way 58 = .ok (.iadd, 1) := by decide +kernel
theorem dX6_way_59 : decode cX6_way 59 = .ok (.iload_n 3, 1) := by decide +kernel
theorem dX6_way_60 : decode cX6_way 60 = .ok (.iastore, 1) := by decide +kernel
theorem dX6_way_61 : decode cX6_way 61 = .ok (.aload_n 0, 1) := by decide +kernel
theorem dX6_way_62 : decode cX6_way 62 = .ok (.getfield 16, 3) := by decide +kernel
theorem dX6_way_65 : decode cX6_way 65 = .ok (.bipush 10, 2) := by decide +kernel
theorem dX6_way_67 : decode cX6_way 67 = .ok (.iload_n 2, 1) := by decide +kernel
theorem dX6_way_68 : decode cX6_way 68 = .ok (.imul, 1) := by decide +kernel
theorem dX6_way_69 : decode cX6_way 69 = .ok (.iload_n 1, 1) := by decide +kernel
theorem dX6_way_70 : decode cX6_way 70 = .ok (.iadd, 1) := by decide +kernel
theorem dX6_way_71 : decode cX6_way 71 = .ok (.iload_n 3, 1) := by decide +kernel
theorem dX6_way_72 : decode cX6_way 72 = .ok (.iastore, 1) := by decide +kernel
theorem dX6_way_73 : decode cX6_way 73 = .ok (.aload_n 0, 1) := by decide +kernel
theorem dX6_way_74 : decode cX6_way 74 = .ok (.invokevirtual 107, 3) := by decide +kernel
theorem dX6_way_77 : decode cX6_way 77 = .ok (.ireturn, 1) := by decide +kernel
set_option maxRecDepth 20000 in
theorem ggX6_picture_X6_isCamera : GoodIn wsX6_picture wsX6_isCamera := goodIn_r _ [13, 14, 32, 33, 34, 35, 36, 37, 38, 39, 40, 41, 42, 43, 44, 45, 46, 47, 48, 49, 50, 51, 52, 53, 54, 55, 56, 57, 58, 59, 60] (by decide +kernel) (by decide +kernel)
set_option maxRecDepth 20000 in
theorem gX6_picture_X6_isCamera : GoodIn wsX6_picture (wsV RX6 111 RX6 yX6_isCamera wsX6_isCamera) := goodIn_app (goodIn_of _ (by decide +kernel)) ggX6_picture_X6_isCamera
set_option maxRecDepth 20000 in
theorem ggX6_picture_X6_isPlace : GoodIn wsX6_picture wsX6_isPlace := goodIn_r _ [18, 19, 32, 33, 34, 35, 36, 37, 38, 39, 40, 41, 42, 43, 44, 45, 46, 47, 48, 49, 50, 51, 52, 53, 54, 55, 56, 57, 58, 59, 60] (by decide +kernel) (by decide +kernel)
set_option maxRecDepth 20000 in
theorem gX6_picture_X6_isPlace : GoodIn wsX6_picture (wsV RX6 96 RX6 yX6_isPlace wsX6_isPlace) := goodIn_app (goodIn_of _ (by decide +kernel)) ggX6_picture_X6_isPlace
set_option maxRecDepth 20000 in
theorem ggX6_picture_X6_refused : GoodIn wsX6_picture wsX6_refused := goodIn_r _ [23, 24, 32, 33, 34, 35, 36, 37, 38, 39, 40, 41, 42, 43, 44, 45, 46, 47, 48, 49, 50, 51, 52, 53, 54, 55, 56, 57, 58, 59, 60] (by decide +kernel) (by decide +kernel)
set_option maxRecDepth 20000 in
theorem gX6_picture_X6_refused : GoodIn wsX6_picture (wsV RX6 83 RX6 yX6_refused wsX6_refused) := goodIn_app (goodIn_of _ (by decide +kernel)) ggX6_picture_X6_refused
set_option maxRecDepth 20000 in
theorem ggX6_picture_X6_in : GoodIn wsX6_picture wsX6_in := goodIn_r _ [27] (by decide +kernel) (by decide +kernel)
set_option maxRecDepth 20000 in
theorem gX6_picture_X6_in : GoodIn wsX6_picture (va_wsS RX6 103 yX6_in wsX6_in) := goodIn_app (goodIn_of _ (by decide +kernel)) ggX6_picture_X6_in
set_option maxRecDepth 20000 in
theorem ggX6_picture_X6_done : GoodIn wsX6_picture wsX6_done := goodIn_r _ [31, 24, 32, 33, 34, 35, 36, 37, 38, 39, 40, 41, 42, 43, 44, 45, 46, 47, 48, 49, 50, 51, 52, 53, 54, 55, 56, 57, 58, 59, 60] (by decide +kernel) (by decide +kernel)
set_option maxRecDepth 20000 in
theorem gX6_picture_X6_done : GoodIn wsX6_picture (wsV RX6 87 RX6 yX6_done wsX6_done) := goodIn_app (goodIn_of _ (by decide +kernel)) ggX6_picture_X6_done
theorem dX6_picture_0 : decode cX6_picture 0 = .ok (.aload_n 0, 1) := by decide +kernel
theorem dX6_picture_1 : decode cX6_picture 1 = .ok (.iconst 0, 1) := by decide +kernel
theorem dX6_picture_2 : decode cX6_picture 2 = .ok (.putfield 74, 3) := by decide +kernel
theorem dX6_picture_5 : decode cX6_picture 5 = .ok (.aload_n 0, 1) := by decide +kernel
theorem dX6_picture_6 : decode cX6_picture 6 = .ok (.iload_n 1, 1) := by decide +kernel
theorem dX6_picture_7 : decode cX6_picture 7 = .ok (.invokevirtual 111, 3) := by decide +kernel
theorem dX6_picture_10 : decode cX6_picture 10 = .ok (.ifCond .eq 18, 3) := by decide +kernel
theorem dX6_picture_13 : decode cX6_picture 13 = .ok (.iload 4, 2) := by decide +kernel
theorem dX6_picture_15 : decode cX6_picture 15 = .ok (.iconst (-1), 1) := by decide +kernel
theorem dX6_picture_16 : decode cX6_picture 16 = .ok (.if_icmp .eq 18, 3) := by decide +kernel
theorem dX6_picture_19 : decode cX6_picture 19 = .ok (.aload_n 0, 1) := by decide +kernel
theorem dX6_picture_20 : decode cX6_picture 20 = .ok (.iload 4, 2) := by decide +kernel
theorem dX6_picture_22 : decode cX6_picture 22 = .ok (.invokevirtual 96, 3) := by decide +kernel
theorem dX6_picture_25 : decode cX6_picture 25 = .ok (.ifCond .ne 9, 3) := by decide +kernel
theorem dX6_picture_28 : decode cX6_picture 28 = .ok (.aload_n 0, 1) := by decide +kernel
theorem dX6_picture_29 : decode cX6_picture 29 = .ok (.iconst 1, 1) := by decide +kernel
theorem dX6_picture_30 : decode cX6_picture 30 = .ok (.invokevirtual 83, 3) := by decide +kernel
theorem dX6_picture_33 : decode cX6_picture 33 = .ok (.ireturn, 1) := by decide +kernel
theorem dX6_picture_34 : decode cX6_picture 34 = .ok (.iload_n 2, 1) := by decide +kernel
theorem dX6_picture_35 : decode cX6_picture 35 = .ok (.iconst 0, 1) := by decide +kernel
theorem dX6_picture_36 : decode cX6_picture 36 = .ok (.ldc 114, 2) := by decide +kernel
theorem dX6_picture_38 : decode cX6_picture 38 = .ok (.invokestatic 103, 3) := by decide +kernel
theorem dX6_picture_41 : decode cX6_picture 41 = .ok (.ifCond .eq 13, 3) := by decide +kernel
theorem dX6_picture_44 : decode cX6_picture 44 = .ok (.iload_n 3, 1) := by decide +kernel
theorem dX6_picture_45 : decode cX6_picture 45 = .ok (.iconst 0, 1) := by decide +kernel
theorem dX6_picture_46 : decode cX6_picture 46 = .ok (.ldc 115, 2) := by decide +kernel
theorem dX6_picture_48 : decode cX6_picture 48 = .ok (.invokestatic 103, 3) := by decide +kernel
theorem dX6_picture_51 : decode cX6_picture 51 = .ok (.ifCond .ne 9, 3) := by decide +kernel
theorem dX6_picture_54 : decode cX6_picture 54 = .ok (.aload_n 0, 1) := by decide +kernel
theorem dX6_picture_55 : decode cX6_picture 55 = .ok (.iconst 2, 1) := by decide +kernel
theorem dX6_picture_56 : decode cX6_picture 56 = .ok (.invokevirtual 83, 3) := by decide +kernel
theorem dX6_picture_59 : decode cX6_picture 59 = .ok (.ireturn, 1) := by decide +kernel
theorem dX6_picture_60 : decode cX6_picture 60 = .ok (.aload_n 0, 1) := by decide +kernel
theorem dX6_picture_61 : decode cX6_picture 61 = .ok (.getfield 93, 3) := by decide +kernel
theorem dX6_picture_64 : decode cX6_picture 64 = .ok (.bipush 120, 2) := by decide +kernel
theorem dX6_picture_66 : decode cX6_picture 66 = .ok (.if_icmp .ne 9, 3) := by decide +kernel
theorem dX6_picture_69 : decode cX6_picture 69 = .ok (.aload_n 0, 1) := by decide +kernel
theorem dX6_picture_70 : decode cX6_picture 70 = .ok (.iconst 3, 1) := by decide +kernel
theorem dX6_picture_71 : decode cX6_picture 71 = .ok (.invokevirtual 83, 3) := by decide +kernel
theorem dX6_picture_74 : decode cX6_picture 74 = .ok (.ireturn, 1) := by decide +kernel
theorem dX6_picture_75 : decode cX6_picture 75 = .ok (.aload_n 0, 1) := by decide +kernel
theorem dX6_picture_76 : decode cX6_picture 76 = .ok (.getfield 20, 3) := by decide +kernel
theorem dX6_picture_79 : decode cX6_picture 79 = .ok (.aload_n 0, 1) := by decide +kernel
theorem dX6_picture_80 : decode cX6_picture 80 = .ok (.getfield 93, 3) := by decide +kernel
theorem dX6_picture_83 : decode cX6_picture 83 = .ok (.iload_n 1, 1) := by decide +kernel
theorem dX6_picture_84 : decode cX6_picture 84 = .ok (.iastore, 1) := by decide +kernel
theorem dX6_picture_85 : decode cX6_picture 85 = .ok (.aload_n 0, 1) := by decide +kernel
theorem dX6_picture_86 : decode cX6_picture 86 = .ok (.getfield 23, 3) := by decide +kernel
theorem dX6_picture_89 : decode cX6_picture 89 = .ok (.aload_n 0, 1) := by decide +kernel
theorem dX6_picture_90 : decode cX6_picture 90 = .ok (.getfield 93, 3) := by decide +kernel
theorem dX6_picture_93 : decode cX6_picture 93 = .ok (.iload_n 2, 1) := by decide +kernel
theorem dX6_picture_94 : decode cX6_picture 94 = .ok (.iastore, 1) := by decide +kernel
theorem dX6_picture_95 : decode cX6_picture 95 = .ok (.aload_n 0, 1) := by decide +kernel
theorem dX6_picture_96 : decode cX6_picture 96 = .ok (.getfield 26, 3) := by decide +kernel
theorem dX6_picture_99 : decode cX6_picture 99 = .ok (.aload_n 0, 1) := by decide +kernel
theorem dX6_picture_100 : decode cX6_picture 100 = .ok (.getfield 93, 3) := by decide +kernel
theorem dX6_picture_103 : decode cX6_picture 103 = .ok (.iload_n 3, 1) := by decide +kernel
theorem dX6_picture_104 : decode cX6_picture 104 = .ok (.iastore, 1) := by decide +kernel
theorem dX6_picture_105 : decode cX6_picture 105 = .ok (.aload_n 0, 1) := by decide +kernel
theorem dX6_picture_106 : decode cX6_picture 106 = .ok (.getfield 29, 3) := by decide +kernel
theorem dX6_picture_109 : decode cX6_picture 109 = .ok (.aload_n 0, 1) := by decide +kernel
theorem dX6_picture_110 : decode cX6_picture 110 = .ok (.getfield 93, 3) := by decide +kernel
theorem dX6_picture_113 : decode cX6_picture 113 = .ok (.iload 4, 2) := by decide +kernel
theorem dX6_picture_115 : decode cX6_picture 115 = .ok (.iastore, 1) := by decide +kernel
theorem dX6_picture_116 : decode cX6_picture 116 = .ok (.aload_n 0, 1) := by decide +kernel
theorem dX6_picture_117 : decode cX6_picture 117 = .ok (.dup, 1) := by decide +kernel
theorem dX6_picture_118 : decode cX6_picture 118 = .ok (.getfield 93, 3) := by decide +kernel
theorem dX6_picture_121 : decode cX6_picture 121 = .ok (.iconst 1, 1) := by decide +kernel
theorem dX6_picture_122 : decode cX6_picture 122 = .ok (.iadd, 1) := by decide +kernel
theorem dX6_picture_123 : decode cX6_picture 123 = .ok (.putfield 93, 3) := by decide +kernel
theorem dX6_picture_126 : decode cX6_picture 126 = .ok (.aload_n 0, 1) := by decide +kernel
theorem dX6_picture_127 : decode cX6_picture 127 = .ok (.aload_n 0, 1) := by decide +kernel
theorem dX6_picture_128 : decode cX6_picture 128 = .ok (.getfield 93, 3) := by decide +kernel
theorem dX6_picture_131 : decode cX6_picture 131 = .ok (.iconst 1, 1) := by decide +kernel
theorem dX6_picture_132 : decode cX6_picture 132 = .ok (.isub, 1) := by decide +kernel
theorem dX6_picture_133 : decode cX6_picture 133 = .ok (.invokevirtual 87, 3) := by decide +kernel
theorem dX6_picture_136 : decode cX6_picture 136 = .ok (.ireturn, 1) := by decide +kernel
set_option maxRecDepth 20000 in
theorem ggX6_gap_X6_in : GoodIn wsX6_gap wsX6_in := goodIn_r _ [6] (by decide +kernel) (by decide +kernel)
set_option maxRecDepth 20000 in
theorem gX6_gap_X6_in : GoodIn wsX6_gap (va_wsS RX6 103 yX6_in wsX6_in) := goodIn_app (goodIn_of _ (by decide +kernel)) ggX6_gap_X6_in
set_option maxRecDepth 20000 in
theorem ggX6_gap_X6_denied : GoodIn wsX6_gap wsX6_denied := goodIn_r _ [10, 11, 16, 17, 18, 19, 20, 21, 22, 23, 24, 25, 26, 27, 28, 29, 30, 31, 32, 33, 34, 35, 36, 37, 38, 39, 40, 41, 42, 43, 44] (by decide +kernel) (by decide +kernel)
set_option maxRecDepth 20000 in
theorem gX6_gap_X6_denied : GoodIn wsX6_gap (wsV RX6 100 RX6 yX6_denied wsX6_denied) := goodIn_app (goodIn_of _ (by decide +kernel)) ggX6_gap_X6_denied
set_option maxRecDepth 20000 in
theorem ggX6_gap_X6_granted : GoodIn wsX6_gap wsX6_granted := goodIn_r _ [15, 11, 16, 17, 18, 19, 20, 21, 22, 23, 24, 25, 26, 27, 28, 29, 30, 31, 32, 33, 34, 35, 36, 37, 38, 39, 40, 41, 42, 43, 44] (by decide +kernel) (by decide +kernel)
set_option maxRecDepth 20000 in
theorem gX6_gap_X6_granted : GoodIn wsX6_gap (wsV RX6 107 RX6 yX6_granted wsX6_granted) := goodIn_app (goodIn_of _ (by decide +kernel)) ggX6_gap_X6_granted
theorem dX6_gap_0 : decode cX6_gap 0 = .ok (.aload_n 0, 1) := by decide +kernel
theorem dX6_gap_1 : decode cX6_gap 1 = .ok (.iconst 0, 1) := by decide +kernel
theorem dX6_gap_2 : decode cX6_gap 2 = .ok (.putfield 74, 3) := by decide +kernel
theorem dX6_gap_5 : decode cX6_gap 5 = .ok (.iload_n 1, 1) := by decide +kernel
theorem dX6_gap_6 : decode cX6_gap 6 = .ok (.iconst 1, 1) := by decide +kernel
theorem dX6_gap_7 : decode cX6_gap 7 = .ok (.sipush 10000, 3) := by decide +kernel
theorem dX6_gap_10 : decode cX6_gap 10 = .ok (.invokestatic 103, 3) := by decide +kernel
theorem dX6_gap_13 : decode cX6_gap 13 = .ok (.ifCond .ne 9, 3) := by decide +kernel
theorem dX6_gap_16 : decode cX6_gap 16 = .ok (.aload_n 0, 1) := by decide +kernel
theorem dX6_gap_17 : decode cX6_gap 17 = .ok (.iconst 2, 1) := by decide +kernel
theorem dX6_gap_18 : decode cX6_gap 18 = .ok (.invokevirtual 100, 3) := by decide +kernel
theorem dX6_gap_21 : decode cX6_gap 21 = .ok (.ireturn, 1) := by decide +kernel
theorem dX6_gap_22 : decode cX6_gap 22 = .ok (.aload_n 0, 1) := by decide +kernel
theorem dX6_gap_23 : decode cX6_gap 23 = .ok (.iload_n 1, 1) := by decide +kernel
theorem dX6_gap_24 : decode cX6_gap 24 = .ok (.putfield 7, 3) := by decide +kernel
theorem dX6_gap_27 : decode cX6_gap 27 = .ok (.aload_n 0, 1) := by decide +kernel
theorem dX6_gap_28 : decode cX6_gap 28 = .ok (.invokevirtual 107, 3) := by decide +kernel
theorem dX6_gap_31 : decode cX6_gap 31 = .ok (.ireturn, 1) := by decide +kernel
theorem dX6_least_0 : decode cX6_least 0 = .ok (.aload_n 0, 1) := by decide +kernel
theorem dX6_least_1 : decode cX6_least 1 = .ok (.bipush 8, 2) := by decide +kernel
theorem dX6_least_3 : decode cX6_least 3 = .ok (.iload_n 1, 1) := by decide +kernel
theorem dX6_least_4 : decode cX6_least 4 = .ok (.imul, 1) := by decide +kernel
theorem dX6_least_5 : decode cX6_least 5 = .ok (.iload_n 2, 1) := by decide +kernel
theorem dX6_least_6 : decode cX6_least 6 = .ok (.iadd, 1) := by decide +kernel
theorem dX6_least_7 : decode cX6_least 7 = .ok (.aload_n 0, 1) := by decide +kernel
theorem dX6_least_8 : decode cX6_least 8 = .ok (.bipush 8, 2) := by decide +kernel
theorem dX6_least_10 : decode cX6_least 10 = .ok (.iload_n 1, 1) := by decide +kernel
theorem dX6_least_11 : decode cX6_least 11 = .ok (.imul, 1) := by decide +kernel
theorem dX6_least_12 : decode cX6_least 12 = .ok (.iload_n 2, 1) := by decide +kernel
theorem dX6_least_13 : decode cX6_least 13 = .ok (.iadd, 1) := by decide +kernel
theorem dX6_least_14 : decode cX6_least 14 = .ok (.iaload, 1) := by decide +kernel
theorem dX6_least_15 : decode cX6_least 15 = .ok (.iload_n 3, 1) := by decide +kernel
theorem dX6_least_16 : decode cX6_least 16 = .ok (.invokestatic 116, 3) := by decide +kernel
theorem dX6_least_19 : decode cX6_least 19 = .ok (.iastore, 1) := by decide +kernel
theorem dX6_least_20 : decode cX6_least 20 = .ok (.return_, 1) := by decide +kernel
set_option maxRecDepth 20000 in
theorem ggX6_bounds_X6_least : GoodIn wsX6_bounds wsX6_least := goodIn_r _ [10, 11, 12, 13, 14] (by decide +kernel) (by decide +kernel)
set_option maxRecDepth 20000 in
theorem gX6_bounds_X6_least : GoodIn wsX6_bounds (va_wsS RX6 122 yX6_least wsX6_least) := goodIn_app (goodIn_of _ (by decide +kernel)) ggX6_bounds_X6_least
theorem dX6_bounds_0 : decode cX6_bounds 0 = .ok (.aload_n 0, 1) := by decide +kernel
theorem dX6_bounds_1 : decode cX6_bounds 1 = .ok (.getfield 35, 3) := by decide +kernel
theorem dX6_bounds_4 : decode cX6_bounds 4 = .ok (.iload_n 2, 1) := by decide +kernel
theorem dX6_bounds_5 : decode cX6_bounds 5 = .ok (.iaload, 1) := by decide +kernel
theorem dX6_bounds_6 : decode cX6_bounds 6 = .ok (.lookupswitch 165 #[(0, 26), (1, 111)], 26) := by decide +kernel
theorem dX6_bounds_32 : decode cX6_bounds 32 = .ok (.aload_n 0, 1) := by decide +kernel
theorem dX6_bounds_33 : decode cX6_bounds 33 = .ok (.getfield 20, 3) := by decide +kernel
theorem dX6_bounds_36 : decode cX6_bounds 36 = .ok (.aload_n 0, 1) := by decide +kernel
theorem dX6_bounds_37 : decode cX6_bounds 37 = .ok (.getfield 38, 3) := by decide +kernel
theorem dX6_bounds_40 : decode cX6_bounds 40 = .ok (.iload_n 2, 1) := by decide +kernel
theorem dX6_bounds_41 : decode cX6_bounds 41 = .ok (.iaload, 1) := by decide +kernel
theorem dX6_bounds_42 : decode cX6_bounds 42 = .ok (.iaload, 1) := by decide +kernel
theorem dX6_bounds_43 : decode cX6_bounds 43 = .ok (.istore_n 3, 1) := by decide +kernel
theorem dX6_bounds_44 : decode cX6_bounds 44 = .ok (.aload_n 0, 1) := by decide +kernel
theorem dX6_bounds_45 : decode cX6_bounds 45 = .ok (.getfield 20, 3) := by decide +kernel
theorem dX6_bounds_48 : decode cX6_bounds 48 = .ok (.aload_n 0, 1) := by decide +kernel
theorem dX6_bounds_49 : decode cX6_bounds 49 = .ok (.getfield 41, 3) := by decide +kernel
theorem dX6_bounds_52 : decode cX6_bounds 52 = .ok (.iload_n 2, 1) := by decide +kernel
theorem dX6_bounds_53 : decode cX6_bounds 53 = .ok (.iaload, 1) := by decide +kernel
theorem dX6_bounds_54 : decode cX6_bounds 54 = .ok (.iaload, 1) := by decide +kernel
theorem dX6_bounds_55 : decode cX6_bounds 55 = .ok (.istore 4, 2) := by decide +kernel
theorem dX6_bounds_57 : decode cX6_bounds 57 = .ok (.aload_n 0, 1) := by decide +kernel
theorem dX6_bounds_58 : decode cX6_bounds 58 = .ok (.getfield 23, 3) := by decide +kernel
theorem dX6_bounds_61 : decode cX6_bounds 61 = .ok (.aload_n 0, 1) := by decide +kernel
theorem dX6_bounds_62 : decode cX6_bounds 62 = .ok (.getfield 41, 3) := by decide +kernel
theorem dX6_bounds_65 : decode cX6_bounds 65 = .ok (.iload_n 2, 1) := by decide +kernel
theorem dX6_bounds_66 : decode cX6_bounds 66 = .ok (.iaload, 1) := by decide +kernel
theorem dX6_bounds_67 : decode cX6_bounds 67 = .ok (.iaload, 1) := by decide +kernel
theorem dX6_bounds_68 : decode cX6_bounds 68 = .ok (.aload_n 0, 1) := by decide +kernel
theorem dX6_bounds_69 : decode cX6_bounds 69 = .ok (.getfield 23, 3) := by decide +kernel
theorem dX6_bounds_72 : decode cX6_bounds 72 = .ok (.aload_n 0, 1) := by decide +kernel
theorem dX6_bounds_73 : decode cX6_bounds 73 = .ok (.getfield 38, 3) := by decide +kernel
theorem dX6_bounds_76 : decode cX6_bounds 76 = .ok (.iload_n 2, 1) := by decide +kernel
theorem dX6_bounds_77 : decode cX6_bounds 77 = .ok (.iaload, 1) := by decide +kernel
theorem dX6_bounds_78 : decode cX6_bounds 78 = .ok (.iaload, 1) := by decide +kernel
theorem dX6_bounds_79 : decode cX6_bounds 79 = .ok (.isub, 1) := by decide +kernel
theorem dX6_bounds_80 : decode cX6_bounds 80 = .ok (.istore 5, 2) := by decide +kernel
theorem dX6_bounds_82 : decode cX6_bounds 82 = .ok (.aload_n 1, 1) := by decide +kernel
theorem dX6_bounds_83 : decode cX6_bounds 83 = .ok (.iload_n 3, 1) := by decide +kernel
theorem dX6_bounds_84 : decode cX6_bounds 84 = .ok (.iload 4, 2) := by decide +kernel
theorem dX6_bounds_86 : decode cX6_bounds 86 = .ok (.aload_n 0, 1) := by decide +kernel
theorem dX6_bounds_87 : decode cX6_bounds 87 = .ok (.getfield 44, 3) := by decide +kernel
theorem dX6_bounds_90 : decode cX6_bounds 90 = .ok (.iload_n 2, 1) := by decide +kernel
theorem dX6_bounds_91 : decode cX6_bounds 91 = .ok (.iaload, 1) := by decide +kernel
theorem dX6_bounds_92 : decode cX6_bounds 92 = .ok (.iload 5, 2) := by decide +kernel
theorem dX6_bounds_94 : decode cX6_bounds 94 = .ok (.iadd, 1) := by decide +kernel
theorem dX6_bounds_95 : decode cX6_bounds 95 = .ok (.invokestatic 122, 3) := by decide +kernel
theorem dX6_bounds_98 : decode cX6_bounds 98 = .ok (.aload_n 1, 1) := by decide +kernel
theorem dX6_bounds_99 : decode cX6_bounds 99 = .ok (.iload 4, 2) := by decide +kernel
theorem dX6_bounds_101 : decode cX6_bounds 101 = .ok (.iload_n 3, 1) := by decide +kernel
theorem dX6_bounds_102 : decode cX6_bounds 102 = .ok (.aload_n 0, 1) := by decide +kernel
theorem dX6_bounds_103 : decode cX6_bounds 103 = .ok (.getfield 44, 3) := by decide +kernel
theorem dX6_bounds_106 : decode cX6_bounds 106 = .ok (.iload_n 2, 1) := by decide +kernel
theorem dX6_bounds_107 : decode cX6_bounds 107 = .ok (.iaload, 1) := by decide +kernel
theorem dX6_bounds_108 : decode cX6_bounds 108 = .ok (.iload 5, 2) := by decide +kernel
theorem dX6_bounds_110 : decode cX6_bounds 110 = .ok (.isub, 1) := by decide +kernel
theorem dX6_bounds_111 : decode cX6_bounds 111 = .ok (.invokestatic 122, 3) := by decide +kernel
theorem dX6_bounds_114 : decode cX6_bounds 114 = .ok (.goto 92, 3) := by decide +kernel
theorem dX6_bounds_117 : decode cX6_bounds 117 = .ok (.aload_n 1, 1) := by decide +kernel
theorem dX6_bounds_118 : decode cX6_bounds 118 = .ok (.aload_n 0, 1) := by decide +kernel
theorem dX6_bounds_119 : decode cX6_bounds 119 = .ok (.getfield 20, 3) := by decide +kernel
theorem dX6_bounds_122 : decode cX6_bounds 122 = .ok (.aload_n 0, 1) := by decide +kernel
theorem dX6_bounds_123 : decode cX6_bounds 123 = .ok (.getfield 38, 3) := by decide +kernel
theorem dX6_bounds_126 : decode cX6_bounds 126 = .ok (.iload_n 2, 1) := by decide +kernel
theorem dX6_bounds_127 : decode cX6_bounds 127 = .ok (.iaload, 1) := by decide +kernel
theorem dX6_bounds_128 : decode cX6_bounds 128 = .ok (.iaload, 1) := by decide +kernel
theorem dX6_bounds_129 : decode cX6_bounds 129 = .ok (.aload_n 0, 1) := by decide +kernel
theorem dX6_bounds_130 : decode cX6_bounds 130 = .ok (.getfield 20, 3) := by decide +kernel
theorem dX6_bounds_133 : decode cX6_bounds 133 = .ok (.aload_n 0, 1) := by decide +kernel
theorem dX6_bounds_134 : decode cX6_bounds 134 = .ok (.getfield 41, 3) := by decide +kernel
theorem dX6_bounds_137 : decode cX6_bounds 137 = .ok (.iload_n 2, 1) := by decide +kernel
theorem dX6_bounds_138 : decode cX6_bounds 138 = .ok (.iaload, 1) := by decide +kernel
theorem dX6_bounds_139 : decode cX6_bounds 139 = .ok (.iaload, 1) := by decide +kernel
theorem dX6_bounds_140 : decode cX6_bounds 140 = .ok (.aload_n 0, 1) := by decide +kernel
theorem dX6_bounds_141 : decode cX6_bounds 141 = .ok (.getfield 23, 3) := by decide +kernel
theorem dX6_bounds_144 : decode cX6_bounds 144 = .ok (.aload_n 0, 1) := by decide +kernel
theorem dX6_bounds_145 : decode cX6_bounds 145 = .ok (.getfield 41, 3) := by decide +kernel
theorem dX6_bounds_148 : decode cX6_bounds 148 = .ok (.iload_n 2, 1) := by decide +kernel
theorem dX6_bounds_149 : decode cX6_bounds 149 = .ok (.iaload, 1) := by decide +kernel
theorem dX6_bounds_150 : decode cX6_bounds 150 = .ok (.iaload, 1) := by decide +kernel
theorem dX6_bounds_151 : decode cX6_bounds 151 = .ok (.aload_n 0, 1) := by decide +kernel
theorem dX6_bounds_152 : decode cX6_bounds 152 = .ok (.getfield 23, 3) := by decide +kernel
theorem dX6_bounds_155 : decode cX6_bounds 155 = .ok (.aload_n 0, 1) := by decide +kernel
theorem dX6_bounds_156 : decode cX6_bounds 156 = .ok (.getfield 38, 3) := by decide +kernel
theorem dX6_bounds_159 : decode cX6_bounds 159 = .ok (.iload_n 2, 1) := by decide +kernel
theorem dX6_bounds_160 : decode cX6_bounds 160 = .ok (.iaload, 1) := by decide +kernel
theorem dX6_bounds_161 : decode cX6_bounds 161 = .ok (.iaload, 1) := by decide +kernel
theorem dX6_bounds_162 : decode cX6_bounds 162 = .ok (.isub, 1) := by decide +kernel
theorem dX6_bounds_163 : decode cX6_bounds 163 = .ok (.iconst 1, 1) := by decide +kernel
theorem dX6_bounds_164 : decode cX6_bounds 164 = .ok (.isub, 1) := by decide +kernel
theorem dX6_bounds_165 : decode cX6_bounds 165 = .ok (.invokestatic 122, 3) := by decide +kernel
theorem dX6_bounds_168 : decode cX6_bounds 168 = .ok (.goto 38, 3) := by decide +kernel
theorem dX6_bounds_171 : decode cX6_bounds 171 = .ok (.aload_n 1, 1) := by decide +kernel
theorem dX6_bounds_172 : decode cX6_bounds 172 = .ok (.aload_n 0, 1) := by decide +kernel
theorem dX6_bounds_173 : decode cX6_bounds 173 = .ok (.getfield 38, 3) := by decide +kernel
theorem dX6_bounds_176 : decode cX6_bounds 176 = .ok (.iload_n 2, 1) := by decide +kernel
theorem dX6_bounds_177 : decode cX6_bounds 177 = .ok (.iaload, 1) := by decide +kernel
theorem dX6_bounds_178 : decode cX6_bounds 178 = .ok (.iconst 0, 1) := by decide +kernel
theorem dX6_bounds_179 : decode cX6_bounds 179 = .ok (.aload_n 0, 1) := by decide +kernel
theorem dX6_bounds_180 : decode cX6_bounds 180 = .ok (.getfield 44, 3) := by decide +kernel
theorem dX6_bounds_183 : decode cX6_bounds 183 = .ok (.iload_n 2, 1) := by decide +kernel
theorem dX6_bounds_184 : decode cX6_bounds 184 = .ok (.iaload, 1) := by decide +kernel
theorem dX6_bounds_185 : decode cX6_bounds 185 = .ok (.invokestatic 122, 3) := by decide +kernel
theorem dX6_bounds_188 : decode cX6_bounds 188 = .ok (.aload_n 1, 1) := by decide +kernel
theorem dX6_bounds_189 : decode cX6_bounds 189 = .ok (.iconst 0, 1) := by decide +kernel
theorem dX6_bounds_190 : decode cX6_bounds 190 = .ok (.aload_n 0, 1) := by decide +kernel
theorem dX6_bounds_191 : decode cX6_bounds 191 = .ok (.getfield 38, 3) := by decide +kernel
theorem dX6_bounds_194 : decode cX6_bounds 194 = .ok (.iload_n 2, 1) := by decide +kernel
theorem dX6_bounds_195 : decode cX6_bounds 195 = .ok (.iaload, 1) := by decide +kernel
theorem dX6_bounds_196 : decode cX6_bounds 196 = .ok (.aload_n 0, 1) := by decide +kernel
theorem dX6_bounds_197 : decode cX6_bounds 197 = .ok (.getfield 41, 3) := by decide +kernel
theorem dX6_bounds_200 : decode cX6_bounds 200 = .ok (.iload_n 2, 1) := by decide +kernel
theorem dX6_bounds_201 : decode cX6_bounds 201 = .ok (.iaload, 1) := by decide +kernel
theorem dX6_bounds_202 : decode cX6_bounds 202 = .ok (.ineg, 1) := by decide +kernel
theorem dX6_bounds_203 : decode cX6_bounds 203 = .ok (.invokestatic 122, 3) := by decide +kernel
theorem dX6_bounds_206 : decode cX6_bounds 206 = .ok (.return_, 1) := by decide +kernel
theorem dX6_first_0 : decode cX6_first 0 = .ok (.iconst 0, 1) := by decide +kernel
theorem dX6_first_1 : decode cX6_first 1 = .ok (.istore_n 2, 1) := by decide +kernel
theorem dX6_first_2 : decode cX6_first 2 = .ok (.iload_n 2, 1) := by decide +kernel
theorem dX6_first_3 : decode cX6_first 3 = .ok (.bipush 8, 2) := by decide +kernel
theorem dX6_first_5 : decode cX6_first 5 = .ok (.if_icmp .ge 55, 3) := by decide +kernel
theorem dX6_first_8 : decode cX6_first 8 = .ok (.iconst 0, 1) := by decide +kernel
theorem dX6_first_9 : decode cX6_first 9 = .ok (.istore_n 3, 1) := by decide +kernel
theorem dX6_first_10 : decode cX6_first 10 = .ok (.iload_n 3, 1) := by decide +kernel
theorem dX6_first_11 : decode cX6_first 11 = .ok (.bipush 8, 2) := by decide +kernel
theorem dX6_first_13 : decode cX6_first 13 = .ok (.if_icmp .ge 41, 3) := by decide +kernel
theorem dX6_first_16 : decode cX6_first 16 = .ok (.aload_n 1, 1) := by decide +kernel
theorem dX6_first_17 : decode cX6_first 17 = .ok (.bipush 8, 2) := by decide +kernel
theorem dX6_first_19 : decode cX6_first 19 = .ok (.iload_n 2, 1) := by decide +kernel
theorem dX6_first_20 : decode cX6_first 20 = .ok (.imul, 1) := by decide +kernel
theorem dX6_first_21 : decode cX6_first 21 = .ok (.iload_n 3, 1) := by decide +kernel
theorem dX6_first_22 : decode cX6_first 22 = .ok (.iadd, 1) := by decide +kernel
theorem dX6_first_23 : decode cX6_first 23 = .ok (.iload_n 2, 1) := by decide +kernel
theorem dX6_first_24 : decode cX6_first 24 = .ok (.iload_n 3, 1) := by decide +kernel
theorem dX6_first_25 : decode cX6_first 25 = .ok (.if_icmp .ne 7, 3) := by decide +kernel
theorem dX6_first_28 : decode cX6_first 28 = .ok (.iconst 0, 1) := by decide +kernel
theorem dX6_first_29 : decode cX6_first 29 = .ok (.goto 18, 3) := by decide +kernel
theorem dX6_first_32 : decode cX6_first 32 = .ok (.iload_n 2, 1) := by decide +kernel
theorem dX6_first_33 : decode cX6_first 33 = .ok (.ifCond .eq 7, 3) := by decide +kernel
theorem dX6_first_36 : decode cX6_first 36 = .ok (.iload_n 3, 1) := by decide +kernel
theorem dX6_first_37 : decode cX6_first 37 = .ok (.ifCond .ne 8, 3) := by decide +kernel
theorem dX6_first_40 : decode cX6_first 40 = .ok (.ldc 126, 2) := by decide +kernel
theorem dX6_first_42 : decode cX6_first 42 = .ok (.goto 5, 3) := by decide +kernel
theorem dX6_first_45 : decode cX6_first 45 = .ok (.ldc 127, 2) := by decide +kernel
theorem dX6_first_47 : decode cX6_first 47 = .ok (.iastore, 1) := by decide +kernel
theorem dX6_first_48 : decode cX6_first 48 = .ok (.iinc 3 1, 3) := by decide +kernel
theorem dX6_first_51 : decode cX6_first 51 = .ok (.goto (-41), 3) := by decide +kernel
theorem dX6_first_54 : decode cX6_first 54 = .ok (.iinc 2 1, 3) := by decide +kernel
theorem dX6_first_57 : decode cX6_first 57 = .ok (.goto (-55), 3) := by decide +kernel
theorem dX6_first_60 : decode cX6_first 60 = .ok (.return_, 1) := by decide +kernel
set_option maxRecDepth 20000 in
theorem ggX6_closes_X6_least : GoodIn wsX6_closes wsX6_least := goodIn_r _ [4, 5, 6, 7, 8] (by decide +kernel) (by decide +kernel)
set_option maxRecDepth 20000 in
theorem gX6_closes_X6_least : GoodIn wsX6_closes (va_wsS RX6 122 yX6_least wsX6_least) := goodIn_app (goodIn_of _ (by decide +kernel)) ggX6_closes_X6_least
theorem dX6_closes_0 : decode cX6_closes 0 = .ok (.iconst 0, 1) := by decide +kernel
theorem dX6_closes_1 : decode cX6_closes 1 = .ok (.istore_n 1, 1) := by decide +kernel
theorem dX6_closes_2 : decode cX6_closes 2 = .ok (.iload_n 1, 1) := by decide +kernel
theorem dX6_closes_3 : decode cX6_closes 3 = .ok (.bipush 8, 2) := by decide +kernel
theorem dX6_closes_5 : decode cX6_closes 5 = .ok (.if_icmp .ge 60, 3) := by decide +kernel
theorem dX6_closes_8 : decode cX6_closes 8 = .ok (.iconst 0, 1) := by decide +kernel
theorem dX6_closes_9 : decode cX6_closes 9 = .ok (.istore_n 2, 1) := by decide +kernel
theorem dX6_closes_10 : decode cX6_closes 10 = .ok (.iload_n 2, 1) := by decide +kernel
theorem dX6_closes_11 : decode cX6_closes 11 = .ok (.bipush 8, 2) := by decide +kernel
theorem dX6_closes_13 : decode cX6_closes 13 = .ok (.if_icmp .ge 46, 3) := by decide +kernel
theorem dX6_closes_16 : decode cX6_closes 16 = .ok (.iconst 0, 1) := by decide +kernel
theorem dX6_closes_17 : decode cX6_closes 17 = .ok (.istore_n 3, 1) := by decide +kernel
theorem dX6_closes_18 : decode cX6_closes 18 = .ok (.iload_n 3, 1) := by decide +kernel
theorem dX6_closes_19 : decode cX6_closes 19 = .ok (.bipush 8, 2) := by decide +kernel
theorem dX6_closes_21 : decode cX6_closes 21 = .ok (.if_icmp .ge 32, 3) := by decide +kernel
theorem dX6_closes_24 : decode cX6_closes 24 = .ok (.aload_n 0, 1) := by decide +kernel
theorem dX6_closes_25 : decode cX6_closes 25 = .ok (.iload_n 2, 1) := by decide +kernel
theorem dX6_closes_26 : decode cX6_closes 26 = .ok (.iload_n 3, 1) := by decide +kernel
theorem dX6_closes_27 : decode cX6_closes 27 = .ok (.aload_n 0, 1) := by decide +kernel
theorem dX6_closes_28 : decode cX6_closes 28 = .ok (.bipush 8, 2) := by decide +kernel
theorem dX6_closes_30 : decode cX6_closes 30 = .ok (.iload_n 2, 1) := by decide +kernel
theorem dX6_closes_31 : decode cX6_closes 31 = .ok (.imul, 1) := by decide +kernel
theorem dX6_closes_32 : decode cX6_closes 32 = .ok (.iload_n 1, 1) := by decide +kernel
theorem dX6_closes_33 : decode cX6_closes 33 = .ok (.iadd, 1) := by decide +kernel
theorem dX6_closes_34 : decode cX6_closes 34 = .ok (.iaload, 1) := by decide +kernel
theorem dX6_closes_35 : decode cX6_closes 35 = .ok (.aload_n 0, 1) := by decide +kernel
theorem dX6_closes_36 : decode cX6_closes 36 = .ok (.bipush 8, 2) := by decide +kernel
theorem dX6_closes_38 : decode cX6_closes 38 = .ok (.iload_n 1, 1) := by decide +kernel
theorem dX6_closes_39 : decode cX6_closes 39 = .ok (.imul, 1) := by decide +kernel
theorem dX6_closes_40 : decode cX6_closes 40 = .ok (.iload_n 3, 1) := by decide +kernel
theorem dX6_closes_41 : decode cX6_closes 41 = .ok (.iadd, 1) := by decide +kernel
theorem dX6_closes_42 : decode cX6_closes 42 = .ok (.iaload, 1) := by decide +kernel
theorem dX6_closes_43 : decode cX6_closes 43 = .ok (.iadd, 1) := by decide +kernel
theorem dX6_closes_44 : decode cX6_closes 44 = .ok (.invokestatic 122, 3) := by decide +kernel
theorem dX6_closes_47 : decode cX6_closes 47 = .ok (.iinc 3 1, 3) := by decide +kernel
theorem dX6_closes_50 : decode cX6_closes 50 = .ok (.goto (-32), 3) := by decide +kernel
theorem dX6_closes_53 : decode cX6_closes 53 = .ok (.iinc 2 1, 3) := by decide +kernel
theorem dX6_closes_56 : decode cX6_closes 56 = .ok (.goto (-46), 3) := by decide +kernel
theorem dX6_closes_59 : decode cX6_closes 59 = .ok (.iinc 1 1, 3) := by decide +kernel
theorem dX6_closes_62 : decode cX6_closes 62 = .ok (.goto (-60), 3) := by decide +kernel
theorem dX6_closes_65 : decode cX6_closes 65 = .ok (.iconst 1, 1) := by decide +kernel
theorem dX6_closes_66 : decode cX6_closes 66 = .ok (.istore_n 1, 1) := by decide +kernel
theorem dX6_closes_67 : decode cX6_closes 67 = .ok (.iconst 0, 1) := by decide +kernel
theorem dX6_closes_68 : decode cX6_closes 68 = .ok (.istore_n 2, 1) := by decide +kernel
theorem dX6_closes_69 : decode cX6_closes 69 = .ok (.iload_n 2, 1) := by decide +kernel
theorem dX6_closes_70 : decode cX6_closes 70 = .ok (.bipush 8, 2) := by decide +kernel
theorem dX6_closes_72 : decode cX6_closes 72 = .ok (.if_icmp .ge 30, 3) := by decide +kernel
theorem dX6_closes_75 : decode cX6_closes 75 = .ok (.iload_n 1, 1) := by decide +kernel
theorem dX6_closes_76 : decode cX6_closes 76 = .ok (.ifCond .eq 18, 3) := by decide +kernel
theorem dX6_closes_79 : decode cX6_closes 79 = .ok (.aload_n 0, 1) := by decide +kernel
theorem dX6_closes_80 : decode cX6_closes 80 = .ok (.bipush 8, 2) := by decide +kernel
theorem dX6_closes_82 : decode cX6_closes 82 = .ok (.iload_n 2, 1) := by decide +kernel
theorem dX6_closes_83 : decode cX6_closes 83 = .ok (.imul, 1) := by decide +kernel
theorem dX6_closes_84 : decode cX6_closes 84 = .ok (.iload_n 2, 1) := by decide +kernel
theorem dX6_closes_85 : decode cX6_closes 85 = .ok (.iadd, 1) := by decide +kernel
theorem dX6_closes_86 : decode cX6_closes 86 = .ok (.iaload, 1) := by decide +kernel
theorem dX6_closes_87 : decode cX6_closes 87 = .ok (.ifCond .lt 7, 3) := by decide +kernel
theorem dX6_closes_90 : decode cX6_closes 90 = .ok (.iconst 1, 1) := by decide +kernel
theorem dX6_closes_91 : decode cX6_closes 91 = .ok (.goto 4, 3) := by decide +kernel
theorem dX6_closes_94 : decode cX6_closes 94 = .ok (.iconst 0, 1) := by decide +kernel
theorem dX6_closes_95 : decode cX6_closes 95 = .ok (.istore_n 1, 1) := by decide +kernel
theorem dX6_closes_96 : decode cX6_closes 96 = .ok (.iinc 2 1, 3) := by decide +kernel
theorem dX6_closes_99 : decode cX6_closes 99 = .ok (.goto (-30), 3) := by decide +kernel
theorem dX6_closes_102 : decode cX6_closes 102 = .ok (.iload_n 1, 1) := by decide +kernel
theorem dX6_closes_103 : decode cX6_closes 103 = .ok (.ireturn, 1) := by decide +kernel
set_option maxRecDepth 20000 in
theorem ggX6_closed_X6_first : GoodIn wsX6_closed wsX6_first := goodIn_r _ [6, 7, 8] (by decide +kernel) (by decide +kernel)
set_option maxRecDepth 20000 in
theorem gX6_closed_X6_first : GoodIn wsX6_closed (wsV RX6 128 RX6 yX6_first wsX6_first) := goodIn_app (goodIn_of _ (by decide +kernel)) ggX6_closed_X6_first
set_option maxRecDepth 20000 in
theorem ggX6_closed_X6_bounds : GoodIn wsX6_closed wsX6_bounds := goodIn_r _ [12, 13, 14, 15, 16, 17, 18, 19, 20, 5, 21, 22, 23, 24, 25, 29, 30, 31, 32, 33, 34, 35, 36, 37, 38, 39, 40, 41, 42, 43, 44, 45, 46, 47, 48, 49, 50, 51, 52, 53, 54, 55, 56, 57] (by decide +kernel) (by decide +kernel)
set_option maxRecDepth 20000 in
theorem gX6_closed_X6_bounds : GoodIn wsX6_closed (wsV RX6 135 RX6 yX6_bounds wsX6_bounds) := goodIn_app (goodIn_of _ (by decide +kernel)) ggX6_closed_X6_bounds
set_option maxRecDepth 20000 in
theorem ggX6_closed_X6_closes : GoodIn wsX6_closed wsX6_closes := goodIn_r _ [28, 19, 20, 5, 21, 22, 23, 24, 25] (by decide +kernel) (by decide +kernel)
set_option maxRecDepth 20000 in
theorem gX6_closed_X6_closes : GoodIn wsX6_closed (va_wsS RX6 139 yX6_closes wsX6_closes) := goodIn_app (goodIn_of _ (by decide +kernel)) ggX6_closed_X6_closes
theorem dX6_closed_0 : decode cX6_closed 0 = .ok (.aload_n 0, 1) := by decide +kernel
theorem dX6_closed_1 : decode cX6_closed 1 = .ok (.aload_n 1, 1) := by decide +kernel
theorem dX6_closed_2 : decode cX6_closed 2 = .ok (.invokevirtual 128, 3) := by decide +kernel
theorem dX6_closed_5 : decode cX6_closed 5 = .ok (.iconst 0, 1) := by decide +kernel
theorem dX6_closed_6 : decode cX6_closed 6 = .ok (.istore_n 3, 1) := by decide +kernel
theorem dX6_closed_7 : decode cX6_closed 7 = .ok (.iload_n 3, 1) := by decide +kernel
theorem dX6_closed_8 : decode cX6_closed 8 = .ok (.aload_n 0, 1) := by decide +kernel
theorem dX6_closed_9 : decode cX6_closed 9 = .ok (.getfield 132, 3) := by decide +kernel
theorem dX6_closed_12 : decode cX6_closed 12 = .ok (.if_icmp .ge 20, 3) := by decide +kernel
theorem dX6_closed_15 : decode cX6_closed 15 = .ok (.iload_n 3, 1) := by decide +kernel
theorem dX6_closed_16 : decode cX6_closed 16 = .ok (.iload_n 2, 1) := by decide +kernel
theorem dX6_closed_17 : decode cX6_closed 17 = .ok (.if_icmp .eq 9, 3) := by decide +kernel
theorem dX6_closed_20 : decode cX6_closed 20 = .ok (.aload_n 0, 1) := by decide +kernel
theorem dX6_closed_21 : decode cX6_closed 21 = .ok (.aload_n 1, 1) := by decide +kernel
theorem dX6_closed_22 : decode cX6_closed 22 = .ok (.iload_n 3, 1) := by decide +kernel
theorem dX6_closed_23 : decode cX6_closed 23 = .ok (.invokevirtual 135, 3) := by decide +kernel
theorem dX6_closed_26 : decode cX6_closed 26 = .ok (.iinc 3 1, 3) := by decide +kernel
theorem dX6_closed_29 : decode cX6_closed 29 = .ok (.goto (-22), 3) := by decide +kernel
theorem dX6_closed_32 : decode cX6_closed 32 = .ok (.aload_n 1, 1) := by decide +kernel
theorem dX6_closed_33 : decode cX6_closed 33 = .ok (.invokestatic 139, 3) := by decide +kernel
theorem dX6_closed_36 : decode cX6_closed 36 = .ok (.ireturn, 1) := by decide +kernel
set_option maxRecDepth 20000 in
theorem ggX6_breaks_X6_first : GoodIn wsX6_breaks wsX6_first := goodIn_r _ [8, 9, 10] (by decide +kernel) (by decide +kernel)
set_option maxRecDepth 20000 in
theorem gX6_breaks_X6_first : GoodIn wsX6_breaks (wsV RX6 128 RX6 yX6_first wsX6_first) := goodIn_app (goodIn_of _ (by decide +kernel)) ggX6_breaks_X6_first
set_option maxRecDepth 20000 in
theorem ggX6_breaks_X6_bounds : GoodIn wsX6_breaks wsX6_bounds := goodIn_r _ [14, 15, 16, 17, 18, 19, 20, 21, 22, 7, 23, 24, 25, 26, 27, 28, 29, 30, 31, 32, 33, 34, 35, 36, 37, 38, 39, 40, 41, 42, 43, 44, 45, 46, 47, 48, 49, 50, 51, 52, 53, 54, 55, 56] (by decide +kernel) (by decide +kernel)
set_option maxRecDepth 20000 in
theorem gX6_breaks_X6_bounds : GoodIn wsX6_breaks (wsV RX6 135 RX6 yX6_bounds wsX6_bounds) := goodIn_app (goodIn_of _ (by decide +kernel)) ggX6_breaks_X6_bounds
theorem dX6_breaks_0 : decode cX6_breaks 0 = .ok (.aload_n 0, 1) := by decide +kernel
theorem dX6_breaks_1 : decode cX6_breaks 1 = .ok (.aload_n 0, 1) := by decide +kernel
theorem dX6_breaks_2 : decode cX6_breaks 2 = .ok (.getfield 53, 3) := by decide +kernel
theorem dX6_breaks_5 : decode cX6_breaks 5 = .ok (.invokevirtual 128, 3) := by decide +kernel
theorem dX6_breaks_8 : decode cX6_breaks 8 = .ok (.iconst 0, 1) := by decide +kernel
theorem dX6_breaks_9 : decode cX6_breaks 9 = .ok (.istore_n 2, 1) := by decide +kernel
theorem dX6_breaks_10 : decode cX6_breaks 10 = .ok (.iload_n 2, 1) := by decide +kernel
theorem dX6_breaks_11 : decode cX6_breaks 11 = .ok (.bipush 64, 2) := by decide +kernel
theorem dX6_breaks_13 : decode cX6_breaks 13 = .ok (.if_icmp .ge 17, 3) := by decide +kernel
theorem dX6_breaks_16 : decode cX6_breaks 16 = .ok (.aload_n 0, 1) := by decide +kernel
theorem dX6_breaks_17 : decode cX6_breaks 17 = .ok (.getfield 53, 3) := by decide +kernel
theorem dX6_breaks_20 : decode cX6_breaks 20 = .ok (.iload_n 2, 1) := by decide +kernel
theorem dX6_breaks_21 : decode cX6_breaks 21 = .ok (.ldc 143, 2) := by decide +kernel
theorem dX6_breaks_23 : decode cX6_breaks 23 = .ok (.iastore, 1) := by decide +kernel
theorem dX6_breaks_24 : decode cX6_breaks 24 = .ok (.iinc 2 1, 3) := by decide +kernel
theorem dX6_breaks_27 : decode cX6_breaks 27 = .ok (.goto (-17), 3) := by decide +kernel
theorem dX6_breaks_30 : decode cX6_breaks 30 = .ok (.aload_n 0, 1) := by decide +kernel
theorem dX6_breaks_31 : decode cX6_breaks 31 = .ok (.aload_n 0, 1) := by decide +kernel
theorem dX6_breaks_32 : decode cX6_breaks 32 = .ok (.getfield 53, 3) := by decide +kernel
theorem dX6_breaks_35 : decode cX6_breaks 35 = .ok (.aload_n 0, 1) := by decide +kernel
theorem dX6_breaks_36 : decode cX6_breaks 36 = .ok (.getfield 132, 3) := by decide +kernel
theorem dX6_breaks_39 : decode cX6_breaks 39 = .ok (.invokevirtual 135, 3) := by decide +kernel
theorem dX6_breaks_42 : decode cX6_breaks 42 = .ok (.iconst 0, 1) := by decide +kernel
theorem dX6_breaks_43 : decode cX6_breaks 43 = .ok (.istore_n 2, 1) := by decide +kernel
theorem dX6_breaks_44 : decode cX6_breaks 44 = .ok (.iconst 0, 1) := by decide +kernel
theorem dX6_breaks_45 : decode cX6_breaks 45 = .ok (.istore_n 3, 1) := by decide +kernel
theorem dX6_breaks_46 : decode cX6_breaks 46 = .ok (.iload_n 3, 1) := by decide +kernel
theorem dX6_breaks_47 : decode cX6_breaks 47 = .ok (.bipush 8, 2) := by decide +kernel
theorem dX6_breaks_49 : decode cX6_breaks 49 = .ok (.if_icmp .ge 77, 3) := by decide +kernel
theorem dX6_breaks_52 : decode cX6_breaks 52 = .ok (.iconst 0, 1) := by decide +kernel
theorem dX6_breaks_53 : decode cX6_breaks 53 = .ok (.istore 4, 2) := by decide +kernel
theorem dX6_breaks_55 : decode cX6_breaks 55 = .ok (.iload 4, 2) := by decide +kernel
theorem dX6_breaks_57 : decode cX6_breaks 57 = .ok (.bipush 8, 2) := by decide +kernel
theorem dX6_breaks_59 : decode cX6_breaks 59 = .ok (.if_icmp .ge 61, 3) := by decide +kernel
theorem dX6_breaks_62 : decode cX6_breaks 62 = .ok (.iload_n 2, 1) := by decide +kernel
theorem dX6_breaks_63 : decode cX6_breaks 63 = .ok (.ifCond .ne 45, 3) := by decide +kernel
theorem dX6_breaks_66 : decode cX6_breaks 66 = .ok (.aload_n 0, 1) := by decide +kernel
theorem dX6_breaks_67 : decode cX6_breaks 67 = .ok (.getfield 53, 3) := by decide +kernel
theorem dX6_breaks_70 : decode cX6_breaks 70 = .ok (.bipush 8, 2) := by decide +kernel
theorem dX6_breaks_72 : decode cX6_breaks 72 = .ok (.iload_n 3, 1) := by decide +kernel
theorem dX6_breaks_73 : decode cX6_breaks 73 = .ok (.imul, 1) := by decide +kernel
theorem dX6_breaks_74 : decode cX6_breaks 74 = .ok (.iload 4, 2) := by decide +kernel
theorem dX6_breaks_76 : decode cX6_breaks 76 = .ok (.iadd, 1) := by decide +kernel
theorem dX6_breaks_77 : decode cX6_breaks 77 = .ok (.iaload, 1) := by decide +kernel
theorem dX6_breaks_78 : decode cX6_breaks 78 = .ok (.ldc 143, 2) := by decide +kernel
theorem dX6_breaks_80 : decode cX6_breaks 80 = .ok (.if_icmp .ge 32, 3) := by decide +kernel
theorem dX6_breaks_83 : decode cX6_breaks 83 = .ok (.aload_n 0, 1) := by decide +kernel
theorem dX6_breaks_84 : decode cX6_breaks 84 = .ok (.getfield 53, 3) := by decide +kernel
theorem dX6_breaks_87 : decode cX6_breaks 87 = .ok (.bipush 8, 2) := by decide +kernel
theorem dX6_breaks_89 : decode cX6_breaks 89 = .ok (.iload_n 3, 1) := by decide +kernel
theorem dX6_breaks_90 : decode cX6_breaks 90 = .ok (.imul, 1) := by decide +kernel
theorem dX6_breaks_91 : decode cX6_breaks 91 = .ok (.iload 4, 2) := by decide +kernel
theorem dX6_breaks_93 : decode cX6_breaks 93 = .ok (.iadd, 1) := by decide +kernel
theorem dX6_breaks_94 : decode cX6_breaks 94 = .ok (.iaload, 1) := by decide +kernel
theorem dX6_breaks_95 : decode cX6_breaks 95 = .ok (.aload_n 1, 1) := by decide +kernel
theorem dX6_breaks_96 : decode cX6_breaks 96 = .ok (.bipush 8, 2) := by decide +kernel
theorem dX6_breaks_98 : decode cX6_breaks 98 = .ok (.iload 4, 2) := by decide +kernel
theorem dX6_breaks_100 : decode cX6_breaks 100 = .ok (.imul, 1) := by decide +kernel
theorem dX6_breaks_101 : decode cX6_breaks 101 = .ok (.iload_n 3, 1) := by decide +kernel
theorem dX6_breaks_102 : decode cX6_breaks 102 = .ok (.iadd, 1) := by decide +kernel
theorem dX6_breaks_103 : decode cX6_breaks 103 = .ok (.iaload, 1) := by decide +kernel
theorem dX6_breaks_104 : decode cX6_breaks 104 = .ok (.iadd, 1) := by decide +kernel
theorem dX6_breaks_105 : decode cX6_breaks 105 = .ok (.ifCond .ge 7, 3) := by decide +kernel
theorem dX6_breaks_108 : decode cX6_breaks 108 = .ok (.iconst 1, 1) := by decide +kernel
theorem dX6_breaks_109 : decode cX6_breaks 109 = .ok (.goto 4, 3) := by decide +kernel
theorem dX6_breaks_112 : decode cX6_breaks 112 = .ok (.iconst 0, 1) := by decide +kernel
theorem dX6_breaks_113 : decode cX6_breaks 113 = .ok (.istore_n 2, 1) := by decide +kernel
theorem dX6_breaks_114 : decode cX6_breaks 114 = .ok (.iinc 4 1, 3) := by decide +kernel
theorem dX6_breaks_117 : decode cX6_breaks 117 = .ok (.goto (-62), 3) := by decide +kernel
theorem dX6_breaks_120 : decode cX6_breaks 120 = .ok (.iinc 3 1, 3) := by decide +kernel
theorem dX6_breaks_123 : decode cX6_breaks 123 = .ok (.goto (-77), 3) := by decide +kernel
theorem dX6_breaks_126 : decode cX6_breaks 126 = .ok (.iload_n 2, 1) := by decide +kernel
theorem dX6_breaks_127 : decode cX6_breaks 127 = .ok (.ireturn, 1) := by decide +kernel
set_option maxRecDepth 20000 in
theorem ggX6_fewest_X6_first : GoodIn wsX6_fewest wsX6_first := goodIn_r _ [11, 12, 13] (by decide +kernel) (by decide +kernel)
set_option maxRecDepth 20000 in
theorem gX6_fewest_X6_first : GoodIn wsX6_fewest (wsV RX6 128 RX6 yX6_first wsX6_first) := goodIn_app (goodIn_of _ (by decide +kernel)) ggX6_fewest_X6_first
set_option maxRecDepth 20000 in
theorem ggX6_fewest_X6_closes : GoodIn wsX6_fewest wsX6_closes := goodIn_r _ [16, 17, 18, 10, 19, 20, 21, 22, 23] (by decide +kernel) (by decide +kernel)
set_option maxRecDepth 20000 in
theorem gX6_fewest_X6_closes : GoodIn wsX6_fewest (va_wsS RX6 139 yX6_closes wsX6_closes) := goodIn_app (goodIn_of _ (by decide +kernel)) ggX6_fewest_X6_closes
set_option maxRecDepth 20000 in
theorem ggX6_fewest_X6_breaks : GoodIn wsX6_fewest wsX6_breaks := goodIn_r _ [27, 4, 5, 6, 7, 8, 9, 10, 11, 12, 13, 28, 29, 30, 31, 32, 33, 34, 35, 36, 37, 17, 18, 19, 20, 21, 22, 23, 38, 39, 40, 41, 42, 43, 44, 45, 46, 47, 48, 49, 50, 51, 52, 53, 54, 55, 56, 57, 58, 59, 60, 61, 62, 63, 64, 65, 66] (by decide +kernel) (by decide +kernel)
set_option maxRecDepth 20000 in
theorem gX6_fewest_X6_breaks : GoodIn wsX6_fewest (wsV RX6 144 RX6 yX6_breaks wsX6_breaks) := goodIn_app (goodIn_of _ (by decide +kernel)) ggX6_fewest_X6_breaks
set_option maxRecDepth 20000 in
theorem ggX6_fewest_X6_bounds : GoodIn wsX6_fewest wsX6_bounds := goodIn_r _ [31, 32, 33, 34, 35, 36, 37, 17, 18, 10, 19, 20, 21, 22, 23, 38, 39, 40, 41, 42, 43, 44, 45, 46, 47, 48, 49, 50, 51, 52, 53, 54, 55, 56, 57, 58, 59, 60, 61, 62, 63, 64, 65, 66] (by decide +kernel) (by decide +kernel)
set_option maxRecDepth 20000 in
theorem gX6_fewest_X6_bounds : GoodIn wsX6_fewest (wsV RX6 135 RX6 yX6_bounds wsX6_bounds) := goodIn_app (goodIn_of _ (by decide +kernel)) ggX6_fewest_X6_bounds
set_option maxRecDepth 20000 in
theorem ggX6_fewest_X6_least : GoodIn wsX6_fewest wsX6_least := goodIn_r _ [19, 20, 21, 22, 23] (by decide +kernel) (by decide +kernel)
set_option maxRecDepth 20000 in
theorem gX6_fewest_X6_least : GoodIn wsX6_fewest (va_wsS RX6 122 yX6_least wsX6_least) := goodIn_app (goodIn_of _ (by decide +kernel)) ggX6_fewest_X6_least
theorem dX6_fewest_0 : decode cX6_fewest 0 = .ok (.aload_n 0, 1) := by decide +kernel
theorem dX6_fewest_1 : decode cX6_fewest 1 = .ok (.aload_n 0, 1) := by decide +kernel
theorem dX6_fewest_2 : decode cX6_fewest 2 = .ok (.getfield 62, 3) := by decide +kernel
theorem dX6_fewest_5 : decode cX6_fewest 5 = .ok (.invokevirtual 128, 3) := by decide +kernel
theorem dX6_fewest_8 : decode cX6_fewest 8 = .ok (.aload_n 0, 1) := by decide +kernel
theorem dX6_fewest_9 : decode cX6_fewest 9 = .ok (.getfield 62, 3) := by decide +kernel
theorem dX6_fewest_12 : decode cX6_fewest 12 = .ok (.invokestatic 139, 3) := by decide +kernel
theorem dX6_fewest_15 : decode cX6_fewest 15 = .ok (.istore_n 1, 1) := by decide +kernel
theorem dX6_fewest_16 : decode cX6_fewest 16 = .ok (.iconst 0, 1) := by decide +kernel
theorem dX6_fewest_17 : decode cX6_fewest 17 = .ok (.istore_n 2, 1) := by decide +kernel
theorem dX6_fewest_18 : decode cX6_fewest 18 = .ok (.iload_n 2, 1) := by decide +kernel
theorem dX6_fewest_19 : decode cX6_fewest 19 = .ok (.bipush 64, 2) := by decide +kernel
theorem dX6_fewest_21 : decode cX6_fewest 21 = .ok (.if_icmp .ge 21, 3) := by decide +kernel
theorem dX6_fewest_24 : decode cX6_fewest 24 = .ok (.aload_n 0, 1) := by decide +kernel
theorem dX6_fewest_25 : decode cX6_fewest 25 = .ok (.getfield 56, 3) := by decide +kernel
theorem dX6_fewest_28 : decode cX6_fewest 28 = .ok (.iload_n 2, 1) := by decide +kernel
theorem dX6_fewest_29 : decode cX6_fewest 29 = .ok (.aload_n 0, 1) := by decide +kernel
theorem dX6_fewest_30 : decode cX6_fewest 30 = .ok (.getfield 62, 3) := by decide +kernel
theorem dX6_fewest_33 : decode cX6_fewest 33 = .ok (.iload_n 2, 1) := by decide +kernel
theorem dX6_fewest_34 : decode cX6_fewest 34 = .ok (.iaload, 1) := by decide +kernel
theorem dX6_fewest_35 : decode cX6_fewest 35 = .ok (.iastore, 1) := by decide +kernel
theorem dX6_fewest_36 : decode cX6_fewest 36 = .ok (.iinc 2 1, 3) := by decide +kernel
theorem dX6_fewest_39 : decode cX6_fewest 39 = .ok (.goto (-21), 3) := by decide +kernel
theorem dX6_fewest_42 : decode cX6_fewest 42 = .ok (.iconst 0, 1) := by decide +kernel
theorem dX6_fewest_43 : decode cX6_fewest 43 = .ok (.istore_n 2, 1) := by decide +kernel
theorem dX6_fewest_44 : decode cX6_fewest 44 = .ok (.aload_n 0, 1) := by decide +kernel
theorem dX6_fewest_45 : decode cX6_fewest 45 = .ok (.aload_n 0, 1) := by decide +kernel
theorem dX6_fewest_46 : decode cX6_fewest 46 = .ok (.getfield 56, 3) := by decide +kernel
theorem dX6_fewest_49 : decode cX6_fewest 49 = .ok (.invokevirtual 144, 3) := by decide +kernel
theorem dX6_fewest_52 : decode cX6_fewest 52 = .ok (.ifCond .ne 226, 3) := by decide +kernel
theorem dX6_fewest_55 : decode cX6_fewest 55 = .ok (.iinc 2 1, 3) := by decide +kernel
theorem dX6_fewest_58 : decode cX6_fewest 58 = .ok (.iconst 0, 1) := by decide +kernel
theorem dX6_fewest_59 : decode cX6_fewest 59 = .ok (.istore_n 3, 1) := by decide +kernel
theorem dX6_fewest_60 : decode cX6_fewest 60 = .ok (.iload_n 3, 1) := by decide +kernel
theorem dX6_fewest_61 : decode cX6_fewest 61 = .ok (.bipush 64, 2) := by decide +kernel
theorem dX6_fewest_63 : decode cX6_fewest 63 = .ok (.if_icmp .ge 29, 3) := by decide +kernel
theorem dX6_fewest_66 : decode cX6_fewest 66 = .ok (.aload_n 0, 1) := by decide +kernel
theorem dX6_fewest_67 : decode cX6_fewest 67 = .ok (.getfield 59, 3) := by decide +kernel
theorem dX6_fewest_70 : decode cX6_fewest 70 = .ok (.iload_n 3, 1) := by decide +kernel
theorem dX6_fewest_71 : decode cX6_fewest 71 = .ok (.aload_n 0, 1) := by decide +kernel
theorem dX6_fewest_72 : decode cX6_fewest 72 = .ok (.getfield 56, 3) := by decide +kernel
theorem dX6_fewest_75 : decode cX6_fewest 75 = .ok (.iload_n 3, 1) := by decide +kernel
theorem dX6_fewest_76 : decode cX6_fewest 76 = .ok (.iaload, 1) := by decide +kernel
theorem dX6_fewest_77 : decode cX6_fewest 77 = .ok (.iastore, 1) := by decide +kernel
theorem dX6_fewest_78 : decode cX6_fewest 78 = .ok (.aload_n 0, 1) := by decide +kernel
theorem dX6_fewest_79 : decode cX6_fewest 79 = .ok (.getfield 53, 3) := by decide +kernel
theorem dX6_fewest_82 : decode cX6_fewest 82 = .ok (.iload_n 3, 1) := by decide +kernel
theorem dX6_fewest_83 : decode cX6_fewest 83 = .ok (.ldc 143, 2) := by decide +kernel
theorem dX6_fewest_85 : decode cX6_fewest 85 = .ok (.iastore, 1) := by decide +kernel
theorem dX6_fewest_86 : decode cX6_fewest 86 = .ok (.iinc 3 1, 3) := by decide +kernel
theorem dX6_fewest_89 : decode cX6_fewest 89 = .ok (.goto (-29), 3) := by decide +kernel
theorem dX6_fewest_92 : decode cX6_fewest 92 = .ok (.iconst 0, 1) := by decide +kernel
theorem dX6_fewest_93 : decode cX6_fewest 93 = .ok (.istore_n 3, 1) := by decide +kernel
theorem dX6_fewest_94 : decode cX6_fewest 94 = .ok (.iload_n 3, 1) := by decide +kernel
theorem dX6_fewest_95 : decode cX6_fewest 95 = .ok (.aload_n 0, 1) := by decide +kernel
theorem dX6_fewest_96 : decode cX6_fewest 96 = .ok (.getfield 132, 3) := by decide +kernel
theorem dX6_fewest_99 : decode cX6_fewest 99 = .ok (.if_icmp .ge 18, 3) := by decide +kernel
theorem dX6_fewest_102 : decode cX6_fewest 102 = .ok (.aload_n 0, 1) := by decide +kernel
theorem dX6_fewest_103 : decode cX6_fewest 103 = .ok (.aload_n 0, 1) := by decide +kernel
theorem dX6_fewest_104 : decode cX6_fewest 104 = .ok (.getfield 53, 3) := by decide +kernel
theorem dX6_fewest_107 : decode cX6_fewest 107 = .ok (.iload_n 3, 1) := by decide +kernel
theorem dX6_fewest_108 : decode cX6_fewest 108 = .ok (.invokevirtual 135, 3) := by decide +kernel
theorem dX6_fewest_111 : decode cX6_fewest 111 = .ok (.iinc 3 1, 3) := by decide +kernel
theorem dX6_fewest_114 : decode cX6_fewest 114 = .ok (.goto (-20), 3) := by decide +kernel
theorem dX6_fewest_117 : decode cX6_fewest 117 = .ok (.iconst 0, 1) := by decide +kernel
theorem dX6_fewest_118 : decode cX6_fewest 118 = .ok (.istore_n 3, 1) := by decide +kernel
theorem dX6_fewest_119 : decode cX6_fewest 119 = .ok (.iload_n 3, 1) := by decide +kernel
theorem dX6_fewest_120 : decode cX6_fewest 120 = .ok (.bipush 8, 2) := by decide +kernel
theorem dX6_fewest_122 : decode cX6_fewest 122 = .ok (.if_icmp .ge 127, 3) := by decide +kernel
theorem dX6_fewest_125 : decode cX6_fewest 125 = .ok (.iconst 0, 1) := by decide +kernel
theorem dX6_fewest_126 : decode cX6_fewest 126 = .ok (.istore 4, 2) := by decide +kernel
theorem dX6_fewest_128 : decode cX6_fewest 128 = .ok (.iload 4, 2) := by decide +kernel
theorem dX6_fewest_130 : decode cX6_fewest 130 = .ok (.bipush 8, 2) := by decide +kernel
theorem dX6_fewest_132 : decode cX6_fewest 132 = .ok (.if_icmp .ge 111, 3) := by decide +kernel
theorem dX6_fewest_135 : decode cX6_fewest 135 = .ok (.aload_n 0, 1) := by decide +kernel
theorem dX6_fewest_136 : decode cX6_fewest 136 = .ok (.getfield 53, 3) := by decide +kernel
theorem dX6_fewest_139 : decode cX6_fewest 139 = .ok (.bipush 8, 2) := by decide +kernel
theorem dX6_fewest_141 : decode cX6_fewest 141 = .ok (.iload_n 3, 1) := by decide +kernel
theorem dX6_fewest_142 : decode cX6_fewest 142 = .ok (.imul, 1) := by decide +kernel
theorem dX6_fewest_143 : decode cX6_fewest 143 = .ok (.iload 4, 2) := by decide +kernel
theorem dX6_fewest_145 : decode cX6_fewest 145 = .ok (.iadd, 1) := by decide +kernel
theorem dX6_fewest_146 : decode cX6_fewest 146 = .ok (.iaload, 1) := by decide +kernel
theorem dX6_fewest_147 : decode cX6_fewest 147 = .ok (.ldc 143, 2) := by decide +kernel
theorem dX6_fewest_149 : decode cX6_fewest 149 = .ok (.if_icmp .ne 6, 3) := by decide +kernel
theorem dX6_fewest_152 : decode cX6_fewest 152 = .ok (.goto 85, 3) := by decide +kernel
theorem dX6_fewest_155 : decode cX6_fewest 155 = .ok (.iconst 0, 1) := by decide +kernel
theorem dX6_fewest_156 : decode cX6_fewest 156 = .ok (.istore 5, 2) := by decide +kernel
theorem dX6_fewest_158 : decode cX6_fewest 158 = .ok (.iload 5, 2) := by decide +kernel
theorem dX6_fewest_160 : decode cX6_fewest 160 = .ok (.bipush 8, 2) := by decide +kernel
theorem dX6_fewest_162 : decode cX6_fewest 162 = .ok (.if_icmp .ge 75, 3) := by decide +kernel
theorem dX6_fewest_165 : decode cX6_fewest 165 = .ok (.iconst 0, 1) := by decide +kernel
theorem dX6_fewest_166 : decode cX6_fewest 166 = .ok (.istore 6, 2) := by decide +kernel
theorem dX6_fewest_168 : decode cX6_fewest 168 = .ok (.iload 6, 2) := by decide +kernel
theorem dX6_fewest_170 : decode cX6_fewest 170 = .ok (.bipush 8, 2) := by decide +kernel
theorem dX6_fewest_172 : decode cX6_fewest 172 = .ok (.if_icmp .ge 59, 3) := by decide +kernel
theorem dX6_fewest_175 : decode cX6_fewest 175 = .ok (.aload_n 0, 1) := by decide +kernel
theorem dX6_fewest_176 : decode cX6_fewest 176 = .ok (.getfield 59, 3) := by decide +kernel
theorem dX6_fewest_179 : decode cX6_fewest 179 = .ok (.iload 5, 2) := by decide +kernel
theorem dX6_fewest_181 : decode cX6_fewest 181 = .ok (.iload 6, 2) := by decide +kernel
theorem dX6_fewest_183 : decode cX6_fewest 183 = .ok (.aload_n 0, 1) := by decide +kernel
theorem dX6_fewest_184 : decode cX6_fewest 184 = .ok (.getfield 56, 3) := by decide +kernel
theorem dX6_fewest_187 : decode cX6_fewest 187 = .ok (.bipush 8, 2) := by decide +kernel
theorem dX6_fewest_189 : decode cX6_fewest 189 = .ok (.iload 5, 2) := by decide +kernel
theorem dX6_fewest_191 : decode cX6_fewest 191 = .ok (.imul, 1) := by decide +kernel
theorem dX6_fewest_192 : decode cX6_fewest 192 = .ok (.iload_n 3, 1) := by decide +kernel
theorem dX6_fewest_193 : decode cX6_fewest 193 = .ok (.iadd, 1) := by decide +kernel
theorem dX6_fewest_194 : decode cX6_fewest 194 = .ok (.iaload, 1) := by decide +kernel
theorem dX6_fewest_195 : decode cX6_fewest 195 = .ok (.aload_n 0, 1) := by decide +kernel
theorem dX6_fewest_196 : decode cX6_fewest 196 = .ok (.getfield 53, 3) := by decide +kernel
theorem dX6_fewest_199 : decode cX6_fewest 199 = .ok (.bipush 8, 2) := by decide +kernel
theorem dX6_fewest_201 : decode cX6_fewest 201 = .ok (.iload_n 3, 1) := by decide +kernel
theorem dX6_fewest_202 : decode cX6_fewest 202 = .ok (.imul, 1) := by decide +kernel
theorem dX6_fewest_203 : decode cX6_fewest 203 = .ok (.iload 4, 2) := by decide +kernel
theorem dX6_fewest_205 : decode cX6_fewest 205 = .ok (.iadd, 1) := by decide +kernel
theorem dX6_fewest_206 : decode cX6_fewest 206 = .ok (.iaload, 1) := by decide +kernel
theorem dX6_fewest_207 : decode cX6_fewest 207 = .ok (.iadd, 1) := by decide +kernel
theorem dX6_fewest_208 : decode cX6_fewest 208 = .ok (.aload_n 0, 1) := by decide +kernel
theorem dX6_fewest_209 : decode cX6_fewest 209 = .ok (.getfield 62, 3) := by decide +kernel
theorem dX6_fewest_212 : decode cX6_fewest 212 = .ok (.bipush 8, 2) := by decide +kernel
theorem dX6_fewest_214 : decode cX6_fewest 214 = .ok (.iload 4, 2) := by decide +kernel
theorem dX6_fewest_216 : decode cX6_fewest 216 = .ok (.imul, 1) := by decide +kernel
theorem dX6_fewest_217 : decode cX6_fewest 217 = .ok (.iload 6, 2) := by decide +kernel
theorem dX6_fewest_219 : decode cX6_fewest 219 = .ok (.iadd, 1) := by decide +kernel
theorem dX6_fewest_220 : decode cX6_fewest 220 = .ok (.iaload, 1) := by decide +kernel
theorem dX6_fewest_221 : decode cX6_fewest 221 = .ok (.iadd, 1) := by decide +kernel
theorem dX6_fewest_222 : decode cX6_fewest 222 = .ok (.invokestatic 122, 3) := by decide +kernel
theorem dX6_fewest_225 : decode cX6_fewest 225 = .ok (.iinc 6 1, 3) := by decide +kernel
theorem dX6_fewest_228 : decode cX6_fewest 228 = .ok (.goto (-60), 3) := by decide +kernel
theorem dX6_fewest_231 : decode cX6_fewest 231 = .ok (.iinc 5 1, 3) := by decide +kernel
theorem dX6_fewest_234 : decode cX6_fewest 234 = .ok (.goto (-76), 3) := by decide +kernel
theorem dX6_fewest_237 : decode cX6_fewest 237 = .ok (.iinc 4 1, 3) := by decide +kernel
theorem dX6_fewest_240 : decode cX6_fewest 240 = .ok (.goto (-112), 3) := by decide +kernel
theorem dX6_fewest_243 : decode cX6_fewest 243 = .ok (.iinc 3 1, 3) := by decide +kernel
theorem dX6_fewest_246 : decode cX6_fewest 246 = .ok (.goto (-127), 3) := by decide +kernel
theorem dX6_fewest_249 : decode cX6_fewest 249 = .ok (.iconst 0, 1) := by decide +kernel
theorem dX6_fewest_250 : decode cX6_fewest 250 = .ok (.istore_n 3, 1) := by decide +kernel
theorem dX6_fewest_251 : decode cX6_fewest 251 = .ok (.iload_n 3, 1) := by decide +kernel
theorem dX6_fewest_252 : decode cX6_fewest 252 = .ok (.bipush 64, 2) := by decide +kernel
theorem dX6_fewest_254 : decode cX6_fewest 254 = .ok (.if_icmp .ge 21, 3) := by decide +kernel
theorem dX6_fewest_257 : decode cX6_fewest 257 = .ok (.aload_n 0, 1) := by decide +kernel
theorem dX6_fewest_258 : decode cX6_fewest 258 = .ok (.getfield 56, 3) := by decide +kernel
theorem dX6_fewest_261 : decode cX6_fewest 261 = .ok (.iload_n 3, 1) := by decide +kernel
theorem dX6_fewest_262 : decode cX6_fewest 262 = .ok (.aload_n 0, 1) := by decide +kernel
theorem dX6_fewest_263 : decode cX6_fewest 263 = .ok (.getfield 59, 3) := by decide +kernel
theorem dX6_fewest_266 : decode cX6_fewest 266 = .ok (.iload_n 3, 1) := by decide +kernel
theorem dX6_fewest_267 : decode cX6_fewest 267 = .ok (.iaload, 1) := by decide +kernel
theorem dX6_fewest_268 : decode cX6_fewest 268 = .ok (.iastore, 1) := by decide +kernel
theorem dX6_fewest_269 : decode cX6_fewest 269 = .ok (.iinc 3 1, 3) := by decide +kernel
theorem dX6_fewest_272 : decode cX6_fewest 272 = .ok (.goto (-21), 3) := by decide +kernel
theorem dX6_fewest_275 : decode cX6_fewest 275 = .ok (.goto (-231), 3) := by decide +kernel
theorem dX6_fewest_278 : decode cX6_fewest 278 = .ok (.iload_n 2, 1) := by decide +kernel
theorem dX6_fewest_279 : decode cX6_fewest 279 = .ok (.ireturn, 1) := by decide +kernel
set_option maxRecDepth 20000 in
theorem ggX6_tie_X6_refused : GoodIn wsX6_tie wsX6_refused := goodIn_r _ [14, 15, 59, 60, 61, 62, 63, 64, 65, 66, 67, 68, 69, 70, 71, 72, 73, 74, 75, 76, 77, 78, 79, 80, 81, 82, 83, 84, 85, 86, 87] (by decide +kernel) (by decide +kernel)
set_option maxRecDepth 20000 in
theorem gX6_tie_X6_refused : GoodIn wsX6_tie (wsV RX6 83 RX6 yX6_refused wsX6_refused) := goodIn_app (goodIn_of _ (by decide +kernel)) ggX6_tie_X6_refused
set_option maxRecDepth 20000 in
theorem ggX6_tie_X6_closed : GoodIn wsX6_tie wsX6_closed := goodIn_r _ [19, 1, 20, 21, 22, 13, 23, 24, 25, 26, 27, 28, 29, 2, 30, 3, 4, 31, 5, 32, 33, 34, 35, 36, 37, 38, 39, 40, 41, 59, 60, 61, 62, 63, 64, 65, 66, 67, 68, 69, 70, 71, 72, 73, 74, 75, 76, 77, 78, 79, 80, 81, 82, 83, 84, 85, 86, 87] (by decide +kernel) (by decide +kernel)
set_option maxRecDepth 20000 in
theorem gX6_tie_X6_closed : GoodIn wsX6_tie (wsV RX6 147 RX6 yX6_closed wsX6_closed) := goodIn_app (goodIn_of _ (by decide +kernel)) ggX6_tie_X6_closed
set_option maxRecDepth 20000 in
theorem ggX6_tie_X6_breaks : GoodIn wsX6_tie wsX6_breaks := goodIn_r _ [45, 46, 47, 1, 20, 21, 22, 13, 23, 24, 25, 26, 27, 28, 29, 2, 30, 3, 4, 31, 5, 32, 33, 34, 35, 36, 37, 38, 59, 60, 61, 62, 63, 64, 65, 66, 67, 68, 69, 70, 71, 72, 73, 74, 75, 76, 77, 78, 79, 80, 81, 82, 83, 84, 85, 86, 87] (by decide +kernel) (by decide +kernel)
set_option maxRecDepth 20000 in
theorem gX6_tie_X6_breaks : GoodIn wsX6_tie (wsV RX6 144 RX6 yX6_breaks wsX6_breaks) := goodIn_app (goodIn_of _ (by decide +kernel)) ggX6_tie_X6_breaks
set_option maxRecDepth 20000 in
theorem ggX6_tie_X6_fewest : GoodIn wsX6_tie wsX6_fewest := goodIn_r _ [51, 52, 53, 54, 46, 47, 1, 20, 21, 22, 13, 23, 24, 25, 39, 40, 41, 32, 33, 34, 35, 36, 37, 38, 42, 43, 44, 45, 26, 27, 28, 29, 2, 30, 3, 4, 31, 5, 59, 60, 61, 62, 63, 64, 65, 66, 67, 68, 69, 70, 71, 72, 73, 74, 75, 76, 77, 78, 79, 80, 81, 82, 83, 84, 85, 86, 87] (by decide +kernel) (by decide +kernel)
set_option maxRecDepth 20000 in
theorem gX6_tie_X6_fewest : GoodIn wsX6_tie (wsV RX6 151 RX6 yX6_fewest wsX6_fewest) := goodIn_app (goodIn_of _ (by decide +kernel)) ggX6_tie_X6_fewest
set_option maxRecDepth 20000 in
theorem ggX6_tie_X6_done : GoodIn wsX6_tie wsX6_done := goodIn_r _ [58, 15, 59, 60, 61, 62, 63, 64, 65, 66, 67, 68, 69, 70, 71, 72, 73, 74, 75, 76, 77, 78, 79, 80, 81, 82, 83, 84, 85, 86, 87] (by decide +kernel) (by decide +kernel)
set_option maxRecDepth 20000 in
theorem gX6_tie_X6_done : GoodIn wsX6_tie (wsV RX6 87 RX6 yX6_done wsX6_done) := goodIn_app (goodIn_of _ (by decide +kernel)) ggX6_tie_X6_done
theorem dX6_tie_0 : decode cX6_tie 0 = .ok (.aload_n 0, 1) := by decide +kernel
theorem dX6_tie_1 : decode cX6_tie 1 = .ok (.getfield 132, 3) := by decide +kernel
theorem dX6_tie_4 : decode cX6_tie 4 = .ok (.bipush 60, 2) := by decide +kernel
theorem dX6_tie_6 : decode cX6_tie 6 = .ok (.if_icmp .ne 9, 3) := by decide +kernel
theorem dX6_tie_9 : decode cX6_tie 9 = .ok (.aload_n 0, 1) := by decide +kernel
theorem dX6_tie_10 : decode cX6_tie 10 = .ok (.iconst 3, 1) := by decide +kernel
theorem dX6_tie_11 : decode cX6_tie 11 = .ok (.invokevirtual 83, 3) := by decide +kernel
theorem dX6_tie_14 : decode cX6_tie 14 = .ok (.ireturn, 1) := by decide +kernel
theorem dX6_tie_15 : decode cX6_tie 15 = .ok (.aload_n 0, 1) := by decide +kernel
theorem dX6_tie_16 : decode cX6_tie 16 = .ok (.getfield 35, 3) := by decide +kernel
theorem dX6_tie_19 : decode cX6_tie 19 = .ok (.aload_n 0, 1) := by decide +kernel
theorem dX6_tie_20 : decode cX6_tie 20 = .ok (.getfield 132, 3) := by decide +kernel
theorem dX6_tie_23 : decode cX6_tie 23 = .ok (.iload_n 1, 1) := by decide +kernel
theorem dX6_tie_24 : decode cX6_tie 24 = .ok (.iastore, 1) := by decide +kernel
theorem dX6_tie_25 : decode cX6_tie 25 = .ok (.aload_n 0, 1) := by decide +kernel
theorem dX6_tie_26 : decode cX6_tie 26 = .ok (.getfield 38, 3) := by decide +kernel
theorem dX6_tie_29 : decode cX6_tie 29 = .ok (.aload_n 0, 1) := by decide +kernel
theorem dX6_tie_30 : decode cX6_tie 30 = .ok (.getfield 132, 3) := by decide +kernel
theorem dX6_tie_33 : decode cX6_tie 33 = .ok (.iload_n 2, 1) := by decide +kernel
theorem dX6_tie_34 : decode cX6_tie 34 = .ok (.iastore, 1) := by decide +kernel
theorem dX6_tie_35 : decode cX6_tie 35 = .ok (.aload_n 0, 1) := by decide +kernel
