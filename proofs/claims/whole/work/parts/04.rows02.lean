theorem dX6_tie_36 : decode cX6_tie 36 = .ok (.getfield 41, 3) := by decide +kernel
theorem dX6_tie_39 : decode cX6_tie 39 = .ok (.aload_n 0, 1) := by decide +kernel
theorem dX6_tie_40 : decode cX6_tie 40 = .ok (.getfield 132, 3) := by decide +kernel
theorem dX6_tie_43 : decode cX6_tie 43 = .ok (.iload_n 3, 1) := by decide +kernel
theorem dX6_tie_44 : decode cX6_tie 44 = .ok (.iastore, 1) := by decide +kernel
theorem dX6_tie_45 : decode cX6_tie 45 = .ok (.aload_n 0, 1) := by decide +kernel
theorem dX6_tie_46 : decode cX6_tie 46 = .ok (.getfield 44, 3) := by decide +kernel
theorem dX6_tie_49 : decode cX6_tie 49 = .ok (.aload_n 0, 1) := by decide +kernel
theorem dX6_tie_50 : decode cX6_tie 50 = .ok (.getfield 132, 3) := by decide +kernel
theorem dX6_tie_53 : decode cX6_tie 53 = .ok (.iload 4, 2) := by decide +kernel
theorem dX6_tie_55 : decode cX6_tie 55 = .ok (.iastore, 1) := by decide +kernel
theorem dX6_tie_56 : decode cX6_tie 56 = .ok (.aload_n 0, 1) := by decide +kernel
theorem dX6_tie_57 : decode cX6_tie 57 = .ok (.aload_n 0, 1) := by decide +kernel
theorem dX6_tie_58 : decode cX6_tie 58 = .ok (.getfield 47, 3) := by decide +kernel
theorem dX6_tie_61 : decode cX6_tie 61 = .ok (.iconst (-1), 1) := by decide +kernel
theorem dX6_tie_62 : decode cX6_tie 62 = .ok (.invokevirtual 147, 3) := by decide +kernel
theorem dX6_tie_65 : decode cX6_tie 65 = .ok (.istore 5, 2) := by decide +kernel
theorem dX6_tie_67 : decode cX6_tie 67 = .ok (.aload_n 0, 1) := by decide +kernel
theorem dX6_tie_68 : decode cX6_tie 68 = .ok (.aload_n 0, 1) := by decide +kernel
theorem dX6_tie_69 : decode cX6_tie 69 = .ok (.getfield 47, 3) := by decide +kernel
theorem dX6_tie_72 : decode cX6_tie 72 = .ok (.invokevirtual 144, 3) := by decide +kernel
theorem dX6_tie_75 : decode cX6_tie 75 = .ok (.ifCond .eq 17, 3) := by decide +kernel
theorem dX6_tie_78 : decode cX6_tie 78 = .ok (.aload_n 0, 1) := by decide +kernel
theorem dX6_tie_79 : decode cX6_tie 79 = .ok (.aload_n 0, 1) := by decide +kernel
theorem dX6_tie_80 : decode cX6_tie 80 = .ok (.invokevirtual 151, 3) := by decide +kernel
theorem dX6_tie_83 : decode cX6_tie 83 = .ok (.putfield 13, 3) := by decide +kernel
theorem dX6_tie_86 : decode cX6_tie 86 = .ok (.aload_n 0, 1) := by decide +kernel
theorem dX6_tie_87 : decode cX6_tie 87 = .ok (.iconst 4, 1) := by decide +kernel
theorem dX6_tie_88 : decode cX6_tie 88 = .ok (.invokevirtual 83, 3) := by decide +kernel
theorem dX6_tie_91 : decode cX6_tie 91 = .ok (.ireturn, 1) := by decide +kernel
theorem dX6_tie_92 : decode cX6_tie 92 = .ok (.aload_n 0, 1) := by decide +kernel
theorem dX6_tie_93 : decode cX6_tie 93 = .ok (.getfield 32, 3) := by decide +kernel
theorem dX6_tie_96 : decode cX6_tie 96 = .ok (.aload_n 0, 1) := by decide +kernel
theorem dX6_tie_97 : decode cX6_tie 97 = .ok (.getfield 132, 3) := by decide +kernel
theorem dX6_tie_100 : decode cX6_tie 100 = .ok (.aload_n 0, 1) := by decide +kernel
theorem dX6_tie_101 : decode cX6_tie 101 = .ok (.getfield 155, 3) := by decide +kernel
theorem dX6_tie_104 : decode cX6_tie 104 = .ok (.iastore, 1) := by decide +kernel
theorem dX6_tie_105 : decode cX6_tie 105 = .ok (.aload_n 0, 1) := by decide +kernel
theorem dX6_tie_106 : decode cX6_tie 106 = .ok (.dup, 1) := by decide +kernel
theorem dX6_tie_107 : decode cX6_tie 107 = .ok (.getfield 132, 3) := by decide +kernel
theorem dX6_tie_110 : decode cX6_tie 110 = .ok (.iconst 1, 1) := by decide +kernel
theorem dX6_tie_111 : decode cX6_tie 111 = .ok (.iadd, 1) := by decide +kernel
theorem dX6_tie_112 : decode cX6_tie 112 = .ok (.putfield 132, 3) := by decide +kernel
theorem dX6_tie_115 : decode cX6_tie 115 = .ok (.aload_n 0, 1) := by decide +kernel
theorem dX6_tie_116 : decode cX6_tie 116 = .ok (.dup, 1) := by decide +kernel
theorem dX6_tie_117 : decode cX6_tie 117 = .ok (.getfield 155, 3) := by decide +kernel
theorem dX6_tie_120 : decode cX6_tie 120 = .ok (.iconst 1, 1) := by decide +kernel
theorem dX6_tie_121 : decode cX6_tie 121 = .ok (.iadd, 1) := by decide +kernel
theorem dX6_tie_122 : decode cX6_tie 122 = .ok (.putfield 155, 3) := by decide +kernel
theorem dX6_tie_125 : decode cX6_tie 125 = .ok (.aload_n 0, 1) := by decide +kernel
theorem dX6_tie_126 : decode cX6_tie 126 = .ok (.aload_n 0, 1) := by decide +kernel
theorem dX6_tie_127 : decode cX6_tie 127 = .ok (.getfield 155, 3) := by decide +kernel
theorem dX6_tie_130 : decode cX6_tie 130 = .ok (.iconst 1, 1) := by decide +kernel
theorem dX6_tie_131 : decode cX6_tie 131 = .ok (.isub, 1) := by decide +kernel
theorem dX6_tie_132 : decode cX6_tie 132 = .ok (.invokevirtual 87, 3) := by decide +kernel
theorem dX6_tie_135 : decode cX6_tie 135 = .ok (.ireturn, 1) := by decide +kernel
set_option maxRecDepth 20000 in
theorem ggX6_near_X6_isPicture : GoodIn wsX6_near wsX6_isPicture := goodIn_r _ [6, 7, 72, 73, 74, 75, 76, 77, 78, 79, 80, 81, 82, 83, 84, 85, 86, 87, 88, 89, 90, 91, 92, 93, 94, 95, 96, 97, 98, 99, 100] (by decide +kernel) (by decide +kernel)
set_option maxRecDepth 20000 in
theorem gX6_near_X6_isPicture : GoodIn wsX6_near (wsV RX6 158 RX6 yX6_isPicture wsX6_isPicture) := goodIn_app (goodIn_of _ (by decide +kernel)) ggX6_near_X6_isPicture
set_option maxRecDepth 20000 in
theorem ggX6_near_X6_refused : GoodIn wsX6_near wsX6_refused := goodIn_r _ [11, 12, 72, 73, 74, 75, 76, 77, 78, 79, 80, 81, 82, 83, 84, 85, 86, 87, 88, 89, 90, 91, 92, 93, 94, 95, 96, 97, 98, 99, 100] (by decide +kernel) (by decide +kernel)
set_option maxRecDepth 20000 in
theorem gX6_near_X6_refused : GoodIn wsX6_near (wsV RX6 83 RX6 yX6_refused wsX6_refused) := goodIn_app (goodIn_of _ (by decide +kernel)) ggX6_near_X6_refused
set_option maxRecDepth 20000 in
theorem ggX6_near_X6_in : GoodIn wsX6_near wsX6_in := goodIn_r _ [15] (by decide +kernel) (by decide +kernel)
set_option maxRecDepth 20000 in
theorem gX6_near_X6_in : GoodIn wsX6_near (va_wsS RX6 103 yX6_in wsX6_in) := goodIn_app (goodIn_of _ (by decide +kernel)) ggX6_near_X6_in
set_option maxRecDepth 20000 in
theorem ggX6_near_X6_tie : GoodIn wsX6_near wsX6_tie := goodIn_r _ [19, 20, 21, 22, 23, 24, 25, 26, 27, 28, 8, 9, 10, 5, 11, 12, 29, 30, 31, 32, 33, 34, 35, 36, 37, 38, 39, 40, 41, 42, 43, 44, 45, 46, 47, 48, 49, 50, 51, 52, 53, 54, 55, 56, 57, 58, 59, 60, 61, 62, 63, 64, 65, 66, 67, 68, 69, 70, 71, 72, 73, 74, 75, 76, 77, 78, 79, 80, 81, 82, 83, 84, 85, 86, 87, 88, 89, 90, 91, 92, 93, 94, 95, 96, 97, 98, 99, 100] (by decide +kernel) (by decide +kernel)
set_option maxRecDepth 20000 in
theorem gX6_near_X6_tie : GoodIn wsX6_near (wsV RX6 161 RX6 yX6_tie wsX6_tie) := goodIn_app (goodIn_of _ (by decide +kernel)) ggX6_near_X6_tie
theorem dX6_near_0 : decode cX6_near 0 = .ok (.aload_n 0, 1) := by decide +kernel
theorem dX6_near_1 : decode cX6_near 1 = .ok (.iconst 0, 1) := by decide +kernel
theorem dX6_near_2 : decode cX6_near 2 = .ok (.putfield 74, 3) := by decide +kernel
theorem dX6_near_5 : decode cX6_near 5 = .ok (.aload_n 0, 1) := by decide +kernel
theorem dX6_near_6 : decode cX6_near 6 = .ok (.iload_n 1, 1) := by decide +kernel
theorem dX6_near_7 : decode cX6_near 7 = .ok (.invokevirtual 158, 3) := by decide +kernel
theorem dX6_near_10 : decode cX6_near 10 = .ok (.ifCond .eq 11, 3) := by decide +kernel
theorem dX6_near_13 : decode cX6_near 13 = .ok (.aload_n 0, 1) := by decide +kernel
theorem dX6_near_14 : decode cX6_near 14 = .ok (.iload_n 2, 1) := by decide +kernel
theorem dX6_near_15 : decode cX6_near 15 = .ok (.invokevirtual 158, 3) := by decide +kernel
theorem dX6_near_18 : decode cX6_near 18 = .ok (.ifCond .ne 9, 3) := by decide +kernel
theorem dX6_near_21 : decode cX6_near 21 = .ok (.aload_n 0, 1) := by decide +kernel
theorem dX6_near_22 : decode cX6_near 22 = .ok (.iconst 1, 1) := by decide +kernel
theorem dX6_near_23 : decode cX6_near 23 = .ok (.invokevirtual 83, 3) := by decide +kernel
theorem dX6_near_26 : decode cX6_near 26 = .ok (.ireturn, 1) := by decide +kernel
theorem dX6_near_27 : decode cX6_near 27 = .ok (.iload_n 3, 1) := by decide +kernel
theorem dX6_near_28 : decode cX6_near 28 = .ok (.iconst 0, 1) := by decide +kernel
theorem dX6_near_29 : decode cX6_near 29 = .ok (.sipush 10000, 3) := by decide +kernel
theorem dX6_near_32 : decode cX6_near 32 = .ok (.invokestatic 103, 3) := by decide +kernel
theorem dX6_near_35 : decode cX6_near 35 = .ok (.ifCond .ne 9, 3) := by decide +kernel
theorem dX6_near_38 : decode cX6_near 38 = .ok (.aload_n 0, 1) := by decide +kernel
theorem dX6_near_39 : decode cX6_near 39 = .ok (.iconst 2, 1) := by decide +kernel
theorem dX6_near_40 : decode cX6_near 40 = .ok (.invokevirtual 83, 3) := by decide +kernel
theorem dX6_near_43 : decode cX6_near 43 = .ok (.ireturn, 1) := by decide +kernel
theorem dX6_near_44 : decode cX6_near 44 = .ok (.aload_n 0, 1) := by decide +kernel
theorem dX6_near_45 : decode cX6_near 45 = .ok (.iconst 0, 1) := by decide +kernel
theorem dX6_near_46 : decode cX6_near 46 = .ok (.iload_n 1, 1) := by decide +kernel
theorem dX6_near_47 : decode cX6_near 47 = .ok (.iload_n 2, 1) := by decide +kernel
theorem dX6_near_48 : decode cX6_near 48 = .ok (.iload_n 3, 1) := by decide +kernel
theorem dX6_near_49 : decode cX6_near 49 = .ok (.invokevirtual 161, 3) := by decide +kernel
theorem dX6_near_52 : decode cX6_near 52 = .ok (.ireturn, 1) := by decide +kernel
set_option maxRecDepth 20000 in
theorem ggX6_ahead_X6_isPicture : GoodIn wsX6_ahead wsX6_isPicture := goodIn_r _ [6, 7, 69, 70, 71, 72, 73, 74, 75, 76, 77, 78, 79, 80, 81, 82, 83, 84, 85, 86, 87, 88, 89, 90, 91, 92, 93, 94, 95, 96, 97] (by decide +kernel) (by decide +kernel)
set_option maxRecDepth 20000 in
theorem gX6_ahead_X6_isPicture : GoodIn wsX6_ahead (wsV RX6 158 RX6 yX6_isPicture wsX6_isPicture) := goodIn_app (goodIn_of _ (by decide +kernel)) ggX6_ahead_X6_isPicture
set_option maxRecDepth 20000 in
theorem ggX6_ahead_X6_refused : GoodIn wsX6_ahead wsX6_refused := goodIn_r _ [11, 12, 69, 70, 71, 72, 73, 74, 75, 76, 77, 78, 79, 80, 81, 82, 83, 84, 85, 86, 87, 88, 89, 90, 91, 92, 93, 94, 95, 96, 97] (by decide +kernel) (by decide +kernel)
set_option maxRecDepth 20000 in
theorem gX6_ahead_X6_refused : GoodIn wsX6_ahead (wsV RX6 83 RX6 yX6_refused wsX6_refused) := goodIn_app (goodIn_of _ (by decide +kernel)) ggX6_ahead_X6_refused
set_option maxRecDepth 20000 in
theorem ggX6_ahead_X6_tie : GoodIn wsX6_ahead wsX6_tie := goodIn_r _ [16, 17, 18, 19, 20, 21, 22, 23, 24, 25, 8, 9, 10, 5, 11, 12, 26, 27, 28, 29, 30, 31, 32, 33, 34, 35, 36, 37, 38, 39, 40, 41, 42, 43, 44, 45, 46, 47, 48, 49, 50, 51, 52, 53, 54, 55, 56, 57, 58, 59, 60, 61, 62, 63, 64, 65, 66, 67, 68, 69, 70, 71, 72, 73, 74, 75, 76, 77, 78, 79, 80, 81, 82, 83, 84, 85, 86, 87, 88, 89, 90, 91, 92, 93, 94, 95, 96, 97] (by decide +kernel) (by decide +kernel)
set_option maxRecDepth 20000 in
theorem gX6_ahead_X6_tie : GoodIn wsX6_ahead (wsV RX6 161 RX6 yX6_tie wsX6_tie) := goodIn_app (goodIn_of _ (by decide +kernel)) ggX6_ahead_X6_tie
theorem dX6_ahead_0 : decode cX6_ahead 0 = .ok (.aload_n 0, 1) := by decide +kernel
theorem dX6_ahead_1 : decode cX6_ahead 1 = .ok (.iconst 0, 1) := by decide +kernel
theorem dX6_ahead_2 : decode cX6_ahead 2 = .ok (.putfield 74, 3) := by decide +kernel
theorem dX6_ahead_5 : decode cX6_ahead 5 = .ok (.aload_n 0, 1) := by decide +kernel
theorem dX6_ahead_6 : decode cX6_ahead 6 = .ok (.iload_n 1, 1) := by decide +kernel
theorem dX6_ahead_7 : decode cX6_ahead 7 = .ok (.invokevirtual 158, 3) := by decide +kernel
theorem dX6_ahead_10 : decode cX6_ahead 10 = .ok (.ifCond .eq 11, 3) := by decide +kernel
theorem dX6_ahead_13 : decode cX6_ahead 13 = .ok (.aload_n 0, 1) := by decide +kernel
theorem dX6_ahead_14 : decode cX6_ahead 14 = .ok (.iload_n 2, 1) := by decide +kernel
theorem dX6_ahead_15 : decode cX6_ahead 15 = .ok (.invokevirtual 158, 3) := by decide +kernel
theorem dX6_ahead_18 : decode cX6_ahead 18 = .ok (.ifCond .ne 9, 3) := by decide +kernel
theorem dX6_ahead_21 : decode cX6_ahead 21 = .ok (.aload_n 0, 1) := by decide +kernel
theorem dX6_ahead_22 : decode cX6_ahead 22 = .ok (.iconst 1, 1) := by decide +kernel
theorem dX6_ahead_23 : decode cX6_ahead 23 = .ok (.invokevirtual 83, 3) := by decide +kernel
theorem dX6_ahead_26 : decode cX6_ahead 26 = .ok (.ireturn, 1) := by decide +kernel
theorem dX6_ahead_27 : decode cX6_ahead 27 = .ok (.aload_n 0, 1) := by decide +kernel
theorem dX6_ahead_28 : decode cX6_ahead 28 = .ok (.iconst 1, 1) := by decide +kernel
theorem dX6_ahead_29 : decode cX6_ahead 29 = .ok (.iload_n 1, 1) := by decide +kernel
theorem dX6_ahead_30 : decode cX6_ahead 30 = .ok (.iload_n 2, 1) := by decide +kernel
theorem dX6_ahead_31 : decode cX6_ahead 31 = .ok (.iconst 0, 1) := by decide +kernel
theorem dX6_ahead_32 : decode cX6_ahead 32 = .ok (.invokevirtual 161, 3) := by decide +kernel
theorem dX6_ahead_35 : decode cX6_ahead 35 = .ok (.ireturn, 1) := by decide +kernel
set_option maxRecDepth 20000 in
theorem ggX6_off_X6_isCamera : GoodIn wsX6_off wsX6_isCamera := goodIn_r _ [8, 9, 73, 74, 75, 76, 77, 78, 79, 80, 81, 82, 83, 84, 85, 86, 87, 88, 89, 90, 91, 92, 93, 94, 95, 96, 97, 98, 99, 100, 101] (by decide +kernel) (by decide +kernel)
set_option maxRecDepth 20000 in
theorem gX6_off_X6_isCamera : GoodIn wsX6_off (wsV RX6 111 RX6 yX6_isCamera wsX6_isCamera) := goodIn_app (goodIn_of _ (by decide +kernel)) ggX6_off_X6_isCamera
set_option maxRecDepth 20000 in
theorem ggX6_off_X6_refused : GoodIn wsX6_off wsX6_refused := goodIn_r _ [13, 14, 73, 74, 75, 76, 77, 78, 79, 80, 81, 82, 83, 84, 85, 86, 87, 88, 89, 90, 91, 92, 93, 94, 95, 96, 97, 98, 99, 100, 101] (by decide +kernel) (by decide +kernel)
set_option maxRecDepth 20000 in
theorem gX6_off_X6_refused : GoodIn wsX6_off (wsV RX6 83 RX6 yX6_refused wsX6_refused) := goodIn_app (goodIn_of _ (by decide +kernel)) ggX6_off_X6_refused
set_option maxRecDepth 20000 in
theorem ggX6_off_X6_in : GoodIn wsX6_off wsX6_in := goodIn_r _ [17] (by decide +kernel) (by decide +kernel)
set_option maxRecDepth 20000 in
theorem gX6_off_X6_in : GoodIn wsX6_off (va_wsS RX6 103 yX6_in wsX6_in) := goodIn_app (goodIn_of _ (by decide +kernel)) ggX6_off_X6_in
set_option maxRecDepth 20000 in
theorem ggX6_off_X6_tie : GoodIn wsX6_off wsX6_tie := goodIn_r _ [21, 22, 23, 24, 25, 26, 27, 28, 29, 30, 10, 11, 12, 7, 13, 14, 31, 32, 33, 34, 35, 36, 37, 38, 3, 39, 40, 41, 42, 43, 44, 45, 46, 47, 48, 49, 50, 51, 52, 53, 54, 55, 56, 57, 58, 59, 60, 61, 62, 63, 64, 65, 66, 67, 68, 69, 70, 71, 72, 73, 74, 75, 76, 77, 78, 79, 80, 81, 82, 83, 84, 85, 86, 87, 88, 89, 90, 91, 92, 93, 94, 95, 96, 97, 98, 99, 100, 101] (by decide +kernel) (by decide +kernel)
set_option maxRecDepth 20000 in
theorem gX6_off_X6_tie : GoodIn wsX6_off (wsV RX6 161 RX6 yX6_tie wsX6_tie) := goodIn_app (goodIn_of _ (by decide +kernel)) ggX6_off_X6_tie
theorem dX6_off_0 : decode cX6_off 0 = .ok (.aload_n 0, 1) := by decide +kernel
theorem dX6_off_1 : decode cX6_off 1 = .ok (.iconst 0, 1) := by decide +kernel
theorem dX6_off_2 : decode cX6_off 2 = .ok (.putfield 74, 3) := by decide +kernel
theorem dX6_off_5 : decode cX6_off 5 = .ok (.aload_n 0, 1) := by decide +kernel
theorem dX6_off_6 : decode cX6_off 6 = .ok (.iload_n 1, 1) := by decide +kernel
theorem dX6_off_7 : decode cX6_off 7 = .ok (.invokevirtual 111, 3) := by decide +kernel
theorem dX6_off_10 : decode cX6_off 10 = .ok (.ifCond .ne 9, 3) := by decide +kernel
theorem dX6_off_13 : decode cX6_off 13 = .ok (.aload_n 0, 1) := by decide +kernel
theorem dX6_off_14 : decode cX6_off 14 = .ok (.iconst 1, 1) := by decide +kernel
theorem dX6_off_15 : decode cX6_off 15 = .ok (.invokevirtual 83, 3) := by decide +kernel
theorem dX6_off_18 : decode cX6_off 18 = .ok (.ireturn, 1) := by decide +kernel
theorem dX6_off_19 : decode cX6_off 19 = .ok (.iload_n 2, 1) := by decide +kernel
theorem dX6_off_20 : decode cX6_off 20 = .ok (.ldc 165, 2) := by decide +kernel
theorem dX6_off_22 : decode cX6_off 22 = .ok (.iload_n 3, 1) := by decide +kernel
theorem dX6_off_23 : decode cX6_off 23 = .ok (.invokestatic 103, 3) := by decide +kernel
theorem dX6_off_26 : decode cX6_off 26 = .ok (.ifCond .eq 9, 3) := by decide +kernel
theorem dX6_off_29 : decode cX6_off 29 = .ok (.iload_n 3, 1) := by decide +kernel
theorem dX6_off_30 : decode cX6_off 30 = .ok (.ldc 126, 2) := by decide +kernel
theorem dX6_off_32 : decode cX6_off 32 = .ok (.if_icmp .le 9, 3) := by decide +kernel
theorem dX6_off_35 : decode cX6_off 35 = .ok (.aload_n 0, 1) := by decide +kernel
theorem dX6_off_36 : decode cX6_off 36 = .ok (.iconst 2, 1) := by decide +kernel
theorem dX6_off_37 : decode cX6_off 37 = .ok (.invokevirtual 83, 3) := by decide +kernel
theorem dX6_off_40 : decode cX6_off 40 = .ok (.ireturn, 1) := by decide +kernel
theorem dX6_off_41 : decode cX6_off 41 = .ok (.aload_n 0, 1) := by decide +kernel
theorem dX6_off_42 : decode cX6_off 42 = .ok (.iconst 2, 1) := by decide +kernel
theorem dX6_off_43 : decode cX6_off 43 = .ok (.iload_n 1, 1) := by decide +kernel
theorem dX6_off_44 : decode cX6_off 44 = .ok (.iload_n 2, 1) := by decide +kernel
theorem dX6_off_45 : decode cX6_off 45 = .ok (.iload_n 3, 1) := by decide +kernel
theorem dX6_off_46 : decode cX6_off 46 = .ok (.invokevirtual 161, 3) := by decide +kernel
theorem dX6_off_49 : decode cX6_off 49 = .ok (.ireturn, 1) := by decide +kernel
theorem dX6_quarrel_0 : decode cX6_quarrel 0 = .ok (.aload_n 0, 1) := by decide +kernel
theorem dX6_quarrel_1 : decode cX6_quarrel 1 = .ok (.iconst 0, 1) := by decide +kernel
theorem dX6_quarrel_2 : decode cX6_quarrel 2 = .ok (.putfield 74, 3) := by decide +kernel
theorem dX6_quarrel_5 : decode cX6_quarrel 5 = .ok (.aload_n 0, 1) := by decide +kernel
theorem dX6_quarrel_6 : decode cX6_quarrel 6 = .ok (.getfield 13, 3) := by decide +kernel
theorem dX6_quarrel_9 : decode cX6_quarrel 9 = .ok (.ireturn, 1) := by decide +kernel
theorem dX6_tieAt_0 : decode cX6_tieAt 0 = .ok (.iconst 0, 1) := by decide +kernel
theorem dX6_tieAt_1 : decode cX6_tieAt 1 = .ok (.istore_n 2, 1) := by decide +kernel
theorem dX6_tieAt_2 : decode cX6_tieAt 2 = .ok (.iload_n 2, 1) := by decide +kernel
theorem dX6_tieAt_3 : decode cX6_tieAt 3 = .ok (.aload_n 0, 1) := by decide +kernel
theorem dX6_tieAt_4 : decode cX6_tieAt 4 = .ok (.getfield 132, 3) := by decide +kernel
theorem dX6_tieAt_7 : decode cX6_tieAt 7 = .ok (.if_icmp .ge 19, 3) := by decide +kernel
theorem dX6_tieAt_10 : decode cX6_tieAt 10 = .ok (.aload_n 0, 1) := by decide +kernel
theorem dX6_tieAt_11 : decode cX6_tieAt 11 = .ok (.getfield 32, 3) := by decide +kernel
theorem dX6_tieAt_14 : decode cX6_tieAt 14 = .ok (.iload_n 2, 1) := by decide +kernel
theorem dX6_tieAt_15 : decode cX6_tieAt 15 = .ok (.iaload, 1) := by decide +kernel
theorem dX6_tieAt_16 : decode cX6_tieAt 16 = .ok (.iload_n 1, 1) := by decide +kernel
theorem dX6_tieAt_17 : decode cX6_tieAt 17 = .ok (.if_icmp .eq 9, 3) := by decide +kernel
theorem dX6_tieAt_20 : decode cX6_tieAt 20 = .ok (.iinc 2 1, 3) := by decide +kernel
theorem dX6_tieAt_23 : decode cX6_tieAt 23 = .ok (.goto (-21), 3) := by decide +kernel
theorem dX6_tieAt_26 : decode cX6_tieAt 26 = .ok (.iload_n 2, 1) := by decide +kernel
theorem dX6_tieAt_27 : decode cX6_tieAt 27 = .ok (.aload_n 0, 1) := by decide +kernel
theorem dX6_tieAt_28 : decode cX6_tieAt 28 = .ok (.getfield 132, 3) := by decide +kernel
theorem dX6_tieAt_31 : decode cX6_tieAt 31 = .ok (.if_icmp .ge 7, 3) := by decide +kernel
theorem dX6_tieAt_34 : decode cX6_tieAt 34 = .ok (.iload_n 2, 1) := by decide +kernel
theorem dX6_tieAt_35 : decode cX6_tieAt 35 = .ok (.goto 4, 3) := by decide +kernel
theorem dX6_tieAt_38 : decode cX6_tieAt 38 = .ok (.iconst (-1), 1) := by decide +kernel
theorem dX6_tieAt_39 : decode cX6_tieAt 39 = .ok (.ireturn, 1) := by decide +kernel
set_option maxRecDepth 20000 in
theorem ggX6_untie_X6_tieAt : GoodIn wsX6_untie wsX6_tieAt := goodIn_r _ [12, 2, 3, 22, 23, 24, 25, 26, 27, 28, 29, 30, 31, 32, 33, 34, 35, 36, 37, 38, 39, 40, 41, 42, 43, 44, 45, 46, 47, 48, 49, 50] (by decide +kernel) (by decide +kernel)
set_option maxRecDepth 20000 in
theorem gX6_untie_X6_tieAt : GoodIn wsX6_untie (wsV RX6 166 RX6 yX6_tieAt wsX6_tieAt) := goodIn_app (goodIn_of _ (by decide +kernel)) ggX6_untie_X6_tieAt
set_option maxRecDepth 20000 in
theorem ggX6_untie_X6_denied : GoodIn wsX6_untie wsX6_denied := goodIn_r _ [16, 17, 22, 23, 24, 25, 26, 27, 28, 29, 30, 31, 32, 33, 34, 35, 36, 37, 38, 39, 40, 41, 42, 43, 44, 45, 46, 47, 48, 49, 50] (by decide +kernel) (by decide +kernel)
set_option maxRecDepth 20000 in
theorem gX6_untie_X6_denied : GoodIn wsX6_untie (wsV RX6 100 RX6 yX6_denied wsX6_denied) := goodIn_app (goodIn_of _ (by decide +kernel)) ggX6_untie_X6_denied
set_option maxRecDepth 20000 in
theorem ggX6_untie_X6_granted : GoodIn wsX6_untie wsX6_granted := goodIn_r _ [21, 17, 22, 23, 24, 25, 26, 27, 28, 29, 30, 31, 32, 33, 34, 35, 36, 37, 38, 39, 40, 41, 42, 43, 44, 45, 46, 47, 48, 49, 50] (by decide +kernel) (by decide +kernel)
set_option maxRecDepth 20000 in
theorem gX6_untie_X6_granted : GoodIn wsX6_untie (wsV RX6 107 RX6 yX6_granted wsX6_granted) := goodIn_app (goodIn_of _ (by decide +kernel)) ggX6_untie_X6_granted
theorem dX6_untie_0 : decode cX6_untie 0 = .ok (.aload_n 0, 1) := by decide +kernel
theorem dX6_untie_1 : decode cX6_untie 1 = .ok (.iconst 0, 1) := by decide +kernel
theorem dX6_untie_2 : decode cX6_untie 2 = .ok (.putfield 74, 3) := by decide +kernel
theorem dX6_untie_5 : decode cX6_untie 5 = .ok (.aload_n 0, 1) := by decide +kernel
theorem dX6_untie_6 : decode cX6_untie 6 = .ok (.iload_n 1, 1) := by decide +kernel
theorem dX6_untie_7 : decode cX6_untie 7 = .ok (.invokevirtual 166, 3) := by decide +kernel
theorem dX6_untie_10 : decode cX6_untie 10 = .ok (.istore_n 2, 1) := by decide +kernel
theorem dX6_untie_11 : decode cX6_untie 11 = .ok (.iload_n 2, 1) := by decide +kernel
theorem dX6_untie_12 : decode cX6_untie 12 = .ok (.iconst (-1), 1) := by decide +kernel
theorem dX6_untie_13 : decode cX6_untie 13 = .ok (.if_icmp .ne 9, 3) := by decide +kernel
theorem dX6_untie_16 : decode cX6_untie 16 = .ok (.aload_n 0, 1) := by decide +kernel
theorem dX6_untie_17 : decode cX6_untie 17 = .ok (.iconst 1, 1) := by decide +kernel
theorem dX6_untie_18 : decode cX6_untie 18 = .ok (.invokevirtual 100, 3) := by decide +kernel
theorem dX6_untie_21 : decode cX6_untie 21 = .ok (.ireturn, 1) := by decide +kernel
theorem dX6_untie_22 : decode cX6_untie 22 = .ok (.aload_n 0, 1) := by decide +kernel
theorem dX6_untie_23 : decode cX6_untie 23 = .ok (.dup, 1) := by decide +kernel
theorem dX6_untie_24 : decode cX6_untie 24 = .ok (.getfield 132, 3) := by decide +kernel
theorem dX6_untie_27 : decode cX6_untie 27 = .ok (.iconst 1, 1) := by decide +kernel
theorem dX6_untie_28 : decode cX6_untie 28 = .ok (.isub, 1) := by decide +kernel
theorem dX6_untie_29 : decode cX6_untie 29 = .ok (.putfield 132, 3) := by decide +kernel
theorem dX6_untie_32 : decode cX6_untie 32 = .ok (.iload_n 2, 1) := by decide +kernel
theorem dX6_untie_33 : decode cX6_untie 33 = .ok (.aload_n 0, 1) := by decide +kernel
theorem dX6_untie_34 : decode cX6_untie 34 = .ok (.getfield 132, 3) := by decide +kernel
theorem dX6_untie_37 : decode cX6_untie 37 = .ok (.if_icmp .ge 79, 3) := by decide +kernel
theorem dX6_untie_40 : decode cX6_untie 40 = .ok (.aload_n 0, 1) := by decide +kernel
theorem dX6_untie_41 : decode cX6_untie 41 = .ok (.getfield 32, 3) := by decide +kernel
theorem dX6_untie_44 : decode cX6_untie 44 = .ok (.iload_n 2, 1) := by decide +kernel
theorem dX6_untie_45 : decode cX6_untie 45 = .ok (.aload_n 0, 1) := by decide +kernel
theorem dX6_untie_46 : decode cX6_untie 46 = .ok (.getfield 32, 3) := by decide +kernel
theorem dX6_untie_49 : decode cX6_untie 49 = .ok (.iload_n 2, 1) := by decide +kernel
theorem dX6_untie_50 : decode cX6_untie 50 = .ok (.iconst 1, 1) := by decide +kernel
theorem dX6_untie_51 : decode cX6_untie 51 = .ok (.iadd, 1) := by decide +kernel
theorem dX6_untie_52 : decode cX6_untie 52 = .ok (.iaload, 1) := by decide +kernel
theorem dX6_untie_53 : decode cX6_untie 53 = .ok (.iastore, 1) := by decide +kernel
theorem dX6_untie_54 : decode cX6_untie 54 = .ok (.aload_n 0, 1) := by decide +kernel
theorem dX6_untie_55 : decode cX6_untie 55 = .ok (.getfield 35, 3) := by decide +kernel
theorem dX6_untie_58 : decode cX6_untie 58 = .ok (.iload_n 2, 1) := by decide +kernel
theorem dX6_untie_59 : decode cX6_untie 59 = .ok (.aload_n 0, 1) := by decide +kernel
theorem dX6_untie_60 : decode cX6_untie 60 = .ok (.getfield 35, 3) := by decide +kernel
theorem dX6_untie_63 : decode cX6_untie 63 = .ok (.iload_n 2, 1) := by decide +kernel
theorem dX6_untie_64 : decode cX6_untie 64 = .ok (.iconst 1, 1) := by decide +kernel
theorem dX6_untie_65 : decode cX6_untie 65 = .ok (.iadd, 1) := by decide +kernel
theorem dX6_untie_66 : decode cX6_untie 66 = .ok (.iaload, 1) := by decide +kernel
theorem dX6_untie_67 : decode cX6_untie 67 = .ok (.iastore, 1) := by decide +kernel
theorem dX6_untie_68 : decode cX6_untie 68 = .ok (.aload_n 0, 1) := by decide +kernel
theorem dX6_untie_69 : decode cX6_untie 69 = .ok (.getfield 38, 3) := by decide +kernel
theorem dX6_untie_72 : decode cX6_untie 72 = .ok (.iload_n 2, 1) := by decide +kernel
theorem dX6_untie_73 : decode cX6_untie 73 = .ok (.aload_n 0, 1) := by decide +kernel
theorem dX6_untie_74 : decode cX6_untie 74 = .ok (.getfield 38, 3) := by decide +kernel
theorem dX6_untie_77 : decode cX6_untie 77 = .ok (.iload_n 2, 1) := by decide +kernel
theorem dX6_untie_78 : decode cX6_untie 78 = .ok (.iconst 1, 1) := by decide +kernel
theorem dX6_untie_79 : decode cX6_untie 79 = .ok (.iadd, 1) := by decide +kernel
theorem dX6_untie_80 : decode cX6_untie 80 = .ok (.iaload, 1) := by decide +kernel
theorem dX6_untie_81 : decode cX6_untie 81 = .ok (.iastore, 1) := by decide +kernel
theorem dX6_untie_82 : decode cX6_untie 82 = .ok (.aload_n 0, 1) := by decide +kernel
theorem dX6_untie_83 : decode cX6_untie 83 = .ok (.getfield 41, 3) := by decide +kernel
theorem dX6_untie_86 : decode cX6_untie 86 = .ok (.iload_n 2, 1) := by decide +kernel
theorem dX6_untie_87 : decode cX6_untie 87 = .ok (.aload_n 0, 1) := by decide +kernel
theorem dX6_untie_88 : decode cX6_untie 88 = .ok (.getfield 41, 3) := by decide +kernel
theorem dX6_untie_91 : decode cX6_untie 91 = .ok (.iload_n 2, 1) := by decide +kernel
theorem dX6_untie_92 : decode cX6_untie 92 = .ok (.iconst 1, 1) := by decide +kernel
theorem dX6_untie_93 : decode cX6_untie 93 = .ok (.iadd, 1) := by decide +kernel
theorem dX6_untie_94 : decode cX6_untie 94 = .ok (.iaload, 1) := by decide +kernel
theorem dX6_untie_95 : decode cX6_untie 95 = .ok (.iastore, 1) := by decide +kernel
theorem dX6_untie_96 : decode cX6_untie 96 = .ok (.aload_n 0, 1) := by decide +kernel
theorem dX6_untie_97 : decode cX6_untie 97 = .ok (.getfield 44, 3) := by decide +kernel
theorem dX6_untie_100 : decode cX6_untie 100 = .ok (.iload_n 2, 1) := by decide +kernel
theorem dX6_untie_101 : decode cX6_untie 101 = .ok (.aload_n 0, 1) := by decide +kernel
theorem dX6_untie_102 : decode cX6_untie 102 = .ok (.getfield 44, 3) := by decide +kernel
theorem dX6_untie_105 : decode cX6_untie 105 = .ok (.iload_n 2, 1) := by decide +kernel
theorem dX6_untie_106 : decode cX6_untie 106 = .ok (.iconst 1, 1) := by decide +kernel
theorem dX6_untie_107 : decode cX6_untie 107 = .ok (.iadd, 1) := by decide +kernel
theorem dX6_untie_108 : decode cX6_untie 108 = .ok (.iaload, 1) := by decide +kernel
theorem dX6_untie_109 : decode cX6_untie 109 = .ok (.iastore, 1) := by decide +kernel
theorem dX6_untie_110 : decode cX6_untie 110 = .ok (.iinc 2 1, 3) := by decide +kernel
theorem dX6_untie_113 : decode cX6_untie 113 = .ok (.goto (-81), 3) := by decide +kernel
theorem dX6_untie_116 : decode cX6_untie 116 = .ok (.aload_n 0, 1) := by decide +kernel
theorem dX6_untie_117 : decode cX6_untie 117 = .ok (.invokevirtual 107, 3) := by decide +kernel
theorem dX6_untie_120 : decode cX6_untie 120 = .ok (.ireturn, 1) := by decide +kernel
theorem dX6_hasPicture_0 : decode cX6_hasPicture 0 = .ok (.iconst 0, 1) := by decide +kernel
theorem dX6_hasPicture_1 : decode cX6_hasPicture 1 = .ok (.istore_n 2, 1) := by decide +kernel
theorem dX6_hasPicture_2 : decode cX6_hasPicture 2 = .ok (.iconst 0, 1) := by decide +kernel
theorem dX6_hasPicture_3 : decode cX6_hasPicture 3 = .ok (.istore_n 3, 1) := by decide +kernel
theorem dX6_hasPicture_4 : decode cX6_hasPicture 4 = .ok (.iload_n 3, 1) := by decide +kernel
theorem dX6_hasPicture_5 : decode cX6_hasPicture 5 = .ok (.aload_n 0, 1) := by decide +kernel
theorem dX6_hasPicture_6 : decode cX6_hasPicture 6 = .ok (.getfield 93, 3) := by decide +kernel
theorem dX6_hasPicture_9 : decode cX6_hasPicture 9 = .ok (.if_icmp .ge 29, 3) := by decide +kernel
theorem dX6_hasPicture_12 : decode cX6_hasPicture 12 = .ok (.iload_n 2, 1) := by decide +kernel
theorem dX6_hasPicture_13 : decode cX6_hasPicture 13 = .ok (.ifCond .ne 13, 3) := by decide +kernel
theorem dX6_hasPicture_16 : decode cX6_hasPicture 16 = .ok (.aload_n 0, 1) := by decide +kernel
theorem dX6_hasPicture_17 : decode cX6_hasPicture 17 = .ok (.getfield 20, 3) := by decide +kernel
theorem dX6_hasPicture_20 : decode cX6_hasPicture 20 = .ok (.iload_n 3, 1) := by decide +kernel
theorem dX6_hasPicture_21 : decode cX6_hasPicture 21 = .ok (.iaload, 1) := by decide +kernel
theorem dX6_hasPicture_22 : decode cX6_hasPicture 22 = .ok (.iload_n 1, 1) := by decide +kernel
theorem dX6_hasPicture_23 : decode cX6_hasPicture 23 = .ok (.if_icmp .ne 7, 3) := by decide +kernel
theorem dX6_hasPicture_26 : decode cX6_hasPicture 26 = .ok (.iconst 1, 1) := by decide +kernel
theorem dX6_hasPicture_27 : decode cX6_hasPicture 27 = .ok (.goto 4, 3) := by decide +kernel
theorem dX6_hasPicture_30 : decode cX6_hasPicture 30 = .ok (.iconst 0, 1) := by decide +kernel
theorem dX6_hasPicture_31 : decode cX6_hasPicture 31 = .ok (.istore_n 2, 1) := by decide +kernel
theorem dX6_hasPicture_32 : decode cX6_hasPicture 32 = .ok (.iinc 3 1, 3) := by decide +kernel
theorem dX6_hasPicture_35 : decode cX6_hasPicture 35 = .ok (.goto (-31), 3) := by decide +kernel
theorem dX6_hasPicture_38 : decode cX6_hasPicture 38 = .ok (.iload_n 2, 1) := by decide +kernel
theorem dX6_hasPicture_39 : decode cX6_hasPicture 39 = .ok (.ireturn, 1) := by decide +kernel
set_option maxRecDepth 20000 in
theorem ggX6_idle_X6_tieAt : GoodIn wsX6_idle wsX6_tieAt := goodIn_r _ [9, 10, 11, 56, 57, 58, 59, 60, 61, 62, 63, 64, 65, 66, 67, 68, 69, 70, 71, 72, 73, 74, 75, 76, 77, 78, 79, 80, 81, 82, 83, 84] (by decide +kernel) (by decide +kernel)
set_option maxRecDepth 20000 in
theorem gX6_idle_X6_tieAt : GoodIn wsX6_idle (wsV RX6 166 RX6 yX6_tieAt wsX6_tieAt) := goodIn_app (goodIn_of _ (by decide +kernel)) ggX6_idle_X6_tieAt
set_option maxRecDepth 20000 in
theorem ggX6_idle_X6_refused : GoodIn wsX6_idle wsX6_refused := goodIn_r _ [15, 16, 56, 57, 58, 59, 60, 61, 62, 63, 64, 65, 66, 67, 68, 69, 70, 71, 72, 73, 74, 75, 76, 77, 78, 79, 80, 81, 82, 83, 84] (by decide +kernel) (by decide +kernel)
set_option maxRecDepth 20000 in
theorem gX6_idle_X6_refused : GoodIn wsX6_idle (wsV RX6 83 RX6 yX6_refused wsX6_refused) := goodIn_app (goodIn_of _ (by decide +kernel)) ggX6_idle_X6_refused
set_option maxRecDepth 20000 in
theorem ggX6_idle_X6_closed : GoodIn wsX6_idle wsX6_closed := goodIn_r _ [20, 10, 21, 22, 23, 8, 24, 25, 26, 27, 28, 29, 30, 31, 32, 33, 34, 35, 36, 37, 38, 39, 40, 41, 42, 43, 44, 45, 46, 56, 57, 58, 59, 60, 61, 62, 63, 64, 65, 66, 67, 68, 69, 70, 71, 72, 73, 74, 75, 76, 77, 78, 79, 80, 81, 82, 83, 84] (by decide +kernel) (by decide +kernel)
set_option maxRecDepth 20000 in
theorem gX6_idle_X6_closed : GoodIn wsX6_idle (wsV RX6 147 RX6 yX6_closed wsX6_closed) := goodIn_app (goodIn_of _ (by decide +kernel)) ggX6_idle_X6_closed
set_option maxRecDepth 20000 in
theorem ggX6_idle_X6_hasPicture : GoodIn wsX6_idle wsX6_hasPicture := goodIn_r _ [50, 51, 32, 56, 57, 58, 59, 60, 61, 62, 63, 64, 65, 66, 67, 68, 69, 70, 71, 72, 73, 74, 75, 76, 77, 78, 79, 80, 81, 82, 83, 84] (by decide +kernel) (by decide +kernel)
set_option maxRecDepth 20000 in
theorem gX6_idle_X6_hasPicture : GoodIn wsX6_idle (wsV RX6 169 RX6 yX6_hasPicture wsX6_hasPicture) := goodIn_app (goodIn_of _ (by decide +kernel)) ggX6_idle_X6_hasPicture
set_option maxRecDepth 20000 in
theorem ggX6_idle_X6_done : GoodIn wsX6_idle wsX6_done := goodIn_r _ [55, 16, 56, 57, 58, 59, 60, 61, 62, 63, 64, 65, 66, 67, 68, 69, 70, 71, 72, 73, 74, 75, 76, 77, 78, 79, 80, 81, 82, 83, 84] (by decide +kernel) (by decide +kernel)
set_option maxRecDepth 20000 in
theorem gX6_idle_X6_done : GoodIn wsX6_idle (wsV RX6 87 RX6 yX6_done wsX6_done) := goodIn_app (goodIn_of _ (by decide +kernel)) ggX6_idle_X6_done
theorem dX6_idle_0 : decode cX6_idle 0 = .ok (.aload_n 0, 1) := by decide +kernel
theorem dX6_idle_1 : decode cX6_idle 1 = .ok (.iconst 0, 1) := by decide +kernel
theorem dX6_idle_2 : decode cX6_idle 2 = .ok (.putfield 74, 3) := by decide +kernel
theorem dX6_idle_5 : decode cX6_idle 5 = .ok (.aload_n 0, 1) := by decide +kernel
theorem dX6_idle_6 : decode cX6_idle 6 = .ok (.iload_n 1, 1) := by decide +kernel
theorem dX6_idle_7 : decode cX6_idle 7 = .ok (.invokevirtual 166, 3) := by decide +kernel
theorem dX6_idle_10 : decode cX6_idle 10 = .ok (.istore_n 2, 1) := by decide +kernel
theorem dX6_idle_11 : decode cX6_idle 11 = .ok (.iload_n 2, 1) := by decide +kernel
theorem dX6_idle_12 : decode cX6_idle 12 = .ok (.iconst (-1), 1) := by decide +kernel
theorem dX6_idle_13 : decode cX6_idle 13 = .ok (.if_icmp .ne 9, 3) := by decide +kernel
theorem dX6_idle_16 : decode cX6_idle 16 = .ok (.aload_n 0, 1) := by decide +kernel
theorem dX6_idle_17 : decode cX6_idle 17 = .ok (.iconst 1, 1) := by decide +kernel
theorem dX6_idle_18 : decode cX6_idle 18 = .ok (.invokevirtual 83, 3) := by decide +kernel
theorem dX6_idle_21 : decode cX6_idle 21 = .ok (.ireturn, 1) := by decide +kernel
theorem dX6_idle_22 : decode cX6_idle 22 = .ok (.aload_n 0, 1) := by decide +kernel
theorem dX6_idle_23 : decode cX6_idle 23 = .ok (.aload_n 0, 1) := by decide +kernel
theorem dX6_idle_24 : decode cX6_idle 24 = .ok (.getfield 47, 3) := by decide +kernel
theorem dX6_idle_27 : decode cX6_idle 27 = .ok (.iconst (-1), 1) := by decide +kernel
theorem dX6_idle_28 : decode cX6_idle 28 = .ok (.invokevirtual 147, 3) := by decide +kernel
theorem dX6_idle_31 : decode cX6_idle 31 = .ok (.ifCond .eq 19, 3) := by decide +kernel
theorem dX6_idle_34 : decode cX6_idle 34 = .ok (.aload_n 0, 1) := by decide +kernel
theorem dX6_idle_35 : decode cX6_idle 35 = .ok (.aload_n 0, 1) := by decide +kernel
theorem dX6_idle_36 : decode cX6_idle 36 = .ok (.getfield 50, 3) := by decide +kernel
theorem dX6_idle_39 : decode cX6_idle 39 = .ok (.iload_n 2, 1) := by decide +kernel
theorem dX6_idle_40 : decode cX6_idle 40 = .ok (.invokevirtual 147, 3) := by decide +kernel
theorem dX6_idle_43 : decode cX6_idle 43 = .ok (.ifCond .eq 7, 3) := by decide +kernel
theorem dX6_idle_46 : decode cX6_idle 46 = .ok (.iconst 1, 1) := by decide +kernel
theorem dX6_idle_47 : decode cX6_idle 47 = .ok (.goto 4, 3) := by decide +kernel
theorem dX6_idle_50 : decode cX6_idle 50 = .ok (.iconst 0, 1) := by decide +kernel
theorem dX6_idle_51 : decode cX6_idle 51 = .ok (.istore_n 3, 1) := by decide +kernel
theorem dX6_idle_52 : decode cX6_idle 52 = .ok (.iconst 1, 1) := by decide +kernel
theorem dX6_idle_53 : decode cX6_idle 53 = .ok (.istore 4, 2) := by decide +kernel
theorem dX6_idle_55 : decode cX6_idle 55 = .ok (.iconst 0, 1) := by decide +kernel
theorem dX6_idle_56 : decode cX6_idle 56 = .ok (.istore 5, 2) := by decide +kernel
theorem dX6_idle_58 : decode cX6_idle 58 = .ok (.iload 5, 2) := by decide +kernel
theorem dX6_idle_60 : decode cX6_idle 60 = .ok (.aload_n 0, 1) := by decide +kernel
theorem dX6_idle_61 : decode cX6_idle 61 = .ok (.getfield 80, 3) := by decide +kernel
theorem dX6_idle_64 : decode cX6_idle 64 = .ok (.if_icmp .ge 99, 3) := by decide +kernel
theorem dX6_idle_67 : decode cX6_idle 67 = .ok (.iconst 0, 1) := by decide +kernel
theorem dX6_idle_68 : decode cX6_idle 68 = .ok (.istore 6, 2) := by decide +kernel
theorem dX6_idle_70 : decode cX6_idle 70 = .ok (.iload 6, 2) := by decide +kernel
theorem dX6_idle_72 : decode cX6_idle 72 = .ok (.aload_n 0, 1) := by decide +kernel
theorem dX6_idle_73 : decode cX6_idle 73 = .ok (.getfield 80, 3) := by decide +kernel
theorem dX6_idle_76 : decode cX6_idle 76 = .ok (.if_icmp .ge 81, 3) := by decide +kernel
theorem dX6_idle_79 : decode cX6_idle 79 = .ok (.iload 5, 2) := by decide +kernel
theorem dX6_idle_81 : decode cX6_idle 81 = .ok (.ifCond .eq 29, 3) := by decide +kernel
theorem dX6_idle_84 : decode cX6_idle 84 = .ok (.iload 6, 2) := by decide +kernel
theorem dX6_idle_86 : decode cX6_idle 86 = .ok (.ifCond .eq 24, 3) := by decide +kernel
theorem dX6_idle_89 : decode cX6_idle 89 = .ok (.aload_n 0, 1) := by decide +kernel
theorem dX6_idle_90 : decode cX6_idle 90 = .ok (.iload 5, 2) := by decide +kernel
theorem dX6_idle_92 : decode cX6_idle 92 = .ok (.invokevirtual 169, 3) := by decide +kernel
theorem dX6_idle_95 : decode cX6_idle 95 = .ok (.ifCond .eq 56, 3) := by decide +kernel
theorem dX6_idle_98 : decode cX6_idle 98 = .ok (.aload_n 0, 1) := by decide +kernel
theorem dX6_idle_99 : decode cX6_idle 99 = .ok (.iload 6, 2) := by decide +kernel
theorem dX6_idle_101 : decode cX6_idle 101 = .ok (.invokevirtual 169, 3) := by decide +kernel
theorem dX6_idle_104 : decode cX6_idle 104 = .ok (.ifCond .ne 6, 3) := by decide +kernel
theorem dX6_idle_107 : decode cX6_idle 107 = .ok (.goto 44, 3) := by decide +kernel
theorem dX6_idle_110 : decode cX6_idle 110 = .ok (.iload 4, 2) := by decide +kernel
theorem dX6_idle_112 : decode cX6_idle 112 = .ok (.ifCond .eq 36, 3) := by decide +kernel
theorem dX6_idle_115 : decode cX6_idle 115 = .ok (.aload_n 0, 1) := by decide +kernel
theorem dX6_idle_116 : decode cX6_idle 116 = .ok (.getfield 47, 3) := by decide +kernel
theorem dX6_idle_119 : decode cX6_idle 119 = .ok (.bipush 8, 2) := by decide +kernel
theorem dX6_idle_121 : decode cX6_idle 121 = .ok (.iload 5, 2) := by decide +kernel
theorem dX6_idle_123 : decode cX6_idle 123 = .ok (.imul, 1) := by decide +kernel
theorem dX6_idle_124 : decode cX6_idle 124 = .ok (.iload 6, 2) := by decide +kernel
theorem dX6_idle_126 : decode cX6_idle 126 = .ok (.iadd, 1) := by decide +kernel
theorem dX6_idle_127 : decode cX6_idle 127 = .ok (.iaload, 1) := by decide +kernel
theorem dX6_idle_128 : decode cX6_idle 128 = .ok (.aload_n 0, 1) := by decide +kernel
theorem dX6_idle_129 : decode cX6_idle 129 = .ok (.getfield 50, 3) := by decide +kernel
theorem dX6_idle_132 : decode cX6_idle 132 = .ok (.bipush 8, 2) := by decide +kernel
theorem dX6_idle_134 : decode cX6_idle 134 = .ok (.iload 5, 2) := by decide +kernel
theorem dX6_idle_136 : decode cX6_idle 136 = .ok (.imul, 1) := by decide +kernel
theorem dX6_idle_137 : decode cX6_idle 137 = .ok (.iload 6, 2) := by decide +kernel
theorem dX6_idle_139 : decode cX6_idle 139 = .ok (.iadd, 1) := by decide +kernel
theorem dX6_idle_140 : decode cX6_idle 140 = .ok (.iaload, 1) := by decide +kernel
theorem dX6_idle_141 : decode cX6_idle 141 = .ok (.if_icmp .ne 7, 3) := by decide +kernel
theorem dX6_idle_144 : decode cX6_idle 144 = .ok (.iconst 1, 1) := by decide +kernel
theorem dX6_idle_145 : decode cX6_idle 145 = .ok (.goto 4, 3) := by decide +kernel
theorem dX6_idle_148 : decode cX6_idle 148 = .ok (.iconst 0, 1) := by decide +kernel
theorem dX6_idle_149 : decode cX6_idle 149 = .ok (.istore 4, 2) := by decide +kernel
theorem dX6_idle_151 : decode cX6_idle 151 = .ok (.iinc 6 1, 3) := by decide +kernel
theorem dX6_idle_154 : decode cX6_idle 154 = .ok (.goto (-84), 3) := by decide +kernel
theorem dX6_idle_157 : decode cX6_idle 157 = .ok (.iinc 5 1, 3) := by decide +kernel
theorem dX6_idle_160 : decode cX6_idle 160 = .ok (.goto (-102), 3) := by decide +kernel
theorem dX6_idle_163 : decode cX6_idle 163 = .ok (.aload_n 0, 1) := by decide +kernel
theorem dX6_idle_164 : decode cX6_idle 164 = .ok (.iload 4, 2) := by decide +kernel
theorem dX6_idle_166 : decode cX6_idle 166 = .ok (.ifCond .eq 7, 3) := by decide +kernel
theorem dX6_idle_169 : decode cX6_idle 169 = .ok (.iconst 1, 1) := by decide +kernel
theorem dX6_idle_170 : decode cX6_idle 170 = .ok (.goto 4, 3) := by decide +kernel
theorem dX6_idle_173 : decode cX6_idle 173 = .ok (.iconst 0, 1) := by decide +kernel
theorem dX6_idle_174 : decode cX6_idle 174 = .ok (.invokevirtual 87, 3) := by decide +kernel
theorem dX6_idle_177 : decode cX6_idle 177 = .ok (.ireturn, 1) := by decide +kernel
set_option maxRecDepth 20000 in
theorem ggX6_range_X6_isCamera : GoodIn wsX6_range wsX6_isCamera := goodIn_r _ [8, 9, 41, 42, 43, 44, 45, 46, 47, 48, 49, 50, 51, 52, 53, 54, 55, 56, 57, 58, 59, 60, 61, 62, 63, 64, 65, 66, 67, 68, 69] (by decide +kernel) (by decide +kernel)
set_option maxRecDepth 20000 in
theorem gX6_range_X6_isCamera : GoodIn wsX6_range (wsV RX6 111 RX6 yX6_isCamera wsX6_isCamera) := goodIn_app (goodIn_of _ (by decide +kernel)) ggX6_range_X6_isCamera
set_option maxRecDepth 20000 in
theorem ggX6_range_X6_closed : GoodIn wsX6_range wsX6_closed := goodIn_r _ [13, 14, 15, 16, 17, 7, 18, 19, 20, 21, 22, 23, 24, 25, 26, 27, 28, 29, 30, 31, 32, 33, 34, 35, 36, 37, 38, 39, 40, 41, 42, 43, 44, 45, 46, 47, 48, 49, 50, 51, 52, 53, 54, 55, 56, 57, 58, 59, 60, 61, 62, 63, 64, 65, 66, 67, 68, 69] (by decide +kernel) (by decide +kernel)
set_option maxRecDepth 20000 in
theorem gX6_range_X6_closed : GoodIn wsX6_range (wsV RX6 147 RX6 yX6_closed wsX6_closed) := goodIn_app (goodIn_of _ (by decide +kernel)) ggX6_range_X6_closed
theorem dX6_range_0 : decode cX6_range 0 = .ok (.aload_n 0, 1) := by decide +kernel
theorem dX6_range_1 : decode cX6_range 1 = .ok (.iconst 0, 1) := by decide +kernel
theorem dX6_range_2 : decode cX6_range 2 = .ok (.putfield 74, 3) := by decide +kernel
theorem dX6_range_5 : decode cX6_range 5 = .ok (.aload_n 0, 1) := by decide +kernel
theorem dX6_range_6 : decode cX6_range 6 = .ok (.iload_n 1, 1) := by decide +kernel
theorem dX6_range_7 : decode cX6_range 7 = .ok (.invokevirtual 111, 3) := by decide +kernel
theorem dX6_range_10 : decode cX6_range 10 = .ok (.ifCond .ne 6, 3) := by decide +kernel
theorem dX6_range_13 : decode cX6_range 13 = .ok (.ldc 172, 2) := by decide +kernel
theorem dX6_range_15 : decode cX6_range 15 = .ok (.ireturn, 1) := by decide +kernel
theorem dX6_range_16 : decode cX6_range 16 = .ok (.aload_n 0, 1) := by decide +kernel
theorem dX6_range_17 : decode cX6_range 17 = .ok (.aload_n 0, 1) := by decide +kernel
theorem dX6_range_18 : decode cX6_range 18 = .ok (.getfield 47, 3) := by decide +kernel
theorem dX6_range_21 : decode cX6_range 21 = .ok (.iconst (-1), 1) := by decide +kernel
theorem dX6_range_22 : decode cX6_range 22 = .ok (.invokevirtual 147, 3) := by decide +kernel
theorem dX6_range_25 : decode cX6_range 25 = .ok (.istore_n 3, 1) := by decide +kernel
theorem dX6_range_26 : decode cX6_range 26 = .ok (.iload_n 2, 1) := by decide +kernel
theorem dX6_range_27 : decode cX6_range 27 = .ok (.ifCond .eq 15, 3) := by decide +kernel
theorem dX6_range_30 : decode cX6_range 30 = .ok (.aload_n 0, 1) := by decide +kernel
theorem dX6_range_31 : decode cX6_range 31 = .ok (.getfield 47, 3) := by decide +kernel
theorem dX6_range_34 : decode cX6_range 34 = .ok (.bipush 8, 2) := by decide +kernel
theorem dX6_range_36 : decode cX6_range 36 = .ok (.iload_n 1, 1) := by decide +kernel
theorem dX6_range_37 : decode cX6_range 37 = .ok (.imul, 1) := by decide +kernel
theorem dX6_range_38 : decode cX6_range 38 = .ok (.iaload, 1) := by decide +kernel
theorem dX6_range_39 : decode cX6_range 39 = .ok (.goto 10, 3) := by decide +kernel
theorem dX6_range_42 : decode cX6_range 42 = .ok (.aload_n 0, 1) := by decide +kernel
theorem dX6_range_43 : decode cX6_range 43 = .ok (.getfield 47, 3) := by decide +kernel
theorem dX6_range_46 : decode cX6_range 46 = .ok (.iload_n 1, 1) := by decide +kernel
theorem dX6_range_47 : decode cX6_range 47 = .ok (.iaload, 1) := by decide +kernel
theorem dX6_range_48 : decode cX6_range 48 = .ok (.ineg, 1) := by decide +kernel
theorem dX6_range_49 : decode cX6_range 49 = .ok (.ireturn, 1) := by decide +kernel
theorem dX6_mostOf_0 : decode cX6_mostOf 0 = .ok (.aload_n 0, 1) := by decide +kernel
theorem dX6_mostOf_1 : decode cX6_mostOf 1 = .ok (.getfield 23, 3) := by decide +kernel
theorem dX6_mostOf_4 : decode cX6_mostOf 4 = .ok (.iload_n 2, 1) := by decide +kernel
theorem dX6_mostOf_5 : decode cX6_mostOf 5 = .ok (.iaload, 1) := by decide +kernel
theorem dX6_mostOf_6 : decode cX6_mostOf 6 = .ok (.aload_n 0, 1) := by decide +kernel
theorem dX6_mostOf_7 : decode cX6_mostOf 7 = .ok (.getfield 23, 3) := by decide +kernel
theorem dX6_mostOf_10 : decode cX6_mostOf 10 = .ok (.iload_n 1, 1) := by decide +kernel
theorem dX6_mostOf_11 : decode cX6_mostOf 11 = .ok (.iaload, 1) := by decide +kernel
theorem dX6_mostOf_12 : decode cX6_mostOf 12 = .ok (.isub, 1) := by decide +kernel
theorem dX6_mostOf_13 : decode cX6_mostOf 13 = .ok (.aload_n 0, 1) := by decide +kernel
theorem dX6_mostOf_14 : decode cX6_mostOf 14 = .ok (.getfield 47, 3) := by decide +kernel
theorem dX6_mostOf_17 : decode cX6_mostOf 17 = .ok (.bipush 8, 2) := by decide +kernel
theorem dX6_mostOf_19 : decode cX6_mostOf 19 = .ok (.aload_n 0, 1) := by decide +kernel
theorem dX6_mostOf_20 : decode cX6_mostOf 20 = .ok (.getfield 20, 3) := by decide +kernel
theorem dX6_mostOf_23 : decode cX6_mostOf 23 = .ok (.iload_n 2, 1) := by decide +kernel
theorem dX6_mostOf_24 : decode cX6_mostOf 24 = .ok (.iaload, 1) := by decide +kernel
theorem dX6_mostOf_25 : decode cX6_mostOf 25 = .ok (.imul, 1) := by decide +kernel
theorem dX6_mostOf_26 : decode cX6_mostOf 26 = .ok (.aload_n 0, 1) := by decide +kernel
theorem dX6_mostOf_27 : decode cX6_mostOf 27 = .ok (.getfield 20, 3) := by decide +kernel
theorem dX6_mostOf_30 : decode cX6_mostOf 30 = .ok (.iload_n 1, 1) := by decide +kernel
theorem dX6_mostOf_31 : decode cX6_mostOf 31 = .ok (.iaload, 1) := by decide +kernel
theorem dX6_mostOf_32 : decode cX6_mostOf 32 = .ok (.iadd, 1) := by decide +kernel
theorem dX6_mostOf_33 : decode cX6_mostOf 33 = .ok (.iaload, 1) := by decide +kernel
theorem dX6_mostOf_34 : decode cX6_mostOf 34 = .ok (.iadd, 1) := by decide +kernel
theorem dX6_mostOf_35 : decode cX6_mostOf 35 = .ok (.ireturn, 1) := by decide +kernel
set_option maxRecDepth 20000 in
theorem ggX6_between_X6_isPicture : GoodIn wsX6_between wsX6_isPicture := goodIn_r _ [8, 9, 45, 46, 47, 48, 49, 50, 51, 52, 53, 54, 55, 56, 57, 58, 59, 60, 61, 62, 63, 64, 65, 66, 67, 68, 69, 70, 71, 72, 73] (by decide +kernel) (by decide +kernel)
set_option maxRecDepth 20000 in
theorem gX6_between_X6_isPicture : GoodIn wsX6_between (wsV RX6 158 RX6 yX6_isPicture wsX6_isPicture) := goodIn_app (goodIn_of _ (by decide +kernel)) ggX6_between_X6_isPicture
set_option maxRecDepth 20000 in
theorem ggX6_between_X6_closed : GoodIn wsX6_between wsX6_closed := goodIn_r _ [13, 14, 15, 16, 17, 7, 18, 19, 20, 21, 22, 23, 24, 25, 26, 27, 28, 29, 30, 31, 32, 33, 34, 35, 36, 37, 38, 39, 40, 45, 46, 47, 48, 49, 50, 51, 52, 53, 54, 55, 56, 57, 58, 59, 60, 61, 62, 63, 64, 65, 66, 67, 68, 69, 70, 71, 72, 73] (by decide +kernel) (by decide +kernel)
set_option maxRecDepth 20000 in
theorem gX6_between_X6_closed : GoodIn wsX6_between (wsV RX6 147 RX6 yX6_closed wsX6_closed) := goodIn_app (goodIn_of _ (by decide +kernel)) ggX6_between_X6_closed
set_option maxRecDepth 20000 in
theorem ggX6_between_X6_mostOf : GoodIn wsX6_between wsX6_mostOf := goodIn_r _ [44, 29, 3, 26, 45, 46, 47, 48, 49, 50, 51, 52, 53, 54, 55, 56, 57, 58, 59, 60, 61, 62, 63, 64, 65, 66, 67, 68, 69, 70, 71, 72, 73] (by decide +kernel) (by decide +kernel)
set_option maxRecDepth 20000 in
theorem gX6_between_X6_mostOf : GoodIn wsX6_between (wsV RX6 173 RX6 yX6_mostOf wsX6_mostOf) := goodIn_app (goodIn_of _ (by decide +kernel)) ggX6_between_X6_mostOf
theorem dX6_between_0 : decode cX6_between 0 = .ok (.aload_n 0, 1) := by decide +kernel
theorem dX6_between_1 : decode cX6_between 1 = .ok (.iconst 0, 1) := by decide +kernel
theorem dX6_between_2 : decode cX6_between 2 = .ok (.putfield 74, 3) := by decide +kernel
theorem dX6_between_5 : decode cX6_between 5 = .ok (.aload_n 0, 1) := by decide +kernel
theorem dX6_between_6 : decode cX6_between 6 = .ok (.iload_n 1, 1) := by decide +kernel
theorem dX6_between_7 : decode cX6_between 7 = .ok (.invokevirtual 158, 3) := by decide +kernel
theorem dX6_between_10 : decode cX6_between 10 = .ok (.ifCond .eq 11, 3) := by decide +kernel
theorem dX6_between_13 : decode cX6_between 13 = .ok (.aload_n 0, 1) := by decide +kernel
theorem dX6_between_14 : decode cX6_between 14 = .ok (.iload_n 2, 1) := by decide +kernel
theorem dX6_between_15 : decode cX6_between 15 = .ok (.invokevirtual 158, 3) := by decide +kernel
theorem dX6_between_18 : decode cX6_between 18 = .ok (.ifCond .ne 6, 3) := by decide +kernel
theorem dX6_between_21 : decode cX6_between 21 = .ok (.ldc 172, 2) := by decide +kernel
theorem dX6_between_23 : decode cX6_between 23 = .ok (.ireturn, 1) := by decide +kernel
theorem dX6_between_24 : decode cX6_between 24 = .ok (.aload_n 0, 1) := by decide +kernel
theorem dX6_between_25 : decode cX6_between 25 = .ok (.aload_n 0, 1) := by decide +kernel
theorem dX6_between_26 : decode cX6_between 26 = .ok (.getfield 47, 3) := by decide +kernel
theorem dX6_between_29 : decode cX6_between 29 = .ok (.iconst (-1), 1) := by decide +kernel
theorem dX6_between_30 : decode cX6_between 30 = .ok (.invokevirtual 147, 3) := by decide +kernel
theorem dX6_between_33 : decode cX6_between 33 = .ok (.istore 4, 2) := by decide +kernel
theorem dX6_between_35 : decode cX6_between 35 = .ok (.iload_n 3, 1) := by decide +kernel
theorem dX6_between_36 : decode cX6_between 36 = .ok (.ifCond .eq 12, 3) := by decide +kernel
theorem dX6_between_39 : decode cX6_between 39 = .ok (.aload_n 0, 1) := by decide +kernel
theorem dX6_between_40 : decode cX6_between 40 = .ok (.iload_n 1, 1) := by decide +kernel
theorem dX6_between_41 : decode cX6_between 41 = .ok (.iload_n 2, 1) := by decide +kernel
theorem dX6_between_42 : decode cX6_between 42 = .ok (.invokevirtual 173, 3) := by decide +kernel
theorem dX6_between_45 : decode cX6_between 45 = .ok (.goto 10, 3) := by decide +kernel
theorem dX6_between_48 : decode cX6_between 48 = .ok (.aload_n 0, 1) := by decide +kernel
theorem dX6_between_49 : decode cX6_between 49 = .ok (.iload_n 2, 1) := by decide +kernel
theorem dX6_between_50 : decode cX6_between 50 = .ok (.iload_n 1, 1) := by decide +kernel
theorem dX6_between_51 : decode cX6_between 51 = .ok (.invokevirtual 173, 3) := by decide +kernel
theorem dX6_between_54 : decode cX6_between 54 = .ok (.ineg, 1) := by decide +kernel
theorem dX6_between_55 : decode cX6_between 55 = .ok (.ireturn, 1) := by decide +kernel
set_option maxRecDepth 20000 in
theorem ggX6_orderOf_X6_mostOf : GoodIn wsX6_orderOf wsX6_mostOf := goodIn_r _ [5, 6, 7, 8, 9, 10, 11, 12, 13, 14, 15, 16, 17, 18, 19, 20, 21, 22, 23, 24, 25, 26, 27, 28, 29, 30, 31, 32, 33, 34, 35, 36, 37] (by decide +kernel) (by decide +kernel)
set_option maxRecDepth 20000 in
theorem gX6_orderOf_X6_mostOf : GoodIn wsX6_orderOf (wsV RX6 173 RX6 yX6_mostOf wsX6_mostOf) := goodIn_app (goodIn_of _ (by decide +kernel)) ggX6_orderOf_X6_mostOf
theorem dX6_orderOf_0 : decode cX6_orderOf 0 = .ok (.aload_n 0, 1) := by decide +kernel
theorem dX6_orderOf_1 : decode cX6_orderOf 1 = .ok (.iload_n 1, 1) := by decide +kernel
theorem dX6_orderOf_2 : decode cX6_orderOf 2 = .ok (.iload_n 2, 1) := by decide +kernel
theorem dX6_orderOf_3 : decode cX6_orderOf 3 = .ok (.invokevirtual 173, 3) := by decide +kernel
theorem dX6_orderOf_6 : decode cX6_orderOf 6 = .ok (.istore_n 3, 1) := by decide +kernel
theorem dX6_orderOf_7 : decode cX6_orderOf 7 = .ok (.aload_n 0, 1) := by decide +kernel
theorem dX6_orderOf_8 : decode cX6_orderOf 8 = .ok (.iload_n 2, 1) := by decide +kernel
theorem dX6_orderOf_9 : decode cX6_orderOf 9 = .ok (.iload_n 1, 1) := by decide +kernel
theorem dX6_orderOf_10 : decode cX6_orderOf 10 = .ok (.invokevirtual 173, 3) := by decide +kernel
theorem dX6_orderOf_13 : decode cX6_orderOf 13 = .ok (.ineg, 1) := by decide +kernel
theorem dX6_orderOf_14 : decode cX6_orderOf 14 = .ok (.istore 4, 2) := by decide +kernel
theorem dX6_orderOf_16 : decode cX6_orderOf 16 = .ok (.iload 4, 2) := by decide +kernel
theorem dX6_orderOf_18 : decode cX6_orderOf 18 = .ok (.ifCond .le 7, 3) := by decide +kernel
theorem dX6_orderOf_21 : decode cX6_orderOf 21 = .ok (.iconst 1, 1) := by decide +kernel
theorem dX6_orderOf_22 : decode cX6_orderOf 22 = .ok (.goto 25, 3) := by decide +kernel
theorem dX6_orderOf_25 : decode cX6_orderOf 25 = .ok (.iload_n 3, 1) := by decide +kernel
theorem dX6_orderOf_26 : decode cX6_orderOf 26 = .ok (.ifCond .ge 7, 3) := by decide +kernel
theorem dX6_orderOf_29 : decode cX6_orderOf 29 = .ok (.iconst 2, 1) := by decide +kernel
theorem dX6_orderOf_30 : decode cX6_orderOf 30 = .ok (.goto 17, 3) := by decide +kernel
theorem dX6_orderOf_33 : decode cX6_orderOf 33 = .ok (.iload 4, 2) := by decide +kernel
theorem dX6_orderOf_35 : decode cX6_orderOf 35 = .ok (.ifCond .ne 11, 3) := by decide +kernel
theorem dX6_orderOf_38 : decode cX6_orderOf 38 = .ok (.iload_n 3, 1) := by decide +kernel
theorem dX6_orderOf_39 : decode cX6_orderOf 39 = .ok (.ifCond .ne 7, 3) := by decide +kernel
theorem dX6_orderOf_42 : decode cX6_orderOf 42 = .ok (.iconst 3, 1) := by decide +kernel
theorem dX6_orderOf_43 : decode cX6_orderOf 43 = .ok (.goto 4, 3) := by decide +kernel
theorem dX6_orderOf_46 : decode cX6_orderOf 46 = .ok (.iconst 0, 1) := by decide +kernel
theorem dX6_orderOf_47 : decode cX6_orderOf 47 = .ok (.ireturn, 1) := by decide +kernel
set_option maxRecDepth 20000 in
theorem ggX6_order_X6_isPicture : GoodIn wsX6_order wsX6_isPicture := goodIn_r _ [7, 8, 48, 49, 50, 51, 52, 53, 54, 55, 56, 57, 58, 59, 60, 61, 62, 63, 64, 65, 66, 67, 68, 69, 70, 71, 72, 73, 74, 75, 76] (by decide +kernel) (by decide +kernel)
set_option maxRecDepth 20000 in
theorem gX6_order_X6_isPicture : GoodIn wsX6_order (wsV RX6 158 RX6 yX6_isPicture wsX6_isPicture) := goodIn_app (goodIn_of _ (by decide +kernel)) ggX6_order_X6_isPicture
set_option maxRecDepth 20000 in
theorem ggX6_order_X6_closed : GoodIn wsX6_order wsX6_closed := goodIn_r _ [12, 13, 14, 15, 16, 6, 17, 18, 19, 20, 21, 22, 23, 24, 25, 26, 27, 28, 29, 30, 31, 32, 33, 34, 35, 36, 37, 38, 39, 48, 49, 50, 51, 52, 53, 54, 55, 56, 57, 58, 59, 60, 61, 62, 63, 64, 65, 66, 67, 68, 69, 70, 71, 72, 73, 74, 75, 76] (by decide +kernel) (by decide +kernel)
set_option maxRecDepth 20000 in
theorem gX6_order_X6_closed : GoodIn wsX6_order (wsV RX6 147 RX6 yX6_closed wsX6_closed) := goodIn_app (goodIn_of _ (by decide +kernel)) ggX6_order_X6_closed
set_option maxRecDepth 20000 in
theorem ggX6_order_X6_orderOf : GoodIn wsX6_order wsX6_orderOf := goodIn_r _ [43, 44, 45, 46, 6, 47, 28, 2, 25, 48, 49, 50, 51, 52, 53, 54, 55, 56, 57, 58, 59, 60, 61, 62, 63, 64, 65, 66, 67, 68, 69, 70, 71, 72, 73, 74, 75, 76] (by decide +kernel) (by decide +kernel)
set_option maxRecDepth 20000 in
theorem gX6_order_X6_orderOf : GoodIn wsX6_order (wsV RX6 176 RX6 yX6_orderOf wsX6_orderOf) := goodIn_app (goodIn_of _ (by decide +kernel)) ggX6_order_X6_orderOf
theorem dX6_order_0 : decode cX6_order 0 = .ok (.aload_n 0, 1) := by decide +kernel
theorem dX6_order_1 : decode cX6_order 1 = .ok (.iconst 0, 1) := by decide +kernel
theorem dX6_order_2 : decode cX6_order 2 = .ok (.putfield 74, 3) := by decide +kernel
theorem dX6_order_5 : decode cX6_order 5 = .ok (.aload_n 0, 1) := by decide +kernel
theorem dX6_order_6 : decode cX6_order 6 = .ok (.iload_n 1, 1) := by decide +kernel
theorem dX6_order_7 : decode cX6_order 7 = .ok (.invokevirtual 158, 3) := by decide +kernel
theorem dX6_order_10 : decode cX6_order 10 = .ok (.ifCond .eq 11, 3) := by decide +kernel
theorem dX6_order_13 : decode cX6_order 13 = .ok (.aload_n 0, 1) := by decide +kernel
theorem dX6_order_14 : decode cX6_order 14 = .ok (.iload_n 2, 1) := by decide +kernel
theorem dX6_order_15 : decode cX6_order 15 = .ok (.invokevirtual 158, 3) := by decide +kernel
theorem dX6_order_18 : decode cX6_order 18 = .ok (.ifCond .ne 5, 3) := by decide +kernel
theorem dX6_order_21 : decode cX6_order 21 = .ok (.iconst (-1), 1) := by decide +kernel
theorem dX6_order_22 : decode cX6_order 22 = .ok (.ireturn, 1) := by decide +kernel
theorem dX6_order_23 : decode cX6_order 23 = .ok (.aload_n 0, 1) := by decide +kernel
theorem dX6_order_24 : decode cX6_order 24 = .ok (.aload_n 0, 1) := by decide +kernel
theorem dX6_order_25 : decode cX6_order 25 = .ok (.getfield 47, 3) := by decide +kernel
theorem dX6_order_28 : decode cX6_order 28 = .ok (.iconst (-1), 1) := by decide +kernel
theorem dX6_order_29 : decode cX6_order 29 = .ok (.invokevirtual 147, 3) := by decide +kernel
theorem dX6_order_32 : decode cX6_order 32 = .ok (.istore_n 3, 1) := by decide +kernel
theorem dX6_order_33 : decode cX6_order 33 = .ok (.aload_n 0, 1) := by decide +kernel
theorem dX6_order_34 : decode cX6_order 34 = .ok (.iload_n 1, 1) := by decide +kernel
theorem dX6_order_35 : decode cX6_order 35 = .ok (.iload_n 2, 1) := by decide +kernel
theorem dX6_order_36 : decode cX6_order 36 = .ok (.invokevirtual 176, 3) := by decide +kernel
theorem dX6_order_39 : decode cX6_order 39 = .ok (.ireturn, 1) := by decide +kernel
set_option maxRecDepth 20000 in
theorem ggX6_unsure_X6_closed : GoodIn wsX6_unsure wsX6_closed := goodIn_r _ [8, 9, 10, 11, 12, 7, 13, 14, 15, 16, 17, 18, 19, 20, 21, 22, 23, 24, 25, 26, 27, 28, 29, 30, 31, 32, 33, 34, 35, 44, 45, 46, 47, 48, 49, 50, 51, 52, 53, 54, 55, 56, 57, 58, 59, 60, 61, 62, 63, 64, 65, 66, 67, 68, 69, 70, 71, 72] (by decide +kernel) (by decide +kernel)
set_option maxRecDepth 20000 in
theorem gX6_unsure_X6_closed : GoodIn wsX6_unsure (wsV RX6 147 RX6 yX6_closed wsX6_closed) := goodIn_app (goodIn_of _ (by decide +kernel)) ggX6_unsure_X6_closed
set_option maxRecDepth 20000 in
theorem ggX6_unsure_X6_orderOf : GoodIn wsX6_unsure wsX6_orderOf := goodIn_r _ [39, 40, 41, 42, 7, 43, 24, 2, 21, 44, 45, 46, 47, 48, 49, 50, 51, 52, 53, 54, 55, 56, 57, 58, 59, 60, 61, 62, 63, 64, 65, 66, 67, 68, 69, 70, 71, 72] (by decide +kernel) (by decide +kernel)
set_option maxRecDepth 20000 in
theorem gX6_unsure_X6_orderOf : GoodIn wsX6_unsure (wsV RX6 176 RX6 yX6_orderOf wsX6_orderOf) := goodIn_app (goodIn_of _ (by decide +kernel)) ggX6_unsure_X6_orderOf
theorem dX6_unsure_0 : decode cX6_unsure 0 = .ok (.aload_n 0, 1) := by decide +kernel
theorem dX6_unsure_1 : decode cX6_unsure 1 = .ok (.iconst 0, 1) := by decide +kernel
theorem dX6_unsure_2 : decode cX6_unsure 2 = .ok (.putfield 74, 3) := by decide +kernel
theorem dX6_unsure_5 : decode cX6_unsure 5 = .ok (.aload_n 0, 1) := by decide +kernel
theorem dX6_unsure_6 : decode cX6_unsure 6 = .ok (.aload_n 0, 1) := by decide +kernel
theorem dX6_unsure_7 : decode cX6_unsure 7 = .ok (.getfield 47, 3) := by decide +kernel
theorem dX6_unsure_10 : decode cX6_unsure 10 = .ok (.iconst (-1), 1) := by decide +kernel
theorem dX6_unsure_11 : decode cX6_unsure 11 = .ok (.invokevirtual 147, 3) := by decide +kernel
theorem dX6_unsure_14 : decode cX6_unsure 14 = .ok (.istore_n 1, 1) := by decide +kernel
theorem dX6_unsure_15 : decode cX6_unsure 15 = .ok (.iconst 0, 1) := by decide +kernel
theorem dX6_unsure_16 : decode cX6_unsure 16 = .ok (.istore_n 2, 1) := by decide +kernel
theorem dX6_unsure_17 : decode cX6_unsure 17 = .ok (.iconst 0, 1) := by decide +kernel
theorem dX6_unsure_18 : decode cX6_unsure 18 = .ok (.istore_n 3, 1) := by decide +kernel
theorem dX6_unsure_19 : decode cX6_unsure 19 = .ok (.iload_n 3, 1) := by decide +kernel
theorem dX6_unsure_20 : decode cX6_unsure 20 = .ok (.aload_n 0, 1) := by decide +kernel
theorem dX6_unsure_21 : decode cX6_unsure 21 = .ok (.getfield 93, 3) := by decide +kernel
theorem dX6_unsure_24 : decode cX6_unsure 24 = .ok (.if_icmp .ge 42, 3) := by decide +kernel
theorem dX6_unsure_27 : decode cX6_unsure 27 = .ok (.iconst 0, 1) := by decide +kernel
theorem dX6_unsure_28 : decode cX6_unsure 28 = .ok (.istore 4, 2) := by decide +kernel
theorem dX6_unsure_30 : decode cX6_unsure 30 = .ok (.iload 4, 2) := by decide +kernel
theorem dX6_unsure_32 : decode cX6_unsure 32 = .ok (.iload_n 3, 1) := by decide +kernel
theorem dX6_unsure_33 : decode cX6_unsure 33 = .ok (.if_icmp .ge 27, 3) := by decide +kernel
theorem dX6_unsure_36 : decode cX6_unsure 36 = .ok (.iload_n 2, 1) := by decide +kernel
theorem dX6_unsure_37 : decode cX6_unsure 37 = .ok (.aload_n 0, 1) := by decide +kernel
theorem dX6_unsure_38 : decode cX6_unsure 38 = .ok (.iload_n 3, 1) := by decide +kernel
theorem dX6_unsure_39 : decode cX6_unsure 39 = .ok (.iload 4, 2) := by decide +kernel
theorem dX6_unsure_41 : decode cX6_unsure 41 = .ok (.invokevirtual 176, 3) := by decide +kernel
theorem dX6_unsure_44 : decode cX6_unsure 44 = .ok (.ifCond .ne 7, 3) := by decide +kernel
theorem dX6_unsure_47 : decode cX6_unsure 47 = .ok (.iconst 1, 1) := by decide +kernel
theorem dX6_unsure_48 : decode cX6_unsure 48 = .ok (.goto 4, 3) := by decide +kernel
theorem dX6_unsure_51 : decode cX6_unsure 51 = .ok (.iconst 0, 1) := by decide +kernel
theorem dX6_unsure_52 : decode cX6_unsure 52 = .ok (.iadd, 1) := by decide +kernel
theorem dX6_unsure_53 : decode cX6_unsure 53 = .ok (.istore_n 2, 1) := by decide +kernel
theorem dX6_unsure_54 : decode cX6_unsure 54 = .ok (.iinc 4 1, 3) := by decide +kernel
theorem dX6_unsure_57 : decode cX6_unsure 57 = .ok (.goto (-27), 3) := by decide +kernel
theorem dX6_unsure_60 : decode cX6_unsure 60 = .ok (.iinc 3 1, 3) := by decide +kernel
theorem dX6_unsure_63 : decode cX6_unsure 63 = .ok (.goto (-44), 3) := by decide +kernel
theorem dX6_unsure_66 : decode cX6_unsure 66 = .ok (.iload_n 2, 1) := by decide +kernel
theorem dX6_unsure_67 : decode cX6_unsure 67 = .ok (.ireturn, 1) := by decide +kernel
set_option maxRecDepth 20000 in
theorem ggX6_known_X6_closed : GoodIn wsX6_known wsX6_closed := goodIn_r _ [8, 9, 10, 11, 12, 7, 13, 14, 15, 16, 17, 18, 19, 20, 21, 22, 23, 24, 25, 26, 27, 28, 29, 30, 31, 32, 33, 34, 35, 36, 37, 38, 39, 40, 41, 42, 43, 44, 45, 46, 47, 48, 49, 50, 51, 52, 53, 54, 55, 56, 57, 58, 59, 60, 61, 62, 63, 64] (by decide +kernel) (by decide +kernel)
set_option maxRecDepth 20000 in
theorem gX6_known_X6_closed : GoodIn wsX6_known (wsV RX6 147 RX6 yX6_closed wsX6_closed) := goodIn_app (goodIn_of _ (by decide +kernel)) ggX6_known_X6_closed
theorem dX6_known_0 : decode cX6_known 0 = .ok (.aload_n 0, 1) := by decide +kernel
theorem dX6_known_1 : decode cX6_known 1 = .ok (.iconst 0, 1) := by decide +kernel
theorem dX6_known_2 : decode cX6_known 2 = .ok (.putfield 74, 3) := by decide +kernel
theorem dX6_known_5 : decode cX6_known 5 = .ok (.aload_n 0, 1) := by decide +kernel
theorem dX6_known_6 : decode cX6_known 6 = .ok (.aload_n 0, 1) := by decide +kernel
theorem dX6_known_7 : decode cX6_known 7 = .ok (.getfield 47, 3) := by decide +kernel
theorem dX6_known_10 : decode cX6_known 10 = .ok (.iconst (-1), 1) := by decide +kernel
theorem dX6_known_11 : decode cX6_known 11 = .ok (.invokevirtual 147, 3) := by decide +kernel
theorem dX6_known_14 : decode cX6_known 14 = .ok (.istore_n 1, 1) := by decide +kernel
theorem dX6_known_15 : decode cX6_known 15 = .ok (.iconst 0, 1) := by decide +kernel
theorem dX6_known_16 : decode cX6_known 16 = .ok (.istore_n 2, 1) := by decide +kernel
theorem dX6_known_17 : decode cX6_known 17 = .ok (.iconst 0, 1) := by decide +kernel
theorem dX6_known_18 : decode cX6_known 18 = .ok (.istore_n 3, 1) := by decide +kernel
theorem dX6_known_19 : decode cX6_known 19 = .ok (.iload_n 3, 1) := by decide +kernel
theorem dX6_known_20 : decode cX6_known 20 = .ok (.aload_n 0, 1) := by decide +kernel
theorem dX6_known_21 : decode cX6_known 21 = .ok (.getfield 80, 3) := by decide +kernel
theorem dX6_known_24 : decode cX6_known 24 = .ok (.if_icmp .ge 36, 3) := by decide +kernel
theorem dX6_known_27 : decode cX6_known 27 = .ok (.iload_n 2, 1) := by decide +kernel
theorem dX6_known_28 : decode cX6_known 28 = .ok (.aload_n 0, 1) := by decide +kernel
theorem dX6_known_29 : decode cX6_known 29 = .ok (.getfield 47, 3) := by decide +kernel
theorem dX6_known_32 : decode cX6_known 32 = .ok (.bipush 8, 2) := by decide +kernel
theorem dX6_known_34 : decode cX6_known 34 = .ok (.iload_n 3, 1) := by decide +kernel
theorem dX6_known_35 : decode cX6_known 35 = .ok (.imul, 1) := by decide +kernel
theorem dX6_known_36 : decode cX6_known 36 = .ok (.iaload, 1) := by decide +kernel
theorem dX6_known_37 : decode cX6_known 37 = .ok (.aload_n 0, 1) := by decide +kernel
theorem dX6_known_38 : decode cX6_known 38 = .ok (.getfield 47, 3) := by decide +kernel
theorem dX6_known_41 : decode cX6_known 41 = .ok (.iload_n 3, 1) := by decide +kernel
theorem dX6_known_42 : decode cX6_known 42 = .ok (.iaload, 1) := by decide +kernel
theorem dX6_known_43 : decode cX6_known 43 = .ok (.ineg, 1) := by decide +kernel
theorem dX6_known_44 : decode cX6_known 44 = .ok (.if_icmp .ne 7, 3) := by decide +kernel
theorem dX6_known_47 : decode cX6_known 47 = .ok (.iconst 1, 1) := by decide +kernel
theorem dX6_known_48 : decode cX6_known 48 = .ok (.goto 4, 3) := by decide +kernel
theorem dX6_known_51 : decode cX6_known 51 = .ok (.iconst 0, 1) := by decide +kernel
theorem dX6_known_52 : decode cX6_known 52 = .ok (.iadd, 1) := by decide +kernel
theorem dX6_known_53 : decode cX6_known 53 = .ok (.istore_n 2, 1) := by decide +kernel
theorem dX6_known_54 : decode cX6_known 54 = .ok (.iinc 3 1, 3) := by decide +kernel
theorem dX6_known_57 : decode cX6_known 57 = .ok (.goto (-38), 3) := by decide +kernel
theorem dX6_known_60 : decode cX6_known 60 = .ok (.iload_n 2, 1) := by decide +kernel
theorem dX6_known_61 : decode cX6_known 61 = .ok (.ireturn, 1) := by decide +kernel
theorem dX6_timeOf_0 : decode cX6_timeOf 0 = .ok (.aload_n 0, 1) := by decide +kernel
theorem dX6_timeOf_1 : decode cX6_timeOf 1 = .ok (.getfield 23, 3) := by decide +kernel
theorem dX6_timeOf_4 : decode cX6_timeOf 4 = .ok (.iload_n 1, 1) := by decide +kernel
theorem dX6_timeOf_5 : decode cX6_timeOf 5 = .ok (.iaload, 1) := by decide +kernel
theorem dX6_timeOf_6 : decode cX6_timeOf 6 = .ok (.aload_n 0, 1) := by decide +kernel
theorem dX6_timeOf_7 : decode cX6_timeOf 7 = .ok (.getfield 68, 3) := by decide +kernel
theorem dX6_timeOf_10 : decode cX6_timeOf 10 = .ok (.aload_n 0, 1) := by decide +kernel
theorem dX6_timeOf_11 : decode cX6_timeOf 11 = .ok (.getfield 20, 3) := by decide +kernel
theorem dX6_timeOf_14 : decode cX6_timeOf 14 = .ok (.iload_n 1, 1) := by decide +kernel
theorem dX6_timeOf_15 : decode cX6_timeOf 15 = .ok (.iaload, 1) := by decide +kernel
theorem dX6_timeOf_16 : decode cX6_timeOf 16 = .ok (.iaload, 1) := by decide +kernel
theorem dX6_timeOf_17 : decode cX6_timeOf 17 = .ok (.iadd, 1) := by decide +kernel
theorem dX6_timeOf_18 : decode cX6_timeOf 18 = .ok (.ireturn, 1) := by decide +kernel
set_option maxRecDepth 20000 in
theorem ggX6_isEarlier_X6_timeOf : GoodIn wsX6_isEarlier wsX6_timeOf := goodIn_r _ [6, 7, 8, 1, 9, 10, 11, 12, 13, 14, 15, 16, 17, 18, 19, 20, 21, 22, 23, 24, 25, 26, 27, 28, 29, 30, 31, 32, 33, 34, 35, 36, 37] (by decide +kernel) (by decide +kernel)
set_option maxRecDepth 20000 in
theorem gX6_isEarlier_X6_timeOf : GoodIn wsX6_isEarlier (wsV RX6 179 RX6 yX6_timeOf wsX6_timeOf) := goodIn_app (goodIn_of _ (by decide +kernel)) ggX6_isEarlier_X6_timeOf
theorem dX6_isEarlier_0 : decode cX6_isEarlier 0 = .ok (.aload_n 0, 1) := by decide +kernel
theorem dX6_isEarlier_1 : decode cX6_isEarlier 1 = .ok (.iload_n 1, 1) := by decide +kernel
theorem dX6_isEarlier_2 : decode cX6_isEarlier 2 = .ok (.invokevirtual 179, 3) := by decide +kernel
theorem dX6_isEarlier_5 : decode cX6_isEarlier 5 = .ok (.istore_n 3, 1) := by decide +kernel
theorem dX6_isEarlier_6 : decode cX6_isEarlier 6 = .ok (.aload_n 0, 1) := by decide +kernel
theorem dX6_isEarlier_7 : decode cX6_isEarlier 7 = .ok (.iload_n 2, 1) := by decide +kernel
theorem dX6_isEarlier_8 : decode cX6_isEarlier 8 = .ok (.invokevirtual 179, 3) := by decide +kernel
theorem dX6_isEarlier_11 : decode cX6_isEarlier 11 = .ok (.istore 4, 2) := by decide +kernel
theorem dX6_isEarlier_13 : decode cX6_isEarlier 13 = .ok (.iload_n 3, 1) := by decide +kernel
theorem dX6_isEarlier_14 : decode cX6_isEarlier 14 = .ok (.iload 4, 2) := by decide +kernel
theorem dX6_isEarlier_16 : decode cX6_isEarlier 16 = .ok (.if_icmp .eq 15, 3) := by decide +kernel
theorem dX6_isEarlier_19 : decode cX6_isEarlier 19 = .ok (.iload_n 3, 1) := by decide +kernel
theorem dX6_isEarlier_20 : decode cX6_isEarlier 20 = .ok (.iload 4, 2) := by decide +kernel
theorem dX6_isEarlier_22 : decode cX6_isEarlier 22 = .ok (.if_icmp .ge 7, 3) := by decide +kernel
theorem dX6_isEarlier_25 : decode cX6_isEarlier 25 = .ok (.iconst 1, 1) := by decide +kernel
theorem dX6_isEarlier_26 : decode cX6_isEarlier 26 = .ok (.goto 4, 3) := by decide +kernel
theorem dX6_isEarlier_29 : decode cX6_isEarlier 29 = .ok (.iconst 0, 1) := by decide +kernel
theorem dX6_isEarlier_30 : decode cX6_isEarlier 30 = .ok (.ireturn, 1) := by decide +kernel
theorem dX6_isEarlier_31 : decode cX6_isEarlier 31 = .ok (.aload_n 0, 1) := by decide +kernel
theorem dX6_isEarlier_32 : decode cX6_isEarlier 32 = .ok (.getfield 20, 3) := by decide +kernel
theorem dX6_isEarlier_35 : decode cX6_isEarlier 35 = .ok (.iload_n 1, 1) := by decide +kernel
theorem dX6_isEarlier_36 : decode cX6_isEarlier 36 = .ok (.iaload, 1) := by decide +kernel
theorem dX6_isEarlier_37 : decode cX6_isEarlier 37 = .ok (.aload_n 0, 1) := by decide +kernel
theorem dX6_isEarlier_38 : decode cX6_isEarlier 38 = .ok (.getfield 20, 3) := by decide +kernel
theorem dX6_isEarlier_41 : decode cX6_isEarlier 41 = .ok (.iload_n 2, 1) := by decide +kernel
theorem dX6_isEarlier_42 : decode cX6_isEarlier 42 = .ok (.iaload, 1) := by decide +kernel
theorem dX6_isEarlier_43 : decode cX6_isEarlier 43 = .ok (.if_icmp .eq 26, 3) := by decide +kernel
theorem dX6_isEarlier_46 : decode cX6_isEarlier 46 = .ok (.aload_n 0, 1) := by decide +kernel
theorem dX6_isEarlier_47 : decode cX6_isEarlier 47 = .ok (.getfield 20, 3) := by decide +kernel
theorem dX6_isEarlier_50 : decode cX6_isEarlier 50 = .ok (.iload_n 1, 1) := by decide +kernel
theorem dX6_isEarlier_51 : decode cX6_isEarlier 51 = .ok (.iaload, 1) := by decide +kernel
theorem dX6_isEarlier_52 : decode cX6_isEarlier 52 = .ok (.aload_n 0, 1) := by decide +kernel
theorem dX6_isEarlier_53 : decode cX6_isEarlier 53 = .ok (.getfield 20, 3) := by decide +kernel
theorem dX6_isEarlier_56 : decode cX6_isEarlier 56 = .ok (.iload_n 2, 1) := by decide +kernel
theorem dX6_isEarlier_57 : decode cX6_isEarlier 57 = .ok (.iaload, 1) := by decide +kernel
theorem dX6_isEarlier_58 : decode cX6_isEarlier 58 = .ok (.if_icmp .ge 7, 3) := by decide +kernel
theorem dX6_isEarlier_61 : decode cX6_isEarlier 61 = .ok (.iconst 1, 1) := by decide +kernel
theorem dX6_isEarlier_62 : decode cX6_isEarlier 62 = .ok (.goto 17, 3) := by decide +kernel
theorem dX6_isEarlier_65 : decode cX6_isEarlier 65 = .ok (.iconst 0, 1) := by decide +kernel
theorem dX6_isEarlier_66 : decode cX6_isEarlier 66 = .ok (.goto 13, 3) := by decide +kernel
theorem dX6_isEarlier_69 : decode cX6_isEarlier 69 = .ok (.iload_n 1, 1) := by decide +kernel
theorem dX6_isEarlier_70 : decode cX6_isEarlier 70 = .ok (.iload_n 2, 1) := by decide +kernel
theorem dX6_isEarlier_71 : decode cX6_isEarlier 71 = .ok (.if_icmp .ge 7, 3) := by decide +kernel
theorem dX6_isEarlier_74 : decode cX6_isEarlier 74 = .ok (.iconst 1, 1) := by decide +kernel
theorem dX6_isEarlier_75 : decode cX6_isEarlier 75 = .ok (.goto 4, 3) := by decide +kernel
theorem dX6_isEarlier_78 : decode cX6_isEarlier 78 = .ok (.iconst 0, 1) := by decide +kernel
theorem dX6_isEarlier_79 : decode cX6_isEarlier 79 = .ok (.ireturn, 1) := by decide +kernel
set_option maxRecDepth 20000 in
theorem ggX6_put_X6_closed : GoodIn wsX6_put wsX6_closed := goodIn_r _ [13, 14, 15, 16, 17, 12, 18, 19, 20, 21, 22, 23, 24, 25, 26, 27, 28, 29, 30, 31, 32, 33, 34, 35, 36, 37, 38, 39, 40, 49, 50, 51, 52, 53, 54, 55, 56, 57, 58, 59, 60, 61, 62, 63, 64, 65, 66, 67, 68, 69, 70, 71, 72, 73, 74, 75, 76, 77] (by decide +kernel) (by decide +kernel)
set_option maxRecDepth 20000 in
theorem gX6_put_X6_closed : GoodIn wsX6_put (wsV RX6 147 RX6 yX6_closed wsX6_closed) := goodIn_app (goodIn_of _ (by decide +kernel)) ggX6_put_X6_closed
set_option maxRecDepth 20000 in
theorem ggX6_put_X6_least : GoodIn wsX6_put wsX6_least := goodIn_r _ [33, 34, 35, 36, 37] (by decide +kernel) (by decide +kernel)
set_option maxRecDepth 20000 in
theorem gX6_put_X6_least : GoodIn wsX6_put (va_wsS RX6 122 yX6_least wsX6_least) := goodIn_app (goodIn_of _ (by decide +kernel)) ggX6_put_X6_least
set_option maxRecDepth 20000 in
theorem ggX6_put_X6_closes : GoodIn wsX6_put wsX6_closes := goodIn_r _ [40, 31, 32, 12, 33, 34, 35, 36, 37] (by decide +kernel) (by decide +kernel)
set_option maxRecDepth 20000 in
theorem gX6_put_X6_closes : GoodIn wsX6_put (va_wsS RX6 139 yX6_closes wsX6_closes) := goodIn_app (goodIn_of _ (by decide +kernel)) ggX6_put_X6_closes
set_option maxRecDepth 20000 in
theorem ggX6_put_X6_isEarlier : GoodIn wsX6_put wsX6_isEarlier := goodIn_r _ [44, 26, 45, 46, 47, 12, 48, 29, 4, 49, 50, 51, 52, 53, 54, 55, 56, 57, 58, 59, 60, 61, 62, 63, 64, 65, 66, 67, 68, 69, 70, 71, 72, 73, 74, 75, 76, 77] (by decide +kernel) (by decide +kernel)
set_option maxRecDepth 20000 in
theorem gX6_put_X6_isEarlier : GoodIn wsX6_put (wsV RX6 185 RX6 yX6_isEarlier wsX6_isEarlier) := goodIn_app (goodIn_of _ (by decide +kernel)) ggX6_put_X6_isEarlier
theorem dX6_put_0 : decode cX6_put 0 = .ok (.aload_n 0, 1) := by decide +kernel
theorem dX6_put_1 : decode cX6_put 1 = .ok (.iconst 0, 1) := by decide +kernel
theorem dX6_put_2 : decode cX6_put 2 = .ok (.putfield 74, 3) := by decide +kernel
theorem dX6_put_5 : decode cX6_put 5 = .ok (.aload_n 0, 1) := by decide +kernel
theorem dX6_put_6 : decode cX6_put 6 = .ok (.aload_n 0, 1) := by decide +kernel
theorem dX6_put_7 : decode cX6_put 7 = .ok (.getfield 47, 3) := by decide +kernel
theorem dX6_put_10 : decode cX6_put 10 = .ok (.iconst (-1), 1) := by decide +kernel
theorem dX6_put_11 : decode cX6_put 11 = .ok (.invokevirtual 147, 3) := by decide +kernel
theorem dX6_put_14 : decode cX6_put 14 = .ok (.istore_n 1, 1) := by decide +kernel
theorem dX6_put_15 : decode cX6_put 15 = .ok (.iconst 0, 1) := by decide +kernel
theorem dX6_put_16 : decode cX6_put 16 = .ok (.istore_n 2, 1) := by decide +kernel
theorem dX6_put_17 : decode cX6_put 17 = .ok (.iload_n 2, 1) := by decide +kernel
theorem dX6_put_18 : decode cX6_put 18 = .ok (.aload_n 0, 1) := by decide +kernel
theorem dX6_put_19 : decode cX6_put 19 = .ok (.getfield 80, 3) := by decide +kernel
theorem dX6_put_22 : decode cX6_put 22 = .ok (.if_icmp .ge 92, 3) := by decide +kernel
theorem dX6_put_25 : decode cX6_put 25 = .ok (.aload_n 0, 1) := by decide +kernel
theorem dX6_put_26 : decode cX6_put 26 = .ok (.getfield 47, 3) := by decide +kernel
theorem dX6_put_29 : decode cX6_put 29 = .ok (.iload_n 2, 1) := by decide +kernel
theorem dX6_put_30 : decode cX6_put 30 = .ok (.iaload, 1) := by decide +kernel
theorem dX6_put_31 : decode cX6_put 31 = .ok (.ineg, 1) := by decide +kernel
theorem dX6_put_32 : decode cX6_put 32 = .ok (.istore_n 3, 1) := by decide +kernel
theorem dX6_put_33 : decode cX6_put 33 = .ok (.aload_n 0, 1) := by decide +kernel
theorem dX6_put_34 : decode cX6_put 34 = .ok (.getfield 47, 3) := by decide +kernel
theorem dX6_put_37 : decode cX6_put 37 = .ok (.bipush 8, 2) := by decide +kernel
theorem dX6_put_39 : decode cX6_put 39 = .ok (.iload_n 2, 1) := by decide +kernel
theorem dX6_put_40 : decode cX6_put 40 = .ok (.imul, 1) := by decide +kernel
theorem dX6_put_41 : decode cX6_put 41 = .ok (.iaload, 1) := by decide +kernel
theorem dX6_put_42 : decode cX6_put 42 = .ok (.istore 4, 2) := by decide +kernel
theorem dX6_put_44 : decode cX6_put 44 = .ok (.aload_n 0, 1) := by decide +kernel
theorem dX6_put_45 : decode cX6_put 45 = .ok (.getfield 68, 3) := by decide +kernel
theorem dX6_put_48 : decode cX6_put 48 = .ok (.iload_n 2, 1) := by decide +kernel
theorem dX6_put_49 : decode cX6_put 49 = .ok (.iload_n 3, 1) := by decide +kernel
theorem dX6_put_50 : decode cX6_put 50 = .ok (.ifCond .le 7, 3) := by decide +kernel
theorem dX6_put_53 : decode cX6_put 53 = .ok (.iload_n 3, 1) := by decide +kernel
theorem dX6_put_54 : decode cX6_put 54 = .ok (.goto 14, 3) := by decide +kernel
theorem dX6_put_57 : decode cX6_put 57 = .ok (.iload 4, 2) := by decide +kernel
theorem dX6_put_59 : decode cX6_put 59 = .ok (.ifCond .ge 8, 3) := by decide +kernel
theorem dX6_put_62 : decode cX6_put 62 = .ok (.iload 4, 2) := by decide +kernel
theorem dX6_put_64 : decode cX6_put 64 = .ok (.goto 4, 3) := by decide +kernel
theorem dX6_put_67 : decode cX6_put 67 = .ok (.iconst 0, 1) := by decide +kernel
theorem dX6_put_68 : decode cX6_put 68 = .ok (.iastore, 1) := by decide +kernel
theorem dX6_put_69 : decode cX6_put 69 = .ok (.aload_n 0, 1) := by decide +kernel
theorem dX6_put_70 : decode cX6_put 70 = .ok (.getfield 47, 3) := by decide +kernel
theorem dX6_put_73 : decode cX6_put 73 = .ok (.iload_n 2, 1) := by decide +kernel
theorem dX6_put_74 : decode cX6_put 74 = .ok (.iconst 0, 1) := by decide +kernel
theorem dX6_put_75 : decode cX6_put 75 = .ok (.aload_n 0, 1) := by decide +kernel
theorem dX6_put_76 : decode cX6_put 76 = .ok (.getfield 68, 3) := by decide +kernel
theorem dX6_put_79 : decode cX6_put 79 = .ok (.iload_n 2, 1) := by decide +kernel
theorem dX6_put_80 : decode cX6_put 80 = .ok (.iaload, 1) := by decide +kernel
theorem dX6_put_81 : decode cX6_put 81 = .ok (.invokestatic 122, 3) := by decide +kernel
theorem dX6_put_84 : decode cX6_put 84 = .ok (.aload_n 0, 1) := by decide +kernel
theorem dX6_put_85 : decode cX6_put 85 = .ok (.getfield 47, 3) := by decide +kernel
theorem dX6_put_88 : decode cX6_put 88 = .ok (.iconst 0, 1) := by decide +kernel
theorem dX6_put_89 : decode cX6_put 89 = .ok (.iload_n 2, 1) := by decide +kernel
theorem dX6_put_90 : decode cX6_put 90 = .ok (.aload_n 0, 1) := by decide +kernel
theorem dX6_put_91 : decode cX6_put 91 = .ok (.getfield 68, 3) := by decide +kernel
theorem dX6_put_94 : decode cX6_put 94 = .ok (.iload_n 2, 1) := by decide +kernel
theorem dX6_put_95 : decode cX6_put 95 = .ok (.iaload, 1) := by decide +kernel
theorem dX6_put_96 : decode cX6_put 96 = .ok (.ineg, 1) := by decide +kernel
theorem dX6_put_97 : decode cX6_put 97 = .ok (.invokestatic 122, 3) := by decide +kernel
theorem dX6_put_100 : decode cX6_put 100 = .ok (.aload_n 0, 1) := by decide +kernel
theorem dX6_put_101 : decode cX6_put 101 = .ok (.getfield 47, 3) := by decide +kernel
theorem dX6_put_104 : decode cX6_put 104 = .ok (.invokestatic 139, 3) := by decide +kernel
theorem dX6_put_107 : decode cX6_put 107 = .ok (.istore_n 1, 1) := by decide +kernel
theorem dX6_put_108 : decode cX6_put 108 = .ok (.iinc 2 1, 3) := by decide +kernel
theorem dX6_put_111 : decode cX6_put 111 = .ok (.goto (-94), 3) := by decide +kernel
theorem dX6_put_114 : decode cX6_put 114 = .ok (.aload_n 0, 1) := by decide +kernel
theorem dX6_put_115 : decode cX6_put 115 = .ok (.aload_n 0, 1) := by decide +kernel
theorem dX6_put_116 : decode cX6_put 116 = .ok (.getfield 80, 3) := by decide +kernel
theorem dX6_put_119 : decode cX6_put 119 = .ok (.putfield 182, 3) := by decide +kernel
theorem dX6_put_122 : decode cX6_put 122 = .ok (.aload_n 0, 1) := by decide +kernel
theorem dX6_put_123 : decode cX6_put 123 = .ok (.aload_n 0, 1) := by decide +kernel
theorem dX6_put_124 : decode cX6_put 124 = .ok (.getfield 93, 3) := by decide +kernel
theorem dX6_put_127 : decode cX6_put 127 = .ok (.putfield 65, 3) := by decide +kernel
theorem dX6_put_130 : decode cX6_put 130 = .ok (.iconst 0, 1) := by decide +kernel
theorem dX6_put_131 : decode cX6_put 131 = .ok (.istore_n 2, 1) := by decide +kernel
theorem dX6_put_132 : decode cX6_put 132 = .ok (.iload_n 2, 1) := by decide +kernel
theorem dX6_put_133 : decode cX6_put 133 = .ok (.aload_n 0, 1) := by decide +kernel
theorem dX6_put_134 : decode cX6_put 134 = .ok (.getfield 93, 3) := by decide +kernel
theorem dX6_put_137 : decode cX6_put 137 = .ok (.if_icmp .ge 58, 3) := by decide +kernel
theorem dX6_put_140 : decode cX6_put 140 = .ok (.iload_n 2, 1) := by decide +kernel
theorem dX6_put_141 : decode cX6_put 141 = .ok (.istore_n 3, 1) := by decide +kernel
theorem dX6_put_142 : decode cX6_put 142 = .ok (.iload_n 3, 1) := by decide +kernel
theorem dX6_put_143 : decode cX6_put 143 = .ok (.ifCond .le 39, 3) := by decide +kernel
theorem dX6_put_146 : decode cX6_put 146 = .ok (.aload_n 0, 1) := by decide +kernel
theorem dX6_put_147 : decode cX6_put 147 = .ok (.iload_n 2, 1) := by decide +kernel
theorem dX6_put_148 : decode cX6_put 148 = .ok (.aload_n 0, 1) := by decide +kernel
theorem dX6_put_149 : decode cX6_put 149 = .ok (.getfield 71, 3) := by decide +kernel
theorem dX6_put_152 : decode cX6_put 152 = .ok (.iload_n 3, 1) := by decide +kernel
theorem dX6_put_153 : decode cX6_put 153 = .ok (.iconst 1, 1) := by decide +kernel
theorem dX6_put_154 : decode cX6_put 154 = .ok (.isub, 1) := by decide +kernel
theorem dX6_put_155 : decode cX6_put 155 = .ok (.iaload, 1) := by decide +kernel
theorem dX6_put_156 : decode cX6_put 156 = .ok (.invokevirtual 185, 3) := by decide +kernel
theorem dX6_put_159 : decode cX6_put 159 = .ok (.ifCond .eq 23, 3) := by decide +kernel
theorem dX6_put_162 : decode cX6_put 162 = .ok (.aload_n 0, 1) := by decide +kernel
theorem dX6_put_163 : decode cX6_put 163 = .ok (.getfield 71, 3) := by decide +kernel
theorem dX6_put_166 : decode cX6_put 166 = .ok (.iload_n 3, 1) := by decide +kernel
theorem dX6_put_167 : decode cX6_put 167 = .ok (.aload_n 0, 1) := by decide +kernel
theorem dX6_put_168 : decode cX6_put 168 = .ok (.getfield 71, 3) := by decide +kernel
theorem dX6_put_171 : decode cX6_put 171 = .ok (.iload_n 3, 1) := by decide +kernel
theorem dX6_put_172 : decode cX6_put 172 = .ok (.iconst 1, 1) := by decide +kernel
theorem dX6_put_173 : decode cX6_put 173 = .ok (.isub, 1) := by decide +kernel
theorem dX6_put_174 : decode cX6_put 174 = .ok (.iaload, 1) := by decide +kernel
theorem dX6_put_175 : decode cX6_put 175 = .ok (.iastore, 1) := by decide +kernel
theorem dX6_put_176 : decode cX6_put 176 = .ok (.iinc 3 (-1), 3) := by decide +kernel
theorem dX6_put_179 : decode cX6_put 179 = .ok (.goto (-37), 3) := by decide +kernel
theorem dX6_put_182 : decode cX6_put 182 = .ok (.aload_n 0, 1) := by decide +kernel
theorem dX6_put_183 : decode cX6_put 183 = .ok (.getfield 71, 3) := by decide +kernel
theorem dX6_put_186 : decode cX6_put 186 = .ok (.iload_n 3, 1) := by decide +kernel
theorem dX6_put_187 : decode cX6_put 187 = .ok (.iload_n 2, 1) := by decide +kernel
theorem dX6_put_188 : decode cX6_put 188 = .ok (.iastore, 1) := by decide +kernel
theorem dX6_put_189 : decode cX6_put 189 = .ok (.iinc 2 1, 3) := by decide +kernel
theorem dX6_put_192 : decode cX6_put 192 = .ok (.goto (-60), 3) := by decide +kernel
theorem dX6_put_195 : decode cX6_put 195 = .ok (.aload_n 0, 1) := by decide +kernel
theorem dX6_put_196 : decode cX6_put 196 = .ok (.getfield 65, 3) := by decide +kernel
theorem dX6_put_199 : decode cX6_put 199 = .ok (.ireturn, 1) := by decide +kernel
theorem dX6_offset_0 : decode cX6_offset 0 = .ok (.aload_n 0, 1) := by decide +kernel
theorem dX6_offset_1 : decode cX6_offset 1 = .ok (.iconst 0, 1) := by decide +kernel
theorem dX6_offset_2 : decode cX6_offset 2 = .ok (.putfield 74, 3) := by decide +kernel
theorem dX6_offset_5 : decode cX6_offset 5 = .ok (.iload_n 1, 1) := by decide +kernel
theorem dX6_offset_6 : decode cX6_offset 6 = .ok (.ifCond .lt 20, 3) := by decide +kernel
theorem dX6_offset_9 : decode cX6_offset 9 = .ok (.iload_n 1, 1) := by decide +kernel
theorem dX6_offset_10 : decode cX6_offset 10 = .ok (.aload_n 0, 1) := by decide +kernel
theorem dX6_offset_11 : decode cX6_offset 11 = .ok (.getfield 182, 3) := by decide +kernel
theorem dX6_offset_14 : decode cX6_offset 14 = .ok (.if_icmp .ge 12, 3) := by decide +kernel
theorem dX6_offset_17 : decode cX6_offset 17 = .ok (.aload_n 0, 1) := by decide +kernel
theorem dX6_offset_18 : decode cX6_offset 18 = .ok (.getfield 68, 3) := by decide +kernel
theorem dX6_offset_21 : decode cX6_offset 21 = .ok (.iload_n 1, 1) := by decide +kernel
theorem dX6_offset_22 : decode cX6_offset 22 = .ok (.iaload, 1) := by decide +kernel
theorem dX6_offset_23 : decode cX6_offset 23 = .ok (.goto 5, 3) := by decide +kernel
theorem dX6_offset_26 : decode cX6_offset 26 = .ok (.ldc 172, 2) := by decide +kernel
theorem dX6_offset_28 : decode cX6_offset 28 = .ok (.ireturn, 1) := by decide +kernel
theorem dX6_row_0 : decode cX6_row 0 = .ok (.aload_n 0, 1) := by decide +kernel
theorem dX6_row_1 : decode cX6_row 1 = .ok (.iload_n 1, 1) := by decide +kernel
theorem dX6_row_2 : decode cX6_row 2 = .ok (.ifCond .lt 11, 3) := by decide +kernel
theorem dX6_row_5 : decode cX6_row 5 = .ok (.iload_n 1, 1) := by decide +kernel
theorem dX6_row_6 : decode cX6_row 6 = .ok (.aload_n 0, 1) := by decide +kernel
theorem dX6_row_7 : decode cX6_row 7 = .ok (.getfield 65, 3) := by decide +kernel
theorem dX6_row_10 : decode cX6_row 10 = .ok (.if_icmp .lt 7, 3) := by decide +kernel
theorem dX6_row_13 : decode cX6_row 13 = .ok (.iconst 1, 1) := by decide +kernel
theorem dX6_row_14 : decode cX6_row 14 = .ok (.goto 4, 3) := by decide +kernel
theorem dX6_row_17 : decode cX6_row 17 = .ok (.iconst 0, 1) := by decide +kernel
theorem dX6_row_18 : decode cX6_row 18 = .ok (.putfield 74, 3) := by decide +kernel
theorem dX6_row_21 : decode cX6_row 21 = .ok (.aload_n 0, 1) := by decide +kernel
theorem dX6_row_22 : decode cX6_row 22 = .ok (.getfield 74, 3) := by decide +kernel
theorem dX6_row_25 : decode cX6_row 25 = .ok (.ifCond .le 7, 3) := by decide +kernel
theorem dX6_row_28 : decode cX6_row 28 = .ok (.iconst 0, 1) := by decide +kernel
theorem dX6_row_29 : decode cX6_row 29 = .ok (.goto 9, 3) := by decide +kernel
theorem dX6_row_32 : decode cX6_row 32 = .ok (.aload_n 0, 1) := by decide +kernel
theorem dX6_row_33 : decode cX6_row 33 = .ok (.getfield 71, 3) := by decide +kernel
theorem dX6_row_36 : decode cX6_row 36 = .ok (.iload_n 1, 1) := by decide +kernel
theorem dX6_row_37 : decode cX6_row 37 = .ok (.iaload, 1) := by decide +kernel
theorem dX6_row_38 : decode cX6_row 38 = .ok (.ireturn, 1) := by decide +kernel
set_option maxRecDepth 20000 in
theorem ggX6_time_X6_timeOf : GoodIn wsX6_time wsX6_timeOf := goodIn_r _ [8, 9, 10, 11, 12, 13, 14, 15, 16, 17, 18, 19, 20, 21, 22, 23, 24, 25, 26, 27, 28, 29, 30, 31, 32, 33, 34, 35, 36, 37, 38, 39, 40] (by decide +kernel) (by decide +kernel)
set_option maxRecDepth 20000 in
theorem gX6_time_X6_timeOf : GoodIn wsX6_time (wsV RX6 179 RX6 yX6_timeOf wsX6_timeOf) := goodIn_app (goodIn_of _ (by decide +kernel)) ggX6_time_X6_timeOf
theorem dX6_time_0 : decode cX6_time 0 = .ok (.aload_n 0, 1) := by decide +kernel
theorem dX6_time_1 : decode cX6_time 1 = .ok (.iconst 0, 1) := by decide +kernel
theorem dX6_time_2 : decode cX6_time 2 = .ok (.putfield 74, 3) := by decide +kernel
theorem dX6_time_5 : decode cX6_time 5 = .ok (.iload_n 1, 1) := by decide +kernel
theorem dX6_time_6 : decode cX6_time 6 = .ok (.ifCond .lt 19, 3) := by decide +kernel
theorem dX6_time_9 : decode cX6_time 9 = .ok (.iload_n 1, 1) := by decide +kernel
theorem dX6_time_10 : decode cX6_time 10 = .ok (.aload_n 0, 1) := by decide +kernel
theorem dX6_time_11 : decode cX6_time 11 = .ok (.getfield 65, 3) := by decide +kernel
theorem dX6_time_14 : decode cX6_time 14 = .ok (.if_icmp .ge 11, 3) := by decide +kernel
theorem dX6_time_17 : decode cX6_time 17 = .ok (.aload_n 0, 1) := by decide +kernel
theorem dX6_time_18 : decode cX6_time 18 = .ok (.iload_n 1, 1) := by decide +kernel
theorem dX6_time_19 : decode cX6_time 19 = .ok (.invokevirtual 179, 3) := by decide +kernel
theorem dX6_time_22 : decode cX6_time 22 = .ok (.goto 5, 3) := by decide +kernel
theorem dX6_time_25 : decode cX6_time 25 = .ok (.ldc 172, 2) := by decide +kernel
theorem dX6_time_27 : decode cX6_time 27 = .ok (.ireturn, 1) := by decide +kernel
set_option maxRecDepth 20000 in
theorem ggX6_dayAt_X6_timeOf : GoodIn wsX6_dayAt wsX6_timeOf := goodIn_r _ [8, 9, 10, 11, 12, 13, 14, 15, 16, 17, 18, 19, 20, 21, 22, 23, 24, 25, 26, 27, 28, 29, 30, 31, 32, 33, 34, 35, 36, 37, 38, 39, 40] (by decide +kernel) (by decide +kernel)
set_option maxRecDepth 20000 in
theorem gX6_dayAt_X6_timeOf : GoodIn wsX6_dayAt (wsV RX6 179 RX6 yX6_timeOf wsX6_timeOf) := goodIn_app (goodIn_of _ (by decide +kernel)) ggX6_dayAt_X6_timeOf
theorem dX6_dayAt_0 : decode cX6_dayAt 0 = .ok (.iconst 0, 1) := by decide +kernel
theorem dX6_dayAt_1 : decode cX6_dayAt 1 = .ok (.istore_n 2, 1) := by decide +kernel
theorem dX6_dayAt_2 : decode cX6_dayAt 2 = .ok (.iconst 0, 1) := by decide +kernel
theorem dX6_dayAt_3 : decode cX6_dayAt 3 = .ok (.istore_n 3, 1) := by decide +kernel
theorem dX6_dayAt_4 : decode cX6_dayAt 4 = .ok (.iload_n 3, 1) := by decide +kernel
theorem dX6_dayAt_5 : decode cX6_dayAt 5 = .ok (.aload_n 0, 1) := by decide +kernel
theorem dX6_dayAt_6 : decode cX6_dayAt 6 = .ok (.getfield 65, 3) := by decide +kernel
theorem dX6_dayAt_9 : decode cX6_dayAt 9 = .ok (.if_icmp .ge 56, 3) := by decide +kernel
theorem dX6_dayAt_12 : decode cX6_dayAt 12 = .ok (.iload_n 3, 1) := by decide +kernel
theorem dX6_dayAt_13 : decode cX6_dayAt 13 = .ok (.ifCond .le 36, 3) := by decide +kernel
theorem dX6_dayAt_16 : decode cX6_dayAt 16 = .ok (.aload_n 0, 1) := by decide +kernel
theorem dX6_dayAt_17 : decode cX6_dayAt 17 = .ok (.aload_n 0, 1) := by decide +kernel
theorem dX6_dayAt_18 : decode cX6_dayAt 18 = .ok (.getfield 71, 3) := by decide +kernel
theorem dX6_dayAt_21 : decode cX6_dayAt 21 = .ok (.iload_n 3, 1) := by decide +kernel
theorem dX6_dayAt_22 : decode cX6_dayAt 22 = .ok (.iaload, 1) := by decide +kernel
theorem dX6_dayAt_23 : decode cX6_dayAt 23 = .ok (.invokevirtual 179, 3) := by decide +kernel
theorem dX6_dayAt_26 : decode cX6_dayAt 26 = .ok (.aload_n 0, 1) := by decide +kernel
theorem dX6_dayAt_27 : decode cX6_dayAt 27 = .ok (.aload_n 0, 1) := by decide +kernel
theorem dX6_dayAt_28 : decode cX6_dayAt 28 = .ok (.getfield 71, 3) := by decide +kernel
theorem dX6_dayAt_31 : decode cX6_dayAt 31 = .ok (.iload_n 3, 1) := by decide +kernel
theorem dX6_dayAt_32 : decode cX6_dayAt 32 = .ok (.iconst 1, 1) := by decide +kernel
theorem dX6_dayAt_33 : decode cX6_dayAt 33 = .ok (.isub, 1) := by decide +kernel
theorem dX6_dayAt_34 : decode cX6_dayAt 34 = .ok (.iaload, 1) := by decide +kernel
theorem dX6_dayAt_35 : decode cX6_dayAt 35 = .ok (.invokevirtual 179, 3) := by decide +kernel
theorem dX6_dayAt_38 : decode cX6_dayAt 38 = .ok (.isub, 1) := by decide +kernel
theorem dX6_dayAt_39 : decode cX6_dayAt 39 = .ok (.aload_n 0, 1) := by decide +kernel
theorem dX6_dayAt_40 : decode cX6_dayAt 40 = .ok (.getfield 7, 3) := by decide +kernel
theorem dX6_dayAt_43 : decode cX6_dayAt 43 = .ok (.if_icmp .gt 6, 3) := by decide +kernel
theorem dX6_dayAt_46 : decode cX6_dayAt 46 = .ok (.goto 13, 3) := by decide +kernel
theorem dX6_dayAt_49 : decode cX6_dayAt 49 = .ok (.iload_n 2, 1) := by decide +kernel
theorem dX6_dayAt_50 : decode cX6_dayAt 50 = .ok (.iload_n 1, 1) := by decide +kernel
theorem dX6_dayAt_51 : decode cX6_dayAt 51 = .ok (.if_icmp .ne 5, 3) := by decide +kernel
theorem dX6_dayAt_54 : decode cX6_dayAt 54 = .ok (.iload_n 3, 1) := by decide +kernel
theorem dX6_dayAt_55 : decode cX6_dayAt 55 = .ok (.ireturn, 1) := by decide +kernel
theorem dX6_dayAt_56 : decode cX6_dayAt 56 = .ok (.iinc 2 1, 3) := by decide +kernel
theorem dX6_dayAt_59 : decode cX6_dayAt 59 = .ok (.iinc 3 1, 3) := by decide +kernel
theorem dX6_dayAt_62 : decode cX6_dayAt 62 = .ok (.goto (-58), 3) := by decide +kernel
theorem dX6_dayAt_65 : decode cX6_dayAt 65 = .ok (.iload_n 3, 1) := by decide +kernel
theorem dX6_dayAt_66 : decode cX6_dayAt 66 = .ok (.ireturn, 1) := by decide +kernel
set_option maxRecDepth 20000 in
theorem ggX6_days_X6_dayAt : GoodIn wsX6_days wsX6_dayAt := goodIn_r _ [7, 2, 8, 9, 10, 11, 12, 6, 13, 14, 15, 16, 17, 18, 19, 20, 21, 22, 23, 24, 25, 26, 27, 28, 29, 30, 31, 32, 33, 34, 35, 36, 37, 38, 39, 40, 41, 42, 43, 44, 45] (by decide +kernel) (by decide +kernel)
set_option maxRecDepth 20000 in
theorem gX6_days_X6_dayAt : GoodIn wsX6_days (wsV RX6 189 RX6 yX6_dayAt wsX6_dayAt) := goodIn_app (goodIn_of _ (by decide +kernel)) ggX6_days_X6_dayAt
theorem dX6_days_0 : decode cX6_days 0 = .ok (.aload_n 0, 1) := by decide +kernel
theorem dX6_days_1 : decode cX6_days 1 = .ok (.iconst 0, 1) := by decide +kernel
theorem dX6_days_2 : decode cX6_days 2 = .ok (.putfield 74, 3) := by decide +kernel
theorem dX6_days_5 : decode cX6_days 5 = .ok (.aload_n 0, 1) := by decide +kernel
theorem dX6_days_6 : decode cX6_days 6 = .ok (.getfield 65, 3) := by decide +kernel
theorem dX6_days_9 : decode cX6_days 9 = .ok (.iconst (-1), 1) := by decide +kernel
theorem dX6_days_10 : decode cX6_days 10 = .ok (.if_icmp .ne 5, 3) := by decide +kernel
theorem dX6_days_13 : decode cX6_days 13 = .ok (.iconst (-1), 1) := by decide +kernel
theorem dX6_days_14 : decode cX6_days 14 = .ok (.ireturn, 1) := by decide +kernel
theorem dX6_days_15 : decode cX6_days 15 = .ok (.iconst 0, 1) := by decide +kernel
theorem dX6_days_16 : decode cX6_days 16 = .ok (.istore_n 1, 1) := by decide +kernel
theorem dX6_days_17 : decode cX6_days 17 = .ok (.aload_n 0, 1) := by decide +kernel
theorem dX6_days_18 : decode cX6_days 18 = .ok (.iload_n 1, 1) := by decide +kernel
theorem dX6_days_19 : decode cX6_days 19 = .ok (.invokevirtual 189, 3) := by decide +kernel
theorem dX6_days_22 : decode cX6_days 22 = .ok (.aload_n 0, 1) := by decide +kernel
theorem dX6_days_23 : decode cX6_days 23 = .ok (.getfield 65, 3) := by decide +kernel
theorem dX6_days_26 : decode cX6_days 26 = .ok (.if_icmp .ge 9, 3) := by decide +kernel
theorem dX6_days_29 : decode cX6_days 29 = .ok (.iinc 1 1, 3) := by decide +kernel
theorem dX6_days_32 : decode cX6_days 32 = .ok (.goto (-15), 3) := by decide +kernel
theorem dX6_days_35 : decode cX6_days 35 = .ok (.iload_n 1, 1) := by decide +kernel
theorem dX6_days_36 : decode cX6_days 36 = .ok (.ireturn, 1) := by decide +kernel
set_option maxRecDepth 20000 in
theorem ggX6_day_X6_dayAt : GoodIn wsX6_day wsX6_dayAt := goodIn_r _ [8, 2, 3, 9, 10, 11, 12, 7, 13, 14, 15, 16, 17, 18, 19, 20, 21, 22, 23, 24, 25, 26, 27, 28, 29, 30, 31, 32, 33, 34, 35, 36, 37, 38, 39, 40, 41, 42, 43, 44, 45] (by decide +kernel) (by decide +kernel)
set_option maxRecDepth 20000 in
theorem gX6_day_X6_dayAt : GoodIn wsX6_day (wsV RX6 189 RX6 yX6_dayAt wsX6_dayAt) := goodIn_app (goodIn_of _ (by decide +kernel)) ggX6_day_X6_dayAt
set_option maxRecDepth 20000 in
theorem ggX6_day_X6_timeOf : GoodIn wsX6_day wsX6_timeOf := goodIn_r _ [13, 14, 15, 16, 17, 18, 19, 20, 21, 22, 23, 24, 25, 26, 27, 28, 29, 30, 31, 32, 33, 34, 35, 36, 37, 38, 39, 40, 41, 42, 43, 44, 45] (by decide +kernel) (by decide +kernel)
set_option maxRecDepth 20000 in
theorem gX6_day_X6_timeOf : GoodIn wsX6_day (wsV RX6 179 RX6 yX6_timeOf wsX6_timeOf) := goodIn_app (goodIn_of _ (by decide +kernel)) ggX6_day_X6_timeOf
theorem dX6_day_0 : decode cX6_day 0 = .ok (.aload_n 0, 1) := by decide +kernel
theorem dX6_day_1 : decode cX6_day 1 = .ok (.iconst 0, 1) := by decide +kernel
theorem dX6_day_2 : decode cX6_day 2 = .ok (.putfield 74, 3) := by decide +kernel
theorem dX6_day_5 : decode cX6_day 5 = .ok (.aload_n 0, 1) := by decide +kernel
theorem dX6_day_6 : decode cX6_day 6 = .ok (.getfield 65, 3) := by decide +kernel
theorem dX6_day_9 : decode cX6_day 9 = .ok (.iconst (-1), 1) := by decide +kernel
theorem dX6_day_10 : decode cX6_day 10 = .ok (.if_icmp .eq 19, 3) := by decide +kernel
theorem dX6_day_13 : decode cX6_day 13 = .ok (.iload_n 1, 1) := by decide +kernel
theorem dX6_day_14 : decode cX6_day 14 = .ok (.ifCond .lt 15, 3) := by decide +kernel
theorem dX6_day_17 : decode cX6_day 17 = .ok (.aload_n 0, 1) := by decide +kernel
theorem dX6_day_18 : decode cX6_day 18 = .ok (.iload_n 1, 1) := by decide +kernel
theorem dX6_day_19 : decode cX6_day 19 = .ok (.invokevirtual 189, 3) := by decide +kernel
theorem dX6_day_22 : decode cX6_day 22 = .ok (.aload_n 0, 1) := by decide +kernel
theorem dX6_day_23 : decode cX6_day 23 = .ok (.getfield 65, 3) := by decide +kernel
theorem dX6_day_26 : decode cX6_day 26 = .ok (.if_icmp .lt 5, 3) := by decide +kernel
theorem dX6_day_29 : decode cX6_day 29 = .ok (.iconst (-1), 1) := by decide +kernel
theorem dX6_day_30 : decode cX6_day 30 = .ok (.ireturn, 1) := by decide +kernel
theorem dX6_day_31 : decode cX6_day 31 = .ok (.aload_n 0, 1) := by decide +kernel
theorem dX6_day_32 : decode cX6_day 32 = .ok (.iload_n 1, 1) := by decide +kernel
theorem dX6_day_33 : decode cX6_day 33 = .ok (.invokevirtual 189, 3) := by decide +kernel
theorem dX6_day_36 : decode cX6_day 36 = .ok (.istore_n 3, 1) := by decide +kernel
theorem dX6_day_37 : decode cX6_day 37 = .ok (.aload_n 0, 1) := by decide +kernel
theorem dX6_day_38 : decode cX6_day 38 = .ok (.iload_n 1, 1) := by decide +kernel
theorem dX6_day_39 : decode cX6_day 39 = .ok (.iconst 1, 1) := by decide +kernel
theorem dX6_day_40 : decode cX6_day 40 = .ok (.iadd, 1) := by decide +kernel
theorem dX6_day_41 : decode cX6_day 41 = .ok (.invokevirtual 189, 3) := by decide +kernel
theorem dX6_day_44 : decode cX6_day 44 = .ok (.istore 4, 2) := by decide +kernel
theorem dX6_day_46 : decode cX6_day 46 = .ok (.iload_n 2, 1) := by decide +kernel
theorem dX6_day_47 : decode cX6_day 47 = .ok (.ifCond .ne 7, 3) := by decide +kernel
theorem dX6_day_50 : decode cX6_day 50 = .ok (.iload_n 3, 1) := by decide +kernel
theorem dX6_day_51 : decode cX6_day 51 = .ok (.goto 48, 3) := by decide +kernel
theorem dX6_day_54 : decode cX6_day 54 = .ok (.iload_n 2, 1) := by decide +kernel
theorem dX6_day_55 : decode cX6_day 55 = .ok (.iconst 1, 1) := by decide +kernel
theorem dX6_day_56 : decode cX6_day 56 = .ok (.if_icmp .ne 10, 3) := by decide +kernel
theorem dX6_day_59 : decode cX6_day 59 = .ok (.iload 4, 2) := by decide +kernel
theorem dX6_day_61 : decode cX6_day 61 = .ok (.iload_n 3, 1) := by decide +kernel
theorem dX6_day_62 : decode cX6_day 62 = .ok (.isub, 1) := by decide +kernel
theorem dX6_day_63 : decode cX6_day 63 = .ok (.goto 36, 3) := by decide +kernel
theorem dX6_day_66 : decode cX6_day 66 = .ok (.iload_n 2, 1) := by decide +kernel
theorem dX6_day_67 : decode cX6_day 67 = .ok (.iconst 2, 1) := by decide +kernel
theorem dX6_day_68 : decode cX6_day 68 = .ok (.if_icmp .ne 30, 3) := by decide +kernel
theorem dX6_day_71 : decode cX6_day 71 = .ok (.aload_n 0, 1) := by decide +kernel
theorem dX6_day_72 : decode cX6_day 72 = .ok (.aload_n 0, 1) := by decide +kernel
theorem dX6_day_73 : decode cX6_day 73 = .ok (.getfield 71, 3) := by decide +kernel
theorem dX6_day_76 : decode cX6_day 76 = .ok (.iload 4, 2) := by decide +kernel
theorem dX6_day_78 : decode cX6_day 78 = .ok (.iconst 1, 1) := by decide +kernel
theorem dX6_day_79 : decode cX6_day 79 = .ok (.isub, 1) := by decide +kernel
theorem dX6_day_80 : decode cX6_day 80 = .ok (.iaload, 1) := by decide +kernel
theorem dX6_day_81 : decode cX6_day 81 = .ok (.invokevirtual 179, 3) := by decide +kernel
theorem dX6_day_84 : decode cX6_day 84 = .ok (.aload_n 0, 1) := by decide +kernel
theorem dX6_day_85 : decode cX6_day 85 = .ok (.aload_n 0, 1) := by decide +kernel
theorem dX6_day_86 : decode cX6_day 86 = .ok (.getfield 71, 3) := by decide +kernel
theorem dX6_day_89 : decode cX6_day 89 = .ok (.iload_n 3, 1) := by decide +kernel
theorem dX6_day_90 : decode cX6_day 90 = .ok (.iaload, 1) := by decide +kernel
theorem dX6_day_91 : decode cX6_day 91 = .ok (.invokevirtual 179, 3) := by decide +kernel
theorem dX6_day_94 : decode cX6_day 94 = .ok (.isub, 1) := by decide +kernel
theorem dX6_day_95 : decode cX6_day 95 = .ok (.goto 4, 3) := by decide +kernel
theorem dX6_day_98 : decode cX6_day 98 = .ok (.iconst (-1), 1) := by decide +kernel
theorem dX6_day_99 : decode cX6_day 99 = .ok (.ireturn, 1) := by decide +kernel
theorem dX6_bits_0 : decode cX6_bits 0 = .ok (.iconst 0, 1) := by decide +kernel
theorem dX6_bits_1 : decode cX6_bits 1 = .ok (.istore_n 1, 1) := by decide +kernel
theorem dX6_bits_2 : decode cX6_bits 2 = .ok (.iload_n 0, 1) := by decide +kernel
theorem dX6_bits_3 : decode cX6_bits 3 = .ok (.istore_n 2, 1) := by decide +kernel
theorem dX6_bits_4 : decode cX6_bits 4 = .ok (.iload_n 2, 1) := by decide +kernel
theorem dX6_bits_5 : decode cX6_bits 5 = .ok (.ifCond .eq 15, 3) := by decide +kernel
theorem dX6_bits_8 : decode cX6_bits 8 = .ok (.iinc 1 1, 3) := by decide +kernel
theorem dX6_bits_11 : decode cX6_bits 11 = .ok (.iload_n 2, 1) := by decide +kernel
theorem dX6_bits_12 : decode cX6_bits 12 = .ok (.iload_n 2, 1) := by decide +kernel
theorem dX6_bits_13 : decode cX6_bits 13 = .ok (.iconst 1, 1) := by decide +kernel
theorem dX6_bits_14 : decode cX6_bits 14 = .ok (.isub, 1) := by decide +kernel
theorem dX6_bits_15 : decode cX6_bits 15 = .ok (.iand, 1) := by decide +kernel
theorem dX6_bits_16 : decode cX6_bits 16 = .ok (.istore_n 2, 1) := by decide +kernel
theorem dX6_bits_17 : decode cX6_bits 17 = .ok (.goto (-13), 3) := by decide +kernel
theorem dX6_bits_20 : decode cX6_bits 20 = .ok (.iload_n 1, 1) := by decide +kernel
theorem dX6_bits_21 : decode cX6_bits 21 = .ok (.ireturn, 1) := by decide +kernel
set_option maxRecDepth 20000 in
theorem ggX6_runs_X6_timeOf : GoodIn wsX6_runs wsX6_timeOf := goodIn_r _ [14, 15, 16, 4, 20, 21, 22, 23, 24, 25, 26, 27, 28, 29, 30, 31, 32, 33, 34, 35, 36, 37, 38, 39, 40, 41, 42, 43, 44, 45, 46, 47, 48] (by decide +kernel) (by decide +kernel)
set_option maxRecDepth 20000 in
theorem gX6_runs_X6_timeOf : GoodIn wsX6_runs (wsV RX6 179 RX6 yX6_timeOf wsX6_timeOf) := goodIn_app (goodIn_of _ (by decide +kernel)) ggX6_runs_X6_timeOf
set_option maxRecDepth 20000 in
theorem ggX6_runs_X6_bits : GoodIn wsX6_runs wsX6_bits := goodIn_r _ [19] (by decide +kernel) (by decide +kernel)
set_option maxRecDepth 20000 in
theorem gX6_runs_X6_bits : GoodIn wsX6_runs (va_wsS RX6 192 yX6_bits wsX6_bits) := goodIn_app (goodIn_of _ (by decide +kernel)) ggX6_runs_X6_bits
theorem dX6_runs_0 : decode cX6_runs 0 = .ok (.iconst 0, 1) := by decide +kernel
theorem dX6_runs_1 : decode cX6_runs 1 = .ok (.istore_n 2, 1) := by decide +kernel
theorem dX6_runs_2 : decode cX6_runs 2 = .ok (.iconst 0, 1) := by decide +kernel
theorem dX6_runs_3 : decode cX6_runs 3 = .ok (.istore_n 3, 1) := by decide +kernel
theorem dX6_runs_4 : decode cX6_runs 4 = .ok (.iconst 0, 1) := by decide +kernel
theorem dX6_runs_5 : decode cX6_runs 5 = .ok (.istore 4, 2) := by decide +kernel
theorem dX6_runs_7 : decode cX6_runs 7 = .ok (.iload 4, 2) := by decide +kernel
theorem dX6_runs_9 : decode cX6_runs 9 = .ok (.aload_n 0, 1) := by decide +kernel
theorem dX6_runs_10 : decode cX6_runs 10 = .ok (.getfield 182, 3) := by decide +kernel
theorem dX6_runs_13 : decode cX6_runs 13 = .ok (.if_icmp .ge 159, 3) := by decide +kernel
theorem dX6_runs_16 : decode cX6_runs 16 = .ok (.iconst (-1), 1) := by decide +kernel
theorem dX6_runs_17 : decode cX6_runs 17 = .ok (.istore 5, 2) := by decide +kernel
theorem dX6_runs_19 : decode cX6_runs 19 = .ok (.iconst 0, 1) := by decide +kernel
theorem dX6_runs_20 : decode cX6_runs 20 = .ok (.istore 6, 2) := by decide +kernel
theorem dX6_runs_22 : decode cX6_runs 22 = .ok (.iconst 0, 1) := by decide +kernel
theorem dX6_runs_23 : decode cX6_runs 23 = .ok (.istore 7, 2) := by decide +kernel
theorem dX6_runs_25 : decode cX6_runs 25 = .ok (.iload 7, 2) := by decide +kernel
theorem dX6_runs_27 : decode cX6_runs 27 = .ok (.aload_n 0, 1) := by decide +kernel
theorem dX6_runs_28 : decode cX6_runs 28 = .ok (.getfield 65, 3) := by decide +kernel
theorem dX6_runs_31 : decode cX6_runs 31 = .ok (.if_icmp .ge 135, 3) := by decide +kernel
theorem dX6_runs_34 : decode cX6_runs 34 = .ok (.aload_n 0, 1) := by decide +kernel
theorem dX6_runs_35 : decode cX6_runs 35 = .ok (.getfield 71, 3) := by decide +kernel
theorem dX6_runs_38 : decode cX6_runs 38 = .ok (.iload 7, 2) := by decide +kernel
theorem dX6_runs_40 : decode cX6_runs 40 = .ok (.iaload, 1) := by decide +kernel
theorem dX6_runs_41 : decode cX6_runs 41 = .ok (.istore 8, 2) := by decide +kernel
theorem dX6_runs_43 : decode cX6_runs 43 = .ok (.aload_n 0, 1) := by decide +kernel
theorem dX6_runs_44 : decode cX6_runs 44 = .ok (.getfield 20, 3) := by decide +kernel
theorem dX6_runs_47 : decode cX6_runs 47 = .ok (.iload 8, 2) := by decide +kernel
theorem dX6_runs_49 : decode cX6_runs 49 = .ok (.iaload, 1) := by decide +kernel
theorem dX6_runs_50 : decode cX6_runs 50 = .ok (.iload 4, 2) := by decide +kernel
theorem dX6_runs_52 : decode cX6_runs 52 = .ok (.if_icmp .eq 6, 3) := by decide +kernel
theorem dX6_runs_55 : decode cX6_runs 55 = .ok (.goto 105, 3) := by decide +kernel
theorem dX6_runs_58 : decode cX6_runs 58 = .ok (.iload 5, 2) := by decide +kernel
theorem dX6_runs_60 : decode cX6_runs 60 = .ok (.iconst (-1), 1) := by decide +kernel
theorem dX6_runs_61 : decode cX6_runs 61 = .ok (.if_icmp .eq 46, 3) := by decide +kernel
theorem dX6_runs_64 : decode cX6_runs 64 = .ok (.aload_n 0, 1) := by decide +kernel
theorem dX6_runs_65 : decode cX6_runs 65 = .ok (.iload 8, 2) := by decide +kernel
theorem dX6_runs_67 : decode cX6_runs 67 = .ok (.invokevirtual 179, 3) := by decide +kernel
theorem dX6_runs_70 : decode cX6_runs 70 = .ok (.aload_n 0, 1) := by decide +kernel
theorem dX6_runs_71 : decode cX6_runs 71 = .ok (.iload 5, 2) := by decide +kernel
theorem dX6_runs_73 : decode cX6_runs 73 = .ok (.invokevirtual 179, 3) := by decide +kernel
theorem dX6_runs_76 : decode cX6_runs 76 = .ok (.isub, 1) := by decide +kernel
theorem dX6_runs_77 : decode cX6_runs 77 = .ok (.iconst 2, 1) := by decide +kernel
theorem dX6_runs_78 : decode cX6_runs 78 = .ok (.if_icmp .gt 29, 3) := by decide +kernel
theorem dX6_runs_81 : decode cX6_runs 81 = .ok (.aload_n 0, 1) := by decide +kernel
theorem dX6_runs_82 : decode cX6_runs 82 = .ok (.getfield 26, 3) := by decide +kernel
theorem dX6_runs_85 : decode cX6_runs 85 = .ok (.iload 8, 2) := by decide +kernel
theorem dX6_runs_87 : decode cX6_runs 87 = .ok (.iaload, 1) := by decide +kernel
theorem dX6_runs_88 : decode cX6_runs 88 = .ok (.aload_n 0, 1) := by decide +kernel
theorem dX6_runs_89 : decode cX6_runs 89 = .ok (.getfield 26, 3) := by decide +kernel
theorem dX6_runs_92 : decode cX6_runs 92 = .ok (.iload 5, 2) := by decide +kernel
theorem dX6_runs_94 : decode cX6_runs 94 = .ok (.iaload, 1) := by decide +kernel
theorem dX6_runs_95 : decode cX6_runs 95 = .ok (.ixor, 1) := by decide +kernel
theorem dX6_runs_96 : decode cX6_runs 96 = .ok (.invokestatic 192, 3) := by decide +kernel
theorem dX6_runs_99 : decode cX6_runs 99 = .ok (.iconst 2, 1) := by decide +kernel
theorem dX6_runs_100 : decode cX6_runs 100 = .ok (.if_icmp .gt 7, 3) := by decide +kernel
theorem dX6_runs_103 : decode cX6_runs 103 = .ok (.iconst 1, 1) := by decide +kernel
theorem dX6_runs_104 : decode cX6_runs 104 = .ok (.goto 4, 3) := by decide +kernel
theorem dX6_runs_107 : decode cX6_runs 107 = .ok (.iconst 0, 1) := by decide +kernel
theorem dX6_runs_108 : decode cX6_runs 108 = .ok (.istore 9, 2) := by decide +kernel
theorem dX6_runs_110 : decode cX6_runs 110 = .ok (.iload 9, 2) := by decide +kernel
theorem dX6_runs_112 : decode cX6_runs 112 = .ok (.ifCond .eq 10, 3) := by decide +kernel
theorem dX6_runs_115 : decode cX6_runs 115 = .ok (.iload 6, 2) := by decide +kernel
theorem dX6_runs_117 : decode cX6_runs 117 = .ok (.iconst 1, 1) := by decide +kernel
theorem dX6_runs_118 : decode cX6_runs 118 = .ok (.iadd, 1) := by decide +kernel
theorem dX6_runs_119 : decode cX6_runs 119 = .ok (.goto 4, 3) := by decide +kernel
theorem dX6_runs_122 : decode cX6_runs 122 = .ok (.iconst 1, 1) := by decide +kernel
theorem dX6_runs_123 : decode cX6_runs 123 = .ok (.istore 6, 2) := by decide +kernel
theorem dX6_runs_125 : decode cX6_runs 125 = .ok (.iload_n 2, 1) := by decide +kernel
theorem dX6_runs_126 : decode cX6_runs 126 = .ok (.iload 6, 2) := by decide +kernel
theorem dX6_runs_128 : decode cX6_runs 128 = .ok (.iconst 2, 1) := by decide +kernel
theorem dX6_runs_129 : decode cX6_runs 129 = .ok (.if_icmp .ne 7, 3) := by decide +kernel
theorem dX6_runs_132 : decode cX6_runs 132 = .ok (.iconst 1, 1) := by decide +kernel
theorem dX6_runs_133 : decode cX6_runs 133 = .ok (.goto 4, 3) := by decide +kernel
theorem dX6_runs_136 : decode cX6_runs 136 = .ok (.iconst 0, 1) := by decide +kernel
theorem dX6_runs_137 : decode cX6_runs 137 = .ok (.iadd, 1) := by decide +kernel
theorem dX6_runs_138 : decode cX6_runs 138 = .ok (.istore_n 2, 1) := by decide +kernel
theorem dX6_runs_139 : decode cX6_runs 139 = .ok (.iload 6, 2) := by decide +kernel
theorem dX6_runs_141 : decode cX6_runs 141 = .ok (.iconst 1, 1) := by decide +kernel
theorem dX6_runs_142 : decode cX6_runs 142 = .ok (.if_icmp .le 12, 3) := by decide +kernel
theorem dX6_runs_145 : decode cX6_runs 145 = .ok (.iload_n 3, 1) := by decide +kernel
theorem dX6_runs_146 : decode cX6_runs 146 = .ok (.iload 6, 2) := by decide +kernel
theorem dX6_runs_148 : decode cX6_runs 148 = .ok (.invokestatic 195, 3) := by decide +kernel
theorem dX6_runs_151 : decode cX6_runs 151 = .ok (.goto 4, 3) := by decide +kernel
theorem dX6_runs_154 : decode cX6_runs 154 = .ok (.iload_n 3, 1) := by decide +kernel
theorem dX6_runs_155 : decode cX6_runs 155 = .ok (.istore_n 3, 1) := by decide +kernel
theorem dX6_runs_156 : decode cX6_runs 156 = .ok (.iload 8, 2) := by decide +kernel
theorem dX6_runs_158 : decode cX6_runs 158 = .ok (.istore 5, 2) := by decide +kernel
theorem dX6_runs_160 : decode cX6_runs 160 = .ok (.iinc 7 1, 3) := by decide +kernel
theorem dX6_runs_163 : decode cX6_runs 163 = .ok (.goto (-138), 3) := by decide +kernel
theorem dX6_runs_166 : decode cX6_runs 166 = .ok (.iinc 4 1, 3) := by decide +kernel
theorem dX6_runs_169 : decode cX6_runs 169 = .ok (.goto (-162), 3) := by decide +kernel
theorem dX6_runs_172 : decode cX6_runs 172 = .ok (.iload_n 1, 1) := by decide +kernel
theorem dX6_runs_173 : decode cX6_runs 173 = .ok (.ifCond .eq 7, 3) := by decide +kernel
theorem dX6_runs_176 : decode cX6_runs 176 = .ok (.iload_n 3, 1) := by decide +kernel
theorem dX6_runs_177 : decode cX6_runs 177 = .ok (.goto 4, 3) := by decide +kernel
theorem dX6_runs_180 : decode cX6_runs 180 = .ok (.iload_n 2, 1) := by decide +kernel
theorem dX6_runs_181 : decode cX6_runs 181 = .ok (.ireturn, 1) := by decide +kernel
set_option maxRecDepth 20000 in
theorem ggX6_bursts_X6_runs : GoodIn wsX6_bursts wsX6_runs := goodIn_r _ [7, 8, 2, 9, 10, 11, 12, 13, 14, 15, 16, 17, 18, 6, 19, 20, 21, 22, 23, 24, 25, 26, 27, 28, 29, 30, 31, 32, 33, 34, 35, 36, 37, 38, 39, 40, 41, 42, 43, 44, 45, 46, 47, 48, 49, 50, 51, 52, 53] (by decide +kernel) (by decide +kernel)
set_option maxRecDepth 20000 in
theorem gX6_bursts_X6_runs : GoodIn wsX6_bursts (wsV RX6 198 RX6 yX6_runs wsX6_runs) := goodIn_app (goodIn_of _ (by decide +kernel)) ggX6_bursts_X6_runs
theorem dX6_bursts_0 : decode cX6_bursts 0 = .ok (.aload_n 0, 1) := by decide +kernel
theorem dX6_bursts_1 : decode cX6_bursts 1 = .ok (.iconst 0, 1) := by decide +kernel
theorem dX6_bursts_2 : decode cX6_bursts 2 = .ok (.putfield 74, 3) := by decide +kernel
theorem dX6_bursts_5 : decode cX6_bursts 5 = .ok (.aload_n 0, 1) := by decide +kernel
theorem dX6_bursts_6 : decode cX6_bursts 6 = .ok (.getfield 65, 3) := by decide +kernel
theorem dX6_bursts_9 : decode cX6_bursts 9 = .ok (.iconst (-1), 1) := by decide +kernel
theorem dX6_bursts_10 : decode cX6_bursts 10 = .ok (.if_icmp .ne 7, 3) := by decide +kernel
theorem dX6_bursts_13 : decode cX6_bursts 13 = .ok (.iconst (-1), 1) := by decide +kernel
theorem dX6_bursts_14 : decode cX6_bursts 14 = .ok (.goto 8, 3) := by decide +kernel
theorem dX6_bursts_17 : decode cX6_bursts 17 = .ok (.aload_n 0, 1) := by decide +kernel
theorem dX6_bursts_18 : decode cX6_bursts 18 = .ok (.iconst 0, 1) := by decide +kernel
theorem dX6_bursts_19 : decode cX6_bursts 19 = .ok (.invokevirtual 198, 3) := by decide +kernel
theorem dX6_bursts_22 : decode cX6_bursts 22 = .ok (.ireturn, 1) := by decide +kernel
set_option maxRecDepth 20000 in
theorem ggX6_longest_X6_runs : GoodIn wsX6_longest wsX6_runs := goodIn_r _ [7, 8, 2, 9, 10, 11, 12, 13, 14, 15, 16, 17, 18, 6, 19, 20, 21, 22, 23, 24, 25, 26, 27, 28, 29, 30, 31, 32, 33, 34, 35, 36, 37, 38, 39, 40, 41, 42, 43, 44, 45, 46, 47, 48, 49, 50, 51, 52, 53] (by decide +kernel) (by decide +kernel)
set_option maxRecDepth 20000 in
theorem gX6_longest_X6_runs : GoodIn wsX6_longest (wsV RX6 198 RX6 yX6_runs wsX6_runs) := goodIn_app (goodIn_of _ (by decide +kernel)) ggX6_longest_X6_runs
theorem dX6_longest_0 : decode cX6_longest 0 = .ok (.aload_n 0, 1) := by decide +kernel
theorem dX6_longest_1 : decode cX6_longest 1 = .ok (.iconst 0, 1) := by decide +kernel
theorem dX6_longest_2 : decode cX6_longest 2 = .ok (.putfield 74, 3) := by decide +kernel
theorem dX6_longest_5 : decode cX6_longest 5 = .ok (.aload_n 0, 1) := by decide +kernel
theorem dX6_longest_6 : decode cX6_longest 6 = .ok (.getfield 65, 3) := by decide +kernel
theorem dX6_longest_9 : decode cX6_longest 9 = .ok (.iconst (-1), 1) := by decide +kernel
theorem dX6_longest_10 : decode cX6_longest 10 = .ok (.if_icmp .ne 7, 3) := by decide +kernel
theorem dX6_longest_13 : decode cX6_longest 13 = .ok (.iconst (-1), 1) := by decide +kernel
theorem dX6_longest_14 : decode cX6_longest 14 = .ok (.goto 8, 3) := by decide +kernel
theorem dX6_longest_17 : decode cX6_longest 17 = .ok (.aload_n 0, 1) := by decide +kernel
theorem dX6_longest_18 : decode cX6_longest 18 = .ok (.iconst 1, 1) := by decide +kernel
theorem dX6_longest_19 : decode cX6_longest 19 = .ok (.invokevirtual 198, 3) := by decide +kernel
theorem dX6_longest_22 : decode cX6_longest 22 = .ok (.ireturn, 1) := by decide +kernel
set_option maxRecDepth 20000 in
theorem ggX6_doubles_X6_timeOf : GoodIn wsX6_doubles wsX6_timeOf := goodIn_r _ [13, 14, 15, 3, 16, 17, 18, 19, 20, 21, 22, 23, 24, 25, 26, 27, 28, 29, 30, 31, 32, 33, 34, 35, 36, 37, 38, 39, 40, 41, 42, 43, 44] (by decide +kernel) (by decide +kernel)
set_option maxRecDepth 20000 in
theorem gX6_doubles_X6_timeOf : GoodIn wsX6_doubles (wsV RX6 179 RX6 yX6_timeOf wsX6_timeOf) := goodIn_app (goodIn_of _ (by decide +kernel)) ggX6_doubles_X6_timeOf
theorem dX6_doubles_0 : decode cX6_doubles 0 = .ok (.aload_n 0, 1) := by decide +kernel
theorem dX6_doubles_1 : decode cX6_doubles 1 = .ok (.iconst 0, 1) := by decide +kernel
theorem dX6_doubles_2 : decode cX6_doubles 2 = .ok (.putfield 74, 3) := by decide +kernel
theorem dX6_doubles_5 : decode cX6_doubles 5 = .ok (.aload_n 0, 1) := by decide +kernel
theorem dX6_doubles_6 : decode cX6_doubles 6 = .ok (.getfield 65, 3) := by decide +kernel
theorem dX6_doubles_9 : decode cX6_doubles 9 = .ok (.iconst (-1), 1) := by decide +kernel
theorem dX6_doubles_10 : decode cX6_doubles 10 = .ok (.if_icmp .ne 5, 3) := by decide +kernel
theorem dX6_doubles_13 : decode cX6_doubles 13 = .ok (.iconst (-1), 1) := by decide +kernel
theorem dX6_doubles_14 : decode cX6_doubles 14 = .ok (.ireturn, 1) := by decide +kernel
theorem dX6_doubles_15 : decode cX6_doubles 15 = .ok (.iconst 0, 1) := by decide +kernel
theorem dX6_doubles_16 : decode cX6_doubles 16 = .ok (.istore_n 1, 1) := by decide +kernel
theorem dX6_doubles_17 : decode cX6_doubles 17 = .ok (.iconst 0, 1) := by decide +kernel
theorem dX6_doubles_18 : decode cX6_doubles 18 = .ok (.istore_n 2, 1) := by decide +kernel
theorem dX6_doubles_19 : decode cX6_doubles 19 = .ok (.iload_n 2, 1) := by decide +kernel
theorem dX6_doubles_20 : decode cX6_doubles 20 = .ok (.aload_n 0, 1) := by decide +kernel
theorem dX6_doubles_21 : decode cX6_doubles 21 = .ok (.getfield 65, 3) := by decide +kernel
theorem dX6_doubles_24 : decode cX6_doubles 24 = .ok (.if_icmp .ge 87, 3) := by decide +kernel
theorem dX6_doubles_27 : decode cX6_doubles 27 = .ok (.iconst 0, 1) := by decide +kernel
theorem dX6_doubles_28 : decode cX6_doubles 28 = .ok (.istore_n 3, 1) := by decide +kernel
theorem dX6_doubles_29 : decode cX6_doubles 29 = .ok (.iload_n 3, 1) := by decide +kernel
theorem dX6_doubles_30 : decode cX6_doubles 30 = .ok (.iload_n 2, 1) := by decide +kernel
theorem dX6_doubles_31 : decode cX6_doubles 31 = .ok (.if_icmp .ge 74, 3) := by decide +kernel
theorem dX6_doubles_34 : decode cX6_doubles 34 = .ok (.iload_n 1, 1) := by decide +kernel
theorem dX6_doubles_35 : decode cX6_doubles 35 = .ok (.aload_n 0, 1) := by decide +kernel
theorem dX6_doubles_36 : decode cX6_doubles 36 = .ok (.getfield 20, 3) := by decide +kernel
theorem dX6_doubles_39 : decode cX6_doubles 39 = .ok (.iload_n 2, 1) := by decide +kernel
theorem dX6_doubles_40 : decode cX6_doubles 40 = .ok (.iaload, 1) := by decide +kernel
theorem dX6_doubles_41 : decode cX6_doubles 41 = .ok (.aload_n 0, 1) := by decide +kernel
theorem dX6_doubles_42 : decode cX6_doubles 42 = .ok (.getfield 20, 3) := by decide +kernel
theorem dX6_doubles_45 : decode cX6_doubles 45 = .ok (.iload_n 3, 1) := by decide +kernel
theorem dX6_doubles_46 : decode cX6_doubles 46 = .ok (.iaload, 1) := by decide +kernel
theorem dX6_doubles_47 : decode cX6_doubles 47 = .ok (.if_icmp .eq 49, 3) := by decide +kernel
theorem dX6_doubles_50 : decode cX6_doubles 50 = .ok (.aload_n 0, 1) := by decide +kernel
theorem dX6_doubles_51 : decode cX6_doubles 51 = .ok (.getfield 26, 3) := by decide +kernel
theorem dX6_doubles_54 : decode cX6_doubles 54 = .ok (.iload_n 2, 1) := by decide +kernel
theorem dX6_doubles_55 : decode cX6_doubles 55 = .ok (.iaload, 1) := by decide +kernel
theorem dX6_doubles_56 : decode cX6_doubles 56 = .ok (.ifCond .eq 40, 3) := by decide +kernel
theorem dX6_doubles_59 : decode cX6_doubles 59 = .ok (.aload_n 0, 1) := by decide +kernel
theorem dX6_doubles_60 : decode cX6_doubles 60 = .ok (.getfield 26, 3) := by decide +kernel
theorem dX6_doubles_63 : decode cX6_doubles 63 = .ok (.iload_n 2, 1) := by decide +kernel
theorem dX6_doubles_64 : decode cX6_doubles 64 = .ok (.iaload, 1) := by decide +kernel
theorem dX6_doubles_65 : decode cX6_doubles 65 = .ok (.aload_n 0, 1) := by decide +kernel
theorem dX6_doubles_66 : decode cX6_doubles 66 = .ok (.getfield 26, 3) := by decide +kernel
theorem dX6_doubles_69 : decode cX6_doubles 69 = .ok (.iload_n 3, 1) := by decide +kernel
theorem dX6_doubles_70 : decode cX6_doubles 70 = .ok (.iaload, 1) := by decide +kernel
theorem dX6_doubles_71 : decode cX6_doubles 71 = .ok (.if_icmp .ne 25, 3) := by decide +kernel
theorem dX6_doubles_74 : decode cX6_doubles 74 = .ok (.aload_n 0, 1) := by decide +kernel
theorem dX6_doubles_75 : decode cX6_doubles 75 = .ok (.iload_n 2, 1) := by decide +kernel
theorem dX6_doubles_76 : decode cX6_doubles 76 = .ok (.invokevirtual 179, 3) := by decide +kernel
theorem dX6_doubles_79 : decode cX6_doubles 79 = .ok (.aload_n 0, 1) := by decide +kernel
theorem dX6_doubles_80 : decode cX6_doubles 80 = .ok (.iload_n 3, 1) := by decide +kernel
theorem dX6_doubles_81 : decode cX6_doubles 81 = .ok (.invokevirtual 179, 3) := by decide +kernel
theorem dX6_doubles_84 : decode cX6_doubles 84 = .ok (.isub, 1) := by decide +kernel
theorem dX6_doubles_85 : decode cX6_doubles 85 = .ok (.invokestatic 202, 3) := by decide +kernel
theorem dX6_doubles_88 : decode cX6_doubles 88 = .ok (.iconst 5, 1) := by decide +kernel
theorem dX6_doubles_89 : decode cX6_doubles 89 = .ok (.if_icmp .gt 7, 3) := by decide +kernel
theorem dX6_doubles_92 : decode cX6_doubles 92 = .ok (.iconst 1, 1) := by decide +kernel
theorem dX6_doubles_93 : decode cX6_doubles 93 = .ok (.goto 4, 3) := by decide +kernel
theorem dX6_doubles_96 : decode cX6_doubles 96 = .ok (.iconst 0, 1) := by decide +kernel
theorem dX6_doubles_97 : decode cX6_doubles 97 = .ok (.iadd, 1) := by decide +kernel
theorem dX6_doubles_98 : decode cX6_doubles 98 = .ok (.istore_n 1, 1) := by decide +kernel
theorem dX6_doubles_99 : decode cX6_doubles 99 = .ok (.iinc 3 1, 3) := by decide +kernel
theorem dX6_doubles_102 : decode cX6_doubles 102 = .ok (.goto (-73), 3) := by decide +kernel
theorem dX6_doubles_105 : decode cX6_doubles 105 = .ok (.iinc 2 1, 3) := by decide +kernel
theorem dX6_doubles_108 : decode cX6_doubles 108 = .ok (.goto (-89), 3) := by decide +kernel
theorem dX6_doubles_111 : decode cX6_doubles 111 = .ok (.iload_n 1, 1) := by decide +kernel
theorem dX6_doubles_112 : decode cX6_doubles 112 = .ok (.ireturn, 1) := by decide +kernel
theorem dX6_canOf_0 : decode cX6_canOf 0 = .ok (.aload_n 0, 1) := by decide +kernel
theorem dX6_canOf_1 : decode cX6_canOf 1 = .ok (.getfield 29, 3) := by decide +kernel
theorem dX6_canOf_4 : decode cX6_canOf 4 = .ok (.iload_n 1, 1) := by decide +kernel
theorem dX6_canOf_5 : decode cX6_canOf 5 = .ok (.iaload, 1) := by decide +kernel
theorem dX6_canOf_6 : decode cX6_canOf 6 = .ok (.iconst (-1), 1) := by decide +kernel
theorem dX6_canOf_7 : decode cX6_canOf 7 = .ok (.if_icmp .eq 12, 3) := by decide +kernel
theorem dX6_canOf_10 : decode cX6_canOf 10 = .ok (.iconst 1, 1) := by decide +kernel
theorem dX6_canOf_11 : decode cX6_canOf 11 = .ok (.aload_n 0, 1) := by decide +kernel
theorem dX6_canOf_12 : decode cX6_canOf 12 = .ok (.getfield 29, 3) := by decide +kernel
theorem dX6_canOf_15 : decode cX6_canOf 15 = .ok (.iload_n 1, 1) := by decide +kernel
theorem dX6_canOf_16 : decode cX6_canOf 16 = .ok (.iaload, 1) := by decide +kernel
theorem dX6_canOf_17 : decode cX6_canOf 17 = .ok (.ishl, 1) := by decide +kernel
theorem dX6_canOf_18 : decode cX6_canOf 18 = .ok (.ireturn, 1) := by decide +kernel
theorem dX6_canOf_19 : decode cX6_canOf 19 = .ok (.iconst 0, 1) := by decide +kernel
theorem dX6_canOf_20 : decode cX6_canOf 20 = .ok (.istore_n 2, 1) := by decide +kernel
theorem dX6_canOf_21 : decode cX6_canOf 21 = .ok (.iconst 0, 1) := by decide +kernel
theorem dX6_canOf_22 : decode cX6_canOf 22 = .ok (.istore_n 3, 1) := by decide +kernel
theorem dX6_canOf_23 : decode cX6_canOf 23 = .ok (.iload_n 3, 1) := by decide +kernel
theorem dX6_canOf_24 : decode cX6_canOf 24 = .ok (.aload_n 0, 1) := by decide +kernel
theorem dX6_canOf_25 : decode cX6_canOf 25 = .ok (.getfield 90, 3) := by decide +kernel
theorem dX6_canOf_28 : decode cX6_canOf 28 = .ok (.if_icmp .ge 121, 3) := by decide +kernel
theorem dX6_canOf_31 : decode cX6_canOf 31 = .ok (.iconst 1, 1) := by decide +kernel
theorem dX6_canOf_32 : decode cX6_canOf 32 = .ok (.istore 4, 2) := by decide +kernel
theorem dX6_canOf_34 : decode cX6_canOf 34 = .ok (.iconst 0, 1) := by decide +kernel
theorem dX6_canOf_35 : decode cX6_canOf 35 = .ok (.istore 5, 2) := by decide +kernel
theorem dX6_canOf_37 : decode cX6_canOf 37 = .ok (.iload 5, 2) := by decide +kernel
theorem dX6_canOf_39 : decode cX6_canOf 39 = .ok (.aload_n 0, 1) := by decide +kernel
theorem dX6_canOf_40 : decode cX6_canOf 40 = .ok (.getfield 93, 3) := by decide +kernel
theorem dX6_canOf_43 : decode cX6_canOf 43 = .ok (.if_icmp .ge 85, 3) := by decide +kernel
theorem dX6_canOf_46 : decode cX6_canOf 46 = .ok (.iload 4, 2) := by decide +kernel
theorem dX6_canOf_48 : decode cX6_canOf 48 = .ok (.ifCond .eq 71, 3) := by decide +kernel
theorem dX6_canOf_51 : decode cX6_canOf 51 = .ok (.aload_n 0, 1) := by decide +kernel
theorem dX6_canOf_52 : decode cX6_canOf 52 = .ok (.getfield 20, 3) := by decide +kernel
theorem dX6_canOf_55 : decode cX6_canOf 55 = .ok (.iload 5, 2) := by decide +kernel
theorem dX6_canOf_57 : decode cX6_canOf 57 = .ok (.iaload, 1) := by decide +kernel
theorem dX6_canOf_58 : decode cX6_canOf 58 = .ok (.aload_n 0, 1) := by decide +kernel
theorem dX6_canOf_59 : decode cX6_canOf 59 = .ok (.getfield 20, 3) := by decide +kernel
theorem dX6_canOf_62 : decode cX6_canOf 62 = .ok (.iload_n 1, 1) := by decide +kernel
theorem dX6_canOf_63 : decode cX6_canOf 63 = .ok (.iaload, 1) := by decide +kernel
theorem dX6_canOf_64 : decode cX6_canOf 64 = .ok (.if_icmp .ne 51, 3) := by decide +kernel
theorem dX6_canOf_67 : decode cX6_canOf 67 = .ok (.aload_n 0, 1) := by decide +kernel
theorem dX6_canOf_68 : decode cX6_canOf 68 = .ok (.getfield 29, 3) := by decide +kernel
theorem dX6_canOf_71 : decode cX6_canOf 71 = .ok (.iload 5, 2) := by decide +kernel
theorem dX6_canOf_73 : decode cX6_canOf 73 = .ok (.iaload, 1) := by decide +kernel
theorem dX6_canOf_74 : decode cX6_canOf 74 = .ok (.iconst (-1), 1) := by decide +kernel
theorem dX6_canOf_75 : decode cX6_canOf 75 = .ok (.if_icmp .eq 40, 3) := by decide +kernel
theorem dX6_canOf_78 : decode cX6_canOf 78 = .ok (.aload_n 0, 1) := by decide +kernel
theorem dX6_canOf_79 : decode cX6_canOf 79 = .ok (.getfield 23, 3) := by decide +kernel
theorem dX6_canOf_82 : decode cX6_canOf 82 = .ok (.iload 5, 2) := by decide +kernel
theorem dX6_canOf_84 : decode cX6_canOf 84 = .ok (.iaload, 1) := by decide +kernel
theorem dX6_canOf_85 : decode cX6_canOf 85 = .ok (.aload_n 0, 1) := by decide +kernel
theorem dX6_canOf_86 : decode cX6_canOf 86 = .ok (.getfield 23, 3) := by decide +kernel
theorem dX6_canOf_89 : decode cX6_canOf 89 = .ok (.iload_n 1, 1) := by decide +kernel
theorem dX6_canOf_90 : decode cX6_canOf 90 = .ok (.iaload, 1) := by decide +kernel
theorem dX6_canOf_91 : decode cX6_canOf 91 = .ok (.isub, 1) := by decide +kernel
theorem dX6_canOf_92 : decode cX6_canOf 92 = .ok (.invokestatic 202, 3) := by decide +kernel
theorem dX6_canOf_95 : decode cX6_canOf 95 = .ok (.aload_n 0, 1) := by decide +kernel
theorem dX6_canOf_96 : decode cX6_canOf 96 = .ok (.getfield 16, 3) := by decide +kernel
theorem dX6_canOf_99 : decode cX6_canOf 99 = .ok (.bipush 10, 2) := by decide +kernel
theorem dX6_canOf_101 : decode cX6_canOf 101 = .ok (.iload_n 3, 1) := by decide +kernel
theorem dX6_canOf_102 : decode cX6_canOf 102 = .ok (.imul, 1) := by decide +kernel
theorem dX6_canOf_103 : decode cX6_canOf 103 = .ok (.aload_n 0, 1) := by decide +kernel
theorem dX6_canOf_104 : decode cX6_canOf 104 = .ok (.getfield 29, 3) := by decide +kernel
theorem dX6_canOf_107 : decode cX6_canOf 107 = .ok (.iload 5, 2) := by decide +kernel
theorem dX6_canOf_109 : decode cX6_canOf 109 = .ok (.iaload, 1) := by decide +kernel
theorem dX6_canOf_110 : decode cX6_canOf 110 = .ok (.iadd, 1) := by decide +kernel
theorem dX6_canOf_111 : decode cX6_canOf 111 = .ok (.iaload, 1) := by decide +kernel
theorem dX6_canOf_112 : decode cX6_canOf 112 = .ok (.if_icmp .lt 7, 3) := by decide +kernel
theorem dX6_canOf_115 : decode cX6_canOf 115 = .ok (.iconst 1, 1) := by decide +kernel
theorem dX6_canOf_116 : decode cX6_canOf 116 = .ok (.goto 4, 3) := by decide +kernel
theorem dX6_canOf_119 : decode cX6_canOf 119 = .ok (.iconst 0, 1) := by decide +kernel
theorem dX6_canOf_120 : decode cX6_canOf 120 = .ok (.istore 4, 2) := by decide +kernel
theorem dX6_canOf_122 : decode cX6_canOf 122 = .ok (.iinc 5 1, 3) := by decide +kernel
theorem dX6_canOf_125 : decode cX6_canOf 125 = .ok (.goto (-88), 3) := by decide +kernel
theorem dX6_canOf_128 : decode cX6_canOf 128 = .ok (.iload_n 2, 1) := by decide +kernel
theorem dX6_canOf_129 : decode cX6_canOf 129 = .ok (.iload 4, 2) := by decide +kernel
theorem dX6_canOf_131 : decode cX6_canOf 131 = .ok (.ifCond .eq 9, 3) := by decide +kernel
theorem dX6_canOf_134 : decode cX6_canOf 134 = .ok (.iconst 1, 1) := by decide +kernel
theorem dX6_canOf_135 : decode cX6_canOf 135 = .ok (.iload_n 3, 1) := by decide +kernel
theorem dX6_canOf_136 : decode cX6_canOf 136 = .ok (.ishl, 1) := by decide +kernel
theorem dX6_canOf_137 : decode cX6_canOf 137 = .ok (.goto 4, 3) := by decide +kernel
theorem dX6_canOf_140 : decode cX6_canOf 140 = .ok (.iconst 0, 1) := by decide +kernel
theorem dX6_canOf_141 : decode cX6_canOf 141 = .ok (.ior, 1) := by decide +kernel
theorem dX6_canOf_142 : decode cX6_canOf 142 = .ok (.istore_n 2, 1) := by decide +kernel
theorem dX6_canOf_143 : decode cX6_canOf 143 = .ok (.iinc 3 1, 3) := by decide +kernel
theorem dX6_canOf_146 : decode cX6_canOf 146 = .ok (.goto (-123), 3) := by decide +kernel
theorem dX6_canOf_149 : decode cX6_canOf 149 = .ok (.iload_n 2, 1) := by decide +kernel
theorem dX6_canOf_150 : decode cX6_canOf 150 = .ok (.ireturn, 1) := by decide +kernel
set_option maxRecDepth 20000 in
theorem ggX6_can_X6_isPicture : GoodIn wsX6_can wsX6_isPicture := goodIn_r _ [6, 7, 21, 22, 23, 24, 25, 26, 27, 28, 29, 30, 31, 32, 33, 34, 35, 36, 37, 38, 39, 40, 41, 42, 43, 44, 45, 46, 47, 48, 49] (by decide +kernel) (by decide +kernel)
set_option maxRecDepth 20000 in
theorem gX6_can_X6_isPicture : GoodIn wsX6_can (wsV RX6 158 RX6 yX6_isPicture wsX6_isPicture) := goodIn_app (goodIn_of _ (by decide +kernel)) ggX6_can_X6_isPicture
set_option maxRecDepth 20000 in
theorem ggX6_can_X6_canOf : GoodIn wsX6_can wsX6_canOf := goodIn_r _ [11, 12, 13, 7, 14, 15, 16, 17, 18, 19, 20, 21, 22, 23, 24, 25, 26, 27, 28, 29, 30, 31, 32, 33, 34, 35, 36, 37, 38, 39, 40, 41, 42, 43, 44, 45, 46, 47, 48, 49] (by decide +kernel) (by decide +kernel)
set_option maxRecDepth 20000 in
theorem gX6_can_X6_canOf : GoodIn wsX6_can (wsV RX6 205 RX6 yX6_canOf wsX6_canOf) := goodIn_app (goodIn_of _ (by decide +kernel)) ggX6_can_X6_canOf
theorem dX6_can_0 : decode cX6_can 0 = .ok (.aload_n 0, 1) := by decide +kernel
theorem dX6_can_1 : decode cX6_can 1 = .ok (.iconst 0, 1) := by decide +kernel
theorem dX6_can_2 : decode cX6_can 2 = .ok (.putfield 74, 3) := by decide +kernel
theorem dX6_can_5 : decode cX6_can 5 = .ok (.aload_n 0, 1) := by decide +kernel
theorem dX6_can_6 : decode cX6_can 6 = .ok (.iload_n 1, 1) := by decide +kernel
theorem dX6_can_7 : decode cX6_can 7 = .ok (.invokevirtual 158, 3) := by decide +kernel
theorem dX6_can_10 : decode cX6_can 10 = .ok (.ifCond .eq 11, 3) := by decide +kernel
theorem dX6_can_13 : decode cX6_can 13 = .ok (.aload_n 0, 1) := by decide +kernel
theorem dX6_can_14 : decode cX6_can 14 = .ok (.iload_n 1, 1) := by decide +kernel
theorem dX6_can_15 : decode cX6_can 15 = .ok (.invokevirtual 205, 3) := by decide +kernel
theorem dX6_can_18 : decode cX6_can 18 = .ok (.goto 4, 3) := by decide +kernel
theorem dX6_can_21 : decode cX6_can 21 = .ok (.iconst (-1), 1) := by decide +kernel
theorem dX6_can_22 : decode cX6_can 22 = .ok (.ireturn, 1) := by decide +kernel
set_option maxRecDepth 20000 in
theorem ggX6_found_X6_canOf : GoodIn wsX6_found wsX6_canOf := goodIn_r _ [8, 3, 9, 2, 10, 11, 12, 13, 14, 15, 16, 20, 21, 22, 23, 24, 25, 26, 27, 28, 29, 30, 31, 32, 33, 34, 35, 36, 37, 38, 39, 40, 41, 42, 43, 44, 45, 46, 47, 48] (by decide +kernel) (by decide +kernel)
set_option maxRecDepth 20000 in
theorem gX6_found_X6_canOf : GoodIn wsX6_found (wsV RX6 205 RX6 yX6_canOf wsX6_canOf) := goodIn_app (goodIn_of _ (by decide +kernel)) ggX6_found_X6_canOf
set_option maxRecDepth 20000 in
theorem ggX6_found_X6_bits : GoodIn wsX6_found wsX6_bits := goodIn_r _ [19] (by decide +kernel) (by decide +kernel)
set_option maxRecDepth 20000 in
theorem gX6_found_X6_bits : GoodIn wsX6_found (va_wsS RX6 192 yX6_bits wsX6_bits) := goodIn_app (goodIn_of _ (by decide +kernel)) ggX6_found_X6_bits
theorem dX6_found_0 : decode cX6_found 0 = .ok (.aload_n 0, 1) := by decide +kernel
theorem dX6_found_1 : decode cX6_found 1 = .ok (.iconst 0, 1) := by decide +kernel
theorem dX6_found_2 : decode cX6_found 2 = .ok (.putfield 74, 3) := by decide +kernel
theorem dX6_found_5 : decode cX6_found 5 = .ok (.iconst 0, 1) := by decide +kernel
theorem dX6_found_6 : decode cX6_found 6 = .ok (.istore_n 1, 1) := by decide +kernel
theorem dX6_found_7 : decode cX6_found 7 = .ok (.iconst 0, 1) := by decide +kernel
theorem dX6_found_8 : decode cX6_found 8 = .ok (.istore_n 2, 1) := by decide +kernel
theorem dX6_found_9 : decode cX6_found 9 = .ok (.iload_n 2, 1) := by decide +kernel
theorem dX6_found_10 : decode cX6_found 10 = .ok (.aload_n 0, 1) := by decide +kernel
theorem dX6_found_11 : decode cX6_found 11 = .ok (.getfield 93, 3) := by decide +kernel
theorem dX6_found_14 : decode cX6_found 14 = .ok (.if_icmp .ge 39, 3) := by decide +kernel
theorem dX6_found_17 : decode cX6_found 17 = .ok (.iload_n 1, 1) := by decide +kernel
theorem dX6_found_18 : decode cX6_found 18 = .ok (.aload_n 0, 1) := by decide +kernel
theorem dX6_found_19 : decode cX6_found 19 = .ok (.getfield 29, 3) := by decide +kernel
theorem dX6_found_22 : decode cX6_found 22 = .ok (.iload_n 2, 1) := by decide +kernel
theorem dX6_found_23 : decode cX6_found 23 = .ok (.iaload, 1) := by decide +kernel
theorem dX6_found_24 : decode cX6_found 24 = .ok (.iconst (-1), 1) := by decide +kernel
theorem dX6_found_25 : decode cX6_found 25 = .ok (.if_icmp .ne 19, 3) := by decide +kernel
theorem dX6_found_28 : decode cX6_found 28 = .ok (.aload_n 0, 1) := by decide +kernel
theorem dX6_found_29 : decode cX6_found 29 = .ok (.iload_n 2, 1) := by decide +kernel
theorem dX6_found_30 : decode cX6_found 30 = .ok (.invokevirtual 205, 3) := by decide +kernel
theorem dX6_found_33 : decode cX6_found 33 = .ok (.invokestatic 192, 3) := by decide +kernel
theorem dX6_found_36 : decode cX6_found 36 = .ok (.iconst 1, 1) := by decide +kernel
theorem dX6_found_37 : decode cX6_found 37 = .ok (.if_icmp .ne 7, 3) := by decide +kernel
theorem dX6_found_40 : decode cX6_found 40 = .ok (.iconst 1, 1) := by decide +kernel
theorem dX6_found_41 : decode cX6_found 41 = .ok (.goto 4, 3) := by decide +kernel
theorem dX6_found_44 : decode cX6_found 44 = .ok (.iconst 0, 1) := by decide +kernel
theorem dX6_found_45 : decode cX6_found 45 = .ok (.iadd, 1) := by decide +kernel
theorem dX6_found_46 : decode cX6_found 46 = .ok (.istore_n 1, 1) := by decide +kernel
theorem dX6_found_47 : decode cX6_found 47 = .ok (.iinc 2 1, 3) := by decide +kernel
theorem dX6_found_50 : decode cX6_found 50 = .ok (.goto (-41), 3) := by decide +kernel
theorem dX6_found_53 : decode cX6_found 53 = .ok (.iload_n 1, 1) := by decide +kernel
theorem dX6_found_54 : decode cX6_found 54 = .ok (.ireturn, 1) := by decide +kernel
theorem dX6_strange_0 : decode cX6_strange 0 = .ok (.aload_n 0, 1) := by decide +kernel
theorem dX6_strange_1 : decode cX6_strange 1 = .ok (.iconst 0, 1) := by decide +kernel
theorem dX6_strange_2 : decode cX6_strange 2 = .ok (.putfield 74, 3) := by decide +kernel
theorem dX6_strange_5 : decode cX6_strange 5 = .ok (.iconst 0, 1) := by decide +kernel
theorem dX6_strange_6 : decode cX6_strange 6 = .ok (.istore_n 1, 1) := by decide +kernel
theorem dX6_strange_7 : decode cX6_strange 7 = .ok (.iload_n 1, 1) := by decide +kernel
theorem dX6_strange_8 : decode cX6_strange 8 = .ok (.aload_n 0, 1) := by decide +kernel
theorem dX6_strange_9 : decode cX6_strange 9 = .ok (.getfield 93, 3) := by decide +kernel
theorem dX6_strange_12 : decode cX6_strange 12 = .ok (.if_icmp .ge 105, 3) := by decide +kernel
theorem dX6_strange_15 : decode cX6_strange 15 = .ok (.iconst 0, 1) := by decide +kernel
theorem dX6_strange_16 : decode cX6_strange 16 = .ok (.istore_n 2, 1) := by decide +kernel
theorem dX6_strange_17 : decode cX6_strange 17 = .ok (.iload_n 2, 1) := by decide +kernel
theorem dX6_strange_18 : decode cX6_strange 18 = .ok (.aload_n 0, 1) := by decide +kernel
theorem dX6_strange_19 : decode cX6_strange 19 = .ok (.getfield 93, 3) := by decide +kernel
theorem dX6_strange_22 : decode cX6_strange 22 = .ok (.if_icmp .ge 89, 3) := by decide +kernel
theorem dX6_strange_25 : decode cX6_strange 25 = .ok (.aload_n 0, 1) := by decide +kernel
theorem dX6_strange_26 : decode cX6_strange 26 = .ok (.getfield 29, 3) := by decide +kernel
theorem dX6_strange_29 : decode cX6_strange 29 = .ok (.iload_n 1, 1) := by decide +kernel
theorem dX6_strange_30 : decode cX6_strange 30 = .ok (.iaload, 1) := by decide +kernel
theorem dX6_strange_31 : decode cX6_strange 31 = .ok (.iconst (-1), 1) := by decide +kernel
theorem dX6_strange_32 : decode cX6_strange 32 = .ok (.if_icmp .eq 79, 3) := by decide +kernel
theorem dX6_strange_35 : decode cX6_strange 35 = .ok (.aload_n 0, 1) := by decide +kernel
theorem dX6_strange_36 : decode cX6_strange 36 = .ok (.getfield 29, 3) := by decide +kernel
theorem dX6_strange_39 : decode cX6_strange 39 = .ok (.iload_n 2, 1) := by decide +kernel
theorem dX6_strange_40 : decode cX6_strange 40 = .ok (.iaload, 1) := by decide +kernel
theorem dX6_strange_41 : decode cX6_strange 41 = .ok (.iconst (-1), 1) := by decide +kernel
theorem dX6_strange_42 : decode cX6_strange 42 = .ok (.if_icmp .eq 63, 3) := by decide +kernel
theorem dX6_strange_45 : decode cX6_strange 45 = .ok (.aload_n 0, 1) := by decide +kernel
theorem dX6_strange_46 : decode cX6_strange 46 = .ok (.getfield 20, 3) := by decide +kernel
theorem dX6_strange_49 : decode cX6_strange 49 = .ok (.iload_n 1, 1) := by decide +kernel
theorem dX6_strange_50 : decode cX6_strange 50 = .ok (.iaload, 1) := by decide +kernel
theorem dX6_strange_51 : decode cX6_strange 51 = .ok (.aload_n 0, 1) := by decide +kernel
theorem dX6_strange_52 : decode cX6_strange 52 = .ok (.getfield 20, 3) := by decide +kernel
theorem dX6_strange_55 : decode cX6_strange 55 = .ok (.iload_n 2, 1) := by decide +kernel
theorem dX6_strange_56 : decode cX6_strange 56 = .ok (.iaload, 1) := by decide +kernel
theorem dX6_strange_57 : decode cX6_strange 57 = .ok (.if_icmp .eq 6, 3) := by decide +kernel
theorem dX6_strange_60 : decode cX6_strange 60 = .ok (.goto 45, 3) := by decide +kernel
theorem dX6_strange_63 : decode cX6_strange 63 = .ok (.aload_n 0, 1) := by decide +kernel
theorem dX6_strange_64 : decode cX6_strange 64 = .ok (.getfield 23, 3) := by decide +kernel
theorem dX6_strange_67 : decode cX6_strange 67 = .ok (.iload_n 1, 1) := by decide +kernel
theorem dX6_strange_68 : decode cX6_strange 68 = .ok (.iaload, 1) := by decide +kernel
theorem dX6_strange_69 : decode cX6_strange 69 = .ok (.aload_n 0, 1) := by decide +kernel
theorem dX6_strange_70 : decode cX6_strange 70 = .ok (.getfield 23, 3) := by decide +kernel
theorem dX6_strange_73 : decode cX6_strange 73 = .ok (.iload_n 2, 1) := by decide +kernel
theorem dX6_strange_74 : decode cX6_strange 74 = .ok (.iaload, 1) := by decide +kernel
theorem dX6_strange_75 : decode cX6_strange 75 = .ok (.isub, 1) := by decide +kernel
theorem dX6_strange_76 : decode cX6_strange 76 = .ok (.invokestatic 202, 3) := by decide +kernel
theorem dX6_strange_79 : decode cX6_strange 79 = .ok (.aload_n 0, 1) := by decide +kernel
theorem dX6_strange_80 : decode cX6_strange 80 = .ok (.getfield 16, 3) := by decide +kernel
theorem dX6_strange_83 : decode cX6_strange 83 = .ok (.bipush 10, 2) := by decide +kernel
theorem dX6_strange_85 : decode cX6_strange 85 = .ok (.aload_n 0, 1) := by decide +kernel
theorem dX6_strange_86 : decode cX6_strange 86 = .ok (.getfield 29, 3) := by decide +kernel
theorem dX6_strange_89 : decode cX6_strange 89 = .ok (.iload_n 1, 1) := by decide +kernel
theorem dX6_strange_90 : decode cX6_strange 90 = .ok (.iaload, 1) := by decide +kernel
theorem dX6_strange_91 : decode cX6_strange 91 = .ok (.imul, 1) := by decide +kernel
theorem dX6_strange_92 : decode cX6_strange 92 = .ok (.aload_n 0, 1) := by decide +kernel
theorem dX6_strange_93 : decode cX6_strange 93 = .ok (.getfield 29, 3) := by decide +kernel
theorem dX6_strange_96 : decode cX6_strange 96 = .ok (.iload_n 2, 1) := by decide +kernel
theorem dX6_strange_97 : decode cX6_strange 97 = .ok (.iaload, 1) := by decide +kernel
theorem dX6_strange_98 : decode cX6_strange 98 = .ok (.iadd, 1) := by decide +kernel
theorem dX6_strange_99 : decode cX6_strange 99 = .ok (.iaload, 1) := by decide +kernel
theorem dX6_strange_100 : decode cX6_strange 100 = .ok (.if_icmp .ge 5, 3) := by decide +kernel
theorem dX6_strange_103 : decode cX6_strange 103 = .ok (.iload_n 1, 1) := by decide +kernel
theorem dX6_strange_104 : decode cX6_strange 104 = .ok (.ireturn, 1) := by decide +kernel
theorem dX6_strange_105 : decode cX6_strange 105 = .ok (.iinc 2 1, 3) := by decide +kernel
theorem dX6_strange_108 : decode cX6_strange 108 = .ok (.goto (-91), 3) := by decide +kernel
theorem dX6_strange_111 : decode cX6_strange 111 = .ok (.iinc 1 1, 3) := by decide +kernel
theorem dX6_strange_114 : decode cX6_strange 114 = .ok (.goto (-107), 3) := by decide +kernel
theorem dX6_strange_117 : decode cX6_strange 117 = .ok (.bipush (-2), 2) := by decide +kernel
theorem dX6_strange_119 : decode cX6_strange 119 = .ok (.ireturn, 1) := by decide +kernel
theorem dX6_count_0 : decode cX6_count 0 = .ok (.aload_n 0, 1) := by decide +kernel
theorem dX6_count_1 : decode cX6_count 1 = .ok (.iconst 0, 1) := by decide +kernel
theorem dX6_count_2 : decode cX6_count 2 = .ok (.putfield 74, 3) := by decide +kernel
theorem dX6_count_5 : decode cX6_count 5 = .ok (.iload_n 1, 1) := by decide +kernel
theorem dX6_count_6 : decode cX6_count 6 = .ok (.tableswitch 59 0 4 #[34, 39, 44, 49, 54], 34) := by decide +kernel
theorem dX6_count_40 : decode cX6_count 40 = .ok (.aload_n 0, 1) := by decide +kernel
theorem dX6_count_41 : decode cX6_count 41 = .ok (.getfield 80, 3) := by decide +kernel
theorem dX6_count_44 : decode cX6_count 44 = .ok (.ireturn, 1) := by decide +kernel
theorem dX6_count_45 : decode cX6_count 45 = .ok (.aload_n 0, 1) := by decide +kernel
theorem dX6_count_46 : decode cX6_count 46 = .ok (.getfield 90, 3) := by decide +kernel
theorem dX6_count_49 : decode cX6_count 49 = .ok (.ireturn, 1) := by decide +kernel
theorem dX6_count_50 : decode cX6_count 50 = .ok (.aload_n 0, 1) := by decide +kernel
theorem dX6_count_51 : decode cX6_count 51 = .ok (.getfield 93, 3) := by decide +kernel
theorem dX6_count_54 : decode cX6_count 54 = .ok (.ireturn, 1) := by decide +kernel
theorem dX6_count_55 : decode cX6_count 55 = .ok (.aload_n 0, 1) := by decide +kernel
theorem dX6_count_56 : decode cX6_count 56 = .ok (.getfield 132, 3) := by decide +kernel
theorem dX6_count_59 : decode cX6_count 59 = .ok (.ireturn, 1) := by decide +kernel
theorem dX6_count_60 : decode cX6_count 60 = .ok (.aload_n 0, 1) := by decide +kernel
theorem dX6_count_61 : decode cX6_count 61 = .ok (.getfield 155, 3) := by decide +kernel
theorem dX6_count_64 : decode cX6_count 64 = .ok (.ireturn, 1) := by decide +kernel
theorem dX6_count_65 : decode cX6_count 65 = .ok (.iconst (-1), 1) := by decide +kernel
theorem dX6_count_66 : decode cX6_count 66 = .ok (.ireturn, 1) := by decide +kernel
theorem dX6_trouble_0 : decode cX6_trouble 0 = .ok (.aload_n 0, 1) := by decide +kernel
theorem dX6_trouble_1 : decode cX6_trouble 1 = .ok (.iconst 0, 1) := by decide +kernel
theorem dX6_trouble_2 : decode cX6_trouble 2 = .ok (.putfield 74, 3) := by decide +kernel
theorem dX6_trouble_5 : decode cX6_trouble 5 = .ok (.aload_n 0, 1) := by decide +kernel
theorem dX6_trouble_6 : decode cX6_trouble 6 = .ok (.getfield 77, 3) := by decide +kernel
theorem dX6_trouble_9 : decode cX6_trouble 9 = .ok (.ireturn, 1) := by decide +kernel
theorem dJ6_bitCount_0f7a4_0 : decode cJ6_bitCount_0f7a4 0 = .ok (.iload_n 0, 1) := by decide +kernel
theorem dJ6_bitCount_0f7a4_1 : decode cJ6_bitCount_0f7a4 1 = .ok (.iload_n 0, 1) := by decide +kernel
theorem dJ6_bitCount_0f7a4_2 : decode cJ6_bitCount_0f7a4 2 = .ok (.iconst 1, 1) := by decide +kernel
theorem dJ6_bitCount_0f7a4_3 : decode cJ6_bitCount_0f7a4 3 = .ok (.iushr, 1) := by decide +kernel
theorem dJ6_bitCount_0f7a4_4 : decode cJ6_bitCount_0f7a4 4 = .ok (.ldc_w 265, 3) := by decide +kernel
theorem dJ6_bitCount_0f7a4_7 : decode cJ6_bitCount_0f7a4 7 = .ok (.iand, 1) := by decide +kernel
theorem dJ6_bitCount_0f7a4_8 : decode cJ6_bitCount_0f7a4 8 = .ok (.isub, 1) := by decide +kernel
theorem dJ6_bitCount_0f7a4_9 : decode cJ6_bitCount_0f7a4 9 = .ok (.istore_n 0, 1) := by decide +kernel
theorem dJ6_bitCount_0f7a4_10 : decode cJ6_bitCount_0f7a4 10 = .ok (.iload_n 0, 1) := by decide +kernel
theorem dJ6_bitCount_0f7a4_11 : decode cJ6_bitCount_0f7a4 11 = .ok (.ldc_w 266, 3) := by decide +kernel
theorem dJ6_bitCount_0f7a4_14 : decode cJ6_bitCount_0f7a4 14 = .ok (.iand, 1) := by decide +kernel
theorem dJ6_bitCount_0f7a4_15 : decode cJ6_bitCount_0f7a4 15 = .ok (.iload_n 0, 1) := by decide +kernel
theorem dJ6_bitCount_0f7a4_16 : decode cJ6_bitCount_0f7a4 16 = .ok (.iconst 2, 1) := by decide +kernel
theorem dJ6_bitCount_0f7a4_17 : decode cJ6_bitCount_0f7a4 17 = .ok (.iushr, 1) := by decide +kernel
theorem dJ6_bitCount_0f7a4_18 : decode cJ6_bitCount_0f7a4 18 = .ok (.ldc_w 266, 3) := by decide +kernel
theorem dJ6_bitCount_0f7a4_21 : decode cJ6_bitCount_0f7a4 21 = .ok (.iand, 1) := by decide +kernel
theorem dJ6_bitCount_0f7a4_22 : decode cJ6_bitCount_0f7a4 22 = .ok (.iadd, 1) := by decide +kernel
theorem dJ6_bitCount_0f7a4_23 : decode cJ6_bitCount_0f7a4 23 = .ok (.istore_n 0, 1) := by decide +kernel
theorem dJ6_bitCount_0f7a4_24 : decode cJ6_bitCount_0f7a4 24 = .ok (.iload_n 0, 1) := by decide +kernel
theorem dJ6_bitCount_0f7a4_25 : decode cJ6_bitCount_0f7a4 25 = .ok (.iload_n 0, 1) := by decide +kernel
theorem dJ6_bitCount_0f7a4_26 : decode cJ6_bitCount_0f7a4 26 = .ok (.iconst 4, 1) := by decide +kernel
theorem dJ6_bitCount_0f7a4_27 : decode cJ6_bitCount_0f7a4 27 = .ok (.iushr, 1) := by decide +kernel
theorem dJ6_bitCount_0f7a4_28 : decode cJ6_bitCount_0f7a4 28 = .ok (.iadd, 1) := by decide +kernel
theorem dJ6_bitCount_0f7a4_29 : decode cJ6_bitCount_0f7a4 29 = .ok (.ldc_w 267, 3) := by decide +kernel
theorem dJ6_bitCount_0f7a4_32 : decode cJ6_bitCount_0f7a4 32 = .ok (.iand, 1) := by decide +kernel
theorem dJ6_bitCount_0f7a4_33 : decode cJ6_bitCount_0f7a4 33 = .ok (.istore_n 0, 1) := by decide +kernel
theorem dJ6_bitCount_0f7a4_34 : decode cJ6_bitCount_0f7a4 34 = .ok (.iload_n 0, 1) := by decide +kernel
theorem dJ6_bitCount_0f7a4_35 : decode cJ6_bitCount_0f7a4 35 = .ok (.iload_n 0, 1) := by decide +kernel
theorem dJ6_bitCount_0f7a4_36 : decode cJ6_bitCount_0f7a4 36 = .ok (.bipush 8, 2) := by decide +kernel
theorem dJ6_bitCount_0f7a4_38 : decode cJ6_bitCount_0f7a4 38 = .ok (.iushr, 1) := by decide +kernel
theorem dJ6_bitCount_0f7a4_39 : decode cJ6_bitCount_0f7a4 39 = .ok (.iadd, 1) := by decide +kernel
theorem dJ6_bitCount_0f7a4_40 : decode cJ6_bitCount_0f7a4 40 = .ok (.istore_n 0, 1) := by decide +kernel
theorem dJ6_bitCount_0f7a4_41 : decode cJ6_bitCount_0f7a4 41 = .ok (.iload_n 0, 1) := by decide +kernel
theorem dJ6_bitCount_0f7a4_42 : decode cJ6_bitCount_0f7a4 42 = .ok (.iload_n 0, 1) := by decide +kernel
theorem dJ6_bitCount_0f7a4_43 : decode cJ6_bitCount_0f7a4 43 = .ok (.bipush 16, 2) := by decide +kernel
theorem dJ6_bitCount_0f7a4_45 : decode cJ6_bitCount_0f7a4 45 = .ok (.iushr, 1) := by decide +kernel
theorem dJ6_bitCount_0f7a4_46 : decode cJ6_bitCount_0f7a4 46 = .ok (.iadd, 1) := by decide +kernel
theorem dJ6_bitCount_0f7a4_47 : decode cJ6_bitCount_0f7a4 47 = .ok (.istore_n 0, 1) := by decide +kernel
theorem dJ6_bitCount_0f7a4_48 : decode cJ6_bitCount_0f7a4 48 = .ok (.iload_n 0, 1) := by decide +kernel
theorem dJ6_bitCount_0f7a4_49 : decode cJ6_bitCount_0f7a4 49 = .ok (.bipush 63, 2) := by decide +kernel
theorem dJ6_bitCount_0f7a4_51 : decode cJ6_bitCount_0f7a4 51 = .ok (.iand, 1) := by decide +kernel
theorem dJ6_bitCount_0f7a4_52 : decode cJ6_bitCount_0f7a4 52 = .ok (.ireturn, 1) := by decide +kernel
theorem dJ9_abs_0f7a4_0 : decode cJ9_abs_0f7a4 0 = .ok (.iload_n 0, 1) := by decide +kernel
theorem dJ9_abs_0f7a4_1 : decode cJ9_abs_0f7a4 1 = .ok (.ifCond .ge 8, 3) := by decide +kernel
theorem dJ9_abs_0f7a4_4 : decode cJ9_abs_0f7a4 4 = .ok (.iload_n 0, 1) := by decide +kernel
theorem dJ9_abs_0f7a4_5 : decode cJ9_abs_0f7a4 5 = .ok (.ineg, 1) := by decide +kernel
theorem dJ9_abs_0f7a4_6 : decode cJ9_abs_0f7a4 6 = .ok (.goto 4, 3) := by decide +kernel
theorem dJ9_abs_0f7a4_9 : decode cJ9_abs_0f7a4 9 = .ok (.iload_n 0, 1) := by decide +kernel
theorem dJ9_abs_0f7a4_10 : decode cJ9_abs_0f7a4 10 = .ok (.ireturn, 1) := by decide +kernel
theorem dJ9_max_7cf53_0 : decode cJ9_max_7cf53 0 = .ok (.iload_n 0, 1) := by decide +kernel
theorem dJ9_max_7cf53_1 : decode cJ9_max_7cf53 1 = .ok (.iload_n 1, 1) := by decide +kernel
theorem dJ9_max_7cf53_2 : decode cJ9_max_7cf53 2 = .ok (.if_icmp .lt 7, 3) := by decide +kernel
theorem dJ9_max_7cf53_5 : decode cJ9_max_7cf53 5 = .ok (.iload_n 0, 1) := by decide +kernel
theorem dJ9_max_7cf53_6 : decode cJ9_max_7cf53 6 = .ok (.goto 4, 3) := by decide +kernel
theorem dJ9_max_7cf53_9 : decode cJ9_max_7cf53 9 = .ok (.iload_n 1, 1) := by decide +kernel
theorem dJ9_max_7cf53_10 : decode cJ9_max_7cf53 10 = .ok (.ireturn, 1) := by decide +kernel
theorem dJ9_min_7cf53_0 : decode cJ9_min_7cf53 0 = .ok (.iload_n 0, 1) := by decide +kernel
theorem dJ9_min_7cf53_1 : decode cJ9_min_7cf53 1 = .ok (.iload_n 1, 1) := by decide +kernel
theorem dJ9_min_7cf53_2 : decode cJ9_min_7cf53 2 = .ok (.if_icmp .gt 7, 3) := by decide +kernel
theorem dJ9_min_7cf53_5 : decode cJ9_min_7cf53 5 = .ok (.iload_n 0, 1) := by decide +kernel
theorem dJ9_min_7cf53_6 : decode cJ9_min_7cf53 6 = .ok (.goto 4, 3) := by decide +kernel
theorem dJ9_min_7cf53_9 : decode cJ9_min_7cf53 9 = .ok (.iload_n 1, 1) := by decide +kernel
theorem dJ9_min_7cf53_10 : decode cJ9_min_7cf53 10 = .ok (.ireturn, 1) := by decide +kernel
theorem dJ7_fill_53178_0 : decode cJ7_fill_53178 0 = .ok (.iconst 0, 1) := by decide +kernel
theorem dJ7_fill_53178_1 : decode cJ7_fill_53178 1 = .ok (.istore_n 2, 1) := by decide +kernel
theorem dJ7_fill_53178_2 : decode cJ7_fill_53178 2 = .ok (.aload_n 0, 1) := by decide +kernel
theorem dJ7_fill_53178_3 : decode cJ7_fill_53178 3 = .ok (.arraylength, 1) := by decide +kernel
theorem dJ7_fill_53178_4 : decode cJ7_fill_53178 4 = .ok (.istore_n 3, 1) := by decide +kernel
theorem dJ7_fill_53178_5 : decode cJ7_fill_53178 5 = .ok (.iload_n 2, 1) := by decide +kernel
theorem dJ7_fill_53178_6 : decode cJ7_fill_53178 6 = .ok (.iload_n 3, 1) := by decide +kernel
theorem dJ7_fill_53178_7 : decode cJ7_fill_53178 7 = .ok (.if_icmp .ge 13, 3) := by decide +kernel
theorem dJ7_fill_53178_10 : decode cJ7_fill_53178 10 = .ok (.aload_n 0, 1) := by decide +kernel
theorem dJ7_fill_53178_11 : decode cJ7_fill_53178 11 = .ok (.iload_n 2, 1) := by decide +kernel
theorem dJ7_fill_53178_12 : decode cJ7_fill_53178 12 = .ok (.iload_n 1, 1) := by decide +kernel
theorem dJ7_fill_53178_13 : decode cJ7_fill_53178 13 = .ok (.iastore, 1) := by decide +kernel
theorem dJ7_fill_53178_14 : decode cJ7_fill_53178 14 = .ok (.iinc 2 1, 3) := by decide +kernel
theorem dJ7_fill_53178_17 : decode cJ7_fill_53178 17 = .ok (.goto (-12), 3) := by decide +kernel
theorem dJ7_fill_53178_20 : decode cJ7_fill_53178 20 = .ok (.return_, 1) := by decide +kernel
theorem dL_row_0 : decode cL_row 0 = .ok (.aload_n 2, 1) := by decide +kernel
theorem dL_row_1 : decode cL_row 1 = .ok (.iconst 0, 1) := by decide +kernel
theorem dL_row_2 : decode cL_row 2 = .ok (.aload_n 0, 1) := by decide +kernel
theorem dL_row_3 : decode cL_row 3 = .ok (.iload_n 1, 1) := by decide +kernel
theorem dL_row_4 : decode cL_row 4 = .ok (.invokevirtual 7, 3) := by decide +kernel
theorem dL_row_7 : decode cL_row 7 = .ok (.i2l, 1) := by decide +kernel
theorem dL_row_8 : decode cL_row 8 = .ok (.lastore, 1) := by decide +kernel
theorem dL_row_9 : decode cL_row 9 = .ok (.goto 6, 3) := by decide +kernel
theorem dL_row_12 : decode cL_row 12 = .ok (.astore_n 3, 1) := by decide +kernel
theorem dL_row_13 : decode cL_row 13 = .ok (.iconst 1, 1) := by decide +kernel
theorem dL_row_14 : decode cL_row 14 = .ok (.ireturn, 1) := by decide +kernel
theorem dL_row_15 : decode cL_row 15 = .ok (.iconst 0, 1) := by decide +kernel
theorem dL_row_16 : decode cL_row 16 = .ok (.ireturn, 1) := by decide +kernel
