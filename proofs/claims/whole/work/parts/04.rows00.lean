theorem dX0_init_0 : decode cX0_init 0 = .ok (.aload_n 0, 1) := by decide +kernel
theorem dX0_init_1 : decode cX0_init 1 = .ok (.invokespecial 3, 3) := by decide +kernel
theorem dX0_init_4 : decode cX0_init 4 = .ok (.aload_n 0, 1) := by decide +kernel
theorem dX0_init_5 : decode cX0_init 5 = .ok (.bipush 120, 2) := by decide +kernel
theorem dX0_init_7 : decode cX0_init 7 = .ok (.newarray .int, 2) := by decide +kernel
theorem dX0_init_9 : decode cX0_init 9 = .ok (.putfield 9, 3) := by decide +kernel
theorem dX0_init_12 : decode cX0_init 12 = .ok (.aload_n 0, 1) := by decide +kernel
theorem dX0_init_13 : decode cX0_init 13 = .ok (.bipush 120, 2) := by decide +kernel
theorem dX0_init_15 : decode cX0_init 15 = .ok (.newarray .int, 2) := by decide +kernel
theorem dX0_init_17 : decode cX0_init 17 = .ok (.putfield 15, 3) := by decide +kernel
theorem dX0_init_20 : decode cX0_init 20 = .ok (.aload_n 0, 1) := by decide +kernel
theorem dX0_init_21 : decode cX0_init 21 = .ok (.bipush 120, 2) := by decide +kernel
theorem dX0_init_23 : decode cX0_init 23 = .ok (.newarray .int, 2) := by decide +kernel
theorem dX0_init_25 : decode cX0_init 25 = .ok (.putfield 18, 3) := by decide +kernel
theorem dX0_init_28 : decode cX0_init 28 = .ok (.aload_n 0, 1) := by decide +kernel
theorem dX0_init_29 : decode cX0_init 29 = .ok (.bipush 120, 2) := by decide +kernel
theorem dX0_init_31 : decode cX0_init 31 = .ok (.newarray .int, 2) := by decide +kernel
theorem dX0_init_33 : decode cX0_init 33 = .ok (.putfield 21, 3) := by decide +kernel
theorem dX0_init_36 : decode cX0_init 36 = .ok (.aload_n 0, 1) := by decide +kernel
theorem dX0_init_37 : decode cX0_init 37 = .ok (.iconst 0, 1) := by decide +kernel
theorem dX0_init_38 : decode cX0_init 38 = .ok (.putfield 24, 3) := by decide +kernel
theorem dX0_init_41 : decode cX0_init 41 = .ok (.return_, 1) := by decide +kernel
theorem dX0_has_0 : decode cX0_has 0 = .ok (.iload_n 1, 1) := by decide +kernel
theorem dX0_has_1 : decode cX0_has 1 = .ok (.ifCond .lt 15, 3) := by decide +kernel
theorem dX0_has_4 : decode cX0_has 4 = .ok (.iload_n 1, 1) := by decide +kernel
theorem dX0_has_5 : decode cX0_has 5 = .ok (.aload_n 0, 1) := by decide +kernel
theorem dX0_has_6 : decode cX0_has 6 = .ok (.getfield 24, 3) := by decide +kernel
theorem dX0_has_9 : decode cX0_has 9 = .ok (.if_icmp .ge 7, 3) := by decide +kernel
theorem dX0_has_12 : decode cX0_has 12 = .ok (.iconst 1, 1) := by decide +kernel
theorem dX0_has_13 : decode cX0_has 13 = .ok (.goto 4, 3) := by decide +kernel
theorem dX0_has_16 : decode cX0_has 16 = .ok (.iconst 0, 1) := by decide +kernel
theorem dX0_has_17 : decode cX0_has 17 = .ok (.ireturn, 1) := by decide +kernel
theorem dX0_take_0 : decode cX0_take 0 = .ok (.aload_n 0, 1) := by decide +kernel
theorem dX0_take_1 : decode cX0_take 1 = .ok (.getfield 24, 3) := by decide +kernel
theorem dX0_take_4 : decode cX0_take 4 = .ok (.istore 5, 2) := by decide +kernel
theorem dX0_take_6 : decode cX0_take 6 = .ok (.aload_n 0, 1) := by decide +kernel
theorem dX0_take_7 : decode cX0_take 7 = .ok (.getfield 9, 3) := by decide +kernel
theorem dX0_take_10 : decode cX0_take 10 = .ok (.iload 5, 2) := by decide +kernel
theorem dX0_take_12 : decode cX0_take 12 = .ok (.iload_n 1, 1) := by decide +kernel
theorem dX0_take_13 : decode cX0_take 13 = .ok (.iastore, 1) := by decide +kernel
theorem dX0_take_14 : decode cX0_take 14 = .ok (.aload_n 0, 1) := by decide +kernel
theorem dX0_take_15 : decode cX0_take 15 = .ok (.getfield 15, 3) := by decide +kernel
theorem dX0_take_18 : decode cX0_take 18 = .ok (.iload 5, 2) := by decide +kernel
theorem dX0_take_20 : decode cX0_take 20 = .ok (.iload_n 2, 1) := by decide +kernel
theorem dX0_take_21 : decode cX0_take 21 = .ok (.iastore, 1) := by decide +kernel
theorem dX0_take_22 : decode cX0_take 22 = .ok (.aload_n 0, 1) := by decide +kernel
theorem dX0_take_23 : decode cX0_take 23 = .ok (.getfield 18, 3) := by decide +kernel
theorem dX0_take_26 : decode cX0_take 26 = .ok (.iload 5, 2) := by decide +kernel
theorem dX0_take_28 : decode cX0_take 28 = .ok (.iload_n 3, 1) := by decide +kernel
theorem dX0_take_29 : decode cX0_take 29 = .ok (.iastore, 1) := by decide +kernel
theorem dX0_take_30 : decode cX0_take 30 = .ok (.aload_n 0, 1) := by decide +kernel
theorem dX0_take_31 : decode cX0_take 31 = .ok (.getfield 21, 3) := by decide +kernel
theorem dX0_take_34 : decode cX0_take 34 = .ok (.iload 5, 2) := by decide +kernel
theorem dX0_take_36 : decode cX0_take 36 = .ok (.iload 4, 2) := by decide +kernel
theorem dX0_take_38 : decode cX0_take 38 = .ok (.iastore, 1) := by decide +kernel
theorem dX0_take_39 : decode cX0_take 39 = .ok (.aload_n 0, 1) := by decide +kernel
theorem dX0_take_40 : decode cX0_take 40 = .ok (.dup, 1) := by decide +kernel
theorem dX0_take_41 : decode cX0_take 41 = .ok (.getfield 24, 3) := by decide +kernel
theorem dX0_take_44 : decode cX0_take 44 = .ok (.iconst 1, 1) := by decide +kernel
theorem dX0_take_45 : decode cX0_take 45 = .ok (.iadd, 1) := by decide +kernel
theorem dX0_take_46 : decode cX0_take 46 = .ok (.putfield 24, 3) := by decide +kernel
theorem dX0_take_49 : decode cX0_take 49 = .ok (.iload 5, 2) := by decide +kernel
theorem dX0_take_51 : decode cX0_take 51 = .ok (.ireturn, 1) := by decide +kernel
theorem dX1_init_0 : decode cX1_init 0 = .ok (.aload_n 0, 1) := by decide +kernel
theorem dX1_init_1 : decode cX1_init 1 = .ok (.invokespecial 3, 3) := by decide +kernel
theorem dX1_init_4 : decode cX1_init 4 = .ok (.aload_n 0, 1) := by decide +kernel
theorem dX1_init_5 : decode cX1_init 5 = .ok (.bipush 100, 2) := by decide +kernel
theorem dX1_init_7 : decode cX1_init 7 = .ok (.newarray .int, 2) := by decide +kernel
theorem dX1_init_9 : decode cX1_init 9 = .ok (.putfield 9, 3) := by decide +kernel
theorem dX1_init_12 : decode cX1_init 12 = .ok (.aload_n 0, 1) := by decide +kernel
theorem dX1_init_13 : decode cX1_init 13 = .ok (.iconst 0, 1) := by decide +kernel
theorem dX1_init_14 : decode cX1_init 14 = .ok (.putfield 15, 3) := by decide +kernel
theorem dX1_init_17 : decode cX1_init 17 = .ok (.return_, 1) := by decide +kernel
theorem dX1_has_0 : decode cX1_has 0 = .ok (.iload_n 1, 1) := by decide +kernel
theorem dX1_has_1 : decode cX1_has 1 = .ok (.ifCond .lt 15, 3) := by decide +kernel
theorem dX1_has_4 : decode cX1_has 4 = .ok (.iload_n 1, 1) := by decide +kernel
theorem dX1_has_5 : decode cX1_has 5 = .ok (.aload_n 0, 1) := by decide +kernel
theorem dX1_has_6 : decode cX1_has 6 = .ok (.getfield 15, 3) := by decide +kernel
theorem dX1_has_9 : decode cX1_has 9 = .ok (.if_icmp .ge 7, 3) := by decide +kernel
theorem dX1_has_12 : decode cX1_has 12 = .ok (.iconst 1, 1) := by decide +kernel
theorem dX1_has_13 : decode cX1_has 13 = .ok (.goto 4, 3) := by decide +kernel
theorem dX1_has_16 : decode cX1_has 16 = .ok (.iconst 0, 1) := by decide +kernel
theorem dX1_has_17 : decode cX1_has 17 = .ok (.ireturn, 1) := by decide +kernel
theorem dX1_tell_0 : decode cX1_tell 0 = .ok (.aload_n 0, 1) := by decide +kernel
theorem dX1_tell_1 : decode cX1_tell 1 = .ok (.getfield 9, 3) := by decide +kernel
theorem dX1_tell_4 : decode cX1_tell 4 = .ok (.iload_n 1, 1) := by decide +kernel
theorem dX1_tell_5 : decode cX1_tell 5 = .ok (.bipush 10, 2) := by decide +kernel
theorem dX1_tell_7 : decode cX1_tell 7 = .ok (.imul, 1) := by decide +kernel
theorem dX1_tell_8 : decode cX1_tell 8 = .ok (.iload_n 2, 1) := by decide +kernel
theorem dX1_tell_9 : decode cX1_tell 9 = .ok (.iadd, 1) := by decide +kernel
theorem dX1_tell_10 : decode cX1_tell 10 = .ok (.iload_n 3, 1) := by decide +kernel
theorem dX1_tell_11 : decode cX1_tell 11 = .ok (.iastore, 1) := by decide +kernel
theorem dX1_tell_12 : decode cX1_tell 12 = .ok (.aload_n 0, 1) := by decide +kernel
theorem dX1_tell_13 : decode cX1_tell 13 = .ok (.getfield 9, 3) := by decide +kernel
theorem dX1_tell_16 : decode cX1_tell 16 = .ok (.iload_n 2, 1) := by decide +kernel
theorem dX1_tell_17 : decode cX1_tell 17 = .ok (.bipush 10, 2) := by decide +kernel
theorem dX1_tell_19 : decode cX1_tell 19 = .ok (.imul, 1) := by decide +kernel
theorem dX1_tell_20 : decode cX1_tell 20 = .ok (.iload_n 1, 1) := by decide +kernel
theorem dX1_tell_21 : decode cX1_tell 21 = .ok (.iadd, 1) := by decide +kernel
theorem dX1_tell_22 : decode cX1_tell 22 = .ok (.iload_n 3, 1) := by decide +kernel
theorem dX1_tell_23 : decode cX1_tell 23 = .ok (.iastore, 1) := by decide +kernel
theorem dX1_tell_24 : decode cX1_tell 24 = .ok (.return_, 1) := by decide +kernel
set_option maxRecDepth 20000 in
theorem ggX1_possiblePlaces_X1_isWithinReach : GoodIn wsX1_possiblePlaces wsX1_isWithinReach := goodIn_r _ [7, 8, 9, 10, 1, 11, 12, 13, 14, 15, 16, 17, 18, 19, 20, 21, 22] (by decide +kernel) (by decide +kernel)
set_option maxRecDepth 20000 in
theorem gX1_possiblePlaces_X1_isWithinReach : GoodIn wsX1_possiblePlaces (wsV RX1 24 RX1 yX1_isWithinReach wsX1_isWithinReach) := goodIn_app (goodIn_of _ (by decide +kernel)) ggX1_possiblePlaces_X1_isWithinReach
theorem dX1_possiblePlaces_0 : decode cX1_possiblePlaces 0 = .ok (.aload_n 1, 1) := by decide +kernel
theorem dX1_possiblePlaces_1 : decode cX1_possiblePlaces 1 = .ok (.getfield 19, 3) := by decide +kernel
theorem dX1_possiblePlaces_4 : decode cX1_possiblePlaces 4 = .ok (.iload_n 2, 1) := by decide +kernel
theorem dX1_possiblePlaces_5 : decode cX1_possiblePlaces 5 = .ok (.iaload, 1) := by decide +kernel
theorem dX1_possiblePlaces_6 : decode cX1_possiblePlaces 6 = .ok (.istore_n 3, 1) := by decide +kernel
theorem dX1_possiblePlaces_7 : decode cX1_possiblePlaces 7 = .ok (.iload_n 3, 1) := by decide +kernel
theorem dX1_possiblePlaces_8 : decode cX1_possiblePlaces 8 = .ok (.iconst (-1), 1) := by decide +kernel
theorem dX1_possiblePlaces_9 : decode cX1_possiblePlaces 9 = .ok (.if_icmp .eq 7, 3) := by decide +kernel
theorem dX1_possiblePlaces_12 : decode cX1_possiblePlaces 12 = .ok (.iconst 1, 1) := by decide +kernel
theorem dX1_possiblePlaces_13 : decode cX1_possiblePlaces 13 = .ok (.iload_n 3, 1) := by decide +kernel
theorem dX1_possiblePlaces_14 : decode cX1_possiblePlaces 14 = .ok (.ishl, 1) := by decide +kernel
theorem dX1_possiblePlaces_15 : decode cX1_possiblePlaces 15 = .ok (.ireturn, 1) := by decide +kernel
theorem dX1_possiblePlaces_16 : decode cX1_possiblePlaces 16 = .ok (.iconst 0, 1) := by decide +kernel
theorem dX1_possiblePlaces_17 : decode cX1_possiblePlaces 17 = .ok (.istore 4, 2) := by decide +kernel
theorem dX1_possiblePlaces_19 : decode cX1_possiblePlaces 19 = .ok (.iconst 0, 1) := by decide +kernel
theorem dX1_possiblePlaces_20 : decode cX1_possiblePlaces 20 = .ok (.istore 5, 2) := by decide +kernel
theorem dX1_possiblePlaces_22 : decode cX1_possiblePlaces 22 = .ok (.iload 5, 2) := by decide +kernel
theorem dX1_possiblePlaces_24 : decode cX1_possiblePlaces 24 = .ok (.aload_n 0, 1) := by decide +kernel
theorem dX1_possiblePlaces_25 : decode cX1_possiblePlaces 25 = .ok (.getfield 15, 3) := by decide +kernel
theorem dX1_possiblePlaces_28 : decode cX1_possiblePlaces 28 = .ok (.if_icmp .ge 29, 3) := by decide +kernel
theorem dX1_possiblePlaces_31 : decode cX1_possiblePlaces 31 = .ok (.aload_n 0, 1) := by decide +kernel
theorem dX1_possiblePlaces_32 : decode cX1_possiblePlaces 32 = .ok (.aload_n 1, 1) := by decide +kernel
theorem dX1_possiblePlaces_33 : decode cX1_possiblePlaces 33 = .ok (.iload_n 2, 1) := by decide +kernel
theorem dX1_possiblePlaces_34 : decode cX1_possiblePlaces 34 = .ok (.iload 5, 2) := by decide +kernel
theorem dX1_possiblePlaces_36 : decode cX1_possiblePlaces 36 = .ok (.invokevirtual 24, 3) := by decide +kernel
theorem dX1_possiblePlaces_39 : decode cX1_possiblePlaces 39 = .ok (.ifCond .eq 12, 3) := by decide +kernel
theorem dX1_possiblePlaces_42 : decode cX1_possiblePlaces 42 = .ok (.iload 4, 2) := by decide +kernel
theorem dX1_possiblePlaces_44 : decode cX1_possiblePlaces 44 = .ok (.iconst 1, 1) := by decide +kernel
theorem dX1_possiblePlaces_45 : decode cX1_possiblePlaces 45 = .ok (.iload 5, 2) := by decide +kernel
theorem dX1_possiblePlaces_47 : decode cX1_possiblePlaces 47 = .ok (.ishl, 1) := by decide +kernel
theorem dX1_possiblePlaces_48 : decode cX1_possiblePlaces 48 = .ok (.ior, 1) := by decide +kernel
theorem dX1_possiblePlaces_49 : decode cX1_possiblePlaces 49 = .ok (.istore 4, 2) := by decide +kernel
theorem dX1_possiblePlaces_51 : decode cX1_possiblePlaces 51 = .ok (.iinc 5 1, 3) := by decide +kernel
theorem dX1_possiblePlaces_54 : decode cX1_possiblePlaces 54 = .ok (.goto (-32), 3) := by decide +kernel
theorem dX1_possiblePlaces_57 : decode cX1_possiblePlaces 57 = .ok (.iload 4, 2) := by decide +kernel
theorem dX1_possiblePlaces_59 : decode cX1_possiblePlaces 59 = .ok (.ireturn, 1) := by decide +kernel
theorem dX1_isWithinReach_0 : decode cX1_isWithinReach 0 = .ok (.aload_n 1, 1) := by decide +kernel
theorem dX1_isWithinReach_1 : decode cX1_isWithinReach 1 = .ok (.getfield 28, 3) := by decide +kernel
theorem dX1_isWithinReach_4 : decode cX1_isWithinReach 4 = .ok (.iload_n 2, 1) := by decide +kernel
theorem dX1_isWithinReach_5 : decode cX1_isWithinReach 5 = .ok (.iaload, 1) := by decide +kernel
theorem dX1_isWithinReach_6 : decode cX1_isWithinReach 6 = .ok (.istore 4, 2) := by decide +kernel
theorem dX1_isWithinReach_8 : decode cX1_isWithinReach 8 = .ok (.aload_n 1, 1) := by decide +kernel
theorem dX1_isWithinReach_9 : decode cX1_isWithinReach 9 = .ok (.getfield 31, 3) := by decide +kernel
theorem dX1_isWithinReach_12 : decode cX1_isWithinReach 12 = .ok (.iload_n 2, 1) := by decide +kernel
theorem dX1_isWithinReach_13 : decode cX1_isWithinReach 13 = .ok (.iaload, 1) := by decide +kernel
theorem dX1_isWithinReach_14 : decode cX1_isWithinReach 14 = .ok (.istore 5, 2) := by decide +kernel
theorem dX1_isWithinReach_16 : decode cX1_isWithinReach 16 = .ok (.iconst 0, 1) := by decide +kernel
theorem dX1_isWithinReach_17 : decode cX1_isWithinReach 17 = .ok (.istore 6, 2) := by decide +kernel
theorem dX1_isWithinReach_19 : decode cX1_isWithinReach 19 = .ok (.iload 6, 2) := by decide +kernel
theorem dX1_isWithinReach_21 : decode cX1_isWithinReach 21 = .ok (.aload_n 1, 1) := by decide +kernel
theorem dX1_isWithinReach_22 : decode cX1_isWithinReach 22 = .ok (.getfield 34, 3) := by decide +kernel
theorem dX1_isWithinReach_25 : decode cX1_isWithinReach 25 = .ok (.if_icmp .ge 66, 3) := by decide +kernel
theorem dX1_isWithinReach_28 : decode cX1_isWithinReach 28 = .ok (.aload_n 1, 1) := by decide +kernel
theorem dX1_isWithinReach_29 : decode cX1_isWithinReach 29 = .ok (.getfield 19, 3) := by decide +kernel
theorem dX1_isWithinReach_32 : decode cX1_isWithinReach 32 = .ok (.iload 6, 2) := by decide +kernel
theorem dX1_isWithinReach_34 : decode cX1_isWithinReach 34 = .ok (.iaload, 1) := by decide +kernel
theorem dX1_isWithinReach_35 : decode cX1_isWithinReach 35 = .ok (.istore 7, 2) := by decide +kernel
theorem dX1_isWithinReach_37 : decode cX1_isWithinReach 37 = .ok (.iload 7, 2) := by decide +kernel
theorem dX1_isWithinReach_39 : decode cX1_isWithinReach 39 = .ok (.iconst (-1), 1) := by decide +kernel
theorem dX1_isWithinReach_40 : decode cX1_isWithinReach 40 = .ok (.if_icmp .eq 45, 3) := by decide +kernel
theorem dX1_isWithinReach_43 : decode cX1_isWithinReach 43 = .ok (.aload_n 1, 1) := by decide +kernel
theorem dX1_isWithinReach_44 : decode cX1_isWithinReach 44 = .ok (.getfield 28, 3) := by decide +kernel
theorem dX1_isWithinReach_47 : decode cX1_isWithinReach 47 = .ok (.iload 6, 2) := by decide +kernel
theorem dX1_isWithinReach_49 : decode cX1_isWithinReach 49 = .ok (.iaload, 1) := by decide +kernel
theorem dX1_isWithinReach_50 : decode cX1_isWithinReach 50 = .ok (.iload 4, 2) := by decide +kernel
theorem dX1_isWithinReach_52 : decode cX1_isWithinReach 52 = .ok (.if_icmp .ne 33, 3) := by decide +kernel
theorem dX1_isWithinReach_55 : decode cX1_isWithinReach 55 = .ok (.aload_n 1, 1) := by decide +kernel
theorem dX1_isWithinReach_56 : decode cX1_isWithinReach 56 = .ok (.getfield 31, 3) := by decide +kernel
theorem dX1_isWithinReach_59 : decode cX1_isWithinReach 59 = .ok (.iload 6, 2) := by decide +kernel
theorem dX1_isWithinReach_61 : decode cX1_isWithinReach 61 = .ok (.iaload, 1) := by decide +kernel
theorem dX1_isWithinReach_62 : decode cX1_isWithinReach 62 = .ok (.iload 5, 2) := by decide +kernel
theorem dX1_isWithinReach_64 : decode cX1_isWithinReach 64 = .ok (.isub, 1) := by decide +kernel
theorem dX1_isWithinReach_65 : decode cX1_isWithinReach 65 = .ok (.invokestatic 35, 3) := by decide +kernel
theorem dX1_isWithinReach_68 : decode cX1_isWithinReach 68 = .ok (.aload_n 0, 1) := by decide +kernel
theorem dX1_isWithinReach_69 : decode cX1_isWithinReach 69 = .ok (.getfield 9, 3) := by decide +kernel
theorem dX1_isWithinReach_72 : decode cX1_isWithinReach 72 = .ok (.iload 7, 2) := by decide +kernel
theorem dX1_isWithinReach_74 : decode cX1_isWithinReach 74 = .ok (.bipush 10, 2) := by decide +kernel
theorem dX1_isWithinReach_76 : decode cX1_isWithinReach 76 = .ok (.imul, 1) := by decide +kernel
theorem dX1_isWithinReach_77 : decode cX1_isWithinReach 77 = .ok (.iload_n 3, 1) := by decide +kernel
theorem dX1_isWithinReach_78 : decode cX1_isWithinReach 78 = .ok (.iadd, 1) := by decide +kernel
theorem dX1_isWithinReach_79 : decode cX1_isWithinReach 79 = .ok (.iaload, 1) := by decide +kernel
theorem dX1_isWithinReach_80 : decode cX1_isWithinReach 80 = .ok (.if_icmp .ge 5, 3) := by decide +kernel
theorem dX1_isWithinReach_83 : decode cX1_isWithinReach 83 = .ok (.iconst 0, 1) := by decide +kernel
theorem dX1_isWithinReach_84 : decode cX1_isWithinReach 84 = .ok (.ireturn, 1) := by decide +kernel
theorem dX1_isWithinReach_85 : decode cX1_isWithinReach 85 = .ok (.iinc 6 1, 3) := by decide +kernel
theorem dX1_isWithinReach_88 : decode cX1_isWithinReach 88 = .ok (.goto (-69), 3) := by decide +kernel
theorem dX1_isWithinReach_91 : decode cX1_isWithinReach 91 = .ok (.iconst 1, 1) := by decide +kernel
theorem dX1_isWithinReach_92 : decode cX1_isWithinReach 92 = .ok (.ireturn, 1) := by decide +kernel
set_option maxRecDepth 20000 in
theorem ggX2_init_X2_loosen : GoodIn wsX2_init wsX2_loosen := goodIn_r _ [10, 5, 11, 12] (by decide +kernel) (by decide +kernel)
set_option maxRecDepth 20000 in
theorem gX2_init_X2_loosen : GoodIn wsX2_init (wsV RX2 15 RX2 yX2_loosen wsX2_loosen) := goodIn_app (goodIn_of _ (by decide +kernel)) ggX2_init_X2_loosen
theorem dX2_init_0 : decode cX2_init 0 = .ok (.aload_n 0, 1) := by decide +kernel
theorem dX2_init_1 : decode cX2_init 1 = .ok (.invokespecial 3, 3) := by decide +kernel
theorem dX2_init_4 : decode cX2_init 4 = .ok (.aload_n 0, 1) := by decide +kernel
theorem dX2_init_5 : decode cX2_init 5 = .ok (.bipush 64, 2) := by decide +kernel
theorem dX2_init_7 : decode cX2_init 7 = .ok (.newarray .int, 2) := by decide +kernel
theorem dX2_init_9 : decode cX2_init 9 = .ok (.putfield 9, 3) := by decide +kernel
theorem dX2_init_12 : decode cX2_init 12 = .ok (.aload_n 0, 1) := by decide +kernel
theorem dX2_init_13 : decode cX2_init 13 = .ok (.invokevirtual 15, 3) := by decide +kernel
theorem dX2_init_16 : decode cX2_init 16 = .ok (.return_, 1) := by decide +kernel
theorem dX2_loosen_0 : decode cX2_loosen 0 = .ok (.iconst 0, 1) := by decide +kernel
theorem dX2_loosen_1 : decode cX2_loosen 1 = .ok (.istore_n 1, 1) := by decide +kernel
theorem dX2_loosen_2 : decode cX2_loosen 2 = .ok (.iload_n 1, 1) := by decide +kernel
theorem dX2_loosen_3 : decode cX2_loosen 3 = .ok (.bipush 8, 2) := by decide +kernel
theorem dX2_loosen_5 : decode cX2_loosen 5 = .ok (.if_icmp .ge 61, 3) := by decide +kernel
theorem dX2_loosen_8 : decode cX2_loosen 8 = .ok (.iconst 0, 1) := by decide +kernel
theorem dX2_loosen_9 : decode cX2_loosen 9 = .ok (.istore_n 2, 1) := by decide +kernel
theorem dX2_loosen_10 : decode cX2_loosen 10 = .ok (.iload_n 2, 1) := by decide +kernel
theorem dX2_loosen_11 : decode cX2_loosen 11 = .ok (.bipush 8, 2) := by decide +kernel
theorem dX2_loosen_13 : decode cX2_loosen 13 = .ok (.if_icmp .ge 47, 3) := by decide +kernel
theorem dX2_loosen_16 : decode cX2_loosen 16 = .ok (.iload_n 1, 1) := by decide +kernel
theorem dX2_loosen_17 : decode cX2_loosen 17 = .ok (.iload_n 2, 1) := by decide +kernel
theorem dX2_loosen_18 : decode cX2_loosen 18 = .ok (.if_icmp .ne 7, 3) := by decide +kernel
theorem dX2_loosen_21 : decode cX2_loosen 21 = .ok (.iconst 0, 1) := by decide +kernel
theorem dX2_loosen_22 : decode cX2_loosen 22 = .ok (.goto 16, 3) := by decide +kernel
theorem dX2_loosen_25 : decode cX2_loosen 25 = .ok (.iload_n 1, 1) := by decide +kernel
theorem dX2_loosen_26 : decode cX2_loosen 26 = .ok (.ifCond .eq 7, 3) := by decide +kernel
theorem dX2_loosen_29 : decode cX2_loosen 29 = .ok (.iload_n 2, 1) := by decide +kernel
theorem dX2_loosen_30 : decode cX2_loosen 30 = .ok (.ifCond .ne 7, 3) := by decide +kernel
theorem dX2_loosen_33 : decode cX2_loosen 33 = .ok (.iconst 1, 1) := by decide +kernel
theorem dX2_loosen_34 : decode cX2_loosen 34 = .ok (.goto 4, 3) := by decide +kernel
theorem dX2_loosen_37 : decode cX2_loosen 37 = .ok (.iconst 2, 1) := by decide +kernel
theorem dX2_loosen_38 : decode cX2_loosen 38 = .ok (.istore_n 3, 1) := by decide +kernel
theorem dX2_loosen_39 : decode cX2_loosen 39 = .ok (.aload_n 0, 1) := by decide +kernel
theorem dX2_loosen_40 : decode cX2_loosen 40 = .ok (.getfield 9, 3) := by decide +kernel
theorem dX2_loosen_43 : decode cX2_loosen 43 = .ok (.iload_n 1, 1) := by decide +kernel
theorem dX2_loosen_44 : decode cX2_loosen 44 = .ok (.bipush 8, 2) := by decide +kernel
theorem dX2_loosen_46 : decode cX2_loosen 46 = .ok (.imul, 1) := by decide +kernel
theorem dX2_loosen_47 : decode cX2_loosen 47 = .ok (.iload_n 2, 1) := by decide +kernel
theorem dX2_loosen_48 : decode cX2_loosen 48 = .ok (.iadd, 1) := by decide +kernel
theorem dX2_loosen_49 : decode cX2_loosen 49 = .ok (.iload_n 3, 1) := by decide +kernel
theorem dX2_loosen_50 : decode cX2_loosen 50 = .ok (.ldc 18, 2) := by decide +kernel
theorem dX2_loosen_52 : decode cX2_loosen 52 = .ok (.imul, 1) := by decide +kernel
theorem dX2_loosen_53 : decode cX2_loosen 53 = .ok (.iastore, 1) := by decide +kernel
theorem dX2_loosen_54 : decode cX2_loosen 54 = .ok (.iinc 2 1, 3) := by decide +kernel
theorem dX2_loosen_57 : decode cX2_loosen 57 = .ok (.goto (-47), 3) := by decide +kernel
theorem dX2_loosen_60 : decode cX2_loosen 60 = .ok (.iinc 1 1, 3) := by decide +kernel
theorem dX2_loosen_63 : decode cX2_loosen 63 = .ok (.goto (-61), 3) := by decide +kernel
theorem dX2_loosen_66 : decode cX2_loosen 66 = .ok (.return_, 1) := by decide +kernel
theorem dX2_most_0 : decode cX2_most 0 = .ok (.aload_n 0, 1) := by decide +kernel
theorem dX2_most_1 : decode cX2_most 1 = .ok (.getfield 9, 3) := by decide +kernel
theorem dX2_most_4 : decode cX2_most 4 = .ok (.iload_n 1, 1) := by decide +kernel
theorem dX2_most_5 : decode cX2_most 5 = .ok (.bipush 8, 2) := by decide +kernel
theorem dX2_most_7 : decode cX2_most 7 = .ok (.imul, 1) := by decide +kernel
theorem dX2_most_8 : decode cX2_most 8 = .ok (.iload_n 2, 1) := by decide +kernel
theorem dX2_most_9 : decode cX2_most 9 = .ok (.iadd, 1) := by decide +kernel
theorem dX2_most_10 : decode cX2_most 10 = .ok (.iaload, 1) := by decide +kernel
theorem dX2_most_11 : decode cX2_most 11 = .ok (.ireturn, 1) := by decide +kernel
theorem dX2_least_0 : decode cX2_least 0 = .ok (.aload_n 0, 1) := by decide +kernel
theorem dX2_least_1 : decode cX2_least 1 = .ok (.getfield 9, 3) := by decide +kernel
theorem dX2_least_4 : decode cX2_least 4 = .ok (.iload_n 2, 1) := by decide +kernel
theorem dX2_least_5 : decode cX2_least 5 = .ok (.bipush 8, 2) := by decide +kernel
theorem dX2_least_7 : decode cX2_least 7 = .ok (.imul, 1) := by decide +kernel
theorem dX2_least_8 : decode cX2_least 8 = .ok (.iload_n 1, 1) := by decide +kernel
theorem dX2_least_9 : decode cX2_least 9 = .ok (.iadd, 1) := by decide +kernel
theorem dX2_least_10 : decode cX2_least 10 = .ok (.iaload, 1) := by decide +kernel
theorem dX2_least_11 : decode cX2_least 11 = .ok (.ineg, 1) := by decide +kernel
theorem dX2_least_12 : decode cX2_least 12 = .ok (.ireturn, 1) := by decide +kernel
set_option maxRecDepth 20000 in
theorem ggX2_admits_X2_least : GoodIn wsX2_admits wsX2_least := goodIn_r _ [5, 6, 11] (by decide +kernel) (by decide +kernel)
set_option maxRecDepth 20000 in
theorem gX2_admits_X2_least : GoodIn wsX2_admits (wsV RX2 19 RX2 yX2_least wsX2_least) := goodIn_app (goodIn_of _ (by decide +kernel)) ggX2_admits_X2_least
set_option maxRecDepth 20000 in
theorem ggX2_admits_X2_most : GoodIn wsX2_admits wsX2_most := goodIn_r _ [10, 6, 11] (by decide +kernel) (by decide +kernel)
set_option maxRecDepth 20000 in
theorem gX2_admits_X2_most : GoodIn wsX2_admits (wsV RX2 23 RX2 yX2_most wsX2_most) := goodIn_app (goodIn_of _ (by decide +kernel)) ggX2_admits_X2_most
theorem dX2_admits_0 : decode cX2_admits 0 = .ok (.iload 4, 2) := by decide +kernel
theorem dX2_admits_2 : decode cX2_admits 2 = .ok (.aload_n 0, 1) := by decide +kernel
theorem dX2_admits_3 : decode cX2_admits 3 = .ok (.iload_n 1, 1) := by decide +kernel
theorem dX2_admits_4 : decode cX2_admits 4 = .ok (.iload_n 2, 1) := by decide +kernel
theorem dX2_admits_5 : decode cX2_admits 5 = .ok (.invokevirtual 19, 3) := by decide +kernel
theorem dX2_admits_8 : decode cX2_admits 8 = .ok (.if_icmp .lt 17, 3) := by decide +kernel
theorem dX2_admits_11 : decode cX2_admits 11 = .ok (.iload_n 3, 1) := by decide +kernel
theorem dX2_admits_12 : decode cX2_admits 12 = .ok (.aload_n 0, 1) := by decide +kernel
theorem dX2_admits_13 : decode cX2_admits 13 = .ok (.iload_n 1, 1) := by decide +kernel
theorem dX2_admits_14 : decode cX2_admits 14 = .ok (.iload_n 2, 1) := by decide +kernel
theorem dX2_admits_15 : decode cX2_admits 15 = .ok (.invokevirtual 23, 3) := by decide +kernel
theorem dX2_admits_18 : decode cX2_admits 18 = .ok (.if_icmp .gt 7, 3) := by decide +kernel
theorem dX2_admits_21 : decode cX2_admits 21 = .ok (.iconst 1, 1) := by decide +kernel
theorem dX2_admits_22 : decode cX2_admits 22 = .ok (.goto 4, 3) := by decide +kernel
theorem dX2_admits_25 : decode cX2_admits 25 = .ok (.iconst 0, 1) := by decide +kernel
theorem dX2_admits_26 : decode cX2_admits 26 = .ok (.ireturn, 1) := by decide +kernel
set_option maxRecDepth 20000 in
theorem ggX2_tighten_X2_lower : GoodIn wsX2_tighten wsX2_lower := goodIn_r _ [5, 6, 7] (by decide +kernel) (by decide +kernel)
set_option maxRecDepth 20000 in
theorem gX2_tighten_X2_lower : GoodIn wsX2_tighten (wsV RX2 26 RX2 yX2_lower wsX2_lower) := goodIn_app (goodIn_of _ (by decide +kernel)) ggX2_tighten_X2_lower
theorem dX2_tighten_0 : decode cX2_tighten 0 = .ok (.aload_n 0, 1) := by decide +kernel
theorem dX2_tighten_1 : decode cX2_tighten 1 = .ok (.iload_n 1, 1) := by decide +kernel
theorem dX2_tighten_2 : decode cX2_tighten 2 = .ok (.iload_n 2, 1) := by decide +kernel
theorem dX2_tighten_3 : decode cX2_tighten 3 = .ok (.iload 4, 2) := by decide +kernel
theorem dX2_tighten_5 : decode cX2_tighten 5 = .ok (.invokevirtual 26, 3) := by decide +kernel
theorem dX2_tighten_8 : decode cX2_tighten 8 = .ok (.aload_n 0, 1) := by decide +kernel
theorem dX2_tighten_9 : decode cX2_tighten 9 = .ok (.iload_n 2, 1) := by decide +kernel
theorem dX2_tighten_10 : decode cX2_tighten 10 = .ok (.iload_n 1, 1) := by decide +kernel
theorem dX2_tighten_11 : decode cX2_tighten 11 = .ok (.iload_n 3, 1) := by decide +kernel
theorem dX2_tighten_12 : decode cX2_tighten 12 = .ok (.ineg, 1) := by decide +kernel
theorem dX2_tighten_13 : decode cX2_tighten 13 = .ok (.invokevirtual 26, 3) := by decide +kernel
theorem dX2_tighten_16 : decode cX2_tighten 16 = .ok (.return_, 1) := by decide +kernel
theorem dX2_sameAs_0 : decode cX2_sameAs 0 = .ok (.iconst 0, 1) := by decide +kernel
theorem dX2_sameAs_1 : decode cX2_sameAs 1 = .ok (.istore_n 2, 1) := by decide +kernel
theorem dX2_sameAs_2 : decode cX2_sameAs 2 = .ok (.iload_n 2, 1) := by decide +kernel
theorem dX2_sameAs_3 : decode cX2_sameAs 3 = .ok (.bipush 64, 2) := by decide +kernel
theorem dX2_sameAs_5 : decode cX2_sameAs 5 = .ok (.if_icmp .ge 26, 3) := by decide +kernel
theorem dX2_sameAs_8 : decode cX2_sameAs 8 = .ok (.aload_n 0, 1) := by decide +kernel
theorem dX2_sameAs_9 : decode cX2_sameAs 9 = .ok (.getfield 9, 3) := by decide +kernel
theorem dX2_sameAs_12 : decode cX2_sameAs 12 = .ok (.iload_n 2, 1) := by decide +kernel
theorem dX2_sameAs_13 : decode cX2_sameAs 13 = .ok (.iaload, 1) := by decide +kernel
theorem dX2_sameAs_14 : decode cX2_sameAs 14 = .ok (.aload_n 1, 1) := by decide +kernel
theorem dX2_sameAs_15 : decode cX2_sameAs 15 = .ok (.getfield 9, 3) := by decide +kernel
theorem dX2_sameAs_18 : decode cX2_sameAs 18 = .ok (.iload_n 2, 1) := by decide +kernel
theorem dX2_sameAs_19 : decode cX2_sameAs 19 = .ok (.iaload, 1) := by decide +kernel
theorem dX2_sameAs_20 : decode cX2_sameAs 20 = .ok (.if_icmp .eq 5, 3) := by decide +kernel
theorem dX2_sameAs_23 : decode cX2_sameAs 23 = .ok (.iconst 0, 1) := by decide +kernel
theorem dX2_sameAs_24 : decode cX2_sameAs 24 = .ok (.ireturn, 1) := by decide +kernel
theorem dX2_sameAs_25 : decode cX2_sameAs 25 = .ok (.iinc 2 1, 3) := by decide +kernel
theorem dX2_sameAs_28 : decode cX2_sameAs 28 = .ok (.goto (-26), 3) := by decide +kernel
theorem dX2_sameAs_31 : decode cX2_sameAs 31 = .ok (.iconst 1, 1) := by decide +kernel
theorem dX2_sameAs_32 : decode cX2_sameAs 32 = .ok (.ireturn, 1) := by decide +kernel
theorem dX2_lower_0 : decode cX2_lower 0 = .ok (.iconst 0, 1) := by decide +kernel
theorem dX2_lower_1 : decode cX2_lower 1 = .ok (.istore 4, 2) := by decide +kernel
theorem dX2_lower_3 : decode cX2_lower 3 = .ok (.iload 4, 2) := by decide +kernel
theorem dX2_lower_5 : decode cX2_lower 5 = .ok (.bipush 8, 2) := by decide +kernel
theorem dX2_lower_7 : decode cX2_lower 7 = .ok (.if_icmp .ge 91, 3) := by decide +kernel
theorem dX2_lower_10 : decode cX2_lower 10 = .ok (.aload_n 0, 1) := by decide +kernel
theorem dX2_lower_11 : decode cX2_lower 11 = .ok (.getfield 9, 3) := by decide +kernel
theorem dX2_lower_14 : decode cX2_lower 14 = .ok (.iload 4, 2) := by decide +kernel
theorem dX2_lower_16 : decode cX2_lower 16 = .ok (.bipush 8, 2) := by decide +kernel
theorem dX2_lower_18 : decode cX2_lower 18 = .ok (.imul, 1) := by decide +kernel
theorem dX2_lower_19 : decode cX2_lower 19 = .ok (.iload_n 1, 1) := by decide +kernel
theorem dX2_lower_20 : decode cX2_lower 20 = .ok (.iadd, 1) := by decide +kernel
theorem dX2_lower_21 : decode cX2_lower 21 = .ok (.iaload, 1) := by decide +kernel
theorem dX2_lower_22 : decode cX2_lower 22 = .ok (.iload_n 3, 1) := by decide +kernel
theorem dX2_lower_23 : decode cX2_lower 23 = .ok (.iadd, 1) := by decide +kernel
theorem dX2_lower_24 : decode cX2_lower 24 = .ok (.istore 5, 2) := by decide +kernel
theorem dX2_lower_26 : decode cX2_lower 26 = .ok (.iconst 0, 1) := by decide +kernel
theorem dX2_lower_27 : decode cX2_lower 27 = .ok (.istore 6, 2) := by decide +kernel
theorem dX2_lower_29 : decode cX2_lower 29 = .ok (.iload 6, 2) := by decide +kernel
theorem dX2_lower_31 : decode cX2_lower 31 = .ok (.bipush 8, 2) := by decide +kernel
theorem dX2_lower_33 : decode cX2_lower 33 = .ok (.if_icmp .ge 59, 3) := by decide +kernel
theorem dX2_lower_36 : decode cX2_lower 36 = .ok (.iload 5, 2) := by decide +kernel
theorem dX2_lower_38 : decode cX2_lower 38 = .ok (.aload_n 0, 1) := by decide +kernel
theorem dX2_lower_39 : decode cX2_lower 39 = .ok (.getfield 9, 3) := by decide +kernel
theorem dX2_lower_42 : decode cX2_lower 42 = .ok (.iload_n 2, 1) := by decide +kernel
theorem dX2_lower_43 : decode cX2_lower 43 = .ok (.bipush 8, 2) := by decide +kernel
theorem dX2_lower_45 : decode cX2_lower 45 = .ok (.imul, 1) := by decide +kernel
theorem dX2_lower_46 : decode cX2_lower 46 = .ok (.iload 6, 2) := by decide +kernel
theorem dX2_lower_48 : decode cX2_lower 48 = .ok (.iadd, 1) := by decide +kernel
theorem dX2_lower_49 : decode cX2_lower 49 = .ok (.iaload, 1) := by decide +kernel
theorem dX2_lower_50 : decode cX2_lower 50 = .ok (.iadd, 1) := by decide +kernel
theorem dX2_lower_51 : decode cX2_lower 51 = .ok (.istore 7, 2) := by decide +kernel
theorem dX2_lower_53 : decode cX2_lower 53 = .ok (.iload 7, 2) := by decide +kernel
theorem dX2_lower_55 : decode cX2_lower 55 = .ok (.aload_n 0, 1) := by decide +kernel
theorem dX2_lower_56 : decode cX2_lower 56 = .ok (.getfield 9, 3) := by decide +kernel
theorem dX2_lower_59 : decode cX2_lower 59 = .ok (.iload 4, 2) := by decide +kernel
theorem dX2_lower_61 : decode cX2_lower 61 = .ok (.bipush 8, 2) := by decide +kernel
theorem dX2_lower_63 : decode cX2_lower 63 = .ok (.imul, 1) := by decide +kernel
theorem dX2_lower_64 : decode cX2_lower 64 = .ok (.iload 6, 2) := by decide +kernel
theorem dX2_lower_66 : decode cX2_lower 66 = .ok (.iadd, 1) := by decide +kernel
theorem dX2_lower_67 : decode cX2_lower 67 = .ok (.iaload, 1) := by decide +kernel
theorem dX2_lower_68 : decode cX2_lower 68 = .ok (.if_icmp .ge 18, 3) := by decide +kernel
theorem dX2_lower_71 : decode cX2_lower 71 = .ok (.aload_n 0, 1) := by decide +kernel
theorem dX2_lower_72 : decode cX2_lower 72 = .ok (.getfield 9, 3) := by decide +kernel
theorem dX2_lower_75 : decode cX2_lower 75 = .ok (.iload 4, 2) := by decide +kernel
theorem dX2_lower_77 : decode cX2_lower 77 = .ok (.bipush 8, 2) := by decide +kernel
theorem dX2_lower_79 : decode cX2_lower 79 = .ok (.imul, 1) := by decide +kernel
theorem dX2_lower_80 : decode cX2_lower 80 = .ok (.iload 6, 2) := by decide +kernel
theorem dX2_lower_82 : decode cX2_lower 82 = .ok (.iadd, 1) := by decide +kernel
theorem dX2_lower_83 : decode cX2_lower 83 = .ok (.iload 7, 2) := by decide +kernel
theorem dX2_lower_85 : decode cX2_lower 85 = .ok (.iastore, 1) := by decide +kernel
theorem dX2_lower_86 : decode cX2_lower 86 = .ok (.iinc 6 1, 3) := by decide +kernel
theorem dX2_lower_89 : decode cX2_lower 89 = .ok (.goto (-60), 3) := by decide +kernel
theorem dX2_lower_92 : decode cX2_lower 92 = .ok (.iinc 4 1, 3) := by decide +kernel
theorem dX2_lower_95 : decode cX2_lower 95 = .ok (.goto (-92), 3) := by decide +kernel
theorem dX2_lower_98 : decode cX2_lower 98 = .ok (.return_, 1) := by decide +kernel
set_option maxRecDepth 20000 in
theorem ggX3_init_X2_init : GoodIn wsX3_init wsX2_init := goodIn_r _ [21, 22, 2, 3, 4, 23, 24, 25, 26, 14, 27, 28, 40] (by decide +kernel) (by decide +kernel)
set_option maxRecDepth 20000 in
theorem gX3_init_X2_init : GoodIn wsX3_init (wsX2_init) := ggX3_init_X2_init
theorem dX3_init_0 : decode cX3_init 0 = .ok (.aload_n 0, 1) := by decide +kernel
theorem dX3_init_1 : decode cX3_init 1 = .ok (.invokespecial 3, 3) := by decide +kernel
theorem dX3_init_4 : decode cX3_init 4 = .ok (.aload_n 0, 1) := by decide +kernel
theorem dX3_init_5 : decode cX3_init 5 = .ok (.bipush 60, 2) := by decide +kernel
theorem dX3_init_7 : decode cX3_init 7 = .ok (.newarray .int, 2) := by decide +kernel
theorem dX3_init_9 : decode cX3_init 9 = .ok (.putfield 9, 3) := by decide +kernel
theorem dX3_init_12 : decode cX3_init 12 = .ok (.aload_n 0, 1) := by decide +kernel
theorem dX3_init_13 : decode cX3_init 13 = .ok (.bipush 60, 2) := by decide +kernel
theorem dX3_init_15 : decode cX3_init 15 = .ok (.newarray .int, 2) := by decide +kernel
theorem dX3_init_17 : decode cX3_init 17 = .ok (.putfield 15, 3) := by decide +kernel
theorem dX3_init_20 : decode cX3_init 20 = .ok (.aload_n 0, 1) := by decide +kernel
theorem dX3_init_21 : decode cX3_init 21 = .ok (.bipush 60, 2) := by decide +kernel
theorem dX3_init_23 : decode cX3_init 23 = .ok (.newarray .int, 2) := by decide +kernel
theorem dX3_init_25 : decode cX3_init 25 = .ok (.putfield 18, 3) := by decide +kernel
theorem dX3_init_28 : decode cX3_init 28 = .ok (.aload_n 0, 1) := by decide +kernel
theorem dX3_init_29 : decode cX3_init 29 = .ok (.bipush 60, 2) := by decide +kernel
theorem dX3_init_31 : decode cX3_init 31 = .ok (.newarray .int, 2) := by decide +kernel
theorem dX3_init_33 : decode cX3_init 33 = .ok (.putfield 21, 3) := by decide +kernel
theorem dX3_init_36 : decode cX3_init 36 = .ok (.aload_n 0, 1) := by decide +kernel
theorem dX3_init_37 : decode cX3_init 37 = .ok (.bipush 60, 2) := by decide +kernel
theorem dX3_init_39 : decode cX3_init 39 = .ok (.newarray .int, 2) := by decide +kernel
theorem dX3_init_41 : decode cX3_init 41 = .ok (.putfield 24, 3) := by decide +kernel
theorem dX3_init_44 : decode cX3_init 44 = .ok (.aload_n 0, 1) := by decide +kernel
theorem dX3_init_45 : decode cX3_init 45 = .ok (.bipush 8, 2) := by decide +kernel
theorem dX3_init_47 : decode cX3_init 47 = .ok (.newarray .int, 2) := by decide +kernel
theorem dX3_init_49 : decode cX3_init 49 = .ok (.putfield 27, 3) := by decide +kernel
theorem dX3_init_52 : decode cX3_init 52 = .ok (.aload_n 0, 1) := by decide +kernel
theorem dX3_init_53 : decode cX3_init 53 = .ok (.bipush 8, 2) := by decide +kernel
theorem dX3_init_55 : decode cX3_init 55 = .ok (.newarray .int, 2) := by decide +kernel
theorem dX3_init_57 : decode cX3_init 57 = .ok (.putfield 30, 3) := by decide +kernel
theorem dX3_init_60 : decode cX3_init 60 = .ok (.aload_n 0, 1) := by decide +kernel
theorem dX3_init_61 : decode cX3_init 61 = .ok (.new 33, 3) := by decide +kernel
theorem dX3_init_64 : decode cX3_init 64 = .ok (.dup, 1) := by decide +kernel
theorem dX3_init_65 : decode cX3_init 65 = .ok (.invokespecial 35, 3) := by decide +kernel
theorem dX3_init_68 : decode cX3_init 68 = .ok (.putfield 36, 3) := by decide +kernel
theorem dX3_init_71 : decode cX3_init 71 = .ok (.aload_n 0, 1) := by decide +kernel
theorem dX3_init_72 : decode cX3_init 72 = .ok (.new 33, 3) := by decide +kernel
theorem dX3_init_75 : decode cX3_init 75 = .ok (.dup, 1) := by decide +kernel
theorem dX3_init_76 : decode cX3_init 76 = .ok (.invokespecial 35, 3) := by decide +kernel
theorem dX3_init_79 : decode cX3_init 79 = .ok (.putfield 40, 3) := by decide +kernel
theorem dX3_init_82 : decode cX3_init 82 = .ok (.aload_n 0, 1) := by decide +kernel
theorem dX3_init_83 : decode cX3_init 83 = .ok (.iconst 0, 1) := by decide +kernel
theorem dX3_init_84 : decode cX3_init 84 = .ok (.putfield 43, 3) := by decide +kernel
theorem dX3_init_87 : decode cX3_init 87 = .ok (.aload_n 0, 1) := by decide +kernel
theorem dX3_init_88 : decode cX3_init 88 = .ok (.iconst 0, 1) := by decide +kernel
theorem dX3_init_89 : decode cX3_init 89 = .ok (.putfield 47, 3) := by decide +kernel
theorem dX3_init_92 : decode cX3_init 92 = .ok (.return_, 1) := by decide +kernel
theorem dX3_slotOf_0 : decode cX3_slotOf 0 = .ok (.iconst 0, 1) := by decide +kernel
theorem dX3_slotOf_1 : decode cX3_slotOf 1 = .ok (.istore_n 2, 1) := by decide +kernel
theorem dX3_slotOf_2 : decode cX3_slotOf 2 = .ok (.iload_n 2, 1) := by decide +kernel
theorem dX3_slotOf_3 : decode cX3_slotOf 3 = .ok (.aload_n 0, 1) := by decide +kernel
theorem dX3_slotOf_4 : decode cX3_slotOf 4 = .ok (.getfield 43, 3) := by decide +kernel
theorem dX3_slotOf_7 : decode cX3_slotOf 7 = .ok (.if_icmp .ge 21, 3) := by decide +kernel
theorem dX3_slotOf_10 : decode cX3_slotOf 10 = .ok (.aload_n 0, 1) := by decide +kernel
theorem dX3_slotOf_11 : decode cX3_slotOf 11 = .ok (.getfield 9, 3) := by decide +kernel
theorem dX3_slotOf_14 : decode cX3_slotOf 14 = .ok (.iload_n 2, 1) := by decide +kernel
theorem dX3_slotOf_15 : decode cX3_slotOf 15 = .ok (.iaload, 1) := by decide +kernel
theorem dX3_slotOf_16 : decode cX3_slotOf 16 = .ok (.iload_n 1, 1) := by decide +kernel
theorem dX3_slotOf_17 : decode cX3_slotOf 17 = .ok (.if_icmp .ne 5, 3) := by decide +kernel
theorem dX3_slotOf_20 : decode cX3_slotOf 20 = .ok (.iload_n 2, 1) := by decide +kernel
theorem dX3_slotOf_21 : decode cX3_slotOf 21 = .ok (.ireturn, 1) := by decide +kernel
theorem dX3_slotOf_22 : decode cX3_slotOf 22 = .ok (.iinc 2 1, 3) := by decide +kernel
theorem dX3_slotOf_25 : decode cX3_slotOf 25 = .ok (.goto (-23), 3) := by decide +kernel
theorem dX3_slotOf_28 : decode cX3_slotOf 28 = .ok (.iconst (-1), 1) := by decide +kernel
theorem dX3_slotOf_29 : decode cX3_slotOf 29 = .ok (.ireturn, 1) := by decide +kernel
set_option maxRecDepth 20000 in
theorem ggX3_take_X2_tighten : GoodIn wsX3_take wsX2_tighten := goodIn_r _ [13, 14, 15, 16, 12, 17, 18, 30] (by decide +kernel) (by decide +kernel)
set_option maxRecDepth 20000 in
theorem gX3_take_X2_tighten : GoodIn wsX3_take (wsV RX3 50 RX2 yX2_tighten wsX2_tighten) := goodIn_app (goodIn_of _ (by decide +kernel)) ggX3_take_X2_tighten
theorem dX3_take_0 : decode cX3_take 0 = .ok (.aload_n 0, 1) := by decide +kernel
theorem dX3_take_1 : decode cX3_take 1 = .ok (.getfield 9, 3) := by decide +kernel
theorem dX3_take_4 : decode cX3_take 4 = .ok (.aload_n 0, 1) := by decide +kernel
theorem dX3_take_5 : decode cX3_take 5 = .ok (.getfield 43, 3) := by decide +kernel
theorem dX3_take_8 : decode cX3_take 8 = .ok (.aload_n 0, 1) := by decide +kernel
theorem dX3_take_9 : decode cX3_take 9 = .ok (.getfield 47, 3) := by decide +kernel
theorem dX3_take_12 : decode cX3_take 12 = .ok (.iastore, 1) := by decide +kernel
theorem dX3_take_13 : decode cX3_take 13 = .ok (.aload_n 0, 1) := by decide +kernel
theorem dX3_take_14 : decode cX3_take 14 = .ok (.getfield 15, 3) := by decide +kernel
theorem dX3_take_17 : decode cX3_take 17 = .ok (.aload_n 0, 1) := by decide +kernel
theorem dX3_take_18 : decode cX3_take 18 = .ok (.getfield 43, 3) := by decide +kernel
theorem dX3_take_21 : decode cX3_take 21 = .ok (.iload_n 1, 1) := by decide +kernel
theorem dX3_take_22 : decode cX3_take 22 = .ok (.iastore, 1) := by decide +kernel
theorem dX3_take_23 : decode cX3_take 23 = .ok (.aload_n 0, 1) := by decide +kernel
theorem dX3_take_24 : decode cX3_take 24 = .ok (.getfield 18, 3) := by decide +kernel
theorem dX3_take_27 : decode cX3_take 27 = .ok (.aload_n 0, 1) := by decide +kernel
theorem dX3_take_28 : decode cX3_take 28 = .ok (.getfield 43, 3) := by decide +kernel
theorem dX3_take_31 : decode cX3_take 31 = .ok (.iload_n 2, 1) := by decide +kernel
theorem dX3_take_32 : decode cX3_take 32 = .ok (.iastore, 1) := by decide +kernel
theorem dX3_take_33 : decode cX3_take 33 = .ok (.aload_n 0, 1) := by decide +kernel
theorem dX3_take_34 : decode cX3_take 34 = .ok (.getfield 21, 3) := by decide +kernel
theorem dX3_take_37 : decode cX3_take 37 = .ok (.aload_n 0, 1) := by decide +kernel
theorem dX3_take_38 : decode cX3_take 38 = .ok (.getfield 43, 3) := by decide +kernel
theorem dX3_take_41 : decode cX3_take 41 = .ok (.iload_n 3, 1) := by decide +kernel
theorem dX3_take_42 : decode cX3_take 42 = .ok (.iastore, 1) := by decide +kernel
theorem dX3_take_43 : decode cX3_take 43 = .ok (.aload_n 0, 1) := by decide +kernel
theorem dX3_take_44 : decode cX3_take 44 = .ok (.getfield 24, 3) := by decide +kernel
theorem dX3_take_47 : decode cX3_take 47 = .ok (.aload_n 0, 1) := by decide +kernel
theorem dX3_take_48 : decode cX3_take 48 = .ok (.getfield 43, 3) := by decide +kernel
theorem dX3_take_51 : decode cX3_take 51 = .ok (.iload 4, 2) := by decide +kernel
theorem dX3_take_53 : decode cX3_take 53 = .ok (.iastore, 1) := by decide +kernel
theorem dX3_take_54 : decode cX3_take 54 = .ok (.aload_n 0, 1) := by decide +kernel
theorem dX3_take_55 : decode cX3_take 55 = .ok (.dup, 1) := by decide +kernel
theorem dX3_take_56 : decode cX3_take 56 = .ok (.getfield 43, 3) := by decide +kernel
theorem dX3_take_59 : decode cX3_take 59 = .ok (.iconst 1, 1) := by decide +kernel
theorem dX3_take_60 : decode cX3_take 60 = .ok (.iadd, 1) := by decide +kernel
theorem dX3_take_61 : decode cX3_take 61 = .ok (.putfield 43, 3) := by decide +kernel
theorem dX3_take_64 : decode cX3_take 64 = .ok (.aload_n 0, 1) := by decide +kernel
theorem dX3_take_65 : decode cX3_take 65 = .ok (.dup, 1) := by decide +kernel
theorem dX3_take_66 : decode cX3_take 66 = .ok (.getfield 47, 3) := by decide +kernel
theorem dX3_take_69 : decode cX3_take 69 = .ok (.iconst 1, 1) := by decide +kernel
theorem dX3_take_70 : decode cX3_take 70 = .ok (.iadd, 1) := by decide +kernel
theorem dX3_take_71 : decode cX3_take 71 = .ok (.putfield 47, 3) := by decide +kernel
theorem dX3_take_74 : decode cX3_take 74 = .ok (.aload_n 0, 1) := by decide +kernel
theorem dX3_take_75 : decode cX3_take 75 = .ok (.getfield 40, 3) := by decide +kernel
theorem dX3_take_78 : decode cX3_take 78 = .ok (.iload_n 1, 1) := by decide +kernel
theorem dX3_take_79 : decode cX3_take 79 = .ok (.iload_n 2, 1) := by decide +kernel
theorem dX3_take_80 : decode cX3_take 80 = .ok (.iload_n 3, 1) := by decide +kernel
theorem dX3_take_81 : decode cX3_take 81 = .ok (.iload 4, 2) := by decide +kernel
theorem dX3_take_83 : decode cX3_take 83 = .ok (.invokevirtual 50, 3) := by decide +kernel
theorem dX3_take_86 : decode cX3_take 86 = .ok (.aload_n 0, 1) := by decide +kernel
theorem dX3_take_87 : decode cX3_take 87 = .ok (.getfield 47, 3) := by decide +kernel
theorem dX3_take_90 : decode cX3_take 90 = .ok (.iconst 1, 1) := by decide +kernel
theorem dX3_take_91 : decode cX3_take 91 = .ok (.isub, 1) := by decide +kernel
theorem dX3_take_92 : decode cX3_take 92 = .ok (.ireturn, 1) := by decide +kernel
set_option maxRecDepth 20000 in
theorem ggX3_drop_X3_drawWithout : GoodIn wsX3_drop wsX3_drawWithout := goodIn_r _ [12, 1, 3, 4, 5, 6, 13, 14, 15, 16, 17, 18, 19, 20, 21, 22, 23, 24, 25, 26, 27, 28, 29, 30, 31, 32, 33, 34, 35, 36, 37, 38, 39] (by decide +kernel) (by decide +kernel)
set_option maxRecDepth 20000 in
theorem gX3_drop_X3_drawWithout : GoodIn wsX3_drop (wsV RX3 54 RX3 yX3_drawWithout wsX3_drawWithout) := goodIn_app (goodIn_of _ (by decide +kernel)) ggX3_drop_X3_drawWithout
theorem dX3_drop_0 : decode cX3_drop 0 = .ok (.aload_n 0, 1) := by decide +kernel
theorem dX3_drop_1 : decode cX3_drop 1 = .ok (.dup, 1) := by decide +kernel
theorem dX3_drop_2 : decode cX3_drop 2 = .ok (.getfield 43, 3) := by decide +kernel
theorem dX3_drop_5 : decode cX3_drop 5 = .ok (.iconst 1, 1) := by decide +kernel
theorem dX3_drop_6 : decode cX3_drop 6 = .ok (.isub, 1) := by decide +kernel
theorem dX3_drop_7 : decode cX3_drop 7 = .ok (.putfield 43, 3) := by decide +kernel
theorem dX3_drop_10 : decode cX3_drop 10 = .ok (.aload_n 0, 1) := by decide +kernel
theorem dX3_drop_11 : decode cX3_drop 11 = .ok (.getfield 9, 3) := by decide +kernel
theorem dX3_drop_14 : decode cX3_drop 14 = .ok (.iload_n 1, 1) := by decide +kernel
theorem dX3_drop_15 : decode cX3_drop 15 = .ok (.aload_n 0, 1) := by decide +kernel
theorem dX3_drop_16 : decode cX3_drop 16 = .ok (.getfield 9, 3) := by decide +kernel
theorem dX3_drop_19 : decode cX3_drop 19 = .ok (.aload_n 0, 1) := by decide +kernel
theorem dX3_drop_20 : decode cX3_drop 20 = .ok (.getfield 43, 3) := by decide +kernel
theorem dX3_drop_23 : decode cX3_drop 23 = .ok (.iaload, 1) := by decide +kernel
theorem dX3_drop_24 : decode cX3_drop 24 = .ok (.iastore, 1) := by decide +kernel
theorem dX3_drop_25 : decode cX3_drop 25 = .ok (.aload_n 0, 1) := by decide +kernel
theorem dX3_drop_26 : decode cX3_drop 26 = .ok (.getfield 15, 3) := by decide +kernel
theorem dX3_drop_29 : decode cX3_drop 29 = .ok (.iload_n 1, 1) := by decide +kernel
theorem dX3_drop_30 : decode cX3_drop 30 = .ok (.aload_n 0, 1) := by decide +kernel
theorem dX3_drop_31 : decode cX3_drop 31 = .ok (.getfield 15, 3) := by decide +kernel
theorem dX3_drop_34 : decode cX3_drop 34 = .ok (.aload_n 0, 1) := by decide +kernel
theorem dX3_drop_35 : decode cX3_drop 35 = .ok (.getfield 43, 3) := by decide +kernel
theorem dX3_drop_38 : decode cX3_drop 38 = .ok (.iaload, 1) := by decide +kernel
theorem dX3_drop_39 : decode cX3_drop 39 = .ok (.iastore, 1) := by decide +kernel
theorem dX3_drop_40 : decode cX3_drop 40 = .ok (.aload_n 0, 1) := by decide +kernel
theorem dX3_drop_41 : decode cX3_drop 41 = .ok (.getfield 18, 3) := by decide +kernel
theorem dX3_drop_44 : decode cX3_drop 44 = .ok (.iload_n 1, 1) := by decide +kernel
theorem dX3_drop_45 : decode cX3_drop 45 = .ok (.aload_n 0, 1) := by decide +kernel
theorem dX3_drop_46 : decode cX3_drop 46 = .ok (.getfield 18, 3) := by decide +kernel
theorem dX3_drop_49 : decode cX3_drop 49 = .ok (.aload_n 0, 1) := by decide +kernel
theorem dX3_drop_50 : decode cX3_drop 50 = .ok (.getfield 43, 3) := by decide +kernel
theorem dX3_drop_53 : decode cX3_drop 53 = .ok (.iaload, 1) := by decide +kernel
theorem dX3_drop_54 : decode cX3_drop 54 = .ok (.iastore, 1) := by decide +kernel
theorem dX3_drop_55 : decode cX3_drop 55 = .ok (.aload_n 0, 1) := by decide +kernel
theorem dX3_drop_56 : decode cX3_drop 56 = .ok (.getfield 21, 3) := by decide +kernel
theorem dX3_drop_59 : decode cX3_drop 59 = .ok (.iload_n 1, 1) := by decide +kernel
theorem dX3_drop_60 : decode cX3_drop 60 = .ok (.aload_n 0, 1) := by decide +kernel
theorem dX3_drop_61 : decode cX3_drop 61 = .ok (.getfield 21, 3) := by decide +kernel
theorem dX3_drop_64 : decode cX3_drop 64 = .ok (.aload_n 0, 1) := by decide +kernel
theorem dX3_drop_65 : decode cX3_drop 65 = .ok (.getfield 43, 3) := by decide +kernel
theorem dX3_drop_68 : decode cX3_drop 68 = .ok (.iaload, 1) := by decide +kernel
theorem dX3_drop_69 : decode cX3_drop 69 = .ok (.iastore, 1) := by decide +kernel
theorem dX3_drop_70 : decode cX3_drop 70 = .ok (.aload_n 0, 1) := by decide +kernel
theorem dX3_drop_71 : decode cX3_drop 71 = .ok (.getfield 24, 3) := by decide +kernel
theorem dX3_drop_74 : decode cX3_drop 74 = .ok (.iload_n 1, 1) := by decide +kernel
theorem dX3_drop_75 : decode cX3_drop 75 = .ok (.aload_n 0, 1) := by decide +kernel
theorem dX3_drop_76 : decode cX3_drop 76 = .ok (.getfield 24, 3) := by decide +kernel
theorem dX3_drop_79 : decode cX3_drop 79 = .ok (.aload_n 0, 1) := by decide +kernel
theorem dX3_drop_80 : decode cX3_drop 80 = .ok (.getfield 43, 3) := by decide +kernel
theorem dX3_drop_83 : decode cX3_drop 83 = .ok (.iaload, 1) := by decide +kernel
theorem dX3_drop_84 : decode cX3_drop 84 = .ok (.iastore, 1) := by decide +kernel
theorem dX3_drop_85 : decode cX3_drop 85 = .ok (.aload_n 0, 1) := by decide +kernel
theorem dX3_drop_86 : decode cX3_drop 86 = .ok (.iconst (-1), 1) := by decide +kernel
theorem dX3_drop_87 : decode cX3_drop 87 = .ok (.aload_n 0, 1) := by decide +kernel
theorem dX3_drop_88 : decode cX3_drop 88 = .ok (.getfield 40, 3) := by decide +kernel
theorem dX3_drop_91 : decode cX3_drop 91 = .ok (.invokevirtual 54, 3) := by decide +kernel
theorem dX3_drop_94 : decode cX3_drop 94 = .ok (.return_, 1) := by decide +kernel
set_option maxRecDepth 20000 in
theorem ggX3_isOfNoMatter_X3_drawWithout : GoodIn wsX3_isOfNoMatter wsX3_drawWithout := goodIn_r _ [7, 8, 9, 10, 11, 12, 13, 14, 15, 16, 17, 18, 19, 20, 21, 22, 23, 24, 25, 26, 27, 32, 33, 34, 35, 36, 37, 38, 39, 40, 41, 42, 43] (by decide +kernel) (by decide +kernel)
set_option maxRecDepth 20000 in
theorem gX3_isOfNoMatter_X3_drawWithout : GoodIn wsX3_isOfNoMatter (wsV RX3 54 RX3 yX3_drawWithout wsX3_drawWithout) := goodIn_app (goodIn_of _ (by decide +kernel)) ggX3_isOfNoMatter_X3_drawWithout
set_option maxRecDepth 20000 in
theorem ggX3_isOfNoMatter_X2_sameAs : GoodIn wsX3_isOfNoMatter wsX2_sameAs := goodIn_r _ [31, 18, 43] (by decide +kernel) (by decide +kernel)
set_option maxRecDepth 20000 in
theorem gX3_isOfNoMatter_X2_sameAs : GoodIn wsX3_isOfNoMatter (wsV RX3 58 RX2 yX2_sameAs wsX2_sameAs) := goodIn_app (goodIn_of _ (by decide +kernel)) ggX3_isOfNoMatter_X2_sameAs
theorem dX3_isOfNoMatter_0 : decode cX3_isOfNoMatter 0 = .ok (.aload_n 0, 1) := by decide +kernel
theorem dX3_isOfNoMatter_1 : decode cX3_isOfNoMatter 1 = .ok (.iload_n 1, 1) := by decide +kernel
theorem dX3_isOfNoMatter_2 : decode cX3_isOfNoMatter 2 = .ok (.aload_n 0, 1) := by decide +kernel
theorem dX3_isOfNoMatter_3 : decode cX3_isOfNoMatter 3 = .ok (.getfield 36, 3) := by decide +kernel
theorem dX3_isOfNoMatter_6 : decode cX3_isOfNoMatter 6 = .ok (.invokevirtual 54, 3) := by decide +kernel
theorem dX3_isOfNoMatter_9 : decode cX3_isOfNoMatter 9 = .ok (.aload_n 0, 1) := by decide +kernel
theorem dX3_isOfNoMatter_10 : decode cX3_isOfNoMatter 10 = .ok (.getfield 36, 3) := by decide +kernel
theorem dX3_isOfNoMatter_13 : decode cX3_isOfNoMatter 13 = .ok (.aload_n 0, 1) := by decide +kernel
theorem dX3_isOfNoMatter_14 : decode cX3_isOfNoMatter 14 = .ok (.getfield 40, 3) := by decide +kernel
theorem dX3_isOfNoMatter_17 : decode cX3_isOfNoMatter 17 = .ok (.invokevirtual 58, 3) := by decide +kernel
theorem dX3_isOfNoMatter_20 : decode cX3_isOfNoMatter 20 = .ok (.ireturn, 1) := by decide +kernel
set_option maxRecDepth 20000 in
theorem ggX3_drawWithout_X2_loosen : GoodIn wsX3_drawWithout wsX2_loosen := goodIn_r _ [10, 11, 12, 32] (by decide +kernel) (by decide +kernel)
set_option maxRecDepth 20000 in
theorem gX3_drawWithout_X2_loosen : GoodIn wsX3_drawWithout (wsV RX3 62 RX2 yX2_loosen wsX2_loosen) := goodIn_app (goodIn_of _ (by decide +kernel)) ggX3_drawWithout_X2_loosen
set_option maxRecDepth 20000 in
theorem ggX3_drawWithout_X2_tighten : GoodIn wsX3_drawWithout wsX2_tighten := goodIn_r _ [16, 17, 18, 19, 9, 20, 11, 32] (by decide +kernel) (by decide +kernel)
set_option maxRecDepth 20000 in
theorem gX3_drawWithout_X2_tighten : GoodIn wsX3_drawWithout (wsV RX3 50 RX2 yX2_tighten wsX2_tighten) := goodIn_app (goodIn_of _ (by decide +kernel)) ggX3_drawWithout_X2_tighten
theorem dX3_drawWithout_0 : decode cX3_drawWithout 0 = .ok (.aload_n 2, 1) := by decide +kernel
theorem dX3_drawWithout_1 : decode cX3_drawWithout 1 = .ok (.invokevirtual 62, 3) := by decide +kernel
theorem dX3_drawWithout_4 : decode cX3_drawWithout 4 = .ok (.iconst 0, 1) := by decide +kernel
theorem dX3_drawWithout_5 : decode cX3_drawWithout 5 = .ok (.istore_n 3, 1) := by decide +kernel
theorem dX3_drawWithout_6 : decode cX3_drawWithout 6 = .ok (.iload_n 3, 1) := by decide +kernel
theorem dX3_drawWithout_7 : decode cX3_drawWithout 7 = .ok (.aload_n 0, 1) := by decide +kernel
theorem dX3_drawWithout_8 : decode cX3_drawWithout 8 = .ok (.getfield 43, 3) := by decide +kernel
theorem dX3_drawWithout_11 : decode cX3_drawWithout 11 = .ok (.if_icmp .ge 42, 3) := by decide +kernel
theorem dX3_drawWithout_14 : decode cX3_drawWithout 14 = .ok (.iload_n 3, 1) := by decide +kernel
theorem dX3_drawWithout_15 : decode cX3_drawWithout 15 = .ok (.iload_n 1, 1) := by decide +kernel
theorem dX3_drawWithout_16 : decode cX3_drawWithout 16 = .ok (.if_icmp .eq 31, 3) := by decide +kernel
theorem dX3_drawWithout_19 : decode cX3_drawWithout 19 = .ok (.aload_n 2, 1) := by decide +kernel
theorem dX3_drawWithout_20 : decode cX3_drawWithout 20 = .ok (.aload_n 0, 1) := by decide +kernel
theorem dX3_drawWithout_21 : decode cX3_drawWithout 21 = .ok (.getfield 15, 3) := by decide +kernel
theorem dX3_drawWithout_24 : decode cX3_drawWithout 24 = .ok (.iload_n 3, 1) := by decide +kernel
theorem dX3_drawWithout_25 : decode cX3_drawWithout 25 = .ok (.iaload, 1) := by decide +kernel
theorem dX3_drawWithout_26 : decode cX3_drawWithout 26 = .ok (.aload_n 0, 1) := by decide +kernel
theorem dX3_drawWithout_27 : decode cX3_drawWithout 27 = .ok (.getfield 18, 3) := by decide +kernel
theorem dX3_drawWithout_30 : decode cX3_drawWithout 30 = .ok (.iload_n 3, 1) := by decide +kernel
theorem dX3_drawWithout_31 : decode cX3_drawWithout 31 = .ok (.iaload, 1) := by decide +kernel
theorem dX3_drawWithout_32 : decode cX3_drawWithout 32 = .ok (.aload_n 0, 1) := by decide +kernel
theorem dX3_drawWithout_33 : decode cX3_drawWithout 33 = .ok (.getfield 21, 3) := by decide +kernel
theorem dX3_drawWithout_36 : decode cX3_drawWithout 36 = .ok (.iload_n 3, 1) := by decide +kernel
theorem dX3_drawWithout_37 : decode cX3_drawWithout 37 = .ok (.iaload, 1) := by decide +kernel
theorem dX3_drawWithout_38 : decode cX3_drawWithout 38 = .ok (.aload_n 0, 1) := by decide +kernel
theorem dX3_drawWithout_39 : decode cX3_drawWithout 39 = .ok (.getfield 24, 3) := by decide +kernel
theorem dX3_drawWithout_42 : decode cX3_drawWithout 42 = .ok (.iload_n 3, 1) := by decide +kernel
theorem dX3_drawWithout_43 : decode cX3_drawWithout 43 = .ok (.iaload, 1) := by decide +kernel
theorem dX3_drawWithout_44 : decode cX3_drawWithout 44 = .ok (.invokevirtual 50, 3) := by decide +kernel
theorem dX3_drawWithout_47 : decode cX3_drawWithout 47 = .ok (.iinc 3 1, 3) := by decide +kernel
theorem dX3_drawWithout_50 : decode cX3_drawWithout 50 = .ok (.goto (-44), 3) := by decide +kernel
theorem dX3_drawWithout_53 : decode cX3_drawWithout 53 = .ok (.return_, 1) := by decide +kernel
set_option maxRecDepth 20000 in
theorem ggX3_fewestAgainst_X3_fewestAgainstLimit : GoodIn wsX3_fewestAgainst wsX3_fewestAgainstLimit := goodIn_r _ [9, 10, 11, 12, 13, 14, 15, 16, 17, 8, 18, 19, 1, 2, 3, 4, 20, 21, 22, 23, 24, 25, 26, 27, 28, 29, 30, 31, 32, 33, 34, 35, 36, 37, 38, 39, 40, 41, 42, 43, 44] (by decide +kernel) (by decide +kernel)
set_option maxRecDepth 20000 in
theorem gX3_fewestAgainst_X3_fewestAgainstLimit : GoodIn wsX3_fewestAgainst (wsV RX3 65 RX3 yX3_fewestAgainstLimit wsX3_fewestAgainstLimit) := goodIn_app (goodIn_of _ (by decide +kernel)) ggX3_fewestAgainst_X3_fewestAgainstLimit
theorem dX3_fewestAgainst_0 : decode cX3_fewestAgainst 0 = .ok (.aload_n 0, 1) := by decide +kernel
theorem dX3_fewestAgainst_1 : decode cX3_fewestAgainst 1 = .ok (.iload_n 1, 1) := by decide +kernel
theorem dX3_fewestAgainst_2 : decode cX3_fewestAgainst 2 = .ok (.iload_n 2, 1) := by decide +kernel
theorem dX3_fewestAgainst_3 : decode cX3_fewestAgainst 3 = .ok (.iload 4, 2) := by decide +kernel
theorem dX3_fewestAgainst_5 : decode cX3_fewestAgainst 5 = .ok (.invokevirtual 65, 3) := by decide +kernel
theorem dX3_fewestAgainst_8 : decode cX3_fewestAgainst 8 = .ok (.aload_n 0, 1) := by decide +kernel
theorem dX3_fewestAgainst_9 : decode cX3_fewestAgainst 9 = .ok (.iload_n 2, 1) := by decide +kernel
theorem dX3_fewestAgainst_10 : decode cX3_fewestAgainst 10 = .ok (.iload_n 1, 1) := by decide +kernel
theorem dX3_fewestAgainst_11 : decode cX3_fewestAgainst 11 = .ok (.iload_n 3, 1) := by decide +kernel
theorem dX3_fewestAgainst_12 : decode cX3_fewestAgainst 12 = .ok (.ineg, 1) := by decide +kernel
theorem dX3_fewestAgainst_13 : decode cX3_fewestAgainst 13 = .ok (.invokevirtual 65, 3) := by decide +kernel
theorem dX3_fewestAgainst_16 : decode cX3_fewestAgainst 16 = .ok (.invokestatic 69, 3) := by decide +kernel
theorem dX3_fewestAgainst_19 : decode cX3_fewestAgainst 19 = .ok (.ireturn, 1) := by decide +kernel
set_option maxRecDepth 20000 in
theorem ggX3_fewestAgainstLimit_J7_fill_53178 : GoodIn wsX3_fewestAgainstLimit wsJ7_fill_53178 := goodIn_r _ [6] (by decide +kernel) (by decide +kernel)
set_option maxRecDepth 20000 in
theorem gX3_fewestAgainstLimit_J7_fill_53178 : GoodIn wsX3_fewestAgainstLimit (va_wsS RX3 76 yJ7_fill_53178 wsJ7_fill_53178) := goodIn_app (goodIn_of _ (by decide +kernel)) ggX3_fewestAgainstLimit_J7_fill_53178
set_option maxRecDepth 20000 in
theorem ggX3_fewestAgainstLimit_X3_reachByBounds : GoodIn wsX3_fewestAgainstLimit wsX3_reachByBounds := goodIn_r _ [10, 11, 12, 13, 14, 15] (by decide +kernel) (by decide +kernel)
set_option maxRecDepth 20000 in
theorem gX3_fewestAgainstLimit_X3_reachByBounds : GoodIn wsX3_fewestAgainstLimit (va_wsS RX3 82 yX3_reachByBounds wsX3_reachByBounds) := goodIn_app (goodIn_of _ (by decide +kernel)) ggX3_fewestAgainstLimit_X3_reachByBounds
set_option maxRecDepth 20000 in
theorem ggX3_fewestAgainstLimit_X3_reachByOneTieMore : GoodIn wsX3_fewestAgainstLimit wsX3_reachByOneTieMore := goodIn_r _ [19, 1, 20, 21, 22, 23, 24, 25, 26, 27, 28, 12, 13, 14, 15, 29, 7, 8, 9, 10, 11, 30, 31, 32, 33, 34, 35, 36, 37, 38, 39, 40] (by decide +kernel) (by decide +kernel)
set_option maxRecDepth 20000 in
theorem gX3_fewestAgainstLimit_X3_reachByOneTieMore : GoodIn wsX3_fewestAgainstLimit (wsV RX3 86 RX3 yX3_reachByOneTieMore wsX3_reachByOneTieMore) := goodIn_app (goodIn_of _ (by decide +kernel)) ggX3_fewestAgainstLimit_X3_reachByOneTieMore
theorem dX3_fewestAgainstLimit_0 : decode cX3_fewestAgainstLimit 0 = .ok (.aload_n 0, 1) := by decide +kernel
theorem dX3_fewestAgainstLimit_1 : decode cX3_fewestAgainstLimit 1 = .ok (.getfield 27, 3) := by decide +kernel
theorem dX3_fewestAgainstLimit_4 : decode cX3_fewestAgainstLimit 4 = .ok (.ldc 75, 2) := by decide +kernel
theorem dX3_fewestAgainstLimit_6 : decode cX3_fewestAgainstLimit 6 = .ok (.invokestatic 76, 3) := by decide +kernel
theorem dX3_fewestAgainstLimit_9 : decode cX3_fewestAgainstLimit 9 = .ok (.aload_n 0, 1) := by decide +kernel
theorem dX3_fewestAgainstLimit_10 : decode cX3_fewestAgainstLimit 10 = .ok (.getfield 27, 3) := by decide +kernel
theorem dX3_fewestAgainstLimit_13 : decode cX3_fewestAgainstLimit 13 = .ok (.iload_n 2, 1) := by decide +kernel
theorem dX3_fewestAgainstLimit_14 : decode cX3_fewestAgainstLimit 14 = .ok (.iconst 0, 1) := by decide +kernel
theorem dX3_fewestAgainstLimit_15 : decode cX3_fewestAgainstLimit 15 = .ok (.iastore, 1) := by decide +kernel
theorem dX3_fewestAgainstLimit_16 : decode cX3_fewestAgainstLimit 16 = .ok (.aload_n 0, 1) := by decide +kernel
theorem dX3_fewestAgainstLimit_17 : decode cX3_fewestAgainstLimit 17 = .ok (.getfield 27, 3) := by decide +kernel
theorem dX3_fewestAgainstLimit_20 : decode cX3_fewestAgainstLimit 20 = .ok (.invokestatic 82, 3) := by decide +kernel
theorem dX3_fewestAgainstLimit_23 : decode cX3_fewestAgainstLimit 23 = .ok (.iconst 0, 1) := by decide +kernel
theorem dX3_fewestAgainstLimit_24 : decode cX3_fewestAgainstLimit 24 = .ok (.istore 4, 2) := by decide +kernel
theorem dX3_fewestAgainstLimit_26 : decode cX3_fewestAgainstLimit 26 = .ok (.iload 4, 2) := by decide +kernel
theorem dX3_fewestAgainstLimit_28 : decode cX3_fewestAgainstLimit 28 = .ok (.bipush 8, 2) := by decide +kernel
theorem dX3_fewestAgainstLimit_30 : decode cX3_fewestAgainstLimit 30 = .ok (.if_icmp .ge 27, 3) := by decide +kernel
theorem dX3_fewestAgainstLimit_33 : decode cX3_fewestAgainstLimit 33 = .ok (.aload_n 0, 1) := by decide +kernel
theorem dX3_fewestAgainstLimit_34 : decode cX3_fewestAgainstLimit 34 = .ok (.getfield 27, 3) := by decide +kernel
theorem dX3_fewestAgainstLimit_37 : decode cX3_fewestAgainstLimit 37 = .ok (.iload_n 1, 1) := by decide +kernel
theorem dX3_fewestAgainstLimit_38 : decode cX3_fewestAgainstLimit 38 = .ok (.iaload, 1) := by decide +kernel
theorem dX3_fewestAgainstLimit_39 : decode cX3_fewestAgainstLimit 39 = .ok (.iload_n 3, 1) := by decide +kernel
theorem dX3_fewestAgainstLimit_40 : decode cX3_fewestAgainstLimit 40 = .ok (.iadd, 1) := by decide +kernel
theorem dX3_fewestAgainstLimit_41 : decode cX3_fewestAgainstLimit 41 = .ok (.ifCond .ge 6, 3) := by decide +kernel
theorem dX3_fewestAgainstLimit_44 : decode cX3_fewestAgainstLimit 44 = .ok (.iload 4, 2) := by decide +kernel
theorem dX3_fewestAgainstLimit_46 : decode cX3_fewestAgainstLimit 46 = .ok (.ireturn, 1) := by decide +kernel
theorem dX3_fewestAgainstLimit_47 : decode cX3_fewestAgainstLimit 47 = .ok (.aload_n 0, 1) := by decide +kernel
theorem dX3_fewestAgainstLimit_48 : decode cX3_fewestAgainstLimit 48 = .ok (.invokevirtual 86, 3) := by decide +kernel
theorem dX3_fewestAgainstLimit_51 : decode cX3_fewestAgainstLimit 51 = .ok (.iinc 4 1, 3) := by decide +kernel
theorem dX3_fewestAgainstLimit_54 : decode cX3_fewestAgainstLimit 54 = .ok (.goto (-28), 3) := by decide +kernel
theorem dX3_fewestAgainstLimit_57 : decode cX3_fewestAgainstLimit 57 = .ok (.bipush 8, 2) := by decide +kernel
theorem dX3_fewestAgainstLimit_59 : decode cX3_fewestAgainstLimit 59 = .ok (.ireturn, 1) := by decide +kernel
set_option maxRecDepth 20000 in
theorem ggX3_reachByOneTieMore_X3_reachByBounds : GoodIn wsX3_reachByOneTieMore wsX3_reachByBounds := goodIn_r _ [19, 20, 11, 12, 13, 14] (by decide +kernel) (by decide +kernel)
set_option maxRecDepth 20000 in
theorem gX3_reachByOneTieMore_X3_reachByBounds : GoodIn wsX3_reachByOneTieMore (va_wsS RX3 82 yX3_reachByBounds wsX3_reachByBounds) := goodIn_app (goodIn_of _ (by decide +kernel)) ggX3_reachByOneTieMore_X3_reachByBounds
theorem dX3_reachByOneTieMore_0 : decode cX3_reachByOneTieMore 0 = .ok (.aload_n 0, 1) := by decide +kernel
theorem dX3_reachByOneTieMore_1 : decode cX3_reachByOneTieMore 1 = .ok (.getfield 27, 3) := by decide +kernel
theorem dX3_reachByOneTieMore_4 : decode cX3_reachByOneTieMore 4 = .ok (.iconst 0, 1) := by decide +kernel
theorem dX3_reachByOneTieMore_5 : decode cX3_reachByOneTieMore 5 = .ok (.aload_n 0, 1) := by decide +kernel
theorem dX3_reachByOneTieMore_6 : decode cX3_reachByOneTieMore 6 = .ok (.getfield 30, 3) := by decide +kernel
theorem dX3_reachByOneTieMore_9 : decode cX3_reachByOneTieMore 9 = .ok (.iconst 0, 1) := by decide +kernel
theorem dX3_reachByOneTieMore_10 : decode cX3_reachByOneTieMore 10 = .ok (.bipush 8, 2) := by decide +kernel
theorem dX3_reachByOneTieMore_12 : decode cX3_reachByOneTieMore 12 = .ok (.invokestatic 89, 3) := by decide +kernel
theorem dX3_reachByOneTieMore_15 : decode cX3_reachByOneTieMore 15 = .ok (.iconst 0, 1) := by decide +kernel
theorem dX3_reachByOneTieMore_16 : decode cX3_reachByOneTieMore 16 = .ok (.istore_n 1, 1) := by decide +kernel
theorem dX3_reachByOneTieMore_17 : decode cX3_reachByOneTieMore 17 = .ok (.iload_n 1, 1) := by decide +kernel
theorem dX3_reachByOneTieMore_18 : decode cX3_reachByOneTieMore 18 = .ok (.aload_n 0, 1) := by decide +kernel
theorem dX3_reachByOneTieMore_19 : decode cX3_reachByOneTieMore 19 = .ok (.getfield 43, 3) := by decide +kernel
theorem dX3_reachByOneTieMore_22 : decode cX3_reachByOneTieMore 22 = .ok (.if_icmp .ge 79, 3) := by decide +kernel
theorem dX3_reachByOneTieMore_25 : decode cX3_reachByOneTieMore 25 = .ok (.aload_n 0, 1) := by decide +kernel
theorem dX3_reachByOneTieMore_26 : decode cX3_reachByOneTieMore 26 = .ok (.getfield 15, 3) := by decide +kernel
theorem dX3_reachByOneTieMore_29 : decode cX3_reachByOneTieMore 29 = .ok (.iload_n 1, 1) := by decide +kernel
theorem dX3_reachByOneTieMore_30 : decode cX3_reachByOneTieMore 30 = .ok (.iaload, 1) := by decide +kernel
theorem dX3_reachByOneTieMore_31 : decode cX3_reachByOneTieMore 31 = .ok (.istore_n 2, 1) := by decide +kernel
theorem dX3_reachByOneTieMore_32 : decode cX3_reachByOneTieMore 32 = .ok (.aload_n 0, 1) := by decide +kernel
theorem dX3_reachByOneTieMore_33 : decode cX3_reachByOneTieMore 33 = .ok (.getfield 18, 3) := by decide +kernel
theorem dX3_reachByOneTieMore_36 : decode cX3_reachByOneTieMore 36 = .ok (.iload_n 1, 1) := by decide +kernel
theorem dX3_reachByOneTieMore_37 : decode cX3_reachByOneTieMore 37 = .ok (.iaload, 1) := by decide +kernel
theorem dX3_reachByOneTieMore_38 : decode cX3_reachByOneTieMore 38 = .ok (.istore_n 3, 1) := by decide +kernel
theorem dX3_reachByOneTieMore_39 : decode cX3_reachByOneTieMore 39 = .ok (.aload_n 0, 1) := by decide +kernel
theorem dX3_reachByOneTieMore_40 : decode cX3_reachByOneTieMore 40 = .ok (.getfield 30, 3) := by decide +kernel
theorem dX3_reachByOneTieMore_43 : decode cX3_reachByOneTieMore 43 = .ok (.iload_n 3, 1) := by decide +kernel
theorem dX3_reachByOneTieMore_44 : decode cX3_reachByOneTieMore 44 = .ok (.aload_n 0, 1) := by decide +kernel
theorem dX3_reachByOneTieMore_45 : decode cX3_reachByOneTieMore 45 = .ok (.getfield 30, 3) := by decide +kernel
theorem dX3_reachByOneTieMore_48 : decode cX3_reachByOneTieMore 48 = .ok (.iload_n 3, 1) := by decide +kernel
theorem dX3_reachByOneTieMore_49 : decode cX3_reachByOneTieMore 49 = .ok (.iaload, 1) := by decide +kernel
theorem dX3_reachByOneTieMore_50 : decode cX3_reachByOneTieMore 50 = .ok (.aload_n 0, 1) := by decide +kernel
theorem dX3_reachByOneTieMore_51 : decode cX3_reachByOneTieMore 51 = .ok (.getfield 27, 3) := by decide +kernel
theorem dX3_reachByOneTieMore_54 : decode cX3_reachByOneTieMore 54 = .ok (.iload_n 2, 1) := by decide +kernel
theorem dX3_reachByOneTieMore_55 : decode cX3_reachByOneTieMore 55 = .ok (.iaload, 1) := by decide +kernel
theorem dX3_reachByOneTieMore_56 : decode cX3_reachByOneTieMore 56 = .ok (.aload_n 0, 1) := by decide +kernel
theorem dX3_reachByOneTieMore_57 : decode cX3_reachByOneTieMore 57 = .ok (.getfield 24, 3) := by decide +kernel
theorem dX3_reachByOneTieMore_60 : decode cX3_reachByOneTieMore 60 = .ok (.iload_n 1, 1) := by decide +kernel
theorem dX3_reachByOneTieMore_61 : decode cX3_reachByOneTieMore 61 = .ok (.iaload, 1) := by decide +kernel
theorem dX3_reachByOneTieMore_62 : decode cX3_reachByOneTieMore 62 = .ok (.iadd, 1) := by decide +kernel
theorem dX3_reachByOneTieMore_63 : decode cX3_reachByOneTieMore 63 = .ok (.invokestatic 69, 3) := by decide +kernel
theorem dX3_reachByOneTieMore_66 : decode cX3_reachByOneTieMore 66 = .ok (.iastore, 1) := by decide +kernel
theorem dX3_reachByOneTieMore_67 : decode cX3_reachByOneTieMore 67 = .ok (.aload_n 0, 1) := by decide +kernel
theorem dX3_reachByOneTieMore_68 : decode cX3_reachByOneTieMore 68 = .ok (.getfield 30, 3) := by decide +kernel
theorem dX3_reachByOneTieMore_71 : decode cX3_reachByOneTieMore 71 = .ok (.iload_n 2, 1) := by decide +kernel
theorem dX3_reachByOneTieMore_72 : decode cX3_reachByOneTieMore 72 = .ok (.aload_n 0, 1) := by decide +kernel
theorem dX3_reachByOneTieMore_73 : decode cX3_reachByOneTieMore 73 = .ok (.getfield 30, 3) := by decide +kernel
theorem dX3_reachByOneTieMore_76 : decode cX3_reachByOneTieMore 76 = .ok (.iload_n 2, 1) := by decide +kernel
theorem dX3_reachByOneTieMore_77 : decode cX3_reachByOneTieMore 77 = .ok (.iaload, 1) := by decide +kernel
theorem dX3_reachByOneTieMore_78 : decode cX3_reachByOneTieMore 78 = .ok (.aload_n 0, 1) := by decide +kernel
theorem dX3_reachByOneTieMore_79 : decode cX3_reachByOneTieMore 79 = .ok (.getfield 27, 3) := by decide +kernel
theorem dX3_reachByOneTieMore_82 : decode cX3_reachByOneTieMore 82 = .ok (.iload_n 3, 1) := by decide +kernel
theorem dX3_reachByOneTieMore_83 : decode cX3_reachByOneTieMore 83 = .ok (.iaload, 1) := by decide +kernel
theorem dX3_reachByOneTieMore_84 : decode cX3_reachByOneTieMore 84 = .ok (.aload_n 0, 1) := by decide +kernel
theorem dX3_reachByOneTieMore_85 : decode cX3_reachByOneTieMore 85 = .ok (.getfield 21, 3) := by decide +kernel
theorem dX3_reachByOneTieMore_88 : decode cX3_reachByOneTieMore 88 = .ok (.iload_n 1, 1) := by decide +kernel
theorem dX3_reachByOneTieMore_89 : decode cX3_reachByOneTieMore 89 = .ok (.iaload, 1) := by decide +kernel
theorem dX3_reachByOneTieMore_90 : decode cX3_reachByOneTieMore 90 = .ok (.isub, 1) := by decide +kernel
theorem dX3_reachByOneTieMore_91 : decode cX3_reachByOneTieMore 91 = .ok (.invokestatic 69, 3) := by decide +kernel
theorem dX3_reachByOneTieMore_94 : decode cX3_reachByOneTieMore 94 = .ok (.iastore, 1) := by decide +kernel
theorem dX3_reachByOneTieMore_95 : decode cX3_reachByOneTieMore 95 = .ok (.iinc 1 1, 3) := by decide +kernel
theorem dX3_reachByOneTieMore_98 : decode cX3_reachByOneTieMore 98 = .ok (.goto (-81), 3) := by decide +kernel
theorem dX3_reachByOneTieMore_101 : decode cX3_reachByOneTieMore 101 = .ok (.aload_n 0, 1) := by decide +kernel
theorem dX3_reachByOneTieMore_102 : decode cX3_reachByOneTieMore 102 = .ok (.getfield 30, 3) := by decide +kernel
theorem dX3_reachByOneTieMore_105 : decode cX3_reachByOneTieMore 105 = .ok (.invokestatic 82, 3) := by decide +kernel
theorem dX3_reachByOneTieMore_108 : decode cX3_reachByOneTieMore 108 = .ok (.aload_n 0, 1) := by decide +kernel
theorem dX3_reachByOneTieMore_109 : decode cX3_reachByOneTieMore 109 = .ok (.getfield 30, 3) := by decide +kernel
theorem dX3_reachByOneTieMore_112 : decode cX3_reachByOneTieMore 112 = .ok (.iconst 0, 1) := by decide +kernel
theorem dX3_reachByOneTieMore_113 : decode cX3_reachByOneTieMore 113 = .ok (.aload_n 0, 1) := by decide +kernel
theorem dX3_reachByOneTieMore_114 : decode cX3_reachByOneTieMore 114 = .ok (.getfield 27, 3) := by decide +kernel
theorem dX3_reachByOneTieMore_117 : decode cX3_reachByOneTieMore 117 = .ok (.iconst 0, 1) := by decide +kernel
theorem dX3_reachByOneTieMore_118 : decode cX3_reachByOneTieMore 118 = .ok (.bipush 8, 2) := by decide +kernel
theorem dX3_reachByOneTieMore_120 : decode cX3_reachByOneTieMore 120 = .ok (.invokestatic 89, 3) := by decide +kernel
theorem dX3_reachByOneTieMore_123 : decode cX3_reachByOneTieMore 123 = .ok (.return_, 1) := by decide +kernel
theorem dX3_reachByBounds_0 : decode cX3_reachByBounds 0 = .ok (.iconst 1, 1) := by decide +kernel
theorem dX3_reachByBounds_1 : decode cX3_reachByBounds 1 = .ok (.istore_n 1, 1) := by decide +kernel
theorem dX3_reachByBounds_2 : decode cX3_reachByBounds 2 = .ok (.iload_n 1, 1) := by decide +kernel
theorem dX3_reachByBounds_3 : decode cX3_reachByBounds 3 = .ok (.bipush 8, 2) := by decide +kernel
theorem dX3_reachByBounds_5 : decode cX3_reachByBounds 5 = .ok (.if_icmp .ge 24, 3) := by decide +kernel
theorem dX3_reachByBounds_8 : decode cX3_reachByBounds 8 = .ok (.aload_n 0, 1) := by decide +kernel
theorem dX3_reachByBounds_9 : decode cX3_reachByBounds 9 = .ok (.iconst 0, 1) := by decide +kernel
theorem dX3_reachByBounds_10 : decode cX3_reachByBounds 10 = .ok (.aload_n 0, 1) := by decide +kernel
theorem dX3_reachByBounds_11 : decode cX3_reachByBounds 11 = .ok (.iconst 0, 1) := by decide +kernel
theorem dX3_reachByBounds_12 : decode cX3_reachByBounds 12 = .ok (.iaload, 1) := by decide +kernel
theorem dX3_reachByBounds_13 : decode cX3_reachByBounds 13 = .ok (.aload_n 0, 1) := by decide +kernel
theorem dX3_reachByBounds_14 : decode cX3_reachByBounds 14 = .ok (.iload_n 1, 1) := by decide +kernel
theorem dX3_reachByBounds_15 : decode cX3_reachByBounds 15 = .ok (.iaload, 1) := by decide +kernel
theorem dX3_reachByBounds_16 : decode cX3_reachByBounds 16 = .ok (.ldc 95, 2) := by decide +kernel
theorem dX3_reachByBounds_18 : decode cX3_reachByBounds 18 = .ok (.iadd, 1) := by decide +kernel
theorem dX3_reachByBounds_19 : decode cX3_reachByBounds 19 = .ok (.invokestatic 69, 3) := by decide +kernel
theorem dX3_reachByBounds_22 : decode cX3_reachByBounds 22 = .ok (.iastore, 1) := by decide +kernel
theorem dX3_reachByBounds_23 : decode cX3_reachByBounds 23 = .ok (.iinc 1 1, 3) := by decide +kernel
theorem dX3_reachByBounds_26 : decode cX3_reachByBounds 26 = .ok (.goto (-24), 3) := by decide +kernel
theorem dX3_reachByBounds_29 : decode cX3_reachByBounds 29 = .ok (.iconst 1, 1) := by decide +kernel
theorem dX3_reachByBounds_30 : decode cX3_reachByBounds 30 = .ok (.istore_n 1, 1) := by decide +kernel
theorem dX3_reachByBounds_31 : decode cX3_reachByBounds 31 = .ok (.iload_n 1, 1) := by decide +kernel
theorem dX3_reachByBounds_32 : decode cX3_reachByBounds 32 = .ok (.bipush 8, 2) := by decide +kernel
theorem dX3_reachByBounds_34 : decode cX3_reachByBounds 34 = .ok (.if_icmp .ge 24, 3) := by decide +kernel
theorem dX3_reachByBounds_37 : decode cX3_reachByBounds 37 = .ok (.aload_n 0, 1) := by decide +kernel
theorem dX3_reachByBounds_38 : decode cX3_reachByBounds 38 = .ok (.iload_n 1, 1) := by decide +kernel
theorem dX3_reachByBounds_39 : decode cX3_reachByBounds 39 = .ok (.aload_n 0, 1) := by decide +kernel
theorem dX3_reachByBounds_40 : decode cX3_reachByBounds 40 = .ok (.iload_n 1, 1) := by decide +kernel
theorem dX3_reachByBounds_41 : decode cX3_reachByBounds 41 = .ok (.iaload, 1) := by decide +kernel
theorem dX3_reachByBounds_42 : decode cX3_reachByBounds 42 = .ok (.aload_n 0, 1) := by decide +kernel
theorem dX3_reachByBounds_43 : decode cX3_reachByBounds 43 = .ok (.iconst 0, 1) := by decide +kernel
theorem dX3_reachByBounds_44 : decode cX3_reachByBounds 44 = .ok (.iaload, 1) := by decide +kernel
theorem dX3_reachByBounds_45 : decode cX3_reachByBounds 45 = .ok (.ldc 95, 2) := by decide +kernel
theorem dX3_reachByBounds_47 : decode cX3_reachByBounds 47 = .ok (.iadd, 1) := by decide +kernel
theorem dX3_reachByBounds_48 : decode cX3_reachByBounds 48 = .ok (.invokestatic 69, 3) := by decide +kernel
theorem dX3_reachByBounds_51 : decode cX3_reachByBounds 51 = .ok (.iastore, 1) := by decide +kernel
theorem dX3_reachByBounds_52 : decode cX3_reachByBounds 52 = .ok (.iinc 1 1, 3) := by decide +kernel
theorem dX3_reachByBounds_55 : decode cX3_reachByBounds 55 = .ok (.goto (-24), 3) := by decide +kernel
theorem dX3_reachByBounds_58 : decode cX3_reachByBounds 58 = .ok (.return_, 1) := by decide +kernel
theorem dX4_init_0 : decode cX4_init 0 = .ok (.aload_n 0, 1) := by decide +kernel
theorem dX4_init_1 : decode cX4_init 1 = .ok (.invokespecial 3, 3) := by decide +kernel
theorem dX4_init_4 : decode cX4_init 4 = .ok (.aload_n 0, 1) := by decide +kernel
theorem dX4_init_5 : decode cX4_init 5 = .ok (.bipush 8, 2) := by decide +kernel
theorem dX4_init_7 : decode cX4_init 7 = .ok (.newarray .int, 2) := by decide +kernel
theorem dX4_init_9 : decode cX4_init 9 = .ok (.putfield 9, 3) := by decide +kernel
theorem dX4_init_12 : decode cX4_init 12 = .ok (.aload_n 0, 1) := by decide +kernel
theorem dX4_init_13 : decode cX4_init 13 = .ok (.bipush 120, 2) := by decide +kernel
theorem dX4_init_15 : decode cX4_init 15 = .ok (.newarray .int, 2) := by decide +kernel
theorem dX4_init_17 : decode cX4_init 17 = .ok (.putfield 15, 3) := by decide +kernel
theorem dX4_init_20 : decode cX4_init 20 = .ok (.aload_n 0, 1) := by decide +kernel
theorem dX4_init_21 : decode cX4_init 21 = .ok (.bipush 120, 2) := by decide +kernel
theorem dX4_init_23 : decode cX4_init 23 = .ok (.newarray .int, 2) := by decide +kernel
theorem dX4_init_25 : decode cX4_init 25 = .ok (.putfield 18, 3) := by decide +kernel
theorem dX4_init_28 : decode cX4_init 28 = .ok (.aload_n 0, 1) := by decide +kernel
theorem dX4_init_29 : decode cX4_init 29 = .ok (.iconst 0, 1) := by decide +kernel
theorem dX4_init_30 : decode cX4_init 30 = .ok (.putfield 21, 3) := by decide +kernel
theorem dX4_init_33 : decode cX4_init 33 = .ok (.aload_n 0, 1) := by decide +kernel
theorem dX4_init_34 : decode cX4_init 34 = .ok (.iconst 0, 1) := by decide +kernel
theorem dX4_init_35 : decode cX4_init 35 = .ok (.putfield 25, 3) := by decide +kernel
theorem dX4_init_38 : decode cX4_init 38 = .ok (.aload_n 0, 1) := by decide +kernel
theorem dX4_init_39 : decode cX4_init 39 = .ok (.iconst 0, 1) := by decide +kernel
theorem dX4_init_40 : decode cX4_init 40 = .ok (.putfield 29, 3) := by decide +kernel
theorem dX4_init_43 : decode cX4_init 43 = .ok (.return_, 1) := by decide +kernel
theorem dX4_has_0 : decode cX4_has 0 = .ok (.iload_n 1, 1) := by decide +kernel
theorem dX4_has_1 : decode cX4_has 1 = .ok (.ifCond .lt 15, 3) := by decide +kernel
theorem dX4_has_4 : decode cX4_has 4 = .ok (.iload_n 1, 1) := by decide +kernel
theorem dX4_has_5 : decode cX4_has 5 = .ok (.aload_n 0, 1) := by decide +kernel
theorem dX4_has_6 : decode cX4_has 6 = .ok (.getfield 25, 3) := by decide +kernel
theorem dX4_has_9 : decode cX4_has 9 = .ok (.if_icmp .ge 7, 3) := by decide +kernel
theorem dX4_has_12 : decode cX4_has 12 = .ok (.iconst 1, 1) := by decide +kernel
theorem dX4_has_13 : decode cX4_has 13 = .ok (.goto 4, 3) := by decide +kernel
theorem dX4_has_16 : decode cX4_has 16 = .ok (.iconst 0, 1) := by decide +kernel
theorem dX4_has_17 : decode cX4_has 17 = .ok (.ireturn, 1) := by decide +kernel
theorem dX4_hasCamera_0 : decode cX4_hasCamera 0 = .ok (.iload_n 1, 1) := by decide +kernel
theorem dX4_hasCamera_1 : decode cX4_hasCamera 1 = .ok (.ifCond .lt 15, 3) := by decide +kernel
theorem dX4_hasCamera_4 : decode cX4_hasCamera 4 = .ok (.iload_n 1, 1) := by decide +kernel
theorem dX4_hasCamera_5 : decode cX4_hasCamera 5 = .ok (.aload_n 0, 1) := by decide +kernel
theorem dX4_hasCamera_6 : decode cX4_hasCamera 6 = .ok (.getfield 29, 3) := by decide +kernel
theorem dX4_hasCamera_9 : decode cX4_hasCamera 9 = .ok (.if_icmp .ge 7, 3) := by decide +kernel
theorem dX4_hasCamera_12 : decode cX4_hasCamera 12 = .ok (.iconst 1, 1) := by decide +kernel
theorem dX4_hasCamera_13 : decode cX4_hasCamera 13 = .ok (.goto 4, 3) := by decide +kernel
theorem dX4_hasCamera_16 : decode cX4_hasCamera 16 = .ok (.iconst 0, 1) := by decide +kernel
theorem dX4_hasCamera_17 : decode cX4_hasCamera 17 = .ok (.ireturn, 1) := by decide +kernel
set_option maxRecDepth 20000 in
theorem ggX4_settle_X2_least : GoodIn wsX4_settle wsX2_least := goodIn_r _ [15, 16, 27] (by decide +kernel) (by decide +kernel)
set_option maxRecDepth 20000 in
theorem gX4_settle_X2_least : GoodIn wsX4_settle (wsV RX4 32 RX2 yX2_least wsX2_least) := goodIn_app (goodIn_of _ (by decide +kernel)) ggX4_settle_X2_least
set_option maxRecDepth 20000 in
theorem ggX4_settle_X2_most : GoodIn wsX4_settle wsX2_most := goodIn_r _ [20, 16, 27] (by decide +kernel) (by decide +kernel)
set_option maxRecDepth 20000 in
theorem gX4_settle_X2_most : GoodIn wsX4_settle (wsV RX4 38 RX2 yX2_most wsX2_most) := goodIn_app (goodIn_of _ (by decide +kernel)) ggX4_settle_X2_most
theorem dX4_settle_0 : decode cX4_settle 0 = .ok (.aload_n 0, 1) := by decide +kernel
theorem dX4_settle_1 : decode cX4_settle 1 = .ok (.iconst 1, 1) := by decide +kernel
theorem dX4_settle_2 : decode cX4_settle 2 = .ok (.putfield 21, 3) := by decide +kernel
theorem dX4_settle_5 : decode cX4_settle 5 = .ok (.aload_n 0, 1) := by decide +kernel
theorem dX4_settle_6 : decode cX4_settle 6 = .ok (.iload_n 1, 1) := by decide +kernel
theorem dX4_settle_7 : decode cX4_settle 7 = .ok (.putfield 29, 3) := by decide +kernel
theorem dX4_settle_10 : decode cX4_settle 10 = .ok (.aload_n 0, 1) := by decide +kernel
theorem dX4_settle_11 : decode cX4_settle 11 = .ok (.getfield 9, 3) := by decide +kernel
theorem dX4_settle_14 : decode cX4_settle 14 = .ok (.iconst 0, 1) := by decide +kernel
theorem dX4_settle_15 : decode cX4_settle 15 = .ok (.iconst 0, 1) := by decide +kernel
theorem dX4_settle_16 : decode cX4_settle 16 = .ok (.iastore, 1) := by decide +kernel
theorem dX4_settle_17 : decode cX4_settle 17 = .ok (.iconst 1, 1) := by decide +kernel
theorem dX4_settle_18 : decode cX4_settle 18 = .ok (.istore_n 3, 1) := by decide +kernel
theorem dX4_settle_19 : decode cX4_settle 19 = .ok (.iload_n 3, 1) := by decide +kernel
theorem dX4_settle_20 : decode cX4_settle 20 = .ok (.aload_n 0, 1) := by decide +kernel
theorem dX4_settle_21 : decode cX4_settle 21 = .ok (.getfield 29, 3) := by decide +kernel
theorem dX4_settle_24 : decode cX4_settle 24 = .ok (.if_icmp .ge 106, 3) := by decide +kernel
theorem dX4_settle_27 : decode cX4_settle 27 = .ok (.aload_n 2, 1) := by decide +kernel
theorem dX4_settle_28 : decode cX4_settle 28 = .ok (.iconst 0, 1) := by decide +kernel
theorem dX4_settle_29 : decode cX4_settle 29 = .ok (.iload_n 3, 1) := by decide +kernel
theorem dX4_settle_30 : decode cX4_settle 30 = .ok (.invokevirtual 32, 3) := by decide +kernel
theorem dX4_settle_33 : decode cX4_settle 33 = .ok (.istore 4, 2) := by decide +kernel
theorem dX4_settle_35 : decode cX4_settle 35 = .ok (.aload_n 2, 1) := by decide +kernel
theorem dX4_settle_36 : decode cX4_settle 36 = .ok (.iconst 0, 1) := by decide +kernel
theorem dX4_settle_37 : decode cX4_settle 37 = .ok (.iload_n 3, 1) := by decide +kernel
theorem dX4_settle_38 : decode cX4_settle 38 = .ok (.invokevirtual 38, 3) := by decide +kernel
theorem dX4_settle_41 : decode cX4_settle 41 = .ok (.istore 5, 2) := by decide +kernel
theorem dX4_settle_43 : decode cX4_settle 43 = .ok (.iconst 1, 1) := by decide +kernel
theorem dX4_settle_44 : decode cX4_settle 44 = .ok (.istore 6, 2) := by decide +kernel
theorem dX4_settle_46 : decode cX4_settle 46 = .ok (.iload 6, 2) := by decide +kernel
theorem dX4_settle_48 : decode cX4_settle 48 = .ok (.iload_n 3, 1) := by decide +kernel
theorem dX4_settle_49 : decode cX4_settle 49 = .ok (.if_icmp .ge 53, 3) := by decide +kernel
theorem dX4_settle_52 : decode cX4_settle 52 = .ok (.iload 4, 2) := by decide +kernel
theorem dX4_settle_54 : decode cX4_settle 54 = .ok (.aload_n 0, 1) := by decide +kernel
theorem dX4_settle_55 : decode cX4_settle 55 = .ok (.getfield 9, 3) := by decide +kernel
theorem dX4_settle_58 : decode cX4_settle 58 = .ok (.iload 6, 2) := by decide +kernel
theorem dX4_settle_60 : decode cX4_settle 60 = .ok (.iaload, 1) := by decide +kernel
theorem dX4_settle_61 : decode cX4_settle 61 = .ok (.aload_n 2, 1) := by decide +kernel
theorem dX4_settle_62 : decode cX4_settle 62 = .ok (.iload 6, 2) := by decide +kernel
theorem dX4_settle_64 : decode cX4_settle 64 = .ok (.iload_n 3, 1) := by decide +kernel
theorem dX4_settle_65 : decode cX4_settle 65 = .ok (.invokevirtual 32, 3) := by decide +kernel
theorem dX4_settle_68 : decode cX4_settle 68 = .ok (.iadd, 1) := by decide +kernel
theorem dX4_settle_69 : decode cX4_settle 69 = .ok (.invokestatic 41, 3) := by decide +kernel
theorem dX4_settle_72 : decode cX4_settle 72 = .ok (.istore 4, 2) := by decide +kernel
theorem dX4_settle_74 : decode cX4_settle 74 = .ok (.iload 5, 2) := by decide +kernel
theorem dX4_settle_76 : decode cX4_settle 76 = .ok (.aload_n 0, 1) := by decide +kernel
theorem dX4_settle_77 : decode cX4_settle 77 = .ok (.getfield 9, 3) := by decide +kernel
theorem dX4_settle_80 : decode cX4_settle 80 = .ok (.iload 6, 2) := by decide +kernel
theorem dX4_settle_82 : decode cX4_settle 82 = .ok (.iaload, 1) := by decide +kernel
theorem dX4_settle_83 : decode cX4_settle 83 = .ok (.aload_n 2, 1) := by decide +kernel
theorem dX4_settle_84 : decode cX4_settle 84 = .ok (.iload 6, 2) := by decide +kernel
theorem dX4_settle_86 : decode cX4_settle 86 = .ok (.iload_n 3, 1) := by decide +kernel
theorem dX4_settle_87 : decode cX4_settle 87 = .ok (.invokevirtual 38, 3) := by decide +kernel
theorem dX4_settle_90 : decode cX4_settle 90 = .ok (.iadd, 1) := by decide +kernel
theorem dX4_settle_91 : decode cX4_settle 91 = .ok (.invokestatic 46, 3) := by decide +kernel
theorem dX4_settle_94 : decode cX4_settle 94 = .ok (.istore 5, 2) := by decide +kernel
theorem dX4_settle_96 : decode cX4_settle 96 = .ok (.iinc 6 1, 3) := by decide +kernel
theorem dX4_settle_99 : decode cX4_settle 99 = .ok (.goto (-53), 3) := by decide +kernel
theorem dX4_settle_102 : decode cX4_settle 102 = .ok (.aload_n 0, 1) := by decide +kernel
theorem dX4_settle_103 : decode cX4_settle 103 = .ok (.getfield 9, 3) := by decide +kernel
theorem dX4_settle_106 : decode cX4_settle 106 = .ok (.iload_n 3, 1) := by decide +kernel
theorem dX4_settle_107 : decode cX4_settle 107 = .ok (.iload 4, 2) := by decide +kernel
theorem dX4_settle_109 : decode cX4_settle 109 = .ok (.ifCond .le 8, 3) := by decide +kernel
theorem dX4_settle_112 : decode cX4_settle 112 = .ok (.iload 4, 2) := by decide +kernel
theorem dX4_settle_114 : decode cX4_settle 114 = .ok (.goto 9, 3) := by decide +kernel
theorem dX4_settle_117 : decode cX4_settle 117 = .ok (.iload 5, 2) := by decide +kernel
theorem dX4_settle_119 : decode cX4_settle 119 = .ok (.iconst 0, 1) := by decide +kernel
theorem dX4_settle_120 : decode cX4_settle 120 = .ok (.invokestatic 46, 3) := by decide +kernel
theorem dX4_settle_123 : decode cX4_settle 123 = .ok (.iastore, 1) := by decide +kernel
theorem dX4_settle_124 : decode cX4_settle 124 = .ok (.iinc 3 1, 3) := by decide +kernel
theorem dX4_settle_127 : decode cX4_settle 127 = .ok (.goto (-108), 3) := by decide +kernel
theorem dX4_settle_130 : decode cX4_settle 130 = .ok (.return_, 1) := by decide +kernel
set_option maxRecDepth 20000 in
theorem ggX4_line_X4_comesAfter : GoodIn wsX4_line wsX4_comesAfter := goodIn_r _ [12, 3, 6, 18, 19, 20, 21, 22, 23, 13, 14, 15, 16, 17] (by decide +kernel) (by decide +kernel)
set_option maxRecDepth 20000 in
theorem gX4_line_X4_comesAfter : GoodIn wsX4_line (wsV RX4 58 RX4 yX4_comesAfter wsX4_comesAfter) := goodIn_app (goodIn_of _ (by decide +kernel)) ggX4_line_X4_comesAfter
theorem dX4_line_0 : decode cX4_line 0 = .ok (.aload_n 0, 1) := by decide +kernel
theorem dX4_line_1 : decode cX4_line 1 = .ok (.aload_n 1, 1) := by decide +kernel
theorem dX4_line_2 : decode cX4_line 2 = .ok (.getfield 49, 3) := by decide +kernel
theorem dX4_line_5 : decode cX4_line 5 = .ok (.putfield 25, 3) := by decide +kernel
theorem dX4_line_8 : decode cX4_line 8 = .ok (.iconst 0, 1) := by decide +kernel
theorem dX4_line_9 : decode cX4_line 9 = .ok (.istore_n 2, 1) := by decide +kernel
theorem dX4_line_10 : decode cX4_line 10 = .ok (.iload_n 2, 1) := by decide +kernel
theorem dX4_line_11 : decode cX4_line 11 = .ok (.aload_n 0, 1) := by decide +kernel
theorem dX4_line_12 : decode cX4_line 12 = .ok (.getfield 25, 3) := by decide +kernel
theorem dX4_line_15 : decode cX4_line 15 = .ok (.if_icmp .ge 83, 3) := by decide +kernel
theorem dX4_line_18 : decode cX4_line 18 = .ok (.aload_n 0, 1) := by decide +kernel
theorem dX4_line_19 : decode cX4_line 19 = .ok (.getfield 15, 3) := by decide +kernel
theorem dX4_line_22 : decode cX4_line 22 = .ok (.iload_n 2, 1) := by decide +kernel
theorem dX4_line_23 : decode cX4_line 23 = .ok (.aload_n 1, 1) := by decide +kernel
theorem dX4_line_24 : decode cX4_line 24 = .ok (.getfield 52, 3) := by decide +kernel
theorem dX4_line_27 : decode cX4_line 27 = .ok (.iload_n 2, 1) := by decide +kernel
theorem dX4_line_28 : decode cX4_line 28 = .ok (.iaload, 1) := by decide +kernel
theorem dX4_line_29 : decode cX4_line 29 = .ok (.aload_n 0, 1) := by decide +kernel
theorem dX4_line_30 : decode cX4_line 30 = .ok (.getfield 9, 3) := by decide +kernel
theorem dX4_line_33 : decode cX4_line 33 = .ok (.aload_n 1, 1) := by decide +kernel
theorem dX4_line_34 : decode cX4_line 34 = .ok (.getfield 55, 3) := by decide +kernel
theorem dX4_line_37 : decode cX4_line 37 = .ok (.iload_n 2, 1) := by decide +kernel
theorem dX4_line_38 : decode cX4_line 38 = .ok (.iaload, 1) := by decide +kernel
theorem dX4_line_39 : decode cX4_line 39 = .ok (.iaload, 1) := by decide +kernel
theorem dX4_line_40 : decode cX4_line 40 = .ok (.iadd, 1) := by decide +kernel
theorem dX4_line_41 : decode cX4_line 41 = .ok (.iastore, 1) := by decide +kernel
theorem dX4_line_42 : decode cX4_line 42 = .ok (.iload_n 2, 1) := by decide +kernel
theorem dX4_line_43 : decode cX4_line 43 = .ok (.istore_n 3, 1) := by decide +kernel
theorem dX4_line_44 : decode cX4_line 44 = .ok (.iload_n 3, 1) := by decide +kernel
theorem dX4_line_45 : decode cX4_line 45 = .ok (.ifCond .le 40, 3) := by decide +kernel
theorem dX4_line_48 : decode cX4_line 48 = .ok (.aload_n 0, 1) := by decide +kernel
theorem dX4_line_49 : decode cX4_line 49 = .ok (.aload_n 0, 1) := by decide +kernel
theorem dX4_line_50 : decode cX4_line 50 = .ok (.getfield 18, 3) := by decide +kernel
theorem dX4_line_53 : decode cX4_line 53 = .ok (.iload_n 3, 1) := by decide +kernel
theorem dX4_line_54 : decode cX4_line 54 = .ok (.iconst 1, 1) := by decide +kernel
theorem dX4_line_55 : decode cX4_line 55 = .ok (.isub, 1) := by decide +kernel
theorem dX4_line_56 : decode cX4_line 56 = .ok (.iaload, 1) := by decide +kernel
theorem dX4_line_57 : decode cX4_line 57 = .ok (.iload_n 2, 1) := by decide +kernel
theorem dX4_line_58 : decode cX4_line 58 = .ok (.aload_n 1, 1) := by decide +kernel
theorem dX4_line_59 : decode cX4_line 59 = .ok (.invokevirtual 58, 3) := by decide +kernel
theorem dX4_line_62 : decode cX4_line 62 = .ok (.ifCond .eq 23, 3) := by decide +kernel
theorem dX4_line_65 : decode cX4_line 65 = .ok (.aload_n 0, 1) := by decide +kernel
theorem dX4_line_66 : decode cX4_line 66 = .ok (.getfield 18, 3) := by decide +kernel
theorem dX4_line_69 : decode cX4_line 69 = .ok (.iload_n 3, 1) := by decide +kernel
theorem dX4_line_70 : decode cX4_line 70 = .ok (.aload_n 0, 1) := by decide +kernel
theorem dX4_line_71 : decode cX4_line 71 = .ok (.getfield 18, 3) := by decide +kernel
theorem dX4_line_74 : decode cX4_line 74 = .ok (.iload_n 3, 1) := by decide +kernel
theorem dX4_line_75 : decode cX4_line 75 = .ok (.iconst 1, 1) := by decide +kernel
theorem dX4_line_76 : decode cX4_line 76 = .ok (.isub, 1) := by decide +kernel
theorem dX4_line_77 : decode cX4_line 77 = .ok (.iaload, 1) := by decide +kernel
theorem dX4_line_78 : decode cX4_line 78 = .ok (.iastore, 1) := by decide +kernel
theorem dX4_line_79 : decode cX4_line 79 = .ok (.iinc 3 (-1), 3) := by decide +kernel
theorem dX4_line_82 : decode cX4_line 82 = .ok (.goto (-38), 3) := by decide +kernel
theorem dX4_line_85 : decode cX4_line 85 = .ok (.aload_n 0, 1) := by decide +kernel
theorem dX4_line_86 : decode cX4_line 86 = .ok (.getfield 18, 3) := by decide +kernel
theorem dX4_line_89 : decode cX4_line 89 = .ok (.iload_n 3, 1) := by decide +kernel
theorem dX4_line_90 : decode cX4_line 90 = .ok (.iload_n 2, 1) := by decide +kernel
theorem dX4_line_91 : decode cX4_line 91 = .ok (.iastore, 1) := by decide +kernel
theorem dX4_line_92 : decode cX4_line 92 = .ok (.iinc 2 1, 3) := by decide +kernel
theorem dX4_line_95 : decode cX4_line 95 = .ok (.goto (-85), 3) := by decide +kernel
theorem dX4_line_98 : decode cX4_line 98 = .ok (.return_, 1) := by decide +kernel
theorem dX4_comesAfter_0 : decode cX4_comesAfter 0 = .ok (.aload_n 0, 1) := by decide +kernel
theorem dX4_comesAfter_1 : decode cX4_comesAfter 1 = .ok (.getfield 15, 3) := by decide +kernel
theorem dX4_comesAfter_4 : decode cX4_comesAfter 4 = .ok (.iload_n 1, 1) := by decide +kernel
theorem dX4_comesAfter_5 : decode cX4_comesAfter 5 = .ok (.iaload, 1) := by decide +kernel
theorem dX4_comesAfter_6 : decode cX4_comesAfter 6 = .ok (.aload_n 0, 1) := by decide +kernel
theorem dX4_comesAfter_7 : decode cX4_comesAfter 7 = .ok (.getfield 15, 3) := by decide +kernel
theorem dX4_comesAfter_10 : decode cX4_comesAfter 10 = .ok (.iload_n 2, 1) := by decide +kernel
theorem dX4_comesAfter_11 : decode cX4_comesAfter 11 = .ok (.iaload, 1) := by decide +kernel
theorem dX4_comesAfter_12 : decode cX4_comesAfter 12 = .ok (.if_icmp .eq 24, 3) := by decide +kernel
theorem dX4_comesAfter_15 : decode cX4_comesAfter 15 = .ok (.aload_n 0, 1) := by decide +kernel
theorem dX4_comesAfter_16 : decode cX4_comesAfter 16 = .ok (.getfield 15, 3) := by decide +kernel
theorem dX4_comesAfter_19 : decode cX4_comesAfter 19 = .ok (.iload_n 1, 1) := by decide +kernel
theorem dX4_comesAfter_20 : decode cX4_comesAfter 20 = .ok (.iaload, 1) := by decide +kernel
theorem dX4_comesAfter_21 : decode cX4_comesAfter 21 = .ok (.aload_n 0, 1) := by decide +kernel
theorem dX4_comesAfter_22 : decode cX4_comesAfter 22 = .ok (.getfield 15, 3) := by decide +kernel
theorem dX4_comesAfter_25 : decode cX4_comesAfter 25 = .ok (.iload_n 2, 1) := by decide +kernel
theorem dX4_comesAfter_26 : decode cX4_comesAfter 26 = .ok (.iaload, 1) := by decide +kernel
theorem dX4_comesAfter_27 : decode cX4_comesAfter 27 = .ok (.if_icmp .le 7, 3) := by decide +kernel
theorem dX4_comesAfter_30 : decode cX4_comesAfter 30 = .ok (.iconst 1, 1) := by decide +kernel
theorem dX4_comesAfter_31 : decode cX4_comesAfter 31 = .ok (.goto 4, 3) := by decide +kernel
theorem dX4_comesAfter_34 : decode cX4_comesAfter 34 = .ok (.iconst 0, 1) := by decide +kernel
theorem dX4_comesAfter_35 : decode cX4_comesAfter 35 = .ok (.ireturn, 1) := by decide +kernel
theorem dX4_comesAfter_36 : decode cX4_comesAfter 36 = .ok (.aload_n 3, 1) := by decide +kernel
theorem dX4_comesAfter_37 : decode cX4_comesAfter 37 = .ok (.getfield 55, 3) := by decide +kernel
theorem dX4_comesAfter_40 : decode cX4_comesAfter 40 = .ok (.iload_n 1, 1) := by decide +kernel
theorem dX4_comesAfter_41 : decode cX4_comesAfter 41 = .ok (.iaload, 1) := by decide +kernel
theorem dX4_comesAfter_42 : decode cX4_comesAfter 42 = .ok (.aload_n 3, 1) := by decide +kernel
theorem dX4_comesAfter_43 : decode cX4_comesAfter 43 = .ok (.getfield 55, 3) := by decide +kernel
theorem dX4_comesAfter_46 : decode cX4_comesAfter 46 = .ok (.iload_n 2, 1) := by decide +kernel
theorem dX4_comesAfter_47 : decode cX4_comesAfter 47 = .ok (.iaload, 1) := by decide +kernel
theorem dX4_comesAfter_48 : decode cX4_comesAfter 48 = .ok (.if_icmp .le 7, 3) := by decide +kernel
theorem dX4_comesAfter_51 : decode cX4_comesAfter 51 = .ok (.iconst 1, 1) := by decide +kernel
theorem dX4_comesAfter_52 : decode cX4_comesAfter 52 = .ok (.goto 4, 3) := by decide +kernel
theorem dX4_comesAfter_55 : decode cX4_comesAfter 55 = .ok (.iconst 0, 1) := by decide +kernel
theorem dX4_comesAfter_56 : decode cX4_comesAfter 56 = .ok (.ireturn, 1) := by decide +kernel
theorem dX4_minutesFrom_0 : decode cX4_minutesFrom 0 = .ok (.aload_n 0, 1) := by decide +kernel
theorem dX4_minutesFrom_1 : decode cX4_minutesFrom 1 = .ok (.getfield 15, 3) := by decide +kernel
theorem dX4_minutesFrom_4 : decode cX4_minutesFrom 4 = .ok (.aload_n 0, 1) := by decide +kernel
theorem dX4_minutesFrom_5 : decode cX4_minutesFrom 5 = .ok (.getfield 18, 3) := by decide +kernel
theorem dX4_minutesFrom_8 : decode cX4_minutesFrom 8 = .ok (.iload_n 2, 1) := by decide +kernel
theorem dX4_minutesFrom_9 : decode cX4_minutesFrom 9 = .ok (.iaload, 1) := by decide +kernel
theorem dX4_minutesFrom_10 : decode cX4_minutesFrom 10 = .ok (.iaload, 1) := by decide +kernel
theorem dX4_minutesFrom_11 : decode cX4_minutesFrom 11 = .ok (.aload_n 0, 1) := by decide +kernel
theorem dX4_minutesFrom_12 : decode cX4_minutesFrom 12 = .ok (.getfield 15, 3) := by decide +kernel
theorem dX4_minutesFrom_15 : decode cX4_minutesFrom 15 = .ok (.aload_n 0, 1) := by decide +kernel
theorem dX4_minutesFrom_16 : decode cX4_minutesFrom 16 = .ok (.getfield 18, 3) := by decide +kernel
theorem dX4_minutesFrom_19 : decode cX4_minutesFrom 19 = .ok (.iload_n 1, 1) := by decide +kernel
theorem dX4_minutesFrom_20 : decode cX4_minutesFrom 20 = .ok (.iaload, 1) := by decide +kernel
theorem dX4_minutesFrom_21 : decode cX4_minutesFrom 21 = .ok (.iaload, 1) := by decide +kernel
theorem dX4_minutesFrom_22 : decode cX4_minutesFrom 22 = .ok (.isub, 1) := by decide +kernel
theorem dX4_minutesFrom_23 : decode cX4_minutesFrom 23 = .ok (.ireturn, 1) := by decide +kernel
set_option maxRecDepth 20000 in
theorem ggX4_startsDay_X4_minutesFrom : GoodIn wsX4_startsDay wsX4_minutesFrom := goodIn_r _ [5, 6, 7, 8, 9, 10, 11, 12, 13] (by decide +kernel) (by decide +kernel)
set_option maxRecDepth 20000 in
theorem gX4_startsDay_X4_minutesFrom : GoodIn wsX4_startsDay (wsV RX4 62 RX4 yX4_minutesFrom wsX4_minutesFrom) := goodIn_app (goodIn_of _ (by decide +kernel)) ggX4_startsDay_X4_minutesFrom
theorem dX4_startsDay_0 : decode cX4_startsDay 0 = .ok (.iload_n 1, 1) := by decide +kernel
theorem dX4_startsDay_1 : decode cX4_startsDay 1 = .ok (.ifCond .eq 15, 3) := by decide +kernel
theorem dX4_startsDay_4 : decode cX4_startsDay 4 = .ok (.aload_n 0, 1) := by decide +kernel
theorem dX4_startsDay_5 : decode cX4_startsDay 5 = .ok (.iload_n 1, 1) := by decide +kernel
theorem dX4_startsDay_6 : decode cX4_startsDay 6 = .ok (.iconst 1, 1) := by decide +kernel
theorem dX4_startsDay_7 : decode cX4_startsDay 7 = .ok (.isub, 1) := by decide +kernel
theorem dX4_startsDay_8 : decode cX4_startsDay 8 = .ok (.iload_n 1, 1) := by decide +kernel
theorem dX4_startsDay_9 : decode cX4_startsDay 9 = .ok (.invokevirtual 62, 3) := by decide +kernel
theorem dX4_startsDay_12 : decode cX4_startsDay 12 = .ok (.iload_n 2, 1) := by decide +kernel
theorem dX4_startsDay_13 : decode cX4_startsDay 13 = .ok (.if_icmp .le 7, 3) := by decide +kernel
theorem dX4_startsDay_16 : decode cX4_startsDay 16 = .ok (.iconst 1, 1) := by decide +kernel
theorem dX4_startsDay_17 : decode cX4_startsDay 17 = .ok (.goto 4, 3) := by decide +kernel
theorem dX4_startsDay_20 : decode cX4_startsDay 20 = .ok (.iconst 0, 1) := by decide +kernel
theorem dX4_startsDay_21 : decode cX4_startsDay 21 = .ok (.ireturn, 1) := by decide +kernel
set_option maxRecDepth 20000 in
theorem ggX4_dayTally_X4_startsDay : GoodIn wsX4_dayTally wsX4_startsDay := goodIn_r _ [6, 7, 8, 9, 5, 10, 11, 12, 13, 14, 15, 16, 17, 18] (by decide +kernel) (by decide +kernel)
set_option maxRecDepth 20000 in
theorem gX4_dayTally_X4_startsDay : GoodIn wsX4_dayTally (wsV RX4 65 RX4 yX4_startsDay wsX4_startsDay) := goodIn_app (goodIn_of _ (by decide +kernel)) ggX4_dayTally_X4_startsDay
theorem dX4_dayTally_0 : decode cX4_dayTally 0 = .ok (.iconst 0, 1) := by decide +kernel
theorem dX4_dayTally_1 : decode cX4_dayTally 1 = .ok (.istore_n 2, 1) := by decide +kernel
theorem dX4_dayTally_2 : decode cX4_dayTally 2 = .ok (.iconst 0, 1) := by decide +kernel
theorem dX4_dayTally_3 : decode cX4_dayTally 3 = .ok (.istore_n 3, 1) := by decide +kernel
theorem dX4_dayTally_4 : decode cX4_dayTally 4 = .ok (.iload_n 3, 1) := by decide +kernel
theorem dX4_dayTally_5 : decode cX4_dayTally 5 = .ok (.aload_n 0, 1) := by decide +kernel
theorem dX4_dayTally_6 : decode cX4_dayTally 6 = .ok (.getfield 25, 3) := by decide +kernel
theorem dX4_dayTally_9 : decode cX4_dayTally 9 = .ok (.if_icmp .ge 21, 3) := by decide +kernel
theorem dX4_dayTally_12 : decode cX4_dayTally 12 = .ok (.aload_n 0, 1) := by decide +kernel
theorem dX4_dayTally_13 : decode cX4_dayTally 13 = .ok (.iload_n 3, 1) := by decide +kernel
theorem dX4_dayTally_14 : decode cX4_dayTally 14 = .ok (.iload_n 1, 1) := by decide +kernel
theorem dX4_dayTally_15 : decode cX4_dayTally 15 = .ok (.invokevirtual 65, 3) := by decide +kernel
theorem dX4_dayTally_18 : decode cX4_dayTally 18 = .ok (.ifCond .eq 6, 3) := by decide +kernel
theorem dX4_dayTally_21 : decode cX4_dayTally 21 = .ok (.iinc 2 1, 3) := by decide +kernel
theorem dX4_dayTally_24 : decode cX4_dayTally 24 = .ok (.iinc 3 1, 3) := by decide +kernel
theorem dX4_dayTally_27 : decode cX4_dayTally 27 = .ok (.goto (-23), 3) := by decide +kernel
theorem dX4_dayTally_30 : decode cX4_dayTally 30 = .ok (.iload_n 2, 1) := by decide +kernel
theorem dX4_dayTally_31 : decode cX4_dayTally 31 = .ok (.ireturn, 1) := by decide +kernel
set_option maxRecDepth 20000 in
theorem ggX4_startOfDay_X4_startsDay : GoodIn wsX4_startOfDay wsX4_startsDay := goodIn_r _ [6, 7, 8, 9, 5, 10, 11, 12, 13, 14, 15, 16, 17, 18] (by decide +kernel) (by decide +kernel)
set_option maxRecDepth 20000 in
theorem gX4_startOfDay_X4_startsDay : GoodIn wsX4_startOfDay (wsV RX4 65 RX4 yX4_startsDay wsX4_startsDay) := goodIn_app (goodIn_of _ (by decide +kernel)) ggX4_startOfDay_X4_startsDay
theorem dX4_startOfDay_0 : decode cX4_startOfDay 0 = .ok (.iload_n 1, 1) := by decide +kernel
theorem dX4_startOfDay_1 : decode cX4_startOfDay 1 = .ok (.istore_n 3, 1) := by decide +kernel
theorem dX4_startOfDay_2 : decode cX4_startOfDay 2 = .ok (.iconst 0, 1) := by decide +kernel
theorem dX4_startOfDay_3 : decode cX4_startOfDay 3 = .ok (.istore 4, 2) := by decide +kernel
theorem dX4_startOfDay_5 : decode cX4_startOfDay 5 = .ok (.iload 4, 2) := by decide +kernel
theorem dX4_startOfDay_7 : decode cX4_startOfDay 7 = .ok (.aload_n 0, 1) := by decide +kernel
theorem dX4_startOfDay_8 : decode cX4_startOfDay 8 = .ok (.getfield 25, 3) := by decide +kernel
theorem dX4_startOfDay_11 : decode cX4_startOfDay 11 = .ok (.if_icmp .ge 29, 3) := by decide +kernel
theorem dX4_startOfDay_14 : decode cX4_startOfDay 14 = .ok (.aload_n 0, 1) := by decide +kernel
theorem dX4_startOfDay_15 : decode cX4_startOfDay 15 = .ok (.iload 4, 2) := by decide +kernel
theorem dX4_startOfDay_17 : decode cX4_startOfDay 17 = .ok (.iload_n 2, 1) := by decide +kernel
theorem dX4_startOfDay_18 : decode cX4_startOfDay 18 = .ok (.invokevirtual 65, 3) := by decide +kernel
theorem dX4_startOfDay_21 : decode cX4_startOfDay 21 = .ok (.ifCond .eq 13, 3) := by decide +kernel
theorem dX4_startOfDay_24 : decode cX4_startOfDay 24 = .ok (.iload_n 3, 1) := by decide +kernel
theorem dX4_startOfDay_25 : decode cX4_startOfDay 25 = .ok (.ifCond .ne 6, 3) := by decide +kernel
theorem dX4_startOfDay_28 : decode cX4_startOfDay 28 = .ok (.iload 4, 2) := by decide +kernel
theorem dX4_startOfDay_30 : decode cX4_startOfDay 30 = .ok (.ireturn, 1) := by decide +kernel
theorem dX4_startOfDay_31 : decode cX4_startOfDay 31 = .ok (.iinc 3 (-1), 3) := by decide +kernel
theorem dX4_startOfDay_34 : decode cX4_startOfDay 34 = .ok (.iinc 4 1, 3) := by decide +kernel
theorem dX4_startOfDay_37 : decode cX4_startOfDay 37 = .ok (.goto (-32), 3) := by decide +kernel
theorem dX4_startOfDay_40 : decode cX4_startOfDay 40 = .ok (.iconst (-1), 1) := by decide +kernel
theorem dX4_startOfDay_41 : decode cX4_startOfDay 41 = .ok (.ireturn, 1) := by decide +kernel
set_option maxRecDepth 20000 in
theorem ggX4_endOfDay_X4_startsDay : GoodIn wsX4_endOfDay wsX4_startsDay := goodIn_r _ [6, 7, 8, 9, 5, 10, 11, 12, 13, 14, 15, 16, 17, 18] (by decide +kernel) (by decide +kernel)
set_option maxRecDepth 20000 in
theorem gX4_endOfDay_X4_startsDay : GoodIn wsX4_endOfDay (wsV RX4 65 RX4 yX4_startsDay wsX4_startsDay) := goodIn_app (goodIn_of _ (by decide +kernel)) ggX4_endOfDay_X4_startsDay
theorem dX4_endOfDay_0 : decode cX4_endOfDay 0 = .ok (.iload_n 1, 1) := by decide +kernel
theorem dX4_endOfDay_1 : decode cX4_endOfDay 1 = .ok (.istore_n 3, 1) := by decide +kernel
theorem dX4_endOfDay_2 : decode cX4_endOfDay 2 = .ok (.iload_n 3, 1) := by decide +kernel
theorem dX4_endOfDay_3 : decode cX4_endOfDay 3 = .ok (.iconst 1, 1) := by decide +kernel
theorem dX4_endOfDay_4 : decode cX4_endOfDay 4 = .ok (.iadd, 1) := by decide +kernel
theorem dX4_endOfDay_5 : decode cX4_endOfDay 5 = .ok (.aload_n 0, 1) := by decide +kernel
theorem dX4_endOfDay_6 : decode cX4_endOfDay 6 = .ok (.getfield 25, 3) := by decide +kernel
theorem dX4_endOfDay_9 : decode cX4_endOfDay 9 = .ok (.if_icmp .ge 20, 3) := by decide +kernel
theorem dX4_endOfDay_12 : decode cX4_endOfDay 12 = .ok (.aload_n 0, 1) := by decide +kernel
theorem dX4_endOfDay_13 : decode cX4_endOfDay 13 = .ok (.iload_n 3, 1) := by decide +kernel
theorem dX4_endOfDay_14 : decode cX4_endOfDay 14 = .ok (.iconst 1, 1) := by decide +kernel
theorem dX4_endOfDay_15 : decode cX4_endOfDay 15 = .ok (.iadd, 1) := by decide +kernel
theorem dX4_endOfDay_16 : decode cX4_endOfDay 16 = .ok (.iload_n 2, 1) := by decide +kernel
theorem dX4_endOfDay_17 : decode cX4_endOfDay 17 = .ok (.invokevirtual 65, 3) := by decide +kernel
theorem dX4_endOfDay_20 : decode cX4_endOfDay 20 = .ok (.ifCond .ne 9, 3) := by decide +kernel
theorem dX4_endOfDay_23 : decode cX4_endOfDay 23 = .ok (.iinc 3 1, 3) := by decide +kernel
theorem dX4_endOfDay_26 : decode cX4_endOfDay 26 = .ok (.goto (-24), 3) := by decide +kernel
theorem dX4_endOfDay_29 : decode cX4_endOfDay 29 = .ok (.iload_n 3, 1) := by decide +kernel
theorem dX4_endOfDay_30 : decode cX4_endOfDay 30 = .ok (.ireturn, 1) := by decide +kernel
set_option maxRecDepth 20000 in
theorem ggX4_burstLengthAt_X4_followsOn : GoodIn wsX4_burstLengthAt wsX4_followsOn := goodIn_r _ [7, 8, 9, 10, 11, 12, 13, 14, 15, 16, 23, 24, 25, 26, 27, 17, 18, 19, 20, 21, 22] (by decide +kernel) (by decide +kernel)
set_option maxRecDepth 20000 in
theorem gX4_burstLengthAt_X4_followsOn : GoodIn wsX4_burstLengthAt (wsV RX4 69 RX4 yX4_followsOn wsX4_followsOn) := goodIn_app (goodIn_of _ (by decide +kernel)) ggX4_burstLengthAt_X4_followsOn
theorem dX4_burstLengthAt_0 : decode cX4_burstLengthAt 0 = .ok (.iconst 1, 1) := by decide +kernel
theorem dX4_burstLengthAt_1 : decode cX4_burstLengthAt 1 = .ok (.istore_n 3, 1) := by decide +kernel
theorem dX4_burstLengthAt_2 : decode cX4_burstLengthAt 2 = .ok (.aload_n 0, 1) := by decide +kernel
theorem dX4_burstLengthAt_3 : decode cX4_burstLengthAt 3 = .ok (.getfield 18, 3) := by decide +kernel
theorem dX4_burstLengthAt_6 : decode cX4_burstLengthAt 6 = .ok (.iload_n 1, 1) := by decide +kernel
theorem dX4_burstLengthAt_7 : decode cX4_burstLengthAt 7 = .ok (.iaload, 1) := by decide +kernel
theorem dX4_burstLengthAt_8 : decode cX4_burstLengthAt 8 = .ok (.istore 4, 2) := by decide +kernel
theorem dX4_burstLengthAt_10 : decode cX4_burstLengthAt 10 = .ok (.iload_n 1, 1) := by decide +kernel
theorem dX4_burstLengthAt_11 : decode cX4_burstLengthAt 11 = .ok (.iconst 1, 1) := by decide +kernel
theorem dX4_burstLengthAt_12 : decode cX4_burstLengthAt 12 = .ok (.isub, 1) := by decide +kernel
theorem dX4_burstLengthAt_13 : decode cX4_burstLengthAt 13 = .ok (.istore 5, 2) := by decide +kernel
theorem dX4_burstLengthAt_15 : decode cX4_burstLengthAt 15 = .ok (.iload 5, 2) := by decide +kernel
theorem dX4_burstLengthAt_17 : decode cX4_burstLengthAt 17 = .ok (.ifCond .lt 56, 3) := by decide +kernel
theorem dX4_burstLengthAt_20 : decode cX4_burstLengthAt 20 = .ok (.aload_n 0, 1) := by decide +kernel
theorem dX4_burstLengthAt_21 : decode cX4_burstLengthAt 21 = .ok (.getfield 18, 3) := by decide +kernel
theorem dX4_burstLengthAt_24 : decode cX4_burstLengthAt 24 = .ok (.iload 5, 2) := by decide +kernel
theorem dX4_burstLengthAt_26 : decode cX4_burstLengthAt 26 = .ok (.iaload, 1) := by decide +kernel
theorem dX4_burstLengthAt_27 : decode cX4_burstLengthAt 27 = .ok (.istore 6, 2) := by decide +kernel
theorem dX4_burstLengthAt_29 : decode cX4_burstLengthAt 29 = .ok (.aload_n 2, 1) := by decide +kernel
theorem dX4_burstLengthAt_30 : decode cX4_burstLengthAt 30 = .ok (.getfield 55, 3) := by decide +kernel
theorem dX4_burstLengthAt_33 : decode cX4_burstLengthAt 33 = .ok (.iload 6, 2) := by decide +kernel
theorem dX4_burstLengthAt_35 : decode cX4_burstLengthAt 35 = .ok (.iaload, 1) := by decide +kernel
theorem dX4_burstLengthAt_36 : decode cX4_burstLengthAt 36 = .ok (.aload_n 2, 1) := by decide +kernel
theorem dX4_burstLengthAt_37 : decode cX4_burstLengthAt 37 = .ok (.getfield 55, 3) := by decide +kernel
theorem dX4_burstLengthAt_40 : decode cX4_burstLengthAt 40 = .ok (.iload 4, 2) := by decide +kernel
theorem dX4_burstLengthAt_42 : decode cX4_burstLengthAt 42 = .ok (.iaload, 1) := by decide +kernel
theorem dX4_burstLengthAt_43 : decode cX4_burstLengthAt 43 = .ok (.if_icmp .ne 24, 3) := by decide +kernel
theorem dX4_burstLengthAt_46 : decode cX4_burstLengthAt 46 = .ok (.aload_n 0, 1) := by decide +kernel
theorem dX4_burstLengthAt_47 : decode cX4_burstLengthAt 47 = .ok (.iload 6, 2) := by decide +kernel
theorem dX4_burstLengthAt_49 : decode cX4_burstLengthAt 49 = .ok (.iload 4, 2) := by decide +kernel
theorem dX4_burstLengthAt_51 : decode cX4_burstLengthAt 51 = .ok (.aload_n 2, 1) := by decide +kernel
theorem dX4_burstLengthAt_52 : decode cX4_burstLengthAt 52 = .ok (.invokevirtual 69, 3) := by decide +kernel
theorem dX4_burstLengthAt_55 : decode cX4_burstLengthAt 55 = .ok (.ifCond .ne 5, 3) := by decide +kernel
theorem dX4_burstLengthAt_58 : decode cX4_burstLengthAt 58 = .ok (.iload_n 3, 1) := by decide +kernel
theorem dX4_burstLengthAt_59 : decode cX4_burstLengthAt 59 = .ok (.ireturn, 1) := by decide +kernel
theorem dX4_burstLengthAt_60 : decode cX4_burstLengthAt 60 = .ok (.iinc 3 1, 3) := by decide +kernel
theorem dX4_burstLengthAt_63 : decode cX4_burstLengthAt 63 = .ok (.iload 6, 2) := by decide +kernel
theorem dX4_burstLengthAt_65 : decode cX4_burstLengthAt 65 = .ok (.istore 4, 2) := by decide +kernel
theorem dX4_burstLengthAt_67 : decode cX4_burstLengthAt 67 = .ok (.iinc 5 (-1), 3) := by decide +kernel
theorem dX4_burstLengthAt_70 : decode cX4_burstLengthAt 70 = .ok (.goto (-55), 3) := by decide +kernel
theorem dX4_burstLengthAt_73 : decode cX4_burstLengthAt 73 = .ok (.iload_n 3, 1) := by decide +kernel
theorem dX4_burstLengthAt_74 : decode cX4_burstLengthAt 74 = .ok (.ireturn, 1) := by decide +kernel
set_option maxRecDepth 20000 in
theorem ggX4_followsOn_J6_bitCount_0f7a4 : GoodIn wsX4_followsOn wsJ6_bitCount_0f7a4 := goodIn_r _ [6, 7, 8, 9] (by decide +kernel) (by decide +kernel)
set_option maxRecDepth 20000 in
theorem gX4_followsOn_J6_bitCount_0f7a4 : GoodIn wsX4_followsOn (va_wsS RX4 75 yJ6_bitCount_0f7a4 wsJ6_bitCount_0f7a4) := goodIn_app (goodIn_of _ (by decide +kernel)) ggX4_followsOn_J6_bitCount_0f7a4
theorem dX4_followsOn_0 : decode cX4_followsOn 0 = .ok (.aload_n 3, 1) := by decide +kernel
theorem dX4_followsOn_1 : decode cX4_followsOn 1 = .ok (.getfield 72, 3) := by decide +kernel
theorem dX4_followsOn_4 : decode cX4_followsOn 4 = .ok (.iload_n 1, 1) := by decide +kernel
theorem dX4_followsOn_5 : decode cX4_followsOn 5 = .ok (.iaload, 1) := by decide +kernel
theorem dX4_followsOn_6 : decode cX4_followsOn 6 = .ok (.aload_n 3, 1) := by decide +kernel
theorem dX4_followsOn_7 : decode cX4_followsOn 7 = .ok (.getfield 72, 3) := by decide +kernel
theorem dX4_followsOn_10 : decode cX4_followsOn 10 = .ok (.iload_n 2, 1) := by decide +kernel
theorem dX4_followsOn_11 : decode cX4_followsOn 11 = .ok (.iaload, 1) := by decide +kernel
theorem dX4_followsOn_12 : decode cX4_followsOn 12 = .ok (.ixor, 1) := by decide +kernel
theorem dX4_followsOn_13 : decode cX4_followsOn 13 = .ok (.istore 4, 2) := by decide +kernel
theorem dX4_followsOn_15 : decode cX4_followsOn 15 = .ok (.aload_n 0, 1) := by decide +kernel
theorem dX4_followsOn_16 : decode cX4_followsOn 16 = .ok (.getfield 15, 3) := by decide +kernel
theorem dX4_followsOn_19 : decode cX4_followsOn 19 = .ok (.iload_n 2, 1) := by decide +kernel
theorem dX4_followsOn_20 : decode cX4_followsOn 20 = .ok (.iaload, 1) := by decide +kernel
theorem dX4_followsOn_21 : decode cX4_followsOn 21 = .ok (.aload_n 0, 1) := by decide +kernel
theorem dX4_followsOn_22 : decode cX4_followsOn 22 = .ok (.getfield 15, 3) := by decide +kernel
theorem dX4_followsOn_25 : decode cX4_followsOn 25 = .ok (.iload_n 1, 1) := by decide +kernel
theorem dX4_followsOn_26 : decode cX4_followsOn 26 = .ok (.iaload, 1) := by decide +kernel
theorem dX4_followsOn_27 : decode cX4_followsOn 27 = .ok (.isub, 1) := by decide +kernel
theorem dX4_followsOn_28 : decode cX4_followsOn 28 = .ok (.iconst 2, 1) := by decide +kernel
theorem dX4_followsOn_29 : decode cX4_followsOn 29 = .ok (.if_icmp .gt 16, 3) := by decide +kernel
theorem dX4_followsOn_32 : decode cX4_followsOn 32 = .ok (.iload 4, 2) := by decide +kernel
theorem dX4_followsOn_34 : decode cX4_followsOn 34 = .ok (.invokestatic 75, 3) := by decide +kernel
theorem dX4_followsOn_37 : decode cX4_followsOn 37 = .ok (.iconst 2, 1) := by decide +kernel
theorem dX4_followsOn_38 : decode cX4_followsOn 38 = .ok (.if_icmp .gt 7, 3) := by decide +kernel
theorem dX4_followsOn_41 : decode cX4_followsOn 41 = .ok (.iconst 1, 1) := by decide +kernel
theorem dX4_followsOn_42 : decode cX4_followsOn 42 = .ok (.goto 4, 3) := by decide +kernel
theorem dX4_followsOn_45 : decode cX4_followsOn 45 = .ok (.iconst 0, 1) := by decide +kernel
theorem dX4_followsOn_46 : decode cX4_followsOn 46 = .ok (.ireturn, 1) := by decide +kernel
set_option maxRecDepth 20000 in
theorem ggX4_doubleTally_X4_minutesFrom : GoodIn wsX4_doubleTally wsX4_minutesFrom := goodIn_r _ [7, 8, 2, 14, 15, 16, 17, 18, 19] (by decide +kernel) (by decide +kernel)
set_option maxRecDepth 20000 in
theorem gX4_doubleTally_X4_minutesFrom : GoodIn wsX4_doubleTally (wsV RX4 62 RX4 yX4_minutesFrom wsX4_minutesFrom) := goodIn_app (goodIn_of _ (by decide +kernel)) ggX4_doubleTally_X4_minutesFrom
set_option maxRecDepth 20000 in
theorem ggX4_doubleTally_X4_isAlike : GoodIn wsX4_doubleTally wsX4_isAlike := goodIn_r _ [11, 12, 13, 20, 21, 22, 23, 24] (by decide +kernel) (by decide +kernel)
set_option maxRecDepth 20000 in
theorem gX4_doubleTally_X4_isAlike : GoodIn wsX4_doubleTally (va_wsS RX4 81 yX4_isAlike wsX4_isAlike) := goodIn_app (goodIn_of _ (by decide +kernel)) ggX4_doubleTally_X4_isAlike
theorem dX4_doubleTally_0 : decode cX4_doubleTally 0 = .ok (.iconst 0, 1) := by decide +kernel
theorem dX4_doubleTally_1 : decode cX4_doubleTally 1 = .ok (.istore_n 2, 1) := by decide +kernel
theorem dX4_doubleTally_2 : decode cX4_doubleTally 2 = .ok (.iconst 0, 1) := by decide +kernel
theorem dX4_doubleTally_3 : decode cX4_doubleTally 3 = .ok (.istore_n 3, 1) := by decide +kernel
theorem dX4_doubleTally_4 : decode cX4_doubleTally 4 = .ok (.iload_n 3, 1) := by decide +kernel
theorem dX4_doubleTally_5 : decode cX4_doubleTally 5 = .ok (.aload_n 0, 1) := by decide +kernel
theorem dX4_doubleTally_6 : decode cX4_doubleTally 6 = .ok (.getfield 25, 3) := by decide +kernel
theorem dX4_doubleTally_9 : decode cX4_doubleTally 9 = .ok (.if_icmp .ge 63, 3) := by decide +kernel
theorem dX4_doubleTally_12 : decode cX4_doubleTally 12 = .ok (.iload_n 3, 1) := by decide +kernel
theorem dX4_doubleTally_13 : decode cX4_doubleTally 13 = .ok (.iconst 1, 1) := by decide +kernel
theorem dX4_doubleTally_14 : decode cX4_doubleTally 14 = .ok (.iadd, 1) := by decide +kernel
theorem dX4_doubleTally_15 : decode cX4_doubleTally 15 = .ok (.istore 4, 2) := by decide +kernel
theorem dX4_doubleTally_17 : decode cX4_doubleTally 17 = .ok (.iload 4, 2) := by decide +kernel
theorem dX4_doubleTally_19 : decode cX4_doubleTally 19 = .ok (.aload_n 0, 1) := by decide +kernel
theorem dX4_doubleTally_20 : decode cX4_doubleTally 20 = .ok (.getfield 25, 3) := by decide +kernel
theorem dX4_doubleTally_23 : decode cX4_doubleTally 23 = .ok (.if_icmp .ge 43, 3) := by decide +kernel
theorem dX4_doubleTally_26 : decode cX4_doubleTally 26 = .ok (.aload_n 0, 1) := by decide +kernel
theorem dX4_doubleTally_27 : decode cX4_doubleTally 27 = .ok (.iload_n 3, 1) := by decide +kernel
theorem dX4_doubleTally_28 : decode cX4_doubleTally 28 = .ok (.iload 4, 2) := by decide +kernel
theorem dX4_doubleTally_30 : decode cX4_doubleTally 30 = .ok (.invokevirtual 62, 3) := by decide +kernel
theorem dX4_doubleTally_33 : decode cX4_doubleTally 33 = .ok (.iconst 5, 1) := by decide +kernel
theorem dX4_doubleTally_34 : decode cX4_doubleTally 34 = .ok (.if_icmp .gt 32, 3) := by decide +kernel
theorem dX4_doubleTally_37 : decode cX4_doubleTally 37 = .ok (.aload_n 0, 1) := by decide +kernel
theorem dX4_doubleTally_38 : decode cX4_doubleTally 38 = .ok (.getfield 18, 3) := by decide +kernel
theorem dX4_doubleTally_41 : decode cX4_doubleTally 41 = .ok (.iload_n 3, 1) := by decide +kernel
theorem dX4_doubleTally_42 : decode cX4_doubleTally 42 = .ok (.iaload, 1) := by decide +kernel
theorem dX4_doubleTally_43 : decode cX4_doubleTally 43 = .ok (.aload_n 0, 1) := by decide +kernel
theorem dX4_doubleTally_44 : decode cX4_doubleTally 44 = .ok (.getfield 18, 3) := by decide +kernel
theorem dX4_doubleTally_47 : decode cX4_doubleTally 47 = .ok (.iload 4, 2) := by decide +kernel
theorem dX4_doubleTally_49 : decode cX4_doubleTally 49 = .ok (.iaload, 1) := by decide +kernel
theorem dX4_doubleTally_50 : decode cX4_doubleTally 50 = .ok (.aload_n 1, 1) := by decide +kernel
theorem dX4_doubleTally_51 : decode cX4_doubleTally 51 = .ok (.invokestatic 81, 3) := by decide +kernel
theorem dX4_doubleTally_54 : decode cX4_doubleTally 54 = .ok (.ifCond .eq 6, 3) := by decide +kernel
theorem dX4_doubleTally_57 : decode cX4_doubleTally 57 = .ok (.iinc 2 1, 3) := by decide +kernel
theorem dX4_doubleTally_60 : decode cX4_doubleTally 60 = .ok (.iinc 4 1, 3) := by decide +kernel
theorem dX4_doubleTally_63 : decode cX4_doubleTally 63 = .ok (.goto (-46), 3) := by decide +kernel
theorem dX4_doubleTally_66 : decode cX4_doubleTally 66 = .ok (.iinc 3 1, 3) := by decide +kernel
theorem dX4_doubleTally_69 : decode cX4_doubleTally 69 = .ok (.goto (-65), 3) := by decide +kernel
theorem dX4_doubleTally_72 : decode cX4_doubleTally 72 = .ok (.iload_n 2, 1) := by decide +kernel
theorem dX4_doubleTally_73 : decode cX4_doubleTally 73 = .ok (.ireturn, 1) := by decide +kernel
theorem dX4_isAlike_0 : decode cX4_isAlike 0 = .ok (.aload_n 2, 1) := by decide +kernel
theorem dX4_isAlike_1 : decode cX4_isAlike 1 = .ok (.getfield 55, 3) := by decide +kernel
theorem dX4_isAlike_4 : decode cX4_isAlike 4 = .ok (.iload_n 0, 1) := by decide +kernel
theorem dX4_isAlike_5 : decode cX4_isAlike 5 = .ok (.iaload, 1) := by decide +kernel
theorem dX4_isAlike_6 : decode cX4_isAlike 6 = .ok (.aload_n 2, 1) := by decide +kernel
theorem dX4_isAlike_7 : decode cX4_isAlike 7 = .ok (.getfield 55, 3) := by decide +kernel
theorem dX4_isAlike_10 : decode cX4_isAlike 10 = .ok (.iload_n 1, 1) := by decide +kernel
theorem dX4_isAlike_11 : decode cX4_isAlike 11 = .ok (.iaload, 1) := by decide +kernel
theorem dX4_isAlike_12 : decode cX4_isAlike 12 = .ok (.if_icmp .eq 31, 3) := by decide +kernel
theorem dX4_isAlike_15 : decode cX4_isAlike 15 = .ok (.aload_n 2, 1) := by decide +kernel
theorem dX4_isAlike_16 : decode cX4_isAlike 16 = .ok (.getfield 72, 3) := by decide +kernel
theorem dX4_isAlike_19 : decode cX4_isAlike 19 = .ok (.iload_n 0, 1) := by decide +kernel
theorem dX4_isAlike_20 : decode cX4_isAlike 20 = .ok (.iaload, 1) := by decide +kernel
theorem dX4_isAlike_21 : decode cX4_isAlike 21 = .ok (.aload_n 2, 1) := by decide +kernel
theorem dX4_isAlike_22 : decode cX4_isAlike 22 = .ok (.getfield 72, 3) := by decide +kernel
theorem dX4_isAlike_25 : decode cX4_isAlike 25 = .ok (.iload_n 1, 1) := by decide +kernel
theorem dX4_isAlike_26 : decode cX4_isAlike 26 = .ok (.iaload, 1) := by decide +kernel
theorem dX4_isAlike_27 : decode cX4_isAlike 27 = .ok (.if_icmp .ne 16, 3) := by decide +kernel
theorem dX4_isAlike_30 : decode cX4_isAlike 30 = .ok (.aload_n 2, 1) := by decide +kernel
theorem dX4_isAlike_31 : decode cX4_isAlike 31 = .ok (.getfield 72, 3) := by decide +kernel
theorem dX4_isAlike_34 : decode cX4_isAlike 34 = .ok (.iload_n 0, 1) := by decide +kernel
theorem dX4_isAlike_35 : decode cX4_isAlike 35 = .ok (.iaload, 1) := by decide +kernel
theorem dX4_isAlike_36 : decode cX4_isAlike 36 = .ok (.ifCond .eq 7, 3) := by decide +kernel
theorem dX4_isAlike_39 : decode cX4_isAlike 39 = .ok (.iconst 1, 1) := by decide +kernel
theorem dX4_isAlike_40 : decode cX4_isAlike 40 = .ok (.goto 4, 3) := by decide +kernel
theorem dX4_isAlike_43 : decode cX4_isAlike 43 = .ok (.iconst 0, 1) := by decide +kernel
theorem dX4_isAlike_44 : decode cX4_isAlike 44 = .ok (.ireturn, 1) := by decide +kernel
set_option maxRecDepth 20000 in
theorem ggX5_init_X0_init : GoodIn wsX5_init wsX0_init := goodIn_r _ [25, 26, 2, 3, 27, 28, 29, 30, 31, 32, 74, 75, 76, 77, 78] (by decide +kernel) (by decide +kernel)
set_option maxRecDepth 20000 in
theorem gX5_init_X0_init_n9 : GoodIn wsX5_init (wsX0_init) := ggX5_init_X0_init
set_option maxRecDepth 20000 in
theorem ggX5_init_X1_init : GoodIn wsX5_init wsX1_init := goodIn_r _ [34, 35, 2, 3, 27, 36, 37, 87, 88] (by decide +kernel) (by decide +kernel)
set_option maxRecDepth 20000 in
theorem gX5_init_X1_init_n18 : GoodIn wsX5_init (wsX1_init) := ggX5_init_X1_init
set_option maxRecDepth 20000 in
theorem ggX5_init_X3_init : GoodIn wsX5_init wsX3_init := goodIn_r _ [39, 40, 2, 3, 27, 41, 42, 43, 44, 45, 46, 47, 48, 49, 50, 51, 52, 53, 54, 55, 56, 57, 58, 59, 60, 61, 62, 63, 64, 89, 90, 91, 92, 93, 94, 95, 96, 97, 98, 99, 106] (by decide +kernel) (by decide +kernel)
set_option maxRecDepth 20000 in
theorem gX5_init_X3_init_n25 : GoodIn wsX5_init (wsX3_init) := ggX5_init_X3_init
set_option maxRecDepth 20000 in
theorem ggX5_init_X4_init : GoodIn wsX5_init wsX4_init := goodIn_r _ [66, 67, 2, 3, 27, 68, 69, 70, 71, 72, 73, 100, 101, 102, 103, 104, 105] (by decide +kernel) (by decide +kernel)
set_option maxRecDepth 20000 in
theorem gX5_init_X4_init_n32 : GoodIn wsX5_init (wsX4_init) := ggX5_init_X4_init
theorem dX5_init_0 : decode cX5_init 0 = .ok (.aload_n 0, 1) := by decide +kernel
theorem dX5_init_1 : decode cX5_init 1 = .ok (.invokespecial 1, 3) := by decide +kernel
theorem dX5_init_4 : decode cX5_init 4 = .ok (.aload_n 0, 1) := by decide +kernel
theorem dX5_init_5 : decode cX5_init 5 = .ok (.new 7, 3) := by decide +kernel
theorem dX5_init_8 : decode cX5_init 8 = .ok (.dup, 1) := by decide +kernel
theorem dX5_init_9 : decode cX5_init 9 = .ok (.invokespecial 9, 3) := by decide +kernel
theorem dX5_init_12 : decode cX5_init 12 = .ok (.putfield 10, 3) := by decide +kernel
theorem dX5_init_15 : decode cX5_init 15 = .ok (.aload_n 0, 1) := by decide +kernel
theorem dX5_init_16 : decode cX5_init 16 = .ok (.new 16, 3) := by decide +kernel
theorem dX5_init_19 : decode cX5_init 19 = .ok (.dup, 1) := by decide +kernel
theorem dX5_init_20 : decode cX5_init 20 = .ok (.invokespecial 18, 3) := by decide +kernel
theorem dX5_init_23 : decode cX5_init 23 = .ok (.putfield 19, 3) := by decide +kernel
theorem dX5_init_26 : decode cX5_init 26 = .ok (.aload_n 0, 1) := by decide +kernel
theorem dX5_init_27 : decode cX5_init 27 = .ok (.new 23, 3) := by decide +kernel
theorem dX5_init_30 : decode cX5_init 30 = .ok (.dup, 1) := by decide +kernel
theorem dX5_init_31 : decode cX5_init 31 = .ok (.invokespecial 25, 3) := by decide +kernel
theorem dX5_init_34 : decode cX5_init 34 = .ok (.putfield 26, 3) := by decide +kernel
theorem dX5_init_37 : decode cX5_init 37 = .ok (.aload_n 0, 1) := by decide +kernel
theorem dX5_init_38 : decode cX5_init 38 = .ok (.new 30, 3) := by decide +kernel
theorem dX5_init_41 : decode cX5_init 41 = .ok (.dup, 1) := by decide +kernel
theorem dX5_init_42 : decode cX5_init 42 = .ok (.invokespecial 32, 3) := by decide +kernel
theorem dX5_init_45 : decode cX5_init 45 = .ok (.putfield 33, 3) := by decide +kernel
theorem dX5_init_48 : decode cX5_init 48 = .ok (.aload_n 0, 1) := by decide +kernel
theorem dX5_init_49 : decode cX5_init 49 = .ok (.iconst 0, 1) := by decide +kernel
theorem dX5_init_50 : decode cX5_init 50 = .ok (.putfield 37, 3) := by decide +kernel
theorem dX5_init_53 : decode cX5_init 53 = .ok (.aload_n 0, 1) := by decide +kernel
theorem dX5_init_54 : decode cX5_init 54 = .ok (.sipush 360, 3) := by decide +kernel
theorem dX5_init_57 : decode cX5_init 57 = .ok (.putfield 41, 3) := by decide +kernel
theorem dX5_init_60 : decode cX5_init 60 = .ok (.aload_n 0, 1) := by decide +kernel
theorem dX5_init_61 : decode cX5_init 61 = .ok (.iconst 0, 1) := by decide +kernel
theorem dX5_init_62 : decode cX5_init 62 = .ok (.putfield 44, 3) := by decide +kernel
theorem dX5_init_65 : decode cX5_init 65 = .ok (.aload_n 0, 1) := by decide +kernel
theorem dX5_init_66 : decode cX5_init 66 = .ok (.iconst (-1), 1) := by decide +kernel
theorem dX5_init_67 : decode cX5_init 67 = .ok (.putfield 47, 3) := by decide +kernel
theorem dX5_init_70 : decode cX5_init 70 = .ok (.return_, 1) := by decide +kernel
set_option maxRecDepth 20000 in
theorem ggX5_camera_X5_refuse : GoodIn wsX5_camera wsX5_refuse := goodIn_r _ [7, 2, 8, 9, 10, 11, 12, 13, 14, 15] (by decide +kernel) (by decide +kernel)
set_option maxRecDepth 20000 in
theorem gX5_camera_X5_refuse : GoodIn wsX5_camera (wsV RX5 50 RX5 yX5_refuse wsX5_refuse) := goodIn_app (goodIn_of _ (by decide +kernel)) ggX5_camera_X5_refuse
theorem dX5_camera_0 : decode cX5_camera 0 = .ok (.aload_n 0, 1) := by decide +kernel
theorem dX5_camera_1 : decode cX5_camera 1 = .ok (.getfield 37, 3) := by decide +kernel
theorem dX5_camera_4 : decode cX5_camera 4 = .ok (.bipush 8, 2) := by decide +kernel
theorem dX5_camera_6 : decode cX5_camera 6 = .ok (.if_icmp .lt 9, 3) := by decide +kernel
theorem dX5_camera_9 : decode cX5_camera 9 = .ok (.aload_n 0, 1) := by decide +kernel
theorem dX5_camera_10 : decode cX5_camera 10 = .ok (.iconst 3, 1) := by decide +kernel
theorem dX5_camera_11 : decode cX5_camera 11 = .ok (.invokevirtual 50, 3) := by decide +kernel
theorem dX5_camera_14 : decode cX5_camera 14 = .ok (.ireturn, 1) := by decide +kernel
theorem dX5_camera_15 : decode cX5_camera 15 = .ok (.aload_n 0, 1) := by decide +kernel
theorem dX5_camera_16 : decode cX5_camera 16 = .ok (.iconst 0, 1) := by decide +kernel
theorem dX5_camera_17 : decode cX5_camera 17 = .ok (.putfield 44, 3) := by decide +kernel
theorem dX5_camera_20 : decode cX5_camera 20 = .ok (.aload_n 0, 1) := by decide +kernel
theorem dX5_camera_21 : decode cX5_camera 21 = .ok (.dup, 1) := by decide +kernel
theorem dX5_camera_22 : decode cX5_camera 22 = .ok (.getfield 37, 3) := by decide +kernel
theorem dX5_camera_25 : decode cX5_camera 25 = .ok (.iconst 1, 1) := by decide +kernel
theorem dX5_camera_26 : decode cX5_camera 26 = .ok (.iadd, 1) := by decide +kernel
theorem dX5_camera_27 : decode cX5_camera 27 = .ok (.putfield 37, 3) := by decide +kernel
theorem dX5_camera_30 : decode cX5_camera 30 = .ok (.aload_n 0, 1) := by decide +kernel
theorem dX5_camera_31 : decode cX5_camera 31 = .ok (.getfield 37, 3) := by decide +kernel
theorem dX5_camera_34 : decode cX5_camera 34 = .ok (.iconst 1, 1) := by decide +kernel
theorem dX5_camera_35 : decode cX5_camera 35 = .ok (.isub, 1) := by decide +kernel
theorem dX5_camera_36 : decode cX5_camera 36 = .ok (.ireturn, 1) := by decide +kernel
set_option maxRecDepth 20000 in
theorem ggX5_place_X5_refuse : GoodIn wsX5_place wsX5_refuse := goodIn_r _ [8, 3, 9, 10, 11, 12, 13, 14, 15, 16] (by decide +kernel) (by decide +kernel)
set_option maxRecDepth 20000 in
theorem gX5_place_X5_refuse : GoodIn wsX5_place (wsV RX5 50 RX5 yX5_refuse wsX5_refuse) := goodIn_app (goodIn_of _ (by decide +kernel)) ggX5_place_X5_refuse
theorem dX5_place_0 : decode cX5_place 0 = .ok (.aload_n 0, 1) := by decide +kernel
theorem dX5_place_1 : decode cX5_place 1 = .ok (.getfield 19, 3) := by decide +kernel
theorem dX5_place_4 : decode cX5_place 4 = .ok (.getfield 54, 3) := by decide +kernel
theorem dX5_place_7 : decode cX5_place 7 = .ok (.bipush 10, 2) := by decide +kernel
theorem dX5_place_9 : decode cX5_place 9 = .ok (.if_icmp .lt 9, 3) := by decide +kernel
theorem dX5_place_12 : decode cX5_place 12 = .ok (.aload_n 0, 1) := by decide +kernel
theorem dX5_place_13 : decode cX5_place 13 = .ok (.iconst 3, 1) := by decide +kernel
theorem dX5_place_14 : decode cX5_place 14 = .ok (.invokevirtual 50, 3) := by decide +kernel
theorem dX5_place_17 : decode cX5_place 17 = .ok (.ireturn, 1) := by decide +kernel
theorem dX5_place_18 : decode cX5_place 18 = .ok (.aload_n 0, 1) := by decide +kernel
theorem dX5_place_19 : decode cX5_place 19 = .ok (.iconst 0, 1) := by decide +kernel
theorem dX5_place_20 : decode cX5_place 20 = .ok (.putfield 44, 3) := by decide +kernel
theorem dX5_place_23 : decode cX5_place 23 = .ok (.aload_n 0, 1) := by decide +kernel
theorem dX5_place_24 : decode cX5_place 24 = .ok (.getfield 19, 3) := by decide +kernel
theorem dX5_place_27 : decode cX5_place 27 = .ok (.dup, 1) := by decide +kernel
theorem dX5_place_28 : decode cX5_place 28 = .ok (.getfield 54, 3) := by decide +kernel
theorem dX5_place_31 : decode cX5_place 31 = .ok (.iconst 1, 1) := by decide +kernel
theorem dX5_place_32 : decode cX5_place 32 = .ok (.iadd, 1) := by decide +kernel
theorem dX5_place_33 : decode cX5_place 33 = .ok (.putfield 54, 3) := by decide +kernel
theorem dX5_place_36 : decode cX5_place 36 = .ok (.aload_n 0, 1) := by decide +kernel
theorem dX5_place_37 : decode cX5_place 37 = .ok (.getfield 19, 3) := by decide +kernel
theorem dX5_place_40 : decode cX5_place 40 = .ok (.getfield 54, 3) := by decide +kernel
theorem dX5_place_43 : decode cX5_place 43 = .ok (.iconst 1, 1) := by decide +kernel
theorem dX5_place_44 : decode cX5_place 44 = .ok (.isub, 1) := by decide +kernel
theorem dX5_place_45 : decode cX5_place 45 = .ok (.ireturn, 1) := by decide +kernel
set_option maxRecDepth 20000 in
theorem ggX5_way_X1_has : GoodIn wsX5_way wsX1_has := goodIn_r _ [7, 8, 26, 27] (by decide +kernel) (by decide +kernel)
set_option maxRecDepth 20000 in
theorem gX5_way_X1_has : GoodIn wsX5_way (wsV RX5 57 RX1 yX1_has wsX1_has) := goodIn_app (goodIn_of _ (by decide +kernel)) ggX5_way_X1_has
set_option maxRecDepth 20000 in
theorem ggX5_way_X5_within : GoodIn wsX5_way wsX5_within := goodIn_r _ [12] (by decide +kernel) (by decide +kernel)
set_option maxRecDepth 20000 in
theorem gX5_way_X5_within : GoodIn wsX5_way (va_wsS RX5 61 yX5_within wsX5_within) := goodIn_app (goodIn_of _ (by decide +kernel)) ggX5_way_X5_within
set_option maxRecDepth 20000 in
theorem ggX5_way_X1_tell : GoodIn wsX5_way wsX1_tell := goodIn_r _ [16, 17, 26, 27] (by decide +kernel) (by decide +kernel)
set_option maxRecDepth 20000 in
theorem gX5_way_X1_tell : GoodIn wsX5_way (wsV RX5 65 RX1 yX1_tell wsX1_tell) := goodIn_app (goodIn_of _ (by decide +kernel)) ggX5_way_X1_tell
theorem dX5_way_0 : decode cX5_way 0 = .ok (.aload_n 0, 1) := by decide +kernel
theorem dX5_way_1 : decode cX5_way 1 = .ok (.getfield 19, 3) := by decide +kernel
theorem dX5_way_4 : decode cX5_way 4 = .ok (.iload_n 1, 1) := by decide +kernel
theorem dX5_way_5 : decode cX5_way 5 = .ok (.invokevirtual 57, 3) := by decide +kernel
theorem dX5_way_8 : decode cX5_way 8 = .ok (.ifCond .eq 19, 3) := by decide +kernel
theorem dX5_way_11 : decode cX5_way 11 = .ok (.aload_n 0, 1) := by decide +kernel
theorem dX5_way_12 : decode cX5_way 12 = .ok (.getfield 19, 3) := by decide +kernel
theorem dX5_way_15 : decode cX5_way 15 = .ok (.iload_n 2, 1) := by decide +kernel
theorem dX5_way_16 : decode cX5_way 16 = .ok (.invokevirtual 57, 3) := by decide +kernel
theorem dX5_way_19 : decode cX5_way 19 = .ok (.ifCond .eq 8, 3) := by decide +kernel
theorem dX5_way_22 : decode cX5_way 22 = .ok (.iload_n 1, 1) := by decide +kernel
theorem dX5_way_23 : decode cX5_way 23 = .ok (.iload_n 2, 1) := by decide +kernel
theorem dX5_way_24 : decode cX5_way 24 = .ok (.if_icmp .ne 11, 3) := by decide +kernel
theorem dX5_way_27 : decode cX5_way 27 = .ok (.aload_n 0, 1) := by decide +kernel
theorem dX5_way_28 : decode cX5_way 28 = .ok (.iconst 1, 1) := by decide +kernel
theorem dX5_way_29 : decode cX5_way 29 = .ok (.putfield 44, 3) := by decide +kernel
theorem dX5_way_32 : decode cX5_way 32 = .ok (.goto 37, 3) := by decide +kernel
theorem dX5_way_35 : decode cX5_way 35 = .ok (.iload_n 3, 1) := by decide +kernel
theorem dX5_way_36 : decode cX5_way 36 = .ok (.iconst 0, 1) := by decide +kernel
theorem dX5_way_37 : decode cX5_way 37 = .ok (.sipush 10000, 3) := by decide +kernel
theorem dX5_way_40 : decode cX5_way 40 = .ok (.invokestatic 61, 3) := by decide +kernel
theorem dX5_way_43 : decode cX5_way 43 = .ok (.ifCond .ne 11, 3) := by decide +kernel
theorem dX5_way_46 : decode cX5_way 46 = .ok (.aload_n 0, 1) := by decide +kernel
theorem dX5_way_47 : decode cX5_way 47 = .ok (.iconst 2, 1) := by decide +kernel
theorem dX5_way_48 : decode cX5_way 48 = .ok (.putfield 44, 3) := by decide +kernel
theorem dX5_way_51 : decode cX5_way 51 = .ok (.goto 18, 3) := by decide +kernel
theorem dX5_way_54 : decode cX5_way 54 = .ok (.aload_n 0, 1) := by decide +kernel
theorem dX5_way_55 : decode cX5_way 55 = .ok (.iconst 0, 1) := by decide +kernel
theorem dX5_way_56 : decode cX5_way 56 = .ok (.putfield 44, 3) := by decide +kernel
theorem dX5_way_59 : decode cX5_way 59 = .ok (.aload_n 0, 1) := by decide +kernel
theorem dX5_way_60 : decode cX5_way 60 = .ok (.getfield 19, 3) := by decide +kernel
theorem dX5_way_63 : decode cX5_way 63 = .ok (.iload_n 1, 1) := by decide +kernel
theorem dX5_way_64 : decode cX5_way 64 = .ok (.iload_n 2, 1) := by decide +kernel
theorem dX5_way_65 : decode cX5_way 65 = .ok (.iload_n 3, 1) := by decide +kernel
theorem dX5_way_66 : decode cX5_way 66 = .ok (.invokevirtual 65, 3) := by decide +kernel
theorem dX5_way_69 : decode cX5_way 69 = .ok (.aload_n 0, 1) := by decide +kernel
theorem dX5_way_70 : decode cX5_way 70 = .ok (.getfield 44, 3) := by decide +kernel
theorem dX5_way_73 : decode cX5_way 73 = .ok (.ifCond .ne 7, 3) := by decide +kernel
theorem dX5_way_76 : decode cX5_way 76 = .ok (.iconst 1, 1) := by decide +kernel
theorem dX5_way_77 : decode cX5_way 77 = .ok (.goto 4, 3) := by decide +kernel
theorem dX5_way_80 : decode cX5_way 80 = .ok (.iconst 0, 1) := by decide +kernel
theorem dX5_way_81 : decode cX5_way 81 = .ok (.ireturn, 1) := by decide +kernel
set_option maxRecDepth 20000 in
theorem ggX5_picture_X5_hasCamera : GoodIn wsX5_picture wsX5_hasCamera := goodIn_r _ [11, 12, 36, 37, 38, 39, 40, 41, 42, 43] (by decide +kernel) (by decide +kernel)
set_option maxRecDepth 20000 in
theorem gX5_picture_X5_hasCamera : GoodIn wsX5_picture (wsV RX5 69 RX5 yX5_hasCamera wsX5_hasCamera) := goodIn_app (goodIn_of _ (by decide +kernel)) ggX5_picture_X5_hasCamera
set_option maxRecDepth 20000 in
theorem ggX5_picture_X1_has : GoodIn wsX5_picture wsX1_has := goodIn_r _ [17, 18, 49, 50] (by decide +kernel) (by decide +kernel)
set_option maxRecDepth 20000 in
theorem gX5_picture_X1_has : GoodIn wsX5_picture (wsV RX5 57 RX1 yX1_has wsX1_has) := goodIn_app (goodIn_of _ (by decide +kernel)) ggX5_picture_X1_has
set_option maxRecDepth 20000 in
theorem ggX5_picture_X5_refuse : GoodIn wsX5_picture wsX5_refuse := goodIn_r _ [22, 6, 36, 37, 38, 39, 40, 41, 42, 43] (by decide +kernel) (by decide +kernel)
set_option maxRecDepth 20000 in
theorem gX5_picture_X5_refuse : GoodIn wsX5_picture (wsV RX5 50 RX5 yX5_refuse wsX5_refuse) := goodIn_app (goodIn_of _ (by decide +kernel)) ggX5_picture_X5_refuse
set_option maxRecDepth 20000 in
theorem ggX5_picture_X5_within : GoodIn wsX5_picture wsX5_within := goodIn_r _ [25] (by decide +kernel) (by decide +kernel)
set_option maxRecDepth 20000 in
theorem gX5_picture_X5_within : GoodIn wsX5_picture (va_wsS RX5 61 yX5_within wsX5_within) := goodIn_app (goodIn_of _ (by decide +kernel)) ggX5_picture_X5_within
set_option maxRecDepth 20000 in
theorem ggX5_picture_X0_take : GoodIn wsX5_picture wsX0_take := goodIn_r _ [30, 31, 32, 33, 34, 35, 44, 45, 46, 47, 48] (by decide +kernel) (by decide +kernel)
set_option maxRecDepth 20000 in
theorem gX5_picture_X0_take : GoodIn wsX5_picture (wsV RX5 75 RX0 yX0_take wsX0_take) := goodIn_app (goodIn_of _ (by decide +kernel)) ggX5_picture_X0_take
theorem dX5_picture_0 : decode cX5_picture 0 = .ok (.aload_n 0, 1) := by decide +kernel
theorem dX5_picture_1 : decode cX5_picture 1 = .ok (.iload_n 1, 1) := by decide +kernel
theorem dX5_picture_2 : decode cX5_picture 2 = .ok (.invokevirtual 69, 3) := by decide +kernel
theorem dX5_picture_5 : decode cX5_picture 5 = .ok (.ifCond .eq 21, 3) := by decide +kernel
theorem dX5_picture_8 : decode cX5_picture 8 = .ok (.iload 4, 2) := by decide +kernel
theorem dX5_picture_10 : decode cX5_picture 10 = .ok (.iconst (-1), 1) := by decide +kernel
theorem dX5_picture_11 : decode cX5_picture 11 = .ok (.if_icmp .eq 21, 3) := by decide +kernel
theorem dX5_picture_14 : decode cX5_picture 14 = .ok (.aload_n 0, 1) := by decide +kernel
theorem dX5_picture_15 : decode cX5_picture 15 = .ok (.getfield 19, 3) := by decide +kernel
theorem dX5_picture_18 : decode cX5_picture 18 = .ok (.iload 4, 2) := by decide +kernel
theorem dX5_picture_20 : decode cX5_picture 20 = .ok (.invokevirtual 57, 3) := by decide +kernel
theorem dX5_picture_23 : decode cX5_picture 23 = .ok (.ifCond .ne 9, 3) := by decide +kernel
theorem dX5_picture_26 : decode cX5_picture 26 = .ok (.aload_n 0, 1) := by decide +kernel
theorem dX5_picture_27 : decode cX5_picture 27 = .ok (.iconst 1, 1) := by decide +kernel
theorem dX5_picture_28 : decode cX5_picture 28 = .ok (.invokevirtual 50, 3) := by decide +kernel
theorem dX5_picture_31 : decode cX5_picture 31 = .ok (.ireturn, 1) := by decide +kernel
theorem dX5_picture_32 : decode cX5_picture 32 = .ok (.iload_n 2, 1) := by decide +kernel
theorem dX5_picture_33 : decode cX5_picture 33 = .ok (.iconst 0, 1) := by decide +kernel
theorem dX5_picture_34 : decode cX5_picture 34 = .ok (.ldc 72, 2) := by decide +kernel
theorem dX5_picture_36 : decode cX5_picture 36 = .ok (.invokestatic 61, 3) := by decide +kernel
theorem dX5_picture_39 : decode cX5_picture 39 = .ok (.ifCond .eq 13, 3) := by decide +kernel
theorem dX5_picture_42 : decode cX5_picture 42 = .ok (.iload_n 3, 1) := by decide +kernel
theorem dX5_picture_43 : decode cX5_picture 43 = .ok (.iconst 0, 1) := by decide +kernel
theorem dX5_picture_44 : decode cX5_picture 44 = .ok (.ldc 73, 2) := by decide +kernel
theorem dX5_picture_46 : decode cX5_picture 46 = .ok (.invokestatic 61, 3) := by decide +kernel
theorem dX5_picture_49 : decode cX5_picture 49 = .ok (.ifCond .ne 9, 3) := by decide +kernel
theorem dX5_picture_52 : decode cX5_picture 52 = .ok (.aload_n 0, 1) := by decide +kernel
theorem dX5_picture_53 : decode cX5_picture 53 = .ok (.iconst 2, 1) := by decide +kernel
theorem dX5_picture_54 : decode cX5_picture 54 = .ok (.invokevirtual 50, 3) := by decide +kernel
theorem dX5_picture_57 : decode cX5_picture 57 = .ok (.ireturn, 1) := by decide +kernel
theorem dX5_picture_58 : decode cX5_picture 58 = .ok (.aload_n 0, 1) := by decide +kernel
theorem dX5_picture_59 : decode cX5_picture 59 = .ok (.getfield 10, 3) := by decide +kernel
theorem dX5_picture_62 : decode cX5_picture 62 = .ok (.getfield 74, 3) := by decide +kernel
theorem dX5_picture_65 : decode cX5_picture 65 = .ok (.bipush 120, 2) := by decide +kernel
theorem dX5_picture_67 : decode cX5_picture 67 = .ok (.if_icmp .lt 9, 3) := by decide +kernel
theorem dX5_picture_70 : decode cX5_picture 70 = .ok (.aload_n 0, 1) := by decide +kernel
theorem dX5_picture_71 : decode cX5_picture 71 = .ok (.iconst 3, 1) := by decide +kernel
theorem dX5_picture_72 : decode cX5_picture 72 = .ok (.invokevirtual 50, 3) := by decide +kernel
theorem dX5_picture_75 : decode cX5_picture 75 = .ok (.ireturn, 1) := by decide +kernel
theorem dX5_picture_76 : decode cX5_picture 76 = .ok (.aload_n 0, 1) := by decide +kernel
theorem dX5_picture_77 : decode cX5_picture 77 = .ok (.iconst 0, 1) := by decide +kernel
theorem dX5_picture_78 : decode cX5_picture 78 = .ok (.putfield 44, 3) := by decide +kernel
theorem dX5_picture_81 : decode cX5_picture 81 = .ok (.aload_n 0, 1) := by decide +kernel
theorem dX5_picture_82 : decode cX5_picture 82 = .ok (.getfield 10, 3) := by decide +kernel
theorem dX5_picture_85 : decode cX5_picture 85 = .ok (.iload_n 1, 1) := by decide +kernel
theorem dX5_picture_86 : decode cX5_picture 86 = .ok (.iload_n 2, 1) := by decide +kernel
theorem dX5_picture_87 : decode cX5_picture 87 = .ok (.iload_n 3, 1) := by decide +kernel
theorem dX5_picture_88 : decode cX5_picture 88 = .ok (.iload 4, 2) := by decide +kernel
theorem dX5_picture_90 : decode cX5_picture 90 = .ok (.invokevirtual 75, 3) := by decide +kernel
theorem dX5_picture_93 : decode cX5_picture 93 = .ok (.ireturn, 1) := by decide +kernel
set_option maxRecDepth 20000 in
theorem ggX5_gap_X5_within : GoodIn wsX5_gap wsX5_within := goodIn_r _ [6] (by decide +kernel) (by decide +kernel)
set_option maxRecDepth 20000 in
theorem gX5_gap_X5_within : GoodIn wsX5_gap (va_wsS RX5 61 yX5_within wsX5_within) := goodIn_app (goodIn_of _ (by decide +kernel)) ggX5_gap_X5_within
theorem dX5_gap_0 : decode cX5_gap 0 = .ok (.iload_n 1, 1) := by decide +kernel
theorem dX5_gap_1 : decode cX5_gap 1 = .ok (.iconst 1, 1) := by decide +kernel
theorem dX5_gap_2 : decode cX5_gap 2 = .ok (.sipush 10000, 3) := by decide +kernel
theorem dX5_gap_5 : decode cX5_gap 5 = .ok (.invokestatic 61, 3) := by decide +kernel
theorem dX5_gap_8 : decode cX5_gap 8 = .ok (.ifCond .ne 10, 3) := by decide +kernel
theorem dX5_gap_11 : decode cX5_gap 11 = .ok (.aload_n 0, 1) := by decide +kernel
theorem dX5_gap_12 : decode cX5_gap 12 = .ok (.iconst 2, 1) := by decide +kernel
theorem dX5_gap_13 : decode cX5_gap 13 = .ok (.putfield 44, 3) := by decide +kernel
theorem dX5_gap_16 : decode cX5_gap 16 = .ok (.iconst 0, 1) := by decide +kernel
theorem dX5_gap_17 : decode cX5_gap 17 = .ok (.ireturn, 1) := by decide +kernel
theorem dX5_gap_18 : decode cX5_gap 18 = .ok (.aload_n 0, 1) := by decide +kernel
theorem dX5_gap_19 : decode cX5_gap 19 = .ok (.iconst 0, 1) := by decide +kernel
theorem dX5_gap_20 : decode cX5_gap 20 = .ok (.putfield 44, 3) := by decide +kernel
theorem dX5_gap_23 : decode cX5_gap 23 = .ok (.aload_n 0, 1) := by decide +kernel
theorem dX5_gap_24 : decode cX5_gap 24 = .ok (.iload_n 1, 1) := by decide +kernel
theorem dX5_gap_25 : decode cX5_gap 25 = .ok (.putfield 41, 3) := by decide +kernel
theorem dX5_gap_28 : decode cX5_gap 28 = .ok (.iconst 1, 1) := by decide +kernel
theorem dX5_gap_29 : decode cX5_gap 29 = .ok (.ireturn, 1) := by decide +kernel
set_option maxRecDepth 20000 in
theorem ggX5_near_X0_has : GoodIn wsX5_near wsX0_has := goodIn_r _ [8, 9, 101, 102, 103, 104, 105] (by decide +kernel) (by decide +kernel)
set_option maxRecDepth 20000 in
theorem gX5_near_X0_has : GoodIn wsX5_near (wsV RX5 79 RX0 yX0_has wsX0_has) := goodIn_app (goodIn_of _ (by decide +kernel)) ggX5_near_X0_has
set_option maxRecDepth 20000 in
theorem ggX5_near_X5_refuse : GoodIn wsX5_near wsX5_refuse := goodIn_r _ [14, 15, 93, 94, 95, 96, 97, 98, 99, 100] (by decide +kernel) (by decide +kernel)
set_option maxRecDepth 20000 in
theorem gX5_near_X5_refuse : GoodIn wsX5_near (wsV RX5 50 RX5 yX5_refuse wsX5_refuse) := goodIn_app (goodIn_of _ (by decide +kernel)) ggX5_near_X5_refuse
set_option maxRecDepth 20000 in
theorem ggX5_near_X5_within : GoodIn wsX5_near wsX5_within := goodIn_r _ [18] (by decide +kernel) (by decide +kernel)
set_option maxRecDepth 20000 in
theorem gX5_near_X5_within : GoodIn wsX5_near (va_wsS RX5 61 yX5_within wsX5_within) := goodIn_app (goodIn_of _ (by decide +kernel)) ggX5_near_X5_within
set_option maxRecDepth 20000 in
theorem ggX5_near_X5_tie : GoodIn wsX5_near wsX5_tie := goodIn_r _ [22, 23, 24, 25, 26, 15, 10, 11, 12, 13, 14, 27, 28, 29, 30, 31, 32, 33, 34, 35, 36, 37, 38, 39, 40, 41, 42, 43, 44, 45, 46, 47, 48, 49, 50, 51, 52, 53, 54, 55, 56, 57, 58, 59, 60, 61, 62, 63, 64, 65, 66, 67, 68, 69, 70, 71, 72, 73, 74, 75, 76, 77, 78, 79, 80, 81, 82, 83, 84, 85, 86, 87, 88, 89, 90, 91, 92, 93, 94, 95, 96, 97, 98, 99, 100, 106, 107, 108, 109, 110, 111, 112, 113, 114, 115, 116, 117] (by decide +kernel) (by decide +kernel)
set_option maxRecDepth 20000 in
theorem gX5_near_X5_tie : GoodIn wsX5_near (wsV RX5 87 RX5 yX5_tie wsX5_tie) := goodIn_app (goodIn_of _ (by decide +kernel)) ggX5_near_X5_tie
theorem dX5_near_0 : decode cX5_near 0 = .ok (.aload_n 0, 1) := by decide +kernel
theorem dX5_near_1 : decode cX5_near 1 = .ok (.getfield 10, 3) := by decide +kernel
theorem dX5_near_4 : decode cX5_near 4 = .ok (.iload_n 1, 1) := by decide +kernel
theorem dX5_near_5 : decode cX5_near 5 = .ok (.invokevirtual 79, 3) := by decide +kernel
theorem dX5_near_8 : decode cX5_near 8 = .ok (.ifCond .eq 14, 3) := by decide +kernel
theorem dX5_near_11 : decode cX5_near 11 = .ok (.aload_n 0, 1) := by decide +kernel
theorem dX5_near_12 : decode cX5_near 12 = .ok (.getfield 10, 3) := by decide +kernel
theorem dX5_near_15 : decode cX5_near 15 = .ok (.iload_n 2, 1) := by decide +kernel
theorem dX5_near_16 : decode cX5_near 16 = .ok (.invokevirtual 79, 3) := by decide +kernel
theorem dX5_near_19 : decode cX5_near 19 = .ok (.ifCond .ne 9, 3) := by decide +kernel
theorem dX5_near_22 : decode cX5_near 22 = .ok (.aload_n 0, 1) := by decide +kernel
theorem dX5_near_23 : decode cX5_near 23 = .ok (.iconst 1, 1) := by decide +kernel
theorem dX5_near_24 : decode cX5_near 24 = .ok (.invokevirtual 50, 3) := by decide +kernel
theorem dX5_near_27 : decode cX5_near 27 = .ok (.ireturn, 1) := by decide +kernel
theorem dX5_near_28 : decode cX5_near 28 = .ok (.iload_n 3, 1) := by decide +kernel
theorem dX5_near_29 : decode cX5_near 29 = .ok (.iconst 0, 1) := by decide +kernel
theorem dX5_near_30 : decode cX5_near 30 = .ok (.sipush 10000, 3) := by decide +kernel
theorem dX5_near_33 : decode cX5_near 33 = .ok (.invokestatic 61, 3) := by decide +kernel
theorem dX5_near_36 : decode cX5_near 36 = .ok (.ifCond .ne 9, 3) := by decide +kernel
theorem dX5_near_39 : decode cX5_near 39 = .ok (.aload_n 0, 1) := by decide +kernel
theorem dX5_near_40 : decode cX5_near 40 = .ok (.iconst 2, 1) := by decide +kernel
theorem dX5_near_41 : decode cX5_near 41 = .ok (.invokevirtual 50, 3) := by decide +kernel
theorem dX5_near_44 : decode cX5_near 44 = .ok (.ireturn, 1) := by decide +kernel
theorem dX5_near_45 : decode cX5_near 45 = .ok (.aload_n 0, 1) := by decide +kernel
theorem dX5_near_46 : decode cX5_near 46 = .ok (.getfield 10, 3) := by decide +kernel
theorem dX5_near_49 : decode cX5_near 49 = .ok (.getfield 80, 3) := by decide +kernel
theorem dX5_near_52 : decode cX5_near 52 = .ok (.iload_n 2, 1) := by decide +kernel
theorem dX5_near_53 : decode cX5_near 53 = .ok (.iaload, 1) := by decide +kernel
theorem dX5_near_54 : decode cX5_near 54 = .ok (.aload_n 0, 1) := by decide +kernel
theorem dX5_near_55 : decode cX5_near 55 = .ok (.getfield 10, 3) := by decide +kernel
theorem dX5_near_58 : decode cX5_near 58 = .ok (.getfield 80, 3) := by decide +kernel
theorem dX5_near_61 : decode cX5_near 61 = .ok (.iload_n 1, 1) := by decide +kernel
theorem dX5_near_62 : decode cX5_near 62 = .ok (.iaload, 1) := by decide +kernel
theorem dX5_near_63 : decode cX5_near 63 = .ok (.isub, 1) := by decide +kernel
theorem dX5_near_64 : decode cX5_near 64 = .ok (.istore 4, 2) := by decide +kernel
theorem dX5_near_66 : decode cX5_near 66 = .ok (.aload_n 0, 1) := by decide +kernel
theorem dX5_near_67 : decode cX5_near 67 = .ok (.aload_n 0, 1) := by decide +kernel
theorem dX5_near_68 : decode cX5_near 68 = .ok (.getfield 10, 3) := by decide +kernel
theorem dX5_near_71 : decode cX5_near 71 = .ok (.getfield 84, 3) := by decide +kernel
theorem dX5_near_74 : decode cX5_near 74 = .ok (.iload_n 1, 1) := by decide +kernel
theorem dX5_near_75 : decode cX5_near 75 = .ok (.iaload, 1) := by decide +kernel
theorem dX5_near_76 : decode cX5_near 76 = .ok (.aload_n 0, 1) := by decide +kernel
theorem dX5_near_77 : decode cX5_near 77 = .ok (.getfield 10, 3) := by decide +kernel
theorem dX5_near_80 : decode cX5_near 80 = .ok (.getfield 84, 3) := by decide +kernel
theorem dX5_near_83 : decode cX5_near 83 = .ok (.iload_n 2, 1) := by decide +kernel
theorem dX5_near_84 : decode cX5_near 84 = .ok (.iaload, 1) := by decide +kernel
theorem dX5_near_85 : decode cX5_near 85 = .ok (.iload_n 3, 1) := by decide +kernel
theorem dX5_near_86 : decode cX5_near 86 = .ok (.ineg, 1) := by decide +kernel
theorem dX5_near_87 : decode cX5_near 87 = .ok (.iload 4, 2) := by decide +kernel
theorem dX5_near_89 : decode cX5_near 89 = .ok (.isub, 1) := by decide +kernel
theorem dX5_near_90 : decode cX5_near 90 = .ok (.iload_n 3, 1) := by decide +kernel
theorem dX5_near_91 : decode cX5_near 91 = .ok (.iload 4, 2) := by decide +kernel
theorem dX5_near_93 : decode cX5_near 93 = .ok (.isub, 1) := by decide +kernel
theorem dX5_near_94 : decode cX5_near 94 = .ok (.invokevirtual 87, 3) := by decide +kernel
theorem dX5_near_97 : decode cX5_near 97 = .ok (.ireturn, 1) := by decide +kernel
set_option maxRecDepth 20000 in
theorem ggX5_ahead_X0_has : GoodIn wsX5_ahead wsX0_has := goodIn_r _ [9, 10, 99, 100, 101, 102, 103] (by decide +kernel) (by decide +kernel)
set_option maxRecDepth 20000 in
theorem gX5_ahead_X0_has : GoodIn wsX5_ahead (wsV RX5 79 RX0 yX0_has wsX0_has) := goodIn_app (goodIn_of _ (by decide +kernel)) ggX5_ahead_X0_has
set_option maxRecDepth 20000 in
theorem ggX5_ahead_X5_refuse : GoodIn wsX5_ahead wsX5_refuse := goodIn_r _ [15, 16, 91, 92, 93, 94, 95, 96, 97, 98] (by decide +kernel) (by decide +kernel)
set_option maxRecDepth 20000 in
theorem gX5_ahead_X5_refuse : GoodIn wsX5_ahead (wsV RX5 50 RX5 yX5_refuse wsX5_refuse) := goodIn_app (goodIn_of _ (by decide +kernel)) ggX5_ahead_X5_refuse
set_option maxRecDepth 20000 in
theorem ggX5_ahead_X5_tie : GoodIn wsX5_ahead wsX5_tie := goodIn_r _ [20, 21, 22, 23, 24, 16, 11, 12, 13, 14, 15, 25, 26, 27, 28, 29, 30, 31, 32, 33, 34, 35, 36, 37, 38, 39, 40, 41, 42, 43, 44, 45, 46, 47, 48, 49, 50, 51, 52, 53, 54, 55, 56, 57, 58, 59, 60, 61, 62, 63, 64, 65, 66, 67, 68, 69, 70, 71, 72, 73, 74, 75, 76, 77, 78, 79, 80, 81, 82, 83, 84, 85, 86, 87, 88, 89, 90, 91, 92, 93, 94, 95, 96, 97, 98, 104, 105, 106, 107, 108, 109, 110, 111, 112, 113, 114, 115] (by decide +kernel) (by decide +kernel)
set_option maxRecDepth 20000 in
theorem gX5_ahead_X5_tie : GoodIn wsX5_ahead (wsV RX5 87 RX5 yX5_tie wsX5_tie) := goodIn_app (goodIn_of _ (by decide +kernel)) ggX5_ahead_X5_tie
theorem dX5_ahead_0 : decode cX5_ahead 0 = .ok (.aload_n 0, 1) := by decide +kernel
theorem dX5_ahead_1 : decode cX5_ahead 1 = .ok (.getfield 10, 3) := by decide +kernel
theorem dX5_ahead_4 : decode cX5_ahead 4 = .ok (.iload_n 1, 1) := by decide +kernel
theorem dX5_ahead_5 : decode cX5_ahead 5 = .ok (.invokevirtual 79, 3) := by decide +kernel
theorem dX5_ahead_8 : decode cX5_ahead 8 = .ok (.ifCond .eq 14, 3) := by decide +kernel
theorem dX5_ahead_11 : decode cX5_ahead 11 = .ok (.aload_n 0, 1) := by decide +kernel
theorem dX5_ahead_12 : decode cX5_ahead 12 = .ok (.getfield 10, 3) := by decide +kernel
theorem dX5_ahead_15 : decode cX5_ahead 15 = .ok (.iload_n 2, 1) := by decide +kernel
theorem dX5_ahead_16 : decode cX5_ahead 16 = .ok (.invokevirtual 79, 3) := by decide +kernel
theorem dX5_ahead_19 : decode cX5_ahead 19 = .ok (.ifCond .ne 9, 3) := by decide +kernel
theorem dX5_ahead_22 : decode cX5_ahead 22 = .ok (.aload_n 0, 1) := by decide +kernel
theorem dX5_ahead_23 : decode cX5_ahead 23 = .ok (.iconst 1, 1) := by decide +kernel
theorem dX5_ahead_24 : decode cX5_ahead 24 = .ok (.invokevirtual 50, 3) := by decide +kernel
theorem dX5_ahead_27 : decode cX5_ahead 27 = .ok (.ireturn, 1) := by decide +kernel
theorem dX5_ahead_28 : decode cX5_ahead 28 = .ok (.aload_n 0, 1) := by decide +kernel
theorem dX5_ahead_29 : decode cX5_ahead 29 = .ok (.getfield 10, 3) := by decide +kernel
theorem dX5_ahead_32 : decode cX5_ahead 32 = .ok (.getfield 80, 3) := by decide +kernel
theorem dX5_ahead_35 : decode cX5_ahead 35 = .ok (.iload_n 2, 1) := by decide +kernel
theorem dX5_ahead_36 : decode cX5_ahead 36 = .ok (.iaload, 1) := by decide +kernel
theorem dX5_ahead_37 : decode cX5_ahead 37 = .ok (.aload_n 0, 1) := by decide +kernel
theorem dX5_ahead_38 : decode cX5_ahead 38 = .ok (.getfield 10, 3) := by decide +kernel
theorem dX5_ahead_41 : decode cX5_ahead 41 = .ok (.getfield 80, 3) := by decide +kernel
theorem dX5_ahead_44 : decode cX5_ahead 44 = .ok (.iload_n 1, 1) := by decide +kernel
theorem dX5_ahead_45 : decode cX5_ahead 45 = .ok (.iaload, 1) := by decide +kernel
theorem dX5_ahead_46 : decode cX5_ahead 46 = .ok (.isub, 1) := by decide +kernel
theorem dX5_ahead_47 : decode cX5_ahead 47 = .ok (.istore_n 3, 1) := by decide +kernel
theorem dX5_ahead_48 : decode cX5_ahead 48 = .ok (.aload_n 0, 1) := by decide +kernel
theorem dX5_ahead_49 : decode cX5_ahead 49 = .ok (.aload_n 0, 1) := by decide +kernel
theorem dX5_ahead_50 : decode cX5_ahead 50 = .ok (.getfield 10, 3) := by decide +kernel
theorem dX5_ahead_53 : decode cX5_ahead 53 = .ok (.getfield 84, 3) := by decide +kernel
theorem dX5_ahead_56 : decode cX5_ahead 56 = .ok (.iload_n 1, 1) := by decide +kernel
theorem dX5_ahead_57 : decode cX5_ahead 57 = .ok (.iaload, 1) := by decide +kernel
theorem dX5_ahead_58 : decode cX5_ahead 58 = .ok (.aload_n 0, 1) := by decide +kernel
theorem dX5_ahead_59 : decode cX5_ahead 59 = .ok (.getfield 10, 3) := by decide +kernel
theorem dX5_ahead_62 : decode cX5_ahead 62 = .ok (.getfield 84, 3) := by decide +kernel
theorem dX5_ahead_65 : decode cX5_ahead 65 = .ok (.iload_n 2, 1) := by decide +kernel
theorem dX5_ahead_66 : decode cX5_ahead 66 = .ok (.iaload, 1) := by decide +kernel
theorem dX5_ahead_67 : decode cX5_ahead 67 = .ok (.iconst 1, 1) := by decide +kernel
theorem dX5_ahead_68 : decode cX5_ahead 68 = .ok (.iload_n 3, 1) := by decide +kernel
theorem dX5_ahead_69 : decode cX5_ahead 69 = .ok (.isub, 1) := by decide +kernel
theorem dX5_ahead_70 : decode cX5_ahead 70 = .ok (.ldc 90, 2) := by decide +kernel
theorem dX5_ahead_72 : decode cX5_ahead 72 = .ok (.invokevirtual 87, 3) := by decide +kernel
theorem dX5_ahead_75 : decode cX5_ahead 75 = .ok (.ireturn, 1) := by decide +kernel
set_option maxRecDepth 20000 in
theorem ggX5_off_X5_hasCamera : GoodIn wsX5_off wsX5_hasCamera := goodIn_r _ [5, 6, 94, 95, 96, 97, 98, 99, 100, 101] (by decide +kernel) (by decide +kernel)
set_option maxRecDepth 20000 in
theorem gX5_off_X5_hasCamera : GoodIn wsX5_off (wsV RX5 69 RX5 yX5_hasCamera wsX5_hasCamera) := goodIn_app (goodIn_of _ (by decide +kernel)) ggX5_off_X5_hasCamera
set_option maxRecDepth 20000 in
theorem ggX5_off_X5_refuse : GoodIn wsX5_off wsX5_refuse := goodIn_r _ [10, 11, 94, 95, 96, 97, 98, 99, 100, 101] (by decide +kernel) (by decide +kernel)
set_option maxRecDepth 20000 in
theorem gX5_off_X5_refuse : GoodIn wsX5_off (wsV RX5 50 RX5 yX5_refuse wsX5_refuse) := goodIn_app (goodIn_of _ (by decide +kernel)) ggX5_off_X5_refuse
set_option maxRecDepth 20000 in
theorem ggX5_off_X5_isOffset : GoodIn wsX5_off wsX5_isOffset := goodIn_r _ [14, 15, 16, 17, 18, 4, 19] (by decide +kernel) (by decide +kernel)
set_option maxRecDepth 20000 in
theorem gX5_off_X5_isOffset : GoodIn wsX5_off (va_wsS RX5 91 yX5_isOffset wsX5_isOffset) := goodIn_app (goodIn_of _ (by decide +kernel)) ggX5_off_X5_isOffset
set_option maxRecDepth 20000 in
theorem ggX5_off_X5_tie : GoodIn wsX5_off wsX5_tie := goodIn_r _ [23, 24, 25, 26, 27, 11, 7, 8, 9, 4, 10, 28, 29, 30, 31, 32, 33, 34, 35, 36, 37, 38, 39, 40, 41, 42, 43, 44, 45, 46, 47, 48, 49, 50, 51, 52, 53, 54, 55, 56, 57, 58, 59, 60, 61, 62, 63, 64, 65, 66, 67, 68, 69, 70, 71, 72, 73, 74, 75, 76, 77, 78, 79, 80, 81, 82, 83, 84, 85, 86, 87, 88, 89, 90, 91, 92, 93, 94, 95, 96, 97, 98, 99, 100, 101, 102, 103, 104, 105, 106, 107, 108, 109, 110, 111, 112, 113] (by decide +kernel) (by decide +kernel)
set_option maxRecDepth 20000 in
theorem gX5_off_X5_tie : GoodIn wsX5_off (wsV RX5 87 RX5 yX5_tie wsX5_tie) := goodIn_app (goodIn_of _ (by decide +kernel)) ggX5_off_X5_tie
theorem dX5_off_0 : decode cX5_off 0 = .ok (.aload_n 0, 1) := by decide +kernel
theorem dX5_off_1 : decode cX5_off 1 = .ok (.iload_n 1, 1) := by decide +kernel
theorem dX5_off_2 : decode cX5_off 2 = .ok (.invokevirtual 69, 3) := by decide +kernel
theorem dX5_off_5 : decode cX5_off 5 = .ok (.ifCond .ne 9, 3) := by decide +kernel
theorem dX5_off_8 : decode cX5_off 8 = .ok (.aload_n 0, 1) := by decide +kernel
theorem dX5_off_9 : decode cX5_off 9 = .ok (.iconst 1, 1) := by decide +kernel
theorem dX5_off_10 : decode cX5_off 10 = .ok (.invokevirtual 50, 3) := by decide +kernel
theorem dX5_off_13 : decode cX5_off 13 = .ok (.ireturn, 1) := by decide +kernel
theorem dX5_off_14 : decode cX5_off 14 = .ok (.iload_n 2, 1) := by decide +kernel
theorem dX5_off_15 : decode cX5_off 15 = .ok (.invokestatic 91, 3) := by decide +kernel
theorem dX5_off_18 : decode cX5_off 18 = .ok (.ifCond .eq 15, 3) := by decide +kernel
theorem dX5_off_21 : decode cX5_off 21 = .ok (.iload_n 3, 1) := by decide +kernel
theorem dX5_off_22 : decode cX5_off 22 = .ok (.invokestatic 91, 3) := by decide +kernel
theorem dX5_off_25 : decode cX5_off 25 = .ok (.ifCond .eq 8, 3) := by decide +kernel
theorem dX5_off_28 : decode cX5_off 28 = .ok (.iload_n 2, 1) := by decide +kernel
theorem dX5_off_29 : decode cX5_off 29 = .ok (.iload_n 3, 1) := by decide +kernel
theorem dX5_off_30 : decode cX5_off 30 = .ok (.if_icmp .le 9, 3) := by decide +kernel
theorem dX5_off_33 : decode cX5_off 33 = .ok (.aload_n 0, 1) := by decide +kernel
theorem dX5_off_34 : decode cX5_off 34 = .ok (.iconst 2, 1) := by decide +kernel
theorem dX5_off_35 : decode cX5_off 35 = .ok (.invokevirtual 50, 3) := by decide +kernel
theorem dX5_off_38 : decode cX5_off 38 = .ok (.ireturn, 1) := by decide +kernel
theorem dX5_off_39 : decode cX5_off 39 = .ok (.aload_n 0, 1) := by decide +kernel
theorem dX5_off_40 : decode cX5_off 40 = .ok (.iconst 0, 1) := by decide +kernel
theorem dX5_off_41 : decode cX5_off 41 = .ok (.iload_n 1, 1) := by decide +kernel
