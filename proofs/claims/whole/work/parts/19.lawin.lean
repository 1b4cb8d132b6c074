set_option maxRecDepth 100000 in
theorem inT_X0 : ∀ w ∈ wsX00, w ∈ lw_tbl := fun w h => (goodIn_r (big := lw_tbl) wsX00 [83, 85, 87, 89, 91] rfl (by decide +kernel) w h).1
set_option maxRecDepth 100000 in
theorem inT_X1 : ∀ w ∈ wsX10, w ∈ lw_tbl := fun w h => (goodIn_r (big := lw_tbl) wsX10 [104, 106] rfl (by decide +kernel) w h).1
set_option maxRecDepth 100000 in
theorem inT_X2 : ∀ w ∈ wsX20, w ∈ lw_tbl := fun w h => (goodIn_r (big := lw_tbl) wsX20 [127] rfl (by decide +kernel) w h).1
set_option maxRecDepth 100000 in
theorem inT_X3 : ∀ w ∈ wsX30, w ∈ lw_tbl := fun w h => (goodIn_r (big := lw_tbl) wsX30 [144, 146, 148, 150, 152, 154, 156, 158, 160, 162, 164] rfl (by decide +kernel) w h).1
set_option maxRecDepth 100000 in
theorem inT_X4 : ∀ w ∈ wsX40, w ∈ lw_tbl := fun w h => (goodIn_r (big := lw_tbl) wsX40 [184, 186, 188, 190, 192, 194] rfl (by decide +kernel) w h).1
set_option maxRecDepth 100000 in
theorem inT_X5 : ∀ w ∈ wsX50, w ∈ lw_tbl := fun w h => (goodIn_r (big := lw_tbl) wsX50 [205, 207, 209, 211, 213, 215, 217, 219] rfl (by decide +kernel) w h).1
set_option maxRecDepth 100000 in
theorem inT_X6 : ∀ w ∈ wsX60, w ∈ lw_tbl := fun w h => (goodIn_r (big := lw_tbl) wsX60 [654, 656, 658, 660, 662, 664, 666, 668, 670, 672, 674, 676, 678, 680, 682, 684, 686, 688, 690, 692, 694, 696, 698, 700, 702, 704, 706, 708, 710] rfl (by decide +kernel) w h).1
theorem gT_ex : ∀ w ∈ exA.filter goodWord, w ∈ lw_tbl := by decide +kernel
set_option maxRecDepth 100000 in
theorem gT_L_row : GoodIn lw_tbl (va_wsS RL 99 yL_row wsLR) := goodIn_app (goodIn_r _ [545, 546, 36] rfl (by decide +kernel)) (goodIn_ca (goodIn_r _ [547, 548, 549, 550, 551, 37, 552, 553, 50, 200, 178, 445, 446, 447, 42, 448, 181, 205, 207, 209, 211, 213, 215, 217, 219, 184, 186, 188, 190, 192, 194] rfl (by decide +kernel)) (goodIn_sub gT_ex (by decide +kernel)))
