/-! PictureHeap.within(III)Z (X5_within) -/
set_option maxHeartbeats 1000000 in
set_option maxRecDepth 100000 in
theorem c_X5_within (l : Launch) (D : va_G) (cI : ClassId) (sz : Nat) (x0 : Int32) (x1 : Int32) (x2 : Int32) (post : Int32 → Unit → Prop) (hw : w_X5_within x0 x1 x2 post) : Ci l yX5_within wsX5_within 0 0 D cI [] sz [.int x0, .int x1, .int x2] (fun _ : Unit => ([] : va_W)) post := by
  refine mo_i (cc := cX5_within) (maxL := 3) (ret := (some .boolean)) (by decide) rfl (Nat.le_of_ble_eq_true rfl) ?_
  intro p e s m below meth c hx hb hr hml hts hown hlocks hK A hA hC ls hl
  have hown : s.vm.findClass RX5 = some m.cls := hown
  have hl : lv_has ls 3 [(0, .int x0), (1, .int x1), (2, .int x2)] := hl
  refine lv_iload_n hx hb dX5_within_0 rfl (lv_at hl 0 rfl) ?_
  refine lv_iload_n hx hb dX5_within_1 rfl (lv_at hl 1 rfl) ?_
  refine lv_icmp_lt (tgt := 14) hx hb dX5_within_2 (by decide) (fun c_1 => ?_) (fun c_1 => ?_)
  · have hw := hw.1 c_1
    refine lv_iconst (v := 0) hx hb dX5_within_14 (by decide) ?_
    exact cx_ret_z (u := ()) hx hb hr hlocks hK hC rfl hw dX5_within_15
  · have hw := hw.2 c_1
    refine lv_iload_n hx hb dX5_within_5 rfl (lv_at hl 0 rfl) ?_
    refine lv_iload_n hx hb dX5_within_6 rfl (lv_at hl 2 rfl) ?_
    refine lv_icmp_gt (tgt := 14) hx hb dX5_within_7 (by decide) (fun c_2 => ?_) (fun c_2 => ?_)
    · have hw := hw.1 c_2
      refine lv_iconst (v := 0) hx hb dX5_within_14 (by decide) ?_
      exact cx_ret_z (u := ()) hx hb hr hlocks hK hC rfl hw dX5_within_15
    · have hw := hw.2 c_2
      refine lv_iconst (v := 1) hx hb dX5_within_10 (by decide) ?_
      refine lv_goto (tgt := 15) hx hb dX5_within_11 (by decide) ?_
      exact cx_ret_z (u := ()) hx hb hr hlocks hK hC rfl hw dX5_within_15

/-! PictureHeap$Offsets.least(II)I (X2_least) -/
set_option maxHeartbeats 1000000 in
set_option maxRecDepth 100000 in
theorem c_X2_least (l : Launch) (D : va_G) (cI : ClassId) (o : Nat) (a : Nat) (sz : Nat) (f : (Nat → Int32)) (x1 : Int32) (x2 : Int32) (post : Int32 → (Nat → Int32) → Prop) (hw : w_X2_least f x1 x2 post) : Ci l yX2_least wsX2_least 0 0 D cI (wO cI o a f) sz [.ref o, .int x1, .int x2] (wO cI o a) post := by
  refine mo_i (cc := cX2_least) (maxL := 3) (ret := (some .int)) (by decide) rfl (Nat.le_of_ble_eq_true rfl) ?_
  intro p e s m below meth c hx hb hr hml hts hown hlocks hK A hA hC ls hl
  have hown : s.vm.findClass RX2 = some m.cls := hown
  have hl : lv_has ls 3 [(0, .ref o), (1, .int x1), (2, .int x2)] := hl
  have u1 : (Cond.fieldLink RX2 9 "PictureHeap$Offsets" "limit" "[I").before [.ref o, .int x1, .int x2].toArray s = true := hts _ (List.mem_of_getElem? (i := 1) rfl)
  have iX2 : ∀ w ∈ wsX20, w ∈ wsX2_least := fun _ h => List.mem_cons_of_mem _ (List.mem_append_right _ h)
  refine lv_aload_n hx hb dX2_least_0 rfl (lv_at hl 0 rfl) ?_
  refine cx_get (v := .ref a) hx hb hts iX2 hown hK hC 0 rfl rfl 0 (by decide) u1 rfl rfl dX2_least_1 ?_
  refine lv_iload_n hx hb dX2_least_4 rfl (lv_at hl 2 rfl) ?_
  refine lv_bipush (v := 8) hx hb dX2_least_5 (by decide) ?_
  refine lv_imul hx hb dX2_least_7 ?_
  refine lv_iload_n hx hb dX2_least_8 rfl (lv_at hl 1 rfl) ?_
  refine lv_iadd hx hb dX2_least_9 ?_
  refine cx_iald (f := f) hx hb hK hC 1 rfl hw.1 dX2_least_10 ?_
  have hw := hw.2
  refine lv_ineg hx hb dX2_least_11 ?_
  exact cx_ret_i (u := f) hx hb hr hlocks hK hC hw dX2_least_12

/-! PictureHeap$Offsets.most(II)I (X2_most) -/
set_option maxHeartbeats 1000000 in
set_option maxRecDepth 100000 in
theorem c_X2_most (l : Launch) (D : va_G) (cI : ClassId) (o : Nat) (a : Nat) (sz : Nat) (f : (Nat → Int32)) (x1 : Int32) (x2 : Int32) (post : Int32 → (Nat → Int32) → Prop) (hw : w_X2_most f x1 x2 post) : Ci l yX2_most wsX2_most 0 0 D cI (wO cI o a f) sz [.ref o, .int x1, .int x2] (wO cI o a) post := by
  refine mo_i (cc := cX2_most) (maxL := 3) (ret := (some .int)) (by decide) rfl (Nat.le_of_ble_eq_true rfl) ?_
  intro p e s m below meth c hx hb hr hml hts hown hlocks hK A hA hC ls hl
  have hown : s.vm.findClass RX2 = some m.cls := hown
  have hl : lv_has ls 3 [(0, .ref o), (1, .int x1), (2, .int x2)] := hl
  have u1 : (Cond.fieldLink RX2 9 "PictureHeap$Offsets" "limit" "[I").before [.ref o, .int x1, .int x2].toArray s = true := hts _ (List.mem_of_getElem? (i := 1) rfl)
  have iX2 : ∀ w ∈ wsX20, w ∈ wsX2_most := fun _ h => List.mem_cons_of_mem _ (List.mem_append_right _ h)
  refine lv_aload_n hx hb dX2_most_0 rfl (lv_at hl 0 rfl) ?_
  refine cx_get (v := .ref a) hx hb hts iX2 hown hK hC 0 rfl rfl 0 (by decide) u1 rfl rfl dX2_most_1 ?_
  refine lv_iload_n hx hb dX2_most_4 rfl (lv_at hl 1 rfl) ?_
  refine lv_bipush (v := 8) hx hb dX2_most_5 (by decide) ?_
  refine lv_imul hx hb dX2_most_7 ?_
  refine lv_iload_n hx hb dX2_most_8 rfl (lv_at hl 2 rfl) ?_
  refine lv_iadd hx hb dX2_most_9 ?_
  refine cx_iald (f := f) hx hb hK hC 1 rfl hw.1 dX2_most_10 ?_
  have hw := hw.2
  exact cx_ret_i (u := f) hx hb hr hlocks hK hC hw dX2_most_11

/-! PictureHeap$Offsets.admits(IIII)Z (X2_admits) -/
set_option maxHeartbeats 1000000 in
set_option maxRecDepth 100000 in
theorem c_X2_admits (l : Launch) (D : va_G) (cI : ClassId) (o : Nat) (a : Nat) (sz : Nat) (f : (Nat → Int32)) (x1 : Int32) (x2 : Int32) (x3 : Int32) (x4 : Int32) (post : Int32 → (Nat → Int32) → Prop) (hw : w_X2_admits f x1 x2 x3 x4 post) : Ci l yX2_admits wsX2_admits 1 22 D cI (wO cI o a f) sz [.ref o, .int x1, .int x2, .int x3, .int x4] (wO cI o a) post := by
  refine mo_i (cc := cX2_admits) (maxL := 5) (ret := (some .boolean)) (by decide) rfl (Nat.le_of_ble_eq_true rfl) ?_
  intro p e s m below meth c hx hb hr hml hts hown hlocks hK A hA hC ls hl
  have hown : s.vm.findClass RX2 = some m.cls := hown
  have hl : lv_has ls 5 [(0, .ref o), (1, .int x1), (2, .int x2), (3, .int x3), (4, .int x4)] := hl
  refine lv_iload hx hb dX2_admits_0 (lv_at hl 4 rfl) ?_
  refine lv_aload_n hx hb dX2_admits_2 rfl (lv_at hl 0 rfl) ?_
  refine lv_iload_n hx hb dX2_admits_3 rfl (lv_at hl 1 rfl) ?_
  refine lv_iload_n hx hb dX2_admits_4 rfl (lv_at hl 2 rfl) ?_
  refine cx_callVi0 (As := [.int x1, .int x2]) (rest := [.int x4]) ⟨hx, hb, hml, hown, hts⟩ (c_X2_least l D cI o a _ f x1 x2 _ hw) (cwV 2 hts gX2_admits_X2_least rfl rfl rfl (by decide +kernel) ⟨Nat.le_of_ble_eq_true rfl, Nat.le_of_ble_eq_true rfl⟩) hK hC hA 0 rfl rfl rfl rfl hl.1 rfl (Nat.le_of_ble_eq_true rfl) dX2_admits_5 ⟨Nat.zero_le _, Nat.zero_le _⟩ (fun r_1 u_2 H locs hw hC => ?_)
  refine lv_icmp_lt (tgt := 25) hx hb dX2_admits_8 (by decide) (fun c_3 => ?_) (fun c_3 => ?_)
  · have hw := hw.1 c_3
    refine lv_iconst (v := 0) hx hb dX2_admits_25 (by decide) ?_
    exact cx_ret_z (u := u_2) hx hb hr hlocks hK hC rfl hw dX2_admits_26
  · have hw := hw.2 c_3
    refine lv_iload_n hx hb dX2_admits_11 rfl (lv_at hl 3 rfl) ?_
    refine lv_aload_n hx hb dX2_admits_12 rfl (lv_at hl 0 rfl) ?_
    refine lv_iload_n hx hb dX2_admits_13 rfl (lv_at hl 1 rfl) ?_
    refine lv_iload_n hx hb dX2_admits_14 rfl (lv_at hl 2 rfl) ?_
    refine cx_callVi0 (As := [.int x1, .int x2]) (rest := [.int x3]) ⟨hx, hb, hml, hown, hts⟩ (c_X2_most l D cI o a _ u_2 x1 x2 _ hw) (cwV 2 hts gX2_admits_X2_most rfl rfl rfl (by decide +kernel) ⟨Nat.le_of_ble_eq_true rfl, Nat.le_of_ble_eq_true rfl⟩) hK hC hA 0 rfl rfl rfl rfl hl.1 rfl (Nat.le_of_ble_eq_true rfl) dX2_admits_15 ⟨Nat.zero_le _, Nat.zero_le _⟩ (fun r_4 u_5 H locs hw hC => ?_)
    refine lv_icmp_gt (tgt := 25) hx hb dX2_admits_18 (by decide) (fun c_6 => ?_) (fun c_6 => ?_)
    · have hw := hw.1 c_6
      refine lv_iconst (v := 0) hx hb dX2_admits_25 (by decide) ?_
      exact cx_ret_z (u := u_5) hx hb hr hlocks hK hC rfl hw dX2_admits_26
    · have hw := hw.2 c_6
      refine lv_iconst (v := 1) hx hb dX2_admits_21 (by decide) ?_
      refine lv_goto (tgt := 26) hx hb dX2_admits_22 (by decide) ?_
      exact cx_ret_z (u := u_5) hx hb hr hlocks hK hC rfl hw dX2_admits_26

/-! PictureHeap$Offsets.lower(III)V (X2_lower) -/
set_option maxHeartbeats 1000000 in
set_option maxRecDepth 100000 in
theorem c_X2_lower (l : Launch) (D : va_G) (cI : ClassId) (o : Nat) (a : Nat) (sz : Nat) (f : (Nat → Int32)) (x1 : Int32) (x2 : Int32) (x3 : Int32) (post : (Nat → Int32) → Prop) (hw : w_X2_lower f x1 x2 x3 post) : Cv l yX2_lower wsX2_lower 0 0 D cI (wO cI o a f) sz [.ref o, .int x1, .int x2, .int x3] (wO cI o a) post := by
  refine mo_v (cc := cX2_lower) (maxL := 8) (ret := none) (by decide) rfl (Nat.le_of_ble_eq_true rfl) ?_
  intro p e s m below meth c hx hb hr hml hts hown hlocks hK A hA hC ls hl
  have hown : s.vm.findClass RX2 = some m.cls := hown
  have hl : lv_has ls 8 [(0, .ref o), (1, .int x1), (2, .int x2), (3, .int x3)] := hl
  have u1 : (Cond.fieldLink RX2 9 "PictureHeap$Offsets" "limit" "[I").before [.ref o, .int x1, .int x2, .int x3].toArray s = true := hts _ (List.mem_of_getElem? (i := 1) rfl)
  have iX2 : ∀ w ∈ wsX20, w ∈ wsX2_lower := fun _ h => List.mem_cons_of_mem _ (List.mem_append_right _ h)
  have L29 : ∀ (x1_7 : Int32) (x2_8 : Int32) (x3_9 : Int32) (x4_10 : Int32) (x5_11 : Int32) (K : Int32 → (Nat → Int32) → Prop) (hKK : ∀ (x6_12 : Int32) (s_13 : (Nat → Int32)) (H : Heap) (locs : List Loc) (ls : Array Slot), K x6_12 s_13 → Cx D A s.heap (wO cI o a s_13) H locs → lv_has ls 8 [(0, .ref o), (1, .int x1_7), (2, .int x2_8), (3, .int x3_9), (4, .int x4_10), (5, .int x5_11), (6, .int x6_12)] → W p l e (Rm 0 0) s m [.ref o, .int x1, .int x2, .int x3].toArray below meth c H locs 0 0 (QV below D cI A (wO cI o a) post [.ref o, .int x1, .int x2, .int x3].toArray s) (F0 m 92 ls [])) (n : Nat), ∀ (x6_12 : Int32) (s_13 : (Nat → Int32)) (H : Heap) (locs : List Loc) (ls : Array Slot), w_X2_lower_L29 x1_7 x2_8 x3_9 x4_10 x5_11 post K n x6_12 s_13 → Cx D A s.heap (wO cI o a s_13) H locs → lv_has ls 8 [(0, .ref o), (1, .int x1_7), (2, .int x2_8), (3, .int x3_9), (4, .int x4_10), (5, .int x5_11), (6, .int x6_12)] → W p l e (Rm 0 0) s m [.ref o, .int x1, .int x2, .int x3].toArray below meth c H locs 0 0 (QV below D cI A (wO cI o a) post [.ref o, .int x1, .int x2, .int x3].toArray s) (F0 m 29 ls []) := by
    intro x1_7 x2_8 x3_9 x4_10 x5_11 K hKK n
    induction n with
    | zero => intro x6_12 s_13 H locs ls hw; exact hw.elim
    | succ n ih =>
      intro x6_12 s_13 H locs ls hw hC hl
      refine lv_iload hx hb dX2_lower_29 (lv_at hl 6 rfl) ?_
      refine lv_bipush (v := 8) hx hb dX2_lower_31 (by decide) ?_
      refine lv_icmp_ge (tgt := 92) hx hb dX2_lower_33 (by decide) (fun c_14 => ?_) (fun c_14 => ?_)
      · have hw := hw.1 c_14
        exact hKK x6_12 s_13 _ _ _ hw hC (lv_sub hl [0, 1, 2, 3, 4, 5, 6] rfl)
      · have hw := hw.2 c_14
        refine lv_iload hx hb dX2_lower_36 (lv_at hl 5 rfl) ?_
        refine lv_aload_n hx hb dX2_lower_38 rfl (lv_at hl 0 rfl) ?_
        refine cx_get (v := .ref a) hx hb hts iX2 hown hK hC 0 rfl rfl 0 (by decide) u1 rfl rfl dX2_lower_39 ?_
        refine lv_iload_n hx hb dX2_lower_42 rfl (lv_at hl 2 rfl) ?_
        refine lv_bipush (v := 8) hx hb dX2_lower_43 (by decide) ?_
        refine lv_imul hx hb dX2_lower_45 ?_
        refine lv_iload hx hb dX2_lower_46 (lv_at hl 6 rfl) ?_
        refine lv_iadd hx hb dX2_lower_48 ?_
        refine cx_iald (f := s_13) hx hb hK hC 1 rfl hw.1 dX2_lower_49 ?_
        have hw := hw.2
        refine lv_iadd hx hb dX2_lower_50 ?_
        refine lv_istore (lv' := [(7, .int (x5_11 + (s_13 (Int32.toNatClampNeg ((x2_8 * 8) + x6_12))))), (0, .ref o), (1, .int x1_7), (2, .int x2_8), (3, .int x3_9), (4, .int x4_10), (5, .int x5_11), (6, .int x6_12)]) hx hb dX2_lower_51 hl (by decide) rfl (fun ls hl => ?_)
        refine lv_iload hx hb dX2_lower_53 (lv_at hl 0 rfl) ?_
        refine lv_aload_n hx hb dX2_lower_55 rfl (lv_at hl 1 rfl) ?_
        refine cx_get (v := .ref a) hx hb hts iX2 hown hK hC 0 rfl rfl 0 (by decide) u1 rfl rfl dX2_lower_56 ?_
        refine lv_iload hx hb dX2_lower_59 (lv_at hl 5 rfl) ?_
        refine lv_bipush (v := 8) hx hb dX2_lower_61 (by decide) ?_
        refine lv_imul hx hb dX2_lower_63 ?_
        refine lv_iload hx hb dX2_lower_64 (lv_at hl 7 rfl) ?_
        refine lv_iadd hx hb dX2_lower_66 ?_
        refine cx_iald (f := s_13) hx hb hK hC 1 rfl hw.1 dX2_lower_67 ?_
        have hw := hw.2
        refine lv_icmp_ge (tgt := 86) hx hb dX2_lower_68 (by decide) (fun c_15 => ?_) (fun c_15 => ?_)
        · have hw := hw.1 c_15
          refine lv_iinc (v := (x6_12 + 1)) (lv' := [(6, .int (x6_12 + 1)), (7, .int (x5_11 + (s_13 (Int32.toNatClampNeg ((x2_8 * 8) + x6_12))))), (0, .ref o), (1, .int x1_7), (2, .int x2_8), (3, .int x3_9), (4, .int x4_10), (5, .int x5_11)]) hx hb dX2_lower_86 hl (k := 7) rfl rfl (by decide) rfl (fun ls hl => ?_)
          refine lv_goto (tgt := 29) hx hb dX2_lower_89 (by decide) ?_
          exact ih (x6_12 + 1) s_13 _ _ _ hw hC (lv_sub hl [2, 3, 4, 5, 6, 7, 0] rfl)
        · have hw := hw.2 c_15
          refine lv_aload_n hx hb dX2_lower_71 rfl (lv_at hl 1 rfl) ?_
          refine cx_get (v := .ref a) hx hb hts iX2 hown hK hC 0 rfl rfl 0 (by decide) u1 rfl rfl dX2_lower_72 ?_
          refine lv_iload hx hb dX2_lower_75 (lv_at hl 5 rfl) ?_
          refine lv_bipush (v := 8) hx hb dX2_lower_77 (by decide) ?_
          refine lv_imul hx hb dX2_lower_79 ?_
          refine lv_iload hx hb dX2_lower_80 (lv_at hl 7 rfl) ?_
          refine lv_iadd hx hb dX2_lower_82 ?_
          refine lv_iload hx hb dX2_lower_83 (lv_at hl 0 rfl) ?_
          refine cx_iast (f := s_13) hx hb hK hC 1 rfl hw.1 dX2_lower_85 (ws' := (wO cI o a (upd (s_13) (Int32.toNatClampNeg ((x4_10 * 8) + x6_12)) (x5_11 + (s_13 (Int32.toNatClampNeg ((x2_8 * 8) + x6_12))))))) rfl (fun H locs hC => ?_)
          have hw := hw.2
          refine lv_iinc (v := (x6_12 + 1)) (lv' := [(6, .int (x6_12 + 1)), (7, .int (x5_11 + (s_13 (Int32.toNatClampNeg ((x2_8 * 8) + x6_12))))), (0, .ref o), (1, .int x1_7), (2, .int x2_8), (3, .int x3_9), (4, .int x4_10), (5, .int x5_11)]) hx hb dX2_lower_86 hl (k := 7) rfl rfl (by decide) rfl (fun ls hl => ?_)
          refine lv_goto (tgt := 29) hx hb dX2_lower_89 (by decide) ?_
          exact ih (x6_12 + 1) (upd (s_13) (Int32.toNatClampNeg ((x4_10 * 8) + x6_12)) (x5_11 + (s_13 (Int32.toNatClampNeg ((x2_8 * 8) + x6_12))))) _ _ _ hw hC (lv_sub hl [2, 3, 4, 5, 6, 7, 0] rfl)
  have L3 : ∀ (x1_1 : Int32) (x2_2 : Int32) (x3_3 : Int32) (K : Int32 → (Nat → Int32) → Prop) (hKK : ∀ (x4_4 : Int32) (s_5 : (Nat → Int32)) (H : Heap) (locs : List Loc) (ls : Array Slot), K x4_4 s_5 → Cx D A s.heap (wO cI o a s_5) H locs → lv_has ls 8 [(0, .ref o), (1, .int x1_1), (2, .int x2_2), (3, .int x3_3), (4, .int x4_4)] → W p l e (Rm 0 0) s m [.ref o, .int x1, .int x2, .int x3].toArray below meth c H locs 0 0 (QV below D cI A (wO cI o a) post [.ref o, .int x1, .int x2, .int x3].toArray s) (F0 m 98 ls [])) (n : Nat), ∀ (x4_4 : Int32) (s_5 : (Nat → Int32)) (H : Heap) (locs : List Loc) (ls : Array Slot), w_X2_lower_L3 x1_1 x2_2 x3_3 post K n x4_4 s_5 → Cx D A s.heap (wO cI o a s_5) H locs → lv_has ls 8 [(0, .ref o), (1, .int x1_1), (2, .int x2_2), (3, .int x3_3), (4, .int x4_4)] → W p l e (Rm 0 0) s m [.ref o, .int x1, .int x2, .int x3].toArray below meth c H locs 0 0 (QV below D cI A (wO cI o a) post [.ref o, .int x1, .int x2, .int x3].toArray s) (F0 m 3 ls []) := by
    intro x1_1 x2_2 x3_3 K hKK n
    induction n with
    | zero => intro x4_4 s_5 H locs ls hw; exact hw.elim
    | succ n ih =>
      intro x4_4 s_5 H locs ls hw hC hl
      refine lv_iload hx hb dX2_lower_3 (lv_at hl 4 rfl) ?_
      refine lv_bipush (v := 8) hx hb dX2_lower_5 (by decide) ?_
      refine lv_icmp_ge (tgt := 98) hx hb dX2_lower_7 (by decide) (fun c_6 => ?_) (fun c_6 => ?_)
      · have hw := hw.1 c_6
        exact hKK x4_4 s_5 _ _ _ hw hC (lv_sub hl [0, 1, 2, 3, 4] rfl)
      · have hw := hw.2 c_6
        refine lv_aload_n hx hb dX2_lower_10 rfl (lv_at hl 0 rfl) ?_
        refine cx_get (v := .ref a) hx hb hts iX2 hown hK hC 0 rfl rfl 0 (by decide) u1 rfl rfl dX2_lower_11 ?_
        refine lv_iload hx hb dX2_lower_14 (lv_at hl 4 rfl) ?_
        refine lv_bipush (v := 8) hx hb dX2_lower_16 (by decide) ?_
        refine lv_imul hx hb dX2_lower_18 ?_
        refine lv_iload_n hx hb dX2_lower_19 rfl (lv_at hl 1 rfl) ?_
        refine lv_iadd hx hb dX2_lower_20 ?_
        refine cx_iald (f := s_5) hx hb hK hC 1 rfl hw.1 dX2_lower_21 ?_
        have hw := hw.2
        refine lv_iload_n hx hb dX2_lower_22 rfl (lv_at hl 3 rfl) ?_
        refine lv_iadd hx hb dX2_lower_23 ?_
        refine lv_istore (lv' := [(5, .int ((s_5 (Int32.toNatClampNeg ((x4_4 * 8) + x1_1))) + x3_3)), (0, .ref o), (1, .int x1_1), (2, .int x2_2), (3, .int x3_3), (4, .int x4_4)]) hx hb dX2_lower_24 hl (by decide) rfl (fun ls hl => ?_)
        refine lv_iconst (v := 0) hx hb dX2_lower_26 (by decide) ?_
        refine lv_istore (lv' := [(6, .int 0), (5, .int ((s_5 (Int32.toNatClampNeg ((x4_4 * 8) + x1_1))) + x3_3)), (0, .ref o), (1, .int x1_1), (2, .int x2_2), (3, .int x3_3), (4, .int x4_4)]) hx hb dX2_lower_27 hl (by decide) rfl (fun ls hl => ?_)
        obtain ⟨n, hw⟩ := hw
        refine L29 x1_1 x2_2 x3_3 x4_4 ((s_5 (Int32.toNatClampNeg ((x4_4 * 8) + x1_1))) + x3_3) _ (fun x6_16 s_17 H locs ls hw hC hl => ?_) n 0 s_5 _ _ _ hw hC (lv_sub hl [2, 3, 4, 5, 6, 1, 0] rfl)
        refine lv_iinc (v := (x4_4 + 1)) (lv' := [(4, .int (x4_4 + 1)), (0, .ref o), (1, .int x1_1), (2, .int x2_2), (3, .int x3_3), (5, .int ((s_5 (Int32.toNatClampNeg ((x4_4 * 8) + x1_1))) + x3_3)), (6, .int x6_16)]) hx hb dX2_lower_92 hl (k := 4) rfl rfl (by decide) rfl (fun ls hl => ?_)
        refine lv_goto (tgt := 3) hx hb dX2_lower_95 (by decide) ?_
        exact ih (x4_4 + 1) s_17 _ _ _ hw hC (lv_sub hl [1, 2, 3, 4, 0] rfl)
  refine lv_iconst (v := 0) hx hb dX2_lower_0 (by decide) ?_
  refine lv_istore (lv' := [(4, .int 0), (0, .ref o), (1, .int x1), (2, .int x2), (3, .int x3)]) hx hb dX2_lower_1 hl (by decide) rfl (fun ls hl => ?_)
  obtain ⟨n, hw⟩ := hw
  refine L3 x1 x2 x3 _ (fun x4_19 s_20 H locs ls hw hC hl => ?_) n 0 f _ _ _ hw hC (lv_sub hl [1, 2, 3, 4, 0] rfl)
  exact cx_ret_v (u := s_20) hx hb hr hlocks hK hC hw dX2_lower_98

/-! PictureHeap$Offsets.tighten(IIII)V (X2_tighten) -/
set_option maxHeartbeats 1000000 in
set_option maxRecDepth 100000 in
theorem c_X2_tighten (l : Launch) (D : va_G) (cI : ClassId) (o : Nat) (a : Nat) (sz : Nat) (f : (Nat → Int32)) (x1 : Int32) (x2 : Int32) (x3 : Int32) (x4 : Int32) (post : (Nat → Int32) → Prop) (hw : w_X2_tighten f x1 x2 x3 x4 post) : Cv l yX2_tighten wsX2_tighten 1 27 D cI (wO cI o a f) sz [.ref o, .int x1, .int x2, .int x3, .int x4] (wO cI o a) post := by
  refine mo_v (cc := cX2_tighten) (maxL := 5) (ret := none) (by decide) rfl (Nat.le_of_ble_eq_true rfl) ?_
  intro p e s m below meth c hx hb hr hml hts hown hlocks hK A hA hC ls hl
  have hown : s.vm.findClass RX2 = some m.cls := hown
  have hl : lv_has ls 5 [(0, .ref o), (1, .int x1), (2, .int x2), (3, .int x3), (4, .int x4)] := hl
  refine lv_aload_n hx hb dX2_tighten_0 rfl (lv_at hl 0 rfl) ?_
  refine lv_iload_n hx hb dX2_tighten_1 rfl (lv_at hl 1 rfl) ?_
  refine lv_iload_n hx hb dX2_tighten_2 rfl (lv_at hl 2 rfl) ?_
  refine lv_iload hx hb dX2_tighten_3 (lv_at hl 4 rfl) ?_
  refine cx_callVv0 (As := [.int x1, .int x2, .int x4]) (rest := []) ⟨hx, hb, hml, hown, hts⟩ (c_X2_lower l D cI o a _ f x1 x2 x4 _ hw) (cwV 3 hts gX2_tighten_X2_lower rfl rfl rfl (by decide +kernel) ⟨Nat.le_of_ble_eq_true rfl, Nat.le_of_ble_eq_true rfl⟩) hK hC hA 0 rfl rfl rfl rfl hl.1 rfl (Nat.le_of_ble_eq_true rfl) dX2_tighten_5 ⟨Nat.zero_le _, Nat.zero_le _⟩ (fun u_2 H locs hw hC => ?_)
  refine lv_aload_n hx hb dX2_tighten_8 rfl (lv_at hl 0 rfl) ?_
  refine lv_iload_n hx hb dX2_tighten_9 rfl (lv_at hl 2 rfl) ?_
  refine lv_iload_n hx hb dX2_tighten_10 rfl (lv_at hl 1 rfl) ?_
  refine lv_iload_n hx hb dX2_tighten_11 rfl (lv_at hl 3 rfl) ?_
  refine lv_ineg hx hb dX2_tighten_12 ?_
  refine cx_callVv0 (As := [.int x2, .int x1, .int (-x3)]) (rest := []) ⟨hx, hb, hml, hown, hts⟩ (c_X2_lower l D cI o a _ u_2 x2 x1 (-x3) _ hw) (cwV 3 hts gX2_tighten_X2_lower rfl rfl rfl (by decide +kernel) ⟨Nat.le_of_ble_eq_true rfl, Nat.le_of_ble_eq_true rfl⟩) hK hC hA 0 rfl rfl rfl rfl hl.1 rfl (Nat.le_of_ble_eq_true rfl) dX2_tighten_13 ⟨Nat.zero_le _, Nat.zero_le _⟩ (fun u_4 H locs hw hC => ?_)
  exact cx_ret_v (u := u_4) hx hb hr hlocks hK hC hw dX2_tighten_16

/-! java/util/Arrays.fill([II)V (J7_fill_53178) -/
set_option maxHeartbeats 1000000 in
set_option maxRecDepth 100000 in
theorem c_J7_fill_53178 (l : Launch) (D : va_G) (cI : ClassId) (a : Nat) (sz : Nat) (f : (Nat → Int32)) (x1 : Int32) (post : (Nat → Int32) → Prop) (hw : w_J7_fill_53178 f x1 post) : Cv l yJ7_fill_53178 wsJ7_fill_53178 0 0 D cI (wA cI 8 a f) sz [.ref a, .int x1] (wA cI 8 a) post := by
  refine mo_v (cc := cJ7_fill_53178) (maxL := 4) (ret := none) (by decide) rfl (Nat.le_of_ble_eq_true rfl) ?_
  intro p e s m below meth c hx hb hr hml hts hown hlocks hK A hA hC ls hl
  have hown : s.vm.findClass RJ7 = some m.cls := hown
  have hl : lv_has ls 4 [(0, .ref a), (1, .int x1)] := hl
  have L5 : ∀ (x1_1 : Int32) (x3_2 : Int32) (K : Int32 → (Nat → Int32) → Prop) (hKK : ∀ (x2_3 : Int32) (s_4 : (Nat → Int32)) (H : Heap) (locs : List Loc) (ls : Array Slot), K x2_3 s_4 → Cx D A s.heap (wA cI 8 a s_4) H locs → lv_has ls 4 [(0, .ref a), (1, .int x1_1), (2, .int x2_3), (3, .int x3_2)] → W p l e (Rm 0 0) s m [.ref a, .int x1].toArray below meth c H locs 0 0 (QV below D cI A (wA cI 8 a) post [.ref a, .int x1].toArray s) (F0 m 20 ls [])) (n : Nat), ∀ (x2_3 : Int32) (s_4 : (Nat → Int32)) (H : Heap) (locs : List Loc) (ls : Array Slot), w_J7_fill_53178_L5 x1_1 x3_2 post K n x2_3 s_4 → Cx D A s.heap (wA cI 8 a s_4) H locs → lv_has ls 4 [(0, .ref a), (1, .int x1_1), (2, .int x2_3), (3, .int x3_2)] → W p l e (Rm 0 0) s m [.ref a, .int x1].toArray below meth c H locs 0 0 (QV below D cI A (wA cI 8 a) post [.ref a, .int x1].toArray s) (F0 m 5 ls []) := by
    intro x1_1 x3_2 K hKK n
    induction n with
    | zero => intro x2_3 s_4 H locs ls hw; exact hw.elim
    | succ n ih =>
      intro x2_3 s_4 H locs ls hw hC hl
      refine lv_iload_n hx hb dJ7_fill_53178_5 rfl (lv_at hl 2 rfl) ?_
      refine lv_iload_n hx hb dJ7_fill_53178_6 rfl (lv_at hl 3 rfl) ?_
      refine lv_icmp_ge (tgt := 20) hx hb dJ7_fill_53178_7 (by decide) (fun c_5 => ?_) (fun c_5 => ?_)
      · have hw := hw.1 c_5
        exact hKK x2_3 s_4 _ _ _ hw hC (lv_sub hl [0, 1, 2, 3] rfl)
      · have hw := hw.2 c_5
        refine lv_aload_n hx hb dJ7_fill_53178_10 rfl (lv_at hl 0 rfl) ?_
        refine lv_iload_n hx hb dJ7_fill_53178_11 rfl (lv_at hl 2 rfl) ?_
        refine lv_iload_n hx hb dJ7_fill_53178_12 rfl (lv_at hl 1 rfl) ?_
        refine cx_iast (f := s_4) hx hb hK hC 0 rfl hw.1 dJ7_fill_53178_13 (ws' := (wA cI 8 a (upd (s_4) (Int32.toNatClampNeg x2_3) x1_1))) rfl (fun H locs hC => ?_)
        have hw := hw.2
        refine lv_iinc (v := (x2_3 + 1)) (lv' := [(2, .int (x2_3 + 1)), (0, .ref a), (1, .int x1_1), (3, .int x3_2)]) hx hb dJ7_fill_53178_14 hl (k := 2) rfl rfl (by decide) rfl (fun ls hl => ?_)
        refine lv_goto (tgt := 5) hx hb dJ7_fill_53178_17 (by decide) ?_
        exact ih (x2_3 + 1) (upd (s_4) (Int32.toNatClampNeg x2_3) x1_1) _ _ _ hw hC (lv_sub hl [1, 2, 0, 3] rfl)
  refine lv_iconst (v := 0) hx hb dJ7_fill_53178_0 (by decide) ?_
  refine lv_istore_n (lv' := [(2, .int 0), (0, .ref a), (1, .int x1)]) hx hb dJ7_fill_53178_1 rfl hl (by decide) rfl (fun ls hl => ?_)
  refine lv_aload_n hx hb dJ7_fill_53178_2 rfl (lv_at hl 1 rfl) ?_
  refine cx_alen (v := 8) hx hb hK hC 0 rfl (by decide) dJ7_fill_53178_3 ?_
  refine lv_istore_n (lv' := [(3, .int 8), (2, .int 0), (0, .ref a), (1, .int x1)]) hx hb dJ7_fill_53178_4 rfl hl (by decide) rfl (fun ls hl => ?_)
  obtain ⟨n, hw⟩ := hw
  refine L5 x1 8 _ (fun x2_6 s_7 H locs ls hw hC hl => ?_) n 0 f _ _ _ hw hC (lv_sub hl [2, 3, 1, 0] rfl)
  exact cx_ret_v (u := s_7) hx hb hr hlocks hK hC hw dJ7_fill_53178_20

/-! PictureHeap$Ties.reachByBounds([I)V (X3_reachByBounds) -/
set_option maxHeartbeats 1000000 in
set_option maxRecDepth 100000 in
theorem c_X3_reachByBounds (l : Launch) (D : va_G) (cI : ClassId) (a : Nat) (sz : Nat) (f : (Nat → Int32)) (post : (Nat → Int32) → Prop) (hw : w_X3_reachByBounds f post) : Cv l yX3_reachByBounds wsX3_reachByBounds 1 21 D cI (wA cI 8 a f) sz [.ref a] (wA cI 8 a) post := by
  refine mo_v (cc := cX3_reachByBounds) (maxL := 2) (ret := none) (by decide) rfl (Nat.le_of_ble_eq_true rfl) ?_
  intro p e s m below meth c hx hb hr hml hts hown hlocks hK A hA hC ls hl
  have hown : s.vm.findClass RX3 = some m.cls := hown
  have hl : lv_has ls 2 [(0, .ref a)] := hl
  have u1 : (Cond.constant RX3 95 (200000)).before [.ref a].toArray s = true := hts _ (List.mem_of_getElem? (i := 1) rfl)
  have u2 : (Cond.methodLink RX3 69 Lib.Math.min.name).before [.ref a].toArray s = true := hts _ (List.mem_of_getElem? (i := 2) rfl)
  have u3 : (Cond.static Lib.Math.min.name).before [.ref a].toArray s = true := hts _ (List.mem_of_getElem? (i := 3) rfl)
  have u4 : (Cond.initialized "java/lang/Math").before [.ref a].toArray s = true := hts _ (List.mem_of_getElem? (i := 4) rfl)
  have u5 : (Cond.code Lib.Math.min.name Lib.Math.min.code 2 (some .int)).before [.ref a].toArray s = true := hts _ (List.mem_of_getElem? (i := 5) rfl)
  have L2 : ∀ (K : Int32 → (Nat → Int32) → Prop) (hKK : ∀ (x1_1 : Int32) (s_2 : (Nat → Int32)) (H : Heap) (locs : List Loc) (ls : Array Slot), K x1_1 s_2 → Cx D A s.heap (wA cI 8 a s_2) H locs → lv_has ls 2 [(0, .ref a), (1, .int x1_1)] → W p l e (Rm 1 21) s m [.ref a].toArray below meth c H locs 0 0 (QV below D cI A (wA cI 8 a) post [.ref a].toArray s) (F0 m 29 ls [])) (n : Nat), ∀ (x1_1 : Int32) (s_2 : (Nat → Int32)) (H : Heap) (locs : List Loc) (ls : Array Slot), w_X3_reachByBounds_L2 post K n x1_1 s_2 → Cx D A s.heap (wA cI 8 a s_2) H locs → lv_has ls 2 [(0, .ref a), (1, .int x1_1)] → W p l e (Rm 1 21) s m [.ref a].toArray below meth c H locs 0 0 (QV below D cI A (wA cI 8 a) post [.ref a].toArray s) (F0 m 2 ls []) := by
    intro  K hKK n
    induction n with
    | zero => intro x1_1 s_2 H locs ls hw; exact hw.elim
    | succ n ih =>
      intro x1_1 s_2 H locs ls hw hC hl
      refine lv_iload_n hx hb dX3_reachByBounds_2 rfl (lv_at hl 1 rfl) ?_
      refine lv_bipush (v := 8) hx hb dX3_reachByBounds_3 (by decide) ?_
      refine lv_icmp_ge (tgt := 29) hx hb dX3_reachByBounds_5 (by decide) (fun c_3 => ?_) (fun c_3 => ?_)
      · have hw := hw.1 c_3
        exact hKK x1_1 s_2 _ _ _ hw hC (lv_sub hl [0, 1] rfl)
      · have hw := hw.2 c_3
        refine lv_aload_n hx hb dX3_reachByBounds_8 rfl (lv_at hl 0 rfl) ?_
        refine lv_iconst (v := 0) hx hb dX3_reachByBounds_9 (by decide) ?_
        refine lv_aload_n hx hb dX3_reachByBounds_10 rfl (lv_at hl 0 rfl) ?_
        refine lv_iconst (v := 0) hx hb dX3_reachByBounds_11 (by decide) ?_
        refine cx_iald (f := s_2) hx hb hK hC 0 rfl hw.1 dX3_reachByBounds_12 ?_
        have hw := hw.2
        refine lv_aload_n hx hb dX3_reachByBounds_13 rfl (lv_at hl 0 rfl) ?_
        refine lv_iload_n hx hb dX3_reachByBounds_14 rfl (lv_at hl 1 rfl) ?_
        refine cx_iald (f := s_2) hx hb hK hC 0 rfl hw.1 dX3_reachByBounds_15 ?_
        have hw := hw.2
        refine lv_ldc (v := 200000) hx hb hown u1 dX3_reachByBounds_16 ?_
        refine lv_iadd hx hb dX3_reachByBounds_18 ?_
        refine va_mmin hx hb (hml.trans hl.1.symm) hown u2 u3 u4 u5 (Nat.le_of_ble_eq_true rfl) (Nat.le_of_ble_eq_true rfl) (Nat.le_refl 0) (Nat.le_refl 0) dX3_reachByBounds_19 ?_
        refine cx_iast (f := s_2) hx hb hK hC 0 rfl hw.1 dX3_reachByBounds_22 (ws' := (wA cI 8 a (upd (s_2) (Int32.toNatClampNeg 0) (if ((s_2 (Int32.toNatClampNeg x1_1)) + 200000) < (s_2 (Int32.toNatClampNeg 0)) then ((s_2 (Int32.toNatClampNeg x1_1)) + 200000) else (s_2 (Int32.toNatClampNeg 0)))))) rfl (fun H locs hC => ?_)
        have hw := hw.2
        refine lv_iinc (v := (x1_1 + 1)) (lv' := [(1, .int (x1_1 + 1)), (0, .ref a)]) hx hb dX3_reachByBounds_23 hl (k := 1) rfl rfl (by decide) rfl (fun ls hl => ?_)
        refine lv_goto (tgt := 2) hx hb dX3_reachByBounds_26 (by decide) ?_
        exact ih (x1_1 + 1) (upd (s_2) (Int32.toNatClampNeg 0) (if ((s_2 (Int32.toNatClampNeg x1_1)) + 200000) < (s_2 (Int32.toNatClampNeg 0)) then ((s_2 (Int32.toNatClampNeg x1_1)) + 200000) else (s_2 (Int32.toNatClampNeg 0)))) _ _ _ hw hC (lv_sub hl [1, 0] rfl)
  have L31 : ∀ (K : Int32 → (Nat → Int32) → Prop) (hKK : ∀ (x1_6 : Int32) (s_7 : (Nat → Int32)) (H : Heap) (locs : List Loc) (ls : Array Slot), K x1_6 s_7 → Cx D A s.heap (wA cI 8 a s_7) H locs → lv_has ls 2 [(0, .ref a), (1, .int x1_6)] → W p l e (Rm 1 21) s m [.ref a].toArray below meth c H locs 0 0 (QV below D cI A (wA cI 8 a) post [.ref a].toArray s) (F0 m 58 ls [])) (n : Nat), ∀ (x1_6 : Int32) (s_7 : (Nat → Int32)) (H : Heap) (locs : List Loc) (ls : Array Slot), w_X3_reachByBounds_L31 post K n x1_6 s_7 → Cx D A s.heap (wA cI 8 a s_7) H locs → lv_has ls 2 [(0, .ref a), (1, .int x1_6)] → W p l e (Rm 1 21) s m [.ref a].toArray below meth c H locs 0 0 (QV below D cI A (wA cI 8 a) post [.ref a].toArray s) (F0 m 31 ls []) := by
    intro  K hKK n
    induction n with
    | zero => intro x1_6 s_7 H locs ls hw; exact hw.elim
    | succ n ih =>
      intro x1_6 s_7 H locs ls hw hC hl
      refine lv_iload_n hx hb dX3_reachByBounds_31 rfl (lv_at hl 1 rfl) ?_
      refine lv_bipush (v := 8) hx hb dX3_reachByBounds_32 (by decide) ?_
      refine lv_icmp_ge (tgt := 58) hx hb dX3_reachByBounds_34 (by decide) (fun c_8 => ?_) (fun c_8 => ?_)
      · have hw := hw.1 c_8
        exact hKK x1_6 s_7 _ _ _ hw hC (lv_sub hl [0, 1] rfl)
      · have hw := hw.2 c_8
        refine lv_aload_n hx hb dX3_reachByBounds_37 rfl (lv_at hl 0 rfl) ?_
        refine lv_iload_n hx hb dX3_reachByBounds_38 rfl (lv_at hl 1 rfl) ?_
        refine lv_aload_n hx hb dX3_reachByBounds_39 rfl (lv_at hl 0 rfl) ?_
        refine lv_iload_n hx hb dX3_reachByBounds_40 rfl (lv_at hl 1 rfl) ?_
        refine cx_iald (f := s_7) hx hb hK hC 0 rfl hw.1 dX3_reachByBounds_41 ?_
        have hw := hw.2
        refine lv_aload_n hx hb dX3_reachByBounds_42 rfl (lv_at hl 0 rfl) ?_
        refine lv_iconst (v := 0) hx hb dX3_reachByBounds_43 (by decide) ?_
        refine cx_iald (f := s_7) hx hb hK hC 0 rfl hw.1 dX3_reachByBounds_44 ?_
        have hw := hw.2
        refine lv_ldc (v := 200000) hx hb hown u1 dX3_reachByBounds_45 ?_
        refine lv_iadd hx hb dX3_reachByBounds_47 ?_
        refine va_mmin hx hb (hml.trans hl.1.symm) hown u2 u3 u4 u5 (Nat.le_of_ble_eq_true rfl) (Nat.le_of_ble_eq_true rfl) (Nat.le_refl 0) (Nat.le_refl 0) dX3_reachByBounds_48 ?_
        refine cx_iast (f := s_7) hx hb hK hC 0 rfl hw.1 dX3_reachByBounds_51 (ws' := (wA cI 8 a (upd (s_7) (Int32.toNatClampNeg x1_6) (if ((s_7 (Int32.toNatClampNeg 0)) + 200000) < (s_7 (Int32.toNatClampNeg x1_6)) then ((s_7 (Int32.toNatClampNeg 0)) + 200000) else (s_7 (Int32.toNatClampNeg x1_6)))))) rfl (fun H locs hC => ?_)
        have hw := hw.2
        refine lv_iinc (v := (x1_6 + 1)) (lv' := [(1, .int (x1_6 + 1)), (0, .ref a)]) hx hb dX3_reachByBounds_52 hl (k := 1) rfl rfl (by decide) rfl (fun ls hl => ?_)
        refine lv_goto (tgt := 31) hx hb dX3_reachByBounds_55 (by decide) ?_
        exact ih (x1_6 + 1) (upd (s_7) (Int32.toNatClampNeg x1_6) (if ((s_7 (Int32.toNatClampNeg 0)) + 200000) < (s_7 (Int32.toNatClampNeg x1_6)) then ((s_7 (Int32.toNatClampNeg 0)) + 200000) else (s_7 (Int32.toNatClampNeg x1_6)))) _ _ _ hw hC (lv_sub hl [1, 0] rfl)
  refine lv_iconst (v := 1) hx hb dX3_reachByBounds_0 (by decide) ?_
  refine lv_istore_n (lv' := [(1, .int 1), (0, .ref a)]) hx hb dX3_reachByBounds_1 rfl hl (by decide) rfl (fun ls hl => ?_)
  obtain ⟨n, hw⟩ := hw
  refine L2  _ (fun x1_4 s_5 H locs ls hw hC hl => ?_) n 1 f _ _ _ hw hC (lv_sub hl [1, 0] rfl)
  refine lv_iconst (v := 1) hx hb dX3_reachByBounds_29 (by decide) ?_
  refine lv_istore_n (lv' := [(1, .int 1), (0, .ref a)]) hx hb dX3_reachByBounds_30 rfl hl (by decide) rfl (fun ls hl => ?_)
  obtain ⟨n, hw⟩ := hw
  refine L31  _ (fun x1_9 s_10 H locs ls hw hC hl => ?_) n 1 s_5 _ _ _ hw hC (lv_sub hl [1, 0] rfl)
  exact cx_ret_v (u := s_10) hx hb hr hlocks hK hC hw dX3_reachByBounds_58

/-! PictureHeap.isOffset(I)Z (X5_isOffset) -/
set_option maxHeartbeats 1000000 in
set_option maxRecDepth 100000 in
theorem c_X5_isOffset (l : Launch) (D : va_G) (cI : ClassId) (sz : Nat) (x0 : Int32) (post : Int32 → Unit → Prop) (hw : w_X5_isOffset x0 post) : Ci l yX5_isOffset wsX5_isOffset 1 22 D cI [] sz [.int x0] (fun _ : Unit => ([] : va_W)) post := by
  refine mo_i (cc := cX5_isOffset) (maxL := 1) (ret := (some .boolean)) (by decide) rfl (Nat.le_of_ble_eq_true rfl) ?_
  intro p e s m below meth c hx hb hr hml hts hown hlocks hK A hA hC ls hl
  have hown : s.vm.findClass RX5 = some m.cls := hown
  have hl : lv_has ls 1 [(0, .int x0)] := hl
  have u1 : (Cond.constant RX5 203 (-200000)).before [.int x0].toArray s = true := hts _ (List.mem_of_getElem? (i := 1) rfl)
  have u2 : (Cond.constant RX5 204 (200000)).before [.int x0].toArray s = true := hts _ (List.mem_of_getElem? (i := 2) rfl)
  refine lv_iload_n hx hb dX5_isOffset_0 rfl (lv_at hl 0 rfl) ?_
  refine lv_ldc (v := (-200000)) hx hb hown u1 dX5_isOffset_1 ?_
  refine lv_ldc (v := 200000) hx hb hown u2 dX5_isOffset_3 ?_
  refine cx_callSiE (As := [.int x0, .int (-200000), .int 200000]) (rest := []) ⟨hx, hb, hml, hown, hts⟩ (c_X5_within l D cI _ x0 (-200000) 200000 _ hw) (va_cwS 3 hts gX5_isOffset_X5_within rfl rfl rfl (by decide +kernel) ⟨Nat.le_of_ble_eq_true rfl, Nat.le_of_ble_eq_true rfl⟩) hK hC hA rfl hl.1 rfl (Nat.le_of_ble_eq_true rfl) dX5_isOffset_5 ⟨Nat.zero_le _, Nat.zero_le _⟩ (fun r_1 H locs hw hC => ?_)
  exact cx_ret_z (u := ()) hx hb hr hlocks hK hC hw.1 hw.2 dX5_isOffset_8

/-! PictureHeap$Offsets.loosen()V (X2_loosen) -/
set_option maxHeartbeats 1000000 in
set_option maxRecDepth 100000 in
theorem c_X2_loosen (l : Launch) (D : va_G) (cI : ClassId) (o : Nat) (a : Nat) (sz : Nat) (f : (Nat → Int32)) (post : (Nat → Int32) → Prop) (hw : w_X2_loosen f post) : Cv l yX2_loosen wsX2_loosen 0 0 D cI (wO cI o a f) sz [.ref o] (wO cI o a) post := by
  refine mo_v (cc := cX2_loosen) (maxL := 4) (ret := none) (by decide) rfl (Nat.le_of_ble_eq_true rfl) ?_
  intro p e s m below meth c hx hb hr hml hts hown hlocks hK A hA hC ls hl
  have hown : s.vm.findClass RX2 = some m.cls := hown
  have hl : lv_has ls 4 [(0, .ref o)] := hl
  have u1 : (Cond.fieldLink RX2 9 "PictureHeap$Offsets" "limit" "[I").before [.ref o].toArray s = true := hts _ (List.mem_of_getElem? (i := 1) rfl)
  have u2 : (Cond.constant RX2 18 (200000)).before [.ref o].toArray s = true := hts _ (List.mem_of_getElem? (i := 2) rfl)
  have iX2 : ∀ w ∈ wsX20, w ∈ wsX2_loosen := fun _ h => List.mem_cons_of_mem _ (List.mem_append_right _ h)
  have J38 : ∀ (x1_13 : Int32) (x2_14 : Int32) (z_16 : Int32) (s_15 : (Nat → Int32)) (K10 : Int32 → (Nat → Int32) → Prop) (hK10 : ∀ (x2 : Int32) (u : (Nat → Int32)) (H : Heap) (locs : List Loc) (ls : Array Slot), K10 x2 u → Cx D A s.heap (wO cI o a u) H locs → lv_has ls 4 [(0, .ref o), (1, .int x1_13), (2, .int x2)] → W p l e (Rm 0 0) s m [.ref o].toArray below meth c H locs 0 0 (QV below D cI A (wO cI o a) post [.ref o].toArray s) (F0 m 10 ls [])) (H : Heap) (locs : List Loc) (ls : Array Slot), w_X2_loosen_J38 post K10 x1_13 x2_14 z_16 s_15 → Cx D A s.heap (wO cI o a s_15) H locs → lv_has ls 4 [(0, .ref o), (1, .int x1_13), (2, .int x2_14)] → W p l e (Rm 0 0) s m [.ref o].toArray below meth c H locs 0 0 (QV below D cI A (wO cI o a) post [.ref o].toArray s) (F0 m 38 ls [.int z_16]) := by
    intro x1_13 x2_14 z_16 s_15 K10 hK10 H locs ls hw hC hl
    refine lv_istore_n (lv' := [(3, .int z_16), (0, .ref o), (1, .int x1_13), (2, .int x2_14)]) hx hb dX2_loosen_38 rfl hl (by decide) rfl (fun ls hl => ?_)
    refine lv_aload_n hx hb dX2_loosen_39 rfl (lv_at hl 1 rfl) ?_
    refine cx_get (v := .ref a) hx hb hts iX2 hown hK hC 0 rfl rfl 0 (by decide) u1 rfl rfl dX2_loosen_40 ?_
    refine lv_iload_n hx hb dX2_loosen_43 rfl (lv_at hl 2 rfl) ?_
    refine lv_bipush (v := 8) hx hb dX2_loosen_44 (by decide) ?_
    refine lv_imul hx hb dX2_loosen_46 ?_
    refine lv_iload_n hx hb dX2_loosen_47 rfl (lv_at hl 3 rfl) ?_
    refine lv_iadd hx hb dX2_loosen_48 ?_
    refine lv_iload_n hx hb dX2_loosen_49 rfl (lv_at hl 0 rfl) ?_
    refine lv_ldc (v := 200000) hx hb hown u2 dX2_loosen_50 ?_
    refine lv_imul hx hb dX2_loosen_52 ?_
    refine cx_iast (f := s_15) hx hb hK hC 1 rfl hw.1 dX2_loosen_53 (ws' := (wO cI o a (upd (s_15) (Int32.toNatClampNeg ((x1_13 * 8) + x2_14)) (z_16 * 200000)))) rfl (fun H locs hC => ?_)
    have hw := hw.2
    refine lv_iinc (v := (x2_14 + 1)) (lv' := [(2, .int (x2_14 + 1)), (3, .int z_16), (0, .ref o), (1, .int x1_13)]) hx hb dX2_loosen_54 hl (k := 3) rfl rfl (by decide) rfl (fun ls hl => ?_)
    refine lv_goto (tgt := 10) hx hb dX2_loosen_57 (by decide) ?_
    exact hK10 (x2_14 + 1) (upd (s_15) (Int32.toNatClampNeg ((x1_13 * 8) + x2_14)) (z_16 * 200000)) _ _ _ hw hC (lv_sub hl [2, 3, 0] rfl)
  have J33 : ∀ (x1_10 : Int32) (x2_11 : Int32) (s_12 : (Nat → Int32)) (K10 : Int32 → (Nat → Int32) → Prop) (hK10 : ∀ (x2 : Int32) (u : (Nat → Int32)) (H : Heap) (locs : List Loc) (ls : Array Slot), K10 x2 u → Cx D A s.heap (wO cI o a u) H locs → lv_has ls 4 [(0, .ref o), (1, .int x1_10), (2, .int x2)] → W p l e (Rm 0 0) s m [.ref o].toArray below meth c H locs 0 0 (QV below D cI A (wO cI o a) post [.ref o].toArray s) (F0 m 10 ls [])) (H : Heap) (locs : List Loc) (ls : Array Slot), w_X2_loosen_J33 post K10 x1_10 x2_11 s_12 → Cx D A s.heap (wO cI o a s_12) H locs → lv_has ls 4 [(0, .ref o), (1, .int x1_10), (2, .int x2_11)] → W p l e (Rm 0 0) s m [.ref o].toArray below meth c H locs 0 0 (QV below D cI A (wO cI o a) post [.ref o].toArray s) (F0 m 33 ls []) := by
    intro x1_10 x2_11 s_12 K10 hK10 H locs ls hw hC hl
    refine lv_iconst (v := 1) hx hb dX2_loosen_33 (by decide) ?_
    refine lv_goto (tgt := 38) hx hb dX2_loosen_34 (by decide) ?_
    exact J38 x1_10 x2_11 1 s_12 _ (fun x2_17 u_18 H locs ls hw hC hl => by exact hK10 x2_17 u_18 _ _ _ hw hC (lv_sub hl [0, 1, 2] rfl)) _ _ _ hw hC (lv_sub hl [0, 1, 2] rfl)
  have L10 : ∀ (x1_4 : Int32) (K : Int32 → (Nat → Int32) → Prop) (hKK : ∀ (x2_5 : Int32) (s_6 : (Nat → Int32)) (H : Heap) (locs : List Loc) (ls : Array Slot), K x2_5 s_6 → Cx D A s.heap (wO cI o a s_6) H locs → lv_has ls 4 [(0, .ref o), (1, .int x1_4), (2, .int x2_5)] → W p l e (Rm 0 0) s m [.ref o].toArray below meth c H locs 0 0 (QV below D cI A (wO cI o a) post [.ref o].toArray s) (F0 m 60 ls [])) (n : Nat), ∀ (x2_5 : Int32) (s_6 : (Nat → Int32)) (H : Heap) (locs : List Loc) (ls : Array Slot), w_X2_loosen_L10 x1_4 post K n x2_5 s_6 → Cx D A s.heap (wO cI o a s_6) H locs → lv_has ls 4 [(0, .ref o), (1, .int x1_4), (2, .int x2_5)] → W p l e (Rm 0 0) s m [.ref o].toArray below meth c H locs 0 0 (QV below D cI A (wO cI o a) post [.ref o].toArray s) (F0 m 10 ls []) := by
    intro x1_4 K hKK n
    induction n with
    | zero => intro x2_5 s_6 H locs ls hw; exact hw.elim
    | succ n ih =>
      intro x2_5 s_6 H locs ls hw hC hl
      refine lv_iload_n hx hb dX2_loosen_10 rfl (lv_at hl 2 rfl) ?_
      refine lv_bipush (v := 8) hx hb dX2_loosen_11 (by decide) ?_
      refine lv_icmp_ge (tgt := 60) hx hb dX2_loosen_13 (by decide) (fun c_7 => ?_) (fun c_7 => ?_)
      · have hw := hw.1 c_7
        exact hKK x2_5 s_6 _ _ _ hw hC (lv_sub hl [0, 1, 2] rfl)
      · have hw := hw.2 c_7
        refine lv_iload_n hx hb dX2_loosen_16 rfl (lv_at hl 1 rfl) ?_
        refine lv_iload_n hx hb dX2_loosen_17 rfl (lv_at hl 2 rfl) ?_
        refine lv_icmp_ne (tgt := 25) hx hb dX2_loosen_18 (by decide) (fun c_8 => ?_) (fun c_8 => ?_)
        · have hw := hw.1 c_8
          refine lv_iload_n hx hb dX2_loosen_25 rfl (lv_at hl 1 rfl) ?_
          refine lv_if_eq (tgt := 33) hx hb dX2_loosen_26 (by decide) (fun c_9 => ?_) (fun c_9 => ?_)
          · have hw := hw.1 c_9
            exact J33 x1_4 x2_5 s_6 _ (fun x2_19 u_20 H locs ls hw hC hl => by exact ih x2_19 u_20 _ _ _ hw hC (lv_sub hl [0, 1, 2] rfl)) _ _ _ hw hC (lv_sub hl [0, 1, 2] rfl)
          · have hw := hw.2 c_9
            refine lv_iload_n hx hb dX2_loosen_29 rfl (lv_at hl 2 rfl) ?_
            refine lv_if_ne (tgt := 37) hx hb dX2_loosen_30 (by decide) (fun c_21 => ?_) (fun c_21 => ?_)
            · have hw := hw.1 c_21
              refine lv_iconst (v := 2) hx hb dX2_loosen_37 (by decide) ?_
              exact J38 x1_4 x2_5 2 s_6 _ (fun x2_22 u_23 H locs ls hw hC hl => by exact ih x2_22 u_23 _ _ _ hw hC (lv_sub hl [0, 1, 2] rfl)) _ _ _ hw hC (lv_sub hl [0, 1, 2] rfl)
            · have hw := hw.2 c_21
              exact J33 x1_4 x2_5 s_6 _ (fun x2_24 u_25 H locs ls hw hC hl => by exact ih x2_24 u_25 _ _ _ hw hC (lv_sub hl [0, 1, 2] rfl)) _ _ _ hw hC (lv_sub hl [0, 1, 2] rfl)
        · have hw := hw.2 c_8
          refine lv_iconst (v := 0) hx hb dX2_loosen_21 (by decide) ?_
          refine lv_goto (tgt := 38) hx hb dX2_loosen_22 (by decide) ?_
          exact J38 x1_4 x2_5 0 s_6 _ (fun x2_26 u_27 H locs ls hw hC hl => by exact ih x2_26 u_27 _ _ _ hw hC (lv_sub hl [0, 1, 2] rfl)) _ _ _ hw hC (lv_sub hl [0, 1, 2] rfl)
  have L2 : ∀ (K : Int32 → (Nat → Int32) → Prop) (hKK : ∀ (x1_1 : Int32) (s_2 : (Nat → Int32)) (H : Heap) (locs : List Loc) (ls : Array Slot), K x1_1 s_2 → Cx D A s.heap (wO cI o a s_2) H locs → lv_has ls 4 [(0, .ref o), (1, .int x1_1)] → W p l e (Rm 0 0) s m [.ref o].toArray below meth c H locs 0 0 (QV below D cI A (wO cI o a) post [.ref o].toArray s) (F0 m 66 ls [])) (n : Nat), ∀ (x1_1 : Int32) (s_2 : (Nat → Int32)) (H : Heap) (locs : List Loc) (ls : Array Slot), w_X2_loosen_L2 post K n x1_1 s_2 → Cx D A s.heap (wO cI o a s_2) H locs → lv_has ls 4 [(0, .ref o), (1, .int x1_1)] → W p l e (Rm 0 0) s m [.ref o].toArray below meth c H locs 0 0 (QV below D cI A (wO cI o a) post [.ref o].toArray s) (F0 m 2 ls []) := by
    intro  K hKK n
    induction n with
    | zero => intro x1_1 s_2 H locs ls hw; exact hw.elim
    | succ n ih =>
      intro x1_1 s_2 H locs ls hw hC hl
      refine lv_iload_n hx hb dX2_loosen_2 rfl (lv_at hl 1 rfl) ?_
      refine lv_bipush (v := 8) hx hb dX2_loosen_3 (by decide) ?_
      refine lv_icmp_ge (tgt := 66) hx hb dX2_loosen_5 (by decide) (fun c_3 => ?_) (fun c_3 => ?_)
      · have hw := hw.1 c_3
        exact hKK x1_1 s_2 _ _ _ hw hC (lv_sub hl [0, 1] rfl)
      · have hw := hw.2 c_3
        refine lv_iconst (v := 0) hx hb dX2_loosen_8 (by decide) ?_
        refine lv_istore_n (lv' := [(2, .int 0), (0, .ref o), (1, .int x1_1)]) hx hb dX2_loosen_9 rfl hl (by decide) rfl (fun ls hl => ?_)
        obtain ⟨n, hw⟩ := hw
        refine L10 x1_1 _ (fun x2_28 s_29 H locs ls hw hC hl => ?_) n 0 s_2 _ _ _ hw hC (lv_sub hl [1, 2, 0] rfl)
        refine lv_iinc (v := (x1_1 + 1)) (lv' := [(1, .int (x1_1 + 1)), (0, .ref o), (2, .int x2_28)]) hx hb dX2_loosen_60 hl (k := 1) rfl rfl (by decide) rfl (fun ls hl => ?_)
        refine lv_goto (tgt := 2) hx hb dX2_loosen_63 (by decide) ?_
        exact ih (x1_1 + 1) s_29 _ _ _ hw hC (lv_sub hl [1, 0] rfl)
  refine lv_iconst (v := 0) hx hb dX2_loosen_0 (by decide) ?_
  refine lv_istore_n (lv' := [(1, .int 0), (0, .ref o)]) hx hb dX2_loosen_1 rfl hl (by decide) rfl (fun ls hl => ?_)
  obtain ⟨n, hw⟩ := hw
  refine L2  _ (fun x1_31 s_32 H locs ls hw hC hl => ?_) n 0 f _ _ _ hw hC (lv_sub hl [1, 0] rfl)
  exact cx_ret_v (u := s_32) hx hb hr hlocks hK hC hw dX2_loosen_66

/-! PictureHeap$Offsets.sameAs(LPictureHeap$Offsets;)Z (X2_sameAs) -/
set_option maxHeartbeats 1000000 in
set_option maxRecDepth 100000 in
theorem c_X2_sameAs (l : Launch) (D : va_G) (cI : ClassId) (o : Nat) (a : Nat) (o2 : Nat) (a2 : Nat) (sz : Nat) (f : ((Nat → Int32) × (Nat → Int32))) (post : Int32 → ((Nat → Int32) × (Nat → Int32)) → Prop) (hw : w_X2_sameAs f post) : Ci l yX2_sameAs wsX2_sameAs 0 0 D cI (wOO cI o a o2 a2 f) sz [.ref o, .ref o2] (wOO cI o a o2 a2) post := by
  refine mo_i (cc := cX2_sameAs) (maxL := 3) (ret := (some .boolean)) (by decide) rfl (Nat.le_of_ble_eq_true rfl) ?_
  intro p e s m below meth c hx hb hr hml hts hown hlocks hK A hA hC ls hl
  have hown : s.vm.findClass RX2 = some m.cls := hown
  have hl : lv_has ls 3 [(0, .ref o), (1, .ref o2)] := hl
  have u1 : (Cond.fieldLink RX2 9 "PictureHeap$Offsets" "limit" "[I").before [.ref o, .ref o2].toArray s = true := hts _ (List.mem_of_getElem? (i := 1) rfl)
  have iX2 : ∀ w ∈ wsX20, w ∈ wsX2_sameAs := fun _ h => List.mem_cons_of_mem _ (List.mem_append_right _ h)
  have L2 : ∀ (K : Int32 → ((Nat → Int32) × (Nat → Int32)) → Prop) (hKK : ∀ (x2_1 : Int32) (s_2 : ((Nat → Int32) × (Nat → Int32))) (H : Heap) (locs : List Loc) (ls : Array Slot), K x2_1 s_2 → Cx D A s.heap (wOO cI o a o2 a2 s_2) H locs → lv_has ls 3 [(0, .ref o), (1, .ref o2), (2, .int x2_1)] → W p l e (Rm 0 0) s m [.ref o, .ref o2].toArray below meth c H locs 0 0 (QI below D cI A (wOO cI o a o2 a2) post [.ref o, .ref o2].toArray s) (F0 m 31 ls [])) (n : Nat), ∀ (x2_1 : Int32) (s_2 : ((Nat → Int32) × (Nat → Int32))) (H : Heap) (locs : List Loc) (ls : Array Slot), w_X2_sameAs_L2 post K n x2_1 s_2 → Cx D A s.heap (wOO cI o a o2 a2 s_2) H locs → lv_has ls 3 [(0, .ref o), (1, .ref o2), (2, .int x2_1)] → W p l e (Rm 0 0) s m [.ref o, .ref o2].toArray below meth c H locs 0 0 (QI below D cI A (wOO cI o a o2 a2) post [.ref o, .ref o2].toArray s) (F0 m 2 ls []) := by
    intro  K hKK n
    induction n with
    | zero => intro x2_1 s_2 H locs ls hw; exact hw.elim
    | succ n ih =>
      intro x2_1 s_2 H locs ls hw hC hl
      refine lv_iload_n hx hb dX2_sameAs_2 rfl (lv_at hl 2 rfl) ?_
      refine lv_bipush (v := 64) hx hb dX2_sameAs_3 (by decide) ?_
      refine lv_icmp_ge (tgt := 31) hx hb dX2_sameAs_5 (by decide) (fun c_3 => ?_) (fun c_3 => ?_)
      · have hw := hw.1 c_3
        exact hKK x2_1 s_2 _ _ _ hw hC (lv_sub hl [0, 1, 2] rfl)
      · have hw := hw.2 c_3
        refine lv_aload_n hx hb dX2_sameAs_8 rfl (lv_at hl 0 rfl) ?_
        refine cx_get (v := .ref a) hx hb hts iX2 hown hK hC 0 rfl rfl 0 (by decide) u1 rfl rfl dX2_sameAs_9 ?_
        refine lv_iload_n hx hb dX2_sameAs_12 rfl (lv_at hl 2 rfl) ?_
        refine cx_iald (f := s_2.1) hx hb hK hC 2 rfl hw.1 dX2_sameAs_13 ?_
        have hw := hw.2
        refine lv_aload_n hx hb dX2_sameAs_14 rfl (lv_at hl 1 rfl) ?_
        refine cx_get (v := .ref a2) hx hb hts iX2 hown hK hC 1 rfl rfl 0 (by decide) u1 rfl rfl dX2_sameAs_15 ?_
        refine lv_iload_n hx hb dX2_sameAs_18 rfl (lv_at hl 2 rfl) ?_
        refine cx_iald (f := s_2.2) hx hb hK hC 3 rfl hw.1 dX2_sameAs_19 ?_
        have hw := hw.2
        refine lv_icmp_eq (tgt := 25) hx hb dX2_sameAs_20 (by decide) (fun c_4 => ?_) (fun c_4 => ?_)
        · have hw := hw.1 c_4
          refine lv_iinc (v := (x2_1 + 1)) (lv' := [(2, .int (x2_1 + 1)), (0, .ref o), (1, .ref o2)]) hx hb dX2_sameAs_25 hl (k := 2) rfl rfl (by decide) rfl (fun ls hl => ?_)
          refine lv_goto (tgt := 2) hx hb dX2_sameAs_28 (by decide) ?_
          exact ih (x2_1 + 1) s_2 _ _ _ hw hC (lv_sub hl [1, 2, 0] rfl)
        · have hw := hw.2 c_4
          refine lv_iconst (v := 0) hx hb dX2_sameAs_23 (by decide) ?_
          exact cx_ret_z (u := s_2) hx hb hr hlocks hK hC rfl hw dX2_sameAs_24
  refine lv_iconst (v := 0) hx hb dX2_sameAs_0 (by decide) ?_
  refine lv_istore_n (lv' := [(2, .int 0), (0, .ref o), (1, .ref o2)]) hx hb dX2_sameAs_1 rfl hl (by decide) rfl (fun ls hl => ?_)
  obtain ⟨n, hw⟩ := hw
  refine L2  _ (fun x2_5 s_6 H locs ls hw hC hl => ?_) n 0 f _ _ _ hw hC (lv_sub hl [1, 2, 0] rfl)
  refine lv_iconst (v := 1) hx hb dX2_sameAs_31 (by decide) ?_
  exact cx_ret_z (u := s_6) hx hb hr hlocks hK hC rfl hw dX2_sameAs_32

/-! java/lang/Integer.bitCount(I)I (J6_bitCount_0f7a4) -/
set_option maxHeartbeats 1000000 in
set_option maxRecDepth 100000 in
theorem c_J6_bitCount_0f7a4 (l : Launch) (D : va_G) (cI : ClassId) (sz : Nat) (x0 : Int32) (post : Int32 → Unit → Prop) (hw : w_J6_bitCount_0f7a4 x0 post) : Ci l yJ6_bitCount_0f7a4 wsJ6_bitCount_0f7a4 0 0 D cI [] sz [.int x0] (fun _ : Unit => ([] : va_W)) post := by
  refine mo_i (cc := cJ6_bitCount_0f7a4) (maxL := 1) (ret := (some .int)) (by decide) rfl (Nat.le_of_ble_eq_true rfl) ?_
  intro p e s m below meth c hx hb hr hml hts hown hlocks hK A hA hC ls hl
  have hown : s.vm.findClass RJ6 = some m.cls := hown
  have hl : lv_has ls 1 [(0, .int x0)] := hl
  have u1 : (Cond.constant RJ6 265 (1431655765)).before [.int x0].toArray s = true := hts _ (List.mem_of_getElem? (i := 1) rfl)
  have u2 : (Cond.constant RJ6 266 (858993459)).before [.int x0].toArray s = true := hts _ (List.mem_of_getElem? (i := 2) rfl)
  have u3 : (Cond.constant RJ6 267 (252645135)).before [.int x0].toArray s = true := hts _ (List.mem_of_getElem? (i := 3) rfl)
  refine lv_iload_n hx hb dJ6_bitCount_0f7a4_0 rfl (lv_at hl 0 rfl) ?_
  refine lv_iload_n hx hb dJ6_bitCount_0f7a4_1 rfl (lv_at hl 0 rfl) ?_
  refine lv_iconst (v := 1) hx hb dJ6_bitCount_0f7a4_2 (by decide) ?_
  refine lv_iushr (v := (Int32.toUInt32 x0 >>> (Int32.toUInt32 1 &&& Int32.toUInt32 31)).toInt32) hx hb dJ6_bitCount_0f7a4_3 rfl ?_
  refine lv_ldcw (v := 1431655765) hx hb hown u1 dJ6_bitCount_0f7a4_4 ?_
  refine lv_iand hx hb dJ6_bitCount_0f7a4_7 ?_
  refine lv_isub hx hb dJ6_bitCount_0f7a4_8 ?_
  refine lv_istore_n (lv' := [(0, .int (x0 - ((Int32.toUInt32 x0 >>> (Int32.toUInt32 1 &&& Int32.toUInt32 31)).toInt32 &&& 1431655765)))]) hx hb dJ6_bitCount_0f7a4_9 rfl hl (by decide) rfl (fun ls hl => ?_)
  refine lv_iload_n hx hb dJ6_bitCount_0f7a4_10 rfl (lv_at hl 0 rfl) ?_
  refine lv_ldcw (v := 858993459) hx hb hown u2 dJ6_bitCount_0f7a4_11 ?_
  refine lv_iand hx hb dJ6_bitCount_0f7a4_14 ?_
  refine lv_iload_n hx hb dJ6_bitCount_0f7a4_15 rfl (lv_at hl 0 rfl) ?_
  refine lv_iconst (v := 2) hx hb dJ6_bitCount_0f7a4_16 (by decide) ?_
  refine lv_iushr (v := (Int32.toUInt32 (x0 - ((Int32.toUInt32 x0 >>> (Int32.toUInt32 1 &&& Int32.toUInt32 31)).toInt32 &&& 1431655765)) >>> (Int32.toUInt32 2 &&& Int32.toUInt32 31)).toInt32) hx hb dJ6_bitCount_0f7a4_17 rfl ?_
  refine lv_ldcw (v := 858993459) hx hb hown u2 dJ6_bitCount_0f7a4_18 ?_
  refine lv_iand hx hb dJ6_bitCount_0f7a4_21 ?_
  refine lv_iadd hx hb dJ6_bitCount_0f7a4_22 ?_
  refine lv_istore_n (lv' := [(0, .int (((x0 - ((Int32.toUInt32 x0 >>> (Int32.toUInt32 1 &&& Int32.toUInt32 31)).toInt32 &&& 1431655765)) &&& 858993459) + ((Int32.toUInt32 (x0 - ((Int32.toUInt32 x0 >>> (Int32.toUInt32 1 &&& Int32.toUInt32 31)).toInt32 &&& 1431655765)) >>> (Int32.toUInt32 2 &&& Int32.toUInt32 31)).toInt32 &&& 858993459)))]) hx hb dJ6_bitCount_0f7a4_23 rfl hl (by decide) rfl (fun ls hl => ?_)
  refine lv_iload_n hx hb dJ6_bitCount_0f7a4_24 rfl (lv_at hl 0 rfl) ?_
  refine lv_iload_n hx hb dJ6_bitCount_0f7a4_25 rfl (lv_at hl 0 rfl) ?_
  refine lv_iconst (v := 4) hx hb dJ6_bitCount_0f7a4_26 (by decide) ?_
  refine lv_iushr (v := (Int32.toUInt32 (((x0 - ((Int32.toUInt32 x0 >>> (Int32.toUInt32 1 &&& Int32.toUInt32 31)).toInt32 &&& 1431655765)) &&& 858993459) + ((Int32.toUInt32 (x0 - ((Int32.toUInt32 x0 >>> (Int32.toUInt32 1 &&& Int32.toUInt32 31)).toInt32 &&& 1431655765)) >>> (Int32.toUInt32 2 &&& Int32.toUInt32 31)).toInt32 &&& 858993459)) >>> (Int32.toUInt32 4 &&& Int32.toUInt32 31)).toInt32) hx hb dJ6_bitCount_0f7a4_27 rfl ?_
  refine lv_iadd hx hb dJ6_bitCount_0f7a4_28 ?_
  refine lv_ldcw (v := 252645135) hx hb hown u3 dJ6_bitCount_0f7a4_29 ?_
  refine lv_iand hx hb dJ6_bitCount_0f7a4_32 ?_
  refine lv_istore_n (lv' := [(0, .int (((((x0 - ((Int32.toUInt32 x0 >>> (Int32.toUInt32 1 &&& Int32.toUInt32 31)).toInt32 &&& 1431655765)) &&& 858993459) + ((Int32.toUInt32 (x0 - ((Int32.toUInt32 x0 >>> (Int32.toUInt32 1 &&& Int32.toUInt32 31)).toInt32 &&& 1431655765)) >>> (Int32.toUInt32 2 &&& Int32.toUInt32 31)).toInt32 &&& 858993459)) + (Int32.toUInt32 (((x0 - ((Int32.toUInt32 x0 >>> (Int32.toUInt32 1 &&& Int32.toUInt32 31)).toInt32 &&& 1431655765)) &&& 858993459) + ((Int32.toUInt32 (x0 - ((Int32.toUInt32 x0 >>> (Int32.toUInt32 1 &&& Int32.toUInt32 31)).toInt32 &&& 1431655765)) >>> (Int32.toUInt32 2 &&& Int32.toUInt32 31)).toInt32 &&& 858993459)) >>> (Int32.toUInt32 4 &&& Int32.toUInt32 31)).toInt32) &&& 252645135))]) hx hb dJ6_bitCount_0f7a4_33 rfl hl (by decide) rfl (fun ls hl => ?_)
  refine lv_iload_n hx hb dJ6_bitCount_0f7a4_34 rfl (lv_at hl 0 rfl) ?_
  refine lv_iload_n hx hb dJ6_bitCount_0f7a4_35 rfl (lv_at hl 0 rfl) ?_
  refine lv_bipush (v := 8) hx hb dJ6_bitCount_0f7a4_36 (by decide) ?_
  refine lv_iushr (v := (Int32.toUInt32 (((((x0 - ((Int32.toUInt32 x0 >>> (Int32.toUInt32 1 &&& Int32.toUInt32 31)).toInt32 &&& 1431655765)) &&& 858993459) + ((Int32.toUInt32 (x0 - ((Int32.toUInt32 x0 >>> (Int32.toUInt32 1 &&& Int32.toUInt32 31)).toInt32 &&& 1431655765)) >>> (Int32.toUInt32 2 &&& Int32.toUInt32 31)).toInt32 &&& 858993459)) + (Int32.toUInt32 (((x0 - ((Int32.toUInt32 x0 >>> (Int32.toUInt32 1 &&& Int32.toUInt32 31)).toInt32 &&& 1431655765)) &&& 858993459) + ((Int32.toUInt32 (x0 - ((Int32.toUInt32 x0 >>> (Int32.toUInt32 1 &&& Int32.toUInt32 31)).toInt32 &&& 1431655765)) >>> (Int32.toUInt32 2 &&& Int32.toUInt32 31)).toInt32 &&& 858993459)) >>> (Int32.toUInt32 4 &&& Int32.toUInt32 31)).toInt32) &&& 252645135) >>> (Int32.toUInt32 8 &&& Int32.toUInt32 31)).toInt32) hx hb dJ6_bitCount_0f7a4_38 rfl ?_
  refine lv_iadd hx hb dJ6_bitCount_0f7a4_39 ?_
  refine lv_istore_n (lv' := [(0, .int ((((((x0 - ((Int32.toUInt32 x0 >>> (Int32.toUInt32 1 &&& Int32.toUInt32 31)).toInt32 &&& 1431655765)) &&& 858993459) + ((Int32.toUInt32 (x0 - ((Int32.toUInt32 x0 >>> (Int32.toUInt32 1 &&& Int32.toUInt32 31)).toInt32 &&& 1431655765)) >>> (Int32.toUInt32 2 &&& Int32.toUInt32 31)).toInt32 &&& 858993459)) + (Int32.toUInt32 (((x0 - ((Int32.toUInt32 x0 >>> (Int32.toUInt32 1 &&& Int32.toUInt32 31)).toInt32 &&& 1431655765)) &&& 858993459) + ((Int32.toUInt32 (x0 - ((Int32.toUInt32 x0 >>> (Int32.toUInt32 1 &&& Int32.toUInt32 31)).toInt32 &&& 1431655765)) >>> (Int32.toUInt32 2 &&& Int32.toUInt32 31)).toInt32 &&& 858993459)) >>> (Int32.toUInt32 4 &&& Int32.toUInt32 31)).toInt32) &&& 252645135) + (Int32.toUInt32 (((((x0 - ((Int32.toUInt32 x0 >>> (Int32.toUInt32 1 &&& Int32.toUInt32 31)).toInt32 &&& 1431655765)) &&& 858993459) + ((Int32.toUInt32 (x0 - ((Int32.toUInt32 x0 >>> (Int32.toUInt32 1 &&& Int32.toUInt32 31)).toInt32 &&& 1431655765)) >>> (Int32.toUInt32 2 &&& Int32.toUInt32 31)).toInt32 &&& 858993459)) + (Int32.toUInt32 (((x0 - ((Int32.toUInt32 x0 >>> (Int32.toUInt32 1 &&& Int32.toUInt32 31)).toInt32 &&& 1431655765)) &&& 858993459) + ((Int32.toUInt32 (x0 - ((Int32.toUInt32 x0 >>> (Int32.toUInt32 1 &&& Int32.toUInt32 31)).toInt32 &&& 1431655765)) >>> (Int32.toUInt32 2 &&& Int32.toUInt32 31)).toInt32 &&& 858993459)) >>> (Int32.toUInt32 4 &&& Int32.toUInt32 31)).toInt32) &&& 252645135) >>> (Int32.toUInt32 8 &&& Int32.toUInt32 31)).toInt32))]) hx hb dJ6_bitCount_0f7a4_40 rfl hl (by decide) rfl (fun ls hl => ?_)
  refine lv_iload_n hx hb dJ6_bitCount_0f7a4_41 rfl (lv_at hl 0 rfl) ?_
  refine lv_iload_n hx hb dJ6_bitCount_0f7a4_42 rfl (lv_at hl 0 rfl) ?_
  refine lv_bipush (v := 16) hx hb dJ6_bitCount_0f7a4_43 (by decide) ?_
  refine lv_iushr (v := (Int32.toUInt32 ((((((x0 - ((Int32.toUInt32 x0 >>> (Int32.toUInt32 1 &&& Int32.toUInt32 31)).toInt32 &&& 1431655765)) &&& 858993459) + ((Int32.toUInt32 (x0 - ((Int32.toUInt32 x0 >>> (Int32.toUInt32 1 &&& Int32.toUInt32 31)).toInt32 &&& 1431655765)) >>> (Int32.toUInt32 2 &&& Int32.toUInt32 31)).toInt32 &&& 858993459)) + (Int32.toUInt32 (((x0 - ((Int32.toUInt32 x0 >>> (Int32.toUInt32 1 &&& Int32.toUInt32 31)).toInt32 &&& 1431655765)) &&& 858993459) + ((Int32.toUInt32 (x0 - ((Int32.toUInt32 x0 >>> (Int32.toUInt32 1 &&& Int32.toUInt32 31)).toInt32 &&& 1431655765)) >>> (Int32.toUInt32 2 &&& Int32.toUInt32 31)).toInt32 &&& 858993459)) >>> (Int32.toUInt32 4 &&& Int32.toUInt32 31)).toInt32) &&& 252645135) + (Int32.toUInt32 (((((x0 - ((Int32.toUInt32 x0 >>> (Int32.toUInt32 1 &&& Int32.toUInt32 31)).toInt32 &&& 1431655765)) &&& 858993459) + ((Int32.toUInt32 (x0 - ((Int32.toUInt32 x0 >>> (Int32.toUInt32 1 &&& Int32.toUInt32 31)).toInt32 &&& 1431655765)) >>> (Int32.toUInt32 2 &&& Int32.toUInt32 31)).toInt32 &&& 858993459)) + (Int32.toUInt32 (((x0 - ((Int32.toUInt32 x0 >>> (Int32.toUInt32 1 &&& Int32.toUInt32 31)).toInt32 &&& 1431655765)) &&& 858993459) + ((Int32.toUInt32 (x0 - ((Int32.toUInt32 x0 >>> (Int32.toUInt32 1 &&& Int32.toUInt32 31)).toInt32 &&& 1431655765)) >>> (Int32.toUInt32 2 &&& Int32.toUInt32 31)).toInt32 &&& 858993459)) >>> (Int32.toUInt32 4 &&& Int32.toUInt32 31)).toInt32) &&& 252645135) >>> (Int32.toUInt32 8 &&& Int32.toUInt32 31)).toInt32) >>> (Int32.toUInt32 16 &&& Int32.toUInt32 31)).toInt32) hx hb dJ6_bitCount_0f7a4_45 rfl ?_
  refine lv_iadd hx hb dJ6_bitCount_0f7a4_46 ?_
  refine lv_istore_n (lv' := [(0, .int (((((((x0 - ((Int32.toUInt32 x0 >>> (Int32.toUInt32 1 &&& Int32.toUInt32 31)).toInt32 &&& 1431655765)) &&& 858993459) + ((Int32.toUInt32 (x0 - ((Int32.toUInt32 x0 >>> (Int32.toUInt32 1 &&& Int32.toUInt32 31)).toInt32 &&& 1431655765)) >>> (Int32.toUInt32 2 &&& Int32.toUInt32 31)).toInt32 &&& 858993459)) + (Int32.toUInt32 (((x0 - ((Int32.toUInt32 x0 >>> (Int32.toUInt32 1 &&& Int32.toUInt32 31)).toInt32 &&& 1431655765)) &&& 858993459) + ((Int32.toUInt32 (x0 - ((Int32.toUInt32 x0 >>> (Int32.toUInt32 1 &&& Int32.toUInt32 31)).toInt32 &&& 1431655765)) >>> (Int32.toUInt32 2 &&& Int32.toUInt32 31)).toInt32 &&& 858993459)) >>> (Int32.toUInt32 4 &&& Int32.toUInt32 31)).toInt32) &&& 252645135) + (Int32.toUInt32 (((((x0 - ((Int32.toUInt32 x0 >>> (Int32.toUInt32 1 &&& Int32.toUInt32 31)).toInt32 &&& 1431655765)) &&& 858993459) + ((Int32.toUInt32 (x0 - ((Int32.toUInt32 x0 >>> (Int32.toUInt32 1 &&& Int32.toUInt32 31)).toInt32 &&& 1431655765)) >>> (Int32.toUInt32 2 &&& Int32.toUInt32 31)).toInt32 &&& 858993459)) + (Int32.toUInt32 (((x0 - ((Int32.toUInt32 x0 >>> (Int32.toUInt32 1 &&& Int32.toUInt32 31)).toInt32 &&& 1431655765)) &&& 858993459) + ((Int32.toUInt32 (x0 - ((Int32.toUInt32 x0 >>> (Int32.toUInt32 1 &&& Int32.toUInt32 31)).toInt32 &&& 1431655765)) >>> (Int32.toUInt32 2 &&& Int32.toUInt32 31)).toInt32 &&& 858993459)) >>> (Int32.toUInt32 4 &&& Int32.toUInt32 31)).toInt32) &&& 252645135) >>> (Int32.toUInt32 8 &&& Int32.toUInt32 31)).toInt32) + (Int32.toUInt32 ((((((x0 - ((Int32.toUInt32 x0 >>> (Int32.toUInt32 1 &&& Int32.toUInt32 31)).toInt32 &&& 1431655765)) &&& 858993459) + ((Int32.toUInt32 (x0 - ((Int32.toUInt32 x0 >>> (Int32.toUInt32 1 &&& Int32.toUInt32 31)).toInt32 &&& 1431655765)) >>> (Int32.toUInt32 2 &&& Int32.toUInt32 31)).toInt32 &&& 858993459)) + (Int32.toUInt32 (((x0 - ((Int32.toUInt32 x0 >>> (Int32.toUInt32 1 &&& Int32.toUInt32 31)).toInt32 &&& 1431655765)) &&& 858993459) + ((Int32.toUInt32 (x0 - ((Int32.toUInt32 x0 >>> (Int32.toUInt32 1 &&& Int32.toUInt32 31)).toInt32 &&& 1431655765)) >>> (Int32.toUInt32 2 &&& Int32.toUInt32 31)).toInt32 &&& 858993459)) >>> (Int32.toUInt32 4 &&& Int32.toUInt32 31)).toInt32) &&& 252645135) + (Int32.toUInt32 (((((x0 - ((Int32.toUInt32 x0 >>> (Int32.toUInt32 1 &&& Int32.toUInt32 31)).toInt32 &&& 1431655765)) &&& 858993459) + ((Int32.toUInt32 (x0 - ((Int32.toUInt32 x0 >>> (Int32.toUInt32 1 &&& Int32.toUInt32 31)).toInt32 &&& 1431655765)) >>> (Int32.toUInt32 2 &&& Int32.toUInt32 31)).toInt32 &&& 858993459)) + (Int32.toUInt32 (((x0 - ((Int32.toUInt32 x0 >>> (Int32.toUInt32 1 &&& Int32.toUInt32 31)).toInt32 &&& 1431655765)) &&& 858993459) + ((Int32.toUInt32 (x0 - ((Int32.toUInt32 x0 >>> (Int32.toUInt32 1 &&& Int32.toUInt32 31)).toInt32 &&& 1431655765)) >>> (Int32.toUInt32 2 &&& Int32.toUInt32 31)).toInt32 &&& 858993459)) >>> (Int32.toUInt32 4 &&& Int32.toUInt32 31)).toInt32) &&& 252645135) >>> (Int32.toUInt32 8 &&& Int32.toUInt32 31)).toInt32) >>> (Int32.toUInt32 16 &&& Int32.toUInt32 31)).toInt32))]) hx hb dJ6_bitCount_0f7a4_47 rfl hl (by decide) rfl (fun ls hl => ?_)
  refine lv_iload_n hx hb dJ6_bitCount_0f7a4_48 rfl (lv_at hl 0 rfl) ?_
  refine lv_bipush (v := 63) hx hb dJ6_bitCount_0f7a4_49 (by decide) ?_
  refine lv_iand hx hb dJ6_bitCount_0f7a4_51 ?_
  exact cx_ret_i (u := ()) hx hb hr hlocks hK hC hw dJ6_bitCount_0f7a4_52

/-! PictureHeapModel.in(III)Z (X6_in) -/
set_option maxHeartbeats 1000000 in
set_option maxRecDepth 100000 in
theorem c_X6_in (l : Launch) (D : va_G) (cI : ClassId) (sz : Nat) (x0 : Int32) (x1 : Int32) (x2 : Int32) (post : Int32 → Unit → Prop) (hw : w_X6_in x0 x1 x2 post) : Ci l yX6_in wsX6_in 0 0 D cI [] sz [.int x0, .int x1, .int x2] (fun _ : Unit => ([] : va_W)) post := by
  refine mo_i (cc := cX6_in) (maxL := 3) (ret := (some .boolean)) (by decide) rfl (Nat.le_of_ble_eq_true rfl) ?_
  intro p e s m below meth c hx hb hr hml hts hown hlocks hK A hA hC ls hl
  have hown : s.vm.findClass RX6 = some m.cls := hown
  have hl : lv_has ls 3 [(0, .int x0), (1, .int x1), (2, .int x2)] := hl
  refine lv_iload_n hx hb dX6_in_0 rfl (lv_at hl 0 rfl) ?_
  refine lv_iload_n hx hb dX6_in_1 rfl (lv_at hl 1 rfl) ?_
  refine lv_icmp_lt (tgt := 14) hx hb dX6_in_2 (by decide) (fun c_1 => ?_) (fun c_1 => ?_)
  · have hw := hw.1 c_1
    refine lv_iconst (v := 0) hx hb dX6_in_14 (by decide) ?_
    exact cx_ret_z (u := ()) hx hb hr hlocks hK hC rfl hw dX6_in_15
  · have hw := hw.2 c_1
    refine lv_iload_n hx hb dX6_in_5 rfl (lv_at hl 0 rfl) ?_
    refine lv_iload_n hx hb dX6_in_6 rfl (lv_at hl 2 rfl) ?_
    refine lv_icmp_gt (tgt := 14) hx hb dX6_in_7 (by decide) (fun c_2 => ?_) (fun c_2 => ?_)
    · have hw := hw.1 c_2
      refine lv_iconst (v := 0) hx hb dX6_in_14 (by decide) ?_
      exact cx_ret_z (u := ()) hx hb hr hlocks hK hC rfl hw dX6_in_15
    · have hw := hw.2 c_2
      refine lv_iconst (v := 1) hx hb dX6_in_10 (by decide) ?_
      refine lv_goto (tgt := 15) hx hb dX6_in_11 (by decide) ?_
      exact cx_ret_z (u := ()) hx hb hr hlocks hK hC rfl hw dX6_in_15

/-! PictureHeapModel.least([IIII)V (X6_least) -/
set_option maxHeartbeats 1000000 in
set_option maxRecDepth 100000 in
theorem c_X6_least (l : Launch) (D : va_G) (cI : ClassId) (a : Nat) (sz : Nat) (f : (Nat → Int32)) (x1 : Int32) (x2 : Int32) (x3 : Int32) (post : (Nat → Int32) → Prop) (hw : w_X6_least f x1 x2 x3 post) : Cv l yX6_least wsX6_least 1 21 D cI (wA cI 64 a f) sz [.ref a, .int x1, .int x2, .int x3] (wA cI 64 a) post := by
  refine mo_v (cc := cX6_least) (maxL := 4) (ret := none) (by decide) rfl (Nat.le_of_ble_eq_true rfl) ?_
  intro p e s m below meth c hx hb hr hml hts hown hlocks hK A hA hC ls hl
  have hown : s.vm.findClass RX6 = some m.cls := hown
  have hl : lv_has ls 4 [(0, .ref a), (1, .int x1), (2, .int x2), (3, .int x3)] := hl
  have u1 : (Cond.methodLink RX6 116 Lib.Math.min.name).before [.ref a, .int x1, .int x2, .int x3].toArray s = true := hts _ (List.mem_of_getElem? (i := 1) rfl)
  have u2 : (Cond.static Lib.Math.min.name).before [.ref a, .int x1, .int x2, .int x3].toArray s = true := hts _ (List.mem_of_getElem? (i := 2) rfl)
  have u3 : (Cond.initialized "java/lang/Math").before [.ref a, .int x1, .int x2, .int x3].toArray s = true := hts _ (List.mem_of_getElem? (i := 3) rfl)
  have u4 : (Cond.code Lib.Math.min.name Lib.Math.min.code 2 (some .int)).before [.ref a, .int x1, .int x2, .int x3].toArray s = true := hts _ (List.mem_of_getElem? (i := 4) rfl)
  refine lv_aload_n hx hb dX6_least_0 rfl (lv_at hl 0 rfl) ?_
  refine lv_bipush (v := 8) hx hb dX6_least_1 (by decide) ?_
  refine lv_iload_n hx hb dX6_least_3 rfl (lv_at hl 1 rfl) ?_
  refine lv_imul hx hb dX6_least_4 ?_
  refine lv_iload_n hx hb dX6_least_5 rfl (lv_at hl 2 rfl) ?_
  refine lv_iadd hx hb dX6_least_6 ?_
  refine lv_aload_n hx hb dX6_least_7 rfl (lv_at hl 0 rfl) ?_
  refine lv_bipush (v := 8) hx hb dX6_least_8 (by decide) ?_
  refine lv_iload_n hx hb dX6_least_10 rfl (lv_at hl 1 rfl) ?_
  refine lv_imul hx hb dX6_least_11 ?_
  refine lv_iload_n hx hb dX6_least_12 rfl (lv_at hl 2 rfl) ?_
  refine lv_iadd hx hb dX6_least_13 ?_
  refine cx_iald (f := f) hx hb hK hC 0 rfl hw.1 dX6_least_14 ?_
  have hw := hw.2
  refine lv_iload_n hx hb dX6_least_15 rfl (lv_at hl 3 rfl) ?_
  refine va_mmin hx hb (hml.trans hl.1.symm) hown u1 u2 u3 u4 (Nat.le_of_ble_eq_true rfl) (Nat.le_of_ble_eq_true rfl) (Nat.le_refl 0) (Nat.le_refl 0) dX6_least_16 ?_
  refine cx_iast (f := f) hx hb hK hC 0 rfl hw.1 dX6_least_19 (ws' := (wA cI 64 a (upd (f) (Int32.toNatClampNeg ((8 * x1) + x2)) (if x3 < (f (Int32.toNatClampNeg ((8 * x1) + x2))) then x3 else (f (Int32.toNatClampNeg ((8 * x1) + x2))))))) rfl (fun H locs hC => ?_)
  have hw := hw.2
  exact cx_ret_v (u := (upd (f) (Int32.toNatClampNeg ((8 * x1) + x2)) (if x3 < (f (Int32.toNatClampNeg ((8 * x1) + x2))) then x3 else (f (Int32.toNatClampNeg ((8 * x1) + x2)))))) hx hb hr hlocks hK hC hw dX6_least_20

/-! PictureHeapModel.closes([I)Z (X6_closes) -/
set_option maxHeartbeats 1000000 in
set_option maxRecDepth 100000 in
theorem c_X6_closes (l : Launch) (D : va_G) (cI : ClassId) (a : Nat) (sz : Nat) (f : (Nat → Int32)) (post : Int32 → (Nat → Int32) → Prop) (hw : w_X6_closes f post) : Ci l yX6_closes wsX6_closes 2 44 D cI (wA cI 64 a f) sz [.ref a] (wA cI 64 a) post := by
  refine mo_i (cc := cX6_closes) (maxL := 4) (ret := (some .boolean)) (by decide) rfl (Nat.le_of_ble_eq_true rfl) ?_
  intro p e s m below meth c hx hb hr hml hts hown hlocks hK A hA hC ls hl
  have hown : s.vm.findClass RX6 = some m.cls := hown
  have hl : lv_has ls 4 [(0, .ref a)] := hl
  have L18 : ∀ (x1_8 : Int32) (x2_9 : Int32) (K : Int32 → (Nat → Int32) → Prop) (hKK : ∀ (x3_10 : Int32) (s_11 : (Nat → Int32)) (H : Heap) (locs : List Loc) (ls : Array Slot), K x3_10 s_11 → Cx D A s.heap (wA cI 64 a s_11) H locs → lv_has ls 4 [(0, .ref a), (1, .int x1_8), (2, .int x2_9), (3, .int x3_10)] → W p l e (Rm 2 44) s m [.ref a].toArray below meth c H locs 0 0 (QI below D cI A (wA cI 64 a) post [.ref a].toArray s) (F0 m 53 ls [])) (n : Nat), ∀ (x3_10 : Int32) (s_11 : (Nat → Int32)) (H : Heap) (locs : List Loc) (ls : Array Slot), w_X6_closes_L18 x1_8 x2_9 post K n x3_10 s_11 → Cx D A s.heap (wA cI 64 a s_11) H locs → lv_has ls 4 [(0, .ref a), (1, .int x1_8), (2, .int x2_9), (3, .int x3_10)] → W p l e (Rm 2 44) s m [.ref a].toArray below meth c H locs 0 0 (QI below D cI A (wA cI 64 a) post [.ref a].toArray s) (F0 m 18 ls []) := by
    intro x1_8 x2_9 K hKK n
    induction n with
    | zero => intro x3_10 s_11 H locs ls hw; exact hw.elim
    | succ n ih =>
      intro x3_10 s_11 H locs ls hw hC hl
      refine lv_iload_n hx hb dX6_closes_18 rfl (lv_at hl 3 rfl) ?_
      refine lv_bipush (v := 8) hx hb dX6_closes_19 (by decide) ?_
      refine lv_icmp_ge (tgt := 53) hx hb dX6_closes_21 (by decide) (fun c_12 => ?_) (fun c_12 => ?_)
      · have hw := hw.1 c_12
        exact hKK x3_10 s_11 _ _ _ hw hC (lv_sub hl [0, 1, 2, 3] rfl)
      · have hw := hw.2 c_12
        refine lv_aload_n hx hb dX6_closes_24 rfl (lv_at hl 0 rfl) ?_
        refine lv_iload_n hx hb dX6_closes_25 rfl (lv_at hl 2 rfl) ?_
        refine lv_iload_n hx hb dX6_closes_26 rfl (lv_at hl 3 rfl) ?_
        refine lv_aload_n hx hb dX6_closes_27 rfl (lv_at hl 0 rfl) ?_
        refine lv_bipush (v := 8) hx hb dX6_closes_28 (by decide) ?_
        refine lv_iload_n hx hb dX6_closes_30 rfl (lv_at hl 2 rfl) ?_
        refine lv_imul hx hb dX6_closes_31 ?_
        refine lv_iload_n hx hb dX6_closes_32 rfl (lv_at hl 1 rfl) ?_
        refine lv_iadd hx hb dX6_closes_33 ?_
        refine cx_iald (f := s_11) hx hb hK hC 0 rfl hw.1 dX6_closes_34 ?_
        have hw := hw.2
        refine lv_aload_n hx hb dX6_closes_35 rfl (lv_at hl 0 rfl) ?_
        refine lv_bipush (v := 8) hx hb dX6_closes_36 (by decide) ?_
        refine lv_iload_n hx hb dX6_closes_38 rfl (lv_at hl 1 rfl) ?_
        refine lv_imul hx hb dX6_closes_39 ?_
        refine lv_iload_n hx hb dX6_closes_40 rfl (lv_at hl 3 rfl) ?_
        refine lv_iadd hx hb dX6_closes_41 ?_
        refine cx_iald (f := s_11) hx hb hK hC 0 rfl hw.1 dX6_closes_42 ?_
        have hw := hw.2
        refine lv_iadd hx hb dX6_closes_43 ?_
        refine cx_callSv0 (As := [.ref a, .int x2_9, .int x3_10, .int ((s_11 (Int32.toNatClampNeg ((8 * x2_9) + x1_8))) + (s_11 (Int32.toNatClampNeg ((8 * x1_8) + x3_10))))]) (rest := []) ⟨hx, hb, hml, hown, hts⟩ (c_X6_least l D cI a _ s_11 x2_9 x3_10 ((s_11 (Int32.toNatClampNeg ((8 * x2_9) + x1_8))) + (s_11 (Int32.toNatClampNeg ((8 * x1_8) + x3_10)))) _ hw) (va_cwS 4 hts gX6_closes_X6_least rfl rfl rfl (by decide +kernel) ⟨Nat.le_of_ble_eq_true rfl, Nat.le_of_ble_eq_true rfl⟩) hK hC hA rfl hl.1 rfl (Nat.le_of_ble_eq_true rfl) dX6_closes_44 ⟨Nat.zero_le _, Nat.zero_le _⟩ (fun u_14 H locs hw hC => ?_)
        refine lv_iinc (v := (x3_10 + 1)) (lv' := [(3, .int (x3_10 + 1)), (0, .ref a), (1, .int x1_8), (2, .int x2_9)]) hx hb dX6_closes_47 hl (k := 3) rfl rfl (by decide) rfl (fun ls hl => ?_)
        refine lv_goto (tgt := 18) hx hb dX6_closes_50 (by decide) ?_
        exact ih (x3_10 + 1) u_14 _ _ _ hw hC (lv_sub hl [1, 2, 3, 0] rfl)
  have L10 : ∀ (x1_4 : Int32) (K : Int32 → (Nat → Int32) → Prop) (hKK : ∀ (x2_5 : Int32) (s_6 : (Nat → Int32)) (H : Heap) (locs : List Loc) (ls : Array Slot), K x2_5 s_6 → Cx D A s.heap (wA cI 64 a s_6) H locs → lv_has ls 4 [(0, .ref a), (1, .int x1_4), (2, .int x2_5)] → W p l e (Rm 2 44) s m [.ref a].toArray below meth c H locs 0 0 (QI below D cI A (wA cI 64 a) post [.ref a].toArray s) (F0 m 59 ls [])) (n : Nat), ∀ (x2_5 : Int32) (s_6 : (Nat → Int32)) (H : Heap) (locs : List Loc) (ls : Array Slot), w_X6_closes_L10 x1_4 post K n x2_5 s_6 → Cx D A s.heap (wA cI 64 a s_6) H locs → lv_has ls 4 [(0, .ref a), (1, .int x1_4), (2, .int x2_5)] → W p l e (Rm 2 44) s m [.ref a].toArray below meth c H locs 0 0 (QI below D cI A (wA cI 64 a) post [.ref a].toArray s) (F0 m 10 ls []) := by
    intro x1_4 K hKK n
    induction n with
    | zero => intro x2_5 s_6 H locs ls hw; exact hw.elim
    | succ n ih =>
      intro x2_5 s_6 H locs ls hw hC hl
      refine lv_iload_n hx hb dX6_closes_10 rfl (lv_at hl 2 rfl) ?_
      refine lv_bipush (v := 8) hx hb dX6_closes_11 (by decide) ?_
      refine lv_icmp_ge (tgt := 59) hx hb dX6_closes_13 (by decide) (fun c_7 => ?_) (fun c_7 => ?_)
      · have hw := hw.1 c_7
        exact hKK x2_5 s_6 _ _ _ hw hC (lv_sub hl [0, 1, 2] rfl)
      · have hw := hw.2 c_7
        refine lv_iconst (v := 0) hx hb dX6_closes_16 (by decide) ?_
        refine lv_istore_n (lv' := [(3, .int 0), (0, .ref a), (1, .int x1_4), (2, .int x2_5)]) hx hb dX6_closes_17 rfl hl (by decide) rfl (fun ls hl => ?_)
        obtain ⟨n, hw⟩ := hw
        refine L18 x1_4 x2_5 _ (fun x3_15 s_16 H locs ls hw hC hl => ?_) n 0 s_6 _ _ _ hw hC (lv_sub hl [1, 2, 3, 0] rfl)
        refine lv_iinc (v := (x2_5 + 1)) (lv' := [(2, .int (x2_5 + 1)), (0, .ref a), (1, .int x1_4), (3, .int x3_15)]) hx hb dX6_closes_53 hl (k := 2) rfl rfl (by decide) rfl (fun ls hl => ?_)
        refine lv_goto (tgt := 10) hx hb dX6_closes_56 (by decide) ?_
        exact ih (x2_5 + 1) s_16 _ _ _ hw hC (lv_sub hl [1, 2, 0] rfl)
  have L2 : ∀ (K : Int32 → (Nat → Int32) → Prop) (hKK : ∀ (x1_1 : Int32) (s_2 : (Nat → Int32)) (H : Heap) (locs : List Loc) (ls : Array Slot), K x1_1 s_2 → Cx D A s.heap (wA cI 64 a s_2) H locs → lv_has ls 4 [(0, .ref a), (1, .int x1_1)] → W p l e (Rm 2 44) s m [.ref a].toArray below meth c H locs 0 0 (QI below D cI A (wA cI 64 a) post [.ref a].toArray s) (F0 m 65 ls [])) (n : Nat), ∀ (x1_1 : Int32) (s_2 : (Nat → Int32)) (H : Heap) (locs : List Loc) (ls : Array Slot), w_X6_closes_L2 post K n x1_1 s_2 → Cx D A s.heap (wA cI 64 a s_2) H locs → lv_has ls 4 [(0, .ref a), (1, .int x1_1)] → W p l e (Rm 2 44) s m [.ref a].toArray below meth c H locs 0 0 (QI below D cI A (wA cI 64 a) post [.ref a].toArray s) (F0 m 2 ls []) := by
    intro  K hKK n
    induction n with
    | zero => intro x1_1 s_2 H locs ls hw; exact hw.elim
    | succ n ih =>
      intro x1_1 s_2 H locs ls hw hC hl
      refine lv_iload_n hx hb dX6_closes_2 rfl (lv_at hl 1 rfl) ?_
      refine lv_bipush (v := 8) hx hb dX6_closes_3 (by decide) ?_
      refine lv_icmp_ge (tgt := 65) hx hb dX6_closes_5 (by decide) (fun c_3 => ?_) (fun c_3 => ?_)
      · have hw := hw.1 c_3
        exact hKK x1_1 s_2 _ _ _ hw hC (lv_sub hl [0, 1] rfl)
      · have hw := hw.2 c_3
        refine lv_iconst (v := 0) hx hb dX6_closes_8 (by decide) ?_
        refine lv_istore_n (lv' := [(2, .int 0), (0, .ref a), (1, .int x1_1)]) hx hb dX6_closes_9 rfl hl (by decide) rfl (fun ls hl => ?_)
        obtain ⟨n, hw⟩ := hw
        refine L10 x1_1 _ (fun x2_18 s_19 H locs ls hw hC hl => ?_) n 0 s_2 _ _ _ hw hC (lv_sub hl [1, 2, 0] rfl)
        refine lv_iinc (v := (x1_1 + 1)) (lv' := [(1, .int (x1_1 + 1)), (0, .ref a), (2, .int x2_18)]) hx hb dX6_closes_59 hl (k := 1) rfl rfl (by decide) rfl (fun ls hl => ?_)
        refine lv_goto (tgt := 2) hx hb dX6_closes_62 (by decide) ?_
        exact ih (x1_1 + 1) s_19 _ _ _ hw hC (lv_sub hl [1, 0] rfl)
  have L69 : ∀ (K : Int32 → Int32 → (Nat → Int32) → Prop) (hKK : ∀ (x1_23 : Int32) (x2_24 : Int32) (s_25 : (Nat → Int32)) (H : Heap) (locs : List Loc) (ls : Array Slot), K x1_23 x2_24 s_25 → Cx D A s.heap (wA cI 64 a s_25) H locs → lv_has ls 4 [(0, .ref a), (1, .int x1_23), (2, .int x2_24)] → W p l e (Rm 2 44) s m [.ref a].toArray below meth c H locs 0 0 (QI below D cI A (wA cI 64 a) post [.ref a].toArray s) (F0 m 102 ls [])) (n : Nat), ∀ (x1_23 : Int32) (x2_24 : Int32) (s_25 : (Nat → Int32)) (H : Heap) (locs : List Loc) (ls : Array Slot), w_X6_closes_L69 post K n x1_23 x2_24 s_25 → Cx D A s.heap (wA cI 64 a s_25) H locs → lv_has ls 4 [(0, .ref a), (1, .int x1_23), (2, .int x2_24)] → W p l e (Rm 2 44) s m [.ref a].toArray below meth c H locs 0 0 (QI below D cI A (wA cI 64 a) post [.ref a].toArray s) (F0 m 69 ls []) := by
    intro  K hKK n
    induction n with
    | zero => intro x1_23 x2_24 s_25 H locs ls hw; exact hw.elim
    | succ n ih =>
      intro x1_23 x2_24 s_25 H locs ls hw hC hl
      refine lv_iload_n hx hb dX6_closes_69 rfl (lv_at hl 2 rfl) ?_
      refine lv_bipush (v := 8) hx hb dX6_closes_70 (by decide) ?_
      refine lv_icmp_ge (tgt := 102) hx hb dX6_closes_72 (by decide) (fun c_26 => ?_) (fun c_26 => ?_)
      · have hw := hw.1 c_26
        exact hKK x1_23 x2_24 s_25 _ _ _ hw hC (lv_sub hl [0, 1, 2] rfl)
      · have hw := hw.2 c_26
        refine lv_iload_n hx hb dX6_closes_75 rfl (lv_at hl 1 rfl) ?_
        refine lv_if_eq (tgt := 94) hx hb dX6_closes_76 (by decide) (fun c_27 => ?_) (fun c_27 => ?_)
        · have hw := hw.1 c_27
          refine lv_iconst (v := 0) hx hb dX6_closes_94 (by decide) ?_
          refine lv_istore_n (lv' := [(1, .int 0), (0, .ref a), (2, .int x2_24)]) hx hb dX6_closes_95 rfl hl (by decide) rfl (fun ls hl => ?_)
          refine lv_iinc (v := (x2_24 + 1)) (lv' := [(2, .int (x2_24 + 1)), (1, .int 0), (0, .ref a)]) hx hb dX6_closes_96 hl (k := 2) rfl rfl (by decide) rfl (fun ls hl => ?_)
          refine lv_goto (tgt := 69) hx hb dX6_closes_99 (by decide) ?_
          exact ih 0 (x2_24 + 1) s_25 _ _ _ hw hC (lv_sub hl [2, 1, 0] rfl)
        · have hw := hw.2 c_27
          refine lv_aload_n hx hb dX6_closes_79 rfl (lv_at hl 0 rfl) ?_
          refine lv_bipush (v := 8) hx hb dX6_closes_80 (by decide) ?_
          refine lv_iload_n hx hb dX6_closes_82 rfl (lv_at hl 2 rfl) ?_
          refine lv_imul hx hb dX6_closes_83 ?_
          refine lv_iload_n hx hb dX6_closes_84 rfl (lv_at hl 2 rfl) ?_
          refine lv_iadd hx hb dX6_closes_85 ?_
          refine cx_iald (f := s_25) hx hb hK hC 0 rfl hw.1 dX6_closes_86 ?_
          have hw := hw.2
          refine lv_if_lt (tgt := 94) hx hb dX6_closes_87 (by decide) (fun c_28 => ?_) (fun c_28 => ?_)
          · have hw := hw.1 c_28
            refine lv_iconst (v := 0) hx hb dX6_closes_94 (by decide) ?_
            refine lv_istore_n (lv' := [(1, .int 0), (0, .ref a), (2, .int x2_24)]) hx hb dX6_closes_95 rfl hl (by decide) rfl (fun ls hl => ?_)
            refine lv_iinc (v := (x2_24 + 1)) (lv' := [(2, .int (x2_24 + 1)), (1, .int 0), (0, .ref a)]) hx hb dX6_closes_96 hl (k := 2) rfl rfl (by decide) rfl (fun ls hl => ?_)
            refine lv_goto (tgt := 69) hx hb dX6_closes_99 (by decide) ?_
            exact ih 0 (x2_24 + 1) s_25 _ _ _ hw hC (lv_sub hl [2, 1, 0] rfl)
          · have hw := hw.2 c_28
            refine lv_iconst (v := 1) hx hb dX6_closes_90 (by decide) ?_
            refine lv_goto (tgt := 95) hx hb dX6_closes_91 (by decide) ?_
            refine lv_istore_n (lv' := [(1, .int 1), (0, .ref a), (2, .int x2_24)]) hx hb dX6_closes_95 rfl hl (by decide) rfl (fun ls hl => ?_)
            refine lv_iinc (v := (x2_24 + 1)) (lv' := [(2, .int (x2_24 + 1)), (1, .int 1), (0, .ref a)]) hx hb dX6_closes_96 hl (k := 2) rfl rfl (by decide) rfl (fun ls hl => ?_)
            refine lv_goto (tgt := 69) hx hb dX6_closes_99 (by decide) ?_
            exact ih 1 (x2_24 + 1) s_25 _ _ _ hw hC (lv_sub hl [2, 1, 0] rfl)
  refine lv_iconst (v := 0) hx hb dX6_closes_0 (by decide) ?_
  refine lv_istore_n (lv' := [(1, .int 0), (0, .ref a)]) hx hb dX6_closes_1 rfl hl (by decide) rfl (fun ls hl => ?_)
  obtain ⟨n, hw⟩ := hw
  refine L2  _ (fun x1_21 s_22 H locs ls hw hC hl => ?_) n 0 f _ _ _ hw hC (lv_sub hl [1, 0] rfl)
  refine lv_iconst (v := 1) hx hb dX6_closes_65 (by decide) ?_
  refine lv_istore_n (lv' := [(1, .int 1), (0, .ref a)]) hx hb dX6_closes_66 rfl hl (by decide) rfl (fun ls hl => ?_)
  refine lv_iconst (v := 0) hx hb dX6_closes_67 (by decide) ?_
  refine lv_istore_n (lv' := [(2, .int 0), (1, .int 1), (0, .ref a)]) hx hb dX6_closes_68 rfl hl (by decide) rfl (fun ls hl => ?_)
  obtain ⟨n, hw⟩ := hw
  refine L69  _ (fun x1_29 x2_30 s_31 H locs ls hw hC hl => ?_) n 1 0 s_22 _ _ _ hw hC (lv_sub hl [2, 1, 0] rfl)
  refine lv_iload_n hx hb dX6_closes_102 rfl (lv_at hl 1 rfl) ?_
  exact cx_ret_z (u := s_31) hx hb hr hlocks hK hC hw.1 hw.2 dX6_closes_103

/-! PictureHeapModel.bits(I)I (X6_bits) -/
set_option maxHeartbeats 1000000 in
set_option maxRecDepth 100000 in
theorem c_X6_bits (l : Launch) (D : va_G) (cI : ClassId) (sz : Nat) (x0 : Int32) (post : Int32 → Unit → Prop) (hw : w_X6_bits x0 post) : Ci l yX6_bits wsX6_bits 0 0 D cI [] sz [.int x0] (fun _ : Unit => ([] : va_W)) post := by
  refine mo_i (cc := cX6_bits) (maxL := 3) (ret := (some .int)) (by decide) rfl (Nat.le_of_ble_eq_true rfl) ?_
  intro p e s m below meth c hx hb hr hml hts hown hlocks hK A hA hC ls hl
  have hown : s.vm.findClass RX6 = some m.cls := hown
  have hl : lv_has ls 3 [(0, .int x0)] := hl
  have L4 : ∀ (K : Int32 → Int32 → Prop) (hKK : ∀ (x1_1 : Int32) (x2_2 : Int32) (H : Heap) (locs : List Loc) (ls : Array Slot), K x1_1 x2_2 → Cx D A s.heap ((fun _ : Unit => ([] : va_W)) ()) H locs → lv_has ls 3 [(1, .int x1_1), (2, .int x2_2)] → W p l e (Rm 0 0) s m [.int x0].toArray below meth c H locs 0 0 (QI below D cI A (fun _ : Unit => ([] : va_W)) post [.int x0].toArray s) (F0 m 20 ls [])) (n : Nat), ∀ (x1_1 : Int32) (x2_2 : Int32) (H : Heap) (locs : List Loc) (ls : Array Slot), w_X6_bits_L4 post K n x1_1 x2_2 → Cx D A s.heap ((fun _ : Unit => ([] : va_W)) ()) H locs → lv_has ls 3 [(1, .int x1_1), (2, .int x2_2)] → W p l e (Rm 0 0) s m [.int x0].toArray below meth c H locs 0 0 (QI below D cI A (fun _ : Unit => ([] : va_W)) post [.int x0].toArray s) (F0 m 4 ls []) := by
    intro  K hKK n
    induction n with
    | zero => intro x1_1 x2_2 H locs ls hw; exact hw.elim
    | succ n ih =>
      intro x1_1 x2_2 H locs ls hw hC hl
      refine lv_iload_n hx hb dX6_bits_4 rfl (lv_at hl 1 rfl) ?_
      refine lv_if_eq (tgt := 20) hx hb dX6_bits_5 (by decide) (fun c_3 => ?_) (fun c_3 => ?_)
      · have hw := hw.1 c_3
        exact hKK x1_1 x2_2 _ _ _ hw hC (lv_sub hl [0, 1] rfl)
      · have hw := hw.2 c_3
        refine lv_iinc (v := (x1_1 + 1)) (lv' := [(1, .int (x1_1 + 1)), (2, .int x2_2)]) hx hb dX6_bits_8 hl (k := 0) rfl rfl (by decide) rfl (fun ls hl => ?_)
        refine lv_iload_n hx hb dX6_bits_11 rfl (lv_at hl 1 rfl) ?_
        refine lv_iload_n hx hb dX6_bits_12 rfl (lv_at hl 1 rfl) ?_
        refine lv_iconst (v := 1) hx hb dX6_bits_13 (by decide) ?_
        refine lv_isub hx hb dX6_bits_14 ?_
        refine lv_iand hx hb dX6_bits_15 ?_
        refine lv_istore_n (lv' := [(2, .int (x2_2 &&& (x2_2 - 1))), (1, .int (x1_1 + 1))]) hx hb dX6_bits_16 rfl hl (by decide) rfl (fun ls hl => ?_)
        refine lv_goto (tgt := 4) hx hb dX6_bits_17 (by decide) ?_
        exact ih (x1_1 + 1) (x2_2 &&& (x2_2 - 1)) _ _ _ hw hC (lv_sub hl [1, 0] rfl)
  refine lv_iconst (v := 0) hx hb dX6_bits_0 (by decide) ?_
  refine lv_istore_n (lv' := [(1, .int 0), (0, .int x0)]) hx hb dX6_bits_1 rfl hl (by decide) rfl (fun ls hl => ?_)
  refine lv_iload_n hx hb dX6_bits_2 rfl (lv_at hl 1 rfl) ?_
  refine lv_istore_n (lv' := [(2, .int x0), (1, .int 0), (0, .int x0)]) hx hb dX6_bits_3 rfl hl (by decide) rfl (fun ls hl => ?_)
  obtain ⟨n, hw⟩ := hw
  refine L4  _ (fun x1_4 x2_5 H locs ls hw hC hl => ?_) n 0 x0 _ _ _ hw hC (lv_sub hl [1, 0] rfl)
  refine lv_iload_n hx hb dX6_bits_20 rfl (lv_at hl 0 rfl) ?_
  exact cx_ret_i (u := ()) hx hb hr hlocks hK hC hw dX6_bits_21
