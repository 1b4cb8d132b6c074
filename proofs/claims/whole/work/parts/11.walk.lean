/-! PictureHeap$Atlas.has(I)Z (X1_has) -/
set_option maxHeartbeats 1000000 in
set_option maxRecDepth 100000 in
theorem c_X1_has (l : Launch) (D : va_G) (cI : ClassId) (q : Nat → Nat) (sz : Nat) (σ : St) (x1 : Int32) (post : Int32 → St → Prop) (hw : w_X1_has σ x1 post) : Ci l yX1_has wsX1_has 0 0 D cI (wX cI q σ) sz [.ref (q 2), .int x1] (wX cI q) post := by
  refine mo_i (cc := cX1_has) (maxL := 2) (ret := (some .boolean)) (by decide) rfl (Nat.le_of_ble_eq_true rfl) ?_
  intro p e s m below meth c hx hb hr hml hts hown hlocks hK A hA hC ls hl
  have hown : s.vm.findClass RX1 = some m.cls := hown
  have hl : lv_has ls 2 [(0, .ref (q 2)), (1, .int x1)] := hl
  have u1 : (Cond.fieldLink RX1 15 "PictureHeap$Atlas" "size" "I").before [.ref (q 2), .int x1].toArray s = true := hts _ (List.mem_of_getElem? (i := 1) rfl)
  have iX1 : ∀ w ∈ wsX10, w ∈ wsX1_has := fun _ h => List.mem_cons_of_mem _ (List.mem_append_right _ h)
  refine lv_iload_n hx hb dX1_has_0 rfl (lv_at hl 1 rfl) ?_
  refine lv_if_lt (tgt := 16) hx hb dX1_has_1 (by decide) (fun c_1 => ?_) (fun c_1 => ?_)
  · have hw := hw.1 c_1
    refine lv_iconst (v := 0) hx hb dX1_has_16 (by decide) ?_
    exact cx_ret_z (u := σ) hx hb hr hlocks hK hC rfl hw dX1_has_17
  · have hw := hw.2 c_1
    refine lv_iload_n hx hb dX1_has_4 rfl (lv_at hl 1 rfl) ?_
    refine lv_aload_n hx hb dX1_has_5 rfl (lv_at hl 0 rfl) ?_
    refine cx_get (v := .int (σ.1 5)) hx hb hts iX1 hown hK hC 2 rfl rfl 1 (by decide) u1 rfl rfl dX1_has_6 ?_
    refine lv_icmp_ge (tgt := 16) hx hb dX1_has_9 (by decide) (fun c_2 => ?_) (fun c_2 => ?_)
    · have hw := hw.1 c_2
      refine lv_iconst (v := 0) hx hb dX1_has_16 (by decide) ?_
      exact cx_ret_z (u := σ) hx hb hr hlocks hK hC rfl hw dX1_has_17
    · have hw := hw.2 c_2
      refine lv_iconst (v := 1) hx hb dX1_has_12 (by decide) ?_
      refine lv_goto (tgt := 17) hx hb dX1_has_13 (by decide) ?_
      exact cx_ret_z (u := σ) hx hb hr hlocks hK hC rfl hw dX1_has_17

/-! PictureHeap$Atlas.tell(III)V (X1_tell) -/
set_option maxHeartbeats 1000000 in
set_option maxRecDepth 100000 in
theorem c_X1_tell (l : Launch) (D : va_G) (cI : ClassId) (q : Nat → Nat) (sz : Nat) (σ : St) (x1 : Int32) (x2 : Int32) (x3 : Int32) (post : St → Prop) (hw : w_X1_tell σ x1 x2 x3 post) : Cv l yX1_tell wsX1_tell 0 0 D cI (wX cI q σ) sz [.ref (q 2), .int x1, .int x2, .int x3] (wX cI q) post := by
  refine mo_v (cc := cX1_tell) (maxL := 4) (ret := none) (by decide) rfl (Nat.le_of_ble_eq_true rfl) ?_
  intro p e s m below meth c hx hb hr hml hts hown hlocks hK A hA hC ls hl
  have hown : s.vm.findClass RX1 = some m.cls := hown
  have hl : lv_has ls 4 [(0, .ref (q 2)), (1, .int x1), (2, .int x2), (3, .int x3)] := hl
  have u1 : (Cond.fieldLink RX1 9 "PictureHeap$Atlas" "minutes" "[I").before [.ref (q 2), .int x1, .int x2, .int x3].toArray s = true := hts _ (List.mem_of_getElem? (i := 1) rfl)
  have iX1 : ∀ w ∈ wsX10, w ∈ wsX1_tell := fun _ h => List.mem_cons_of_mem _ (List.mem_append_right _ h)
  refine lv_aload_n hx hb dX1_tell_0 rfl (lv_at hl 0 rfl) ?_
  refine cx_get (v := .ref (q 11)) hx hb hts iX1 hown hK hC 2 rfl rfl 0 (by decide) u1 rfl rfl dX1_tell_1 ?_
  refine lv_iload_n hx hb dX1_tell_4 rfl (lv_at hl 1 rfl) ?_
  refine lv_bipush (v := 10) hx hb dX1_tell_5 (by decide) ?_
  refine lv_imul hx hb dX1_tell_7 ?_
  refine lv_iload_n hx hb dX1_tell_8 rfl (lv_at hl 2 rfl) ?_
  refine lv_iadd hx hb dX1_tell_9 ?_
  refine lv_iload_n hx hb dX1_tell_10 rfl (lv_at hl 3 rfl) ?_
  refine cx_iast (f := σ.2 4) hx hb hK hC 11 rfl hw.1 dX1_tell_11 (ws' := (wX cI q (σ.1, (va_up σ.2 4 (upd (σ.2 4) (Int32.toNatClampNeg ((x1 * 10) + x2)) x3))))) (wX_a4 cI q _ _) (fun H locs hC => ?_)
  have hw := hw.2
  refine lv_aload_n hx hb dX1_tell_12 rfl (lv_at hl 0 rfl) ?_
  refine cx_get (v := .ref (q 11)) hx hb hts iX1 hown hK hC 2 rfl rfl 0 (by decide) u1 rfl rfl dX1_tell_13 ?_
  refine lv_iload_n hx hb dX1_tell_16 rfl (lv_at hl 2 rfl) ?_
  refine lv_bipush (v := 10) hx hb dX1_tell_17 (by decide) ?_
  refine lv_imul hx hb dX1_tell_19 ?_
  refine lv_iload_n hx hb dX1_tell_20 rfl (lv_at hl 1 rfl) ?_
  refine lv_iadd hx hb dX1_tell_21 ?_
  refine lv_iload_n hx hb dX1_tell_22 rfl (lv_at hl 3 rfl) ?_
  refine cx_iast (f := (upd (σ.2 4) (Int32.toNatClampNeg ((x1 * 10) + x2)) x3)) hx hb hK hC 11 rfl hw.1 dX1_tell_23 (ws' := (wX cI q (σ.1, (va_up (va_up σ.2 4 (upd (σ.2 4) (Int32.toNatClampNeg ((x1 * 10) + x2)) x3)) 4 (upd ((upd (σ.2 4) (Int32.toNatClampNeg ((x1 * 10) + x2)) x3)) (Int32.toNatClampNeg ((x2 * 10) + x1)) x3))))) (wX_a4 cI q _ _) (fun H locs hC => ?_)
  have hw := hw.2
  exact cx_ret_v (u := (σ.1, (va_up (va_up σ.2 4 (upd (σ.2 4) (Int32.toNatClampNeg ((x1 * 10) + x2)) x3)) 4 (upd ((upd (σ.2 4) (Int32.toNatClampNeg ((x1 * 10) + x2)) x3)) (Int32.toNatClampNeg ((x2 * 10) + x1)) x3)))) hx hb hr hlocks hK hC hw dX1_tell_24

/-! PictureHeap$Album.take(IIII)I (X0_take) -/
set_option maxHeartbeats 1000000 in
set_option maxRecDepth 100000 in
theorem c_X0_take (l : Launch) (D : va_G) (cI : ClassId) (q : Nat → Nat) (sz : Nat) (σ : St) (x1 : Int32) (x2 : Int32) (x3 : Int32) (x4 : Int32) (post : Int32 → St → Prop) (hw : w_X0_take σ x1 x2 x3 x4 post) : Ci l yX0_take wsX0_take 0 0 D cI (wX cI q σ) sz [.ref (q 1), .int x1, .int x2, .int x3, .int x4] (wX cI q) post := by
  refine mo_i (cc := cX0_take) (maxL := 6) (ret := (some .int)) (by decide) rfl (Nat.le_of_ble_eq_true rfl) ?_
  intro p e s m below meth c hx hb hr hml hts hown hlocks hK A hA hC ls hl
  have hown : s.vm.findClass RX0 = some m.cls := hown
  have hl : lv_has ls 6 [(0, .ref (q 1)), (1, .int x1), (2, .int x2), (3, .int x3), (4, .int x4)] := hl
  have u1 : (Cond.fieldLink RX0 24 "PictureHeap$Album" "size" "I").before [.ref (q 1), .int x1, .int x2, .int x3, .int x4].toArray s = true := hts _ (List.mem_of_getElem? (i := 1) rfl)
  have u2 : (Cond.fieldLink RX0 9 "PictureHeap$Album" "cameraOf" "[I").before [.ref (q 1), .int x1, .int x2, .int x3, .int x4].toArray s = true := hts _ (List.mem_of_getElem? (i := 2) rfl)
  have u3 : (Cond.fieldLink RX0 15 "PictureHeap$Album" "clockOf" "[I").before [.ref (q 1), .int x1, .int x2, .int x3, .int x4].toArray s = true := hts _ (List.mem_of_getElem? (i := 3) rfl)
  have u4 : (Cond.fieldLink RX0 18 "PictureHeap$Album" "marksOf" "[I").before [.ref (q 1), .int x1, .int x2, .int x3, .int x4].toArray s = true := hts _ (List.mem_of_getElem? (i := 4) rfl)
  have u5 : (Cond.fieldLink RX0 21 "PictureHeap$Album" "placeOf" "[I").before [.ref (q 1), .int x1, .int x2, .int x3, .int x4].toArray s = true := hts _ (List.mem_of_getElem? (i := 5) rfl)
  have iX0 : ∀ w ∈ wsX00, w ∈ wsX0_take := fun _ h => List.mem_cons_of_mem _ (List.mem_append_right _ h)
  refine lv_aload_n hx hb dX0_take_0 rfl (lv_at hl 0 rfl) ?_
  refine cx_get (v := .int (σ.1 4)) hx hb hts iX0 hown hK hC 1 rfl rfl 4 (by decide) u1 rfl rfl dX0_take_1 ?_
  refine lv_istore (lv' := [(5, .int (σ.1 4)), (0, .ref (q 1)), (1, .int x1), (2, .int x2), (3, .int x3), (4, .int x4)]) hx hb dX0_take_4 hl (by decide) rfl (fun ls hl => ?_)
  refine lv_aload_n hx hb dX0_take_6 rfl (lv_at hl 1 rfl) ?_
  refine cx_get (v := .ref (q 7)) hx hb hts iX0 hown hK hC 1 rfl rfl 0 (by decide) u2 rfl rfl dX0_take_7 ?_
  refine lv_iload hx hb dX0_take_10 (lv_at hl 0 rfl) ?_
  refine lv_iload_n hx hb dX0_take_12 rfl (lv_at hl 2 rfl) ?_
  refine cx_iast (f := σ.2 0) hx hb hK hC 7 rfl hw.1 dX0_take_13 (ws' := (wX cI q (σ.1, (va_up σ.2 0 (upd (σ.2 0) (Int32.toNatClampNeg (σ.1 4)) x1))))) (wX_a0 cI q _ _) (fun H locs hC => ?_)
  have hw := hw.2
  refine lv_aload_n hx hb dX0_take_14 rfl (lv_at hl 1 rfl) ?_
  refine cx_get (v := .ref (q 8)) hx hb hts iX0 hown hK hC 1 rfl rfl 1 (by decide) u3 rfl rfl dX0_take_15 ?_
  refine lv_iload hx hb dX0_take_18 (lv_at hl 0 rfl) ?_
  refine lv_iload_n hx hb dX0_take_20 rfl (lv_at hl 3 rfl) ?_
  refine cx_iast (f := σ.2 1) hx hb hK hC 8 rfl hw.1 dX0_take_21 (ws' := (wX cI q (σ.1, (va_up (va_up σ.2 0 (upd (σ.2 0) (Int32.toNatClampNeg (σ.1 4)) x1)) 1 (upd (σ.2 1) (Int32.toNatClampNeg (σ.1 4)) x2))))) (wX_a1 cI q _ _) (fun H locs hC => ?_)
  have hw := hw.2
  refine lv_aload_n hx hb dX0_take_22 rfl (lv_at hl 1 rfl) ?_
  refine cx_get (v := .ref (q 9)) hx hb hts iX0 hown hK hC 1 rfl rfl 2 (by decide) u4 rfl rfl dX0_take_23 ?_
  refine lv_iload hx hb dX0_take_26 (lv_at hl 0 rfl) ?_
  refine lv_iload_n hx hb dX0_take_28 rfl (lv_at hl 4 rfl) ?_
  refine cx_iast (f := σ.2 2) hx hb hK hC 9 rfl hw.1 dX0_take_29 (ws' := (wX cI q (σ.1, (va_up (va_up (va_up σ.2 0 (upd (σ.2 0) (Int32.toNatClampNeg (σ.1 4)) x1)) 1 (upd (σ.2 1) (Int32.toNatClampNeg (σ.1 4)) x2)) 2 (upd (σ.2 2) (Int32.toNatClampNeg (σ.1 4)) x3))))) (wX_a2 cI q _ _) (fun H locs hC => ?_)
  have hw := hw.2
  refine lv_aload_n hx hb dX0_take_30 rfl (lv_at hl 1 rfl) ?_
  refine cx_get (v := .ref (q 10)) hx hb hts iX0 hown hK hC 1 rfl rfl 3 (by decide) u5 rfl rfl dX0_take_31 ?_
  refine lv_iload hx hb dX0_take_34 (lv_at hl 0 rfl) ?_
  refine lv_iload hx hb dX0_take_36 (lv_at hl 5 rfl) ?_
  refine cx_iast (f := σ.2 3) hx hb hK hC 10 rfl hw.1 dX0_take_38 (ws' := (wX cI q (σ.1, (va_up (va_up (va_up (va_up σ.2 0 (upd (σ.2 0) (Int32.toNatClampNeg (σ.1 4)) x1)) 1 (upd (σ.2 1) (Int32.toNatClampNeg (σ.1 4)) x2)) 2 (upd (σ.2 2) (Int32.toNatClampNeg (σ.1 4)) x3)) 3 (upd (σ.2 3) (Int32.toNatClampNeg (σ.1 4)) x4))))) (wX_a3 cI q _ _) (fun H locs hC => ?_)
  have hw := hw.2
  refine lv_aload_n hx hb dX0_take_39 rfl (lv_at hl 1 rfl) ?_
  refine lv_dup hx hb dX0_take_40 rfl ?_
  refine cx_get (v := .int (σ.1 4)) hx hb hts iX0 hown hK hC 1 rfl rfl 4 (by decide) u1 rfl rfl dX0_take_41 ?_
  refine lv_iconst (v := 1) hx hb dX0_take_44 (by decide) ?_
  refine lv_iadd hx hb dX0_take_45 ?_
  refine cx_put (v := .int ((σ.1 4) + 1)) hx hb hts iX0 tyX0 tyX0_ok nmX0 hown hK hC 1 rfl rfl 4 (by decide) u1 rfl rfl (tyX0_ok 4 (by decide)) rfl rfl (Nat.le_of_ble_eq_true rfl) dX0_take_46 (ws' := (wX cI q ((va_up σ.1 4 ((σ.1 4) + 1)), (va_up (va_up (va_up (va_up σ.2 0 (upd (σ.2 0) (Int32.toNatClampNeg (σ.1 4)) x1)) 1 (upd (σ.2 1) (Int32.toNatClampNeg (σ.1 4)) x2)) 2 (upd (σ.2 2) (Int32.toNatClampNeg (σ.1 4)) x3)) 3 (upd (σ.2 3) (Int32.toNatClampNeg (σ.1 4)) x4))))) (wX_i4 cI q _ _) (fun H locs hC => ?_)
  refine lv_iload hx hb dX0_take_49 (lv_at hl 0 rfl) ?_
  exact cx_ret_i (u := ((va_up σ.1 4 ((σ.1 4) + 1)), (va_up (va_up (va_up (va_up σ.2 0 (upd (σ.2 0) (Int32.toNatClampNeg (σ.1 4)) x1)) 1 (upd (σ.2 1) (Int32.toNatClampNeg (σ.1 4)) x2)) 2 (upd (σ.2 2) (Int32.toNatClampNeg (σ.1 4)) x3)) 3 (upd (σ.2 3) (Int32.toNatClampNeg (σ.1 4)) x4)))) hx hb hr hlocks hK hC hw dX0_take_51

/-! PictureHeap$Album.has(I)Z (X0_has) -/
set_option maxHeartbeats 1000000 in
set_option maxRecDepth 100000 in
theorem c_X0_has (l : Launch) (D : va_G) (cI : ClassId) (q : Nat → Nat) (sz : Nat) (σ : St) (x1 : Int32) (post : Int32 → St → Prop) (hw : w_X0_has σ x1 post) : Ci l yX0_has wsX0_has 0 0 D cI (wX cI q σ) sz [.ref (q 1), .int x1] (wX cI q) post := by
  refine mo_i (cc := cX0_has) (maxL := 2) (ret := (some .boolean)) (by decide) rfl (Nat.le_of_ble_eq_true rfl) ?_
  intro p e s m below meth c hx hb hr hml hts hown hlocks hK A hA hC ls hl
  have hown : s.vm.findClass RX0 = some m.cls := hown
  have hl : lv_has ls 2 [(0, .ref (q 1)), (1, .int x1)] := hl
  have u1 : (Cond.fieldLink RX0 24 "PictureHeap$Album" "size" "I").before [.ref (q 1), .int x1].toArray s = true := hts _ (List.mem_of_getElem? (i := 1) rfl)
  have iX0 : ∀ w ∈ wsX00, w ∈ wsX0_has := fun _ h => List.mem_cons_of_mem _ (List.mem_append_right _ h)
  refine lv_iload_n hx hb dX0_has_0 rfl (lv_at hl 1 rfl) ?_
  refine lv_if_lt (tgt := 16) hx hb dX0_has_1 (by decide) (fun c_1 => ?_) (fun c_1 => ?_)
  · have hw := hw.1 c_1
    refine lv_iconst (v := 0) hx hb dX0_has_16 (by decide) ?_
    exact cx_ret_z (u := σ) hx hb hr hlocks hK hC rfl hw dX0_has_17
  · have hw := hw.2 c_1
    refine lv_iload_n hx hb dX0_has_4 rfl (lv_at hl 1 rfl) ?_
    refine lv_aload_n hx hb dX0_has_5 rfl (lv_at hl 0 rfl) ?_
    refine cx_get (v := .int (σ.1 4)) hx hb hts iX0 hown hK hC 1 rfl rfl 4 (by decide) u1 rfl rfl dX0_has_6 ?_
    refine lv_icmp_ge (tgt := 16) hx hb dX0_has_9 (by decide) (fun c_2 => ?_) (fun c_2 => ?_)
    · have hw := hw.1 c_2
      refine lv_iconst (v := 0) hx hb dX0_has_16 (by decide) ?_
      exact cx_ret_z (u := σ) hx hb hr hlocks hK hC rfl hw dX0_has_17
    · have hw := hw.2 c_2
      refine lv_iconst (v := 1) hx hb dX0_has_12 (by decide) ?_
      refine lv_goto (tgt := 17) hx hb dX0_has_13 (by decide) ?_
      exact cx_ret_z (u := σ) hx hb hr hlocks hK hC rfl hw dX0_has_17

/-! PictureHeap$Ties.take(IIII)I (X3_take) -/
set_option maxHeartbeats 1000000 in
set_option maxRecDepth 100000 in
theorem c_X3_take (l : Launch) (D : va_G) (cI : ClassId) (q : Nat → Nat) (sz : Nat) (σ : St) (x1 : Int32) (x2 : Int32) (x3 : Int32) (x4 : Int32) (post : Int32 → St → Prop) (hw : w_X3_take σ x1 x2 x3 x4 post) : Ci l yX3_take wsX3_take 2 51 D cI (wX cI q σ) sz [.ref (q 3), .int x1, .int x2, .int x3, .int x4] (wX cI q) post := by
  refine mo_i (cc := cX3_take) (maxL := 5) (ret := (some .int)) (by decide) rfl (Nat.le_of_ble_eq_true rfl) ?_
  intro p e s m below meth c hx hb hr hml hts hown hlocks hK A hA hC ls hl
  have hown : s.vm.findClass RX3 = some m.cls := hown
  have hl : lv_has ls 5 [(0, .ref (q 3)), (1, .int x1), (2, .int x2), (3, .int x3), (4, .int x4)] := hl
  have u1 : (Cond.fieldLink RX3 9 "PictureHeap$Ties" "number" "[I").before [.ref (q 3), .int x1, .int x2, .int x3, .int x4].toArray s = true := hts _ (List.mem_of_getElem? (i := 1) rfl)
  have u2 : (Cond.fieldLink RX3 43 "PictureHeap$Ties" "size" "I").before [.ref (q 3), .int x1, .int x2, .int x3, .int x4].toArray s = true := hts _ (List.mem_of_getElem? (i := 2) rfl)
  have u3 : (Cond.fieldLink RX3 47 "PictureHeap$Ties" "everTaken" "I").before [.ref (q 3), .int x1, .int x2, .int x3, .int x4].toArray s = true := hts _ (List.mem_of_getElem? (i := 3) rfl)
  have u4 : (Cond.fieldLink RX3 15 "PictureHeap$Ties" "one" "[I").before [.ref (q 3), .int x1, .int x2, .int x3, .int x4].toArray s = true := hts _ (List.mem_of_getElem? (i := 4) rfl)
  have u5 : (Cond.fieldLink RX3 18 "PictureHeap$Ties" "other" "[I").before [.ref (q 3), .int x1, .int x2, .int x3, .int x4].toArray s = true := hts _ (List.mem_of_getElem? (i := 5) rfl)
  have u6 : (Cond.fieldLink RX3 21 "PictureHeap$Ties" "least" "[I").before [.ref (q 3), .int x1, .int x2, .int x3, .int x4].toArray s = true := hts _ (List.mem_of_getElem? (i := 6) rfl)
  have u7 : (Cond.fieldLink RX3 24 "PictureHeap$Ties" "most" "[I").before [.ref (q 3), .int x1, .int x2, .int x3, .int x4].toArray s = true := hts _ (List.mem_of_getElem? (i := 7) rfl)
  have u8 : (Cond.fieldLink RX3 40 "PictureHeap$Ties" "agreed" "LPictureHeap$Offsets;").before [.ref (q 3), .int x1, .int x2, .int x3, .int x4].toArray s = true := hts _ (List.mem_of_getElem? (i := 8) rfl)
  have iX3 : ∀ w ∈ wsX30, w ∈ wsX3_take := fun _ h => List.mem_cons_of_mem _ (List.mem_append_left _ (List.mem_append_right _ h))
  refine lv_aload_n hx hb dX3_take_0 rfl (lv_at hl 0 rfl) ?_
  refine cx_get (v := .ref (q 12)) hx hb hts iX3 hown hK hC 3 rfl rfl 0 (by decide) u1 rfl rfl dX3_take_1 ?_
  refine lv_aload_n hx hb dX3_take_4 rfl (lv_at hl 0 rfl) ?_
  refine cx_get (v := .int (σ.1 6)) hx hb hts iX3 hown hK hC 3 rfl rfl 9 (by decide) u2 rfl rfl dX3_take_5 ?_
  refine lv_aload_n hx hb dX3_take_8 rfl (lv_at hl 0 rfl) ?_
  refine cx_get (v := .int (σ.1 7)) hx hb hts iX3 hown hK hC 3 rfl rfl 10 (by decide) u3 rfl rfl dX3_take_9 ?_
  refine cx_iast (f := σ.2 5) hx hb hK hC 12 rfl hw.1 dX3_take_12 (ws' := (wX cI q (σ.1, (va_up σ.2 5 (upd (σ.2 5) (Int32.toNatClampNeg (σ.1 6)) (σ.1 7)))))) (wX_a5 cI q _ _) (fun H locs hC => ?_)
  have hw := hw.2
  refine lv_aload_n hx hb dX3_take_13 rfl (lv_at hl 0 rfl) ?_
  refine cx_get (v := .ref (q 13)) hx hb hts iX3 hown hK hC 3 rfl rfl 1 (by decide) u4 rfl rfl dX3_take_14 ?_
  refine lv_aload_n hx hb dX3_take_17 rfl (lv_at hl 0 rfl) ?_
  refine cx_get (v := .int (σ.1 6)) hx hb hts iX3 hown hK hC 3 rfl rfl 9 (by decide) u2 rfl rfl dX3_take_18 ?_
  refine lv_iload_n hx hb dX3_take_21 rfl (lv_at hl 1 rfl) ?_
  refine cx_iast (f := σ.2 6) hx hb hK hC 13 rfl hw.1 dX3_take_22 (ws' := (wX cI q (σ.1, (va_up (va_up σ.2 5 (upd (σ.2 5) (Int32.toNatClampNeg (σ.1 6)) (σ.1 7))) 6 (upd (σ.2 6) (Int32.toNatClampNeg (σ.1 6)) x1))))) (wX_a6 cI q _ _) (fun H locs hC => ?_)
  have hw := hw.2
  refine lv_aload_n hx hb dX3_take_23 rfl (lv_at hl 0 rfl) ?_
  refine cx_get (v := .ref (q 14)) hx hb hts iX3 hown hK hC 3 rfl rfl 2 (by decide) u5 rfl rfl dX3_take_24 ?_
  refine lv_aload_n hx hb dX3_take_27 rfl (lv_at hl 0 rfl) ?_
  refine cx_get (v := .int (σ.1 6)) hx hb hts iX3 hown hK hC 3 rfl rfl 9 (by decide) u2 rfl rfl dX3_take_28 ?_
  refine lv_iload_n hx hb dX3_take_31 rfl (lv_at hl 2 rfl) ?_
  refine cx_iast (f := σ.2 7) hx hb hK hC 14 rfl hw.1 dX3_take_32 (ws' := (wX cI q (σ.1, (va_up (va_up (va_up σ.2 5 (upd (σ.2 5) (Int32.toNatClampNeg (σ.1 6)) (σ.1 7))) 6 (upd (σ.2 6) (Int32.toNatClampNeg (σ.1 6)) x1)) 7 (upd (σ.2 7) (Int32.toNatClampNeg (σ.1 6)) x2))))) (wX_a7 cI q _ _) (fun H locs hC => ?_)
  have hw := hw.2
  refine lv_aload_n hx hb dX3_take_33 rfl (lv_at hl 0 rfl) ?_
  refine cx_get (v := .ref (q 15)) hx hb hts iX3 hown hK hC 3 rfl rfl 3 (by decide) u6 rfl rfl dX3_take_34 ?_
  refine lv_aload_n hx hb dX3_take_37 rfl (lv_at hl 0 rfl) ?_
  refine cx_get (v := .int (σ.1 6)) hx hb hts iX3 hown hK hC 3 rfl rfl 9 (by decide) u2 rfl rfl dX3_take_38 ?_
  refine lv_iload_n hx hb dX3_take_41 rfl (lv_at hl 3 rfl) ?_
  refine cx_iast (f := σ.2 8) hx hb hK hC 15 rfl hw.1 dX3_take_42 (ws' := (wX cI q (σ.1, (va_up (va_up (va_up (va_up σ.2 5 (upd (σ.2 5) (Int32.toNatClampNeg (σ.1 6)) (σ.1 7))) 6 (upd (σ.2 6) (Int32.toNatClampNeg (σ.1 6)) x1)) 7 (upd (σ.2 7) (Int32.toNatClampNeg (σ.1 6)) x2)) 8 (upd (σ.2 8) (Int32.toNatClampNeg (σ.1 6)) x3))))) (wX_a8 cI q _ _) (fun H locs hC => ?_)
  have hw := hw.2
  refine lv_aload_n hx hb dX3_take_43 rfl (lv_at hl 0 rfl) ?_
  refine cx_get (v := .ref (q 16)) hx hb hts iX3 hown hK hC 3 rfl rfl 4 (by decide) u7 rfl rfl dX3_take_44 ?_
  refine lv_aload_n hx hb dX3_take_47 rfl (lv_at hl 0 rfl) ?_
  refine cx_get (v := .int (σ.1 6)) hx hb hts iX3 hown hK hC 3 rfl rfl 9 (by decide) u2 rfl rfl dX3_take_48 ?_
  refine lv_iload hx hb dX3_take_51 (lv_at hl 4 rfl) ?_
  refine cx_iast (f := σ.2 9) hx hb hK hC 16 rfl hw.1 dX3_take_53 (ws' := (wX cI q (σ.1, (va_up (va_up (va_up (va_up (va_up σ.2 5 (upd (σ.2 5) (Int32.toNatClampNeg (σ.1 6)) (σ.1 7))) 6 (upd (σ.2 6) (Int32.toNatClampNeg (σ.1 6)) x1)) 7 (upd (σ.2 7) (Int32.toNatClampNeg (σ.1 6)) x2)) 8 (upd (σ.2 8) (Int32.toNatClampNeg (σ.1 6)) x3)) 9 (upd (σ.2 9) (Int32.toNatClampNeg (σ.1 6)) x4))))) (wX_a9 cI q _ _) (fun H locs hC => ?_)
  have hw := hw.2
  refine lv_aload_n hx hb dX3_take_54 rfl (lv_at hl 0 rfl) ?_
  refine lv_dup hx hb dX3_take_55 rfl ?_
  refine cx_get (v := .int (σ.1 6)) hx hb hts iX3 hown hK hC 3 rfl rfl 9 (by decide) u2 rfl rfl dX3_take_56 ?_
  refine lv_iconst (v := 1) hx hb dX3_take_59 (by decide) ?_
  refine lv_iadd hx hb dX3_take_60 ?_
  refine cx_put (v := .int ((σ.1 6) + 1)) hx hb hts iX3 tyX3 tyX3_ok nmX3 hown hK hC 3 rfl rfl 9 (by decide) u2 rfl rfl (tyX3_ok 9 (by decide)) rfl rfl (Nat.le_of_ble_eq_true rfl) dX3_take_61 (ws' := (wX cI q ((va_up σ.1 6 ((σ.1 6) + 1)), (va_up (va_up (va_up (va_up (va_up σ.2 5 (upd (σ.2 5) (Int32.toNatClampNeg (σ.1 6)) (σ.1 7))) 6 (upd (σ.2 6) (Int32.toNatClampNeg (σ.1 6)) x1)) 7 (upd (σ.2 7) (Int32.toNatClampNeg (σ.1 6)) x2)) 8 (upd (σ.2 8) (Int32.toNatClampNeg (σ.1 6)) x3)) 9 (upd (σ.2 9) (Int32.toNatClampNeg (σ.1 6)) x4))))) (wX_i6 cI q _ _) (fun H locs hC => ?_)
  refine lv_aload_n hx hb dX3_take_64 rfl (lv_at hl 0 rfl) ?_
  refine lv_dup hx hb dX3_take_65 rfl ?_
  refine cx_get (v := .int (σ.1 7)) hx hb hts iX3 hown hK hC 3 rfl rfl 10 (by decide) u3 rfl rfl dX3_take_66 ?_
  refine lv_iconst (v := 1) hx hb dX3_take_69 (by decide) ?_
  refine lv_iadd hx hb dX3_take_70 ?_
  refine cx_put (v := .int ((σ.1 7) + 1)) hx hb hts iX3 tyX3 tyX3_ok nmX3 hown hK hC 3 rfl rfl 10 (by decide) u3 rfl rfl (tyX3_ok 10 (by decide)) rfl rfl (Nat.le_of_ble_eq_true rfl) dX3_take_71 (ws' := (wX cI q ((va_up (va_up σ.1 6 ((σ.1 6) + 1)) 7 ((σ.1 7) + 1)), (va_up (va_up (va_up (va_up (va_up σ.2 5 (upd (σ.2 5) (Int32.toNatClampNeg (σ.1 6)) (σ.1 7))) 6 (upd (σ.2 6) (Int32.toNatClampNeg (σ.1 6)) x1)) 7 (upd (σ.2 7) (Int32.toNatClampNeg (σ.1 6)) x2)) 8 (upd (σ.2 8) (Int32.toNatClampNeg (σ.1 6)) x3)) 9 (upd (σ.2 9) (Int32.toNatClampNeg (σ.1 6)) x4))))) (wX_i7 cI q _ _) (fun H locs hC => ?_)
  refine lv_aload_n hx hb dX3_take_74 rfl (lv_at hl 0 rfl) ?_
  refine cx_get (v := .ref (q 6)) hx hb hts iX3 hown hK hC 3 rfl rfl 8 (by decide) u8 rfl rfl dX3_take_75 ?_
  refine lv_iload_n hx hb dX3_take_78 rfl (lv_at hl 1 rfl) ?_
  refine lv_iload_n hx hb dX3_take_79 rfl (lv_at hl 2 rfl) ?_
  refine lv_iload_n hx hb dX3_take_80 rfl (lv_at hl 3 rfl) ?_
  refine lv_iload hx hb dX3_take_81 (lv_at hl 4 rfl) ?_
  refine cx_callVv (As := [.int x1, .int x2, .int x3, .int x4]) (rest := []) (ws' := fun u_2 => (wX cI q ((va_up (va_up σ.1 6 ((σ.1 6) + 1)) 7 ((σ.1 7) + 1)), (va_up (va_up (va_up (va_up (va_up (va_up σ.2 5 (upd (σ.2 5) (Int32.toNatClampNeg (σ.1 6)) (σ.1 7))) 6 (upd (σ.2 6) (Int32.toNatClampNeg (σ.1 6)) x1)) 7 (upd (σ.2 7) (Int32.toNatClampNeg (σ.1 6)) x2)) 8 (upd (σ.2 8) (Int32.toNatClampNeg (σ.1 6)) x3)) 9 (upd (σ.2 9) (Int32.toNatClampNeg (σ.1 6)) x4)) 16 u_2)))) ⟨hx, hb, hml, hown, hts⟩ (c_X2_tighten l D cI (q 6) (q 23) _ (σ.2 16) x1 x2 x3 x4 _ hw) (cwV 4 hts gX3_take_X2_tighten rfl rfl rfl (by decide +kernel) ⟨Nat.le_of_ble_eq_true rfl, Nat.le_of_ble_eq_true rfl⟩) hK hC hA [6, 23] [0, 1, 2, 3, 4, 5, 7, 8, 9, 10, 11, 12, 13, 14, 15, 16, 17, 18, 19, 20, 21, 22] (by decide) rfl (wr := [_, _, _, _, _, _, _, _, _, _, _, _, _, _, _, _, _, _, _, _, _, _]) rfl (by decide) (by decide) 6 rfl rfl rfl rfl hl.1 rfl (Nat.le_of_ble_eq_true rfl) dX3_take_83 ⟨Nat.zero_le _, Nat.zero_le _⟩ [0, 1, 2, 3, 4, 5, 22, 6, 7, 8, 9, 10, 11, 12, 13, 14, 15, 16, 17, 18, 19, 20, 21, 23] (by decide) (fun _ => rfl) (fun u_2 H locs hw hC => ?_)
  refine lv_aload_n hx hb dX3_take_86 rfl (lv_at hl 0 rfl) ?_
  refine cx_get (v := .int ((σ.1 7) + 1)) hx hb hts iX3 hown hK hC 3 rfl rfl 10 (by decide) u3 rfl rfl dX3_take_87 ?_
  refine lv_iconst (v := 1) hx hb dX3_take_90 (by decide) ?_
  refine lv_isub hx hb dX3_take_91 ?_
  exact cx_ret_i (u := ((va_up (va_up σ.1 6 ((σ.1 6) + 1)) 7 ((σ.1 7) + 1)), (va_up (va_up (va_up (va_up (va_up (va_up σ.2 5 (upd (σ.2 5) (Int32.toNatClampNeg (σ.1 6)) (σ.1 7))) 6 (upd (σ.2 6) (Int32.toNatClampNeg (σ.1 6)) x1)) 7 (upd (σ.2 7) (Int32.toNatClampNeg (σ.1 6)) x2)) 8 (upd (σ.2 8) (Int32.toNatClampNeg (σ.1 6)) x3)) 9 (upd (σ.2 9) (Int32.toNatClampNeg (σ.1 6)) x4)) 16 u_2))) hx hb hr hlocks hK hC hw dX3_take_92

/-! PictureHeap$Ties.reachByOneTieMore()V (X3_reachByOneTieMore) -/
set_option maxHeartbeats 1000000 in
set_option maxRecDepth 100000 in
theorem c_X3_reachByOneTieMore (l : Launch) (D : va_G) (cI : ClassId) (q : Nat → Nat) (sz : Nat) (σ : St) (post : St → Prop) (hw : w_X3_reachByOneTieMore σ post) : Cv l yX3_reachByOneTieMore wsX3_reachByOneTieMore 2 42 D cI (wX cI q σ) sz [.ref (q 3)] (wX cI q) post := by
  refine mo_v (cc := cX3_reachByOneTieMore) (maxL := 4) (ret := none) (by decide) rfl (Nat.le_of_ble_eq_true rfl) ?_
  intro p e s m below meth c hx hb hr hml hts hown hlocks hK A hA hC ls hl
  have hown : s.vm.findClass RX3 = some m.cls := hown
  have hl : lv_has ls 4 [(0, .ref (q 3))] := hl
  have u1 : (Cond.fieldLink RX3 27 "PictureHeap$Ties" "reached" "[I").before [.ref (q 3)].toArray s = true := hts _ (List.mem_of_getElem? (i := 1) rfl)
  have u2 : (Cond.fieldLink RX3 30 "PictureHeap$Ties" "reachedNext" "[I").before [.ref (q 3)].toArray s = true := hts _ (List.mem_of_getElem? (i := 2) rfl)
  have u3 : (Cond.methodLink RX3 89 arraycopyName).before [.ref (q 3)].toArray s = true := hts _ (List.mem_of_getElem? (i := 3) rfl)
  have u4 : (Cond.native arraycopyName).before [.ref (q 3)].toArray s = true := hts _ (List.mem_of_getElem? (i := 4) rfl)
  have u5 : (Cond.static arraycopyName).before [.ref (q 3)].toArray s = true := hts _ (List.mem_of_getElem? (i := 5) rfl)
  have u6 : (Cond.initialized "java/lang/System").before [.ref (q 3)].toArray s = true := hts _ (List.mem_of_getElem? (i := 6) rfl)
  have u7 : (Cond.fieldLink RX3 43 "PictureHeap$Ties" "size" "I").before [.ref (q 3)].toArray s = true := hts _ (List.mem_of_getElem? (i := 7) rfl)
  have u8 : (Cond.fieldLink RX3 15 "PictureHeap$Ties" "one" "[I").before [.ref (q 3)].toArray s = true := hts _ (List.mem_of_getElem? (i := 8) rfl)
  have u9 : (Cond.fieldLink RX3 18 "PictureHeap$Ties" "other" "[I").before [.ref (q 3)].toArray s = true := hts _ (List.mem_of_getElem? (i := 9) rfl)
  have u10 : (Cond.fieldLink RX3 24 "PictureHeap$Ties" "most" "[I").before [.ref (q 3)].toArray s = true := hts _ (List.mem_of_getElem? (i := 10) rfl)
  have u11 : (Cond.methodLink RX3 69 Lib.Math.min.name).before [.ref (q 3)].toArray s = true := hts _ (List.mem_of_getElem? (i := 11) rfl)
  have u12 : (Cond.static Lib.Math.min.name).before [.ref (q 3)].toArray s = true := hts _ (List.mem_of_getElem? (i := 12) rfl)
  have u13 : (Cond.initialized "java/lang/Math").before [.ref (q 3)].toArray s = true := hts _ (List.mem_of_getElem? (i := 13) rfl)
  have u14 : (Cond.code Lib.Math.min.name Lib.Math.min.code 2 (some .int)).before [.ref (q 3)].toArray s = true := hts _ (List.mem_of_getElem? (i := 14) rfl)
  have u15 : (Cond.fieldLink RX3 21 "PictureHeap$Ties" "least" "[I").before [.ref (q 3)].toArray s = true := hts _ (List.mem_of_getElem? (i := 15) rfl)
  have iX3 : ∀ w ∈ wsX30, w ∈ wsX3_reachByOneTieMore := fun _ h => List.mem_cons_of_mem _ (List.mem_append_right _ h)
  have L17 : ∀ (K : Int32 → St → Prop) (hKK : ∀ (x1_1 : Int32) (s_2 : St) (H : Heap) (locs : List Loc) (ls : Array Slot), K x1_1 s_2 → Cx D A s.heap (wX cI q s_2) H locs → lv_has ls 4 [(0, .ref (q 3)), (1, .int x1_1)] → W p l e (Rm 2 42) s m [.ref (q 3)].toArray below meth c H locs 0 0 (QV below D cI A (wX cI q) post [.ref (q 3)].toArray s) (F0 m 101 ls [])) (n : Nat), ∀ (x1_1 : Int32) (s_2 : St) (H : Heap) (locs : List Loc) (ls : Array Slot), w_X3_reachByOneTieMore_L17 post K n x1_1 s_2 → Cx D A s.heap (wX cI q s_2) H locs → lv_has ls 4 [(0, .ref (q 3)), (1, .int x1_1)] → W p l e (Rm 2 42) s m [.ref (q 3)].toArray below meth c H locs 0 0 (QV below D cI A (wX cI q) post [.ref (q 3)].toArray s) (F0 m 17 ls []) := by
    intro  K hKK n
    induction n with
    | zero => intro x1_1 s_2 H locs ls hw; exact hw.elim
    | succ n ih =>
      intro x1_1 s_2 H locs ls hw hC hl
      refine lv_iload_n hx hb dX3_reachByOneTieMore_17 rfl (lv_at hl 1 rfl) ?_
      refine lv_aload_n hx hb dX3_reachByOneTieMore_18 rfl (lv_at hl 0 rfl) ?_
      refine cx_get (v := .int (s_2.1 6)) hx hb hts iX3 hown hK hC 3 rfl rfl 9 (by decide) u7 rfl rfl dX3_reachByOneTieMore_19 ?_
      refine lv_icmp_ge (tgt := 101) hx hb dX3_reachByOneTieMore_22 (by decide) (fun c_3 => ?_) (fun c_3 => ?_)
      · have hw := hw.1 c_3
        exact hKK x1_1 s_2 _ _ _ hw hC (lv_sub hl [0, 1] rfl)
      · have hw := hw.2 c_3
        refine lv_aload_n hx hb dX3_reachByOneTieMore_25 rfl (lv_at hl 0 rfl) ?_
        refine cx_get (v := .ref (q 13)) hx hb hts iX3 hown hK hC 3 rfl rfl 1 (by decide) u8 rfl rfl dX3_reachByOneTieMore_26 ?_
        refine lv_iload_n hx hb dX3_reachByOneTieMore_29 rfl (lv_at hl 1 rfl) ?_
        refine cx_iald (f := s_2.2 6) hx hb hK hC 13 rfl hw.1 dX3_reachByOneTieMore_30 ?_
        have hw := hw.2
        refine lv_istore_n (lv' := [(2, .int (s_2.2 6 (Int32.toNatClampNeg x1_1))), (0, .ref (q 3)), (1, .int x1_1)]) hx hb dX3_reachByOneTieMore_31 rfl hl (by decide) rfl (fun ls hl => ?_)
        refine lv_aload_n hx hb dX3_reachByOneTieMore_32 rfl (lv_at hl 1 rfl) ?_
        refine cx_get (v := .ref (q 14)) hx hb hts iX3 hown hK hC 3 rfl rfl 2 (by decide) u9 rfl rfl dX3_reachByOneTieMore_33 ?_
        refine lv_iload_n hx hb dX3_reachByOneTieMore_36 rfl (lv_at hl 2 rfl) ?_
        refine cx_iald (f := s_2.2 7) hx hb hK hC 14 rfl hw.1 dX3_reachByOneTieMore_37 ?_
        have hw := hw.2
        refine lv_istore_n (lv' := [(3, .int (s_2.2 7 (Int32.toNatClampNeg x1_1))), (2, .int (s_2.2 6 (Int32.toNatClampNeg x1_1))), (0, .ref (q 3)), (1, .int x1_1)]) hx hb dX3_reachByOneTieMore_38 rfl hl (by decide) rfl (fun ls hl => ?_)
        refine lv_aload_n hx hb dX3_reachByOneTieMore_39 rfl (lv_at hl 2 rfl) ?_
        refine cx_get (v := .ref (q 18)) hx hb hts iX3 hown hK hC 3 rfl rfl 6 (by decide) u2 rfl rfl dX3_reachByOneTieMore_40 ?_
        refine lv_iload_n hx hb dX3_reachByOneTieMore_43 rfl (lv_at hl 0 rfl) ?_
        refine lv_aload_n hx hb dX3_reachByOneTieMore_44 rfl (lv_at hl 2 rfl) ?_
        refine cx_get (v := .ref (q 18)) hx hb hts iX3 hown hK hC 3 rfl rfl 6 (by decide) u2 rfl rfl dX3_reachByOneTieMore_45 ?_
        refine lv_iload_n hx hb dX3_reachByOneTieMore_48 rfl (lv_at hl 0 rfl) ?_
        refine cx_iald (f := s_2.2 11) hx hb hK hC 18 rfl hw.1 dX3_reachByOneTieMore_49 ?_
        have hw := hw.2
        refine lv_aload_n hx hb dX3_reachByOneTieMore_50 rfl (lv_at hl 2 rfl) ?_
        refine cx_get (v := .ref (q 17)) hx hb hts iX3 hown hK hC 3 rfl rfl 5 (by decide) u1 rfl rfl dX3_reachByOneTieMore_51 ?_
        refine lv_iload_n hx hb dX3_reachByOneTieMore_54 rfl (lv_at hl 1 rfl) ?_
        refine cx_iald (f := s_2.2 10) hx hb hK hC 17 rfl hw.1 dX3_reachByOneTieMore_55 ?_
        have hw := hw.2
        refine lv_aload_n hx hb dX3_reachByOneTieMore_56 rfl (lv_at hl 2 rfl) ?_
        refine cx_get (v := .ref (q 16)) hx hb hts iX3 hown hK hC 3 rfl rfl 4 (by decide) u10 rfl rfl dX3_reachByOneTieMore_57 ?_
        refine lv_iload_n hx hb dX3_reachByOneTieMore_60 rfl (lv_at hl 3 rfl) ?_
        refine cx_iald (f := s_2.2 9) hx hb hK hC 16 rfl hw.1 dX3_reachByOneTieMore_61 ?_
        have hw := hw.2
        refine lv_iadd hx hb dX3_reachByOneTieMore_62 ?_
        refine va_mmin hx hb (hml.trans hl.1.symm) hown u11 u12 u13 u14 (Nat.le_of_ble_eq_true rfl) (Nat.le_of_ble_eq_true rfl) (Nat.le_refl 0) (Nat.le_refl 0) dX3_reachByOneTieMore_63 ?_
        refine cx_iast (f := s_2.2 11) hx hb hK hC 18 rfl hw.1 dX3_reachByOneTieMore_66 (ws' := (wX cI q (s_2.1, (va_up s_2.2 11 (upd (s_2.2 11) (Int32.toNatClampNeg (s_2.2 7 (Int32.toNatClampNeg x1_1))) (if ((s_2.2 10 (Int32.toNatClampNeg (s_2.2 6 (Int32.toNatClampNeg x1_1)))) + (s_2.2 9 (Int32.toNatClampNeg x1_1))) < (s_2.2 11 (Int32.toNatClampNeg (s_2.2 7 (Int32.toNatClampNeg x1_1)))) then ((s_2.2 10 (Int32.toNatClampNeg (s_2.2 6 (Int32.toNatClampNeg x1_1)))) + (s_2.2 9 (Int32.toNatClampNeg x1_1))) else (s_2.2 11 (Int32.toNatClampNeg (s_2.2 7 (Int32.toNatClampNeg x1_1)))))))))) (wX_a11 cI q _ _) (fun H locs hC => ?_)
        have hw := hw.2
        refine lv_aload_n hx hb dX3_reachByOneTieMore_67 rfl (lv_at hl 2 rfl) ?_
        refine cx_get (v := .ref (q 18)) hx hb hts iX3 hown hK hC 3 rfl rfl 6 (by decide) u2 rfl rfl dX3_reachByOneTieMore_68 ?_
        refine lv_iload_n hx hb dX3_reachByOneTieMore_71 rfl (lv_at hl 1 rfl) ?_
        refine lv_aload_n hx hb dX3_reachByOneTieMore_72 rfl (lv_at hl 2 rfl) ?_
        refine cx_get (v := .ref (q 18)) hx hb hts iX3 hown hK hC 3 rfl rfl 6 (by decide) u2 rfl rfl dX3_reachByOneTieMore_73 ?_
        refine lv_iload_n hx hb dX3_reachByOneTieMore_76 rfl (lv_at hl 1 rfl) ?_
        refine cx_iald (f := (upd (s_2.2 11) (Int32.toNatClampNeg (s_2.2 7 (Int32.toNatClampNeg x1_1))) (if ((s_2.2 10 (Int32.toNatClampNeg (s_2.2 6 (Int32.toNatClampNeg x1_1)))) + (s_2.2 9 (Int32.toNatClampNeg x1_1))) < (s_2.2 11 (Int32.toNatClampNeg (s_2.2 7 (Int32.toNatClampNeg x1_1)))) then ((s_2.2 10 (Int32.toNatClampNeg (s_2.2 6 (Int32.toNatClampNeg x1_1)))) + (s_2.2 9 (Int32.toNatClampNeg x1_1))) else (s_2.2 11 (Int32.toNatClampNeg (s_2.2 7 (Int32.toNatClampNeg x1_1))))))) hx hb hK hC 18 rfl hw.1 dX3_reachByOneTieMore_77 ?_
        have hw := hw.2
        refine lv_aload_n hx hb dX3_reachByOneTieMore_78 rfl (lv_at hl 2 rfl) ?_
        refine cx_get (v := .ref (q 17)) hx hb hts iX3 hown hK hC 3 rfl rfl 5 (by decide) u1 rfl rfl dX3_reachByOneTieMore_79 ?_
        refine lv_iload_n hx hb dX3_reachByOneTieMore_82 rfl (lv_at hl 0 rfl) ?_
        refine cx_iald (f := s_2.2 10) hx hb hK hC 17 rfl hw.1 dX3_reachByOneTieMore_83 ?_
        have hw := hw.2
        refine lv_aload_n hx hb dX3_reachByOneTieMore_84 rfl (lv_at hl 2 rfl) ?_
        refine cx_get (v := .ref (q 15)) hx hb hts iX3 hown hK hC 3 rfl rfl 3 (by decide) u15 rfl rfl dX3_reachByOneTieMore_85 ?_
        refine lv_iload_n hx hb dX3_reachByOneTieMore_88 rfl (lv_at hl 3 rfl) ?_
        refine cx_iald (f := s_2.2 8) hx hb hK hC 15 rfl hw.1 dX3_reachByOneTieMore_89 ?_
        have hw := hw.2
        refine lv_isub hx hb dX3_reachByOneTieMore_90 ?_
        refine va_mmin hx hb (hml.trans hl.1.symm) hown u11 u12 u13 u14 (Nat.le_of_ble_eq_true rfl) (Nat.le_of_ble_eq_true rfl) (Nat.le_refl 0) (Nat.le_refl 0) dX3_reachByOneTieMore_91 ?_
        refine cx_iast (f := (upd (s_2.2 11) (Int32.toNatClampNeg (s_2.2 7 (Int32.toNatClampNeg x1_1))) (if ((s_2.2 10 (Int32.toNatClampNeg (s_2.2 6 (Int32.toNatClampNeg x1_1)))) + (s_2.2 9 (Int32.toNatClampNeg x1_1))) < (s_2.2 11 (Int32.toNatClampNeg (s_2.2 7 (Int32.toNatClampNeg x1_1)))) then ((s_2.2 10 (Int32.toNatClampNeg (s_2.2 6 (Int32.toNatClampNeg x1_1)))) + (s_2.2 9 (Int32.toNatClampNeg x1_1))) else (s_2.2 11 (Int32.toNatClampNeg (s_2.2 7 (Int32.toNatClampNeg x1_1))))))) hx hb hK hC 18 rfl hw.1 dX3_reachByOneTieMore_94 (ws' := (wX cI q (s_2.1, (va_up (va_up s_2.2 11 (upd (s_2.2 11) (Int32.toNatClampNeg (s_2.2 7 (Int32.toNatClampNeg x1_1))) (if ((s_2.2 10 (Int32.toNatClampNeg (s_2.2 6 (Int32.toNatClampNeg x1_1)))) + (s_2.2 9 (Int32.toNatClampNeg x1_1))) < (s_2.2 11 (Int32.toNatClampNeg (s_2.2 7 (Int32.toNatClampNeg x1_1)))) then ((s_2.2 10 (Int32.toNatClampNeg (s_2.2 6 (Int32.toNatClampNeg x1_1)))) + (s_2.2 9 (Int32.toNatClampNeg x1_1))) else (s_2.2 11 (Int32.toNatClampNeg (s_2.2 7 (Int32.toNatClampNeg x1_1))))))) 11 (upd ((upd (s_2.2 11) (Int32.toNatClampNeg (s_2.2 7 (Int32.toNatClampNeg x1_1))) (if ((s_2.2 10 (Int32.toNatClampNeg (s_2.2 6 (Int32.toNatClampNeg x1_1)))) + (s_2.2 9 (Int32.toNatClampNeg x1_1))) < (s_2.2 11 (Int32.toNatClampNeg (s_2.2 7 (Int32.toNatClampNeg x1_1)))) then ((s_2.2 10 (Int32.toNatClampNeg (s_2.2 6 (Int32.toNatClampNeg x1_1)))) + (s_2.2 9 (Int32.toNatClampNeg x1_1))) else (s_2.2 11 (Int32.toNatClampNeg (s_2.2 7 (Int32.toNatClampNeg x1_1))))))) (Int32.toNatClampNeg (s_2.2 6 (Int32.toNatClampNeg x1_1))) (if ((s_2.2 10 (Int32.toNatClampNeg (s_2.2 7 (Int32.toNatClampNeg x1_1)))) - (s_2.2 8 (Int32.toNatClampNeg x1_1))) < ((upd (s_2.2 11) (Int32.toNatClampNeg (s_2.2 7 (Int32.toNatClampNeg x1_1))) (if ((s_2.2 10 (Int32.toNatClampNeg (s_2.2 6 (Int32.toNatClampNeg x1_1)))) + (s_2.2 9 (Int32.toNatClampNeg x1_1))) < (s_2.2 11 (Int32.toNatClampNeg (s_2.2 7 (Int32.toNatClampNeg x1_1)))) then ((s_2.2 10 (Int32.toNatClampNeg (s_2.2 6 (Int32.toNatClampNeg x1_1)))) + (s_2.2 9 (Int32.toNatClampNeg x1_1))) else (s_2.2 11 (Int32.toNatClampNeg (s_2.2 7 (Int32.toNatClampNeg x1_1)))))) (Int32.toNatClampNeg (s_2.2 6 (Int32.toNatClampNeg x1_1)))) then ((s_2.2 10 (Int32.toNatClampNeg (s_2.2 7 (Int32.toNatClampNeg x1_1)))) - (s_2.2 8 (Int32.toNatClampNeg x1_1))) else ((upd (s_2.2 11) (Int32.toNatClampNeg (s_2.2 7 (Int32.toNatClampNeg x1_1))) (if ((s_2.2 10 (Int32.toNatClampNeg (s_2.2 6 (Int32.toNatClampNeg x1_1)))) + (s_2.2 9 (Int32.toNatClampNeg x1_1))) < (s_2.2 11 (Int32.toNatClampNeg (s_2.2 7 (Int32.toNatClampNeg x1_1)))) then ((s_2.2 10 (Int32.toNatClampNeg (s_2.2 6 (Int32.toNatClampNeg x1_1)))) + (s_2.2 9 (Int32.toNatClampNeg x1_1))) else (s_2.2 11 (Int32.toNatClampNeg (s_2.2 7 (Int32.toNatClampNeg x1_1)))))) (Int32.toNatClampNeg (s_2.2 6 (Int32.toNatClampNeg x1_1)))))))))) (wX_a11 cI q _ _) (fun H locs hC => ?_)
        have hw := hw.2
        refine lv_iinc (v := (x1_1 + 1)) (lv' := [(1, .int (x1_1 + 1)), (3, .int (s_2.2 7 (Int32.toNatClampNeg x1_1))), (2, .int (s_2.2 6 (Int32.toNatClampNeg x1_1))), (0, .ref (q 3))]) hx hb dX3_reachByOneTieMore_95 hl (k := 3) rfl rfl (by decide) rfl (fun ls hl => ?_)
        refine lv_goto (tgt := 17) hx hb dX3_reachByOneTieMore_98 (by decide) ?_
        exact ih (x1_1 + 1) (s_2.1, (va_up (va_up s_2.2 11 (upd (s_2.2 11) (Int32.toNatClampNeg (s_2.2 7 (Int32.toNatClampNeg x1_1))) (if ((s_2.2 10 (Int32.toNatClampNeg (s_2.2 6 (Int32.toNatClampNeg x1_1)))) + (s_2.2 9 (Int32.toNatClampNeg x1_1))) < (s_2.2 11 (Int32.toNatClampNeg (s_2.2 7 (Int32.toNatClampNeg x1_1)))) then ((s_2.2 10 (Int32.toNatClampNeg (s_2.2 6 (Int32.toNatClampNeg x1_1)))) + (s_2.2 9 (Int32.toNatClampNeg x1_1))) else (s_2.2 11 (Int32.toNatClampNeg (s_2.2 7 (Int32.toNatClampNeg x1_1))))))) 11 (upd ((upd (s_2.2 11) (Int32.toNatClampNeg (s_2.2 7 (Int32.toNatClampNeg x1_1))) (if ((s_2.2 10 (Int32.toNatClampNeg (s_2.2 6 (Int32.toNatClampNeg x1_1)))) + (s_2.2 9 (Int32.toNatClampNeg x1_1))) < (s_2.2 11 (Int32.toNatClampNeg (s_2.2 7 (Int32.toNatClampNeg x1_1)))) then ((s_2.2 10 (Int32.toNatClampNeg (s_2.2 6 (Int32.toNatClampNeg x1_1)))) + (s_2.2 9 (Int32.toNatClampNeg x1_1))) else (s_2.2 11 (Int32.toNatClampNeg (s_2.2 7 (Int32.toNatClampNeg x1_1))))))) (Int32.toNatClampNeg (s_2.2 6 (Int32.toNatClampNeg x1_1))) (if ((s_2.2 10 (Int32.toNatClampNeg (s_2.2 7 (Int32.toNatClampNeg x1_1)))) - (s_2.2 8 (Int32.toNatClampNeg x1_1))) < ((upd (s_2.2 11) (Int32.toNatClampNeg (s_2.2 7 (Int32.toNatClampNeg x1_1))) (if ((s_2.2 10 (Int32.toNatClampNeg (s_2.2 6 (Int32.toNatClampNeg x1_1)))) + (s_2.2 9 (Int32.toNatClampNeg x1_1))) < (s_2.2 11 (Int32.toNatClampNeg (s_2.2 7 (Int32.toNatClampNeg x1_1)))) then ((s_2.2 10 (Int32.toNatClampNeg (s_2.2 6 (Int32.toNatClampNeg x1_1)))) + (s_2.2 9 (Int32.toNatClampNeg x1_1))) else (s_2.2 11 (Int32.toNatClampNeg (s_2.2 7 (Int32.toNatClampNeg x1_1)))))) (Int32.toNatClampNeg (s_2.2 6 (Int32.toNatClampNeg x1_1)))) then ((s_2.2 10 (Int32.toNatClampNeg (s_2.2 7 (Int32.toNatClampNeg x1_1)))) - (s_2.2 8 (Int32.toNatClampNeg x1_1))) else ((upd (s_2.2 11) (Int32.toNatClampNeg (s_2.2 7 (Int32.toNatClampNeg x1_1))) (if ((s_2.2 10 (Int32.toNatClampNeg (s_2.2 6 (Int32.toNatClampNeg x1_1)))) + (s_2.2 9 (Int32.toNatClampNeg x1_1))) < (s_2.2 11 (Int32.toNatClampNeg (s_2.2 7 (Int32.toNatClampNeg x1_1)))) then ((s_2.2 10 (Int32.toNatClampNeg (s_2.2 6 (Int32.toNatClampNeg x1_1)))) + (s_2.2 9 (Int32.toNatClampNeg x1_1))) else (s_2.2 11 (Int32.toNatClampNeg (s_2.2 7 (Int32.toNatClampNeg x1_1)))))) (Int32.toNatClampNeg (s_2.2 6 (Int32.toNatClampNeg x1_1)))))))) _ _ _ hw hC (lv_sub hl [3, 0] rfl)
  refine lv_aload_n hx hb dX3_reachByOneTieMore_0 rfl (lv_at hl 0 rfl) ?_
  refine cx_get (v := .ref (q 17)) hx hb hts iX3 hown hK hC 3 rfl rfl 5 (by decide) u1 rfl rfl dX3_reachByOneTieMore_1 ?_
  refine lv_iconst (v := 0) hx hb dX3_reachByOneTieMore_4 (by decide) ?_
  refine lv_aload_n hx hb dX3_reachByOneTieMore_5 rfl (lv_at hl 0 rfl) ?_
  refine cx_get (v := .ref (q 18)) hx hb hts iX3 hown hK hC 3 rfl rfl 6 (by decide) u2 rfl rfl dX3_reachByOneTieMore_6 ?_
  refine lv_iconst (v := 0) hx hb dX3_reachByOneTieMore_9 (by decide) ?_
  refine lv_bipush (v := 8) hx hb dX3_reachByOneTieMore_10 (by decide) ?_
  refine cx_copyi (f := σ.2 10) (g := σ.2 11) (sp := 0) (dp := 0) (n := 8) hx hb (hml.trans hl.1.symm) hown u3 u4 u5 u6 hK hC 17 18 rfl rfl (by decide) (by decide) (by decide) (by decide) (by decide) (Nat.le_of_ble_eq_true rfl) (by decide +kernel) dX3_reachByOneTieMore_12 (ws' := (wX cI q (σ.1, (va_up σ.2 11 (va_cpy (σ.2 10) (σ.2 11) (Int32.toNatClampNeg 0) (Int32.toNatClampNeg 0) (Int32.toNatClampNeg 8)))))) (wX_a11 cI q _ _) (fun H locs hC => ?_)
  refine lv_iconst (v := 0) hx hb dX3_reachByOneTieMore_15 (by decide) ?_
  refine lv_istore_n (lv' := [(1, .int 0), (0, .ref (q 3))]) hx hb dX3_reachByOneTieMore_16 rfl hl (by decide) rfl (fun ls hl => ?_)
  obtain ⟨n, hw⟩ := hw
  refine L17  _ (fun x1_4 s_5 H locs ls hw hC hl => ?_) n 0 (σ.1, (va_up σ.2 11 (va_cpy (σ.2 10) (σ.2 11) (Int32.toNatClampNeg 0) (Int32.toNatClampNeg 0) (Int32.toNatClampNeg 8)))) _ _ _ hw hC (lv_sub hl [1, 0] rfl)
  refine lv_aload_n hx hb dX3_reachByOneTieMore_101 rfl (lv_at hl 0 rfl) ?_
  refine cx_get (v := .ref (q 18)) hx hb hts iX3 hown hK hC 3 rfl rfl 6 (by decide) u2 rfl rfl dX3_reachByOneTieMore_102 ?_
  refine cx_callSv (As := [.ref (q 18)]) (rest := []) (ws' := fun u_7 => (wX cI q (s_5.1, (va_up s_5.2 11 u_7)))) ⟨hx, hb, hml, hown, hts⟩ (c_X3_reachByBounds l D cI (q 18) _ (s_5.2 11)  _ hw) (va_cwS 1 hts gX3_reachByOneTieMore_X3_reachByBounds rfl rfl rfl (by decide +kernel) ⟨Nat.le_of_ble_eq_true rfl, Nat.le_of_ble_eq_true rfl⟩) hK hC hA [18] [0, 1, 2, 3, 4, 5, 6, 7, 8, 9, 10, 11, 12, 13, 14, 15, 16, 17, 19, 20, 21, 22, 23] (by decide) rfl (wr := [_, _, _, _, _, _, _, _, _, _, _, _, _, _, _, _, _, _, _, _, _, _, _]) rfl (by decide) (by decide) rfl hl.1 rfl (Nat.le_of_ble_eq_true rfl) dX3_reachByOneTieMore_105 ⟨Nat.zero_le _, Nat.zero_le _⟩ [0, 1, 2, 3, 4, 5, 6, 7, 8, 9, 10, 11, 12, 13, 14, 15, 16, 17, 23, 18, 19, 20, 21, 22] (by decide) (fun _ => rfl) (fun u_7 H locs hw hC => ?_)
  refine lv_aload_n hx hb dX3_reachByOneTieMore_108 rfl (lv_at hl 0 rfl) ?_
  refine cx_get (v := .ref (q 18)) hx hb hts iX3 hown hK hC 3 rfl rfl 6 (by decide) u2 rfl rfl dX3_reachByOneTieMore_109 ?_
  refine lv_iconst (v := 0) hx hb dX3_reachByOneTieMore_112 (by decide) ?_
  refine lv_aload_n hx hb dX3_reachByOneTieMore_113 rfl (lv_at hl 0 rfl) ?_
  refine cx_get (v := .ref (q 17)) hx hb hts iX3 hown hK hC 3 rfl rfl 5 (by decide) u1 rfl rfl dX3_reachByOneTieMore_114 ?_
  refine lv_iconst (v := 0) hx hb dX3_reachByOneTieMore_117 (by decide) ?_
  refine lv_bipush (v := 8) hx hb dX3_reachByOneTieMore_118 (by decide) ?_
  refine cx_copyi (f := u_7) (g := s_5.2 10) (sp := 0) (dp := 0) (n := 8) hx hb (hml.trans hl.1.symm) hown u3 u4 u5 u6 hK hC 18 17 rfl rfl (by decide) (by decide) (by decide) (by decide) (by decide) (Nat.le_of_ble_eq_true rfl) (by decide +kernel) dX3_reachByOneTieMore_120 (ws' := (wX cI q (s_5.1, (va_up (va_up s_5.2 11 u_7) 10 (va_cpy (u_7) (s_5.2 10) (Int32.toNatClampNeg 0) (Int32.toNatClampNeg 0) (Int32.toNatClampNeg 8)))))) (wX_a10 cI q _ _) (fun H locs hC => ?_)
  exact cx_ret_v (u := (s_5.1, (va_up (va_up s_5.2 11 u_7) 10 (va_cpy (u_7) (s_5.2 10) (Int32.toNatClampNeg 0) (Int32.toNatClampNeg 0) (Int32.toNatClampNeg 8))))) hx hb hr hlocks hK hC hw dX3_reachByOneTieMore_123

/-! PictureHeap$Ties.fewestAgainstLimit(III)I (X3_fewestAgainstLimit) -/
set_option maxHeartbeats 1000000 in
set_option maxRecDepth 100000 in
theorem c_X3_fewestAgainstLimit (l : Launch) (D : va_G) (cI : ClassId) (q : Nat → Nat) (sz : Nat) (σ : St) (x1 : Int32) (x2 : Int32) (x3 : Int32) (post : Int32 → St → Prop) (hw : w_X3_fewestAgainstLimit σ x1 x2 x3 post) : Ci l yX3_fewestAgainstLimit wsX3_fewestAgainstLimit 3 65 D cI (wX cI q σ) sz [.ref (q 3), .int x1, .int x2, .int x3] (wX cI q) post := by
  refine mo_i (cc := cX3_fewestAgainstLimit) (maxL := 5) (ret := (some .int)) (by decide) rfl (Nat.le_of_ble_eq_true rfl) ?_
  intro p e s m below meth c hx hb hr hml hts hown hlocks hK A hA hC ls hl
  have hown : s.vm.findClass RX3 = some m.cls := hown
  have hl : lv_has ls 5 [(0, .ref (q 3)), (1, .int x1), (2, .int x2), (3, .int x3)] := hl
  have u1 : (Cond.fieldLink RX3 27 "PictureHeap$Ties" "reached" "[I").before [.ref (q 3), .int x1, .int x2, .int x3].toArray s = true := hts _ (List.mem_of_getElem? (i := 1) rfl)
  have u2 : (Cond.constant RX3 75 (1000000)).before [.ref (q 3), .int x1, .int x2, .int x3].toArray s = true := hts _ (List.mem_of_getElem? (i := 2) rfl)
  have iX3 : ∀ w ∈ wsX30, w ∈ wsX3_fewestAgainstLimit := fun _ h => List.mem_cons_of_mem _ (List.mem_append_right _ h)
  have L26 : ∀ (x1_5 : Int32) (x3_6 : Int32) (K : Int32 → St → Prop) (hKK : ∀ (x4_7 : Int32) (s_8 : St) (H : Heap) (locs : List Loc) (ls : Array Slot), K x4_7 s_8 → Cx D A s.heap (wX cI q s_8) H locs → lv_has ls 5 [(0, .ref (q 3)), (1, .int x1_5), (3, .int x3_6), (4, .int x4_7)] → W p l e (Rm 3 65) s m [.ref (q 3), .int x1, .int x2, .int x3].toArray below meth c H locs 0 0 (QI below D cI A (wX cI q) post [.ref (q 3), .int x1, .int x2, .int x3].toArray s) (F0 m 57 ls [])) (n : Nat), ∀ (x4_7 : Int32) (s_8 : St) (H : Heap) (locs : List Loc) (ls : Array Slot), w_X3_fewestAgainstLimit_L26 x1_5 x3_6 post K n x4_7 s_8 → Cx D A s.heap (wX cI q s_8) H locs → lv_has ls 5 [(0, .ref (q 3)), (1, .int x1_5), (3, .int x3_6), (4, .int x4_7)] → W p l e (Rm 3 65) s m [.ref (q 3), .int x1, .int x2, .int x3].toArray below meth c H locs 0 0 (QI below D cI A (wX cI q) post [.ref (q 3), .int x1, .int x2, .int x3].toArray s) (F0 m 26 ls []) := by
    intro x1_5 x3_6 K hKK n
    induction n with
    | zero => intro x4_7 s_8 H locs ls hw; exact hw.elim
    | succ n ih =>
      intro x4_7 s_8 H locs ls hw hC hl
      refine lv_iload hx hb dX3_fewestAgainstLimit_26 (lv_at hl 3 rfl) ?_
      refine lv_bipush (v := 8) hx hb dX3_fewestAgainstLimit_28 (by decide) ?_
      refine lv_icmp_ge (tgt := 57) hx hb dX3_fewestAgainstLimit_30 (by decide) (fun c_9 => ?_) (fun c_9 => ?_)
      · have hw := hw.1 c_9
        exact hKK x4_7 s_8 _ _ _ hw hC (lv_sub hl [0, 1, 2, 3] rfl)
      · have hw := hw.2 c_9
        refine lv_aload_n hx hb dX3_fewestAgainstLimit_33 rfl (lv_at hl 0 rfl) ?_
        refine cx_get (v := .ref (q 17)) hx hb hts iX3 hown hK hC 3 rfl rfl 5 (by decide) u1 rfl rfl dX3_fewestAgainstLimit_34 ?_
        refine lv_iload_n hx hb dX3_fewestAgainstLimit_37 rfl (lv_at hl 1 rfl) ?_
        refine cx_iald (f := s_8.2 10) hx hb hK hC 17 rfl hw.1 dX3_fewestAgainstLimit_38 ?_
        have hw := hw.2
        refine lv_iload_n hx hb dX3_fewestAgainstLimit_39 rfl (lv_at hl 2 rfl) ?_
        refine lv_iadd hx hb dX3_fewestAgainstLimit_40 ?_
        refine lv_if_ge (tgt := 47) hx hb dX3_fewestAgainstLimit_41 (by decide) (fun c_10 => ?_) (fun c_10 => ?_)
        · have hw := hw.1 c_10
          refine lv_aload_n hx hb dX3_fewestAgainstLimit_47 rfl (lv_at hl 0 rfl) ?_
          refine cx_callVv0 (As := []) (rest := []) ⟨hx, hb, hml, hown, hts⟩ (c_X3_reachByOneTieMore l D cI q _ s_8  _ hw) (cwV 0 hts gX3_fewestAgainstLimit_X3_reachByOneTieMore rfl rfl rfl (by decide +kernel) ⟨Nat.le_of_ble_eq_true rfl, Nat.le_of_ble_eq_true rfl⟩) hK hC hA 3 rfl rfl rfl rfl hl.1 rfl (Nat.le_of_ble_eq_true rfl) dX3_fewestAgainstLimit_48 ⟨Nat.zero_le _, Nat.zero_le _⟩ (fun u_12 H locs hw hC => ?_)
          refine lv_iinc (v := (x4_7 + 1)) (lv' := [(4, .int (x4_7 + 1)), (0, .ref (q 3)), (1, .int x1_5), (3, .int x3_6)]) hx hb dX3_fewestAgainstLimit_51 hl (k := 3) rfl rfl (by decide) rfl (fun ls hl => ?_)
          refine lv_goto (tgt := 26) hx hb dX3_fewestAgainstLimit_54 (by decide) ?_
          exact ih (x4_7 + 1) u_12 _ _ _ hw hC (lv_sub hl [1, 2, 3, 0] rfl)
        · have hw := hw.2 c_10
          refine lv_iload hx hb dX3_fewestAgainstLimit_44 (lv_at hl 3 rfl) ?_
          exact cx_ret_i (u := s_8) hx hb hr hlocks hK hC hw dX3_fewestAgainstLimit_46
  refine lv_aload_n hx hb dX3_fewestAgainstLimit_0 rfl (lv_at hl 0 rfl) ?_
  refine cx_get (v := .ref (q 17)) hx hb hts iX3 hown hK hC 3 rfl rfl 5 (by decide) u1 rfl rfl dX3_fewestAgainstLimit_1 ?_
  refine lv_ldc (v := 1000000) hx hb hown u2 dX3_fewestAgainstLimit_4 ?_
  refine cx_callSv (As := [.ref (q 17), .int 1000000]) (rest := []) (ws' := fun u_2 => (wX cI q (σ.1, (va_up σ.2 10 u_2)))) ⟨hx, hb, hml, hown, hts⟩ (c_J7_fill_53178 l D cI (q 17) _ (σ.2 10) 1000000 _ hw) (va_cwS 2 hts gX3_fewestAgainstLimit_J7_fill_53178 rfl rfl rfl (by decide +kernel) ⟨Nat.le_of_ble_eq_true rfl, Nat.le_of_ble_eq_true rfl⟩) hK hC hA [17] [0, 1, 2, 3, 4, 5, 6, 7, 8, 9, 10, 11, 12, 13, 14, 15, 16, 18, 19, 20, 21, 22, 23] (by decide) rfl (wr := [_, _, _, _, _, _, _, _, _, _, _, _, _, _, _, _, _, _, _, _, _, _, _]) rfl (by decide) (by decide) rfl hl.1 rfl (Nat.le_of_ble_eq_true rfl) dX3_fewestAgainstLimit_6 ⟨Nat.zero_le _, Nat.zero_le _⟩ [0, 1, 2, 3, 4, 5, 6, 7, 8, 9, 10, 11, 12, 13, 14, 15, 16, 23, 17, 18, 19, 20, 21, 22] (by decide) (fun _ => rfl) (fun u_2 H locs hw hC => ?_)
  refine lv_aload_n hx hb dX3_fewestAgainstLimit_9 rfl (lv_at hl 0 rfl) ?_
  refine cx_get (v := .ref (q 17)) hx hb hts iX3 hown hK hC 3 rfl rfl 5 (by decide) u1 rfl rfl dX3_fewestAgainstLimit_10 ?_
  refine lv_iload_n hx hb dX3_fewestAgainstLimit_13 rfl (lv_at hl 2 rfl) ?_
  refine lv_iconst (v := 0) hx hb dX3_fewestAgainstLimit_14 (by decide) ?_
  refine cx_iast (f := u_2) hx hb hK hC 17 rfl hw.1 dX3_fewestAgainstLimit_15 (ws' := (wX cI q (σ.1, (va_up (va_up σ.2 10 u_2) 10 (upd (u_2) (Int32.toNatClampNeg x2) 0))))) (wX_a10 cI q _ _) (fun H locs hC => ?_)
  have hw := hw.2
  refine lv_aload_n hx hb dX3_fewestAgainstLimit_16 rfl (lv_at hl 0 rfl) ?_
  refine cx_get (v := .ref (q 17)) hx hb hts iX3 hown hK hC 3 rfl rfl 5 (by decide) u1 rfl rfl dX3_fewestAgainstLimit_17 ?_
  refine cx_callSv (As := [.ref (q 17)]) (rest := []) (ws' := fun u_4 => (wX cI q (σ.1, (va_up (va_up (va_up σ.2 10 u_2) 10 (upd (u_2) (Int32.toNatClampNeg x2) 0)) 10 u_4)))) ⟨hx, hb, hml, hown, hts⟩ (c_X3_reachByBounds l D cI (q 17) _ ((upd (u_2) (Int32.toNatClampNeg x2) 0))  _ hw) (va_cwS 1 hts gX3_fewestAgainstLimit_X3_reachByBounds rfl rfl rfl (by decide +kernel) ⟨Nat.le_of_ble_eq_true rfl, Nat.le_of_ble_eq_true rfl⟩) hK hC hA [17] [0, 1, 2, 3, 4, 5, 6, 7, 8, 9, 10, 11, 12, 13, 14, 15, 16, 18, 19, 20, 21, 22, 23] (by decide) rfl (wr := [_, _, _, _, _, _, _, _, _, _, _, _, _, _, _, _, _, _, _, _, _, _, _]) rfl (by decide) (by decide) rfl hl.1 rfl (Nat.le_of_ble_eq_true rfl) dX3_fewestAgainstLimit_20 ⟨Nat.zero_le _, Nat.zero_le _⟩ [0, 1, 2, 3, 4, 5, 6, 7, 8, 9, 10, 11, 12, 13, 14, 15, 16, 23, 17, 18, 19, 20, 21, 22] (by decide) (fun _ => rfl) (fun u_4 H locs hw hC => ?_)
  refine lv_iconst (v := 0) hx hb dX3_fewestAgainstLimit_23 (by decide) ?_
  refine lv_istore (lv' := [(4, .int 0), (0, .ref (q 3)), (1, .int x1), (2, .int x2), (3, .int x3)]) hx hb dX3_fewestAgainstLimit_24 hl (by decide) rfl (fun ls hl => ?_)
  obtain ⟨n, hw⟩ := hw
  refine L26 x1 x3 _ (fun x4_13 s_14 H locs ls hw hC hl => ?_) n 0 (σ.1, (va_up (va_up (va_up σ.2 10 u_2) 10 (upd (u_2) (Int32.toNatClampNeg x2) 0)) 10 u_4)) _ _ _ hw hC (lv_sub hl [1, 2, 4, 0] rfl)
  refine lv_bipush (v := 8) hx hb dX3_fewestAgainstLimit_57 (by decide) ?_
  exact cx_ret_i (u := s_14) hx hb hr hlocks hK hC hw dX3_fewestAgainstLimit_59

/-! PictureHeap$Ties.fewestAgainst(IIII)I (X3_fewestAgainst) -/
set_option maxHeartbeats 1000000 in
set_option maxRecDepth 100000 in
theorem c_X3_fewestAgainst (l : Launch) (D : va_G) (cI : ClassId) (q : Nat → Nat) (sz : Nat) (σ : St) (x1 : Int32) (x2 : Int32) (x3 : Int32) (x4 : Int32) (post : Int32 → St → Prop) (hw : w_X3_fewestAgainst σ x1 x2 x3 x4 post) : Ci l yX3_fewestAgainst wsX3_fewestAgainst 4 89 D cI (wX cI q σ) sz [.ref (q 3), .int x1, .int x2, .int x3, .int x4] (wX cI q) post := by
  refine mo_i (cc := cX3_fewestAgainst) (maxL := 5) (ret := (some .int)) (by decide) rfl (Nat.le_of_ble_eq_true rfl) ?_
  intro p e s m below meth c hx hb hr hml hts hown hlocks hK A hA hC ls hl
  have hown : s.vm.findClass RX3 = some m.cls := hown
  have hl : lv_has ls 5 [(0, .ref (q 3)), (1, .int x1), (2, .int x2), (3, .int x3), (4, .int x4)] := hl
  have u1 : (Cond.methodLink RX3 69 Lib.Math.min.name).before [.ref (q 3), .int x1, .int x2, .int x3, .int x4].toArray s = true := hts _ (List.mem_of_getElem? (i := 1) rfl)
  have u2 : (Cond.static Lib.Math.min.name).before [.ref (q 3), .int x1, .int x2, .int x3, .int x4].toArray s = true := hts _ (List.mem_of_getElem? (i := 2) rfl)
  have u3 : (Cond.initialized "java/lang/Math").before [.ref (q 3), .int x1, .int x2, .int x3, .int x4].toArray s = true := hts _ (List.mem_of_getElem? (i := 3) rfl)
  have u4 : (Cond.code Lib.Math.min.name Lib.Math.min.code 2 (some .int)).before [.ref (q 3), .int x1, .int x2, .int x3, .int x4].toArray s = true := hts _ (List.mem_of_getElem? (i := 4) rfl)
  refine lv_aload_n hx hb dX3_fewestAgainst_0 rfl (lv_at hl 0 rfl) ?_
  refine lv_iload_n hx hb dX3_fewestAgainst_1 rfl (lv_at hl 1 rfl) ?_
  refine lv_iload_n hx hb dX3_fewestAgainst_2 rfl (lv_at hl 2 rfl) ?_
  refine lv_iload hx hb dX3_fewestAgainst_3 (lv_at hl 4 rfl) ?_
  refine cx_callVi0 (As := [.int x1, .int x2, .int x4]) (rest := []) ⟨hx, hb, hml, hown, hts⟩ (c_X3_fewestAgainstLimit l D cI q _ σ x1 x2 x4 _ hw) (cwV 3 hts gX3_fewestAgainst_X3_fewestAgainstLimit rfl rfl rfl (by decide +kernel) ⟨Nat.le_of_ble_eq_true rfl, Nat.le_of_ble_eq_true rfl⟩) hK hC hA 3 rfl rfl rfl rfl hl.1 rfl (Nat.le_of_ble_eq_true rfl) dX3_fewestAgainst_5 ⟨Nat.zero_le _, Nat.zero_le _⟩ (fun r_1 u_2 H locs hw hC => ?_)
  refine lv_aload_n hx hb dX3_fewestAgainst_8 rfl (lv_at hl 0 rfl) ?_
  refine lv_iload_n hx hb dX3_fewestAgainst_9 rfl (lv_at hl 2 rfl) ?_
  refine lv_iload_n hx hb dX3_fewestAgainst_10 rfl (lv_at hl 1 rfl) ?_
  refine lv_iload_n hx hb dX3_fewestAgainst_11 rfl (lv_at hl 3 rfl) ?_
  refine lv_ineg hx hb dX3_fewestAgainst_12 ?_
  refine cx_callVi0 (As := [.int x2, .int x1, .int (-x3)]) (rest := [.int r_1]) ⟨hx, hb, hml, hown, hts⟩ (c_X3_fewestAgainstLimit l D cI q _ u_2 x2 x1 (-x3) _ hw) (cwV 3 hts gX3_fewestAgainst_X3_fewestAgainstLimit rfl rfl rfl (by decide +kernel) ⟨Nat.le_of_ble_eq_true rfl, Nat.le_of_ble_eq_true rfl⟩) hK hC hA 3 rfl rfl rfl rfl hl.1 rfl (Nat.le_of_ble_eq_true rfl) dX3_fewestAgainst_13 ⟨Nat.zero_le _, Nat.zero_le _⟩ (fun r_3 u_4 H locs hw hC => ?_)
  refine va_mmin hx hb (hml.trans hl.1.symm) hown u1 u2 u3 u4 (Nat.le_of_ble_eq_true rfl) (Nat.le_of_ble_eq_true rfl) (Nat.le_refl 0) (Nat.le_refl 0) dX3_fewestAgainst_16 ?_
  exact cx_ret_i (u := u_4) hx hb hr hlocks hK hC hw dX3_fewestAgainst_19

/-! PictureHeap$Ties.slotOf(I)I (X3_slotOf) -/
set_option maxHeartbeats 1000000 in
set_option maxRecDepth 100000 in
theorem c_X3_slotOf (l : Launch) (D : va_G) (cI : ClassId) (q : Nat → Nat) (sz : Nat) (σ : St) (x1 : Int32) (post : Int32 → St → Prop) (hw : w_X3_slotOf σ x1 post) : Ci l yX3_slotOf wsX3_slotOf 0 0 D cI (wX cI q σ) sz [.ref (q 3), .int x1] (wX cI q) post := by
  refine mo_i (cc := cX3_slotOf) (maxL := 3) (ret := (some .int)) (by decide) rfl (Nat.le_of_ble_eq_true rfl) ?_
  intro p e s m below meth c hx hb hr hml hts hown hlocks hK A hA hC ls hl
  have hown : s.vm.findClass RX3 = some m.cls := hown
  have hl : lv_has ls 3 [(0, .ref (q 3)), (1, .int x1)] := hl
  have u1 : (Cond.fieldLink RX3 43 "PictureHeap$Ties" "size" "I").before [.ref (q 3), .int x1].toArray s = true := hts _ (List.mem_of_getElem? (i := 1) rfl)
  have u2 : (Cond.fieldLink RX3 9 "PictureHeap$Ties" "number" "[I").before [.ref (q 3), .int x1].toArray s = true := hts _ (List.mem_of_getElem? (i := 2) rfl)
  have iX3 : ∀ w ∈ wsX30, w ∈ wsX3_slotOf := fun _ h => List.mem_cons_of_mem _ (List.mem_append_right _ h)
  have L2 : ∀ (x1_1 : Int32) (K : Int32 → St → Prop) (hKK : ∀ (x2_2 : Int32) (s_3 : St) (H : Heap) (locs : List Loc) (ls : Array Slot), K x2_2 s_3 → Cx D A s.heap (wX cI q s_3) H locs → lv_has ls 3 [(0, .ref (q 3)), (1, .int x1_1), (2, .int x2_2)] → W p l e (Rm 0 0) s m [.ref (q 3), .int x1].toArray below meth c H locs 0 0 (QI below D cI A (wX cI q) post [.ref (q 3), .int x1].toArray s) (F0 m 28 ls [])) (n : Nat), ∀ (x2_2 : Int32) (s_3 : St) (H : Heap) (locs : List Loc) (ls : Array Slot), w_X3_slotOf_L2 x1_1 post K n x2_2 s_3 → Cx D A s.heap (wX cI q s_3) H locs → lv_has ls 3 [(0, .ref (q 3)), (1, .int x1_1), (2, .int x2_2)] → W p l e (Rm 0 0) s m [.ref (q 3), .int x1].toArray below meth c H locs 0 0 (QI below D cI A (wX cI q) post [.ref (q 3), .int x1].toArray s) (F0 m 2 ls []) := by
    intro x1_1 K hKK n
    induction n with
    | zero => intro x2_2 s_3 H locs ls hw; exact hw.elim
    | succ n ih =>
      intro x2_2 s_3 H locs ls hw hC hl
      refine lv_iload_n hx hb dX3_slotOf_2 rfl (lv_at hl 2 rfl) ?_
      refine lv_aload_n hx hb dX3_slotOf_3 rfl (lv_at hl 0 rfl) ?_
      refine cx_get (v := .int (s_3.1 6)) hx hb hts iX3 hown hK hC 3 rfl rfl 9 (by decide) u1 rfl rfl dX3_slotOf_4 ?_
      refine lv_icmp_ge (tgt := 28) hx hb dX3_slotOf_7 (by decide) (fun c_4 => ?_) (fun c_4 => ?_)
      · have hw := hw.1 c_4
        exact hKK x2_2 s_3 _ _ _ hw hC (lv_sub hl [0, 1, 2] rfl)
      · have hw := hw.2 c_4
        refine lv_aload_n hx hb dX3_slotOf_10 rfl (lv_at hl 0 rfl) ?_
        refine cx_get (v := .ref (q 12)) hx hb hts iX3 hown hK hC 3 rfl rfl 0 (by decide) u2 rfl rfl dX3_slotOf_11 ?_
        refine lv_iload_n hx hb dX3_slotOf_14 rfl (lv_at hl 2 rfl) ?_
        refine cx_iald (f := s_3.2 5) hx hb hK hC 12 rfl hw.1 dX3_slotOf_15 ?_
        have hw := hw.2
        refine lv_iload_n hx hb dX3_slotOf_16 rfl (lv_at hl 1 rfl) ?_
        refine lv_icmp_ne (tgt := 22) hx hb dX3_slotOf_17 (by decide) (fun c_5 => ?_) (fun c_5 => ?_)
        · have hw := hw.1 c_5
          refine lv_iinc (v := (x2_2 + 1)) (lv' := [(2, .int (x2_2 + 1)), (0, .ref (q 3)), (1, .int x1_1)]) hx hb dX3_slotOf_22 hl (k := 2) rfl rfl (by decide) rfl (fun ls hl => ?_)
          refine lv_goto (tgt := 2) hx hb dX3_slotOf_25 (by decide) ?_
          exact ih (x2_2 + 1) s_3 _ _ _ hw hC (lv_sub hl [1, 2, 0] rfl)
        · have hw := hw.2 c_5
          refine lv_iload_n hx hb dX3_slotOf_20 rfl (lv_at hl 2 rfl) ?_
          exact cx_ret_i (u := s_3) hx hb hr hlocks hK hC hw dX3_slotOf_21
  refine lv_iconst (v := 0) hx hb dX3_slotOf_0 (by decide) ?_
  refine lv_istore_n (lv' := [(2, .int 0), (0, .ref (q 3)), (1, .int x1)]) hx hb dX3_slotOf_1 rfl hl (by decide) rfl (fun ls hl => ?_)
  obtain ⟨n, hw⟩ := hw
  refine L2 x1 _ (fun x2_6 s_7 H locs ls hw hC hl => ?_) n 0 σ _ _ _ hw hC (lv_sub hl [1, 2, 0] rfl)
  refine lv_iconst (v := (-1)) hx hb dX3_slotOf_28 (by decide) ?_
  exact cx_ret_i (u := s_7) hx hb hr hlocks hK hC hw dX3_slotOf_29

/-! PictureHeap$Ties.drawWithout(ILPictureHeap$Offsets;)V (X3_drawWithout_a6) -/
set_option maxHeartbeats 1000000 in
set_option maxRecDepth 100000 in
theorem c_X3_drawWithout_a6 (l : Launch) (D : va_G) (cI : ClassId) (q : Nat → Nat) (sz : Nat) (σ : St) (x1 : Int32) (post : St → Prop) (hw : w_X3_drawWithout_a6 σ x1 post) : Cv l yX3_drawWithout wsX3_drawWithout 2 51 D cI (wX cI q σ) sz [.ref (q 3), .int x1, .ref (q 6)] (wX cI q) post := by
  refine mo_v (cc := cX3_drawWithout) (maxL := 4) (ret := none) (by decide) rfl (Nat.le_of_ble_eq_true rfl) ?_
  intro p e s m below meth c hx hb hr hml hts hown hlocks hK A hA hC ls hl
  have hown : s.vm.findClass RX3 = some m.cls := hown
  have hl : lv_has ls 4 [(0, .ref (q 3)), (1, .int x1), (2, .ref (q 6))] := hl
  have u1 : (Cond.fieldLink RX3 43 "PictureHeap$Ties" "size" "I").before [.ref (q 3), .int x1, .ref (q 6)].toArray s = true := hts _ (List.mem_of_getElem? (i := 1) rfl)
  have u2 : (Cond.fieldLink RX3 15 "PictureHeap$Ties" "one" "[I").before [.ref (q 3), .int x1, .ref (q 6)].toArray s = true := hts _ (List.mem_of_getElem? (i := 2) rfl)
  have u3 : (Cond.fieldLink RX3 18 "PictureHeap$Ties" "other" "[I").before [.ref (q 3), .int x1, .ref (q 6)].toArray s = true := hts _ (List.mem_of_getElem? (i := 3) rfl)
  have u4 : (Cond.fieldLink RX3 21 "PictureHeap$Ties" "least" "[I").before [.ref (q 3), .int x1, .ref (q 6)].toArray s = true := hts _ (List.mem_of_getElem? (i := 4) rfl)
  have u5 : (Cond.fieldLink RX3 24 "PictureHeap$Ties" "most" "[I").before [.ref (q 3), .int x1, .ref (q 6)].toArray s = true := hts _ (List.mem_of_getElem? (i := 5) rfl)
  have iX3 : ∀ w ∈ wsX30, w ∈ wsX3_drawWithout := fun _ h => List.mem_cons_of_mem _ (List.mem_append_left _ (List.mem_append_right _ h))
  have L6 : ∀ (x1_3 : Int32) (K : Int32 → St → Prop) (hKK : ∀ (x3_4 : Int32) (s_5 : St) (H : Heap) (locs : List Loc) (ls : Array Slot), K x3_4 s_5 → Cx D A s.heap (wX cI q s_5) H locs → lv_has ls 4 [(0, .ref (q 3)), (1, .int x1_3), (2, .ref (q 6)), (3, .int x3_4)] → W p l e (Rm 2 51) s m [.ref (q 3), .int x1, .ref (q 6)].toArray below meth c H locs 0 0 (QV below D cI A (wX cI q) post [.ref (q 3), .int x1, .ref (q 6)].toArray s) (F0 m 53 ls [])) (n : Nat), ∀ (x3_4 : Int32) (s_5 : St) (H : Heap) (locs : List Loc) (ls : Array Slot), w_X3_drawWithout_a6_L6 x1_3 post K n x3_4 s_5 → Cx D A s.heap (wX cI q s_5) H locs → lv_has ls 4 [(0, .ref (q 3)), (1, .int x1_3), (2, .ref (q 6)), (3, .int x3_4)] → W p l e (Rm 2 51) s m [.ref (q 3), .int x1, .ref (q 6)].toArray below meth c H locs 0 0 (QV below D cI A (wX cI q) post [.ref (q 3), .int x1, .ref (q 6)].toArray s) (F0 m 6 ls []) := by
    intro x1_3 K hKK n
    induction n with
    | zero => intro x3_4 s_5 H locs ls hw; exact hw.elim
    | succ n ih =>
      intro x3_4 s_5 H locs ls hw hC hl
      refine lv_iload_n hx hb dX3_drawWithout_6 rfl (lv_at hl 3 rfl) ?_
      refine lv_aload_n hx hb dX3_drawWithout_7 rfl (lv_at hl 0 rfl) ?_
      refine cx_get (v := .int (s_5.1 6)) hx hb hts iX3 hown hK hC 3 rfl rfl 9 (by decide) u1 rfl rfl dX3_drawWithout_8 ?_
      refine lv_icmp_ge (tgt := 53) hx hb dX3_drawWithout_11 (by decide) (fun c_6 => ?_) (fun c_6 => ?_)
      · have hw := hw.1 c_6
        exact hKK x3_4 s_5 _ _ _ hw hC (lv_sub hl [0, 1, 2, 3] rfl)
      · have hw := hw.2 c_6
        refine lv_iload_n hx hb dX3_drawWithout_14 rfl (lv_at hl 3 rfl) ?_
        refine lv_iload_n hx hb dX3_drawWithout_15 rfl (lv_at hl 1 rfl) ?_
        refine lv_icmp_eq (tgt := 47) hx hb dX3_drawWithout_16 (by decide) (fun c_7 => ?_) (fun c_7 => ?_)
        · have hw := hw.1 c_7
          refine lv_iinc (v := (x3_4 + 1)) (lv' := [(3, .int (x3_4 + 1)), (0, .ref (q 3)), (1, .int x1_3), (2, .ref (q 6))]) hx hb dX3_drawWithout_47 hl (k := 3) rfl rfl (by decide) rfl (fun ls hl => ?_)
          refine lv_goto (tgt := 6) hx hb dX3_drawWithout_50 (by decide) ?_
          exact ih (x3_4 + 1) s_5 _ _ _ hw hC (lv_sub hl [1, 2, 3, 0] rfl)
        · have hw := hw.2 c_7
          refine lv_aload_n hx hb dX3_drawWithout_19 rfl (lv_at hl 2 rfl) ?_
          refine lv_aload_n hx hb dX3_drawWithout_20 rfl (lv_at hl 0 rfl) ?_
          refine cx_get (v := .ref (q 13)) hx hb hts iX3 hown hK hC 3 rfl rfl 1 (by decide) u2 rfl rfl dX3_drawWithout_21 ?_
          refine lv_iload_n hx hb dX3_drawWithout_24 rfl (lv_at hl 3 rfl) ?_
          refine cx_iald (f := s_5.2 6) hx hb hK hC 13 rfl hw.1 dX3_drawWithout_25 ?_
          have hw := hw.2
          refine lv_aload_n hx hb dX3_drawWithout_26 rfl (lv_at hl 0 rfl) ?_
          refine cx_get (v := .ref (q 14)) hx hb hts iX3 hown hK hC 3 rfl rfl 2 (by decide) u3 rfl rfl dX3_drawWithout_27 ?_
          refine lv_iload_n hx hb dX3_drawWithout_30 rfl (lv_at hl 3 rfl) ?_
          refine cx_iald (f := s_5.2 7) hx hb hK hC 14 rfl hw.1 dX3_drawWithout_31 ?_
          have hw := hw.2
          refine lv_aload_n hx hb dX3_drawWithout_32 rfl (lv_at hl 0 rfl) ?_
          refine cx_get (v := .ref (q 15)) hx hb hts iX3 hown hK hC 3 rfl rfl 3 (by decide) u4 rfl rfl dX3_drawWithout_33 ?_
          refine lv_iload_n hx hb dX3_drawWithout_36 rfl (lv_at hl 3 rfl) ?_
          refine cx_iald (f := s_5.2 8) hx hb hK hC 15 rfl hw.1 dX3_drawWithout_37 ?_
          have hw := hw.2
          refine lv_aload_n hx hb dX3_drawWithout_38 rfl (lv_at hl 0 rfl) ?_
          refine cx_get (v := .ref (q 16)) hx hb hts iX3 hown hK hC 3 rfl rfl 4 (by decide) u5 rfl rfl dX3_drawWithout_39 ?_
          refine lv_iload_n hx hb dX3_drawWithout_42 rfl (lv_at hl 3 rfl) ?_
          refine cx_iald (f := s_5.2 9) hx hb hK hC 16 rfl hw.1 dX3_drawWithout_43 ?_
          have hw := hw.2
          refine cx_callVv (As := [.int (s_5.2 6 (Int32.toNatClampNeg x3_4)), .int (s_5.2 7 (Int32.toNatClampNeg x3_4)), .int (s_5.2 8 (Int32.toNatClampNeg x3_4)), .int (s_5.2 9 (Int32.toNatClampNeg x3_4))]) (rest := []) (ws' := fun u_9 => (wX cI q (s_5.1, (va_up s_5.2 16 u_9)))) ⟨hx, hb, hml, hown, hts⟩ (c_X2_tighten l D cI (q 6) (q 23) _ (s_5.2 16) (s_5.2 6 (Int32.toNatClampNeg x3_4)) (s_5.2 7 (Int32.toNatClampNeg x3_4)) (s_5.2 8 (Int32.toNatClampNeg x3_4)) (s_5.2 9 (Int32.toNatClampNeg x3_4)) _ hw) (cwV 4 hts gX3_drawWithout_X2_tighten rfl rfl rfl (by decide +kernel) ⟨Nat.le_of_ble_eq_true rfl, Nat.le_of_ble_eq_true rfl⟩) hK hC hA [6, 23] [0, 1, 2, 3, 4, 5, 7, 8, 9, 10, 11, 12, 13, 14, 15, 16, 17, 18, 19, 20, 21, 22] (by decide) rfl (wr := [_, _, _, _, _, _, _, _, _, _, _, _, _, _, _, _, _, _, _, _, _, _]) rfl (by decide) (by decide) 6 rfl rfl rfl rfl hl.1 rfl (Nat.le_of_ble_eq_true rfl) dX3_drawWithout_44 ⟨Nat.zero_le _, Nat.zero_le _⟩ [0, 1, 2, 3, 4, 5, 22, 6, 7, 8, 9, 10, 11, 12, 13, 14, 15, 16, 17, 18, 19, 20, 21, 23] (by decide) (fun _ => rfl) (fun u_9 H locs hw hC => ?_)
          refine lv_iinc (v := (x3_4 + 1)) (lv' := [(3, .int (x3_4 + 1)), (0, .ref (q 3)), (1, .int x1_3), (2, .ref (q 6))]) hx hb dX3_drawWithout_47 hl (k := 3) rfl rfl (by decide) rfl (fun ls hl => ?_)
          refine lv_goto (tgt := 6) hx hb dX3_drawWithout_50 (by decide) ?_
          exact ih (x3_4 + 1) (s_5.1, (va_up s_5.2 16 u_9)) _ _ _ hw hC (lv_sub hl [1, 2, 3, 0] rfl)
  refine lv_aload_n hx hb dX3_drawWithout_0 rfl (lv_at hl 2 rfl) ?_
  refine cx_callVv (As := []) (rest := []) (ws' := fun u_2 => (wX cI q (σ.1, (va_up σ.2 16 u_2)))) ⟨hx, hb, hml, hown, hts⟩ (c_X2_loosen l D cI (q 6) (q 23) _ (σ.2 16)  _ hw) (cwV 0 hts gX3_drawWithout_X2_loosen rfl rfl rfl (by decide +kernel) ⟨Nat.le_of_ble_eq_true rfl, Nat.le_of_ble_eq_true rfl⟩) hK hC hA [6, 23] [0, 1, 2, 3, 4, 5, 7, 8, 9, 10, 11, 12, 13, 14, 15, 16, 17, 18, 19, 20, 21, 22] (by decide) rfl (wr := [_, _, _, _, _, _, _, _, _, _, _, _, _, _, _, _, _, _, _, _, _, _]) rfl (by decide) (by decide) 6 rfl rfl rfl rfl hl.1 rfl (Nat.le_of_ble_eq_true rfl) dX3_drawWithout_1 ⟨Nat.zero_le _, Nat.zero_le _⟩ [0, 1, 2, 3, 4, 5, 22, 6, 7, 8, 9, 10, 11, 12, 13, 14, 15, 16, 17, 18, 19, 20, 21, 23] (by decide) (fun _ => rfl) (fun u_2 H locs hw hC => ?_)
  refine lv_iconst (v := 0) hx hb dX3_drawWithout_4 (by decide) ?_
  refine lv_istore_n (lv' := [(3, .int 0), (0, .ref (q 3)), (1, .int x1), (2, .ref (q 6))]) hx hb dX3_drawWithout_5 rfl hl (by decide) rfl (fun ls hl => ?_)
  obtain ⟨n, hw⟩ := hw
  refine L6 x1 _ (fun x3_10 s_11 H locs ls hw hC hl => ?_) n 0 (σ.1, (va_up σ.2 16 u_2)) _ _ _ hw hC (lv_sub hl [1, 2, 3, 0] rfl)
  exact cx_ret_v (u := s_11) hx hb hr hlocks hK hC hw dX3_drawWithout_53

/-! PictureHeap$Ties.drop(I)V (X3_drop) -/
set_option maxHeartbeats 1000000 in
set_option maxRecDepth 100000 in
theorem c_X3_drop (l : Launch) (D : va_G) (cI : ClassId) (q : Nat → Nat) (sz : Nat) (σ : St) (x1 : Int32) (post : St → Prop) (hw : w_X3_drop σ x1 post) : Cv l yX3_drop wsX3_drop 3 74 D cI (wX cI q σ) sz [.ref (q 3), .int x1] (wX cI q) post := by
  refine mo_v (cc := cX3_drop) (maxL := 2) (ret := none) (by decide) rfl (Nat.le_of_ble_eq_true rfl) ?_
  intro p e s m below meth c hx hb hr hml hts hown hlocks hK A hA hC ls hl
  have hown : s.vm.findClass RX3 = some m.cls := hown
  have hl : lv_has ls 2 [(0, .ref (q 3)), (1, .int x1)] := hl
  have u1 : (Cond.fieldLink RX3 43 "PictureHeap$Ties" "size" "I").before [.ref (q 3), .int x1].toArray s = true := hts _ (List.mem_of_getElem? (i := 1) rfl)
  have u2 : (Cond.fieldLink RX3 9 "PictureHeap$Ties" "number" "[I").before [.ref (q 3), .int x1].toArray s = true := hts _ (List.mem_of_getElem? (i := 2) rfl)
  have u3 : (Cond.fieldLink RX3 15 "PictureHeap$Ties" "one" "[I").before [.ref (q 3), .int x1].toArray s = true := hts _ (List.mem_of_getElem? (i := 3) rfl)
  have u4 : (Cond.fieldLink RX3 18 "PictureHeap$Ties" "other" "[I").before [.ref (q 3), .int x1].toArray s = true := hts _ (List.mem_of_getElem? (i := 4) rfl)
  have u5 : (Cond.fieldLink RX3 21 "PictureHeap$Ties" "least" "[I").before [.ref (q 3), .int x1].toArray s = true := hts _ (List.mem_of_getElem? (i := 5) rfl)
  have u6 : (Cond.fieldLink RX3 24 "PictureHeap$Ties" "most" "[I").before [.ref (q 3), .int x1].toArray s = true := hts _ (List.mem_of_getElem? (i := 6) rfl)
  have u7 : (Cond.fieldLink RX3 40 "PictureHeap$Ties" "agreed" "LPictureHeap$Offsets;").before [.ref (q 3), .int x1].toArray s = true := hts _ (List.mem_of_getElem? (i := 7) rfl)
  have iX3 : ∀ w ∈ wsX30, w ∈ wsX3_drop := fun _ h => List.mem_cons_of_mem _ (List.mem_append_left _ (List.mem_append_right _ h))
  refine lv_aload_n hx hb dX3_drop_0 rfl (lv_at hl 0 rfl) ?_
  refine lv_dup hx hb dX3_drop_1 rfl ?_
  refine cx_get (v := .int (σ.1 6)) hx hb hts iX3 hown hK hC 3 rfl rfl 9 (by decide) u1 rfl rfl dX3_drop_2 ?_
  refine lv_iconst (v := 1) hx hb dX3_drop_5 (by decide) ?_
  refine lv_isub hx hb dX3_drop_6 ?_
  refine cx_put (v := .int ((σ.1 6) - 1)) hx hb hts iX3 tyX3 tyX3_ok nmX3 hown hK hC 3 rfl rfl 9 (by decide) u1 rfl rfl (tyX3_ok 9 (by decide)) rfl rfl (Nat.le_of_ble_eq_true rfl) dX3_drop_7 (ws' := (wX cI q ((va_up σ.1 6 ((σ.1 6) - 1)), σ.2))) (wX_i6 cI q _ _) (fun H locs hC => ?_)
  refine lv_aload_n hx hb dX3_drop_10 rfl (lv_at hl 0 rfl) ?_
  refine cx_get (v := .ref (q 12)) hx hb hts iX3 hown hK hC 3 rfl rfl 0 (by decide) u2 rfl rfl dX3_drop_11 ?_
  refine lv_iload_n hx hb dX3_drop_14 rfl (lv_at hl 1 rfl) ?_
  refine lv_aload_n hx hb dX3_drop_15 rfl (lv_at hl 0 rfl) ?_
  refine cx_get (v := .ref (q 12)) hx hb hts iX3 hown hK hC 3 rfl rfl 0 (by decide) u2 rfl rfl dX3_drop_16 ?_
  refine lv_aload_n hx hb dX3_drop_19 rfl (lv_at hl 0 rfl) ?_
  refine cx_get (v := .int ((σ.1 6) - 1)) hx hb hts iX3 hown hK hC 3 rfl rfl 9 (by decide) u1 rfl rfl dX3_drop_20 ?_
  refine cx_iald (f := σ.2 5) hx hb hK hC 12 rfl hw.1 dX3_drop_23 ?_
  have hw := hw.2
  refine cx_iast (f := σ.2 5) hx hb hK hC 12 rfl hw.1 dX3_drop_24 (ws' := (wX cI q ((va_up σ.1 6 ((σ.1 6) - 1)), (va_up σ.2 5 (upd (σ.2 5) (Int32.toNatClampNeg x1) (σ.2 5 (Int32.toNatClampNeg ((σ.1 6) - 1)))))))) (wX_a5 cI q _ _) (fun H locs hC => ?_)
  have hw := hw.2
  refine lv_aload_n hx hb dX3_drop_25 rfl (lv_at hl 0 rfl) ?_
  refine cx_get (v := .ref (q 13)) hx hb hts iX3 hown hK hC 3 rfl rfl 1 (by decide) u3 rfl rfl dX3_drop_26 ?_
  refine lv_iload_n hx hb dX3_drop_29 rfl (lv_at hl 1 rfl) ?_
  refine lv_aload_n hx hb dX3_drop_30 rfl (lv_at hl 0 rfl) ?_
  refine cx_get (v := .ref (q 13)) hx hb hts iX3 hown hK hC 3 rfl rfl 1 (by decide) u3 rfl rfl dX3_drop_31 ?_
  refine lv_aload_n hx hb dX3_drop_34 rfl (lv_at hl 0 rfl) ?_
  refine cx_get (v := .int ((σ.1 6) - 1)) hx hb hts iX3 hown hK hC 3 rfl rfl 9 (by decide) u1 rfl rfl dX3_drop_35 ?_
  refine cx_iald (f := σ.2 6) hx hb hK hC 13 rfl hw.1 dX3_drop_38 ?_
  have hw := hw.2
  refine cx_iast (f := σ.2 6) hx hb hK hC 13 rfl hw.1 dX3_drop_39 (ws' := (wX cI q ((va_up σ.1 6 ((σ.1 6) - 1)), (va_up (va_up σ.2 5 (upd (σ.2 5) (Int32.toNatClampNeg x1) (σ.2 5 (Int32.toNatClampNeg ((σ.1 6) - 1))))) 6 (upd (σ.2 6) (Int32.toNatClampNeg x1) (σ.2 6 (Int32.toNatClampNeg ((σ.1 6) - 1)))))))) (wX_a6 cI q _ _) (fun H locs hC => ?_)
  have hw := hw.2
  refine lv_aload_n hx hb dX3_drop_40 rfl (lv_at hl 0 rfl) ?_
  refine cx_get (v := .ref (q 14)) hx hb hts iX3 hown hK hC 3 rfl rfl 2 (by decide) u4 rfl rfl dX3_drop_41 ?_
  refine lv_iload_n hx hb dX3_drop_44 rfl (lv_at hl 1 rfl) ?_
  refine lv_aload_n hx hb dX3_drop_45 rfl (lv_at hl 0 rfl) ?_
  refine cx_get (v := .ref (q 14)) hx hb hts iX3 hown hK hC 3 rfl rfl 2 (by decide) u4 rfl rfl dX3_drop_46 ?_
  refine lv_aload_n hx hb dX3_drop_49 rfl (lv_at hl 0 rfl) ?_
  refine cx_get (v := .int ((σ.1 6) - 1)) hx hb hts iX3 hown hK hC 3 rfl rfl 9 (by decide) u1 rfl rfl dX3_drop_50 ?_
  refine cx_iald (f := σ.2 7) hx hb hK hC 14 rfl hw.1 dX3_drop_53 ?_
  have hw := hw.2
  refine cx_iast (f := σ.2 7) hx hb hK hC 14 rfl hw.1 dX3_drop_54 (ws' := (wX cI q ((va_up σ.1 6 ((σ.1 6) - 1)), (va_up (va_up (va_up σ.2 5 (upd (σ.2 5) (Int32.toNatClampNeg x1) (σ.2 5 (Int32.toNatClampNeg ((σ.1 6) - 1))))) 6 (upd (σ.2 6) (Int32.toNatClampNeg x1) (σ.2 6 (Int32.toNatClampNeg ((σ.1 6) - 1))))) 7 (upd (σ.2 7) (Int32.toNatClampNeg x1) (σ.2 7 (Int32.toNatClampNeg ((σ.1 6) - 1)))))))) (wX_a7 cI q _ _) (fun H locs hC => ?_)
  have hw := hw.2
  refine lv_aload_n hx hb dX3_drop_55 rfl (lv_at hl 0 rfl) ?_
  refine cx_get (v := .ref (q 15)) hx hb hts iX3 hown hK hC 3 rfl rfl 3 (by decide) u5 rfl rfl dX3_drop_56 ?_
  refine lv_iload_n hx hb dX3_drop_59 rfl (lv_at hl 1 rfl) ?_
  refine lv_aload_n hx hb dX3_drop_60 rfl (lv_at hl 0 rfl) ?_
  refine cx_get (v := .ref (q 15)) hx hb hts iX3 hown hK hC 3 rfl rfl 3 (by decide) u5 rfl rfl dX3_drop_61 ?_
  refine lv_aload_n hx hb dX3_drop_64 rfl (lv_at hl 0 rfl) ?_
  refine cx_get (v := .int ((σ.1 6) - 1)) hx hb hts iX3 hown hK hC 3 rfl rfl 9 (by decide) u1 rfl rfl dX3_drop_65 ?_
  refine cx_iald (f := σ.2 8) hx hb hK hC 15 rfl hw.1 dX3_drop_68 ?_
  have hw := hw.2
  refine cx_iast (f := σ.2 8) hx hb hK hC 15 rfl hw.1 dX3_drop_69 (ws' := (wX cI q ((va_up σ.1 6 ((σ.1 6) - 1)), (va_up (va_up (va_up (va_up σ.2 5 (upd (σ.2 5) (Int32.toNatClampNeg x1) (σ.2 5 (Int32.toNatClampNeg ((σ.1 6) - 1))))) 6 (upd (σ.2 6) (Int32.toNatClampNeg x1) (σ.2 6 (Int32.toNatClampNeg ((σ.1 6) - 1))))) 7 (upd (σ.2 7) (Int32.toNatClampNeg x1) (σ.2 7 (Int32.toNatClampNeg ((σ.1 6) - 1))))) 8 (upd (σ.2 8) (Int32.toNatClampNeg x1) (σ.2 8 (Int32.toNatClampNeg ((σ.1 6) - 1)))))))) (wX_a8 cI q _ _) (fun H locs hC => ?_)
  have hw := hw.2
  refine lv_aload_n hx hb dX3_drop_70 rfl (lv_at hl 0 rfl) ?_
  refine cx_get (v := .ref (q 16)) hx hb hts iX3 hown hK hC 3 rfl rfl 4 (by decide) u6 rfl rfl dX3_drop_71 ?_
  refine lv_iload_n hx hb dX3_drop_74 rfl (lv_at hl 1 rfl) ?_
  refine lv_aload_n hx hb dX3_drop_75 rfl (lv_at hl 0 rfl) ?_
  refine cx_get (v := .ref (q 16)) hx hb hts iX3 hown hK hC 3 rfl rfl 4 (by decide) u6 rfl rfl dX3_drop_76 ?_
  refine lv_aload_n hx hb dX3_drop_79 rfl (lv_at hl 0 rfl) ?_
  refine cx_get (v := .int ((σ.1 6) - 1)) hx hb hts iX3 hown hK hC 3 rfl rfl 9 (by decide) u1 rfl rfl dX3_drop_80 ?_
  refine cx_iald (f := σ.2 9) hx hb hK hC 16 rfl hw.1 dX3_drop_83 ?_
  have hw := hw.2
  refine cx_iast (f := σ.2 9) hx hb hK hC 16 rfl hw.1 dX3_drop_84 (ws' := (wX cI q ((va_up σ.1 6 ((σ.1 6) - 1)), (va_up (va_up (va_up (va_up (va_up σ.2 5 (upd (σ.2 5) (Int32.toNatClampNeg x1) (σ.2 5 (Int32.toNatClampNeg ((σ.1 6) - 1))))) 6 (upd (σ.2 6) (Int32.toNatClampNeg x1) (σ.2 6 (Int32.toNatClampNeg ((σ.1 6) - 1))))) 7 (upd (σ.2 7) (Int32.toNatClampNeg x1) (σ.2 7 (Int32.toNatClampNeg ((σ.1 6) - 1))))) 8 (upd (σ.2 8) (Int32.toNatClampNeg x1) (σ.2 8 (Int32.toNatClampNeg ((σ.1 6) - 1))))) 9 (upd (σ.2 9) (Int32.toNatClampNeg x1) (σ.2 9 (Int32.toNatClampNeg ((σ.1 6) - 1)))))))) (wX_a9 cI q _ _) (fun H locs hC => ?_)
  have hw := hw.2
  refine lv_aload_n hx hb dX3_drop_85 rfl (lv_at hl 0 rfl) ?_
  refine lv_iconst (v := (-1)) hx hb dX3_drop_86 (by decide) ?_
  refine lv_aload_n hx hb dX3_drop_87 rfl (lv_at hl 0 rfl) ?_
  refine cx_get (v := .ref (q 6)) hx hb hts iX3 hown hK hC 3 rfl rfl 8 (by decide) u7 rfl rfl dX3_drop_88 ?_
  refine cx_callVv0 (As := [.int (-1), .ref (q 6)]) (rest := []) ⟨hx, hb, hml, hown, hts⟩ (c_X3_drawWithout_a6 l D cI q _ ((va_up σ.1 6 ((σ.1 6) - 1)), (va_up (va_up (va_up (va_up (va_up σ.2 5 (upd (σ.2 5) (Int32.toNatClampNeg x1) (σ.2 5 (Int32.toNatClampNeg ((σ.1 6) - 1))))) 6 (upd (σ.2 6) (Int32.toNatClampNeg x1) (σ.2 6 (Int32.toNatClampNeg ((σ.1 6) - 1))))) 7 (upd (σ.2 7) (Int32.toNatClampNeg x1) (σ.2 7 (Int32.toNatClampNeg ((σ.1 6) - 1))))) 8 (upd (σ.2 8) (Int32.toNatClampNeg x1) (σ.2 8 (Int32.toNatClampNeg ((σ.1 6) - 1))))) 9 (upd (σ.2 9) (Int32.toNatClampNeg x1) (σ.2 9 (Int32.toNatClampNeg ((σ.1 6) - 1)))))) (-1) _ hw) (cwV 2 hts gX3_drop_X3_drawWithout rfl rfl rfl (by decide +kernel) ⟨Nat.le_of_ble_eq_true rfl, Nat.le_of_ble_eq_true rfl⟩) hK hC hA 3 rfl rfl rfl rfl hl.1 rfl (Nat.le_of_ble_eq_true rfl) dX3_drop_91 ⟨Nat.zero_le _, Nat.zero_le _⟩ (fun u_2 H locs hw hC => ?_)
  exact cx_ret_v (u := u_2) hx hb hr hlocks hK hC hw dX3_drop_94

/-! PictureHeap$Ties.drawWithout(ILPictureHeap$Offsets;)V (X3_drawWithout_a5) -/
set_option maxHeartbeats 1000000 in
set_option maxRecDepth 100000 in
theorem c_X3_drawWithout_a5 (l : Launch) (D : va_G) (cI : ClassId) (q : Nat → Nat) (sz : Nat) (σ : St) (x1 : Int32) (post : St → Prop) (hw : w_X3_drawWithout_a5 σ x1 post) : Cv l yX3_drawWithout wsX3_drawWithout 2 51 D cI (wX cI q σ) sz [.ref (q 3), .int x1, .ref (q 5)] (wX cI q) post := by
  refine mo_v (cc := cX3_drawWithout) (maxL := 4) (ret := none) (by decide) rfl (Nat.le_of_ble_eq_true rfl) ?_
  intro p e s m below meth c hx hb hr hml hts hown hlocks hK A hA hC ls hl
  have hown : s.vm.findClass RX3 = some m.cls := hown
  have hl : lv_has ls 4 [(0, .ref (q 3)), (1, .int x1), (2, .ref (q 5))] := hl
  have u1 : (Cond.fieldLink RX3 43 "PictureHeap$Ties" "size" "I").before [.ref (q 3), .int x1, .ref (q 5)].toArray s = true := hts _ (List.mem_of_getElem? (i := 1) rfl)
  have u2 : (Cond.fieldLink RX3 15 "PictureHeap$Ties" "one" "[I").before [.ref (q 3), .int x1, .ref (q 5)].toArray s = true := hts _ (List.mem_of_getElem? (i := 2) rfl)
  have u3 : (Cond.fieldLink RX3 18 "PictureHeap$Ties" "other" "[I").before [.ref (q 3), .int x1, .ref (q 5)].toArray s = true := hts _ (List.mem_of_getElem? (i := 3) rfl)
  have u4 : (Cond.fieldLink RX3 21 "PictureHeap$Ties" "least" "[I").before [.ref (q 3), .int x1, .ref (q 5)].toArray s = true := hts _ (List.mem_of_getElem? (i := 4) rfl)
  have u5 : (Cond.fieldLink RX3 24 "PictureHeap$Ties" "most" "[I").before [.ref (q 3), .int x1, .ref (q 5)].toArray s = true := hts _ (List.mem_of_getElem? (i := 5) rfl)
  have iX3 : ∀ w ∈ wsX30, w ∈ wsX3_drawWithout := fun _ h => List.mem_cons_of_mem _ (List.mem_append_left _ (List.mem_append_right _ h))
  have L6 : ∀ (x1_3 : Int32) (K : Int32 → St → Prop) (hKK : ∀ (x3_4 : Int32) (s_5 : St) (H : Heap) (locs : List Loc) (ls : Array Slot), K x3_4 s_5 → Cx D A s.heap (wX cI q s_5) H locs → lv_has ls 4 [(0, .ref (q 3)), (1, .int x1_3), (2, .ref (q 5)), (3, .int x3_4)] → W p l e (Rm 2 51) s m [.ref (q 3), .int x1, .ref (q 5)].toArray below meth c H locs 0 0 (QV below D cI A (wX cI q) post [.ref (q 3), .int x1, .ref (q 5)].toArray s) (F0 m 53 ls [])) (n : Nat), ∀ (x3_4 : Int32) (s_5 : St) (H : Heap) (locs : List Loc) (ls : Array Slot), w_X3_drawWithout_a5_L6 x1_3 post K n x3_4 s_5 → Cx D A s.heap (wX cI q s_5) H locs → lv_has ls 4 [(0, .ref (q 3)), (1, .int x1_3), (2, .ref (q 5)), (3, .int x3_4)] → W p l e (Rm 2 51) s m [.ref (q 3), .int x1, .ref (q 5)].toArray below meth c H locs 0 0 (QV below D cI A (wX cI q) post [.ref (q 3), .int x1, .ref (q 5)].toArray s) (F0 m 6 ls []) := by
    intro x1_3 K hKK n
    induction n with
    | zero => intro x3_4 s_5 H locs ls hw; exact hw.elim
    | succ n ih =>
      intro x3_4 s_5 H locs ls hw hC hl
      refine lv_iload_n hx hb dX3_drawWithout_6 rfl (lv_at hl 3 rfl) ?_
      refine lv_aload_n hx hb dX3_drawWithout_7 rfl (lv_at hl 0 rfl) ?_
      refine cx_get (v := .int (s_5.1 6)) hx hb hts iX3 hown hK hC 3 rfl rfl 9 (by decide) u1 rfl rfl dX3_drawWithout_8 ?_
      refine lv_icmp_ge (tgt := 53) hx hb dX3_drawWithout_11 (by decide) (fun c_6 => ?_) (fun c_6 => ?_)
      · have hw := hw.1 c_6
        exact hKK x3_4 s_5 _ _ _ hw hC (lv_sub hl [0, 1, 2, 3] rfl)
      · have hw := hw.2 c_6
        refine lv_iload_n hx hb dX3_drawWithout_14 rfl (lv_at hl 3 rfl) ?_
        refine lv_iload_n hx hb dX3_drawWithout_15 rfl (lv_at hl 1 rfl) ?_
        refine lv_icmp_eq (tgt := 47) hx hb dX3_drawWithout_16 (by decide) (fun c_7 => ?_) (fun c_7 => ?_)
        · have hw := hw.1 c_7
          refine lv_iinc (v := (x3_4 + 1)) (lv' := [(3, .int (x3_4 + 1)), (0, .ref (q 3)), (1, .int x1_3), (2, .ref (q 5))]) hx hb dX3_drawWithout_47 hl (k := 3) rfl rfl (by decide) rfl (fun ls hl => ?_)
          refine lv_goto (tgt := 6) hx hb dX3_drawWithout_50 (by decide) ?_
          exact ih (x3_4 + 1) s_5 _ _ _ hw hC (lv_sub hl [1, 2, 3, 0] rfl)
        · have hw := hw.2 c_7
          refine lv_aload_n hx hb dX3_drawWithout_19 rfl (lv_at hl 2 rfl) ?_
          refine lv_aload_n hx hb dX3_drawWithout_20 rfl (lv_at hl 0 rfl) ?_
          refine cx_get (v := .ref (q 13)) hx hb hts iX3 hown hK hC 3 rfl rfl 1 (by decide) u2 rfl rfl dX3_drawWithout_21 ?_
          refine lv_iload_n hx hb dX3_drawWithout_24 rfl (lv_at hl 3 rfl) ?_
          refine cx_iald (f := s_5.2 6) hx hb hK hC 13 rfl hw.1 dX3_drawWithout_25 ?_
          have hw := hw.2
          refine lv_aload_n hx hb dX3_drawWithout_26 rfl (lv_at hl 0 rfl) ?_
          refine cx_get (v := .ref (q 14)) hx hb hts iX3 hown hK hC 3 rfl rfl 2 (by decide) u3 rfl rfl dX3_drawWithout_27 ?_
          refine lv_iload_n hx hb dX3_drawWithout_30 rfl (lv_at hl 3 rfl) ?_
          refine cx_iald (f := s_5.2 7) hx hb hK hC 14 rfl hw.1 dX3_drawWithout_31 ?_
          have hw := hw.2
          refine lv_aload_n hx hb dX3_drawWithout_32 rfl (lv_at hl 0 rfl) ?_
          refine cx_get (v := .ref (q 15)) hx hb hts iX3 hown hK hC 3 rfl rfl 3 (by decide) u4 rfl rfl dX3_drawWithout_33 ?_
          refine lv_iload_n hx hb dX3_drawWithout_36 rfl (lv_at hl 3 rfl) ?_
          refine cx_iald (f := s_5.2 8) hx hb hK hC 15 rfl hw.1 dX3_drawWithout_37 ?_
          have hw := hw.2
          refine lv_aload_n hx hb dX3_drawWithout_38 rfl (lv_at hl 0 rfl) ?_
          refine cx_get (v := .ref (q 16)) hx hb hts iX3 hown hK hC 3 rfl rfl 4 (by decide) u5 rfl rfl dX3_drawWithout_39 ?_
          refine lv_iload_n hx hb dX3_drawWithout_42 rfl (lv_at hl 3 rfl) ?_
          refine cx_iald (f := s_5.2 9) hx hb hK hC 16 rfl hw.1 dX3_drawWithout_43 ?_
          have hw := hw.2
          refine cx_callVv (As := [.int (s_5.2 6 (Int32.toNatClampNeg x3_4)), .int (s_5.2 7 (Int32.toNatClampNeg x3_4)), .int (s_5.2 8 (Int32.toNatClampNeg x3_4)), .int (s_5.2 9 (Int32.toNatClampNeg x3_4))]) (rest := []) (ws' := fun u_9 => (wX cI q (s_5.1, (va_up s_5.2 15 u_9)))) ⟨hx, hb, hml, hown, hts⟩ (c_X2_tighten l D cI (q 5) (q 22) _ (s_5.2 15) (s_5.2 6 (Int32.toNatClampNeg x3_4)) (s_5.2 7 (Int32.toNatClampNeg x3_4)) (s_5.2 8 (Int32.toNatClampNeg x3_4)) (s_5.2 9 (Int32.toNatClampNeg x3_4)) _ hw) (cwV 4 hts gX3_drawWithout_X2_tighten rfl rfl rfl (by decide +kernel) ⟨Nat.le_of_ble_eq_true rfl, Nat.le_of_ble_eq_true rfl⟩) hK hC hA [5, 22] [0, 1, 2, 3, 4, 6, 7, 8, 9, 10, 11, 12, 13, 14, 15, 16, 17, 18, 19, 20, 21, 23] (by decide) rfl (wr := [_, _, _, _, _, _, _, _, _, _, _, _, _, _, _, _, _, _, _, _, _, _]) rfl (by decide) (by decide) 5 rfl rfl rfl rfl hl.1 rfl (Nat.le_of_ble_eq_true rfl) dX3_drawWithout_44 ⟨Nat.zero_le _, Nat.zero_le _⟩ [0, 1, 2, 3, 4, 22, 5, 6, 7, 8, 9, 10, 11, 12, 13, 14, 15, 16, 17, 18, 19, 20, 23, 21] (by decide) (fun _ => rfl) (fun u_9 H locs hw hC => ?_)
          refine lv_iinc (v := (x3_4 + 1)) (lv' := [(3, .int (x3_4 + 1)), (0, .ref (q 3)), (1, .int x1_3), (2, .ref (q 5))]) hx hb dX3_drawWithout_47 hl (k := 3) rfl rfl (by decide) rfl (fun ls hl => ?_)
          refine lv_goto (tgt := 6) hx hb dX3_drawWithout_50 (by decide) ?_
          exact ih (x3_4 + 1) (s_5.1, (va_up s_5.2 15 u_9)) _ _ _ hw hC (lv_sub hl [1, 2, 3, 0] rfl)
  refine lv_aload_n hx hb dX3_drawWithout_0 rfl (lv_at hl 2 rfl) ?_
  refine cx_callVv (As := []) (rest := []) (ws' := fun u_2 => (wX cI q (σ.1, (va_up σ.2 15 u_2)))) ⟨hx, hb, hml, hown, hts⟩ (c_X2_loosen l D cI (q 5) (q 22) _ (σ.2 15)  _ hw) (cwV 0 hts gX3_drawWithout_X2_loosen rfl rfl rfl (by decide +kernel) ⟨Nat.le_of_ble_eq_true rfl, Nat.le_of_ble_eq_true rfl⟩) hK hC hA [5, 22] [0, 1, 2, 3, 4, 6, 7, 8, 9, 10, 11, 12, 13, 14, 15, 16, 17, 18, 19, 20, 21, 23] (by decide) rfl (wr := [_, _, _, _, _, _, _, _, _, _, _, _, _, _, _, _, _, _, _, _, _, _]) rfl (by decide) (by decide) 5 rfl rfl rfl rfl hl.1 rfl (Nat.le_of_ble_eq_true rfl) dX3_drawWithout_1 ⟨Nat.zero_le _, Nat.zero_le _⟩ [0, 1, 2, 3, 4, 22, 5, 6, 7, 8, 9, 10, 11, 12, 13, 14, 15, 16, 17, 18, 19, 20, 23, 21] (by decide) (fun _ => rfl) (fun u_2 H locs hw hC => ?_)
  refine lv_iconst (v := 0) hx hb dX3_drawWithout_4 (by decide) ?_
  refine lv_istore_n (lv' := [(3, .int 0), (0, .ref (q 3)), (1, .int x1), (2, .ref (q 5))]) hx hb dX3_drawWithout_5 rfl hl (by decide) rfl (fun ls hl => ?_)
  obtain ⟨n, hw⟩ := hw
  refine L6 x1 _ (fun x3_10 s_11 H locs ls hw hC hl => ?_) n 0 (σ.1, (va_up σ.2 15 u_2)) _ _ _ hw hC (lv_sub hl [1, 2, 3, 0] rfl)
  exact cx_ret_v (u := s_11) hx hb hr hlocks hK hC hw dX3_drawWithout_53

/-! PictureHeap$Ties.isOfNoMatter(I)Z (X3_isOfNoMatter) -/
set_option maxHeartbeats 1000000 in
set_option maxRecDepth 100000 in
theorem c_X3_isOfNoMatter (l : Launch) (D : va_G) (cI : ClassId) (q : Nat → Nat) (sz : Nat) (σ : St) (x1 : Int32) (post : Int32 → St → Prop) (hw : w_X3_isOfNoMatter σ x1 post) : Ci l yX3_isOfNoMatter wsX3_isOfNoMatter 3 74 D cI (wX cI q σ) sz [.ref (q 3), .int x1] (wX cI q) post := by
  refine mo_i (cc := cX3_isOfNoMatter) (maxL := 2) (ret := (some .boolean)) (by decide) rfl (Nat.le_of_ble_eq_true rfl) ?_
  intro p e s m below meth c hx hb hr hml hts hown hlocks hK A hA hC ls hl
  have hown : s.vm.findClass RX3 = some m.cls := hown
  have hl : lv_has ls 2 [(0, .ref (q 3)), (1, .int x1)] := hl
  have u1 : (Cond.fieldLink RX3 36 "PictureHeap$Ties" "without" "LPictureHeap$Offsets;").before [.ref (q 3), .int x1].toArray s = true := hts _ (List.mem_of_getElem? (i := 1) rfl)
  have u2 : (Cond.fieldLink RX3 40 "PictureHeap$Ties" "agreed" "LPictureHeap$Offsets;").before [.ref (q 3), .int x1].toArray s = true := hts _ (List.mem_of_getElem? (i := 2) rfl)
  have iX3 : ∀ w ∈ wsX30, w ∈ wsX3_isOfNoMatter := fun _ h => List.mem_cons_of_mem _ (List.mem_append_left _ (List.mem_append_right _ h))
  refine lv_aload_n hx hb dX3_isOfNoMatter_0 rfl (lv_at hl 0 rfl) ?_
  refine lv_iload_n hx hb dX3_isOfNoMatter_1 rfl (lv_at hl 1 rfl) ?_
  refine lv_aload_n hx hb dX3_isOfNoMatter_2 rfl (lv_at hl 0 rfl) ?_
  refine cx_get (v := .ref (q 5)) hx hb hts iX3 hown hK hC 3 rfl rfl 7 (by decide) u1 rfl rfl dX3_isOfNoMatter_3 ?_
  refine cx_callVv0 (As := [.int x1, .ref (q 5)]) (rest := []) ⟨hx, hb, hml, hown, hts⟩ (c_X3_drawWithout_a5 l D cI q _ σ x1 _ hw) (cwV 2 hts gX3_isOfNoMatter_X3_drawWithout rfl rfl rfl (by decide +kernel) ⟨Nat.le_of_ble_eq_true rfl, Nat.le_of_ble_eq_true rfl⟩) hK hC hA 3 rfl rfl rfl rfl hl.1 rfl (Nat.le_of_ble_eq_true rfl) dX3_isOfNoMatter_6 ⟨Nat.zero_le _, Nat.zero_le _⟩ (fun u_2 H locs hw hC => ?_)
  refine lv_aload_n hx hb dX3_isOfNoMatter_9 rfl (lv_at hl 0 rfl) ?_
  refine cx_get (v := .ref (q 5)) hx hb hts iX3 hown hK hC 3 rfl rfl 7 (by decide) u1 rfl rfl dX3_isOfNoMatter_10 ?_
  refine lv_aload_n hx hb dX3_isOfNoMatter_13 rfl (lv_at hl 0 rfl) ?_
  refine cx_get (v := .ref (q 6)) hx hb hts iX3 hown hK hC 3 rfl rfl 8 (by decide) u2 rfl rfl dX3_isOfNoMatter_14 ?_
  refine cx_callVi (As := [.ref (q 6)]) (rest := []) (ws' := fun u_4 => (wX cI q (u_2.1, (va_up (va_up u_2.2 15 u_4.1) 16 u_4.2)))) ⟨hx, hb, hml, hown, hts⟩ (c_X2_sameAs l D cI (q 5) (q 22) (q 6) (q 23) _ (u_2.2 15, u_2.2 16)  _ hw) (cwV 1 hts gX3_isOfNoMatter_X2_sameAs rfl rfl rfl (by decide +kernel) ⟨Nat.le_of_ble_eq_true rfl, Nat.le_of_ble_eq_true rfl⟩) hK hC hA [5, 6, 22, 23] [0, 1, 2, 3, 4, 7, 8, 9, 10, 11, 12, 13, 14, 15, 16, 17, 18, 19, 20, 21] (by decide) rfl (wr := [_, _, _, _, _, _, _, _, _, _, _, _, _, _, _, _, _, _, _, _]) rfl (by decide) (by decide) 5 rfl rfl rfl rfl hl.1 rfl (Nat.le_of_ble_eq_true rfl) dX3_isOfNoMatter_17 ⟨Nat.zero_le _, Nat.zero_le _⟩ [0, 1, 2, 3, 4, 20, 21, 5, 6, 7, 8, 9, 10, 11, 12, 13, 14, 15, 16, 17, 18, 19, 22, 23] (by decide) (fun _ => rfl) (fun r_3 u_4 H locs hw hC => ?_)
  exact cx_ret_z (u := (u_2.1, (va_up (va_up u_2.2 15 u_4.1) 16 u_4.2))) hx hb hr hlocks hK hC hw.1 hw.2 dX3_isOfNoMatter_20

/-! PictureHeap$Atlas.isWithinReach(LPictureHeap$Album;II)Z (X1_isWithinReach) -/
set_option maxHeartbeats 1000000 in
set_option maxRecDepth 100000 in
theorem c_X1_isWithinReach (l : Launch) (D : va_G) (cI : ClassId) (q : Nat → Nat) (sz : Nat) (σ : St) (x2 : Int32) (x3 : Int32) (post : Int32 → St → Prop) (hw : w_X1_isWithinReach σ x2 x3 post) : Ci l yX1_isWithinReach wsX1_isWithinReach 1 21 D cI (wX cI q σ) sz [.ref (q 2), .ref (q 1), .int x2, .int x3] (wX cI q) post := by
  refine mo_i (cc := cX1_isWithinReach) (maxL := 8) (ret := (some .boolean)) (by decide) rfl (Nat.le_of_ble_eq_true rfl) ?_
  intro p e s m below meth c hx hb hr hml hts hown hlocks hK A hA hC ls hl
  have hown : s.vm.findClass RX1 = some m.cls := hown
  have hl : lv_has ls 8 [(0, .ref (q 2)), (1, .ref (q 1)), (2, .int x2), (3, .int x3)] := hl
  have u1 : (Cond.fieldLink RX1 28 "PictureHeap$Album" "cameraOf" "[I").before [.ref (q 2), .ref (q 1), .int x2, .int x3].toArray s = true := hts _ (List.mem_of_getElem? (i := 1) rfl)
  have u2 : (Cond.fieldLink RX1 31 "PictureHeap$Album" "clockOf" "[I").before [.ref (q 2), .ref (q 1), .int x2, .int x3].toArray s = true := hts _ (List.mem_of_getElem? (i := 2) rfl)
  have u3 : (Cond.fieldLink RX1 34 "PictureHeap$Album" "size" "I").before [.ref (q 2), .ref (q 1), .int x2, .int x3].toArray s = true := hts _ (List.mem_of_getElem? (i := 3) rfl)
  have u4 : (Cond.fieldLink RX1 19 "PictureHeap$Album" "placeOf" "[I").before [.ref (q 2), .ref (q 1), .int x2, .int x3].toArray s = true := hts _ (List.mem_of_getElem? (i := 4) rfl)
  have u5 : (Cond.methodLink RX1 35 Lib.Math.abs.name).before [.ref (q 2), .ref (q 1), .int x2, .int x3].toArray s = true := hts _ (List.mem_of_getElem? (i := 5) rfl)
  have u6 : (Cond.static Lib.Math.abs.name).before [.ref (q 2), .ref (q 1), .int x2, .int x3].toArray s = true := hts _ (List.mem_of_getElem? (i := 6) rfl)
  have u7 : (Cond.initialized "java/lang/Math").before [.ref (q 2), .ref (q 1), .int x2, .int x3].toArray s = true := hts _ (List.mem_of_getElem? (i := 7) rfl)
  have u8 : (Cond.code Lib.Math.abs.name Lib.Math.abs.code 1 (some .int)).before [.ref (q 2), .ref (q 1), .int x2, .int x3].toArray s = true := hts _ (List.mem_of_getElem? (i := 8) rfl)
  have u9 : (Cond.fieldLink RX1 9 "PictureHeap$Atlas" "minutes" "[I").before [.ref (q 2), .ref (q 1), .int x2, .int x3].toArray s = true := hts _ (List.mem_of_getElem? (i := 9) rfl)
  have iX0 : ∀ w ∈ wsX00, w ∈ wsX1_isWithinReach := fun _ h => List.mem_cons_of_mem _ (List.mem_append_left _ (List.mem_append_right _ h))
  have iX1 : ∀ w ∈ wsX10, w ∈ wsX1_isWithinReach := fun _ h => List.mem_cons_of_mem _ (List.mem_append_right _ h)
  have L19 : ∀ (x3_1 : Int32) (x4_2 : Int32) (x5_3 : Int32) (K : Int32 → St → Prop) (hKK : ∀ (x6_4 : Int32) (s_5 : St) (H : Heap) (locs : List Loc) (ls : Array Slot), K x6_4 s_5 → Cx D A s.heap (wX cI q s_5) H locs → lv_has ls 8 [(0, .ref (q 2)), (1, .ref (q 1)), (3, .int x3_1), (4, .int x4_2), (5, .int x5_3), (6, .int x6_4)] → W p l e (Rm 1 21) s m [.ref (q 2), .ref (q 1), .int x2, .int x3].toArray below meth c H locs 0 0 (QI below D cI A (wX cI q) post [.ref (q 2), .ref (q 1), .int x2, .int x3].toArray s) (F0 m 91 ls [])) (n : Nat), ∀ (x6_4 : Int32) (s_5 : St) (H : Heap) (locs : List Loc) (ls : Array Slot), w_X1_isWithinReach_L19 x3_1 x4_2 x5_3 post K n x6_4 s_5 → Cx D A s.heap (wX cI q s_5) H locs → lv_has ls 8 [(0, .ref (q 2)), (1, .ref (q 1)), (3, .int x3_1), (4, .int x4_2), (5, .int x5_3), (6, .int x6_4)] → W p l e (Rm 1 21) s m [.ref (q 2), .ref (q 1), .int x2, .int x3].toArray below meth c H locs 0 0 (QI below D cI A (wX cI q) post [.ref (q 2), .ref (q 1), .int x2, .int x3].toArray s) (F0 m 19 ls []) := by
    intro x3_1 x4_2 x5_3 K hKK n
    induction n with
    | zero => intro x6_4 s_5 H locs ls hw; exact hw.elim
    | succ n ih =>
      intro x6_4 s_5 H locs ls hw hC hl
      refine lv_iload hx hb dX1_isWithinReach_19 (lv_at hl 5 rfl) ?_
      refine lv_aload_n hx hb dX1_isWithinReach_21 rfl (lv_at hl 1 rfl) ?_
      refine cx_get (v := .int (s_5.1 4)) hx hb hts iX0 hown hK hC 1 rfl rfl 4 (by decide) u3 rfl rfl dX1_isWithinReach_22 ?_
      refine lv_icmp_ge (tgt := 91) hx hb dX1_isWithinReach_25 (by decide) (fun c_6 => ?_) (fun c_6 => ?_)
      · have hw := hw.1 c_6
        exact hKK x6_4 s_5 _ _ _ hw hC (lv_sub hl [0, 1, 2, 3, 4, 5] rfl)
      · have hw := hw.2 c_6
        refine lv_aload_n hx hb dX1_isWithinReach_28 rfl (lv_at hl 1 rfl) ?_
        refine cx_get (v := .ref (q 10)) hx hb hts iX0 hown hK hC 1 rfl rfl 3 (by decide) u4 rfl rfl dX1_isWithinReach_29 ?_
        refine lv_iload hx hb dX1_isWithinReach_32 (lv_at hl 5 rfl) ?_
        refine cx_iald (f := s_5.2 3) hx hb hK hC 10 rfl hw.1 dX1_isWithinReach_34 ?_
        have hw := hw.2
        refine lv_istore (lv' := [(7, .int (s_5.2 3 (Int32.toNatClampNeg x6_4))), (0, .ref (q 2)), (1, .ref (q 1)), (3, .int x3_1), (4, .int x4_2), (5, .int x5_3), (6, .int x6_4)]) hx hb dX1_isWithinReach_35 hl (by decide) rfl (fun ls hl => ?_)
        refine lv_iload hx hb dX1_isWithinReach_37 (lv_at hl 0 rfl) ?_
        refine lv_iconst (v := (-1)) hx hb dX1_isWithinReach_39 (by decide) ?_
        refine lv_icmp_eq (tgt := 85) hx hb dX1_isWithinReach_40 (by decide) (fun c_7 => ?_) (fun c_7 => ?_)
        · have hw := hw.1 c_7
          refine lv_iinc (v := (x6_4 + 1)) (lv' := [(6, .int (x6_4 + 1)), (7, .int (s_5.2 3 (Int32.toNatClampNeg x6_4))), (0, .ref (q 2)), (1, .ref (q 1)), (3, .int x3_1), (4, .int x4_2), (5, .int x5_3)]) hx hb dX1_isWithinReach_85 hl (k := 6) rfl rfl (by decide) rfl (fun ls hl => ?_)
          refine lv_goto (tgt := 19) hx hb dX1_isWithinReach_88 (by decide) ?_
          exact ih (x6_4 + 1) s_5 _ _ _ hw hC (lv_sub hl [2, 3, 4, 5, 6, 0] rfl)
        · have hw := hw.2 c_7
          refine lv_aload_n hx hb dX1_isWithinReach_43 rfl (lv_at hl 2 rfl) ?_
          refine cx_get (v := .ref (q 7)) hx hb hts iX0 hown hK hC 1 rfl rfl 0 (by decide) u1 rfl rfl dX1_isWithinReach_44 ?_
          refine lv_iload hx hb dX1_isWithinReach_47 (lv_at hl 6 rfl) ?_
          refine cx_iald (f := s_5.2 0) hx hb hK hC 7 rfl hw.1 dX1_isWithinReach_49 ?_
          have hw := hw.2
          refine lv_iload hx hb dX1_isWithinReach_50 (lv_at hl 4 rfl) ?_
          refine lv_icmp_ne (tgt := 85) hx hb dX1_isWithinReach_52 (by decide) (fun c_8 => ?_) (fun c_8 => ?_)
          · have hw := hw.1 c_8
            refine lv_iinc (v := (x6_4 + 1)) (lv' := [(6, .int (x6_4 + 1)), (7, .int (s_5.2 3 (Int32.toNatClampNeg x6_4))), (0, .ref (q 2)), (1, .ref (q 1)), (3, .int x3_1), (4, .int x4_2), (5, .int x5_3)]) hx hb dX1_isWithinReach_85 hl (k := 6) rfl rfl (by decide) rfl (fun ls hl => ?_)
            refine lv_goto (tgt := 19) hx hb dX1_isWithinReach_88 (by decide) ?_
            exact ih (x6_4 + 1) s_5 _ _ _ hw hC (lv_sub hl [2, 3, 4, 5, 6, 0] rfl)
          · have hw := hw.2 c_8
            refine lv_aload_n hx hb dX1_isWithinReach_55 rfl (lv_at hl 2 rfl) ?_
            refine cx_get (v := .ref (q 8)) hx hb hts iX0 hown hK hC 1 rfl rfl 1 (by decide) u2 rfl rfl dX1_isWithinReach_56 ?_
            refine lv_iload hx hb dX1_isWithinReach_59 (lv_at hl 6 rfl) ?_
            refine cx_iald (f := s_5.2 1) hx hb hK hC 8 rfl hw.1 dX1_isWithinReach_61 ?_
            have hw := hw.2
            refine lv_iload hx hb dX1_isWithinReach_62 (lv_at hl 5 rfl) ?_
            refine lv_isub hx hb dX1_isWithinReach_64 ?_
            refine va_mabs hx hb (hml.trans hl.1.symm) hown u5 u6 u7 u8 (Nat.le_of_ble_eq_true rfl) (Nat.le_of_ble_eq_true rfl) (Nat.le_refl 0) (Nat.le_refl 0) dX1_isWithinReach_65 ?_
            refine lv_aload_n hx hb dX1_isWithinReach_68 rfl (lv_at hl 1 rfl) ?_
            refine cx_get (v := .ref (q 11)) hx hb hts iX1 hown hK hC 2 rfl rfl 0 (by decide) u9 rfl rfl dX1_isWithinReach_69 ?_
            refine lv_iload hx hb dX1_isWithinReach_72 (lv_at hl 0 rfl) ?_
            refine lv_bipush (v := 10) hx hb dX1_isWithinReach_74 (by decide) ?_
            refine lv_imul hx hb dX1_isWithinReach_76 ?_
            refine lv_iload_n hx hb dX1_isWithinReach_77 rfl (lv_at hl 3 rfl) ?_
            refine lv_iadd hx hb dX1_isWithinReach_78 ?_
            refine cx_iald (f := s_5.2 4) hx hb hK hC 11 rfl hw.1 dX1_isWithinReach_79 ?_
            have hw := hw.2
            refine lv_icmp_ge (tgt := 85) hx hb dX1_isWithinReach_80 (by decide) (fun c_9 => ?_) (fun c_9 => ?_)
            · have hw := hw.1 c_9
              refine lv_iinc (v := (x6_4 + 1)) (lv' := [(6, .int (x6_4 + 1)), (7, .int (s_5.2 3 (Int32.toNatClampNeg x6_4))), (0, .ref (q 2)), (1, .ref (q 1)), (3, .int x3_1), (4, .int x4_2), (5, .int x5_3)]) hx hb dX1_isWithinReach_85 hl (k := 6) rfl rfl (by decide) rfl (fun ls hl => ?_)
              refine lv_goto (tgt := 19) hx hb dX1_isWithinReach_88 (by decide) ?_
              exact ih (x6_4 + 1) s_5 _ _ _ hw hC (lv_sub hl [2, 3, 4, 5, 6, 0] rfl)
            · have hw := hw.2 c_9
              refine lv_iconst (v := 0) hx hb dX1_isWithinReach_83 (by decide) ?_
              exact cx_ret_z (u := s_5) hx hb hr hlocks hK hC rfl hw dX1_isWithinReach_84
  refine lv_aload_n hx hb dX1_isWithinReach_0 rfl (lv_at hl 1 rfl) ?_
  refine cx_get (v := .ref (q 7)) hx hb hts iX0 hown hK hC 1 rfl rfl 0 (by decide) u1 rfl rfl dX1_isWithinReach_1 ?_
  refine lv_iload_n hx hb dX1_isWithinReach_4 rfl (lv_at hl 2 rfl) ?_
  refine cx_iald (f := σ.2 0) hx hb hK hC 7 rfl hw.1 dX1_isWithinReach_5 ?_
  have hw := hw.2
  refine lv_istore (lv' := [(4, .int (σ.2 0 (Int32.toNatClampNeg x2))), (0, .ref (q 2)), (1, .ref (q 1)), (2, .int x2), (3, .int x3)]) hx hb dX1_isWithinReach_6 hl (by decide) rfl (fun ls hl => ?_)
  refine lv_aload_n hx hb dX1_isWithinReach_8 rfl (lv_at hl 2 rfl) ?_
  refine cx_get (v := .ref (q 8)) hx hb hts iX0 hown hK hC 1 rfl rfl 1 (by decide) u2 rfl rfl dX1_isWithinReach_9 ?_
  refine lv_iload_n hx hb dX1_isWithinReach_12 rfl (lv_at hl 3 rfl) ?_
  refine cx_iald (f := σ.2 1) hx hb hK hC 8 rfl hw.1 dX1_isWithinReach_13 ?_
  have hw := hw.2
  refine lv_istore (lv' := [(5, .int (σ.2 1 (Int32.toNatClampNeg x2))), (4, .int (σ.2 0 (Int32.toNatClampNeg x2))), (0, .ref (q 2)), (1, .ref (q 1)), (2, .int x2), (3, .int x3)]) hx hb dX1_isWithinReach_14 hl (by decide) rfl (fun ls hl => ?_)
  refine lv_iconst (v := 0) hx hb dX1_isWithinReach_16 (by decide) ?_
  refine lv_istore (lv' := [(6, .int 0), (5, .int (σ.2 1 (Int32.toNatClampNeg x2))), (4, .int (σ.2 0 (Int32.toNatClampNeg x2))), (0, .ref (q 2)), (1, .ref (q 1)), (2, .int x2), (3, .int x3)]) hx hb dX1_isWithinReach_17 hl (by decide) rfl (fun ls hl => ?_)
  obtain ⟨n, hw⟩ := hw
  refine L19 x3 (σ.2 0 (Int32.toNatClampNeg x2)) (σ.2 1 (Int32.toNatClampNeg x2)) _ (fun x6_10 s_11 H locs ls hw hC hl => ?_) n 0 σ _ _ _ hw hC (lv_sub hl [3, 4, 6, 2, 1, 0] rfl)
  refine lv_iconst (v := 1) hx hb dX1_isWithinReach_91 (by decide) ?_
  exact cx_ret_z (u := s_11) hx hb hr hlocks hK hC rfl hw dX1_isWithinReach_92

/-! PictureHeap$Atlas.possiblePlaces(LPictureHeap$Album;I)I (X1_possiblePlaces) -/
set_option maxHeartbeats 1000000 in
set_option maxRecDepth 100000 in
theorem c_X1_possiblePlaces (l : Launch) (D : va_G) (cI : ClassId) (q : Nat → Nat) (sz : Nat) (σ : St) (x2 : Int32) (post : Int32 → St → Prop) (hw : w_X1_possiblePlaces σ x2 post) : Ci l yX1_possiblePlaces wsX1_possiblePlaces 2 48 D cI (wX cI q σ) sz [.ref (q 2), .ref (q 1), .int x2] (wX cI q) post := by
  refine mo_i (cc := cX1_possiblePlaces) (maxL := 6) (ret := (some .int)) (by decide) rfl (Nat.le_of_ble_eq_true rfl) ?_
  intro p e s m below meth c hx hb hr hml hts hown hlocks hK A hA hC ls hl
  have hown : s.vm.findClass RX1 = some m.cls := hown
  have hl : lv_has ls 6 [(0, .ref (q 2)), (1, .ref (q 1)), (2, .int x2)] := hl
  have u1 : (Cond.fieldLink RX1 19 "PictureHeap$Album" "placeOf" "[I").before [.ref (q 2), .ref (q 1), .int x2].toArray s = true := hts _ (List.mem_of_getElem? (i := 1) rfl)
  have u2 : (Cond.fieldLink RX1 15 "PictureHeap$Atlas" "size" "I").before [.ref (q 2), .ref (q 1), .int x2].toArray s = true := hts _ (List.mem_of_getElem? (i := 2) rfl)
  have iX0 : ∀ w ∈ wsX00, w ∈ wsX1_possiblePlaces := fun _ h => List.mem_cons_of_mem _ (List.mem_append_left _ (List.mem_append_right _ h))
  have iX1 : ∀ w ∈ wsX10, w ∈ wsX1_possiblePlaces := fun _ h => List.mem_cons_of_mem _ (List.mem_append_right _ h)
  have L22 : ∀ (x2_2 : Int32) (K : Int32 → Int32 → St → Prop) (hKK : ∀ (x4_3 : Int32) (x5_4 : Int32) (s_5 : St) (H : Heap) (locs : List Loc) (ls : Array Slot), K x4_3 x5_4 s_5 → Cx D A s.heap (wX cI q s_5) H locs → lv_has ls 6 [(0, .ref (q 2)), (1, .ref (q 1)), (2, .int x2_2), (4, .int x4_3), (5, .int x5_4)] → W p l e (Rm 2 48) s m [.ref (q 2), .ref (q 1), .int x2].toArray below meth c H locs 0 0 (QI below D cI A (wX cI q) post [.ref (q 2), .ref (q 1), .int x2].toArray s) (F0 m 57 ls [])) (n : Nat), ∀ (x4_3 : Int32) (x5_4 : Int32) (s_5 : St) (H : Heap) (locs : List Loc) (ls : Array Slot), w_X1_possiblePlaces_L22 x2_2 post K n x4_3 x5_4 s_5 → Cx D A s.heap (wX cI q s_5) H locs → lv_has ls 6 [(0, .ref (q 2)), (1, .ref (q 1)), (2, .int x2_2), (4, .int x4_3), (5, .int x5_4)] → W p l e (Rm 2 48) s m [.ref (q 2), .ref (q 1), .int x2].toArray below meth c H locs 0 0 (QI below D cI A (wX cI q) post [.ref (q 2), .ref (q 1), .int x2].toArray s) (F0 m 22 ls []) := by
    intro x2_2 K hKK n
    induction n with
    | zero => intro x4_3 x5_4 s_5 H locs ls hw; exact hw.elim
    | succ n ih =>
      intro x4_3 x5_4 s_5 H locs ls hw hC hl
      refine lv_iload hx hb dX1_possiblePlaces_22 (lv_at hl 4 rfl) ?_
      refine lv_aload_n hx hb dX1_possiblePlaces_24 rfl (lv_at hl 0 rfl) ?_
      refine cx_get (v := .int (s_5.1 5)) hx hb hts iX1 hown hK hC 2 rfl rfl 1 (by decide) u2 rfl rfl dX1_possiblePlaces_25 ?_
      refine lv_icmp_ge (tgt := 57) hx hb dX1_possiblePlaces_28 (by decide) (fun c_6 => ?_) (fun c_6 => ?_)
      · have hw := hw.1 c_6
        exact hKK x4_3 x5_4 s_5 _ _ _ hw hC (lv_sub hl [0, 1, 2, 3, 4] rfl)
      · have hw := hw.2 c_6
        refine lv_aload_n hx hb dX1_possiblePlaces_31 rfl (lv_at hl 0 rfl) ?_
        refine lv_aload_n hx hb dX1_possiblePlaces_32 rfl (lv_at hl 1 rfl) ?_
        refine lv_iload_n hx hb dX1_possiblePlaces_33 rfl (lv_at hl 2 rfl) ?_
        refine lv_iload hx hb dX1_possiblePlaces_34 (lv_at hl 4 rfl) ?_
        refine cx_callVi0 (As := [.ref (q 1), .int x2_2, .int x5_4]) (rest := []) ⟨hx, hb, hml, hown, hts⟩ (c_X1_isWithinReach l D cI q _ s_5 x2_2 x5_4 _ hw) (cwV 3 hts gX1_possiblePlaces_X1_isWithinReach rfl rfl rfl (by decide +kernel) ⟨Nat.le_of_ble_eq_true rfl, Nat.le_of_ble_eq_true rfl⟩) hK hC hA 2 rfl rfl rfl rfl hl.1 rfl (Nat.le_of_ble_eq_true rfl) dX1_possiblePlaces_36 ⟨Nat.zero_le _, Nat.zero_le _⟩ (fun r_7 u_8 H locs hw hC => ?_)
        refine lv_if_eq (tgt := 51) hx hb dX1_possiblePlaces_39 (by decide) (fun c_9 => ?_) (fun c_9 => ?_)
        · have hw := hw.1 c_9
          refine lv_iinc (v := (x5_4 + 1)) (lv' := [(5, .int (x5_4 + 1)), (0, .ref (q 2)), (1, .ref (q 1)), (2, .int x2_2), (4, .int x4_3)]) hx hb dX1_possiblePlaces_51 hl (k := 4) rfl rfl (by decide) rfl (fun ls hl => ?_)
          refine lv_goto (tgt := 22) hx hb dX1_possiblePlaces_54 (by decide) ?_
          exact ih x4_3 (x5_4 + 1) u_8 _ _ _ hw hC (lv_sub hl [1, 2, 3, 4, 0] rfl)
        · have hw := hw.2 c_9
          refine lv_iload hx hb dX1_possiblePlaces_42 (lv_at hl 3 rfl) ?_
          refine lv_iconst (v := 1) hx hb dX1_possiblePlaces_44 (by decide) ?_
          refine lv_iload hx hb dX1_possiblePlaces_45 (lv_at hl 4 rfl) ?_
          refine lv_ishl hx hb dX1_possiblePlaces_47 ?_
          refine lv_ior hx hb dX1_possiblePlaces_48 ?_
          refine lv_istore (lv' := [(4, .int (x4_3 ||| (1 <<< (x5_4 &&& 31)))), (0, .ref (q 2)), (1, .ref (q 1)), (2, .int x2_2), (5, .int x5_4)]) hx hb dX1_possiblePlaces_49 hl (by decide) rfl (fun ls hl => ?_)
          refine lv_iinc (v := (x5_4 + 1)) (lv' := [(5, .int (x5_4 + 1)), (4, .int (x4_3 ||| (1 <<< (x5_4 &&& 31)))), (0, .ref (q 2)), (1, .ref (q 1)), (2, .int x2_2)]) hx hb dX1_possiblePlaces_51 hl (k := 4) rfl rfl (by decide) rfl (fun ls hl => ?_)
          refine lv_goto (tgt := 22) hx hb dX1_possiblePlaces_54 (by decide) ?_
          exact ih (x4_3 ||| (1 <<< (x5_4 &&& 31))) (x5_4 + 1) u_8 _ _ _ hw hC (lv_sub hl [2, 3, 4, 1, 0] rfl)
  refine lv_aload_n hx hb dX1_possiblePlaces_0 rfl (lv_at hl 1 rfl) ?_
  refine cx_get (v := .ref (q 10)) hx hb hts iX0 hown hK hC 1 rfl rfl 3 (by decide) u1 rfl rfl dX1_possiblePlaces_1 ?_
  refine lv_iload_n hx hb dX1_possiblePlaces_4 rfl (lv_at hl 2 rfl) ?_
  refine cx_iald (f := σ.2 3) hx hb hK hC 10 rfl hw.1 dX1_possiblePlaces_5 ?_
  have hw := hw.2
  refine lv_istore_n (lv' := [(3, .int (σ.2 3 (Int32.toNatClampNeg x2))), (0, .ref (q 2)), (1, .ref (q 1)), (2, .int x2)]) hx hb dX1_possiblePlaces_6 rfl hl (by decide) rfl (fun ls hl => ?_)
  refine lv_iload_n hx hb dX1_possiblePlaces_7 rfl (lv_at hl 0 rfl) ?_
  refine lv_iconst (v := (-1)) hx hb dX1_possiblePlaces_8 (by decide) ?_
  refine lv_icmp_eq (tgt := 16) hx hb dX1_possiblePlaces_9 (by decide) (fun c_1 => ?_) (fun c_1 => ?_)
  · have hw := hw.1 c_1
    refine lv_iconst (v := 0) hx hb dX1_possiblePlaces_16 (by decide) ?_
    refine lv_istore (lv' := [(4, .int 0), (3, .int (σ.2 3 (Int32.toNatClampNeg x2))), (0, .ref (q 2)), (1, .ref (q 1)), (2, .int x2)]) hx hb dX1_possiblePlaces_17 hl (by decide) rfl (fun ls hl => ?_)
    refine lv_iconst (v := 0) hx hb dX1_possiblePlaces_19 (by decide) ?_
    refine lv_istore (lv' := [(5, .int 0), (4, .int 0), (3, .int (σ.2 3 (Int32.toNatClampNeg x2))), (0, .ref (q 2)), (1, .ref (q 1)), (2, .int x2)]) hx hb dX1_possiblePlaces_20 hl (by decide) rfl (fun ls hl => ?_)
    obtain ⟨n, hw⟩ := hw
    refine L22 x2 _ (fun x4_10 x5_11 s_12 H locs ls hw hC hl => ?_) n 0 0 σ _ _ _ hw hC (lv_sub hl [3, 4, 5, 1, 0] rfl)
    refine lv_iload hx hb dX1_possiblePlaces_57 (lv_at hl 3 rfl) ?_
    exact cx_ret_i (u := s_12) hx hb hr hlocks hK hC hw dX1_possiblePlaces_59
  · have hw := hw.2 c_1
    refine lv_iconst (v := 1) hx hb dX1_possiblePlaces_12 (by decide) ?_
    refine lv_iload_n hx hb dX1_possiblePlaces_13 rfl (lv_at hl 0 rfl) ?_
    refine lv_ishl hx hb dX1_possiblePlaces_14 ?_
    exact cx_ret_i (u := σ) hx hb hr hlocks hK hC hw dX1_possiblePlaces_15
