/-! PictureHeap.refuse(I)I (X5_refuse) -/
set_option maxHeartbeats 1000000 in
set_option maxRecDepth 100000 in
theorem c_X5_refuse (l : Launch) (D : va_G) (cI : ClassId) (q : Nat → Nat) (sz : Nat) (σ : St) (x1 : Int32) (post : Int32 → St → Prop) (hw : w_X5_refuse σ x1 post) : Ci l yX5_refuse wsX5_refuse 0 0 D cI (wX cI q σ) sz [.ref (q 0), .int x1] (wX cI q) post := by
  refine mo_i (cc := cX5_refuse) (maxL := 2) (ret := (some .int)) (by decide) rfl (Nat.le_of_ble_eq_true rfl) ?_
  intro p e s m below meth c hx hb hr hml hts hown hlocks hK A hA hC ls hl
  have hown : s.vm.findClass RX5 = some m.cls := hown
  have hl : lv_has ls 2 [(0, .ref (q 0)), (1, .int x1)] := hl
  have u1 : (Cond.fieldLink RX5 44 "PictureHeap" "latestTrouble" "I").before [.ref (q 0), .int x1].toArray s = true := hts _ (List.mem_of_getElem? (i := 1) rfl)
  have iX5 : ∀ w ∈ wsX50, w ∈ wsX5_refuse := fun _ h => List.mem_cons_of_mem _ (List.mem_append_right _ h)
  refine lv_aload_n hx hb dX5_refuse_0 rfl (lv_at hl 0 rfl) ?_
  refine lv_iload_n hx hb dX5_refuse_1 rfl (lv_at hl 1 rfl) ?_
  refine cx_put (v := .int x1) hx hb hts iX5 tyX5 tyX5_ok nmX5 hown hK hC 0 rfl rfl 6 (by decide) u1 rfl rfl (tyX5_ok 6 (by decide)) rfl rfl (Nat.le_of_ble_eq_true rfl) dX5_refuse_2 (ws' := (wX cI q ((va_up σ.1 2 x1), σ.2))) (wX_i2 cI q _ _) (fun H locs hC => ?_)
  refine lv_iconst (v := (-1)) hx hb dX5_refuse_5 (by decide) ?_
  exact cx_ret_i (u := ((va_up σ.1 2 x1), σ.2)) hx hb hr hlocks hK hC hw dX5_refuse_6

/-! PictureHeap.camera()I (X5_camera) -/
set_option maxHeartbeats 1000000 in
set_option maxRecDepth 100000 in
theorem c_X5_camera (l : Launch) (D : va_G) (cI : ClassId) (q : Nat → Nat) (sz : Nat) (σ : St) (post : Int32 → St → Prop) (hw : w_X5_camera σ post) : Ci l yX5_camera wsX5_camera 1 21 D cI (wX cI q σ) sz [.ref (q 0)] (wX cI q) post := by
  refine mo_i (cc := cX5_camera) (maxL := 1) (ret := (some .int)) (by decide) rfl (Nat.le_of_ble_eq_true rfl) ?_
  intro p e s m below meth c hx hb hr hml hts hown hlocks hK A hA hC ls hl
  have hown : s.vm.findClass RX5 = some m.cls := hown
  have hl : lv_has ls 1 [(0, .ref (q 0))] := hl
  have u1 : (Cond.fieldLink RX5 37 "PictureHeap" "cameras" "I").before [.ref (q 0)].toArray s = true := hts _ (List.mem_of_getElem? (i := 1) rfl)
  have u2 : (Cond.fieldLink RX5 44 "PictureHeap" "latestTrouble" "I").before [.ref (q 0)].toArray s = true := hts _ (List.mem_of_getElem? (i := 2) rfl)
  have iX5 : ∀ w ∈ wsX50, w ∈ wsX5_camera := fun _ h => List.mem_cons_of_mem _ (List.mem_append_right _ h)
  refine lv_aload_n hx hb dX5_camera_0 rfl (lv_at hl 0 rfl) ?_
  refine cx_get (v := .int (σ.1 0)) hx hb hts iX5 hown hK hC 0 rfl rfl 4 (by decide) u1 rfl rfl dX5_camera_1 ?_
  refine lv_bipush (v := 8) hx hb dX5_camera_4 (by decide) ?_
  refine lv_icmp_lt (tgt := 15) hx hb dX5_camera_6 (by decide) (fun c_1 => ?_) (fun c_1 => ?_)
  · have hw := hw.1 c_1
    refine lv_aload_n hx hb dX5_camera_15 rfl (lv_at hl 0 rfl) ?_
    refine lv_iconst (v := 0) hx hb dX5_camera_16 (by decide) ?_
    refine cx_put (v := .int 0) hx hb hts iX5 tyX5 tyX5_ok nmX5 hown hK hC 0 rfl rfl 6 (by decide) u2 rfl rfl (tyX5_ok 6 (by decide)) rfl rfl (Nat.le_of_ble_eq_true rfl) dX5_camera_17 (ws' := (wX cI q ((va_up σ.1 2 0), σ.2))) (wX_i2 cI q _ _) (fun H locs hC => ?_)
    refine lv_aload_n hx hb dX5_camera_20 rfl (lv_at hl 0 rfl) ?_
    refine lv_dup hx hb dX5_camera_21 rfl ?_
    refine cx_get (v := .int (σ.1 0)) hx hb hts iX5 hown hK hC 0 rfl rfl 4 (by decide) u1 rfl rfl dX5_camera_22 ?_
    refine lv_iconst (v := 1) hx hb dX5_camera_25 (by decide) ?_
    refine lv_iadd hx hb dX5_camera_26 ?_
    refine cx_put (v := .int ((σ.1 0) + 1)) hx hb hts iX5 tyX5 tyX5_ok nmX5 hown hK hC 0 rfl rfl 4 (by decide) u1 rfl rfl (tyX5_ok 4 (by decide)) rfl rfl (Nat.le_of_ble_eq_true rfl) dX5_camera_27 (ws' := (wX cI q ((va_up (va_up σ.1 2 0) 0 ((σ.1 0) + 1)), σ.2))) (wX_i0 cI q _ _) (fun H locs hC => ?_)
    refine lv_aload_n hx hb dX5_camera_30 rfl (lv_at hl 0 rfl) ?_
    refine cx_get (v := .int ((σ.1 0) + 1)) hx hb hts iX5 hown hK hC 0 rfl rfl 4 (by decide) u1 rfl rfl dX5_camera_31 ?_
    refine lv_iconst (v := 1) hx hb dX5_camera_34 (by decide) ?_
    refine lv_isub hx hb dX5_camera_35 ?_
    exact cx_ret_i (u := ((va_up (va_up σ.1 2 0) 0 ((σ.1 0) + 1)), σ.2)) hx hb hr hlocks hK hC hw dX5_camera_36
  · have hw := hw.2 c_1
    refine lv_aload_n hx hb dX5_camera_9 rfl (lv_at hl 0 rfl) ?_
    refine lv_iconst (v := 3) hx hb dX5_camera_10 (by decide) ?_
    refine cx_callVi0 (As := [.int 3]) (rest := []) ⟨hx, hb, hml, hown, hts⟩ (c_X5_refuse l D cI q _ σ 3 _ hw) (cwV 1 hts gX5_camera_X5_refuse rfl rfl rfl (by decide +kernel) ⟨Nat.le_of_ble_eq_true rfl, Nat.le_of_ble_eq_true rfl⟩) hK hC hA 0 rfl rfl rfl rfl hl.1 rfl (Nat.le_of_ble_eq_true rfl) dX5_camera_11 ⟨Nat.zero_le _, Nat.zero_le _⟩ (fun r_2 u_3 H locs hw hC => ?_)
    exact cx_ret_i (u := u_3) hx hb hr hlocks hK hC hw dX5_camera_14

/-! PictureHeap.place()I (X5_place) -/
set_option maxHeartbeats 1000000 in
set_option maxRecDepth 100000 in
theorem c_X5_place (l : Launch) (D : va_G) (cI : ClassId) (q : Nat → Nat) (sz : Nat) (σ : St) (post : Int32 → St → Prop) (hw : w_X5_place σ post) : Ci l yX5_place wsX5_place 1 21 D cI (wX cI q σ) sz [.ref (q 0)] (wX cI q) post := by
  refine mo_i (cc := cX5_place) (maxL := 1) (ret := (some .int)) (by decide) rfl (Nat.le_of_ble_eq_true rfl) ?_
  intro p e s m below meth c hx hb hr hml hts hown hlocks hK A hA hC ls hl
  have hown : s.vm.findClass RX5 = some m.cls := hown
  have hl : lv_has ls 1 [(0, .ref (q 0))] := hl
  have u1 : (Cond.fieldLink RX5 19 "PictureHeap" "atlas" "LPictureHeap$Atlas;").before [.ref (q 0)].toArray s = true := hts _ (List.mem_of_getElem? (i := 1) rfl)
  have u2 : (Cond.fieldLink RX5 54 "PictureHeap$Atlas" "size" "I").before [.ref (q 0)].toArray s = true := hts _ (List.mem_of_getElem? (i := 2) rfl)
  have u3 : (Cond.fieldLink RX5 44 "PictureHeap" "latestTrouble" "I").before [.ref (q 0)].toArray s = true := hts _ (List.mem_of_getElem? (i := 3) rfl)
  have iX1 : ∀ w ∈ wsX10, w ∈ wsX5_place := fun _ h => List.mem_cons_of_mem _ (List.mem_append_right _ h)
  have iX5 : ∀ w ∈ wsX50, w ∈ wsX5_place := fun _ h => List.mem_cons_of_mem _ (List.mem_append_left _ (List.mem_append_right _ h))
  refine lv_aload_n hx hb dX5_place_0 rfl (lv_at hl 0 rfl) ?_
  refine cx_get (v := .ref (q 2)) hx hb hts iX5 hown hK hC 0 rfl rfl 1 (by decide) u1 rfl rfl dX5_place_1 ?_
  refine cx_get (v := .int (σ.1 5)) hx hb hts iX1 hown hK hC 2 rfl rfl 1 (by decide) u2 rfl rfl dX5_place_4 ?_
  refine lv_bipush (v := 10) hx hb dX5_place_7 (by decide) ?_
  refine lv_icmp_lt (tgt := 18) hx hb dX5_place_9 (by decide) (fun c_1 => ?_) (fun c_1 => ?_)
  · have hw := hw.1 c_1
    refine lv_aload_n hx hb dX5_place_18 rfl (lv_at hl 0 rfl) ?_
    refine lv_iconst (v := 0) hx hb dX5_place_19 (by decide) ?_
    refine cx_put (v := .int 0) hx hb hts iX5 tyX5 tyX5_ok nmX5 hown hK hC 0 rfl rfl 6 (by decide) u3 rfl rfl (tyX5_ok 6 (by decide)) rfl rfl (Nat.le_of_ble_eq_true rfl) dX5_place_20 (ws' := (wX cI q ((va_up σ.1 2 0), σ.2))) (wX_i2 cI q _ _) (fun H locs hC => ?_)
    refine lv_aload_n hx hb dX5_place_23 rfl (lv_at hl 0 rfl) ?_
    refine cx_get (v := .ref (q 2)) hx hb hts iX5 hown hK hC 0 rfl rfl 1 (by decide) u1 rfl rfl dX5_place_24 ?_
    refine lv_dup hx hb dX5_place_27 rfl ?_
    refine cx_get (v := .int (σ.1 5)) hx hb hts iX1 hown hK hC 2 rfl rfl 1 (by decide) u2 rfl rfl dX5_place_28 ?_
    refine lv_iconst (v := 1) hx hb dX5_place_31 (by decide) ?_
    refine lv_iadd hx hb dX5_place_32 ?_
    refine cx_put (v := .int ((σ.1 5) + 1)) hx hb hts iX1 tyX1 tyX1_ok nmX1 hown hK hC 2 rfl rfl 1 (by decide) u2 rfl rfl (tyX1_ok 1 (by decide)) rfl rfl (Nat.le_of_ble_eq_true rfl) dX5_place_33 (ws' := (wX cI q ((va_up (va_up σ.1 2 0) 5 ((σ.1 5) + 1)), σ.2))) (wX_i5 cI q _ _) (fun H locs hC => ?_)
    refine lv_aload_n hx hb dX5_place_36 rfl (lv_at hl 0 rfl) ?_
    refine cx_get (v := .ref (q 2)) hx hb hts iX5 hown hK hC 0 rfl rfl 1 (by decide) u1 rfl rfl dX5_place_37 ?_
    refine cx_get (v := .int ((σ.1 5) + 1)) hx hb hts iX1 hown hK hC 2 rfl rfl 1 (by decide) u2 rfl rfl dX5_place_40 ?_
    refine lv_iconst (v := 1) hx hb dX5_place_43 (by decide) ?_
    refine lv_isub hx hb dX5_place_44 ?_
    exact cx_ret_i (u := ((va_up (va_up σ.1 2 0) 5 ((σ.1 5) + 1)), σ.2)) hx hb hr hlocks hK hC hw dX5_place_45
  · have hw := hw.2 c_1
    refine lv_aload_n hx hb dX5_place_12 rfl (lv_at hl 0 rfl) ?_
    refine lv_iconst (v := 3) hx hb dX5_place_13 (by decide) ?_
    refine cx_callVi0 (As := [.int 3]) (rest := []) ⟨hx, hb, hml, hown, hts⟩ (c_X5_refuse l D cI q _ σ 3 _ hw) (cwV 1 hts gX5_place_X5_refuse rfl rfl rfl (by decide +kernel) ⟨Nat.le_of_ble_eq_true rfl, Nat.le_of_ble_eq_true rfl⟩) hK hC hA 0 rfl rfl rfl rfl hl.1 rfl (Nat.le_of_ble_eq_true rfl) dX5_place_14 ⟨Nat.zero_le _, Nat.zero_le _⟩ (fun r_2 u_3 H locs hw hC => ?_)
    exact cx_ret_i (u := u_3) hx hb hr hlocks hK hC hw dX5_place_17

/-! PictureHeap.way(III)Z (X5_way) -/
set_option maxHeartbeats 1000000 in
set_option maxRecDepth 100000 in
theorem c_X5_way (l : Launch) (D : va_G) (cI : ClassId) (q : Nat → Nat) (sz : Nat) (σ : St) (x1 : Int32) (x2 : Int32) (x3 : Int32) (post : Int32 → St → Prop) (hw : w_X5_way σ x1 x2 x3 post) : Ci l yX5_way wsX5_way 1 23 D cI (wX cI q σ) sz [.ref (q 0), .int x1, .int x2, .int x3] (wX cI q) post := by
  refine mo_i (cc := cX5_way) (maxL := 4) (ret := (some .boolean)) (by decide) rfl (Nat.le_of_ble_eq_true rfl) ?_
  intro p e s m below meth c hx hb hr hml hts hown hlocks hK A hA hC ls hl
  have hown : s.vm.findClass RX5 = some m.cls := hown
  have hl : lv_has ls 4 [(0, .ref (q 0)), (1, .int x1), (2, .int x2), (3, .int x3)] := hl
  have u1 : (Cond.fieldLink RX5 19 "PictureHeap" "atlas" "LPictureHeap$Atlas;").before [.ref (q 0), .int x1, .int x2, .int x3].toArray s = true := hts _ (List.mem_of_getElem? (i := 1) rfl)
  have u2 : (Cond.fieldLink RX5 44 "PictureHeap" "latestTrouble" "I").before [.ref (q 0), .int x1, .int x2, .int x3].toArray s = true := hts _ (List.mem_of_getElem? (i := 2) rfl)
  have iX5 : ∀ w ∈ wsX50, w ∈ wsX5_way := fun _ h => List.mem_cons_of_mem _ (List.mem_append_left _ (List.mem_append_right _ h))
  have J69 : ∀ (s_5 : St) (H : Heap) (locs : List Loc) (ls : Array Slot), w_X5_way_J69 post s_5 → Cx D A s.heap (wX cI q s_5) H locs → lv_has ls 4 [(0, .ref (q 0))] → W p l e (Rm 1 23) s m [.ref (q 0), .int x1, .int x2, .int x3].toArray below meth c H locs 0 0 (QI below D cI A (wX cI q) post [.ref (q 0), .int x1, .int x2, .int x3].toArray s) (F0 m 69 ls []) := by
    intro s_5  H locs ls hw hC hl
    refine lv_aload_n hx hb dX5_way_69 rfl (lv_at hl 0 rfl) ?_
    refine cx_get (v := .int (s_5.1 2)) hx hb hts iX5 hown hK hC 0 rfl rfl 6 (by decide) u2 rfl rfl dX5_way_70 ?_
    refine lv_if_ne (tgt := 80) hx hb dX5_way_73 (by decide) (fun c_6 => ?_) (fun c_6 => ?_)
    · have hw := hw.1 c_6
      refine lv_iconst (v := 0) hx hb dX5_way_80 (by decide) ?_
      exact cx_ret_z (u := s_5) hx hb hr hlocks hK hC rfl hw dX5_way_81
    · have hw := hw.2 c_6
      refine lv_iconst (v := 1) hx hb dX5_way_76 (by decide) ?_
      refine lv_goto (tgt := 81) hx hb dX5_way_77 (by decide) ?_
      exact cx_ret_z (u := s_5) hx hb hr hlocks hK hC rfl hw dX5_way_81
  have J27 : ∀ (s_4 : St) (H : Heap) (locs : List Loc) (ls : Array Slot), w_X5_way_J27 post s_4 → Cx D A s.heap (wX cI q s_4) H locs → lv_has ls 4 [(0, .ref (q 0))] → W p l e (Rm 1 23) s m [.ref (q 0), .int x1, .int x2, .int x3].toArray below meth c H locs 0 0 (QI below D cI A (wX cI q) post [.ref (q 0), .int x1, .int x2, .int x3].toArray s) (F0 m 27 ls []) := by
    intro s_4  H locs ls hw hC hl
    refine lv_aload_n hx hb dX5_way_27 rfl (lv_at hl 0 rfl) ?_
    refine lv_iconst (v := 1) hx hb dX5_way_28 (by decide) ?_
    refine cx_put (v := .int 1) hx hb hts iX5 tyX5 tyX5_ok nmX5 hown hK hC 0 rfl rfl 6 (by decide) u2 rfl rfl (tyX5_ok 6 (by decide)) rfl rfl (Nat.le_of_ble_eq_true rfl) dX5_way_29 (ws' := (wX cI q ((va_up s_4.1 2 1), s_4.2))) (wX_i2 cI q _ _) (fun H locs hC => ?_)
    refine lv_goto (tgt := 69) hx hb dX5_way_32 (by decide) ?_
    exact J69 ((va_up s_4.1 2 1), s_4.2)   _ _ _ hw hC (lv_sub hl [0] rfl)
  refine lv_aload_n hx hb dX5_way_0 rfl (lv_at hl 0 rfl) ?_
  refine cx_get (v := .ref (q 2)) hx hb hts iX5 hown hK hC 0 rfl rfl 1 (by decide) u1 rfl rfl dX5_way_1 ?_
  refine lv_iload_n hx hb dX5_way_4 rfl (lv_at hl 1 rfl) ?_
  refine cx_callVi0 (As := [.int x1]) (rest := []) ⟨hx, hb, hml, hown, hts⟩ (c_X1_has l D cI q _ σ x1 _ hw) (cwV 1 hts gX5_way_X1_has rfl rfl rfl (by decide +kernel) ⟨Nat.le_of_ble_eq_true rfl, Nat.le_of_ble_eq_true rfl⟩) hK hC hA 2 rfl rfl rfl rfl hl.1 rfl (Nat.le_of_ble_eq_true rfl) dX5_way_5 ⟨Nat.zero_le _, Nat.zero_le _⟩ (fun r_1 u_2 H locs hw hC => ?_)
  refine lv_if_eq (tgt := 27) hx hb dX5_way_8 (by decide) (fun c_3 => ?_) (fun c_3 => ?_)
  · have hw := hw.1 c_3
    exact J27 u_2   _ _ _ hw hC (lv_sub hl [0] rfl)
  · have hw := hw.2 c_3
    refine lv_aload_n hx hb dX5_way_11 rfl (lv_at hl 0 rfl) ?_
    refine cx_get (v := .ref (q 2)) hx hb hts iX5 hown hK hC 0 rfl rfl 1 (by decide) u1 rfl rfl dX5_way_12 ?_
    refine lv_iload_n hx hb dX5_way_15 rfl (lv_at hl 2 rfl) ?_
    refine cx_callVi0 (As := [.int x2]) (rest := []) ⟨hx, hb, hml, hown, hts⟩ (c_X1_has l D cI q _ u_2 x2 _ hw) (cwV 1 hts gX5_way_X1_has rfl rfl rfl (by decide +kernel) ⟨Nat.le_of_ble_eq_true rfl, Nat.le_of_ble_eq_true rfl⟩) hK hC hA 2 rfl rfl rfl rfl hl.1 rfl (Nat.le_of_ble_eq_true rfl) dX5_way_16 ⟨Nat.zero_le _, Nat.zero_le _⟩ (fun r_7 u_8 H locs hw hC => ?_)
    refine lv_if_eq (tgt := 27) hx hb dX5_way_19 (by decide) (fun c_9 => ?_) (fun c_9 => ?_)
    · have hw := hw.1 c_9
      exact J27 u_8   _ _ _ hw hC (lv_sub hl [0] rfl)
    · have hw := hw.2 c_9
      refine lv_iload_n hx hb dX5_way_22 rfl (lv_at hl 1 rfl) ?_
      refine lv_iload_n hx hb dX5_way_23 rfl (lv_at hl 2 rfl) ?_
      refine lv_icmp_ne (tgt := 35) hx hb dX5_way_24 (by decide) (fun c_10 => ?_) (fun c_10 => ?_)
      · have hw := hw.1 c_10
        refine lv_iload_n hx hb dX5_way_35 rfl (lv_at hl 3 rfl) ?_
        refine lv_iconst (v := 0) hx hb dX5_way_36 (by decide) ?_
        refine lv_sipush (v := 10000) hx hb dX5_way_37 (by decide) ?_
        refine cx_callSiE (As := [.int x3, .int 0, .int 10000]) (rest := []) ⟨hx, hb, hml, hown, hts⟩ (c_X5_within l D cI _ x3 0 10000 _ hw) (va_cwS 3 hts gX5_way_X5_within rfl rfl rfl (by decide +kernel) ⟨Nat.le_of_ble_eq_true rfl, Nat.le_of_ble_eq_true rfl⟩) hK hC hA rfl hl.1 rfl (Nat.le_of_ble_eq_true rfl) dX5_way_40 ⟨Nat.zero_le _, Nat.zero_le _⟩ (fun r_11 H locs hw hC => ?_)
        refine lv_if_ne (tgt := 54) hx hb dX5_way_43 (by decide) (fun c_13 => ?_) (fun c_13 => ?_)
        · have hw := hw.1 c_13
          refine lv_aload_n hx hb dX5_way_54 rfl (lv_at hl 0 rfl) ?_
          refine lv_iconst (v := 0) hx hb dX5_way_55 (by decide) ?_
          refine cx_put (v := .int 0) hx hb hts iX5 tyX5 tyX5_ok nmX5 hown hK hC 0 rfl rfl 6 (by decide) u2 rfl rfl (tyX5_ok 6 (by decide)) rfl rfl (Nat.le_of_ble_eq_true rfl) dX5_way_56 (ws' := (wX cI q ((va_up u_8.1 2 0), u_8.2))) (wX_i2 cI q _ _) (fun H locs hC => ?_)
          refine lv_aload_n hx hb dX5_way_59 rfl (lv_at hl 0 rfl) ?_
          refine cx_get (v := .ref (q 2)) hx hb hts iX5 hown hK hC 0 rfl rfl 1 (by decide) u1 rfl rfl dX5_way_60 ?_
          refine lv_iload_n hx hb dX5_way_63 rfl (lv_at hl 1 rfl) ?_
          refine lv_iload_n hx hb dX5_way_64 rfl (lv_at hl 2 rfl) ?_
          refine lv_iload_n hx hb dX5_way_65 rfl (lv_at hl 3 rfl) ?_
          refine cx_callVv0 (As := [.int x1, .int x2, .int x3]) (rest := []) ⟨hx, hb, hml, hown, hts⟩ (c_X1_tell l D cI q _ ((va_up u_8.1 2 0), u_8.2) x1 x2 x3 _ hw) (cwV 3 hts gX5_way_X1_tell rfl rfl rfl (by decide +kernel) ⟨Nat.le_of_ble_eq_true rfl, Nat.le_of_ble_eq_true rfl⟩) hK hC hA 2 rfl rfl rfl rfl hl.1 rfl (Nat.le_of_ble_eq_true rfl) dX5_way_66 ⟨Nat.zero_le _, Nat.zero_le _⟩ (fun u_15 H locs hw hC => ?_)
          exact J69 u_15   _ _ _ hw hC (lv_sub hl [0] rfl)
        · have hw := hw.2 c_13
          refine lv_aload_n hx hb dX5_way_46 rfl (lv_at hl 0 rfl) ?_
          refine lv_iconst (v := 2) hx hb dX5_way_47 (by decide) ?_
          refine cx_put (v := .int 2) hx hb hts iX5 tyX5 tyX5_ok nmX5 hown hK hC 0 rfl rfl 6 (by decide) u2 rfl rfl (tyX5_ok 6 (by decide)) rfl rfl (Nat.le_of_ble_eq_true rfl) dX5_way_48 (ws' := (wX cI q ((va_up u_8.1 2 2), u_8.2))) (wX_i2 cI q _ _) (fun H locs hC => ?_)
          refine lv_goto (tgt := 69) hx hb dX5_way_51 (by decide) ?_
          exact J69 ((va_up u_8.1 2 2), u_8.2)   _ _ _ hw hC (lv_sub hl [0] rfl)
      · have hw := hw.2 c_10
        exact J27 u_8   _ _ _ hw hC (lv_sub hl [0] rfl)

/-! PictureHeap.hasCamera(I)Z (X5_hasCamera) -/
set_option maxHeartbeats 1000000 in
set_option maxRecDepth 100000 in
theorem c_X5_hasCamera (l : Launch) (D : va_G) (cI : ClassId) (q : Nat → Nat) (sz : Nat) (σ : St) (x1 : Int32) (post : Int32 → St → Prop) (hw : w_X5_hasCamera σ x1 post) : Ci l yX5_hasCamera wsX5_hasCamera 0 0 D cI (wX cI q σ) sz [.ref (q 0), .int x1] (wX cI q) post := by
  refine mo_i (cc := cX5_hasCamera) (maxL := 2) (ret := (some .boolean)) (by decide) rfl (Nat.le_of_ble_eq_true rfl) ?_
  intro p e s m below meth c hx hb hr hml hts hown hlocks hK A hA hC ls hl
  have hown : s.vm.findClass RX5 = some m.cls := hown
  have hl : lv_has ls 2 [(0, .ref (q 0)), (1, .int x1)] := hl
  have u1 : (Cond.fieldLink RX5 37 "PictureHeap" "cameras" "I").before [.ref (q 0), .int x1].toArray s = true := hts _ (List.mem_of_getElem? (i := 1) rfl)
  have iX5 : ∀ w ∈ wsX50, w ∈ wsX5_hasCamera := fun _ h => List.mem_cons_of_mem _ (List.mem_append_right _ h)
  refine lv_iload_n hx hb dX5_hasCamera_0 rfl (lv_at hl 1 rfl) ?_
  refine lv_if_lt (tgt := 16) hx hb dX5_hasCamera_1 (by decide) (fun c_1 => ?_) (fun c_1 => ?_)
  · have hw := hw.1 c_1
    refine lv_iconst (v := 0) hx hb dX5_hasCamera_16 (by decide) ?_
    exact cx_ret_z (u := σ) hx hb hr hlocks hK hC rfl hw dX5_hasCamera_17
  · have hw := hw.2 c_1
    refine lv_iload_n hx hb dX5_hasCamera_4 rfl (lv_at hl 1 rfl) ?_
    refine lv_aload_n hx hb dX5_hasCamera_5 rfl (lv_at hl 0 rfl) ?_
    refine cx_get (v := .int (σ.1 0)) hx hb hts iX5 hown hK hC 0 rfl rfl 4 (by decide) u1 rfl rfl dX5_hasCamera_6 ?_
    refine lv_icmp_ge (tgt := 16) hx hb dX5_hasCamera_9 (by decide) (fun c_2 => ?_) (fun c_2 => ?_)
    · have hw := hw.1 c_2
      refine lv_iconst (v := 0) hx hb dX5_hasCamera_16 (by decide) ?_
      exact cx_ret_z (u := σ) hx hb hr hlocks hK hC rfl hw dX5_hasCamera_17
    · have hw := hw.2 c_2
      refine lv_iconst (v := 1) hx hb dX5_hasCamera_12 (by decide) ?_
      refine lv_goto (tgt := 17) hx hb dX5_hasCamera_13 (by decide) ?_
      exact cx_ret_z (u := σ) hx hb hr hlocks hK hC rfl hw dX5_hasCamera_17

/-! PictureHeap.picture(IIII)I (X5_picture) -/
set_option maxHeartbeats 1000000 in
set_option maxRecDepth 100000 in
theorem c_X5_picture (l : Launch) (D : va_G) (cI : ClassId) (q : Nat → Nat) (sz : Nat) (σ : St) (x1 : Int32) (x2 : Int32) (x3 : Int32) (x4 : Int32) (post : Int32 → St → Prop) (hw : w_X5_picture σ x1 x2 x3 x4 post) : Ci l yX5_picture wsX5_picture 1 25 D cI (wX cI q σ) sz [.ref (q 0), .int x1, .int x2, .int x3, .int x4] (wX cI q) post := by
  refine mo_i (cc := cX5_picture) (maxL := 5) (ret := (some .int)) (by decide) rfl (Nat.le_of_ble_eq_true rfl) ?_
  intro p e s m below meth c hx hb hr hml hts hown hlocks hK A hA hC ls hl
  have hown : s.vm.findClass RX5 = some m.cls := hown
  have hl : lv_has ls 5 [(0, .ref (q 0)), (1, .int x1), (2, .int x2), (3, .int x3), (4, .int x4)] := hl
  have u2 : (Cond.constant RX5 72 (100000)).before [.ref (q 0), .int x1, .int x2, .int x3, .int x4].toArray s = true := hts _ (List.mem_of_getElem? (i := 2) rfl)
  have u3 : (Cond.constant RX5 73 (65535)).before [.ref (q 0), .int x1, .int x2, .int x3, .int x4].toArray s = true := hts _ (List.mem_of_getElem? (i := 3) rfl)
  have u4 : (Cond.fieldLink RX5 10 "PictureHeap" "album" "LPictureHeap$Album;").before [.ref (q 0), .int x1, .int x2, .int x3, .int x4].toArray s = true := hts _ (List.mem_of_getElem? (i := 4) rfl)
  have u5 : (Cond.fieldLink RX5 74 "PictureHeap$Album" "size" "I").before [.ref (q 0), .int x1, .int x2, .int x3, .int x4].toArray s = true := hts _ (List.mem_of_getElem? (i := 5) rfl)
  have u6 : (Cond.fieldLink RX5 44 "PictureHeap" "latestTrouble" "I").before [.ref (q 0), .int x1, .int x2, .int x3, .int x4].toArray s = true := hts _ (List.mem_of_getElem? (i := 6) rfl)
  have u1 : (Cond.fieldLink RX5 19 "PictureHeap" "atlas" "LPictureHeap$Atlas;").before [.ref (q 0), .int x1, .int x2, .int x3, .int x4].toArray s = true := hts _ (List.mem_of_getElem? (i := 1) rfl)
  have iX0 : ∀ w ∈ wsX00, w ∈ wsX5_picture := fun _ h => List.mem_cons_of_mem _ (List.mem_append_left _ (List.mem_append_right _ h))
  have iX5 : ∀ w ∈ wsX50, w ∈ wsX5_picture := fun _ h => List.mem_cons_of_mem _ (List.mem_append_left _ (List.mem_append_left _ (List.mem_append_right _ h)))
  have J32 : ∀ (x1_7 : Int32) (x2_8 : Int32) (x3_9 : Int32) (x4_10 : Int32) (s_11 : St) (H : Heap) (locs : List Loc) (ls : Array Slot), w_X5_picture_J32 post x1_7 x2_8 x3_9 x4_10 s_11 → Cx D A s.heap (wX cI q s_11) H locs → lv_has ls 5 [(0, .ref (q 0)), (1, .int x1_7), (2, .int x2_8), (3, .int x3_9), (4, .int x4_10)] → W p l e (Rm 1 25) s m [.ref (q 0), .int x1, .int x2, .int x3, .int x4].toArray below meth c H locs 0 0 (QI below D cI A (wX cI q) post [.ref (q 0), .int x1, .int x2, .int x3, .int x4].toArray s) (F0 m 32 ls []) := by
    intro x1_7 x2_8 x3_9 x4_10 s_11  H locs ls hw hC hl
    refine lv_iload_n hx hb dX5_picture_32 rfl (lv_at hl 2 rfl) ?_
    refine lv_iconst (v := 0) hx hb dX5_picture_33 (by decide) ?_
    refine lv_ldc (v := 100000) hx hb hown u2 dX5_picture_34 ?_
    refine cx_callSiE (As := [.int x2_8, .int 0, .int 100000]) (rest := []) ⟨hx, hb, hml, hown, hts⟩ (c_X5_within l D cI _ x2_8 0 100000 _ hw) (va_cwS 3 hts gX5_picture_X5_within rfl rfl rfl (by decide +kernel) ⟨Nat.le_of_ble_eq_true rfl, Nat.le_of_ble_eq_true rfl⟩) hK hC hA rfl hl.1 rfl (Nat.le_of_ble_eq_true rfl) dX5_picture_36 ⟨Nat.zero_le _, Nat.zero_le _⟩ (fun r_12 H locs hw hC => ?_)
    refine lv_if_eq (tgt := 52) hx hb dX5_picture_39 (by decide) (fun c_14 => ?_) (fun c_14 => ?_)
    · have hw := hw.1 c_14
      refine lv_aload_n hx hb dX5_picture_52 rfl (lv_at hl 0 rfl) ?_
      refine lv_iconst (v := 2) hx hb dX5_picture_53 (by decide) ?_
      refine cx_callVi0 (As := [.int 2]) (rest := []) ⟨hx, hb, hml, hown, hts⟩ (c_X5_refuse l D cI q _ s_11 2 _ hw) (cwV 1 hts gX5_picture_X5_refuse rfl rfl rfl (by decide +kernel) ⟨Nat.le_of_ble_eq_true rfl, Nat.le_of_ble_eq_true rfl⟩) hK hC hA 0 rfl rfl rfl rfl hl.1 rfl (Nat.le_of_ble_eq_true rfl) dX5_picture_54 ⟨Nat.zero_le _, Nat.zero_le _⟩ (fun r_15 u_16 H locs hw hC => ?_)
      exact cx_ret_i (u := u_16) hx hb hr hlocks hK hC hw dX5_picture_57
    · have hw := hw.2 c_14
      refine lv_iload_n hx hb dX5_picture_42 rfl (lv_at hl 3 rfl) ?_
      refine lv_iconst (v := 0) hx hb dX5_picture_43 (by decide) ?_
      refine lv_ldc (v := 65535) hx hb hown u3 dX5_picture_44 ?_
      refine cx_callSiE (As := [.int x3_9, .int 0, .int 65535]) (rest := []) ⟨hx, hb, hml, hown, hts⟩ (c_X5_within l D cI _ x3_9 0 65535 _ hw) (va_cwS 3 hts gX5_picture_X5_within rfl rfl rfl (by decide +kernel) ⟨Nat.le_of_ble_eq_true rfl, Nat.le_of_ble_eq_true rfl⟩) hK hC hA rfl hl.1 rfl (Nat.le_of_ble_eq_true rfl) dX5_picture_46 ⟨Nat.zero_le _, Nat.zero_le _⟩ (fun r_17 H locs hw hC => ?_)
      refine lv_if_ne (tgt := 58) hx hb dX5_picture_49 (by decide) (fun c_19 => ?_) (fun c_19 => ?_)
      · have hw := hw.1 c_19
        refine lv_aload_n hx hb dX5_picture_58 rfl (lv_at hl 0 rfl) ?_
        refine cx_get (v := .ref (q 1)) hx hb hts iX5 hown hK hC 0 rfl rfl 0 (by decide) u4 rfl rfl dX5_picture_59 ?_
        refine cx_get (v := .int (s_11.1 4)) hx hb hts iX0 hown hK hC 1 rfl rfl 4 (by decide) u5 rfl rfl dX5_picture_62 ?_
        refine lv_bipush (v := 120) hx hb dX5_picture_65 (by decide) ?_
        refine lv_icmp_lt (tgt := 76) hx hb dX5_picture_67 (by decide) (fun c_20 => ?_) (fun c_20 => ?_)
        · have hw := hw.1 c_20
          refine lv_aload_n hx hb dX5_picture_76 rfl (lv_at hl 0 rfl) ?_
          refine lv_iconst (v := 0) hx hb dX5_picture_77 (by decide) ?_
          refine cx_put (v := .int 0) hx hb hts iX5 tyX5 tyX5_ok nmX5 hown hK hC 0 rfl rfl 6 (by decide) u6 rfl rfl (tyX5_ok 6 (by decide)) rfl rfl (Nat.le_of_ble_eq_true rfl) dX5_picture_78 (ws' := (wX cI q ((va_up s_11.1 2 0), s_11.2))) (wX_i2 cI q _ _) (fun H locs hC => ?_)
          refine lv_aload_n hx hb dX5_picture_81 rfl (lv_at hl 0 rfl) ?_
          refine cx_get (v := .ref (q 1)) hx hb hts iX5 hown hK hC 0 rfl rfl 0 (by decide) u4 rfl rfl dX5_picture_82 ?_
          refine lv_iload_n hx hb dX5_picture_85 rfl (lv_at hl 1 rfl) ?_
          refine lv_iload_n hx hb dX5_picture_86 rfl (lv_at hl 2 rfl) ?_
          refine lv_iload_n hx hb dX5_picture_87 rfl (lv_at hl 3 rfl) ?_
          refine lv_iload hx hb dX5_picture_88 (lv_at hl 4 rfl) ?_
          refine cx_callVi0 (As := [.int x1_7, .int x2_8, .int x3_9, .int x4_10]) (rest := []) ⟨hx, hb, hml, hown, hts⟩ (c_X0_take l D cI q _ ((va_up s_11.1 2 0), s_11.2) x1_7 x2_8 x3_9 x4_10 _ hw) (cwV 4 hts gX5_picture_X0_take rfl rfl rfl (by decide +kernel) ⟨Nat.le_of_ble_eq_true rfl, Nat.le_of_ble_eq_true rfl⟩) hK hC hA 1 rfl rfl rfl rfl hl.1 rfl (Nat.le_of_ble_eq_true rfl) dX5_picture_90 ⟨Nat.zero_le _, Nat.zero_le _⟩ (fun r_21 u_22 H locs hw hC => ?_)
          exact cx_ret_i (u := u_22) hx hb hr hlocks hK hC hw dX5_picture_93
        · have hw := hw.2 c_20
          refine lv_aload_n hx hb dX5_picture_70 rfl (lv_at hl 0 rfl) ?_
          refine lv_iconst (v := 3) hx hb dX5_picture_71 (by decide) ?_
          refine cx_callVi0 (As := [.int 3]) (rest := []) ⟨hx, hb, hml, hown, hts⟩ (c_X5_refuse l D cI q _ s_11 3 _ hw) (cwV 1 hts gX5_picture_X5_refuse rfl rfl rfl (by decide +kernel) ⟨Nat.le_of_ble_eq_true rfl, Nat.le_of_ble_eq_true rfl⟩) hK hC hA 0 rfl rfl rfl rfl hl.1 rfl (Nat.le_of_ble_eq_true rfl) dX5_picture_72 ⟨Nat.zero_le _, Nat.zero_le _⟩ (fun r_23 u_24 H locs hw hC => ?_)
          exact cx_ret_i (u := u_24) hx hb hr hlocks hK hC hw dX5_picture_75
      · have hw := hw.2 c_19
        refine lv_aload_n hx hb dX5_picture_52 rfl (lv_at hl 0 rfl) ?_
        refine lv_iconst (v := 2) hx hb dX5_picture_53 (by decide) ?_
        refine cx_callVi0 (As := [.int 2]) (rest := []) ⟨hx, hb, hml, hown, hts⟩ (c_X5_refuse l D cI q _ s_11 2 _ hw) (cwV 1 hts gX5_picture_X5_refuse rfl rfl rfl (by decide +kernel) ⟨Nat.le_of_ble_eq_true rfl, Nat.le_of_ble_eq_true rfl⟩) hK hC hA 0 rfl rfl rfl rfl hl.1 rfl (Nat.le_of_ble_eq_true rfl) dX5_picture_54 ⟨Nat.zero_le _, Nat.zero_le _⟩ (fun r_25 u_26 H locs hw hC => ?_)
        exact cx_ret_i (u := u_26) hx hb hr hlocks hK hC hw dX5_picture_57
  refine lv_aload_n hx hb dX5_picture_0 rfl (lv_at hl 0 rfl) ?_
  refine lv_iload_n hx hb dX5_picture_1 rfl (lv_at hl 1 rfl) ?_
  refine cx_callVi0 (As := [.int x1]) (rest := []) ⟨hx, hb, hml, hown, hts⟩ (c_X5_hasCamera l D cI q _ σ x1 _ hw) (cwV 1 hts gX5_picture_X5_hasCamera rfl rfl rfl (by decide +kernel) ⟨Nat.le_of_ble_eq_true rfl, Nat.le_of_ble_eq_true rfl⟩) hK hC hA 0 rfl rfl rfl rfl hl.1 rfl (Nat.le_of_ble_eq_true rfl) dX5_picture_2 ⟨Nat.zero_le _, Nat.zero_le _⟩ (fun r_1 u_2 H locs hw hC => ?_)
  refine lv_if_eq (tgt := 26) hx hb dX5_picture_5 (by decide) (fun c_3 => ?_) (fun c_3 => ?_)
  · have hw := hw.1 c_3
    refine lv_aload_n hx hb dX5_picture_26 rfl (lv_at hl 0 rfl) ?_
    refine lv_iconst (v := 1) hx hb dX5_picture_27 (by decide) ?_
    refine cx_callVi0 (As := [.int 1]) (rest := []) ⟨hx, hb, hml, hown, hts⟩ (c_X5_refuse l D cI q _ u_2 1 _ hw) (cwV 1 hts gX5_picture_X5_refuse rfl rfl rfl (by decide +kernel) ⟨Nat.le_of_ble_eq_true rfl, Nat.le_of_ble_eq_true rfl⟩) hK hC hA 0 rfl rfl rfl rfl hl.1 rfl (Nat.le_of_ble_eq_true rfl) dX5_picture_28 ⟨Nat.zero_le _, Nat.zero_le _⟩ (fun r_4 u_5 H locs hw hC => ?_)
    exact cx_ret_i (u := u_5) hx hb hr hlocks hK hC hw dX5_picture_31
  · have hw := hw.2 c_3
    refine lv_iload hx hb dX5_picture_8 (lv_at hl 4 rfl) ?_
    refine lv_iconst (v := (-1)) hx hb dX5_picture_10 (by decide) ?_
    refine lv_icmp_eq (tgt := 32) hx hb dX5_picture_11 (by decide) (fun c_6 => ?_) (fun c_6 => ?_)
    · have hw := hw.1 c_6
      exact J32 x1 x2 x3 x4 u_2   _ _ _ hw hC (lv_sub hl [0, 1, 2, 3, 4] rfl)
    · have hw := hw.2 c_6
      refine lv_aload_n hx hb dX5_picture_14 rfl (lv_at hl 0 rfl) ?_
      refine cx_get (v := .ref (q 2)) hx hb hts iX5 hown hK hC 0 rfl rfl 1 (by decide) u1 rfl rfl dX5_picture_15 ?_
      refine lv_iload hx hb dX5_picture_18 (lv_at hl 4 rfl) ?_
      refine cx_callVi0 (As := [.int x4]) (rest := []) ⟨hx, hb, hml, hown, hts⟩ (c_X1_has l D cI q _ u_2 x4 _ hw) (cwV 1 hts gX5_picture_X1_has rfl rfl rfl (by decide +kernel) ⟨Nat.le_of_ble_eq_true rfl, Nat.le_of_ble_eq_true rfl⟩) hK hC hA 2 rfl rfl rfl rfl hl.1 rfl (Nat.le_of_ble_eq_true rfl) dX5_picture_20 ⟨Nat.zero_le _, Nat.zero_le _⟩ (fun r_27 u_28 H locs hw hC => ?_)
      refine lv_if_ne (tgt := 32) hx hb dX5_picture_23 (by decide) (fun c_29 => ?_) (fun c_29 => ?_)
      · have hw := hw.1 c_29
        exact J32 x1 x2 x3 x4 u_28   _ _ _ hw hC (lv_sub hl [0, 1, 2, 3, 4] rfl)
      · have hw := hw.2 c_29
        refine lv_aload_n hx hb dX5_picture_26 rfl (lv_at hl 0 rfl) ?_
        refine lv_iconst (v := 1) hx hb dX5_picture_27 (by decide) ?_
        refine cx_callVi0 (As := [.int 1]) (rest := []) ⟨hx, hb, hml, hown, hts⟩ (c_X5_refuse l D cI q _ u_28 1 _ hw) (cwV 1 hts gX5_picture_X5_refuse rfl rfl rfl (by decide +kernel) ⟨Nat.le_of_ble_eq_true rfl, Nat.le_of_ble_eq_true rfl⟩) hK hC hA 0 rfl rfl rfl rfl hl.1 rfl (Nat.le_of_ble_eq_true rfl) dX5_picture_28 ⟨Nat.zero_le _, Nat.zero_le _⟩ (fun r_30 u_31 H locs hw hC => ?_)
        exact cx_ret_i (u := u_31) hx hb hr hlocks hK hC hw dX5_picture_31

/-! PictureHeap.gap(I)Z (X5_gap) -/
set_option maxHeartbeats 1000000 in
set_option maxRecDepth 100000 in
theorem c_X5_gap (l : Launch) (D : va_G) (cI : ClassId) (q : Nat → Nat) (sz : Nat) (σ : St) (x1 : Int32) (post : Int32 → St → Prop) (hw : w_X5_gap σ x1 post) : Ci l yX5_gap wsX5_gap 1 22 D cI (wX cI q σ) sz [.ref (q 0), .int x1] (wX cI q) post := by
  refine mo_i (cc := cX5_gap) (maxL := 2) (ret := (some .boolean)) (by decide) rfl (Nat.le_of_ble_eq_true rfl) ?_
  intro p e s m below meth c hx hb hr hml hts hown hlocks hK A hA hC ls hl
  have hown : s.vm.findClass RX5 = some m.cls := hown
  have hl : lv_has ls 2 [(0, .ref (q 0)), (1, .int x1)] := hl
  have u1 : (Cond.fieldLink RX5 44 "PictureHeap" "latestTrouble" "I").before [.ref (q 0), .int x1].toArray s = true := hts _ (List.mem_of_getElem? (i := 1) rfl)
  have u2 : (Cond.fieldLink RX5 41 "PictureHeap" "dayGap" "I").before [.ref (q 0), .int x1].toArray s = true := hts _ (List.mem_of_getElem? (i := 2) rfl)
  have iX5 : ∀ w ∈ wsX50, w ∈ wsX5_gap := fun _ h => List.mem_cons_of_mem _ (List.mem_append_right _ h)
  refine lv_iload_n hx hb dX5_gap_0 rfl (lv_at hl 1 rfl) ?_
  refine lv_iconst (v := 1) hx hb dX5_gap_1 (by decide) ?_
  refine lv_sipush (v := 10000) hx hb dX5_gap_2 (by decide) ?_
  refine cx_callSiE (As := [.int x1, .int 1, .int 10000]) (rest := []) ⟨hx, hb, hml, hown, hts⟩ (c_X5_within l D cI _ x1 1 10000 _ hw) (va_cwS 3 hts gX5_gap_X5_within rfl rfl rfl (by decide +kernel) ⟨Nat.le_of_ble_eq_true rfl, Nat.le_of_ble_eq_true rfl⟩) hK hC hA rfl hl.1 rfl (Nat.le_of_ble_eq_true rfl) dX5_gap_5 ⟨Nat.zero_le _, Nat.zero_le _⟩ (fun r_1 H locs hw hC => ?_)
  refine lv_if_ne (tgt := 18) hx hb dX5_gap_8 (by decide) (fun c_3 => ?_) (fun c_3 => ?_)
  · have hw := hw.1 c_3
    refine lv_aload_n hx hb dX5_gap_18 rfl (lv_at hl 0 rfl) ?_
    refine lv_iconst (v := 0) hx hb dX5_gap_19 (by decide) ?_
    refine cx_put (v := .int 0) hx hb hts iX5 tyX5 tyX5_ok nmX5 hown hK hC 0 rfl rfl 6 (by decide) u1 rfl rfl (tyX5_ok 6 (by decide)) rfl rfl (Nat.le_of_ble_eq_true rfl) dX5_gap_20 (ws' := (wX cI q ((va_up σ.1 2 0), σ.2))) (wX_i2 cI q _ _) (fun H locs hC => ?_)
    refine lv_aload_n hx hb dX5_gap_23 rfl (lv_at hl 0 rfl) ?_
    refine lv_iload_n hx hb dX5_gap_24 rfl (lv_at hl 1 rfl) ?_
    refine cx_put (v := .int x1) hx hb hts iX5 tyX5 tyX5_ok nmX5 hown hK hC 0 rfl rfl 5 (by decide) u2 rfl rfl (tyX5_ok 5 (by decide)) rfl rfl (Nat.le_of_ble_eq_true rfl) dX5_gap_25 (ws' := (wX cI q ((va_up (va_up σ.1 2 0) 1 x1), σ.2))) (wX_i1 cI q _ _) (fun H locs hC => ?_)
    refine lv_iconst (v := 1) hx hb dX5_gap_28 (by decide) ?_
    exact cx_ret_z (u := ((va_up (va_up σ.1 2 0) 1 x1), σ.2)) hx hb hr hlocks hK hC rfl hw dX5_gap_29
  · have hw := hw.2 c_3
    refine lv_aload_n hx hb dX5_gap_11 rfl (lv_at hl 0 rfl) ?_
    refine lv_iconst (v := 2) hx hb dX5_gap_12 (by decide) ?_
    refine cx_put (v := .int 2) hx hb hts iX5 tyX5 tyX5_ok nmX5 hown hK hC 0 rfl rfl 6 (by decide) u1 rfl rfl (tyX5_ok 6 (by decide)) rfl rfl (Nat.le_of_ble_eq_true rfl) dX5_gap_13 (ws' := (wX cI q ((va_up σ.1 2 2), σ.2))) (wX_i2 cI q _ _) (fun H locs hC => ?_)
    refine lv_iconst (v := 0) hx hb dX5_gap_16 (by decide) ?_
    exact cx_ret_z (u := ((va_up σ.1 2 2), σ.2)) hx hb hr hlocks hK hC rfl hw dX5_gap_17

/-! PictureHeap.tie(IIII)I (X5_tie) -/
set_option maxHeartbeats 1000000 in
set_option maxRecDepth 100000 in
theorem c_X5_tie (l : Launch) (D : va_G) (cI : ClassId) (q : Nat → Nat) (sz : Nat) (σ : St) (x1 : Int32) (x2 : Int32) (x3 : Int32) (x4 : Int32) (post : Int32 → St → Prop) (hw : w_X5_tie σ x1 x2 x3 x4 post) : Ci l yX5_tie wsX5_tie 5 113 D cI (wX cI q σ) sz [.ref (q 0), .int x1, .int x2, .int x3, .int x4] (wX cI q) post := by
  refine mo_i (cc := cX5_tie) (maxL := 5) (ret := (some .int)) (by decide) rfl (Nat.le_of_ble_eq_true rfl) ?_
  intro p e s m below meth c hx hb hr hml hts hown hlocks hK A hA hC ls hl
  have hown : s.vm.findClass RX5 = some m.cls := hown
  have hl : lv_has ls 5 [(0, .ref (q 0)), (1, .int x1), (2, .int x2), (3, .int x3), (4, .int x4)] := hl
  have u1 : (Cond.fieldLink RX5 26 "PictureHeap" "ties" "LPictureHeap$Ties;").before [.ref (q 0), .int x1, .int x2, .int x3, .int x4].toArray s = true := hts _ (List.mem_of_getElem? (i := 1) rfl)
  have u2 : (Cond.fieldLink RX5 199 "PictureHeap$Ties" "size" "I").before [.ref (q 0), .int x1, .int x2, .int x3, .int x4].toArray s = true := hts _ (List.mem_of_getElem? (i := 2) rfl)
  have u3 : (Cond.fieldLink RX5 105 "PictureHeap$Ties" "agreed" "LPictureHeap$Offsets;").before [.ref (q 0), .int x1, .int x2, .int x3, .int x4].toArray s = true := hts _ (List.mem_of_getElem? (i := 3) rfl)
  have u5 : (Cond.fieldLink RX5 44 "PictureHeap" "latestTrouble" "I").before [.ref (q 0), .int x1, .int x2, .int x3, .int x4].toArray s = true := hts _ (List.mem_of_getElem? (i := 5) rfl)
  have u4 : (Cond.fieldLink RX5 47 "PictureHeap" "latestQuarrel" "I").before [.ref (q 0), .int x1, .int x2, .int x3, .int x4].toArray s = true := hts _ (List.mem_of_getElem? (i := 4) rfl)
  have iX3 : ∀ w ∈ wsX30, w ∈ wsX5_tie := fun _ h => List.mem_cons_of_mem _ (List.mem_append_left _ (List.mem_append_right _ h))
  have iX5 : ∀ w ∈ wsX50, w ∈ wsX5_tie := fun _ h => List.mem_cons_of_mem _ (List.mem_append_left _ (List.mem_append_left _ (List.mem_append_right _ h)))
  refine lv_aload_n hx hb dX5_tie_0 rfl (lv_at hl 0 rfl) ?_
  refine cx_get (v := .ref (q 3)) hx hb hts iX5 hown hK hC 0 rfl rfl 2 (by decide) u1 rfl rfl dX5_tie_1 ?_
  refine cx_get (v := .int (σ.1 6)) hx hb hts iX3 hown hK hC 3 rfl rfl 9 (by decide) u2 rfl rfl dX5_tie_4 ?_
  refine lv_bipush (v := 60) hx hb dX5_tie_7 (by decide) ?_
  refine lv_icmp_lt (tgt := 18) hx hb dX5_tie_9 (by decide) (fun c_1 => ?_) (fun c_1 => ?_)
  · have hw := hw.1 c_1
    refine lv_aload_n hx hb dX5_tie_18 rfl (lv_at hl 0 rfl) ?_
    refine cx_get (v := .ref (q 3)) hx hb hts iX5 hown hK hC 0 rfl rfl 2 (by decide) u1 rfl rfl dX5_tie_19 ?_
    refine cx_get (v := .ref (q 6)) hx hb hts iX3 hown hK hC 3 rfl rfl 8 (by decide) u3 rfl rfl dX5_tie_22 ?_
    refine lv_iload_n hx hb dX5_tie_25 rfl (lv_at hl 1 rfl) ?_
    refine lv_iload_n hx hb dX5_tie_26 rfl (lv_at hl 2 rfl) ?_
    refine lv_iload_n hx hb dX5_tie_27 rfl (lv_at hl 3 rfl) ?_
    refine lv_iload hx hb dX5_tie_28 (lv_at hl 4 rfl) ?_
    refine cx_callVi (As := [.int x1, .int x2, .int x3, .int x4]) (rest := []) (ws' := fun u_3 => (wX cI q (σ.1, (va_up σ.2 16 u_3)))) ⟨hx, hb, hml, hown, hts⟩ (c_X2_admits l D cI (q 6) (q 23) _ (σ.2 16) x1 x2 x3 x4 _ hw) (cwV 4 hts gX5_tie_X2_admits rfl rfl rfl (by decide +kernel) ⟨Nat.le_of_ble_eq_true rfl, Nat.le_of_ble_eq_true rfl⟩) hK hC hA [6, 23] [0, 1, 2, 3, 4, 5, 7, 8, 9, 10, 11, 12, 13, 14, 15, 16, 17, 18, 19, 20, 21, 22] (by decide) rfl (wr := [_, _, _, _, _, _, _, _, _, _, _, _, _, _, _, _, _, _, _, _, _, _]) rfl (by decide) (by decide) 6 rfl rfl rfl rfl hl.1 rfl (Nat.le_of_ble_eq_true rfl) dX5_tie_30 ⟨Nat.zero_le _, Nat.zero_le _⟩ [0, 1, 2, 3, 4, 5, 22, 6, 7, 8, 9, 10, 11, 12, 13, 14, 15, 16, 17, 18, 19, 20, 21, 23] (by decide) (fun _ => rfl) (fun r_2 u_3 H locs hw hC => ?_)
    refine lv_if_ne (tgt := 58) hx hb dX5_tie_33 (by decide) (fun c_4 => ?_) (fun c_4 => ?_)
    · have hw := hw.1 c_4
      refine lv_aload_n hx hb dX5_tie_58 rfl (lv_at hl 0 rfl) ?_
      refine lv_iconst (v := 0) hx hb dX5_tie_59 (by decide) ?_
      refine cx_put (v := .int 0) hx hb hts iX5 tyX5 tyX5_ok nmX5 hown hK hC 0 rfl rfl 6 (by decide) u5 rfl rfl (tyX5_ok 6 (by decide)) rfl rfl (Nat.le_of_ble_eq_true rfl) dX5_tie_60 (ws' := (wX cI q ((va_up σ.1 2 0), (va_up σ.2 16 u_3)))) (wX_i2 cI q _ _) (fun H locs hC => ?_)
      refine lv_aload_n hx hb dX5_tie_63 rfl (lv_at hl 0 rfl) ?_
      refine cx_get (v := .ref (q 3)) hx hb hts iX5 hown hK hC 0 rfl rfl 2 (by decide) u1 rfl rfl dX5_tie_64 ?_
      refine lv_iload_n hx hb dX5_tie_67 rfl (lv_at hl 1 rfl) ?_
      refine lv_iload_n hx hb dX5_tie_68 rfl (lv_at hl 2 rfl) ?_
      refine lv_iload_n hx hb dX5_tie_69 rfl (lv_at hl 3 rfl) ?_
      refine lv_iload hx hb dX5_tie_70 (lv_at hl 4 rfl) ?_
      refine cx_callVi0 (As := [.int x1, .int x2, .int x3, .int x4]) (rest := []) ⟨hx, hb, hml, hown, hts⟩ (c_X3_take l D cI q _ ((va_up σ.1 2 0), (va_up σ.2 16 u_3)) x1 x2 x3 x4 _ hw) (cwV 4 hts gX5_tie_X3_take rfl rfl rfl (by decide +kernel) ⟨Nat.le_of_ble_eq_true rfl, Nat.le_of_ble_eq_true rfl⟩) hK hC hA 3 rfl rfl rfl rfl hl.1 rfl (Nat.le_of_ble_eq_true rfl) dX5_tie_72 ⟨Nat.zero_le _, Nat.zero_le _⟩ (fun r_5 u_6 H locs hw hC => ?_)
      exact cx_ret_i (u := u_6) hx hb hr hlocks hK hC hw dX5_tie_75
    · have hw := hw.2 c_4
      refine lv_aload_n hx hb dX5_tie_36 rfl (lv_at hl 0 rfl) ?_
      refine lv_aload_n hx hb dX5_tie_37 rfl (lv_at hl 0 rfl) ?_
      refine cx_get (v := .ref (q 3)) hx hb hts iX5 hown hK hC 0 rfl rfl 2 (by decide) u1 rfl rfl dX5_tie_38 ?_
      refine lv_iload_n hx hb dX5_tie_41 rfl (lv_at hl 1 rfl) ?_
      refine lv_iload_n hx hb dX5_tie_42 rfl (lv_at hl 2 rfl) ?_
      refine lv_iload_n hx hb dX5_tie_43 rfl (lv_at hl 3 rfl) ?_
      refine lv_iload hx hb dX5_tie_44 (lv_at hl 4 rfl) ?_
      refine cx_callVi0 (As := [.int x1, .int x2, .int x3, .int x4]) (rest := [.ref (q 0)]) ⟨hx, hb, hml, hown, hts⟩ (c_X3_fewestAgainst l D cI q _ (σ.1, (va_up σ.2 16 u_3)) x1 x2 x3 x4 _ hw) (cwV 4 hts gX5_tie_X3_fewestAgainst rfl rfl rfl (by decide +kernel) ⟨Nat.le_of_ble_eq_true rfl, Nat.le_of_ble_eq_true rfl⟩) hK hC hA 3 rfl rfl rfl rfl hl.1 rfl (Nat.le_of_ble_eq_true rfl) dX5_tie_46 ⟨Nat.zero_le _, Nat.zero_le _⟩ (fun r_7 u_8 H locs hw hC => ?_)
      refine cx_put (v := .int r_7) hx hb hts iX5 tyX5 tyX5_ok nmX5 hown hK hC 0 rfl rfl 7 (by decide) u4 rfl rfl (tyX5_ok 7 (by decide)) rfl rfl (Nat.le_of_ble_eq_true rfl) dX5_tie_49 (ws' := (wX cI q ((va_up u_8.1 3 r_7), u_8.2))) (wX_i3 cI q _ _) (fun H locs hC => ?_)
      refine lv_aload_n hx hb dX5_tie_52 rfl (lv_at hl 0 rfl) ?_
      refine lv_iconst (v := 4) hx hb dX5_tie_53 (by decide) ?_
      refine cx_callVi0 (As := [.int 4]) (rest := []) ⟨hx, hb, hml, hown, hts⟩ (c_X5_refuse l D cI q _ ((va_up u_8.1 3 r_7), u_8.2) 4 _ hw) (cwV 1 hts gX5_tie_X5_refuse rfl rfl rfl (by decide +kernel) ⟨Nat.le_of_ble_eq_true rfl, Nat.le_of_ble_eq_true rfl⟩) hK hC hA 0 rfl rfl rfl rfl hl.1 rfl (Nat.le_of_ble_eq_true rfl) dX5_tie_54 ⟨Nat.zero_le _, Nat.zero_le _⟩ (fun r_9 u_10 H locs hw hC => ?_)
      exact cx_ret_i (u := u_10) hx hb hr hlocks hK hC hw dX5_tie_57
  · have hw := hw.2 c_1
    refine lv_aload_n hx hb dX5_tie_12 rfl (lv_at hl 0 rfl) ?_
    refine lv_iconst (v := 3) hx hb dX5_tie_13 (by decide) ?_
    refine cx_callVi0 (As := [.int 3]) (rest := []) ⟨hx, hb, hml, hown, hts⟩ (c_X5_refuse l D cI q _ σ 3 _ hw) (cwV 1 hts gX5_tie_X5_refuse rfl rfl rfl (by decide +kernel) ⟨Nat.le_of_ble_eq_true rfl, Nat.le_of_ble_eq_true rfl⟩) hK hC hA 0 rfl rfl rfl rfl hl.1 rfl (Nat.le_of_ble_eq_true rfl) dX5_tie_14 ⟨Nat.zero_le _, Nat.zero_le _⟩ (fun r_11 u_12 H locs hw hC => ?_)
    exact cx_ret_i (u := u_12) hx hb hr hlocks hK hC hw dX5_tie_17

/-! PictureHeap.near(III)I (X5_near) -/
set_option maxHeartbeats 1000000 in
set_option maxRecDepth 100000 in
theorem c_X5_near (l : Launch) (D : va_G) (cI : ClassId) (q : Nat → Nat) (sz : Nat) (σ : St) (x1 : Int32) (x2 : Int32) (x3 : Int32) (post : Int32 → St → Prop) (hw : w_X5_near σ x1 x2 x3 post) : Ci l yX5_near wsX5_near 6 137 D cI (wX cI q σ) sz [.ref (q 0), .int x1, .int x2, .int x3] (wX cI q) post := by
  refine mo_i (cc := cX5_near) (maxL := 5) (ret := (some .int)) (by decide) rfl (Nat.le_of_ble_eq_true rfl) ?_
  intro p e s m below meth c hx hb hr hml hts hown hlocks hK A hA hC ls hl
  have hown : s.vm.findClass RX5 = some m.cls := hown
  have hl : lv_has ls 5 [(0, .ref (q 0)), (1, .int x1), (2, .int x2), (3, .int x3)] := hl
  have u1 : (Cond.fieldLink RX5 10 "PictureHeap" "album" "LPictureHeap$Album;").before [.ref (q 0), .int x1, .int x2, .int x3].toArray s = true := hts _ (List.mem_of_getElem? (i := 1) rfl)
  have u2 : (Cond.fieldLink RX5 80 "PictureHeap$Album" "clockOf" "[I").before [.ref (q 0), .int x1, .int x2, .int x3].toArray s = true := hts _ (List.mem_of_getElem? (i := 2) rfl)
  have u3 : (Cond.fieldLink RX5 84 "PictureHeap$Album" "cameraOf" "[I").before [.ref (q 0), .int x1, .int x2, .int x3].toArray s = true := hts _ (List.mem_of_getElem? (i := 3) rfl)
  have iX0 : ∀ w ∈ wsX00, w ∈ wsX5_near := fun _ h => List.mem_cons_of_mem _ (List.mem_append_left _ (List.mem_append_left _ (List.mem_append_right _ h)))
  have iX5 : ∀ w ∈ wsX50, w ∈ wsX5_near := fun _ h => List.mem_cons_of_mem _ (List.mem_append_left _ (List.mem_append_left _ (List.mem_append_left _ (List.mem_append_right _ h))))
  refine lv_aload_n hx hb dX5_near_0 rfl (lv_at hl 0 rfl) ?_
  refine cx_get (v := .ref (q 1)) hx hb hts iX5 hown hK hC 0 rfl rfl 0 (by decide) u1 rfl rfl dX5_near_1 ?_
  refine lv_iload_n hx hb dX5_near_4 rfl (lv_at hl 1 rfl) ?_
  refine cx_callVi0 (As := [.int x1]) (rest := []) ⟨hx, hb, hml, hown, hts⟩ (c_X0_has l D cI q _ σ x1 _ hw) (cwV 1 hts gX5_near_X0_has rfl rfl rfl (by decide +kernel) ⟨Nat.le_of_ble_eq_true rfl, Nat.le_of_ble_eq_true rfl⟩) hK hC hA 1 rfl rfl rfl rfl hl.1 rfl (Nat.le_of_ble_eq_true rfl) dX5_near_5 ⟨Nat.zero_le _, Nat.zero_le _⟩ (fun r_1 u_2 H locs hw hC => ?_)
  refine lv_if_eq (tgt := 22) hx hb dX5_near_8 (by decide) (fun c_3 => ?_) (fun c_3 => ?_)
  · have hw := hw.1 c_3
    refine lv_aload_n hx hb dX5_near_22 rfl (lv_at hl 0 rfl) ?_
    refine lv_iconst (v := 1) hx hb dX5_near_23 (by decide) ?_
    refine cx_callVi0 (As := [.int 1]) (rest := []) ⟨hx, hb, hml, hown, hts⟩ (c_X5_refuse l D cI q _ u_2 1 _ hw) (cwV 1 hts gX5_near_X5_refuse rfl rfl rfl (by decide +kernel) ⟨Nat.le_of_ble_eq_true rfl, Nat.le_of_ble_eq_true rfl⟩) hK hC hA 0 rfl rfl rfl rfl hl.1 rfl (Nat.le_of_ble_eq_true rfl) dX5_near_24 ⟨Nat.zero_le _, Nat.zero_le _⟩ (fun r_4 u_5 H locs hw hC => ?_)
    exact cx_ret_i (u := u_5) hx hb hr hlocks hK hC hw dX5_near_27
  · have hw := hw.2 c_3
    refine lv_aload_n hx hb dX5_near_11 rfl (lv_at hl 0 rfl) ?_
    refine cx_get (v := .ref (q 1)) hx hb hts iX5 hown hK hC 0 rfl rfl 0 (by decide) u1 rfl rfl dX5_near_12 ?_
    refine lv_iload_n hx hb dX5_near_15 rfl (lv_at hl 2 rfl) ?_
    refine cx_callVi0 (As := [.int x2]) (rest := []) ⟨hx, hb, hml, hown, hts⟩ (c_X0_has l D cI q _ u_2 x2 _ hw) (cwV 1 hts gX5_near_X0_has rfl rfl rfl (by decide +kernel) ⟨Nat.le_of_ble_eq_true rfl, Nat.le_of_ble_eq_true rfl⟩) hK hC hA 1 rfl rfl rfl rfl hl.1 rfl (Nat.le_of_ble_eq_true rfl) dX5_near_16 ⟨Nat.zero_le _, Nat.zero_le _⟩ (fun r_6 u_7 H locs hw hC => ?_)
    refine lv_if_ne (tgt := 28) hx hb dX5_near_19 (by decide) (fun c_8 => ?_) (fun c_8 => ?_)
    · have hw := hw.1 c_8
      refine lv_iload_n hx hb dX5_near_28 rfl (lv_at hl 3 rfl) ?_
      refine lv_iconst (v := 0) hx hb dX5_near_29 (by decide) ?_
      refine lv_sipush (v := 10000) hx hb dX5_near_30 (by decide) ?_
      refine cx_callSiE (As := [.int x3, .int 0, .int 10000]) (rest := []) ⟨hx, hb, hml, hown, hts⟩ (c_X5_within l D cI _ x3 0 10000 _ hw) (va_cwS 3 hts gX5_near_X5_within rfl rfl rfl (by decide +kernel) ⟨Nat.le_of_ble_eq_true rfl, Nat.le_of_ble_eq_true rfl⟩) hK hC hA rfl hl.1 rfl (Nat.le_of_ble_eq_true rfl) dX5_near_33 ⟨Nat.zero_le _, Nat.zero_le _⟩ (fun r_9 H locs hw hC => ?_)
      refine lv_if_ne (tgt := 45) hx hb dX5_near_36 (by decide) (fun c_11 => ?_) (fun c_11 => ?_)
      · have hw := hw.1 c_11
        refine lv_aload_n hx hb dX5_near_45 rfl (lv_at hl 0 rfl) ?_
        refine cx_get (v := .ref (q 1)) hx hb hts iX5 hown hK hC 0 rfl rfl 0 (by decide) u1 rfl rfl dX5_near_46 ?_
        refine cx_get (v := .ref (q 8)) hx hb hts iX0 hown hK hC 1 rfl rfl 1 (by decide) u2 rfl rfl dX5_near_49 ?_
        refine lv_iload_n hx hb dX5_near_52 rfl (lv_at hl 2 rfl) ?_
        refine cx_iald (f := u_7.2 1) hx hb hK hC 8 rfl hw.1 dX5_near_53 ?_
        have hw := hw.2
        refine lv_aload_n hx hb dX5_near_54 rfl (lv_at hl 0 rfl) ?_
        refine cx_get (v := .ref (q 1)) hx hb hts iX5 hown hK hC 0 rfl rfl 0 (by decide) u1 rfl rfl dX5_near_55 ?_
        refine cx_get (v := .ref (q 8)) hx hb hts iX0 hown hK hC 1 rfl rfl 1 (by decide) u2 rfl rfl dX5_near_58 ?_
        refine lv_iload_n hx hb dX5_near_61 rfl (lv_at hl 1 rfl) ?_
        refine cx_iald (f := u_7.2 1) hx hb hK hC 8 rfl hw.1 dX5_near_62 ?_
        have hw := hw.2
        refine lv_isub hx hb dX5_near_63 ?_
        refine lv_istore (lv' := [(4, .int ((u_7.2 1 (Int32.toNatClampNeg x2)) - (u_7.2 1 (Int32.toNatClampNeg x1)))), (0, .ref (q 0)), (1, .int x1), (2, .int x2), (3, .int x3)]) hx hb dX5_near_64 hl (by decide) rfl (fun ls hl => ?_)
        refine lv_aload_n hx hb dX5_near_66 rfl (lv_at hl 1 rfl) ?_
        refine lv_aload_n hx hb dX5_near_67 rfl (lv_at hl 1 rfl) ?_
        refine cx_get (v := .ref (q 1)) hx hb hts iX5 hown hK hC 0 rfl rfl 0 (by decide) u1 rfl rfl dX5_near_68 ?_
        refine cx_get (v := .ref (q 7)) hx hb hts iX0 hown hK hC 1 rfl rfl 0 (by decide) u3 rfl rfl dX5_near_71 ?_
        refine lv_iload_n hx hb dX5_near_74 rfl (lv_at hl 2 rfl) ?_
        refine cx_iald (f := u_7.2 0) hx hb hK hC 7 rfl hw.1 dX5_near_75 ?_
        have hw := hw.2
        refine lv_aload_n hx hb dX5_near_76 rfl (lv_at hl 1 rfl) ?_
        refine cx_get (v := .ref (q 1)) hx hb hts iX5 hown hK hC 0 rfl rfl 0 (by decide) u1 rfl rfl dX5_near_77 ?_
        refine cx_get (v := .ref (q 7)) hx hb hts iX0 hown hK hC 1 rfl rfl 0 (by decide) u3 rfl rfl dX5_near_80 ?_
        refine lv_iload_n hx hb dX5_near_83 rfl (lv_at hl 3 rfl) ?_
        refine cx_iald (f := u_7.2 0) hx hb hK hC 7 rfl hw.1 dX5_near_84 ?_
        have hw := hw.2
        refine lv_iload_n hx hb dX5_near_85 rfl (lv_at hl 4 rfl) ?_
        refine lv_ineg hx hb dX5_near_86 ?_
        refine lv_iload hx hb dX5_near_87 (lv_at hl 0 rfl) ?_
        refine lv_isub hx hb dX5_near_89 ?_
        refine lv_iload_n hx hb dX5_near_90 rfl (lv_at hl 4 rfl) ?_
        refine lv_iload hx hb dX5_near_91 (lv_at hl 0 rfl) ?_
        refine lv_isub hx hb dX5_near_93 ?_
        refine cx_callVi0 (As := [.int (u_7.2 0 (Int32.toNatClampNeg x1)), .int (u_7.2 0 (Int32.toNatClampNeg x2)), .int ((-x3) - ((u_7.2 1 (Int32.toNatClampNeg x2)) - (u_7.2 1 (Int32.toNatClampNeg x1)))), .int (x3 - ((u_7.2 1 (Int32.toNatClampNeg x2)) - (u_7.2 1 (Int32.toNatClampNeg x1))))]) (rest := []) ⟨hx, hb, hml, hown, hts⟩ (c_X5_tie l D cI q _ u_7 (u_7.2 0 (Int32.toNatClampNeg x1)) (u_7.2 0 (Int32.toNatClampNeg x2)) ((-x3) - ((u_7.2 1 (Int32.toNatClampNeg x2)) - (u_7.2 1 (Int32.toNatClampNeg x1)))) (x3 - ((u_7.2 1 (Int32.toNatClampNeg x2)) - (u_7.2 1 (Int32.toNatClampNeg x1)))) _ hw) (cwV 4 hts gX5_near_X5_tie rfl rfl rfl (by decide +kernel) ⟨Nat.le_of_ble_eq_true rfl, Nat.le_of_ble_eq_true rfl⟩) hK hC hA 0 rfl rfl rfl rfl hl.1 rfl (Nat.le_of_ble_eq_true rfl) dX5_near_94 ⟨Nat.zero_le _, Nat.zero_le _⟩ (fun r_12 u_13 H locs hw hC => ?_)
        exact cx_ret_i (u := u_13) hx hb hr hlocks hK hC hw dX5_near_97
      · have hw := hw.2 c_11
        refine lv_aload_n hx hb dX5_near_39 rfl (lv_at hl 0 rfl) ?_
        refine lv_iconst (v := 2) hx hb dX5_near_40 (by decide) ?_
        refine cx_callVi0 (As := [.int 2]) (rest := []) ⟨hx, hb, hml, hown, hts⟩ (c_X5_refuse l D cI q _ u_7 2 _ hw) (cwV 1 hts gX5_near_X5_refuse rfl rfl rfl (by decide +kernel) ⟨Nat.le_of_ble_eq_true rfl, Nat.le_of_ble_eq_true rfl⟩) hK hC hA 0 rfl rfl rfl rfl hl.1 rfl (Nat.le_of_ble_eq_true rfl) dX5_near_41 ⟨Nat.zero_le _, Nat.zero_le _⟩ (fun r_14 u_15 H locs hw hC => ?_)
        exact cx_ret_i (u := u_15) hx hb hr hlocks hK hC hw dX5_near_44
    · have hw := hw.2 c_8
      refine lv_aload_n hx hb dX5_near_22 rfl (lv_at hl 0 rfl) ?_
      refine lv_iconst (v := 1) hx hb dX5_near_23 (by decide) ?_
      refine cx_callVi0 (As := [.int 1]) (rest := []) ⟨hx, hb, hml, hown, hts⟩ (c_X5_refuse l D cI q _ u_7 1 _ hw) (cwV 1 hts gX5_near_X5_refuse rfl rfl rfl (by decide +kernel) ⟨Nat.le_of_ble_eq_true rfl, Nat.le_of_ble_eq_true rfl⟩) hK hC hA 0 rfl rfl rfl rfl hl.1 rfl (Nat.le_of_ble_eq_true rfl) dX5_near_24 ⟨Nat.zero_le _, Nat.zero_le _⟩ (fun r_16 u_17 H locs hw hC => ?_)
      exact cx_ret_i (u := u_17) hx hb hr hlocks hK hC hw dX5_near_27

/-! PictureHeap.ahead(II)I (X5_ahead) -/
set_option maxHeartbeats 1000000 in
set_option maxRecDepth 100000 in
theorem c_X5_ahead (l : Launch) (D : va_G) (cI : ClassId) (q : Nat → Nat) (sz : Nat) (σ : St) (x1 : Int32) (x2 : Int32) (post : Int32 → St → Prop) (hw : w_X5_ahead σ x1 x2 post) : Ci l yX5_ahead wsX5_ahead 6 137 D cI (wX cI q σ) sz [.ref (q 0), .int x1, .int x2] (wX cI q) post := by
  refine mo_i (cc := cX5_ahead) (maxL := 4) (ret := (some .int)) (by decide) rfl (Nat.le_of_ble_eq_true rfl) ?_
  intro p e s m below meth c hx hb hr hml hts hown hlocks hK A hA hC ls hl
  have hown : s.vm.findClass RX5 = some m.cls := hown
  have hl : lv_has ls 4 [(0, .ref (q 0)), (1, .int x1), (2, .int x2)] := hl
  have u1 : (Cond.fieldLink RX5 10 "PictureHeap" "album" "LPictureHeap$Album;").before [.ref (q 0), .int x1, .int x2].toArray s = true := hts _ (List.mem_of_getElem? (i := 1) rfl)
  have u2 : (Cond.fieldLink RX5 80 "PictureHeap$Album" "clockOf" "[I").before [.ref (q 0), .int x1, .int x2].toArray s = true := hts _ (List.mem_of_getElem? (i := 2) rfl)
  have u3 : (Cond.fieldLink RX5 84 "PictureHeap$Album" "cameraOf" "[I").before [.ref (q 0), .int x1, .int x2].toArray s = true := hts _ (List.mem_of_getElem? (i := 3) rfl)
  have u4 : (Cond.constant RX5 90 (1000000)).before [.ref (q 0), .int x1, .int x2].toArray s = true := hts _ (List.mem_of_getElem? (i := 4) rfl)
  have iX0 : ∀ w ∈ wsX00, w ∈ wsX5_ahead := fun _ h => List.mem_cons_of_mem _ (List.mem_append_left _ (List.mem_append_left _ (List.mem_append_right _ h)))
  have iX5 : ∀ w ∈ wsX50, w ∈ wsX5_ahead := fun _ h => List.mem_cons_of_mem _ (List.mem_append_left _ (List.mem_append_left _ (List.mem_append_left _ (List.mem_append_right _ h))))
  refine lv_aload_n hx hb dX5_ahead_0 rfl (lv_at hl 0 rfl) ?_
  refine cx_get (v := .ref (q 1)) hx hb hts iX5 hown hK hC 0 rfl rfl 0 (by decide) u1 rfl rfl dX5_ahead_1 ?_
  refine lv_iload_n hx hb dX5_ahead_4 rfl (lv_at hl 1 rfl) ?_
  refine cx_callVi0 (As := [.int x1]) (rest := []) ⟨hx, hb, hml, hown, hts⟩ (c_X0_has l D cI q _ σ x1 _ hw) (cwV 1 hts gX5_ahead_X0_has rfl rfl rfl (by decide +kernel) ⟨Nat.le_of_ble_eq_true rfl, Nat.le_of_ble_eq_true rfl⟩) hK hC hA 1 rfl rfl rfl rfl hl.1 rfl (Nat.le_of_ble_eq_true rfl) dX5_ahead_5 ⟨Nat.zero_le _, Nat.zero_le _⟩ (fun r_1 u_2 H locs hw hC => ?_)
  refine lv_if_eq (tgt := 22) hx hb dX5_ahead_8 (by decide) (fun c_3 => ?_) (fun c_3 => ?_)
  · have hw := hw.1 c_3
    refine lv_aload_n hx hb dX5_ahead_22 rfl (lv_at hl 0 rfl) ?_
    refine lv_iconst (v := 1) hx hb dX5_ahead_23 (by decide) ?_
    refine cx_callVi0 (As := [.int 1]) (rest := []) ⟨hx, hb, hml, hown, hts⟩ (c_X5_refuse l D cI q _ u_2 1 _ hw) (cwV 1 hts gX5_ahead_X5_refuse rfl rfl rfl (by decide +kernel) ⟨Nat.le_of_ble_eq_true rfl, Nat.le_of_ble_eq_true rfl⟩) hK hC hA 0 rfl rfl rfl rfl hl.1 rfl (Nat.le_of_ble_eq_true rfl) dX5_ahead_24 ⟨Nat.zero_le _, Nat.zero_le _⟩ (fun r_4 u_5 H locs hw hC => ?_)
    exact cx_ret_i (u := u_5) hx hb hr hlocks hK hC hw dX5_ahead_27
  · have hw := hw.2 c_3
    refine lv_aload_n hx hb dX5_ahead_11 rfl (lv_at hl 0 rfl) ?_
    refine cx_get (v := .ref (q 1)) hx hb hts iX5 hown hK hC 0 rfl rfl 0 (by decide) u1 rfl rfl dX5_ahead_12 ?_
    refine lv_iload_n hx hb dX5_ahead_15 rfl (lv_at hl 2 rfl) ?_
    refine cx_callVi0 (As := [.int x2]) (rest := []) ⟨hx, hb, hml, hown, hts⟩ (c_X0_has l D cI q _ u_2 x2 _ hw) (cwV 1 hts gX5_ahead_X0_has rfl rfl rfl (by decide +kernel) ⟨Nat.le_of_ble_eq_true rfl, Nat.le_of_ble_eq_true rfl⟩) hK hC hA 1 rfl rfl rfl rfl hl.1 rfl (Nat.le_of_ble_eq_true rfl) dX5_ahead_16 ⟨Nat.zero_le _, Nat.zero_le _⟩ (fun r_6 u_7 H locs hw hC => ?_)
    refine lv_if_ne (tgt := 28) hx hb dX5_ahead_19 (by decide) (fun c_8 => ?_) (fun c_8 => ?_)
    · have hw := hw.1 c_8
      refine lv_aload_n hx hb dX5_ahead_28 rfl (lv_at hl 0 rfl) ?_
      refine cx_get (v := .ref (q 1)) hx hb hts iX5 hown hK hC 0 rfl rfl 0 (by decide) u1 rfl rfl dX5_ahead_29 ?_
      refine cx_get (v := .ref (q 8)) hx hb hts iX0 hown hK hC 1 rfl rfl 1 (by decide) u2 rfl rfl dX5_ahead_32 ?_
      refine lv_iload_n hx hb dX5_ahead_35 rfl (lv_at hl 2 rfl) ?_
      refine cx_iald (f := u_7.2 1) hx hb hK hC 8 rfl hw.1 dX5_ahead_36 ?_
      have hw := hw.2
      refine lv_aload_n hx hb dX5_ahead_37 rfl (lv_at hl 0 rfl) ?_
      refine cx_get (v := .ref (q 1)) hx hb hts iX5 hown hK hC 0 rfl rfl 0 (by decide) u1 rfl rfl dX5_ahead_38 ?_
      refine cx_get (v := .ref (q 8)) hx hb hts iX0 hown hK hC 1 rfl rfl 1 (by decide) u2 rfl rfl dX5_ahead_41 ?_
      refine lv_iload_n hx hb dX5_ahead_44 rfl (lv_at hl 1 rfl) ?_
      refine cx_iald (f := u_7.2 1) hx hb hK hC 8 rfl hw.1 dX5_ahead_45 ?_
      have hw := hw.2
      refine lv_isub hx hb dX5_ahead_46 ?_
      refine lv_istore_n (lv' := [(3, .int ((u_7.2 1 (Int32.toNatClampNeg x2)) - (u_7.2 1 (Int32.toNatClampNeg x1)))), (0, .ref (q 0)), (1, .int x1), (2, .int x2)]) hx hb dX5_ahead_47 rfl hl (by decide) rfl (fun ls hl => ?_)
      refine lv_aload_n hx hb dX5_ahead_48 rfl (lv_at hl 1 rfl) ?_
      refine lv_aload_n hx hb dX5_ahead_49 rfl (lv_at hl 1 rfl) ?_
      refine cx_get (v := .ref (q 1)) hx hb hts iX5 hown hK hC 0 rfl rfl 0 (by decide) u1 rfl rfl dX5_ahead_50 ?_
      refine cx_get (v := .ref (q 7)) hx hb hts iX0 hown hK hC 1 rfl rfl 0 (by decide) u3 rfl rfl dX5_ahead_53 ?_
      refine lv_iload_n hx hb dX5_ahead_56 rfl (lv_at hl 2 rfl) ?_
      refine cx_iald (f := u_7.2 0) hx hb hK hC 7 rfl hw.1 dX5_ahead_57 ?_
      have hw := hw.2
      refine lv_aload_n hx hb dX5_ahead_58 rfl (lv_at hl 1 rfl) ?_
      refine cx_get (v := .ref (q 1)) hx hb hts iX5 hown hK hC 0 rfl rfl 0 (by decide) u1 rfl rfl dX5_ahead_59 ?_
      refine cx_get (v := .ref (q 7)) hx hb hts iX0 hown hK hC 1 rfl rfl 0 (by decide) u3 rfl rfl dX5_ahead_62 ?_
      refine lv_iload_n hx hb dX5_ahead_65 rfl (lv_at hl 3 rfl) ?_
      refine cx_iald (f := u_7.2 0) hx hb hK hC 7 rfl hw.1 dX5_ahead_66 ?_
      have hw := hw.2
      refine lv_iconst (v := 1) hx hb dX5_ahead_67 (by decide) ?_
      refine lv_iload_n hx hb dX5_ahead_68 rfl (lv_at hl 0 rfl) ?_
      refine lv_isub hx hb dX5_ahead_69 ?_
      refine lv_ldc (v := 1000000) hx hb hown u4 dX5_ahead_70 ?_
      refine cx_callVi0 (As := [.int (u_7.2 0 (Int32.toNatClampNeg x1)), .int (u_7.2 0 (Int32.toNatClampNeg x2)), .int (1 - ((u_7.2 1 (Int32.toNatClampNeg x2)) - (u_7.2 1 (Int32.toNatClampNeg x1)))), .int 1000000]) (rest := []) ⟨hx, hb, hml, hown, hts⟩ (c_X5_tie l D cI q _ u_7 (u_7.2 0 (Int32.toNatClampNeg x1)) (u_7.2 0 (Int32.toNatClampNeg x2)) (1 - ((u_7.2 1 (Int32.toNatClampNeg x2)) - (u_7.2 1 (Int32.toNatClampNeg x1)))) 1000000 _ hw) (cwV 4 hts gX5_ahead_X5_tie rfl rfl rfl (by decide +kernel) ⟨Nat.le_of_ble_eq_true rfl, Nat.le_of_ble_eq_true rfl⟩) hK hC hA 0 rfl rfl rfl rfl hl.1 rfl (Nat.le_of_ble_eq_true rfl) dX5_ahead_72 ⟨Nat.zero_le _, Nat.zero_le _⟩ (fun r_9 u_10 H locs hw hC => ?_)
      exact cx_ret_i (u := u_10) hx hb hr hlocks hK hC hw dX5_ahead_75
    · have hw := hw.2 c_8
      refine lv_aload_n hx hb dX5_ahead_22 rfl (lv_at hl 0 rfl) ?_
      refine lv_iconst (v := 1) hx hb dX5_ahead_23 (by decide) ?_
      refine cx_callVi0 (As := [.int 1]) (rest := []) ⟨hx, hb, hml, hown, hts⟩ (c_X5_refuse l D cI q _ u_7 1 _ hw) (cwV 1 hts gX5_ahead_X5_refuse rfl rfl rfl (by decide +kernel) ⟨Nat.le_of_ble_eq_true rfl, Nat.le_of_ble_eq_true rfl⟩) hK hC hA 0 rfl rfl rfl rfl hl.1 rfl (Nat.le_of_ble_eq_true rfl) dX5_ahead_24 ⟨Nat.zero_le _, Nat.zero_le _⟩ (fun r_11 u_12 H locs hw hC => ?_)
      exact cx_ret_i (u := u_12) hx hb hr hlocks hK hC hw dX5_ahead_27

/-! PictureHeap.off(III)I (X5_off) -/
set_option maxHeartbeats 1000000 in
set_option maxRecDepth 100000 in
theorem c_X5_off (l : Launch) (D : va_G) (cI : ClassId) (q : Nat → Nat) (sz : Nat) (σ : St) (x1 : Int32) (x2 : Int32) (x3 : Int32) (post : Int32 → St → Prop) (hw : w_X5_off σ x1 x2 x3 post) : Ci l yX5_off wsX5_off 6 137 D cI (wX cI q σ) sz [.ref (q 0), .int x1, .int x2, .int x3] (wX cI q) post := by
  refine mo_i (cc := cX5_off) (maxL := 4) (ret := (some .int)) (by decide) rfl (Nat.le_of_ble_eq_true rfl) ?_
  intro p e s m below meth c hx hb hr hml hts hown hlocks hK A hA hC ls hl
  have hown : s.vm.findClass RX5 = some m.cls := hown
  have hl : lv_has ls 4 [(0, .ref (q 0)), (1, .int x1), (2, .int x2), (3, .int x3)] := hl
  refine lv_aload_n hx hb dX5_off_0 rfl (lv_at hl 0 rfl) ?_
  refine lv_iload_n hx hb dX5_off_1 rfl (lv_at hl 1 rfl) ?_
  refine cx_callVi0 (As := [.int x1]) (rest := []) ⟨hx, hb, hml, hown, hts⟩ (c_X5_hasCamera l D cI q _ σ x1 _ hw) (cwV 1 hts gX5_off_X5_hasCamera rfl rfl rfl (by decide +kernel) ⟨Nat.le_of_ble_eq_true rfl, Nat.le_of_ble_eq_true rfl⟩) hK hC hA 0 rfl rfl rfl rfl hl.1 rfl (Nat.le_of_ble_eq_true rfl) dX5_off_2 ⟨Nat.zero_le _, Nat.zero_le _⟩ (fun r_1 u_2 H locs hw hC => ?_)
  refine lv_if_ne (tgt := 14) hx hb dX5_off_5 (by decide) (fun c_3 => ?_) (fun c_3 => ?_)
  · have hw := hw.1 c_3
    refine lv_iload_n hx hb dX5_off_14 rfl (lv_at hl 2 rfl) ?_
    refine cx_callSiE (As := [.int x2]) (rest := []) ⟨hx, hb, hml, hown, hts⟩ (c_X5_isOffset l D cI _ x2 _ hw) (va_cwS 1 hts gX5_off_X5_isOffset rfl rfl rfl (by decide +kernel) ⟨Nat.le_of_ble_eq_true rfl, Nat.le_of_ble_eq_true rfl⟩) hK hC hA rfl hl.1 rfl (Nat.le_of_ble_eq_true rfl) dX5_off_15 ⟨Nat.zero_le _, Nat.zero_le _⟩ (fun r_4 H locs hw hC => ?_)
    refine lv_if_eq (tgt := 33) hx hb dX5_off_18 (by decide) (fun c_6 => ?_) (fun c_6 => ?_)
    · have hw := hw.1 c_6
      refine lv_aload_n hx hb dX5_off_33 rfl (lv_at hl 0 rfl) ?_
      refine lv_iconst (v := 2) hx hb dX5_off_34 (by decide) ?_
      refine cx_callVi0 (As := [.int 2]) (rest := []) ⟨hx, hb, hml, hown, hts⟩ (c_X5_refuse l D cI q _ u_2 2 _ hw) (cwV 1 hts gX5_off_X5_refuse rfl rfl rfl (by decide +kernel) ⟨Nat.le_of_ble_eq_true rfl, Nat.le_of_ble_eq_true rfl⟩) hK hC hA 0 rfl rfl rfl rfl hl.1 rfl (Nat.le_of_ble_eq_true rfl) dX5_off_35 ⟨Nat.zero_le _, Nat.zero_le _⟩ (fun r_7 u_8 H locs hw hC => ?_)
      exact cx_ret_i (u := u_8) hx hb hr hlocks hK hC hw dX5_off_38
    · have hw := hw.2 c_6
      refine lv_iload_n hx hb dX5_off_21 rfl (lv_at hl 3 rfl) ?_
      refine cx_callSiE (As := [.int x3]) (rest := []) ⟨hx, hb, hml, hown, hts⟩ (c_X5_isOffset l D cI _ x3 _ hw) (va_cwS 1 hts gX5_off_X5_isOffset rfl rfl rfl (by decide +kernel) ⟨Nat.le_of_ble_eq_true rfl, Nat.le_of_ble_eq_true rfl⟩) hK hC hA rfl hl.1 rfl (Nat.le_of_ble_eq_true rfl) dX5_off_22 ⟨Nat.zero_le _, Nat.zero_le _⟩ (fun r_9 H locs hw hC => ?_)
      refine lv_if_eq (tgt := 33) hx hb dX5_off_25 (by decide) (fun c_11 => ?_) (fun c_11 => ?_)
      · have hw := hw.1 c_11
        refine lv_aload_n hx hb dX5_off_33 rfl (lv_at hl 0 rfl) ?_
        refine lv_iconst (v := 2) hx hb dX5_off_34 (by decide) ?_
        refine cx_callVi0 (As := [.int 2]) (rest := []) ⟨hx, hb, hml, hown, hts⟩ (c_X5_refuse l D cI q _ u_2 2 _ hw) (cwV 1 hts gX5_off_X5_refuse rfl rfl rfl (by decide +kernel) ⟨Nat.le_of_ble_eq_true rfl, Nat.le_of_ble_eq_true rfl⟩) hK hC hA 0 rfl rfl rfl rfl hl.1 rfl (Nat.le_of_ble_eq_true rfl) dX5_off_35 ⟨Nat.zero_le _, Nat.zero_le _⟩ (fun r_12 u_13 H locs hw hC => ?_)
        exact cx_ret_i (u := u_13) hx hb hr hlocks hK hC hw dX5_off_38
      · have hw := hw.2 c_11
        refine lv_iload_n hx hb dX5_off_28 rfl (lv_at hl 2 rfl) ?_
        refine lv_iload_n hx hb dX5_off_29 rfl (lv_at hl 3 rfl) ?_
        refine lv_icmp_le (tgt := 39) hx hb dX5_off_30 (by decide) (fun c_14 => ?_) (fun c_14 => ?_)
        · have hw := hw.1 c_14
          refine lv_aload_n hx hb dX5_off_39 rfl (lv_at hl 0 rfl) ?_
          refine lv_iconst (v := 0) hx hb dX5_off_40 (by decide) ?_
          refine lv_iload_n hx hb dX5_off_41 rfl (lv_at hl 1 rfl) ?_
          refine lv_iload_n hx hb dX5_off_42 rfl (lv_at hl 2 rfl) ?_
          refine lv_iload_n hx hb dX5_off_43 rfl (lv_at hl 3 rfl) ?_
          refine cx_callVi0 (As := [.int 0, .int x1, .int x2, .int x3]) (rest := []) ⟨hx, hb, hml, hown, hts⟩ (c_X5_tie l D cI q _ u_2 0 x1 x2 x3 _ hw) (cwV 4 hts gX5_off_X5_tie rfl rfl rfl (by decide +kernel) ⟨Nat.le_of_ble_eq_true rfl, Nat.le_of_ble_eq_true rfl⟩) hK hC hA 0 rfl rfl rfl rfl hl.1 rfl (Nat.le_of_ble_eq_true rfl) dX5_off_44 ⟨Nat.zero_le _, Nat.zero_le _⟩ (fun r_15 u_16 H locs hw hC => ?_)
          exact cx_ret_i (u := u_16) hx hb hr hlocks hK hC hw dX5_off_47
        · have hw := hw.2 c_14
          refine lv_aload_n hx hb dX5_off_33 rfl (lv_at hl 0 rfl) ?_
          refine lv_iconst (v := 2) hx hb dX5_off_34 (by decide) ?_
          refine cx_callVi0 (As := [.int 2]) (rest := []) ⟨hx, hb, hml, hown, hts⟩ (c_X5_refuse l D cI q _ u_2 2 _ hw) (cwV 1 hts gX5_off_X5_refuse rfl rfl rfl (by decide +kernel) ⟨Nat.le_of_ble_eq_true rfl, Nat.le_of_ble_eq_true rfl⟩) hK hC hA 0 rfl rfl rfl rfl hl.1 rfl (Nat.le_of_ble_eq_true rfl) dX5_off_35 ⟨Nat.zero_le _, Nat.zero_le _⟩ (fun r_17 u_18 H locs hw hC => ?_)
          exact cx_ret_i (u := u_18) hx hb hr hlocks hK hC hw dX5_off_38
  · have hw := hw.2 c_3
    refine lv_aload_n hx hb dX5_off_8 rfl (lv_at hl 0 rfl) ?_
    refine lv_iconst (v := 1) hx hb dX5_off_9 (by decide) ?_
    refine cx_callVi0 (As := [.int 1]) (rest := []) ⟨hx, hb, hml, hown, hts⟩ (c_X5_refuse l D cI q _ u_2 1 _ hw) (cwV 1 hts gX5_off_X5_refuse rfl rfl rfl (by decide +kernel) ⟨Nat.le_of_ble_eq_true rfl, Nat.le_of_ble_eq_true rfl⟩) hK hC hA 0 rfl rfl rfl rfl hl.1 rfl (Nat.le_of_ble_eq_true rfl) dX5_off_10 ⟨Nat.zero_le _, Nat.zero_le _⟩ (fun r_19 u_20 H locs hw hC => ?_)
    exact cx_ret_i (u := u_20) hx hb hr hlocks hK hC hw dX5_off_13

/-! PictureHeap.quarrel()I (X5_quarrel) -/
set_option maxHeartbeats 1000000 in
set_option maxRecDepth 100000 in
theorem c_X5_quarrel (l : Launch) (D : va_G) (cI : ClassId) (q : Nat → Nat) (sz : Nat) (σ : St) (post : Int32 → St → Prop) (hw : w_X5_quarrel σ post) : Ci l yX5_quarrel wsX5_quarrel 0 0 D cI (wX cI q σ) sz [.ref (q 0)] (wX cI q) post := by
  refine mo_i (cc := cX5_quarrel) (maxL := 1) (ret := (some .int)) (by decide) rfl (Nat.le_of_ble_eq_true rfl) ?_
  intro p e s m below meth c hx hb hr hml hts hown hlocks hK A hA hC ls hl
  have hown : s.vm.findClass RX5 = some m.cls := hown
  have hl : lv_has ls 1 [(0, .ref (q 0))] := hl
  have u1 : (Cond.fieldLink RX5 47 "PictureHeap" "latestQuarrel" "I").before [.ref (q 0)].toArray s = true := hts _ (List.mem_of_getElem? (i := 1) rfl)
  have iX5 : ∀ w ∈ wsX50, w ∈ wsX5_quarrel := fun _ h => List.mem_cons_of_mem _ (List.mem_append_right _ h)
  refine lv_aload_n hx hb dX5_quarrel_0 rfl (lv_at hl 0 rfl) ?_
  refine cx_get (v := .int (σ.1 3)) hx hb hts iX5 hown hK hC 0 rfl rfl 7 (by decide) u1 rfl rfl dX5_quarrel_1 ?_
  exact cx_ret_i (u := σ) hx hb hr hlocks hK hC hw dX5_quarrel_4

/-! PictureHeap.untie(I)Z (X5_untie) -/
set_option maxHeartbeats 1000000 in
set_option maxRecDepth 100000 in
theorem c_X5_untie (l : Launch) (D : va_G) (cI : ClassId) (q : Nat → Nat) (sz : Nat) (σ : St) (x1 : Int32) (post : Int32 → St → Prop) (hw : w_X5_untie σ x1 post) : Ci l yX5_untie wsX5_untie 4 95 D cI (wX cI q σ) sz [.ref (q 0), .int x1] (wX cI q) post := by
  refine mo_i (cc := cX5_untie) (maxL := 3) (ret := (some .boolean)) (by decide) rfl (Nat.le_of_ble_eq_true rfl) ?_
  intro p e s m below meth c hx hb hr hml hts hown hlocks hK A hA hC ls hl
  have hown : s.vm.findClass RX5 = some m.cls := hown
  have hl : lv_has ls 3 [(0, .ref (q 0)), (1, .int x1)] := hl
  have u1 : (Cond.fieldLink RX5 26 "PictureHeap" "ties" "LPictureHeap$Ties;").before [.ref (q 0), .int x1].toArray s = true := hts _ (List.mem_of_getElem? (i := 1) rfl)
  have u2 : (Cond.fieldLink RX5 44 "PictureHeap" "latestTrouble" "I").before [.ref (q 0), .int x1].toArray s = true := hts _ (List.mem_of_getElem? (i := 2) rfl)
  have iX5 : ∀ w ∈ wsX50, w ∈ wsX5_untie := fun _ h => List.mem_cons_of_mem _ (List.mem_append_left _ (List.mem_append_left _ (List.mem_append_right _ h)))
  refine lv_aload_n hx hb dX5_untie_0 rfl (lv_at hl 0 rfl) ?_
  refine cx_get (v := .ref (q 3)) hx hb hts iX5 hown hK hC 0 rfl rfl 2 (by decide) u1 rfl rfl dX5_untie_1 ?_
  refine lv_iload_n hx hb dX5_untie_4 rfl (lv_at hl 1 rfl) ?_
  refine cx_callVi0 (As := [.int x1]) (rest := []) ⟨hx, hb, hml, hown, hts⟩ (c_X3_slotOf l D cI q _ σ x1 _ hw) (cwV 1 hts gX5_untie_X3_slotOf rfl rfl rfl (by decide +kernel) ⟨Nat.le_of_ble_eq_true rfl, Nat.le_of_ble_eq_true rfl⟩) hK hC hA 3 rfl rfl rfl rfl hl.1 rfl (Nat.le_of_ble_eq_true rfl) dX5_untie_5 ⟨Nat.zero_le _, Nat.zero_le _⟩ (fun r_1 u_2 H locs hw hC => ?_)
  refine lv_istore_n (lv' := [(2, .int r_1), (0, .ref (q 0)), (1, .int x1)]) hx hb dX5_untie_8 rfl hl (by decide) rfl (fun ls hl => ?_)
  refine lv_iload_n hx hb dX5_untie_9 rfl (lv_at hl 0 rfl) ?_
  refine lv_iconst (v := (-1)) hx hb dX5_untie_10 (by decide) ?_
  refine lv_icmp_ne (tgt := 21) hx hb dX5_untie_11 (by decide) (fun c_3 => ?_) (fun c_3 => ?_)
  · have hw := hw.1 c_3
    refine lv_aload_n hx hb dX5_untie_21 rfl (lv_at hl 1 rfl) ?_
    refine lv_iconst (v := 0) hx hb dX5_untie_22 (by decide) ?_
    refine cx_put (v := .int 0) hx hb hts iX5 tyX5 tyX5_ok nmX5 hown hK hC 0 rfl rfl 6 (by decide) u2 rfl rfl (tyX5_ok 6 (by decide)) rfl rfl (Nat.le_of_ble_eq_true rfl) dX5_untie_23 (ws' := (wX cI q ((va_up u_2.1 2 0), u_2.2))) (wX_i2 cI q _ _) (fun H locs hC => ?_)
    refine lv_aload_n hx hb dX5_untie_26 rfl (lv_at hl 1 rfl) ?_
    refine cx_get (v := .ref (q 3)) hx hb hts iX5 hown hK hC 0 rfl rfl 2 (by decide) u1 rfl rfl dX5_untie_27 ?_
    refine lv_iload_n hx hb dX5_untie_30 rfl (lv_at hl 0 rfl) ?_
    refine cx_callVv0 (As := [.int r_1]) (rest := []) ⟨hx, hb, hml, hown, hts⟩ (c_X3_drop l D cI q _ ((va_up u_2.1 2 0), u_2.2) r_1 _ hw) (cwV 1 hts gX5_untie_X3_drop rfl rfl rfl (by decide +kernel) ⟨Nat.le_of_ble_eq_true rfl, Nat.le_of_ble_eq_true rfl⟩) hK hC hA 3 rfl rfl rfl rfl hl.1 rfl (Nat.le_of_ble_eq_true rfl) dX5_untie_31 ⟨Nat.zero_le _, Nat.zero_le _⟩ (fun u_5 H locs hw hC => ?_)
    refine lv_iconst (v := 1) hx hb dX5_untie_34 (by decide) ?_
    exact cx_ret_z (u := u_5) hx hb hr hlocks hK hC rfl hw dX5_untie_35
  · have hw := hw.2 c_3
    refine lv_aload_n hx hb dX5_untie_14 rfl (lv_at hl 1 rfl) ?_
    refine lv_iconst (v := 1) hx hb dX5_untie_15 (by decide) ?_
    refine cx_put (v := .int 1) hx hb hts iX5 tyX5 tyX5_ok nmX5 hown hK hC 0 rfl rfl 6 (by decide) u2 rfl rfl (tyX5_ok 6 (by decide)) rfl rfl (Nat.le_of_ble_eq_true rfl) dX5_untie_16 (ws' := (wX cI q ((va_up u_2.1 2 1), u_2.2))) (wX_i2 cI q _ _) (fun H locs hC => ?_)
    refine lv_iconst (v := 0) hx hb dX5_untie_19 (by decide) ?_
    exact cx_ret_z (u := ((va_up u_2.1 2 1), u_2.2)) hx hb hr hlocks hK hC rfl hw dX5_untie_20

/-! PictureHeap.idle(I)I (X5_idle) -/
set_option maxHeartbeats 1000000 in
set_option maxRecDepth 100000 in
theorem c_X5_idle (l : Launch) (D : va_G) (cI : ClassId) (q : Nat → Nat) (sz : Nat) (σ : St) (x1 : Int32) (post : Int32 → St → Prop) (hw : w_X5_idle σ x1 post) : Ci l yX5_idle wsX5_idle 4 95 D cI (wX cI q σ) sz [.ref (q 0), .int x1] (wX cI q) post := by
  refine mo_i (cc := cX5_idle) (maxL := 3) (ret := (some .int)) (by decide) rfl (Nat.le_of_ble_eq_true rfl) ?_
  intro p e s m below meth c hx hb hr hml hts hown hlocks hK A hA hC ls hl
  have hown : s.vm.findClass RX5 = some m.cls := hown
  have hl : lv_has ls 3 [(0, .ref (q 0)), (1, .int x1)] := hl
  have u1 : (Cond.fieldLink RX5 26 "PictureHeap" "ties" "LPictureHeap$Ties;").before [.ref (q 0), .int x1].toArray s = true := hts _ (List.mem_of_getElem? (i := 1) rfl)
  have u2 : (Cond.fieldLink RX5 44 "PictureHeap" "latestTrouble" "I").before [.ref (q 0), .int x1].toArray s = true := hts _ (List.mem_of_getElem? (i := 2) rfl)
  have iX5 : ∀ w ∈ wsX50, w ∈ wsX5_idle := fun _ h => List.mem_cons_of_mem _ (List.mem_append_left _ (List.mem_append_left _ (List.mem_append_right _ h)))
  refine lv_aload_n hx hb dX5_idle_0 rfl (lv_at hl 0 rfl) ?_
  refine cx_get (v := .ref (q 3)) hx hb hts iX5 hown hK hC 0 rfl rfl 2 (by decide) u1 rfl rfl dX5_idle_1 ?_
  refine lv_iload_n hx hb dX5_idle_4 rfl (lv_at hl 1 rfl) ?_
  refine cx_callVi0 (As := [.int x1]) (rest := []) ⟨hx, hb, hml, hown, hts⟩ (c_X3_slotOf l D cI q _ σ x1 _ hw) (cwV 1 hts gX5_idle_X3_slotOf rfl rfl rfl (by decide +kernel) ⟨Nat.le_of_ble_eq_true rfl, Nat.le_of_ble_eq_true rfl⟩) hK hC hA 3 rfl rfl rfl rfl hl.1 rfl (Nat.le_of_ble_eq_true rfl) dX5_idle_5 ⟨Nat.zero_le _, Nat.zero_le _⟩ (fun r_1 u_2 H locs hw hC => ?_)
  refine lv_istore_n (lv' := [(2, .int r_1), (0, .ref (q 0)), (1, .int x1)]) hx hb dX5_idle_8 rfl hl (by decide) rfl (fun ls hl => ?_)
  refine lv_iload_n hx hb dX5_idle_9 rfl (lv_at hl 0 rfl) ?_
  refine lv_iconst (v := (-1)) hx hb dX5_idle_10 (by decide) ?_
  refine lv_icmp_ne (tgt := 20) hx hb dX5_idle_11 (by decide) (fun c_3 => ?_) (fun c_3 => ?_)
  · have hw := hw.1 c_3
    refine lv_aload_n hx hb dX5_idle_20 rfl (lv_at hl 1 rfl) ?_
    refine lv_iconst (v := 0) hx hb dX5_idle_21 (by decide) ?_
    refine cx_put (v := .int 0) hx hb hts iX5 tyX5 tyX5_ok nmX5 hown hK hC 0 rfl rfl 6 (by decide) u2 rfl rfl (tyX5_ok 6 (by decide)) rfl rfl (Nat.le_of_ble_eq_true rfl) dX5_idle_22 (ws' := (wX cI q ((va_up u_2.1 2 0), u_2.2))) (wX_i2 cI q _ _) (fun H locs hC => ?_)
    refine lv_aload_n hx hb dX5_idle_25 rfl (lv_at hl 1 rfl) ?_
    refine cx_get (v := .ref (q 3)) hx hb hts iX5 hown hK hC 0 rfl rfl 2 (by decide) u1 rfl rfl dX5_idle_26 ?_
    refine lv_iload_n hx hb dX5_idle_29 rfl (lv_at hl 0 rfl) ?_
    refine cx_callVi0 (As := [.int r_1]) (rest := []) ⟨hx, hb, hml, hown, hts⟩ (c_X3_isOfNoMatter l D cI q _ ((va_up u_2.1 2 0), u_2.2) r_1 _ hw) (cwV 1 hts gX5_idle_X3_isOfNoMatter rfl rfl rfl (by decide +kernel) ⟨Nat.le_of_ble_eq_true rfl, Nat.le_of_ble_eq_true rfl⟩) hK hC hA 3 rfl rfl rfl rfl hl.1 rfl (Nat.le_of_ble_eq_true rfl) dX5_idle_30 ⟨Nat.zero_le _, Nat.zero_le _⟩ (fun r_4 u_5 H locs hw hC => ?_)
    refine lv_if_eq (tgt := 40) hx hb dX5_idle_33 (by decide) (fun c_6 => ?_) (fun c_6 => ?_)
    · have hw := hw.1 c_6
      refine lv_iconst (v := 0) hx hb dX5_idle_40 (by decide) ?_
      exact cx_ret_i (u := u_5) hx hb hr hlocks hK hC hw dX5_idle_41
    · have hw := hw.2 c_6
      refine lv_iconst (v := 1) hx hb dX5_idle_36 (by decide) ?_
      refine lv_goto (tgt := 41) hx hb dX5_idle_37 (by decide) ?_
      exact cx_ret_i (u := u_5) hx hb hr hlocks hK hC hw dX5_idle_41
  · have hw := hw.2 c_3
    refine lv_aload_n hx hb dX5_idle_14 rfl (lv_at hl 1 rfl) ?_
    refine lv_iconst (v := 1) hx hb dX5_idle_15 (by decide) ?_
    refine cx_callVi0 (As := [.int 1]) (rest := []) ⟨hx, hb, hml, hown, hts⟩ (c_X5_refuse l D cI q _ u_2 1 _ hw) (cwV 1 hts gX5_idle_X5_refuse rfl rfl rfl (by decide +kernel) ⟨Nat.le_of_ble_eq_true rfl, Nat.le_of_ble_eq_true rfl⟩) hK hC hA 0 rfl rfl rfl rfl hl.1 rfl (Nat.le_of_ble_eq_true rfl) dX5_idle_16 ⟨Nat.zero_le _, Nat.zero_le _⟩ (fun r_7 u_8 H locs hw hC => ?_)
    exact cx_ret_i (u := u_8) hx hb hr hlocks hK hC hw dX5_idle_19

/-! PictureHeap.range(IZ)I (X5_range) -/
set_option maxHeartbeats 1000000 in
set_option maxRecDepth 100000 in
theorem c_X5_range (l : Launch) (D : va_G) (cI : ClassId) (q : Nat → Nat) (sz : Nat) (σ : St) (x1 : Int32) (x2 : Int32) (post : Int32 → St → Prop) (hw : w_X5_range σ x1 x2 post) : Ci l yX5_range wsX5_range 1 22 D cI (wX cI q σ) sz [.ref (q 0), .int x1, .int x2] (wX cI q) post := by
  refine mo_i (cc := cX5_range) (maxL := 3) (ret := (some .int)) (by decide) rfl (Nat.le_of_ble_eq_true rfl) ?_
  intro p e s m below meth c hx hb hr hml hts hown hlocks hK A hA hC ls hl
  have hown : s.vm.findClass RX5 = some m.cls := hown
  have hl : lv_has ls 3 [(0, .ref (q 0)), (1, .int x1), (2, .int x2)] := hl
  have u2 : (Cond.fieldLink RX5 26 "PictureHeap" "ties" "LPictureHeap$Ties;").before [.ref (q 0), .int x1, .int x2].toArray s = true := hts _ (List.mem_of_getElem? (i := 2) rfl)
  have u3 : (Cond.fieldLink RX5 105 "PictureHeap$Ties" "agreed" "LPictureHeap$Offsets;").before [.ref (q 0), .int x1, .int x2].toArray s = true := hts _ (List.mem_of_getElem? (i := 3) rfl)
  have u1 : (Cond.constant RX5 104 (-1000000)).before [.ref (q 0), .int x1, .int x2].toArray s = true := hts _ (List.mem_of_getElem? (i := 1) rfl)
  have iX3 : ∀ w ∈ wsX30, w ∈ wsX5_range := fun _ h => List.mem_cons_of_mem _ (List.mem_append_left _ (List.mem_append_right _ h))
  have iX5 : ∀ w ∈ wsX50, w ∈ wsX5_range := fun _ h => List.mem_cons_of_mem _ (List.mem_append_left _ (List.mem_append_left _ (List.mem_append_right _ h)))
  refine lv_aload_n hx hb dX5_range_0 rfl (lv_at hl 0 rfl) ?_
  refine lv_iload_n hx hb dX5_range_1 rfl (lv_at hl 1 rfl) ?_
  refine cx_callVi0 (As := [.int x1]) (rest := []) ⟨hx, hb, hml, hown, hts⟩ (c_X5_hasCamera l D cI q _ σ x1 _ hw) (cwV 1 hts gX5_range_X5_hasCamera rfl rfl rfl (by decide +kernel) ⟨Nat.le_of_ble_eq_true rfl, Nat.le_of_ble_eq_true rfl⟩) hK hC hA 0 rfl rfl rfl rfl hl.1 rfl (Nat.le_of_ble_eq_true rfl) dX5_range_2 ⟨Nat.zero_le _, Nat.zero_le _⟩ (fun r_1 u_2 H locs hw hC => ?_)
  refine lv_if_ne (tgt := 11) hx hb dX5_range_5 (by decide) (fun c_3 => ?_) (fun c_3 => ?_)
  · have hw := hw.1 c_3
    refine lv_iload_n hx hb dX5_range_11 rfl (lv_at hl 2 rfl) ?_
    refine lv_if_eq (tgt := 30) hx hb dX5_range_12 (by decide) (fun c_4 => ?_) (fun c_4 => ?_)
    · have hw := hw.1 c_4
      refine lv_aload_n hx hb dX5_range_30 rfl (lv_at hl 0 rfl) ?_
      refine cx_get (v := .ref (q 3)) hx hb hts iX5 hown hK hC 0 rfl rfl 2 (by decide) u2 rfl rfl dX5_range_31 ?_
      refine cx_get (v := .ref (q 6)) hx hb hts iX3 hown hK hC 3 rfl rfl 8 (by decide) u3 rfl rfl dX5_range_34 ?_
      refine lv_iconst (v := 0) hx hb dX5_range_37 (by decide) ?_
      refine lv_iload_n hx hb dX5_range_38 rfl (lv_at hl 1 rfl) ?_
      refine cx_callVi (As := [.int 0, .int x1]) (rest := []) (ws' := fun u_6 => (wX cI q (u_2.1, (va_up u_2.2 16 u_6)))) ⟨hx, hb, hml, hown, hts⟩ (c_X2_least l D cI (q 6) (q 23) _ (u_2.2 16) 0 x1 _ hw) (cwV 2 hts gX5_range_X2_least rfl rfl rfl (by decide +kernel) ⟨Nat.le_of_ble_eq_true rfl, Nat.le_of_ble_eq_true rfl⟩) hK hC hA [6, 23] [0, 1, 2, 3, 4, 5, 7, 8, 9, 10, 11, 12, 13, 14, 15, 16, 17, 18, 19, 20, 21, 22] (by decide) rfl (wr := [_, _, _, _, _, _, _, _, _, _, _, _, _, _, _, _, _, _, _, _, _, _]) rfl (by decide) (by decide) 6 rfl rfl rfl rfl hl.1 rfl (Nat.le_of_ble_eq_true rfl) dX5_range_39 ⟨Nat.zero_le _, Nat.zero_le _⟩ [0, 1, 2, 3, 4, 5, 22, 6, 7, 8, 9, 10, 11, 12, 13, 14, 15, 16, 17, 18, 19, 20, 21, 23] (by decide) (fun _ => rfl) (fun r_5 u_6 H locs hw hC => ?_)
      exact cx_ret_i (u := (u_2.1, (va_up u_2.2 16 u_6))) hx hb hr hlocks hK hC hw dX5_range_42
    · have hw := hw.2 c_4
      refine lv_aload_n hx hb dX5_range_15 rfl (lv_at hl 0 rfl) ?_
      refine cx_get (v := .ref (q 3)) hx hb hts iX5 hown hK hC 0 rfl rfl 2 (by decide) u2 rfl rfl dX5_range_16 ?_
      refine cx_get (v := .ref (q 6)) hx hb hts iX3 hown hK hC 3 rfl rfl 8 (by decide) u3 rfl rfl dX5_range_19 ?_
      refine lv_iconst (v := 0) hx hb dX5_range_22 (by decide) ?_
      refine lv_iload_n hx hb dX5_range_23 rfl (lv_at hl 1 rfl) ?_
      refine cx_callVi (As := [.int 0, .int x1]) (rest := []) (ws' := fun u_8 => (wX cI q (u_2.1, (va_up u_2.2 16 u_8)))) ⟨hx, hb, hml, hown, hts⟩ (c_X2_most l D cI (q 6) (q 23) _ (u_2.2 16) 0 x1 _ hw) (cwV 2 hts gX5_range_X2_most rfl rfl rfl (by decide +kernel) ⟨Nat.le_of_ble_eq_true rfl, Nat.le_of_ble_eq_true rfl⟩) hK hC hA [6, 23] [0, 1, 2, 3, 4, 5, 7, 8, 9, 10, 11, 12, 13, 14, 15, 16, 17, 18, 19, 20, 21, 22] (by decide) rfl (wr := [_, _, _, _, _, _, _, _, _, _, _, _, _, _, _, _, _, _, _, _, _, _]) rfl (by decide) (by decide) 6 rfl rfl rfl rfl hl.1 rfl (Nat.le_of_ble_eq_true rfl) dX5_range_24 ⟨Nat.zero_le _, Nat.zero_le _⟩ [0, 1, 2, 3, 4, 5, 22, 6, 7, 8, 9, 10, 11, 12, 13, 14, 15, 16, 17, 18, 19, 20, 21, 23] (by decide) (fun _ => rfl) (fun r_7 u_8 H locs hw hC => ?_)
      refine lv_goto (tgt := 42) hx hb dX5_range_27 (by decide) ?_
      exact cx_ret_i (u := (u_2.1, (va_up u_2.2 16 u_8))) hx hb hr hlocks hK hC hw dX5_range_42
  · have hw := hw.2 c_3
    refine lv_ldc (v := (-1000000)) hx hb hown u1 dX5_range_8 ?_
    exact cx_ret_i (u := u_2) hx hb hr hlocks hK hC hw dX5_range_10

/-! PictureHeap.leastBehind(II)I (X5_leastBehind) -/
set_option maxHeartbeats 1000000 in
set_option maxRecDepth 100000 in
theorem c_X5_leastBehind (l : Launch) (D : va_G) (cI : ClassId) (q : Nat → Nat) (sz : Nat) (σ : St) (x1 : Int32) (x2 : Int32) (post : Int32 → St → Prop) (hw : w_X5_leastBehind σ x1 x2 post) : Ci l yX5_leastBehind wsX5_leastBehind 1 22 D cI (wX cI q σ) sz [.ref (q 0), .int x1, .int x2] (wX cI q) post := by
  refine mo_i (cc := cX5_leastBehind) (maxL := 4) (ret := (some .int)) (by decide) rfl (Nat.le_of_ble_eq_true rfl) ?_
  intro p e s m below meth c hx hb hr hml hts hown hlocks hK A hA hC ls hl
  have hown : s.vm.findClass RX5 = some m.cls := hown
  have hl : lv_has ls 4 [(0, .ref (q 0)), (1, .int x1), (2, .int x2)] := hl
  have u1 : (Cond.fieldLink RX5 10 "PictureHeap" "album" "LPictureHeap$Album;").before [.ref (q 0), .int x1, .int x2].toArray s = true := hts _ (List.mem_of_getElem? (i := 1) rfl)
  have u2 : (Cond.fieldLink RX5 80 "PictureHeap$Album" "clockOf" "[I").before [.ref (q 0), .int x1, .int x2].toArray s = true := hts _ (List.mem_of_getElem? (i := 2) rfl)
  have u3 : (Cond.fieldLink RX5 26 "PictureHeap" "ties" "LPictureHeap$Ties;").before [.ref (q 0), .int x1, .int x2].toArray s = true := hts _ (List.mem_of_getElem? (i := 3) rfl)
  have u4 : (Cond.fieldLink RX5 105 "PictureHeap$Ties" "agreed" "LPictureHeap$Offsets;").before [.ref (q 0), .int x1, .int x2].toArray s = true := hts _ (List.mem_of_getElem? (i := 4) rfl)
  have u5 : (Cond.fieldLink RX5 84 "PictureHeap$Album" "cameraOf" "[I").before [.ref (q 0), .int x1, .int x2].toArray s = true := hts _ (List.mem_of_getElem? (i := 5) rfl)
  have iX0 : ∀ w ∈ wsX00, w ∈ wsX5_leastBehind := fun _ h => List.mem_cons_of_mem _ (List.mem_append_left _ (List.mem_append_left _ (List.mem_append_right _ h)))
  have iX3 : ∀ w ∈ wsX30, w ∈ wsX5_leastBehind := fun _ h => List.mem_cons_of_mem _ (List.mem_append_left _ (List.mem_append_right _ h))
  have iX5 : ∀ w ∈ wsX50, w ∈ wsX5_leastBehind := fun _ h => List.mem_cons_of_mem _ (List.mem_append_left _ (List.mem_append_left _ (List.mem_append_left _ (List.mem_append_right _ h))))
  refine lv_aload_n hx hb dX5_leastBehind_0 rfl (lv_at hl 0 rfl) ?_
  refine cx_get (v := .ref (q 1)) hx hb hts iX5 hown hK hC 0 rfl rfl 0 (by decide) u1 rfl rfl dX5_leastBehind_1 ?_
  refine cx_get (v := .ref (q 8)) hx hb hts iX0 hown hK hC 1 rfl rfl 1 (by decide) u2 rfl rfl dX5_leastBehind_4 ?_
  refine lv_iload_n hx hb dX5_leastBehind_7 rfl (lv_at hl 2 rfl) ?_
  refine cx_iald (f := σ.2 1) hx hb hK hC 8 rfl hw.1 dX5_leastBehind_8 ?_
  have hw := hw.2
  refine lv_aload_n hx hb dX5_leastBehind_9 rfl (lv_at hl 0 rfl) ?_
  refine cx_get (v := .ref (q 1)) hx hb hts iX5 hown hK hC 0 rfl rfl 0 (by decide) u1 rfl rfl dX5_leastBehind_10 ?_
  refine cx_get (v := .ref (q 8)) hx hb hts iX0 hown hK hC 1 rfl rfl 1 (by decide) u2 rfl rfl dX5_leastBehind_13 ?_
  refine lv_iload_n hx hb dX5_leastBehind_16 rfl (lv_at hl 1 rfl) ?_
  refine cx_iald (f := σ.2 1) hx hb hK hC 8 rfl hw.1 dX5_leastBehind_17 ?_
  have hw := hw.2
  refine lv_isub hx hb dX5_leastBehind_18 ?_
  refine lv_istore_n (lv' := [(3, .int ((σ.2 1 (Int32.toNatClampNeg x2)) - (σ.2 1 (Int32.toNatClampNeg x1)))), (0, .ref (q 0)), (1, .int x1), (2, .int x2)]) hx hb dX5_leastBehind_19 rfl hl (by decide) rfl (fun ls hl => ?_)
  refine lv_iload_n hx hb dX5_leastBehind_20 rfl (lv_at hl 0 rfl) ?_
  refine lv_aload_n hx hb dX5_leastBehind_21 rfl (lv_at hl 1 rfl) ?_
  refine cx_get (v := .ref (q 3)) hx hb hts iX5 hown hK hC 0 rfl rfl 2 (by decide) u3 rfl rfl dX5_leastBehind_22 ?_
  refine cx_get (v := .ref (q 6)) hx hb hts iX3 hown hK hC 3 rfl rfl 8 (by decide) u4 rfl rfl dX5_leastBehind_25 ?_
  refine lv_aload_n hx hb dX5_leastBehind_28 rfl (lv_at hl 1 rfl) ?_
  refine cx_get (v := .ref (q 1)) hx hb hts iX5 hown hK hC 0 rfl rfl 0 (by decide) u1 rfl rfl dX5_leastBehind_29 ?_
  refine cx_get (v := .ref (q 7)) hx hb hts iX0 hown hK hC 1 rfl rfl 0 (by decide) u5 rfl rfl dX5_leastBehind_32 ?_
  refine lv_iload_n hx hb dX5_leastBehind_35 rfl (lv_at hl 2 rfl) ?_
  refine cx_iald (f := σ.2 0) hx hb hK hC 7 rfl hw.1 dX5_leastBehind_36 ?_
  have hw := hw.2
  refine lv_aload_n hx hb dX5_leastBehind_37 rfl (lv_at hl 1 rfl) ?_
  refine cx_get (v := .ref (q 1)) hx hb hts iX5 hown hK hC 0 rfl rfl 0 (by decide) u1 rfl rfl dX5_leastBehind_38 ?_
  refine cx_get (v := .ref (q 7)) hx hb hts iX0 hown hK hC 1 rfl rfl 0 (by decide) u5 rfl rfl dX5_leastBehind_41 ?_
  refine lv_iload_n hx hb dX5_leastBehind_44 rfl (lv_at hl 3 rfl) ?_
  refine cx_iald (f := σ.2 0) hx hb hK hC 7 rfl hw.1 dX5_leastBehind_45 ?_
  have hw := hw.2
  refine cx_callVi (As := [.int (σ.2 0 (Int32.toNatClampNeg x1)), .int (σ.2 0 (Int32.toNatClampNeg x2))]) (rest := [.int ((σ.2 1 (Int32.toNatClampNeg x2)) - (σ.2 1 (Int32.toNatClampNeg x1)))]) (ws' := fun u_2 => (wX cI q (σ.1, (va_up σ.2 16 u_2)))) ⟨hx, hb, hml, hown, hts⟩ (c_X2_least l D cI (q 6) (q 23) _ (σ.2 16) (σ.2 0 (Int32.toNatClampNeg x1)) (σ.2 0 (Int32.toNatClampNeg x2)) _ hw) (cwV 2 hts gX5_leastBehind_X2_least rfl rfl rfl (by decide +kernel) ⟨Nat.le_of_ble_eq_true rfl, Nat.le_of_ble_eq_true rfl⟩) hK hC hA [6, 23] [0, 1, 2, 3, 4, 5, 7, 8, 9, 10, 11, 12, 13, 14, 15, 16, 17, 18, 19, 20, 21, 22] (by decide) rfl (wr := [_, _, _, _, _, _, _, _, _, _, _, _, _, _, _, _, _, _, _, _, _, _]) rfl (by decide) (by decide) 6 rfl rfl rfl rfl hl.1 rfl (Nat.le_of_ble_eq_true rfl) dX5_leastBehind_46 ⟨Nat.zero_le _, Nat.zero_le _⟩ [0, 1, 2, 3, 4, 5, 22, 6, 7, 8, 9, 10, 11, 12, 13, 14, 15, 16, 17, 18, 19, 20, 21, 23] (by decide) (fun _ => rfl) (fun r_1 u_2 H locs hw hC => ?_)
  refine lv_iadd hx hb dX5_leastBehind_49 ?_
  exact cx_ret_i (u := (σ.1, (va_up σ.2 16 u_2))) hx hb hr hlocks hK hC hw dX5_leastBehind_50

/-! PictureHeap.mostBehind(II)I (X5_mostBehind) -/
set_option maxHeartbeats 1000000 in
set_option maxRecDepth 100000 in
theorem c_X5_mostBehind (l : Launch) (D : va_G) (cI : ClassId) (q : Nat → Nat) (sz : Nat) (σ : St) (x1 : Int32) (x2 : Int32) (post : Int32 → St → Prop) (hw : w_X5_mostBehind σ x1 x2 post) : Ci l yX5_mostBehind wsX5_mostBehind 1 22 D cI (wX cI q σ) sz [.ref (q 0), .int x1, .int x2] (wX cI q) post := by
  refine mo_i (cc := cX5_mostBehind) (maxL := 4) (ret := (some .int)) (by decide) rfl (Nat.le_of_ble_eq_true rfl) ?_
  intro p e s m below meth c hx hb hr hml hts hown hlocks hK A hA hC ls hl
  have hown : s.vm.findClass RX5 = some m.cls := hown
  have hl : lv_has ls 4 [(0, .ref (q 0)), (1, .int x1), (2, .int x2)] := hl
  have u1 : (Cond.fieldLink RX5 10 "PictureHeap" "album" "LPictureHeap$Album;").before [.ref (q 0), .int x1, .int x2].toArray s = true := hts _ (List.mem_of_getElem? (i := 1) rfl)
  have u2 : (Cond.fieldLink RX5 80 "PictureHeap$Album" "clockOf" "[I").before [.ref (q 0), .int x1, .int x2].toArray s = true := hts _ (List.mem_of_getElem? (i := 2) rfl)
  have u3 : (Cond.fieldLink RX5 26 "PictureHeap" "ties" "LPictureHeap$Ties;").before [.ref (q 0), .int x1, .int x2].toArray s = true := hts _ (List.mem_of_getElem? (i := 3) rfl)
  have u4 : (Cond.fieldLink RX5 105 "PictureHeap$Ties" "agreed" "LPictureHeap$Offsets;").before [.ref (q 0), .int x1, .int x2].toArray s = true := hts _ (List.mem_of_getElem? (i := 4) rfl)
  have u5 : (Cond.fieldLink RX5 84 "PictureHeap$Album" "cameraOf" "[I").before [.ref (q 0), .int x1, .int x2].toArray s = true := hts _ (List.mem_of_getElem? (i := 5) rfl)
  have iX0 : ∀ w ∈ wsX00, w ∈ wsX5_mostBehind := fun _ h => List.mem_cons_of_mem _ (List.mem_append_left _ (List.mem_append_left _ (List.mem_append_right _ h)))
  have iX3 : ∀ w ∈ wsX30, w ∈ wsX5_mostBehind := fun _ h => List.mem_cons_of_mem _ (List.mem_append_left _ (List.mem_append_right _ h))
  have iX5 : ∀ w ∈ wsX50, w ∈ wsX5_mostBehind := fun _ h => List.mem_cons_of_mem _ (List.mem_append_left _ (List.mem_append_left _ (List.mem_append_left _ (List.mem_append_right _ h))))
  refine lv_aload_n hx hb dX5_mostBehind_0 rfl (lv_at hl 0 rfl) ?_
  refine cx_get (v := .ref (q 1)) hx hb hts iX5 hown hK hC 0 rfl rfl 0 (by decide) u1 rfl rfl dX5_mostBehind_1 ?_
  refine cx_get (v := .ref (q 8)) hx hb hts iX0 hown hK hC 1 rfl rfl 1 (by decide) u2 rfl rfl dX5_mostBehind_4 ?_
  refine lv_iload_n hx hb dX5_mostBehind_7 rfl (lv_at hl 2 rfl) ?_
  refine cx_iald (f := σ.2 1) hx hb hK hC 8 rfl hw.1 dX5_mostBehind_8 ?_
  have hw := hw.2
  refine lv_aload_n hx hb dX5_mostBehind_9 rfl (lv_at hl 0 rfl) ?_
  refine cx_get (v := .ref (q 1)) hx hb hts iX5 hown hK hC 0 rfl rfl 0 (by decide) u1 rfl rfl dX5_mostBehind_10 ?_
  refine cx_get (v := .ref (q 8)) hx hb hts iX0 hown hK hC 1 rfl rfl 1 (by decide) u2 rfl rfl dX5_mostBehind_13 ?_
  refine lv_iload_n hx hb dX5_mostBehind_16 rfl (lv_at hl 1 rfl) ?_
  refine cx_iald (f := σ.2 1) hx hb hK hC 8 rfl hw.1 dX5_mostBehind_17 ?_
  have hw := hw.2
  refine lv_isub hx hb dX5_mostBehind_18 ?_
  refine lv_istore_n (lv' := [(3, .int ((σ.2 1 (Int32.toNatClampNeg x2)) - (σ.2 1 (Int32.toNatClampNeg x1)))), (0, .ref (q 0)), (1, .int x1), (2, .int x2)]) hx hb dX5_mostBehind_19 rfl hl (by decide) rfl (fun ls hl => ?_)
  refine lv_iload_n hx hb dX5_mostBehind_20 rfl (lv_at hl 0 rfl) ?_
  refine lv_aload_n hx hb dX5_mostBehind_21 rfl (lv_at hl 1 rfl) ?_
  refine cx_get (v := .ref (q 3)) hx hb hts iX5 hown hK hC 0 rfl rfl 2 (by decide) u3 rfl rfl dX5_mostBehind_22 ?_
  refine cx_get (v := .ref (q 6)) hx hb hts iX3 hown hK hC 3 rfl rfl 8 (by decide) u4 rfl rfl dX5_mostBehind_25 ?_
  refine lv_aload_n hx hb dX5_mostBehind_28 rfl (lv_at hl 1 rfl) ?_
  refine cx_get (v := .ref (q 1)) hx hb hts iX5 hown hK hC 0 rfl rfl 0 (by decide) u1 rfl rfl dX5_mostBehind_29 ?_
  refine cx_get (v := .ref (q 7)) hx hb hts iX0 hown hK hC 1 rfl rfl 0 (by decide) u5 rfl rfl dX5_mostBehind_32 ?_
  refine lv_iload_n hx hb dX5_mostBehind_35 rfl (lv_at hl 2 rfl) ?_
  refine cx_iald (f := σ.2 0) hx hb hK hC 7 rfl hw.1 dX5_mostBehind_36 ?_
  have hw := hw.2
  refine lv_aload_n hx hb dX5_mostBehind_37 rfl (lv_at hl 1 rfl) ?_
  refine cx_get (v := .ref (q 1)) hx hb hts iX5 hown hK hC 0 rfl rfl 0 (by decide) u1 rfl rfl dX5_mostBehind_38 ?_
  refine cx_get (v := .ref (q 7)) hx hb hts iX0 hown hK hC 1 rfl rfl 0 (by decide) u5 rfl rfl dX5_mostBehind_41 ?_
  refine lv_iload_n hx hb dX5_mostBehind_44 rfl (lv_at hl 3 rfl) ?_
  refine cx_iald (f := σ.2 0) hx hb hK hC 7 rfl hw.1 dX5_mostBehind_45 ?_
  have hw := hw.2
  refine cx_callVi (As := [.int (σ.2 0 (Int32.toNatClampNeg x1)), .int (σ.2 0 (Int32.toNatClampNeg x2))]) (rest := [.int ((σ.2 1 (Int32.toNatClampNeg x2)) - (σ.2 1 (Int32.toNatClampNeg x1)))]) (ws' := fun u_2 => (wX cI q (σ.1, (va_up σ.2 16 u_2)))) ⟨hx, hb, hml, hown, hts⟩ (c_X2_most l D cI (q 6) (q 23) _ (σ.2 16) (σ.2 0 (Int32.toNatClampNeg x1)) (σ.2 0 (Int32.toNatClampNeg x2)) _ hw) (cwV 2 hts gX5_mostBehind_X2_most rfl rfl rfl (by decide +kernel) ⟨Nat.le_of_ble_eq_true rfl, Nat.le_of_ble_eq_true rfl⟩) hK hC hA [6, 23] [0, 1, 2, 3, 4, 5, 7, 8, 9, 10, 11, 12, 13, 14, 15, 16, 17, 18, 19, 20, 21, 22] (by decide) rfl (wr := [_, _, _, _, _, _, _, _, _, _, _, _, _, _, _, _, _, _, _, _, _, _]) rfl (by decide) (by decide) 6 rfl rfl rfl rfl hl.1 rfl (Nat.le_of_ble_eq_true rfl) dX5_mostBehind_46 ⟨Nat.zero_le _, Nat.zero_le _⟩ [0, 1, 2, 3, 4, 5, 22, 6, 7, 8, 9, 10, 11, 12, 13, 14, 15, 16, 17, 18, 19, 20, 21, 23] (by decide) (fun _ => rfl) (fun r_1 u_2 H locs hw hC => ?_)
  refine lv_iadd hx hb dX5_mostBehind_49 ?_
  exact cx_ret_i (u := (σ.1, (va_up σ.2 16 u_2))) hx hb hr hlocks hK hC hw dX5_mostBehind_50

/-! PictureHeap.between(IIZ)I (X5_between) -/
set_option maxHeartbeats 1000000 in
set_option maxRecDepth 100000 in
theorem c_X5_between (l : Launch) (D : va_G) (cI : ClassId) (q : Nat → Nat) (sz : Nat) (σ : St) (x1 : Int32) (x2 : Int32) (x3 : Int32) (post : Int32 → St → Prop) (hw : w_X5_between σ x1 x2 x3 post) : Ci l yX5_between wsX5_between 2 45 D cI (wX cI q σ) sz [.ref (q 0), .int x1, .int x2, .int x3] (wX cI q) post := by
  refine mo_i (cc := cX5_between) (maxL := 4) (ret := (some .int)) (by decide) rfl (Nat.le_of_ble_eq_true rfl) ?_
  intro p e s m below meth c hx hb hr hml hts hown hlocks hK A hA hC ls hl
  have hown : s.vm.findClass RX5 = some m.cls := hown
  have hl : lv_has ls 4 [(0, .ref (q 0)), (1, .int x1), (2, .int x2), (3, .int x3)] := hl
  have u1 : (Cond.fieldLink RX5 10 "PictureHeap" "album" "LPictureHeap$Album;").before [.ref (q 0), .int x1, .int x2, .int x3].toArray s = true := hts _ (List.mem_of_getElem? (i := 1) rfl)
  have u2 : (Cond.constant RX5 104 (-1000000)).before [.ref (q 0), .int x1, .int x2, .int x3].toArray s = true := hts _ (List.mem_of_getElem? (i := 2) rfl)
  have iX5 : ∀ w ∈ wsX50, w ∈ wsX5_between := fun _ h => List.mem_cons_of_mem _ (List.mem_append_left _ (List.mem_append_left _ (List.mem_append_left _ (List.mem_append_right _ h))))
  refine lv_aload_n hx hb dX5_between_0 rfl (lv_at hl 0 rfl) ?_
  refine cx_get (v := .ref (q 1)) hx hb hts iX5 hown hK hC 0 rfl rfl 0 (by decide) u1 rfl rfl dX5_between_1 ?_
  refine lv_iload_n hx hb dX5_between_4 rfl (lv_at hl 1 rfl) ?_
  refine cx_callVi0 (As := [.int x1]) (rest := []) ⟨hx, hb, hml, hown, hts⟩ (c_X0_has l D cI q _ σ x1 _ hw) (cwV 1 hts gX5_between_X0_has rfl rfl rfl (by decide +kernel) ⟨Nat.le_of_ble_eq_true rfl, Nat.le_of_ble_eq_true rfl⟩) hK hC hA 1 rfl rfl rfl rfl hl.1 rfl (Nat.le_of_ble_eq_true rfl) dX5_between_5 ⟨Nat.zero_le _, Nat.zero_le _⟩ (fun r_1 u_2 H locs hw hC => ?_)
  refine lv_if_eq (tgt := 22) hx hb dX5_between_8 (by decide) (fun c_3 => ?_) (fun c_3 => ?_)
  · have hw := hw.1 c_3
    refine lv_ldc (v := (-1000000)) hx hb hown u2 dX5_between_22 ?_
    exact cx_ret_i (u := u_2) hx hb hr hlocks hK hC hw dX5_between_24
  · have hw := hw.2 c_3
    refine lv_aload_n hx hb dX5_between_11 rfl (lv_at hl 0 rfl) ?_
    refine cx_get (v := .ref (q 1)) hx hb hts iX5 hown hK hC 0 rfl rfl 0 (by decide) u1 rfl rfl dX5_between_12 ?_
    refine lv_iload_n hx hb dX5_between_15 rfl (lv_at hl 2 rfl) ?_
    refine cx_callVi0 (As := [.int x2]) (rest := []) ⟨hx, hb, hml, hown, hts⟩ (c_X0_has l D cI q _ u_2 x2 _ hw) (cwV 1 hts gX5_between_X0_has rfl rfl rfl (by decide +kernel) ⟨Nat.le_of_ble_eq_true rfl, Nat.le_of_ble_eq_true rfl⟩) hK hC hA 1 rfl rfl rfl rfl hl.1 rfl (Nat.le_of_ble_eq_true rfl) dX5_between_16 ⟨Nat.zero_le _, Nat.zero_le _⟩ (fun r_4 u_5 H locs hw hC => ?_)
    refine lv_if_ne (tgt := 25) hx hb dX5_between_19 (by decide) (fun c_6 => ?_) (fun c_6 => ?_)
    · have hw := hw.1 c_6
      refine lv_iload_n hx hb dX5_between_25 rfl (lv_at hl 3 rfl) ?_
      refine lv_if_eq (tgt := 38) hx hb dX5_between_26 (by decide) (fun c_7 => ?_) (fun c_7 => ?_)
      · have hw := hw.1 c_7
        refine lv_aload_n hx hb dX5_between_38 rfl (lv_at hl 0 rfl) ?_
        refine lv_iload_n hx hb dX5_between_39 rfl (lv_at hl 1 rfl) ?_
        refine lv_iload_n hx hb dX5_between_40 rfl (lv_at hl 2 rfl) ?_
        refine cx_callVi0 (As := [.int x1, .int x2]) (rest := []) ⟨hx, hb, hml, hown, hts⟩ (c_X5_leastBehind l D cI q _ u_5 x1 x2 _ hw) (cwV 2 hts gX5_between_X5_leastBehind rfl rfl rfl (by decide +kernel) ⟨Nat.le_of_ble_eq_true rfl, Nat.le_of_ble_eq_true rfl⟩) hK hC hA 0 rfl rfl rfl rfl hl.1 rfl (Nat.le_of_ble_eq_true rfl) dX5_between_41 ⟨Nat.zero_le _, Nat.zero_le _⟩ (fun r_8 u_9 H locs hw hC => ?_)
        exact cx_ret_i (u := u_9) hx hb hr hlocks hK hC hw dX5_between_44
      · have hw := hw.2 c_7
        refine lv_aload_n hx hb dX5_between_29 rfl (lv_at hl 0 rfl) ?_
        refine lv_iload_n hx hb dX5_between_30 rfl (lv_at hl 1 rfl) ?_
        refine lv_iload_n hx hb dX5_between_31 rfl (lv_at hl 2 rfl) ?_
        refine cx_callVi0 (As := [.int x1, .int x2]) (rest := []) ⟨hx, hb, hml, hown, hts⟩ (c_X5_mostBehind l D cI q _ u_5 x1 x2 _ hw) (cwV 2 hts gX5_between_X5_mostBehind rfl rfl rfl (by decide +kernel) ⟨Nat.le_of_ble_eq_true rfl, Nat.le_of_ble_eq_true rfl⟩) hK hC hA 0 rfl rfl rfl rfl hl.1 rfl (Nat.le_of_ble_eq_true rfl) dX5_between_32 ⟨Nat.zero_le _, Nat.zero_le _⟩ (fun r_10 u_11 H locs hw hC => ?_)
        refine lv_goto (tgt := 44) hx hb dX5_between_35 (by decide) ?_
        exact cx_ret_i (u := u_11) hx hb hr hlocks hK hC hw dX5_between_44
    · have hw := hw.2 c_6
      refine lv_ldc (v := (-1000000)) hx hb hown u2 dX5_between_22 ?_
      exact cx_ret_i (u := u_5) hx hb hr hlocks hK hC hw dX5_between_24

/-! PictureHeap.sureOrder(II)I (X5_sureOrder) -/
set_option maxHeartbeats 1000000 in
set_option maxRecDepth 100000 in
theorem c_X5_sureOrder (l : Launch) (D : va_G) (cI : ClassId) (q : Nat → Nat) (sz : Nat) (σ : St) (x1 : Int32) (x2 : Int32) (post : Int32 → St → Prop) (hw : w_X5_sureOrder σ x1 x2 post) : Ci l yX5_sureOrder wsX5_sureOrder 2 45 D cI (wX cI q σ) sz [.ref (q 0), .int x1, .int x2] (wX cI q) post := by
  refine mo_i (cc := cX5_sureOrder) (maxL := 5) (ret := (some .int)) (by decide) rfl (Nat.le_of_ble_eq_true rfl) ?_
  intro p e s m below meth c hx hb hr hml hts hown hlocks hK A hA hC ls hl
  have hown : s.vm.findClass RX5 = some m.cls := hown
  have hl : lv_has ls 5 [(0, .ref (q 0)), (1, .int x1), (2, .int x2)] := hl
  refine lv_aload_n hx hb dX5_sureOrder_0 rfl (lv_at hl 0 rfl) ?_
  refine lv_iload_n hx hb dX5_sureOrder_1 rfl (lv_at hl 1 rfl) ?_
  refine lv_iload_n hx hb dX5_sureOrder_2 rfl (lv_at hl 2 rfl) ?_
  refine cx_callVi0 (As := [.int x1, .int x2]) (rest := []) ⟨hx, hb, hml, hown, hts⟩ (c_X5_leastBehind l D cI q _ σ x1 x2 _ hw) (cwV 2 hts gX5_sureOrder_X5_leastBehind rfl rfl rfl (by decide +kernel) ⟨Nat.le_of_ble_eq_true rfl, Nat.le_of_ble_eq_true rfl⟩) hK hC hA 0 rfl rfl rfl rfl hl.1 rfl (Nat.le_of_ble_eq_true rfl) dX5_sureOrder_3 ⟨Nat.zero_le _, Nat.zero_le _⟩ (fun r_1 u_2 H locs hw hC => ?_)
  refine lv_istore_n (lv' := [(3, .int r_1), (0, .ref (q 0)), (1, .int x1), (2, .int x2)]) hx hb dX5_sureOrder_6 rfl hl (by decide) rfl (fun ls hl => ?_)
  refine lv_aload_n hx hb dX5_sureOrder_7 rfl (lv_at hl 1 rfl) ?_
  refine lv_iload_n hx hb dX5_sureOrder_8 rfl (lv_at hl 2 rfl) ?_
  refine lv_iload_n hx hb dX5_sureOrder_9 rfl (lv_at hl 3 rfl) ?_
  refine cx_callVi0 (As := [.int x1, .int x2]) (rest := []) ⟨hx, hb, hml, hown, hts⟩ (c_X5_mostBehind l D cI q _ u_2 x1 x2 _ hw) (cwV 2 hts gX5_sureOrder_X5_mostBehind rfl rfl rfl (by decide +kernel) ⟨Nat.le_of_ble_eq_true rfl, Nat.le_of_ble_eq_true rfl⟩) hK hC hA 0 rfl rfl rfl rfl hl.1 rfl (Nat.le_of_ble_eq_true rfl) dX5_sureOrder_10 ⟨Nat.zero_le _, Nat.zero_le _⟩ (fun r_3 u_4 H locs hw hC => ?_)
  refine lv_istore (lv' := [(4, .int r_3), (3, .int r_1), (0, .ref (q 0)), (1, .int x1), (2, .int x2)]) hx hb dX5_sureOrder_13 hl (by decide) rfl (fun ls hl => ?_)
  refine lv_iload_n hx hb dX5_sureOrder_15 rfl (lv_at hl 1 rfl) ?_
  refine lv_if_le (tgt := 21) hx hb dX5_sureOrder_16 (by decide) (fun c_5 => ?_) (fun c_5 => ?_)
  · have hw := hw.1 c_5
    refine lv_iload hx hb dX5_sureOrder_21 (lv_at hl 0 rfl) ?_
    refine lv_if_ge (tgt := 28) hx hb dX5_sureOrder_23 (by decide) (fun c_6 => ?_) (fun c_6 => ?_)
    · have hw := hw.1 c_6
      refine lv_iload_n hx hb dX5_sureOrder_28 rfl (lv_at hl 1 rfl) ?_
      refine lv_if_ne (tgt := 41) hx hb dX5_sureOrder_29 (by decide) (fun c_7 => ?_) (fun c_7 => ?_)
      · have hw := hw.1 c_7
        refine lv_iconst (v := 0) hx hb dX5_sureOrder_41 (by decide) ?_
        exact cx_ret_i (u := u_4) hx hb hr hlocks hK hC hw dX5_sureOrder_42
      · have hw := hw.2 c_7
        refine lv_iload hx hb dX5_sureOrder_32 (lv_at hl 0 rfl) ?_
        refine lv_if_ne (tgt := 41) hx hb dX5_sureOrder_34 (by decide) (fun c_8 => ?_) (fun c_8 => ?_)
        · have hw := hw.1 c_8
          refine lv_iconst (v := 0) hx hb dX5_sureOrder_41 (by decide) ?_
          exact cx_ret_i (u := u_4) hx hb hr hlocks hK hC hw dX5_sureOrder_42
        · have hw := hw.2 c_8
          refine lv_iconst (v := 3) hx hb dX5_sureOrder_37 (by decide) ?_
          refine lv_goto (tgt := 42) hx hb dX5_sureOrder_38 (by decide) ?_
          exact cx_ret_i (u := u_4) hx hb hr hlocks hK hC hw dX5_sureOrder_42
    · have hw := hw.2 c_6
      refine lv_iconst (v := 2) hx hb dX5_sureOrder_26 (by decide) ?_
      exact cx_ret_i (u := u_4) hx hb hr hlocks hK hC hw dX5_sureOrder_27
  · have hw := hw.2 c_5
    refine lv_iconst (v := 1) hx hb dX5_sureOrder_19 (by decide) ?_
    exact cx_ret_i (u := u_4) hx hb hr hlocks hK hC hw dX5_sureOrder_20

/-! PictureHeap.order(II)I (X5_order) -/
set_option maxHeartbeats 1000000 in
set_option maxRecDepth 100000 in
theorem c_X5_order (l : Launch) (D : va_G) (cI : ClassId) (q : Nat → Nat) (sz : Nat) (σ : St) (x1 : Int32) (x2 : Int32) (post : Int32 → St → Prop) (hw : w_X5_order σ x1 x2 post) : Ci l yX5_order wsX5_order 3 69 D cI (wX cI q σ) sz [.ref (q 0), .int x1, .int x2] (wX cI q) post := by
  refine mo_i (cc := cX5_order) (maxL := 3) (ret := (some .int)) (by decide) rfl (Nat.le_of_ble_eq_true rfl) ?_
  intro p e s m below meth c hx hb hr hml hts hown hlocks hK A hA hC ls hl
  have hown : s.vm.findClass RX5 = some m.cls := hown
  have hl : lv_has ls 3 [(0, .ref (q 0)), (1, .int x1), (2, .int x2)] := hl
  have u1 : (Cond.fieldLink RX5 10 "PictureHeap" "album" "LPictureHeap$Album;").before [.ref (q 0), .int x1, .int x2].toArray s = true := hts _ (List.mem_of_getElem? (i := 1) rfl)
  have iX5 : ∀ w ∈ wsX50, w ∈ wsX5_order := fun _ h => List.mem_cons_of_mem _ (List.mem_append_left _ (List.mem_append_left _ (List.mem_append_left _ (List.mem_append_right _ h))))
  refine lv_aload_n hx hb dX5_order_0 rfl (lv_at hl 0 rfl) ?_
  refine cx_get (v := .ref (q 1)) hx hb hts iX5 hown hK hC 0 rfl rfl 0 (by decide) u1 rfl rfl dX5_order_1 ?_
  refine lv_iload_n hx hb dX5_order_4 rfl (lv_at hl 1 rfl) ?_
  refine cx_callVi0 (As := [.int x1]) (rest := []) ⟨hx, hb, hml, hown, hts⟩ (c_X0_has l D cI q _ σ x1 _ hw) (cwV 1 hts gX5_order_X0_has rfl rfl rfl (by decide +kernel) ⟨Nat.le_of_ble_eq_true rfl, Nat.le_of_ble_eq_true rfl⟩) hK hC hA 1 rfl rfl rfl rfl hl.1 rfl (Nat.le_of_ble_eq_true rfl) dX5_order_5 ⟨Nat.zero_le _, Nat.zero_le _⟩ (fun r_1 u_2 H locs hw hC => ?_)
  refine lv_if_eq (tgt := 22) hx hb dX5_order_8 (by decide) (fun c_3 => ?_) (fun c_3 => ?_)
  · have hw := hw.1 c_3
    refine lv_iconst (v := (-1)) hx hb dX5_order_22 (by decide) ?_
    exact cx_ret_i (u := u_2) hx hb hr hlocks hK hC hw dX5_order_23
  · have hw := hw.2 c_3
    refine lv_aload_n hx hb dX5_order_11 rfl (lv_at hl 0 rfl) ?_
    refine cx_get (v := .ref (q 1)) hx hb hts iX5 hown hK hC 0 rfl rfl 0 (by decide) u1 rfl rfl dX5_order_12 ?_
    refine lv_iload_n hx hb dX5_order_15 rfl (lv_at hl 2 rfl) ?_
    refine cx_callVi0 (As := [.int x2]) (rest := []) ⟨hx, hb, hml, hown, hts⟩ (c_X0_has l D cI q _ u_2 x2 _ hw) (cwV 1 hts gX5_order_X0_has rfl rfl rfl (by decide +kernel) ⟨Nat.le_of_ble_eq_true rfl, Nat.le_of_ble_eq_true rfl⟩) hK hC hA 1 rfl rfl rfl rfl hl.1 rfl (Nat.le_of_ble_eq_true rfl) dX5_order_16 ⟨Nat.zero_le _, Nat.zero_le _⟩ (fun r_4 u_5 H locs hw hC => ?_)
    refine lv_if_ne (tgt := 24) hx hb dX5_order_19 (by decide) (fun c_6 => ?_) (fun c_6 => ?_)
    · have hw := hw.1 c_6
      refine lv_aload_n hx hb dX5_order_24 rfl (lv_at hl 0 rfl) ?_
      refine lv_iload_n hx hb dX5_order_25 rfl (lv_at hl 1 rfl) ?_
      refine lv_iload_n hx hb dX5_order_26 rfl (lv_at hl 2 rfl) ?_
      refine cx_callVi0 (As := [.int x1, .int x2]) (rest := []) ⟨hx, hb, hml, hown, hts⟩ (c_X5_sureOrder l D cI q _ u_5 x1 x2 _ hw) (cwV 2 hts gX5_order_X5_sureOrder rfl rfl rfl (by decide +kernel) ⟨Nat.le_of_ble_eq_true rfl, Nat.le_of_ble_eq_true rfl⟩) hK hC hA 0 rfl rfl rfl rfl hl.1 rfl (Nat.le_of_ble_eq_true rfl) dX5_order_27 ⟨Nat.zero_le _, Nat.zero_le _⟩ (fun r_7 u_8 H locs hw hC => ?_)
      exact cx_ret_i (u := u_8) hx hb hr hlocks hK hC hw dX5_order_30
    · have hw := hw.2 c_6
      refine lv_iconst (v := (-1)) hx hb dX5_order_22 (by decide) ?_
      exact cx_ret_i (u := u_5) hx hb hr hlocks hK hC hw dX5_order_23

/-! PictureHeap.unsure()I (X5_unsure) -/
set_option maxHeartbeats 1000000 in
set_option maxRecDepth 100000 in
theorem c_X5_unsure (l : Launch) (D : va_G) (cI : ClassId) (q : Nat → Nat) (sz : Nat) (σ : St) (post : Int32 → St → Prop) (hw : w_X5_unsure σ post) : Ci l yX5_unsure wsX5_unsure 3 69 D cI (wX cI q σ) sz [.ref (q 0)] (wX cI q) post := by
  refine mo_i (cc := cX5_unsure) (maxL := 4) (ret := (some .int)) (by decide) rfl (Nat.le_of_ble_eq_true rfl) ?_
  intro p e s m below meth c hx hb hr hml hts hown hlocks hK A hA hC ls hl
  have hown : s.vm.findClass RX5 = some m.cls := hown
  have hl : lv_has ls 4 [(0, .ref (q 0))] := hl
  have u1 : (Cond.fieldLink RX5 10 "PictureHeap" "album" "LPictureHeap$Album;").before [.ref (q 0)].toArray s = true := hts _ (List.mem_of_getElem? (i := 1) rfl)
  have u2 : (Cond.fieldLink RX5 74 "PictureHeap$Album" "size" "I").before [.ref (q 0)].toArray s = true := hts _ (List.mem_of_getElem? (i := 2) rfl)
  have iX0 : ∀ w ∈ wsX00, w ∈ wsX5_unsure := fun _ h => List.mem_cons_of_mem _ (List.mem_append_left _ (List.mem_append_left _ (List.mem_append_right _ h)))
  have iX5 : ∀ w ∈ wsX50, w ∈ wsX5_unsure := fun _ h => List.mem_cons_of_mem _ (List.mem_append_left _ (List.mem_append_left _ (List.mem_append_left _ (List.mem_append_right _ h))))
  have L19 : ∀ (x2_5 : Int32) (K : Int32 → Int32 → St → Prop) (hKK : ∀ (x1_6 : Int32) (x3_7 : Int32) (s_8 : St) (H : Heap) (locs : List Loc) (ls : Array Slot), K x1_6 x3_7 s_8 → Cx D A s.heap (wX cI q s_8) H locs → lv_has ls 4 [(0, .ref (q 0)), (1, .int x1_6), (2, .int x2_5), (3, .int x3_7)] → W p l e (Rm 3 69) s m [.ref (q 0)].toArray below meth c H locs 0 0 (QI below D cI A (wX cI q) post [.ref (q 0)].toArray s) (F0 m 48 ls [])) (n : Nat), ∀ (x1_6 : Int32) (x3_7 : Int32) (s_8 : St) (H : Heap) (locs : List Loc) (ls : Array Slot), w_X5_unsure_L19 x2_5 post K n x1_6 x3_7 s_8 → Cx D A s.heap (wX cI q s_8) H locs → lv_has ls 4 [(0, .ref (q 0)), (1, .int x1_6), (2, .int x2_5), (3, .int x3_7)] → W p l e (Rm 3 69) s m [.ref (q 0)].toArray below meth c H locs 0 0 (QI below D cI A (wX cI q) post [.ref (q 0)].toArray s) (F0 m 19 ls []) := by
    intro x2_5 K hKK n
    induction n with
    | zero => intro x1_6 x3_7 s_8 H locs ls hw; exact hw.elim
    | succ n ih =>
      intro x1_6 x3_7 s_8 H locs ls hw hC hl
      refine lv_iload_n hx hb dX5_unsure_19 rfl (lv_at hl 3 rfl) ?_
      refine lv_aload_n hx hb dX5_unsure_20 rfl (lv_at hl 0 rfl) ?_
      refine cx_get (v := .ref (q 1)) hx hb hts iX5 hown hK hC 0 rfl rfl 0 (by decide) u1 rfl rfl dX5_unsure_21 ?_
      refine cx_get (v := .int (s_8.1 4)) hx hb hts iX0 hown hK hC 1 rfl rfl 4 (by decide) u2 rfl rfl dX5_unsure_24 ?_
      refine lv_icmp_ge (tgt := 48) hx hb dX5_unsure_27 (by decide) (fun c_9 => ?_) (fun c_9 => ?_)
      · have hw := hw.1 c_9
        exact hKK x1_6 x3_7 s_8 _ _ _ hw hC (lv_sub hl [0, 1, 2, 3] rfl)
      · have hw := hw.2 c_9
        refine lv_aload_n hx hb dX5_unsure_30 rfl (lv_at hl 0 rfl) ?_
        refine lv_iload_n hx hb dX5_unsure_31 rfl (lv_at hl 2 rfl) ?_
        refine lv_iload_n hx hb dX5_unsure_32 rfl (lv_at hl 3 rfl) ?_
        refine cx_callVi0 (As := [.int x2_5, .int x3_7]) (rest := []) ⟨hx, hb, hml, hown, hts⟩ (c_X5_sureOrder l D cI q _ s_8 x2_5 x3_7 _ hw) (cwV 2 hts gX5_unsure_X5_sureOrder rfl rfl rfl (by decide +kernel) ⟨Nat.le_of_ble_eq_true rfl, Nat.le_of_ble_eq_true rfl⟩) hK hC hA 0 rfl rfl rfl rfl hl.1 rfl (Nat.le_of_ble_eq_true rfl) dX5_unsure_33 ⟨Nat.zero_le _, Nat.zero_le _⟩ (fun r_10 u_11 H locs hw hC => ?_)
        refine lv_if_ne (tgt := 42) hx hb dX5_unsure_36 (by decide) (fun c_12 => ?_) (fun c_12 => ?_)
        · have hw := hw.1 c_12
          refine lv_iinc (v := (x3_7 + 1)) (lv' := [(3, .int (x3_7 + 1)), (0, .ref (q 0)), (1, .int x1_6), (2, .int x2_5)]) hx hb dX5_unsure_42 hl (k := 3) rfl rfl (by decide) rfl (fun ls hl => ?_)
          refine lv_goto (tgt := 19) hx hb dX5_unsure_45 (by decide) ?_
          exact ih x1_6 (x3_7 + 1) u_11 _ _ _ hw hC (lv_sub hl [1, 2, 3, 0] rfl)
        · have hw := hw.2 c_12
          refine lv_iinc (v := (x1_6 + 1)) (lv' := [(1, .int (x1_6 + 1)), (0, .ref (q 0)), (2, .int x2_5), (3, .int x3_7)]) hx hb dX5_unsure_39 hl (k := 1) rfl rfl (by decide) rfl (fun ls hl => ?_)
          refine lv_iinc (v := (x3_7 + 1)) (lv' := [(3, .int (x3_7 + 1)), (1, .int (x1_6 + 1)), (0, .ref (q 0)), (2, .int x2_5)]) hx hb dX5_unsure_42 hl (k := 3) rfl rfl (by decide) rfl (fun ls hl => ?_)
          refine lv_goto (tgt := 19) hx hb dX5_unsure_45 (by decide) ?_
          exact ih (x1_6 + 1) (x3_7 + 1) u_11 _ _ _ hw hC (lv_sub hl [2, 1, 3, 0] rfl)
  have L4 : ∀ (K : Int32 → Int32 → St → Prop) (hKK : ∀ (x1_1 : Int32) (x2_2 : Int32) (s_3 : St) (H : Heap) (locs : List Loc) (ls : Array Slot), K x1_1 x2_2 s_3 → Cx D A s.heap (wX cI q s_3) H locs → lv_has ls 4 [(0, .ref (q 0)), (1, .int x1_1), (2, .int x2_2)] → W p l e (Rm 3 69) s m [.ref (q 0)].toArray below meth c H locs 0 0 (QI below D cI A (wX cI q) post [.ref (q 0)].toArray s) (F0 m 54 ls [])) (n : Nat), ∀ (x1_1 : Int32) (x2_2 : Int32) (s_3 : St) (H : Heap) (locs : List Loc) (ls : Array Slot), w_X5_unsure_L4 post K n x1_1 x2_2 s_3 → Cx D A s.heap (wX cI q s_3) H locs → lv_has ls 4 [(0, .ref (q 0)), (1, .int x1_1), (2, .int x2_2)] → W p l e (Rm 3 69) s m [.ref (q 0)].toArray below meth c H locs 0 0 (QI below D cI A (wX cI q) post [.ref (q 0)].toArray s) (F0 m 4 ls []) := by
    intro  K hKK n
    induction n with
    | zero => intro x1_1 x2_2 s_3 H locs ls hw; exact hw.elim
    | succ n ih =>
      intro x1_1 x2_2 s_3 H locs ls hw hC hl
      refine lv_iload_n hx hb dX5_unsure_4 rfl (lv_at hl 2 rfl) ?_
      refine lv_aload_n hx hb dX5_unsure_5 rfl (lv_at hl 0 rfl) ?_
      refine cx_get (v := .ref (q 1)) hx hb hts iX5 hown hK hC 0 rfl rfl 0 (by decide) u1 rfl rfl dX5_unsure_6 ?_
      refine cx_get (v := .int (s_3.1 4)) hx hb hts iX0 hown hK hC 1 rfl rfl 4 (by decide) u2 rfl rfl dX5_unsure_9 ?_
      refine lv_icmp_ge (tgt := 54) hx hb dX5_unsure_12 (by decide) (fun c_4 => ?_) (fun c_4 => ?_)
      · have hw := hw.1 c_4
        exact hKK x1_1 x2_2 s_3 _ _ _ hw hC (lv_sub hl [0, 1, 2] rfl)
      · have hw := hw.2 c_4
        refine lv_iload_n hx hb dX5_unsure_15 rfl (lv_at hl 2 rfl) ?_
        refine lv_iconst (v := 1) hx hb dX5_unsure_16 (by decide) ?_
        refine lv_iadd hx hb dX5_unsure_17 ?_
        refine lv_istore_n (lv' := [(3, .int (x2_2 + 1)), (0, .ref (q 0)), (1, .int x1_1), (2, .int x2_2)]) hx hb dX5_unsure_18 rfl hl (by decide) rfl (fun ls hl => ?_)
        obtain ⟨n, hw⟩ := hw
        refine L19 x2_2 _ (fun x1_13 x3_14 s_15 H locs ls hw hC hl => ?_) n x1_1 (x2_2 + 1) s_3 _ _ _ hw hC (lv_sub hl [1, 2, 3, 0] rfl)
        refine lv_iinc (v := (x2_2 + 1)) (lv' := [(2, .int (x2_2 + 1)), (0, .ref (q 0)), (1, .int x1_13), (3, .int x3_14)]) hx hb dX5_unsure_48 hl (k := 2) rfl rfl (by decide) rfl (fun ls hl => ?_)
        refine lv_goto (tgt := 4) hx hb dX5_unsure_51 (by decide) ?_
        exact ih x1_13 (x2_2 + 1) s_15 _ _ _ hw hC (lv_sub hl [1, 2, 0] rfl)
  refine lv_iconst (v := 0) hx hb dX5_unsure_0 (by decide) ?_
  refine lv_istore_n (lv' := [(1, .int 0), (0, .ref (q 0))]) hx hb dX5_unsure_1 rfl hl (by decide) rfl (fun ls hl => ?_)
  refine lv_iconst (v := 0) hx hb dX5_unsure_2 (by decide) ?_
  refine lv_istore_n (lv' := [(2, .int 0), (1, .int 0), (0, .ref (q 0))]) hx hb dX5_unsure_3 rfl hl (by decide) rfl (fun ls hl => ?_)
  obtain ⟨n, hw⟩ := hw
  refine L4  _ (fun x1_17 x2_18 s_19 H locs ls hw hC hl => ?_) n 0 0 σ _ _ _ hw hC (lv_sub hl [2, 1, 0] rfl)
  refine lv_iload_n hx hb dX5_unsure_54 rfl (lv_at hl 1 rfl) ?_
  exact cx_ret_i (u := s_19) hx hb hr hlocks hK hC hw dX5_unsure_55

/-! PictureHeap.known()I (X5_known) -/
set_option maxHeartbeats 1000000 in
set_option maxRecDepth 100000 in
theorem c_X5_known (l : Launch) (D : va_G) (cI : ClassId) (q : Nat → Nat) (sz : Nat) (σ : St) (post : Int32 → St → Prop) (hw : w_X5_known σ post) : Ci l yX5_known wsX5_known 1 22 D cI (wX cI q σ) sz [.ref (q 0)] (wX cI q) post := by
  refine mo_i (cc := cX5_known) (maxL := 3) (ret := (some .int)) (by decide) rfl (Nat.le_of_ble_eq_true rfl) ?_
  intro p e s m below meth c hx hb hr hml hts hown hlocks hK A hA hC ls hl
  have hown : s.vm.findClass RX5 = some m.cls := hown
  have hl : lv_has ls 3 [(0, .ref (q 0))] := hl
  have u1 : (Cond.fieldLink RX5 37 "PictureHeap" "cameras" "I").before [.ref (q 0)].toArray s = true := hts _ (List.mem_of_getElem? (i := 1) rfl)
  have u2 : (Cond.fieldLink RX5 26 "PictureHeap" "ties" "LPictureHeap$Ties;").before [.ref (q 0)].toArray s = true := hts _ (List.mem_of_getElem? (i := 2) rfl)
  have u3 : (Cond.fieldLink RX5 105 "PictureHeap$Ties" "agreed" "LPictureHeap$Offsets;").before [.ref (q 0)].toArray s = true := hts _ (List.mem_of_getElem? (i := 3) rfl)
  have iX3 : ∀ w ∈ wsX30, w ∈ wsX5_known := fun _ h => List.mem_cons_of_mem _ (List.mem_append_left _ (List.mem_append_right _ h))
  have iX5 : ∀ w ∈ wsX50, w ∈ wsX5_known := fun _ h => List.mem_cons_of_mem _ (List.mem_append_left _ (List.mem_append_left _ (List.mem_append_right _ h)))
  have L4 : ∀ (K : Int32 → Int32 → St → Prop) (hKK : ∀ (x1_1 : Int32) (x2_2 : Int32) (s_3 : St) (H : Heap) (locs : List Loc) (ls : Array Slot), K x1_1 x2_2 s_3 → Cx D A s.heap (wX cI q s_3) H locs → lv_has ls 3 [(0, .ref (q 0)), (1, .int x1_1), (2, .int x2_2)] → W p l e (Rm 1 22) s m [.ref (q 0)].toArray below meth c H locs 0 0 (QI below D cI A (wX cI q) post [.ref (q 0)].toArray s) (F0 m 48 ls [])) (n : Nat), ∀ (x1_1 : Int32) (x2_2 : Int32) (s_3 : St) (H : Heap) (locs : List Loc) (ls : Array Slot), w_X5_known_L4 post K n x1_1 x2_2 s_3 → Cx D A s.heap (wX cI q s_3) H locs → lv_has ls 3 [(0, .ref (q 0)), (1, .int x1_1), (2, .int x2_2)] → W p l e (Rm 1 22) s m [.ref (q 0)].toArray below meth c H locs 0 0 (QI below D cI A (wX cI q) post [.ref (q 0)].toArray s) (F0 m 4 ls []) := by
    intro  K hKK n
    induction n with
    | zero => intro x1_1 x2_2 s_3 H locs ls hw; exact hw.elim
    | succ n ih =>
      intro x1_1 x2_2 s_3 H locs ls hw hC hl
      refine lv_iload_n hx hb dX5_known_4 rfl (lv_at hl 2 rfl) ?_
      refine lv_aload_n hx hb dX5_known_5 rfl (lv_at hl 0 rfl) ?_
      refine cx_get (v := .int (s_3.1 0)) hx hb hts iX5 hown hK hC 0 rfl rfl 4 (by decide) u1 rfl rfl dX5_known_6 ?_
      refine lv_icmp_ge (tgt := 48) hx hb dX5_known_9 (by decide) (fun c_4 => ?_) (fun c_4 => ?_)
      · have hw := hw.1 c_4
        exact hKK x1_1 x2_2 s_3 _ _ _ hw hC (lv_sub hl [0, 1, 2] rfl)
      · have hw := hw.2 c_4
        refine lv_aload_n hx hb dX5_known_12 rfl (lv_at hl 0 rfl) ?_
        refine cx_get (v := .ref (q 3)) hx hb hts iX5 hown hK hC 0 rfl rfl 2 (by decide) u2 rfl rfl dX5_known_13 ?_
        refine cx_get (v := .ref (q 6)) hx hb hts iX3 hown hK hC 3 rfl rfl 8 (by decide) u3 rfl rfl dX5_known_16 ?_
        refine lv_iconst (v := 0) hx hb dX5_known_19 (by decide) ?_
        refine lv_iload_n hx hb dX5_known_20 rfl (lv_at hl 2 rfl) ?_
        refine cx_callVi (As := [.int 0, .int x2_2]) (rest := []) (ws' := fun u_6 => (wX cI q (s_3.1, (va_up s_3.2 16 u_6)))) ⟨hx, hb, hml, hown, hts⟩ (c_X2_least l D cI (q 6) (q 23) _ (s_3.2 16) 0 x2_2 _ hw) (cwV 2 hts gX5_known_X2_least rfl rfl rfl (by decide +kernel) ⟨Nat.le_of_ble_eq_true rfl, Nat.le_of_ble_eq_true rfl⟩) hK hC hA [6, 23] [0, 1, 2, 3, 4, 5, 7, 8, 9, 10, 11, 12, 13, 14, 15, 16, 17, 18, 19, 20, 21, 22] (by decide) rfl (wr := [_, _, _, _, _, _, _, _, _, _, _, _, _, _, _, _, _, _, _, _, _, _]) rfl (by decide) (by decide) 6 rfl rfl rfl rfl hl.1 rfl (Nat.le_of_ble_eq_true rfl) dX5_known_21 ⟨Nat.zero_le _, Nat.zero_le _⟩ [0, 1, 2, 3, 4, 5, 22, 6, 7, 8, 9, 10, 11, 12, 13, 14, 15, 16, 17, 18, 19, 20, 21, 23] (by decide) (fun _ => rfl) (fun r_5 u_6 H locs hw hC => ?_)
        refine lv_aload_n hx hb dX5_known_24 rfl (lv_at hl 0 rfl) ?_
        refine cx_get (v := .ref (q 3)) hx hb hts iX5 hown hK hC 0 rfl rfl 2 (by decide) u2 rfl rfl dX5_known_25 ?_
        refine cx_get (v := .ref (q 6)) hx hb hts iX3 hown hK hC 3 rfl rfl 8 (by decide) u3 rfl rfl dX5_known_28 ?_
        refine lv_iconst (v := 0) hx hb dX5_known_31 (by decide) ?_
        refine lv_iload_n hx hb dX5_known_32 rfl (lv_at hl 2 rfl) ?_
        refine cx_callVi (As := [.int 0, .int x2_2]) (rest := [.int r_5]) (ws' := fun u_8 => (wX cI q (s_3.1, (va_up (va_up s_3.2 16 u_6) 16 u_8)))) ⟨hx, hb, hml, hown, hts⟩ (c_X2_most l D cI (q 6) (q 23) _ (u_6) 0 x2_2 _ hw) (cwV 2 hts gX5_known_X2_most rfl rfl rfl (by decide +kernel) ⟨Nat.le_of_ble_eq_true rfl, Nat.le_of_ble_eq_true rfl⟩) hK hC hA [6, 23] [0, 1, 2, 3, 4, 5, 7, 8, 9, 10, 11, 12, 13, 14, 15, 16, 17, 18, 19, 20, 21, 22] (by decide) rfl (wr := [_, _, _, _, _, _, _, _, _, _, _, _, _, _, _, _, _, _, _, _, _, _]) rfl (by decide) (by decide) 6 rfl rfl rfl rfl hl.1 rfl (Nat.le_of_ble_eq_true rfl) dX5_known_33 ⟨Nat.zero_le _, Nat.zero_le _⟩ [0, 1, 2, 3, 4, 5, 22, 6, 7, 8, 9, 10, 11, 12, 13, 14, 15, 16, 17, 18, 19, 20, 21, 23] (by decide) (fun _ => rfl) (fun r_7 u_8 H locs hw hC => ?_)
        refine lv_icmp_ne (tgt := 42) hx hb dX5_known_36 (by decide) (fun c_9 => ?_) (fun c_9 => ?_)
        · have hw := hw.1 c_9
          refine lv_iinc (v := (x2_2 + 1)) (lv' := [(2, .int (x2_2 + 1)), (0, .ref (q 0)), (1, .int x1_1)]) hx hb dX5_known_42 hl (k := 2) rfl rfl (by decide) rfl (fun ls hl => ?_)
          refine lv_goto (tgt := 4) hx hb dX5_known_45 (by decide) ?_
          exact ih x1_1 (x2_2 + 1) (s_3.1, (va_up (va_up s_3.2 16 u_6) 16 u_8)) _ _ _ hw hC (lv_sub hl [1, 2, 0] rfl)
        · have hw := hw.2 c_9
          refine lv_iinc (v := (x1_1 + 1)) (lv' := [(1, .int (x1_1 + 1)), (0, .ref (q 0)), (2, .int x2_2)]) hx hb dX5_known_39 hl (k := 1) rfl rfl (by decide) rfl (fun ls hl => ?_)
          refine lv_iinc (v := (x2_2 + 1)) (lv' := [(2, .int (x2_2 + 1)), (1, .int (x1_1 + 1)), (0, .ref (q 0))]) hx hb dX5_known_42 hl (k := 2) rfl rfl (by decide) rfl (fun ls hl => ?_)
          refine lv_goto (tgt := 4) hx hb dX5_known_45 (by decide) ?_
          exact ih (x1_1 + 1) (x2_2 + 1) (s_3.1, (va_up (va_up s_3.2 16 u_6) 16 u_8)) _ _ _ hw hC (lv_sub hl [2, 1, 0] rfl)
  refine lv_iconst (v := 0) hx hb dX5_known_0 (by decide) ?_
  refine lv_istore_n (lv' := [(1, .int 0), (0, .ref (q 0))]) hx hb dX5_known_1 rfl hl (by decide) rfl (fun ls hl => ?_)
  refine lv_iconst (v := 0) hx hb dX5_known_2 (by decide) ?_
  refine lv_istore_n (lv' := [(2, .int 0), (1, .int 0), (0, .ref (q 0))]) hx hb dX5_known_3 rfl hl (by decide) rfl (fun ls hl => ?_)
  obtain ⟨n, hw⟩ := hw
  refine L4  _ (fun x1_10 x2_11 s_12 H locs ls hw hC hl => ?_) n 0 0 σ _ _ _ hw hC (lv_sub hl [2, 1, 0] rfl)
  refine lv_iload_n hx hb dX5_known_48 rfl (lv_at hl 1 rfl) ?_
  exact cx_ret_i (u := s_12) hx hb hr hlocks hK hC hw dX5_known_49

/-! PictureHeap.put()I (X5_put) -/
set_option maxHeartbeats 1000000 in
set_option maxRecDepth 100000 in
theorem c_X5_put (l : Launch) (D : va_G) (cI : ClassId) (q : Nat → Nat) (sz : Nat) (σ : St) (post : Int32 → St → Prop) (hw : w_X5_put σ post) : Ci l yX5_put wsX5_put 2 48 D cI (wX cI q σ) sz [.ref (q 0)] (wX cI q) post := by
  refine mo_i (cc := cX5_put) (maxL := 1) (ret := (some .int)) (by decide) rfl (Nat.le_of_ble_eq_true rfl) ?_
  intro p e s m below meth c hx hb hr hml hts hown hlocks hK A hA hC ls hl
  have hown : s.vm.findClass RX5 = some m.cls := hown
  have hl : lv_has ls 1 [(0, .ref (q 0))] := hl
  have u1 : (Cond.fieldLink RX5 33 "PictureHeap" "timeline" "LPictureHeap$Timeline;").before [.ref (q 0)].toArray s = true := hts _ (List.mem_of_getElem? (i := 1) rfl)
  have u2 : (Cond.fieldLink RX5 37 "PictureHeap" "cameras" "I").before [.ref (q 0)].toArray s = true := hts _ (List.mem_of_getElem? (i := 2) rfl)
  have u3 : (Cond.fieldLink RX5 26 "PictureHeap" "ties" "LPictureHeap$Ties;").before [.ref (q 0)].toArray s = true := hts _ (List.mem_of_getElem? (i := 3) rfl)
  have u4 : (Cond.fieldLink RX5 105 "PictureHeap$Ties" "agreed" "LPictureHeap$Offsets;").before [.ref (q 0)].toArray s = true := hts _ (List.mem_of_getElem? (i := 4) rfl)
  have u5 : (Cond.fieldLink RX5 10 "PictureHeap" "album" "LPictureHeap$Album;").before [.ref (q 0)].toArray s = true := hts _ (List.mem_of_getElem? (i := 5) rfl)
  have u6 : (Cond.fieldLink RX5 135 "PictureHeap$Timeline" "size" "I").before [.ref (q 0)].toArray s = true := hts _ (List.mem_of_getElem? (i := 6) rfl)
  have iX3 : ∀ w ∈ wsX30, w ∈ wsX5_put := fun _ h => List.mem_cons_of_mem _ (List.mem_append_left _ (List.mem_append_left _ (List.mem_append_left _ (List.mem_append_right _ h))))
  have iX4 : ∀ w ∈ wsX40, w ∈ wsX5_put := fun _ h => List.mem_cons_of_mem _ (List.mem_append_left _ (List.mem_append_left _ (List.mem_append_right _ h)))
  have iX5 : ∀ w ∈ wsX50, w ∈ wsX5_put := fun _ h => List.mem_cons_of_mem _ (List.mem_append_left _ (List.mem_append_left _ (List.mem_append_left _ (List.mem_append_left _ (List.mem_append_right _ h)))))
  refine lv_aload_n hx hb dX5_put_0 rfl (lv_at hl 0 rfl) ?_
  refine cx_get (v := .ref (q 4)) hx hb hts iX5 hown hK hC 0 rfl rfl 3 (by decide) u1 rfl rfl dX5_put_1 ?_
  refine lv_aload_n hx hb dX5_put_4 rfl (lv_at hl 0 rfl) ?_
  refine cx_get (v := .int (σ.1 0)) hx hb hts iX5 hown hK hC 0 rfl rfl 4 (by decide) u2 rfl rfl dX5_put_5 ?_
  refine lv_aload_n hx hb dX5_put_8 rfl (lv_at hl 0 rfl) ?_
  refine cx_get (v := .ref (q 3)) hx hb hts iX5 hown hK hC 0 rfl rfl 2 (by decide) u3 rfl rfl dX5_put_9 ?_
  refine cx_get (v := .ref (q 6)) hx hb hts iX3 hown hK hC 3 rfl rfl 8 (by decide) u4 rfl rfl dX5_put_12 ?_
  refine cx_callVv0 (As := [.int (σ.1 0), .ref (q 6)]) (rest := []) ⟨hx, hb, hml, hown, hts⟩ (c_X4_settle_a6 l D cI q _ σ (σ.1 0) _ hw) (cwV 2 hts gX5_put_X4_settle rfl rfl rfl (by decide +kernel) ⟨Nat.le_of_ble_eq_true rfl, Nat.le_of_ble_eq_true rfl⟩) hK hC hA 4 rfl rfl rfl rfl hl.1 rfl (Nat.le_of_ble_eq_true rfl) dX5_put_15 ⟨Nat.zero_le _, Nat.zero_le _⟩ (fun u_2 H locs hw hC => ?_)
  refine lv_aload_n hx hb dX5_put_18 rfl (lv_at hl 0 rfl) ?_
  refine cx_get (v := .ref (q 4)) hx hb hts iX5 hown hK hC 0 rfl rfl 3 (by decide) u1 rfl rfl dX5_put_19 ?_
  refine lv_aload_n hx hb dX5_put_22 rfl (lv_at hl 0 rfl) ?_
  refine cx_get (v := .ref (q 1)) hx hb hts iX5 hown hK hC 0 rfl rfl 0 (by decide) u5 rfl rfl dX5_put_23 ?_
  refine cx_callVv0 (As := [.ref (q 1)]) (rest := []) ⟨hx, hb, hml, hown, hts⟩ (c_X4_line l D cI q _ u_2  _ hw) (cwV 1 hts gX5_put_X4_line rfl rfl rfl (by decide +kernel) ⟨Nat.le_of_ble_eq_true rfl, Nat.le_of_ble_eq_true rfl⟩) hK hC hA 4 rfl rfl rfl rfl hl.1 rfl (Nat.le_of_ble_eq_true rfl) dX5_put_26 ⟨Nat.zero_le _, Nat.zero_le _⟩ (fun u_4 H locs hw hC => ?_)
  refine lv_aload_n hx hb dX5_put_29 rfl (lv_at hl 0 rfl) ?_
  refine cx_get (v := .ref (q 4)) hx hb hts iX5 hown hK hC 0 rfl rfl 3 (by decide) u1 rfl rfl dX5_put_30 ?_
  refine cx_get (v := .int (u_4.1 9)) hx hb hts iX4 hown hK hC 4 rfl rfl 4 (by decide) u6 rfl rfl dX5_put_33 ?_
  exact cx_ret_i (u := u_4) hx hb hr hlocks hK hC hw dX5_put_36

/-! PictureHeap.offset(I)I (X5_offset) -/
set_option maxHeartbeats 1000000 in
set_option maxRecDepth 100000 in
theorem c_X5_offset (l : Launch) (D : va_G) (cI : ClassId) (q : Nat → Nat) (sz : Nat) (σ : St) (x1 : Int32) (post : Int32 → St → Prop) (hw : w_X5_offset σ x1 post) : Ci l yX5_offset wsX5_offset 1 21 D cI (wX cI q σ) sz [.ref (q 0), .int x1] (wX cI q) post := by
  refine mo_i (cc := cX5_offset) (maxL := 2) (ret := (some .int)) (by decide) rfl (Nat.le_of_ble_eq_true rfl) ?_
  intro p e s m below meth c hx hb hr hml hts hown hlocks hK A hA hC ls hl
  have hown : s.vm.findClass RX5 = some m.cls := hown
  have hl : lv_has ls 2 [(0, .ref (q 0)), (1, .int x1)] := hl
  have u1 : (Cond.fieldLink RX5 33 "PictureHeap" "timeline" "LPictureHeap$Timeline;").before [.ref (q 0), .int x1].toArray s = true := hts _ (List.mem_of_getElem? (i := 1) rfl)
  have u3 : (Cond.constant RX5 104 (-1000000)).before [.ref (q 0), .int x1].toArray s = true := hts _ (List.mem_of_getElem? (i := 3) rfl)
  have u2 : (Cond.fieldLink RX5 137 "PictureHeap$Timeline" "offsetOf" "[I").before [.ref (q 0), .int x1].toArray s = true := hts _ (List.mem_of_getElem? (i := 2) rfl)
  have iX4 : ∀ w ∈ wsX40, w ∈ wsX5_offset := fun _ h => List.mem_cons_of_mem _ (List.mem_append_right _ h)
  have iX5 : ∀ w ∈ wsX50, w ∈ wsX5_offset := fun _ h => List.mem_cons_of_mem _ (List.mem_append_left _ (List.mem_append_right _ h))
  refine lv_aload_n hx hb dX5_offset_0 rfl (lv_at hl 0 rfl) ?_
  refine cx_get (v := .ref (q 4)) hx hb hts iX5 hown hK hC 0 rfl rfl 3 (by decide) u1 rfl rfl dX5_offset_1 ?_
  refine lv_iload_n hx hb dX5_offset_4 rfl (lv_at hl 1 rfl) ?_
  refine cx_callVi0 (As := [.int x1]) (rest := []) ⟨hx, hb, hml, hown, hts⟩ (c_X4_hasCamera l D cI q _ σ x1 _ hw) (cwV 1 hts gX5_offset_X4_hasCamera rfl rfl rfl (by decide +kernel) ⟨Nat.le_of_ble_eq_true rfl, Nat.le_of_ble_eq_true rfl⟩) hK hC hA 4 rfl rfl rfl rfl hl.1 rfl (Nat.le_of_ble_eq_true rfl) dX5_offset_5 ⟨Nat.zero_le _, Nat.zero_le _⟩ (fun r_1 u_2 H locs hw hC => ?_)
  refine lv_if_eq (tgt := 23) hx hb dX5_offset_8 (by decide) (fun c_3 => ?_) (fun c_3 => ?_)
  · have hw := hw.1 c_3
    refine lv_ldc (v := (-1000000)) hx hb hown u3 dX5_offset_23 ?_
    exact cx_ret_i (u := u_2) hx hb hr hlocks hK hC hw dX5_offset_25
  · have hw := hw.2 c_3
    refine lv_aload_n hx hb dX5_offset_11 rfl (lv_at hl 0 rfl) ?_
    refine cx_get (v := .ref (q 4)) hx hb hts iX5 hown hK hC 0 rfl rfl 3 (by decide) u1 rfl rfl dX5_offset_12 ?_
    refine cx_get (v := .ref (q 19)) hx hb hts iX4 hown hK hC 4 rfl rfl 0 (by decide) u2 rfl rfl dX5_offset_15 ?_
    refine lv_iload_n hx hb dX5_offset_18 rfl (lv_at hl 1 rfl) ?_
    refine cx_iald (f := u_2.2 12) hx hb hK hC 19 rfl hw.1 dX5_offset_19 ?_
    have hw := hw.2
    refine lv_goto (tgt := 25) hx hb dX5_offset_20 (by decide) ?_
    exact cx_ret_i (u := u_2) hx hb hr hlocks hK hC hw dX5_offset_25

/-! PictureHeap.time(I)I (X5_time) -/
set_option maxHeartbeats 1000000 in
set_option maxRecDepth 100000 in
theorem c_X5_time (l : Launch) (D : va_G) (cI : ClassId) (q : Nat → Nat) (sz : Nat) (σ : St) (x1 : Int32) (post : Int32 → St → Prop) (hw : w_X5_time σ x1 post) : Ci l yX5_time wsX5_time 1 21 D cI (wX cI q σ) sz [.ref (q 0), .int x1] (wX cI q) post := by
  refine mo_i (cc := cX5_time) (maxL := 2) (ret := (some .int)) (by decide) rfl (Nat.le_of_ble_eq_true rfl) ?_
  intro p e s m below meth c hx hb hr hml hts hown hlocks hK A hA hC ls hl
  have hown : s.vm.findClass RX5 = some m.cls := hown
  have hl : lv_has ls 2 [(0, .ref (q 0)), (1, .int x1)] := hl
  have u1 : (Cond.fieldLink RX5 33 "PictureHeap" "timeline" "LPictureHeap$Timeline;").before [.ref (q 0), .int x1].toArray s = true := hts _ (List.mem_of_getElem? (i := 1) rfl)
  have u3 : (Cond.constant RX5 104 (-1000000)).before [.ref (q 0), .int x1].toArray s = true := hts _ (List.mem_of_getElem? (i := 3) rfl)
  have u2 : (Cond.fieldLink RX5 151 "PictureHeap$Timeline" "timeOf" "[I").before [.ref (q 0), .int x1].toArray s = true := hts _ (List.mem_of_getElem? (i := 2) rfl)
  have iX4 : ∀ w ∈ wsX40, w ∈ wsX5_time := fun _ h => List.mem_cons_of_mem _ (List.mem_append_right _ h)
  have iX5 : ∀ w ∈ wsX50, w ∈ wsX5_time := fun _ h => List.mem_cons_of_mem _ (List.mem_append_left _ (List.mem_append_right _ h))
  refine lv_aload_n hx hb dX5_time_0 rfl (lv_at hl 0 rfl) ?_
  refine cx_get (v := .ref (q 4)) hx hb hts iX5 hown hK hC 0 rfl rfl 3 (by decide) u1 rfl rfl dX5_time_1 ?_
  refine lv_iload_n hx hb dX5_time_4 rfl (lv_at hl 1 rfl) ?_
  refine cx_callVi0 (As := [.int x1]) (rest := []) ⟨hx, hb, hml, hown, hts⟩ (c_X4_has l D cI q _ σ x1 _ hw) (cwV 1 hts gX5_time_X4_has rfl rfl rfl (by decide +kernel) ⟨Nat.le_of_ble_eq_true rfl, Nat.le_of_ble_eq_true rfl⟩) hK hC hA 4 rfl rfl rfl rfl hl.1 rfl (Nat.le_of_ble_eq_true rfl) dX5_time_5 ⟨Nat.zero_le _, Nat.zero_le _⟩ (fun r_1 u_2 H locs hw hC => ?_)
  refine lv_if_eq (tgt := 23) hx hb dX5_time_8 (by decide) (fun c_3 => ?_) (fun c_3 => ?_)
  · have hw := hw.1 c_3
    refine lv_ldc (v := (-1000000)) hx hb hown u3 dX5_time_23 ?_
    exact cx_ret_i (u := u_2) hx hb hr hlocks hK hC hw dX5_time_25
  · have hw := hw.2 c_3
    refine lv_aload_n hx hb dX5_time_11 rfl (lv_at hl 0 rfl) ?_
    refine cx_get (v := .ref (q 4)) hx hb hts iX5 hown hK hC 0 rfl rfl 3 (by decide) u1 rfl rfl dX5_time_12 ?_
    refine cx_get (v := .ref (q 20)) hx hb hts iX4 hown hK hC 4 rfl rfl 1 (by decide) u2 rfl rfl dX5_time_15 ?_
    refine lv_iload_n hx hb dX5_time_18 rfl (lv_at hl 1 rfl) ?_
    refine cx_iald (f := u_2.2 13) hx hb hK hC 20 rfl hw.1 dX5_time_19 ?_
    have hw := hw.2
    refine lv_goto (tgt := 25) hx hb dX5_time_20 (by decide) ?_
    exact cx_ret_i (u := u_2) hx hb hr hlocks hK hC hw dX5_time_25

/-! PictureHeap.days()I (X5_days) -/
set_option maxHeartbeats 1000000 in
set_option maxRecDepth 100000 in
theorem c_X5_days (l : Launch) (D : va_G) (cI : ClassId) (q : Nat → Nat) (sz : Nat) (σ : St) (post : Int32 → St → Prop) (hw : w_X5_days σ post) : Ci l yX5_days wsX5_days 3 67 D cI (wX cI q σ) sz [.ref (q 0)] (wX cI q) post := by
  refine mo_i (cc := cX5_days) (maxL := 1) (ret := (some .int)) (by decide) rfl (Nat.le_of_ble_eq_true rfl) ?_
  intro p e s m below meth c hx hb hr hml hts hown hlocks hK A hA hC ls hl
  have hown : s.vm.findClass RX5 = some m.cls := hown
  have hl : lv_has ls 1 [(0, .ref (q 0))] := hl
  have u1 : (Cond.fieldLink RX5 33 "PictureHeap" "timeline" "LPictureHeap$Timeline;").before [.ref (q 0)].toArray s = true := hts _ (List.mem_of_getElem? (i := 1) rfl)
  have u2 : (Cond.fieldLink RX5 154 "PictureHeap$Timeline" "isPut" "Z").before [.ref (q 0)].toArray s = true := hts _ (List.mem_of_getElem? (i := 2) rfl)
  have u3 : (Cond.fieldLink RX5 41 "PictureHeap" "dayGap" "I").before [.ref (q 0)].toArray s = true := hts _ (List.mem_of_getElem? (i := 3) rfl)
  have iX4 : ∀ w ∈ wsX40, w ∈ wsX5_days := fun _ h => List.mem_cons_of_mem _ (List.mem_append_right _ h)
  have iX5 : ∀ w ∈ wsX50, w ∈ wsX5_days := fun _ h => List.mem_cons_of_mem _ (List.mem_append_left _ (List.mem_append_right _ h))
  refine lv_aload_n hx hb dX5_days_0 rfl (lv_at hl 0 rfl) ?_
  refine cx_get (v := .ref (q 4)) hx hb hts iX5 hown hK hC 0 rfl rfl 3 (by decide) u1 rfl rfl dX5_days_1 ?_
  refine cx_get (v := .int (σ.1 8)) hx hb hts iX4 hown hK hC 4 rfl rfl 3 (by decide) u2 rfl rfl dX5_days_4 ?_
  refine lv_if_eq (tgt := 24) hx hb dX5_days_7 (by decide) (fun c_1 => ?_) (fun c_1 => ?_)
  · have hw := hw.1 c_1
    refine lv_iconst (v := (-1)) hx hb dX5_days_24 (by decide) ?_
    exact cx_ret_i (u := σ) hx hb hr hlocks hK hC hw dX5_days_25
  · have hw := hw.2 c_1
    refine lv_aload_n hx hb dX5_days_10 rfl (lv_at hl 0 rfl) ?_
    refine cx_get (v := .ref (q 4)) hx hb hts iX5 hown hK hC 0 rfl rfl 3 (by decide) u1 rfl rfl dX5_days_11 ?_
    refine lv_aload_n hx hb dX5_days_14 rfl (lv_at hl 0 rfl) ?_
    refine cx_get (v := .int (σ.1 1)) hx hb hts iX5 hown hK hC 0 rfl rfl 5 (by decide) u3 rfl rfl dX5_days_15 ?_
    refine cx_callVi0 (As := [.int (σ.1 1)]) (rest := []) ⟨hx, hb, hml, hown, hts⟩ (c_X4_dayTally l D cI q _ σ (σ.1 1) _ hw) (cwV 1 hts gX5_days_X4_dayTally rfl rfl rfl (by decide +kernel) ⟨Nat.le_of_ble_eq_true rfl, Nat.le_of_ble_eq_true rfl⟩) hK hC hA 4 rfl rfl rfl rfl hl.1 rfl (Nat.le_of_ble_eq_true rfl) dX5_days_18 ⟨Nat.zero_le _, Nat.zero_le _⟩ (fun r_2 u_3 H locs hw hC => ?_)
    refine lv_goto (tgt := 25) hx hb dX5_days_21 (by decide) ?_
    exact cx_ret_i (u := u_3) hx hb hr hlocks hK hC hw dX5_days_25

/-! PictureHeap.day(II)I (X5_day) -/
set_option maxHeartbeats 1000000 in
set_option maxRecDepth 100000 in
theorem c_X5_day (l : Launch) (D : va_G) (cI : ClassId) (q : Nat → Nat) (sz : Nat) (σ : St) (x1 : Int32) (x2 : Int32) (post : Int32 → St → Prop) (hw : w_X5_day σ x1 x2 post) : Ci l yX5_day wsX5_day 3 68 D cI (wX cI q σ) sz [.ref (q 0), .int x1, .int x2] (wX cI q) post := by
  refine mo_i (cc := cX5_day) (maxL := 5) (ret := (some .int)) (by decide) rfl (Nat.le_of_ble_eq_true rfl) ?_
  intro p e s m below meth c hx hb hr hml hts hown hlocks hK A hA hC ls hl
  have hown : s.vm.findClass RX5 = some m.cls := hown
  have hl : lv_has ls 5 [(0, .ref (q 0)), (1, .int x1), (2, .int x2)] := hl
  have u1 : (Cond.fieldLink RX5 33 "PictureHeap" "timeline" "LPictureHeap$Timeline;").before [.ref (q 0), .int x1, .int x2].toArray s = true := hts _ (List.mem_of_getElem? (i := 1) rfl)
  have u2 : (Cond.fieldLink RX5 41 "PictureHeap" "dayGap" "I").before [.ref (q 0), .int x1, .int x2].toArray s = true := hts _ (List.mem_of_getElem? (i := 2) rfl)
  have iX5 : ∀ w ∈ wsX50, w ∈ wsX5_day := fun _ h => List.mem_cons_of_mem _ (List.mem_append_left _ (List.mem_append_right _ h))
  refine lv_iload_n hx hb dX5_day_0 rfl (lv_at hl 1 rfl) ?_
  refine lv_if_ge (tgt := 6) hx hb dX5_day_1 (by decide) (fun c_1 => ?_) (fun c_1 => ?_)
  · have hw := hw.1 c_1
    refine lv_aload_n hx hb dX5_day_6 rfl (lv_at hl 0 rfl) ?_
    refine cx_get (v := .ref (q 4)) hx hb hts iX5 hown hK hC 0 rfl rfl 3 (by decide) u1 rfl rfl dX5_day_7 ?_
    refine lv_iload_n hx hb dX5_day_10 rfl (lv_at hl 1 rfl) ?_
    refine lv_aload_n hx hb dX5_day_11 rfl (lv_at hl 0 rfl) ?_
    refine cx_get (v := .int (σ.1 1)) hx hb hts iX5 hown hK hC 0 rfl rfl 5 (by decide) u2 rfl rfl dX5_day_12 ?_
    refine cx_callVi0 (As := [.int x1, .int (σ.1 1)]) (rest := []) ⟨hx, hb, hml, hown, hts⟩ (c_X4_startOfDay l D cI q _ σ x1 (σ.1 1) _ hw) (cwV 2 hts gX5_day_X4_startOfDay rfl rfl rfl (by decide +kernel) ⟨Nat.le_of_ble_eq_true rfl, Nat.le_of_ble_eq_true rfl⟩) hK hC hA 4 rfl rfl rfl rfl hl.1 rfl (Nat.le_of_ble_eq_true rfl) dX5_day_15 ⟨Nat.zero_le _, Nat.zero_le _⟩ (fun r_2 u_3 H locs hw hC => ?_)
    refine lv_istore_n (lv' := [(3, .int r_2), (0, .ref (q 0)), (1, .int x1), (2, .int x2)]) hx hb dX5_day_18 rfl hl (by decide) rfl (fun ls hl => ?_)
    refine lv_iload_n hx hb dX5_day_19 rfl (lv_at hl 0 rfl) ?_
    refine lv_iconst (v := (-1)) hx hb dX5_day_20 (by decide) ?_
    refine lv_icmp_ne (tgt := 26) hx hb dX5_day_21 (by decide) (fun c_4 => ?_) (fun c_4 => ?_)
    · have hw := hw.1 c_4
      refine lv_aload_n hx hb dX5_day_26 rfl (lv_at hl 1 rfl) ?_
      refine cx_get (v := .ref (q 4)) hx hb hts iX5 hown hK hC 0 rfl rfl 3 (by decide) u1 rfl rfl dX5_day_27 ?_
      refine lv_iload_n hx hb dX5_day_30 rfl (lv_at hl 0 rfl) ?_
      refine lv_aload_n hx hb dX5_day_31 rfl (lv_at hl 1 rfl) ?_
      refine cx_get (v := .int (u_3.1 1)) hx hb hts iX5 hown hK hC 0 rfl rfl 5 (by decide) u2 rfl rfl dX5_day_32 ?_
      refine cx_callVi0 (As := [.int r_2, .int (u_3.1 1)]) (rest := []) ⟨hx, hb, hml, hown, hts⟩ (c_X4_endOfDay l D cI q _ u_3 r_2 (u_3.1 1) _ hw) (cwV 2 hts gX5_day_X4_endOfDay rfl rfl rfl (by decide +kernel) ⟨Nat.le_of_ble_eq_true rfl, Nat.le_of_ble_eq_true rfl⟩) hK hC hA 4 rfl rfl rfl rfl hl.1 rfl (Nat.le_of_ble_eq_true rfl) dX5_day_35 ⟨Nat.zero_le _, Nat.zero_le _⟩ (fun r_5 u_6 H locs hw hC => ?_)
      refine lv_istore (lv' := [(4, .int r_5), (3, .int r_2), (0, .ref (q 0)), (1, .int x1), (2, .int x2)]) hx hb dX5_day_38 hl (by decide) rfl (fun ls hl => ?_)
      refine lv_iload_n hx hb dX5_day_40 rfl (lv_at hl 4 rfl) ?_
      rcases sw_3 x2 with c0 | c0 | c0 | c0
      · refine lv_tableOut (tgt := 88) hx hb dX5_day_41 c0 (by decide) ?_
        have hw := hw.1 c0
        refine lv_iconst (v := (-1)) hx hb dX5_day_88 (by decide) ?_
        exact cx_ret_i (u := u_6) hx hb hr hlocks hK hC hw dX5_day_89
      · refine lv_tableIn (off := 27) (tgt := 68) hx hb dX5_day_41 (by rw [c0]; decide) (by rw [c0]; decide) (by rw [c0]; rfl) (by decide) ?_
        have hw := hw.2.1 c0
        refine lv_iload_n hx hb dX5_day_68 rfl (lv_at hl 1 rfl) ?_
        exact cx_ret_i (u := u_6) hx hb hr hlocks hK hC hw dX5_day_69
      · refine lv_tableIn (off := 29) (tgt := 70) hx hb dX5_day_41 (by rw [c0]; decide) (by rw [c0]; decide) (by rw [c0]; rfl) (by decide) ?_
        have hw := hw.2.2.1 c0
        refine lv_iload hx hb dX5_day_70 (lv_at hl 0 rfl) ?_
        refine lv_iload_n hx hb dX5_day_72 rfl (lv_at hl 1 rfl) ?_
        refine lv_isub hx hb dX5_day_73 ?_
        refine lv_iconst (v := 1) hx hb dX5_day_74 (by decide) ?_
        refine lv_iadd hx hb dX5_day_75 ?_
        exact cx_ret_i (u := u_6) hx hb hr hlocks hK hC hw dX5_day_76
      · refine lv_tableIn (off := 36) (tgt := 77) hx hb dX5_day_41 (by rw [c0]; decide) (by rw [c0]; decide) (by rw [c0]; rfl) (by decide) ?_
        have hw := hw.2.2.2 c0
        refine lv_aload_n hx hb dX5_day_77 rfl (lv_at hl 2 rfl) ?_
        refine cx_get (v := .ref (q 4)) hx hb hts iX5 hown hK hC 0 rfl rfl 3 (by decide) u1 rfl rfl dX5_day_78 ?_
        refine lv_iload_n hx hb dX5_day_81 rfl (lv_at hl 1 rfl) ?_
        refine lv_iload hx hb dX5_day_82 (lv_at hl 0 rfl) ?_
        refine cx_callVi0 (As := [.int r_2, .int r_5]) (rest := []) ⟨hx, hb, hml, hown, hts⟩ (c_X4_minutesFrom l D cI q _ u_6 r_2 r_5 _ hw) (cwV 2 hts gX5_day_X4_minutesFrom rfl rfl rfl (by decide +kernel) ⟨Nat.le_of_ble_eq_true rfl, Nat.le_of_ble_eq_true rfl⟩) hK hC hA 4 rfl rfl rfl rfl hl.1 rfl (Nat.le_of_ble_eq_true rfl) dX5_day_84 ⟨Nat.zero_le _, Nat.zero_le _⟩ (fun r_7 u_8 H locs hw hC => ?_)
        exact cx_ret_i (u := u_8) hx hb hr hlocks hK hC hw dX5_day_87
    · have hw := hw.2 c_4
      refine lv_iconst (v := (-1)) hx hb dX5_day_24 (by decide) ?_
      exact cx_ret_i (u := u_3) hx hb hr hlocks hK hC hw dX5_day_25
  · have hw := hw.2 c_1
    refine lv_iconst (v := (-1)) hx hb dX5_day_4 (by decide) ?_
    exact cx_ret_i (u := σ) hx hb hr hlocks hK hC hw dX5_day_5

/-! PictureHeap.bursts()I (X5_bursts) -/
set_option maxHeartbeats 1000000 in
set_option maxRecDepth 100000 in
theorem c_X5_bursts (l : Launch) (D : va_G) (cI : ClassId) (q : Nat → Nat) (sz : Nat) (σ : St) (post : Int32 → St → Prop) (hw : w_X5_bursts σ post) : Ci l yX5_bursts wsX5_bursts 3 70 D cI (wX cI q σ) sz [.ref (q 0)] (wX cI q) post := by
  refine mo_i (cc := cX5_bursts) (maxL := 3) (ret := (some .int)) (by decide) rfl (Nat.le_of_ble_eq_true rfl) ?_
  intro p e s m below meth c hx hb hr hml hts hown hlocks hK A hA hC ls hl
  have hown : s.vm.findClass RX5 = some m.cls := hown
  have hl : lv_has ls 3 [(0, .ref (q 0))] := hl
  have u1 : (Cond.fieldLink RX5 33 "PictureHeap" "timeline" "LPictureHeap$Timeline;").before [.ref (q 0)].toArray s = true := hts _ (List.mem_of_getElem? (i := 1) rfl)
  have u2 : (Cond.fieldLink RX5 154 "PictureHeap$Timeline" "isPut" "Z").before [.ref (q 0)].toArray s = true := hts _ (List.mem_of_getElem? (i := 2) rfl)
  have u3 : (Cond.fieldLink RX5 135 "PictureHeap$Timeline" "size" "I").before [.ref (q 0)].toArray s = true := hts _ (List.mem_of_getElem? (i := 3) rfl)
  have u4 : (Cond.fieldLink RX5 10 "PictureHeap" "album" "LPictureHeap$Album;").before [.ref (q 0)].toArray s = true := hts _ (List.mem_of_getElem? (i := 4) rfl)
  have iX4 : ∀ w ∈ wsX40, w ∈ wsX5_bursts := fun _ h => List.mem_cons_of_mem _ (List.mem_append_left _ (List.mem_append_right _ h))
  have iX5 : ∀ w ∈ wsX50, w ∈ wsX5_bursts := fun _ h => List.mem_cons_of_mem _ (List.mem_append_left _ (List.mem_append_left _ (List.mem_append_right _ h)))
  have L16 : ∀ (K : Int32 → Int32 → St → Prop) (hKK : ∀ (x1_2 : Int32) (x2_3 : Int32) (s_4 : St) (H : Heap) (locs : List Loc) (ls : Array Slot), K x1_2 x2_3 s_4 → Cx D A s.heap (wX cI q s_4) H locs → lv_has ls 3 [(0, .ref (q 0)), (1, .int x1_2), (2, .int x2_3)] → W p l e (Rm 3 70) s m [.ref (q 0)].toArray below meth c H locs 0 0 (QI below D cI A (wX cI q) post [.ref (q 0)].toArray s) (F0 m 52 ls [])) (n : Nat), ∀ (x1_2 : Int32) (x2_3 : Int32) (s_4 : St) (H : Heap) (locs : List Loc) (ls : Array Slot), w_X5_bursts_L16 post K n x1_2 x2_3 s_4 → Cx D A s.heap (wX cI q s_4) H locs → lv_has ls 3 [(0, .ref (q 0)), (1, .int x1_2), (2, .int x2_3)] → W p l e (Rm 3 70) s m [.ref (q 0)].toArray below meth c H locs 0 0 (QI below D cI A (wX cI q) post [.ref (q 0)].toArray s) (F0 m 16 ls []) := by
    intro  K hKK n
    induction n with
    | zero => intro x1_2 x2_3 s_4 H locs ls hw; exact hw.elim
    | succ n ih =>
      intro x1_2 x2_3 s_4 H locs ls hw hC hl
      refine lv_iload_n hx hb dX5_bursts_16 rfl (lv_at hl 2 rfl) ?_
      refine lv_aload_n hx hb dX5_bursts_17 rfl (lv_at hl 0 rfl) ?_
      refine cx_get (v := .ref (q 4)) hx hb hts iX5 hown hK hC 0 rfl rfl 3 (by decide) u1 rfl rfl dX5_bursts_18 ?_
      refine cx_get (v := .int (s_4.1 9)) hx hb hts iX4 hown hK hC 4 rfl rfl 4 (by decide) u3 rfl rfl dX5_bursts_21 ?_
      refine lv_icmp_ge (tgt := 52) hx hb dX5_bursts_24 (by decide) (fun c_5 => ?_) (fun c_5 => ?_)
      · have hw := hw.1 c_5
        exact hKK x1_2 x2_3 s_4 _ _ _ hw hC (lv_sub hl [0, 1, 2] rfl)
      · have hw := hw.2 c_5
        refine lv_aload_n hx hb dX5_bursts_27 rfl (lv_at hl 0 rfl) ?_
        refine cx_get (v := .ref (q 4)) hx hb hts iX5 hown hK hC 0 rfl rfl 3 (by decide) u1 rfl rfl dX5_bursts_28 ?_
        refine lv_iload_n hx hb dX5_bursts_31 rfl (lv_at hl 2 rfl) ?_
        refine lv_aload_n hx hb dX5_bursts_32 rfl (lv_at hl 0 rfl) ?_
        refine cx_get (v := .ref (q 1)) hx hb hts iX5 hown hK hC 0 rfl rfl 0 (by decide) u4 rfl rfl dX5_bursts_33 ?_
        refine cx_callVi0 (As := [.int x2_3, .ref (q 1)]) (rest := []) ⟨hx, hb, hml, hown, hts⟩ (c_X4_burstLengthAt l D cI q _ s_4 x2_3 _ hw) (cwV 2 hts gX5_bursts_X4_burstLengthAt rfl rfl rfl (by decide +kernel) ⟨Nat.le_of_ble_eq_true rfl, Nat.le_of_ble_eq_true rfl⟩) hK hC hA 4 rfl rfl rfl rfl hl.1 rfl (Nat.le_of_ble_eq_true rfl) dX5_bursts_36 ⟨Nat.zero_le _, Nat.zero_le _⟩ (fun r_6 u_7 H locs hw hC => ?_)
        refine lv_iconst (v := 2) hx hb dX5_bursts_39 (by decide) ?_
        refine lv_icmp_ne (tgt := 46) hx hb dX5_bursts_40 (by decide) (fun c_8 => ?_) (fun c_8 => ?_)
        · have hw := hw.1 c_8
          refine lv_iinc (v := (x2_3 + 1)) (lv' := [(2, .int (x2_3 + 1)), (0, .ref (q 0)), (1, .int x1_2)]) hx hb dX5_bursts_46 hl (k := 2) rfl rfl (by decide) rfl (fun ls hl => ?_)
          refine lv_goto (tgt := 16) hx hb dX5_bursts_49 (by decide) ?_
          exact ih x1_2 (x2_3 + 1) u_7 _ _ _ hw hC (lv_sub hl [1, 2, 0] rfl)
        · have hw := hw.2 c_8
          refine lv_iinc (v := (x1_2 + 1)) (lv' := [(1, .int (x1_2 + 1)), (0, .ref (q 0)), (2, .int x2_3)]) hx hb dX5_bursts_43 hl (k := 1) rfl rfl (by decide) rfl (fun ls hl => ?_)
          refine lv_iinc (v := (x2_3 + 1)) (lv' := [(2, .int (x2_3 + 1)), (1, .int (x1_2 + 1)), (0, .ref (q 0))]) hx hb dX5_bursts_46 hl (k := 2) rfl rfl (by decide) rfl (fun ls hl => ?_)
          refine lv_goto (tgt := 16) hx hb dX5_bursts_49 (by decide) ?_
          exact ih (x1_2 + 1) (x2_3 + 1) u_7 _ _ _ hw hC (lv_sub hl [2, 1, 0] rfl)
  refine lv_aload_n hx hb dX5_bursts_0 rfl (lv_at hl 0 rfl) ?_
  refine cx_get (v := .ref (q 4)) hx hb hts iX5 hown hK hC 0 rfl rfl 3 (by decide) u1 rfl rfl dX5_bursts_1 ?_
  refine cx_get (v := .int (σ.1 8)) hx hb hts iX4 hown hK hC 4 rfl rfl 3 (by decide) u2 rfl rfl dX5_bursts_4 ?_
  refine lv_if_ne (tgt := 12) hx hb dX5_bursts_7 (by decide) (fun c_1 => ?_) (fun c_1 => ?_)
  · have hw := hw.1 c_1
    refine lv_iconst (v := 0) hx hb dX5_bursts_12 (by decide) ?_
    refine lv_istore_n (lv' := [(1, .int 0), (0, .ref (q 0))]) hx hb dX5_bursts_13 rfl hl (by decide) rfl (fun ls hl => ?_)
    refine lv_iconst (v := 0) hx hb dX5_bursts_14 (by decide) ?_
    refine lv_istore_n (lv' := [(2, .int 0), (1, .int 0), (0, .ref (q 0))]) hx hb dX5_bursts_15 rfl hl (by decide) rfl (fun ls hl => ?_)
    obtain ⟨n, hw⟩ := hw
    refine L16  _ (fun x1_9 x2_10 s_11 H locs ls hw hC hl => ?_) n 0 0 σ _ _ _ hw hC (lv_sub hl [2, 1, 0] rfl)
    refine lv_iload_n hx hb dX5_bursts_52 rfl (lv_at hl 1 rfl) ?_
    exact cx_ret_i (u := s_11) hx hb hr hlocks hK hC hw dX5_bursts_53
  · have hw := hw.2 c_1
    refine lv_iconst (v := (-1)) hx hb dX5_bursts_10 (by decide) ?_
    exact cx_ret_i (u := σ) hx hb hr hlocks hK hC hw dX5_bursts_11

/-! PictureHeap.longest()I (X5_longest) -/
set_option maxHeartbeats 1000000 in
set_option maxRecDepth 100000 in
theorem c_X5_longest (l : Launch) (D : va_G) (cI : ClassId) (q : Nat → Nat) (sz : Nat) (σ : St) (post : Int32 → St → Prop) (hw : w_X5_longest σ post) : Ci l yX5_longest wsX5_longest 3 70 D cI (wX cI q σ) sz [.ref (q 0)] (wX cI q) post := by
  refine mo_i (cc := cX5_longest) (maxL := 3) (ret := (some .int)) (by decide) rfl (Nat.le_of_ble_eq_true rfl) ?_
  intro p e s m below meth c hx hb hr hml hts hown hlocks hK A hA hC ls hl
  have hown : s.vm.findClass RX5 = some m.cls := hown
  have hl : lv_has ls 3 [(0, .ref (q 0))] := hl
  have u1 : (Cond.fieldLink RX5 33 "PictureHeap" "timeline" "LPictureHeap$Timeline;").before [.ref (q 0)].toArray s = true := hts _ (List.mem_of_getElem? (i := 1) rfl)
  have u2 : (Cond.fieldLink RX5 154 "PictureHeap$Timeline" "isPut" "Z").before [.ref (q 0)].toArray s = true := hts _ (List.mem_of_getElem? (i := 2) rfl)
  have u3 : (Cond.fieldLink RX5 135 "PictureHeap$Timeline" "size" "I").before [.ref (q 0)].toArray s = true := hts _ (List.mem_of_getElem? (i := 3) rfl)
  have u4 : (Cond.fieldLink RX5 10 "PictureHeap" "album" "LPictureHeap$Album;").before [.ref (q 0)].toArray s = true := hts _ (List.mem_of_getElem? (i := 4) rfl)
  have u5 : (Cond.methodLink RX5 174 Lib.Math.max.name).before [.ref (q 0)].toArray s = true := hts _ (List.mem_of_getElem? (i := 5) rfl)
  have u6 : (Cond.static Lib.Math.max.name).before [.ref (q 0)].toArray s = true := hts _ (List.mem_of_getElem? (i := 6) rfl)
  have u7 : (Cond.initialized "java/lang/Math").before [.ref (q 0)].toArray s = true := hts _ (List.mem_of_getElem? (i := 7) rfl)
  have u8 : (Cond.code Lib.Math.max.name Lib.Math.max.code 2 (some .int)).before [.ref (q 0)].toArray s = true := hts _ (List.mem_of_getElem? (i := 8) rfl)
  have iX4 : ∀ w ∈ wsX40, w ∈ wsX5_longest := fun _ h => List.mem_cons_of_mem _ (List.mem_append_left _ (List.mem_append_right _ h))
  have iX5 : ∀ w ∈ wsX50, w ∈ wsX5_longest := fun _ h => List.mem_cons_of_mem _ (List.mem_append_left _ (List.mem_append_left _ (List.mem_append_right _ h)))
  have L16 : ∀ (K : Int32 → Int32 → St → Prop) (hKK : ∀ (x1_2 : Int32) (x2_3 : Int32) (s_4 : St) (H : Heap) (locs : List Loc) (ls : Array Slot), K x1_2 x2_3 s_4 → Cx D A s.heap (wX cI q s_4) H locs → lv_has ls 3 [(0, .ref (q 0)), (1, .int x1_2), (2, .int x2_3)] → W p l e (Rm 3 70) s m [.ref (q 0)].toArray below meth c H locs 0 0 (QI below D cI A (wX cI q) post [.ref (q 0)].toArray s) (F0 m 50 ls [])) (n : Nat), ∀ (x1_2 : Int32) (x2_3 : Int32) (s_4 : St) (H : Heap) (locs : List Loc) (ls : Array Slot), w_X5_longest_L16 post K n x1_2 x2_3 s_4 → Cx D A s.heap (wX cI q s_4) H locs → lv_has ls 3 [(0, .ref (q 0)), (1, .int x1_2), (2, .int x2_3)] → W p l e (Rm 3 70) s m [.ref (q 0)].toArray below meth c H locs 0 0 (QI below D cI A (wX cI q) post [.ref (q 0)].toArray s) (F0 m 16 ls []) := by
    intro  K hKK n
    induction n with
    | zero => intro x1_2 x2_3 s_4 H locs ls hw; exact hw.elim
    | succ n ih =>
      intro x1_2 x2_3 s_4 H locs ls hw hC hl
      refine lv_iload_n hx hb dX5_longest_16 rfl (lv_at hl 2 rfl) ?_
      refine lv_aload_n hx hb dX5_longest_17 rfl (lv_at hl 0 rfl) ?_
      refine cx_get (v := .ref (q 4)) hx hb hts iX5 hown hK hC 0 rfl rfl 3 (by decide) u1 rfl rfl dX5_longest_18 ?_
      refine cx_get (v := .int (s_4.1 9)) hx hb hts iX4 hown hK hC 4 rfl rfl 4 (by decide) u3 rfl rfl dX5_longest_21 ?_
      refine lv_icmp_ge (tgt := 50) hx hb dX5_longest_24 (by decide) (fun c_5 => ?_) (fun c_5 => ?_)
      · have hw := hw.1 c_5
        exact hKK x1_2 x2_3 s_4 _ _ _ hw hC (lv_sub hl [0, 1, 2] rfl)
      · have hw := hw.2 c_5
        refine lv_iload_n hx hb dX5_longest_27 rfl (lv_at hl 1 rfl) ?_
        refine lv_aload_n hx hb dX5_longest_28 rfl (lv_at hl 0 rfl) ?_
        refine cx_get (v := .ref (q 4)) hx hb hts iX5 hown hK hC 0 rfl rfl 3 (by decide) u1 rfl rfl dX5_longest_29 ?_
        refine lv_iload_n hx hb dX5_longest_32 rfl (lv_at hl 2 rfl) ?_
        refine lv_aload_n hx hb dX5_longest_33 rfl (lv_at hl 0 rfl) ?_
        refine cx_get (v := .ref (q 1)) hx hb hts iX5 hown hK hC 0 rfl rfl 0 (by decide) u4 rfl rfl dX5_longest_34 ?_
        refine cx_callVi0 (As := [.int x2_3, .ref (q 1)]) (rest := [.int x1_2]) ⟨hx, hb, hml, hown, hts⟩ (c_X4_burstLengthAt l D cI q _ s_4 x2_3 _ hw) (cwV 2 hts gX5_longest_X4_burstLengthAt rfl rfl rfl (by decide +kernel) ⟨Nat.le_of_ble_eq_true rfl, Nat.le_of_ble_eq_true rfl⟩) hK hC hA 4 rfl rfl rfl rfl hl.1 rfl (Nat.le_of_ble_eq_true rfl) dX5_longest_37 ⟨Nat.zero_le _, Nat.zero_le _⟩ (fun r_6 u_7 H locs hw hC => ?_)
        refine va_mmax hx hb (hml.trans hl.1.symm) hown u5 u6 u7 u8 (Nat.le_of_ble_eq_true rfl) (Nat.le_of_ble_eq_true rfl) (Nat.le_refl 0) (Nat.le_refl 0) dX5_longest_40 ?_
        refine lv_istore_n (lv' := [(1, .int (if x1_2 < r_6 then r_6 else x1_2)), (0, .ref (q 0)), (2, .int x2_3)]) hx hb dX5_longest_43 rfl hl (by decide) rfl (fun ls hl => ?_)
        refine lv_iinc (v := (x2_3 + 1)) (lv' := [(2, .int (x2_3 + 1)), (1, .int (if x1_2 < r_6 then r_6 else x1_2)), (0, .ref (q 0))]) hx hb dX5_longest_44 hl (k := 2) rfl rfl (by decide) rfl (fun ls hl => ?_)
        refine lv_goto (tgt := 16) hx hb dX5_longest_47 (by decide) ?_
        exact ih (if x1_2 < r_6 then r_6 else x1_2) (x2_3 + 1) u_7 _ _ _ hw hC (lv_sub hl [2, 1, 0] rfl)
  refine lv_aload_n hx hb dX5_longest_0 rfl (lv_at hl 0 rfl) ?_
  refine cx_get (v := .ref (q 4)) hx hb hts iX5 hown hK hC 0 rfl rfl 3 (by decide) u1 rfl rfl dX5_longest_1 ?_
  refine cx_get (v := .int (σ.1 8)) hx hb hts iX4 hown hK hC 4 rfl rfl 3 (by decide) u2 rfl rfl dX5_longest_4 ?_
  refine lv_if_ne (tgt := 12) hx hb dX5_longest_7 (by decide) (fun c_1 => ?_) (fun c_1 => ?_)
  · have hw := hw.1 c_1
    refine lv_iconst (v := 0) hx hb dX5_longest_12 (by decide) ?_
    refine lv_istore_n (lv' := [(1, .int 0), (0, .ref (q 0))]) hx hb dX5_longest_13 rfl hl (by decide) rfl (fun ls hl => ?_)
    refine lv_iconst (v := 0) hx hb dX5_longest_14 (by decide) ?_
    refine lv_istore_n (lv' := [(2, .int 0), (1, .int 0), (0, .ref (q 0))]) hx hb dX5_longest_15 rfl hl (by decide) rfl (fun ls hl => ?_)
    obtain ⟨n, hw⟩ := hw
    refine L16  _ (fun x1_8 x2_9 s_10 H locs ls hw hC hl => ?_) n 0 0 σ _ _ _ hw hC (lv_sub hl [2, 1, 0] rfl)
    refine lv_iload_n hx hb dX5_longest_50 rfl (lv_at hl 1 rfl) ?_
    refine lv_iconst (v := 2) hx hb dX5_longest_51 (by decide) ?_
    refine lv_icmp_lt (tgt := 59) hx hb dX5_longest_52 (by decide) (fun c_11 => ?_) (fun c_11 => ?_)
    · have hw := hw.1 c_11
      refine lv_iconst (v := 0) hx hb dX5_longest_59 (by decide) ?_
      exact cx_ret_i (u := s_10) hx hb hr hlocks hK hC hw dX5_longest_60
    · have hw := hw.2 c_11
      refine lv_iload_n hx hb dX5_longest_55 rfl (lv_at hl 1 rfl) ?_
      refine lv_goto (tgt := 60) hx hb dX5_longest_56 (by decide) ?_
      exact cx_ret_i (u := s_10) hx hb hr hlocks hK hC hw dX5_longest_60
  · have hw := hw.2 c_1
    refine lv_iconst (v := (-1)) hx hb dX5_longest_10 (by decide) ?_
    exact cx_ret_i (u := σ) hx hb hr hlocks hK hC hw dX5_longest_11

/-! PictureHeap.doubles()I (X5_doubles) -/
set_option maxHeartbeats 1000000 in
set_option maxRecDepth 100000 in
theorem c_X5_doubles (l : Launch) (D : va_G) (cI : ClassId) (q : Nat → Nat) (sz : Nat) (σ : St) (post : Int32 → St → Prop) (hw : w_X5_doubles σ post) : Ci l yX5_doubles wsX5_doubles 2 46 D cI (wX cI q σ) sz [.ref (q 0)] (wX cI q) post := by
  refine mo_i (cc := cX5_doubles) (maxL := 1) (ret := (some .int)) (by decide) rfl (Nat.le_of_ble_eq_true rfl) ?_
  intro p e s m below meth c hx hb hr hml hts hown hlocks hK A hA hC ls hl
  have hown : s.vm.findClass RX5 = some m.cls := hown
  have hl : lv_has ls 1 [(0, .ref (q 0))] := hl
  have u1 : (Cond.fieldLink RX5 33 "PictureHeap" "timeline" "LPictureHeap$Timeline;").before [.ref (q 0)].toArray s = true := hts _ (List.mem_of_getElem? (i := 1) rfl)
  have u2 : (Cond.fieldLink RX5 154 "PictureHeap$Timeline" "isPut" "Z").before [.ref (q 0)].toArray s = true := hts _ (List.mem_of_getElem? (i := 2) rfl)
  have u3 : (Cond.fieldLink RX5 10 "PictureHeap" "album" "LPictureHeap$Album;").before [.ref (q 0)].toArray s = true := hts _ (List.mem_of_getElem? (i := 3) rfl)
  have iX4 : ∀ w ∈ wsX40, w ∈ wsX5_doubles := fun _ h => List.mem_cons_of_mem _ (List.mem_append_left _ (List.mem_append_right _ h))
  have iX5 : ∀ w ∈ wsX50, w ∈ wsX5_doubles := fun _ h => List.mem_cons_of_mem _ (List.mem_append_left _ (List.mem_append_left _ (List.mem_append_right _ h)))
  refine lv_aload_n hx hb dX5_doubles_0 rfl (lv_at hl 0 rfl) ?_
  refine cx_get (v := .ref (q 4)) hx hb hts iX5 hown hK hC 0 rfl rfl 3 (by decide) u1 rfl rfl dX5_doubles_1 ?_
  refine cx_get (v := .int (σ.1 8)) hx hb hts iX4 hown hK hC 4 rfl rfl 3 (by decide) u2 rfl rfl dX5_doubles_4 ?_
  refine lv_if_eq (tgt := 24) hx hb dX5_doubles_7 (by decide) (fun c_1 => ?_) (fun c_1 => ?_)
  · have hw := hw.1 c_1
    refine lv_iconst (v := (-1)) hx hb dX5_doubles_24 (by decide) ?_
    exact cx_ret_i (u := σ) hx hb hr hlocks hK hC hw dX5_doubles_25
  · have hw := hw.2 c_1
    refine lv_aload_n hx hb dX5_doubles_10 rfl (lv_at hl 0 rfl) ?_
    refine cx_get (v := .ref (q 4)) hx hb hts iX5 hown hK hC 0 rfl rfl 3 (by decide) u1 rfl rfl dX5_doubles_11 ?_
    refine lv_aload_n hx hb dX5_doubles_14 rfl (lv_at hl 0 rfl) ?_
    refine cx_get (v := .ref (q 1)) hx hb hts iX5 hown hK hC 0 rfl rfl 0 (by decide) u3 rfl rfl dX5_doubles_15 ?_
    refine cx_callVi0 (As := [.ref (q 1)]) (rest := []) ⟨hx, hb, hml, hown, hts⟩ (c_X4_doubleTally l D cI q _ σ  _ hw) (cwV 1 hts gX5_doubles_X4_doubleTally rfl rfl rfl (by decide +kernel) ⟨Nat.le_of_ble_eq_true rfl, Nat.le_of_ble_eq_true rfl⟩) hK hC hA 4 rfl rfl rfl rfl hl.1 rfl (Nat.le_of_ble_eq_true rfl) dX5_doubles_18 ⟨Nat.zero_le _, Nat.zero_le _⟩ (fun r_2 u_3 H locs hw hC => ?_)
    refine lv_goto (tgt := 25) hx hb dX5_doubles_21 (by decide) ?_
    exact cx_ret_i (u := u_3) hx hb hr hlocks hK hC hw dX5_doubles_25

/-! PictureHeap.can(I)I (X5_can) -/
set_option maxHeartbeats 1000000 in
set_option maxRecDepth 100000 in
theorem c_X5_can (l : Launch) (D : va_G) (cI : ClassId) (q : Nat → Nat) (sz : Nat) (σ : St) (x1 : Int32) (post : Int32 → St → Prop) (hw : w_X5_can σ x1 post) : Ci l yX5_can wsX5_can 3 73 D cI (wX cI q σ) sz [.ref (q 0), .int x1] (wX cI q) post := by
  refine mo_i (cc := cX5_can) (maxL := 2) (ret := (some .int)) (by decide) rfl (Nat.le_of_ble_eq_true rfl) ?_
  intro p e s m below meth c hx hb hr hml hts hown hlocks hK A hA hC ls hl
  have hown : s.vm.findClass RX5 = some m.cls := hown
  have hl : lv_has ls 2 [(0, .ref (q 0)), (1, .int x1)] := hl
  have u1 : (Cond.fieldLink RX5 10 "PictureHeap" "album" "LPictureHeap$Album;").before [.ref (q 0), .int x1].toArray s = true := hts _ (List.mem_of_getElem? (i := 1) rfl)
  have u2 : (Cond.fieldLink RX5 19 "PictureHeap" "atlas" "LPictureHeap$Atlas;").before [.ref (q 0), .int x1].toArray s = true := hts _ (List.mem_of_getElem? (i := 2) rfl)
  have iX5 : ∀ w ∈ wsX50, w ∈ wsX5_can := fun _ h => List.mem_cons_of_mem _ (List.mem_append_left _ (List.mem_append_left _ (List.mem_append_right _ h)))
  refine lv_aload_n hx hb dX5_can_0 rfl (lv_at hl 0 rfl) ?_
  refine cx_get (v := .ref (q 1)) hx hb hts iX5 hown hK hC 0 rfl rfl 0 (by decide) u1 rfl rfl dX5_can_1 ?_
  refine lv_iload_n hx hb dX5_can_4 rfl (lv_at hl 1 rfl) ?_
  refine cx_callVi0 (As := [.int x1]) (rest := []) ⟨hx, hb, hml, hown, hts⟩ (c_X0_has l D cI q _ σ x1 _ hw) (cwV 1 hts gX5_can_X0_has rfl rfl rfl (by decide +kernel) ⟨Nat.le_of_ble_eq_true rfl, Nat.le_of_ble_eq_true rfl⟩) hK hC hA 1 rfl rfl rfl rfl hl.1 rfl (Nat.le_of_ble_eq_true rfl) dX5_can_5 ⟨Nat.zero_le _, Nat.zero_le _⟩ (fun r_1 u_2 H locs hw hC => ?_)
  refine lv_if_eq (tgt := 26) hx hb dX5_can_8 (by decide) (fun c_3 => ?_) (fun c_3 => ?_)
  · have hw := hw.1 c_3
    refine lv_iconst (v := (-1)) hx hb dX5_can_26 (by decide) ?_
    exact cx_ret_i (u := u_2) hx hb hr hlocks hK hC hw dX5_can_27
  · have hw := hw.2 c_3
    refine lv_aload_n hx hb dX5_can_11 rfl (lv_at hl 0 rfl) ?_
    refine cx_get (v := .ref (q 2)) hx hb hts iX5 hown hK hC 0 rfl rfl 1 (by decide) u2 rfl rfl dX5_can_12 ?_
    refine lv_aload_n hx hb dX5_can_15 rfl (lv_at hl 0 rfl) ?_
    refine cx_get (v := .ref (q 1)) hx hb hts iX5 hown hK hC 0 rfl rfl 0 (by decide) u1 rfl rfl dX5_can_16 ?_
    refine lv_iload_n hx hb dX5_can_19 rfl (lv_at hl 1 rfl) ?_
    refine cx_callVi0 (As := [.ref (q 1), .int x1]) (rest := []) ⟨hx, hb, hml, hown, hts⟩ (c_X1_possiblePlaces l D cI q _ u_2 x1 _ hw) (cwV 2 hts gX5_can_X1_possiblePlaces rfl rfl rfl (by decide +kernel) ⟨Nat.le_of_ble_eq_true rfl, Nat.le_of_ble_eq_true rfl⟩) hK hC hA 2 rfl rfl rfl rfl hl.1 rfl (Nat.le_of_ble_eq_true rfl) dX5_can_20 ⟨Nat.zero_le _, Nat.zero_le _⟩ (fun r_4 u_5 H locs hw hC => ?_)
    refine lv_goto (tgt := 27) hx hb dX5_can_23 (by decide) ?_
    exact cx_ret_i (u := u_5) hx hb hr hlocks hK hC hw dX5_can_27

/-! PictureHeap.found()I (X5_found) -/
set_option maxHeartbeats 1000000 in
set_option maxRecDepth 100000 in
theorem c_X5_found (l : Launch) (D : va_G) (cI : ClassId) (q : Nat → Nat) (sz : Nat) (σ : St) (post : Int32 → St → Prop) (hw : w_X5_found σ post) : Ci l yX5_found wsX5_found 3 73 D cI (wX cI q σ) sz [.ref (q 0)] (wX cI q) post := by
  refine mo_i (cc := cX5_found) (maxL := 3) (ret := (some .int)) (by decide) rfl (Nat.le_of_ble_eq_true rfl) ?_
  intro p e s m below meth c hx hb hr hml hts hown hlocks hK A hA hC ls hl
  have hown : s.vm.findClass RX5 = some m.cls := hown
  have hl : lv_has ls 3 [(0, .ref (q 0))] := hl
  have u1 : (Cond.fieldLink RX5 10 "PictureHeap" "album" "LPictureHeap$Album;").before [.ref (q 0)].toArray s = true := hts _ (List.mem_of_getElem? (i := 1) rfl)
  have u2 : (Cond.fieldLink RX5 74 "PictureHeap$Album" "size" "I").before [.ref (q 0)].toArray s = true := hts _ (List.mem_of_getElem? (i := 2) rfl)
  have u3 : (Cond.fieldLink RX5 187 "PictureHeap$Album" "placeOf" "[I").before [.ref (q 0)].toArray s = true := hts _ (List.mem_of_getElem? (i := 3) rfl)
  have u4 : (Cond.fieldLink RX5 19 "PictureHeap" "atlas" "LPictureHeap$Atlas;").before [.ref (q 0)].toArray s = true := hts _ (List.mem_of_getElem? (i := 4) rfl)
  have iX0 : ∀ w ∈ wsX00, w ∈ wsX5_found := fun _ h => List.mem_cons_of_mem _ (List.mem_append_left _ (List.mem_append_right _ h))
  have iX5 : ∀ w ∈ wsX50, w ∈ wsX5_found := fun _ h => List.mem_cons_of_mem _ (List.mem_append_left _ (List.mem_append_left _ (List.mem_append_right _ h)))
  have L4 : ∀ (K : Int32 → Int32 → St → Prop) (hKK : ∀ (x1_1 : Int32) (x2_2 : Int32) (s_3 : St) (H : Heap) (locs : List Loc) (ls : Array Slot), K x1_1 x2_2 s_3 → Cx D A s.heap (wX cI q s_3) H locs → lv_has ls 3 [(0, .ref (q 0)), (1, .int x1_1), (2, .int x2_2)] → W p l e (Rm 3 73) s m [.ref (q 0)].toArray below meth c H locs 0 0 (QI below D cI A (wX cI q) post [.ref (q 0)].toArray s) (F0 m 56 ls [])) (n : Nat), ∀ (x1_1 : Int32) (x2_2 : Int32) (s_3 : St) (H : Heap) (locs : List Loc) (ls : Array Slot), w_X5_found_L4 post K n x1_1 x2_2 s_3 → Cx D A s.heap (wX cI q s_3) H locs → lv_has ls 3 [(0, .ref (q 0)), (1, .int x1_1), (2, .int x2_2)] → W p l e (Rm 3 73) s m [.ref (q 0)].toArray below meth c H locs 0 0 (QI below D cI A (wX cI q) post [.ref (q 0)].toArray s) (F0 m 4 ls []) := by
    intro  K hKK n
    induction n with
    | zero => intro x1_1 x2_2 s_3 H locs ls hw; exact hw.elim
    | succ n ih =>
      intro x1_1 x2_2 s_3 H locs ls hw hC hl
      refine lv_iload_n hx hb dX5_found_4 rfl (lv_at hl 2 rfl) ?_
      refine lv_aload_n hx hb dX5_found_5 rfl (lv_at hl 0 rfl) ?_
      refine cx_get (v := .ref (q 1)) hx hb hts iX5 hown hK hC 0 rfl rfl 0 (by decide) u1 rfl rfl dX5_found_6 ?_
      refine cx_get (v := .int (s_3.1 4)) hx hb hts iX0 hown hK hC 1 rfl rfl 4 (by decide) u2 rfl rfl dX5_found_9 ?_
      refine lv_icmp_ge (tgt := 56) hx hb dX5_found_12 (by decide) (fun c_4 => ?_) (fun c_4 => ?_)
      · have hw := hw.1 c_4
        exact hKK x1_1 x2_2 s_3 _ _ _ hw hC (lv_sub hl [0, 1, 2] rfl)
      · have hw := hw.2 c_4
        refine lv_aload_n hx hb dX5_found_15 rfl (lv_at hl 0 rfl) ?_
        refine cx_get (v := .ref (q 1)) hx hb hts iX5 hown hK hC 0 rfl rfl 0 (by decide) u1 rfl rfl dX5_found_16 ?_
        refine cx_get (v := .ref (q 10)) hx hb hts iX0 hown hK hC 1 rfl rfl 3 (by decide) u3 rfl rfl dX5_found_19 ?_
        refine lv_iload_n hx hb dX5_found_22 rfl (lv_at hl 2 rfl) ?_
        refine cx_iald (f := s_3.2 3) hx hb hK hC 10 rfl hw.1 dX5_found_23 ?_
        have hw := hw.2
        refine lv_iconst (v := (-1)) hx hb dX5_found_24 (by decide) ?_
        refine lv_icmp_ne (tgt := 50) hx hb dX5_found_25 (by decide) (fun c_5 => ?_) (fun c_5 => ?_)
        · have hw := hw.1 c_5
          refine lv_iinc (v := (x2_2 + 1)) (lv' := [(2, .int (x2_2 + 1)), (0, .ref (q 0)), (1, .int x1_1)]) hx hb dX5_found_50 hl (k := 2) rfl rfl (by decide) rfl (fun ls hl => ?_)
          refine lv_goto (tgt := 4) hx hb dX5_found_53 (by decide) ?_
          exact ih x1_1 (x2_2 + 1) s_3 _ _ _ hw hC (lv_sub hl [1, 2, 0] rfl)
        · have hw := hw.2 c_5
          refine lv_aload_n hx hb dX5_found_28 rfl (lv_at hl 0 rfl) ?_
          refine cx_get (v := .ref (q 2)) hx hb hts iX5 hown hK hC 0 rfl rfl 1 (by decide) u4 rfl rfl dX5_found_29 ?_
          refine lv_aload_n hx hb dX5_found_32 rfl (lv_at hl 0 rfl) ?_
          refine cx_get (v := .ref (q 1)) hx hb hts iX5 hown hK hC 0 rfl rfl 0 (by decide) u1 rfl rfl dX5_found_33 ?_
          refine lv_iload_n hx hb dX5_found_36 rfl (lv_at hl 2 rfl) ?_
          refine cx_callVi0 (As := [.ref (q 1), .int x2_2]) (rest := []) ⟨hx, hb, hml, hown, hts⟩ (c_X1_possiblePlaces l D cI q _ s_3 x2_2 _ hw) (cwV 2 hts gX5_found_X1_possiblePlaces rfl rfl rfl (by decide +kernel) ⟨Nat.le_of_ble_eq_true rfl, Nat.le_of_ble_eq_true rfl⟩) hK hC hA 2 rfl rfl rfl rfl hl.1 rfl (Nat.le_of_ble_eq_true rfl) dX5_found_37 ⟨Nat.zero_le _, Nat.zero_le _⟩ (fun r_6 u_7 H locs hw hC => ?_)
          refine cx_callSiE (As := [.int r_6]) (rest := []) ⟨hx, hb, hml, hown, hts⟩ (c_J6_bitCount_0f7a4 l D cI _ r_6 _ hw) (va_cwS 1 hts gX5_found_J6_bitCount_0f7a4 rfl rfl rfl (by decide +kernel) ⟨Nat.le_of_ble_eq_true rfl, Nat.le_of_ble_eq_true rfl⟩) hK hC hA rfl hl.1 rfl (Nat.le_of_ble_eq_true rfl) dX5_found_40 ⟨Nat.zero_le _, Nat.zero_le _⟩ (fun r_8 H locs hw hC => ?_)
          refine lv_iconst (v := 1) hx hb dX5_found_43 (by decide) ?_
          refine lv_icmp_ne (tgt := 50) hx hb dX5_found_44 (by decide) (fun c_10 => ?_) (fun c_10 => ?_)
          · have hw := hw.1 c_10
            refine lv_iinc (v := (x2_2 + 1)) (lv' := [(2, .int (x2_2 + 1)), (0, .ref (q 0)), (1, .int x1_1)]) hx hb dX5_found_50 hl (k := 2) rfl rfl (by decide) rfl (fun ls hl => ?_)
            refine lv_goto (tgt := 4) hx hb dX5_found_53 (by decide) ?_
            exact ih x1_1 (x2_2 + 1) u_7 _ _ _ hw hC (lv_sub hl [1, 2, 0] rfl)
          · have hw := hw.2 c_10
            refine lv_iinc (v := (x1_1 + 1)) (lv' := [(1, .int (x1_1 + 1)), (0, .ref (q 0)), (2, .int x2_2)]) hx hb dX5_found_47 hl (k := 1) rfl rfl (by decide) rfl (fun ls hl => ?_)
            refine lv_iinc (v := (x2_2 + 1)) (lv' := [(2, .int (x2_2 + 1)), (1, .int (x1_1 + 1)), (0, .ref (q 0))]) hx hb dX5_found_50 hl (k := 2) rfl rfl (by decide) rfl (fun ls hl => ?_)
            refine lv_goto (tgt := 4) hx hb dX5_found_53 (by decide) ?_
            exact ih (x1_1 + 1) (x2_2 + 1) u_7 _ _ _ hw hC (lv_sub hl [2, 1, 0] rfl)
  refine lv_iconst (v := 0) hx hb dX5_found_0 (by decide) ?_
  refine lv_istore_n (lv' := [(1, .int 0), (0, .ref (q 0))]) hx hb dX5_found_1 rfl hl (by decide) rfl (fun ls hl => ?_)
  refine lv_iconst (v := 0) hx hb dX5_found_2 (by decide) ?_
  refine lv_istore_n (lv' := [(2, .int 0), (1, .int 0), (0, .ref (q 0))]) hx hb dX5_found_3 rfl hl (by decide) rfl (fun ls hl => ?_)
  obtain ⟨n, hw⟩ := hw
  refine L4  _ (fun x1_11 x2_12 s_13 H locs ls hw hC hl => ?_) n 0 0 σ _ _ _ hw hC (lv_sub hl [2, 1, 0] rfl)
  refine lv_iload_n hx hb dX5_found_56 rfl (lv_at hl 1 rfl) ?_
  exact cx_ret_i (u := s_13) hx hb hr hlocks hK hC hw dX5_found_57

/-! PictureHeap.strange()I (X5_strange) -/
set_option maxHeartbeats 1000000 in
set_option maxRecDepth 100000 in
theorem c_X5_strange (l : Launch) (D : va_G) (cI : ClassId) (q : Nat → Nat) (sz : Nat) (σ : St) (post : Int32 → St → Prop) (hw : w_X5_strange σ post) : Ci l yX5_strange wsX5_strange 2 48 D cI (wX cI q σ) sz [.ref (q 0)] (wX cI q) post := by
  refine mo_i (cc := cX5_strange) (maxL := 3) (ret := (some .int)) (by decide) rfl (Nat.le_of_ble_eq_true rfl) ?_
  intro p e s m below meth c hx hb hr hml hts hown hlocks hK A hA hC ls hl
  have hown : s.vm.findClass RX5 = some m.cls := hown
  have hl : lv_has ls 3 [(0, .ref (q 0))] := hl
  have u1 : (Cond.fieldLink RX5 10 "PictureHeap" "album" "LPictureHeap$Album;").before [.ref (q 0)].toArray s = true := hts _ (List.mem_of_getElem? (i := 1) rfl)
  have u2 : (Cond.fieldLink RX5 74 "PictureHeap$Album" "size" "I").before [.ref (q 0)].toArray s = true := hts _ (List.mem_of_getElem? (i := 2) rfl)
  have u3 : (Cond.fieldLink RX5 187 "PictureHeap$Album" "placeOf" "[I").before [.ref (q 0)].toArray s = true := hts _ (List.mem_of_getElem? (i := 3) rfl)
  have u4 : (Cond.fieldLink RX5 19 "PictureHeap" "atlas" "LPictureHeap$Atlas;").before [.ref (q 0)].toArray s = true := hts _ (List.mem_of_getElem? (i := 4) rfl)
  have iX0 : ∀ w ∈ wsX00, w ∈ wsX5_strange := fun _ h => List.mem_cons_of_mem _ (List.mem_append_left _ (List.mem_append_right _ h))
  have iX5 : ∀ w ∈ wsX50, w ∈ wsX5_strange := fun _ h => List.mem_cons_of_mem _ (List.mem_append_left _ (List.mem_append_left _ (List.mem_append_right _ h)))
  have L2 : ∀ (K : Int32 → St → Prop) (hKK : ∀ (x1_1 : Int32) (s_2 : St) (H : Heap) (locs : List Loc) (ls : Array Slot), K x1_1 s_2 → Cx D A s.heap (wX cI q s_2) H locs → lv_has ls 3 [(0, .ref (q 0)), (1, .int x1_1)] → W p l e (Rm 2 48) s m [.ref (q 0)].toArray below meth c H locs 0 0 (QI below D cI A (wX cI q) post [.ref (q 0)].toArray s) (F0 m 52 ls [])) (n : Nat), ∀ (x1_1 : Int32) (s_2 : St) (H : Heap) (locs : List Loc) (ls : Array Slot), w_X5_strange_L2 post K n x1_1 s_2 → Cx D A s.heap (wX cI q s_2) H locs → lv_has ls 3 [(0, .ref (q 0)), (1, .int x1_1)] → W p l e (Rm 2 48) s m [.ref (q 0)].toArray below meth c H locs 0 0 (QI below D cI A (wX cI q) post [.ref (q 0)].toArray s) (F0 m 2 ls []) := by
    intro  K hKK n
    induction n with
    | zero => intro x1_1 s_2 H locs ls hw; exact hw.elim
    | succ n ih =>
      intro x1_1 s_2 H locs ls hw hC hl
      refine lv_iload_n hx hb dX5_strange_2 rfl (lv_at hl 1 rfl) ?_
      refine lv_aload_n hx hb dX5_strange_3 rfl (lv_at hl 0 rfl) ?_
      refine cx_get (v := .ref (q 1)) hx hb hts iX5 hown hK hC 0 rfl rfl 0 (by decide) u1 rfl rfl dX5_strange_4 ?_
      refine cx_get (v := .int (s_2.1 4)) hx hb hts iX0 hown hK hC 1 rfl rfl 4 (by decide) u2 rfl rfl dX5_strange_7 ?_
      refine lv_icmp_ge (tgt := 52) hx hb dX5_strange_10 (by decide) (fun c_3 => ?_) (fun c_3 => ?_)
      · have hw := hw.1 c_3
        exact hKK x1_1 s_2 _ _ _ hw hC (lv_sub hl [0, 1] rfl)
      · have hw := hw.2 c_3
        refine lv_aload_n hx hb dX5_strange_13 rfl (lv_at hl 0 rfl) ?_
        refine cx_get (v := .ref (q 1)) hx hb hts iX5 hown hK hC 0 rfl rfl 0 (by decide) u1 rfl rfl dX5_strange_14 ?_
        refine cx_get (v := .ref (q 10)) hx hb hts iX0 hown hK hC 1 rfl rfl 3 (by decide) u3 rfl rfl dX5_strange_17 ?_
        refine lv_iload_n hx hb dX5_strange_20 rfl (lv_at hl 1 rfl) ?_
        refine cx_iald (f := s_2.2 3) hx hb hK hC 10 rfl hw.1 dX5_strange_21 ?_
        have hw := hw.2
        refine lv_istore_n (lv' := [(2, .int (s_2.2 3 (Int32.toNatClampNeg x1_1))), (0, .ref (q 0)), (1, .int x1_1)]) hx hb dX5_strange_22 rfl hl (by decide) rfl (fun ls hl => ?_)
        refine lv_iload_n hx hb dX5_strange_23 rfl (lv_at hl 0 rfl) ?_
        refine lv_iconst (v := (-1)) hx hb dX5_strange_24 (by decide) ?_
        refine lv_icmp_eq (tgt := 46) hx hb dX5_strange_25 (by decide) (fun c_4 => ?_) (fun c_4 => ?_)
        · have hw := hw.1 c_4
          refine lv_iinc (v := (x1_1 + 1)) (lv' := [(1, .int (x1_1 + 1)), (2, .int (s_2.2 3 (Int32.toNatClampNeg x1_1))), (0, .ref (q 0))]) hx hb dX5_strange_46 hl (k := 2) rfl rfl (by decide) rfl (fun ls hl => ?_)
          refine lv_goto (tgt := 2) hx hb dX5_strange_49 (by decide) ?_
          exact ih (x1_1 + 1) s_2 _ _ _ hw hC (lv_sub hl [2, 0] rfl)
        · have hw := hw.2 c_4
          refine lv_aload_n hx hb dX5_strange_28 rfl (lv_at hl 1 rfl) ?_
          refine cx_get (v := .ref (q 2)) hx hb hts iX5 hown hK hC 0 rfl rfl 1 (by decide) u4 rfl rfl dX5_strange_29 ?_
          refine lv_aload_n hx hb dX5_strange_32 rfl (lv_at hl 1 rfl) ?_
          refine cx_get (v := .ref (q 1)) hx hb hts iX5 hown hK hC 0 rfl rfl 0 (by decide) u1 rfl rfl dX5_strange_33 ?_
          refine lv_iload_n hx hb dX5_strange_36 rfl (lv_at hl 2 rfl) ?_
          refine lv_iload_n hx hb dX5_strange_37 rfl (lv_at hl 0 rfl) ?_
          refine cx_callVi0 (As := [.ref (q 1), .int x1_1, .int (s_2.2 3 (Int32.toNatClampNeg x1_1))]) (rest := []) ⟨hx, hb, hml, hown, hts⟩ (c_X1_isWithinReach l D cI q _ s_2 x1_1 (s_2.2 3 (Int32.toNatClampNeg x1_1)) _ hw) (cwV 3 hts gX5_strange_X1_isWithinReach rfl rfl rfl (by decide +kernel) ⟨Nat.le_of_ble_eq_true rfl, Nat.le_of_ble_eq_true rfl⟩) hK hC hA 2 rfl rfl rfl rfl hl.1 rfl (Nat.le_of_ble_eq_true rfl) dX5_strange_38 ⟨Nat.zero_le _, Nat.zero_le _⟩ (fun r_5 u_6 H locs hw hC => ?_)
          refine lv_if_ne (tgt := 46) hx hb dX5_strange_41 (by decide) (fun c_7 => ?_) (fun c_7 => ?_)
          · have hw := hw.1 c_7
            refine lv_iinc (v := (x1_1 + 1)) (lv' := [(1, .int (x1_1 + 1)), (2, .int (s_2.2 3 (Int32.toNatClampNeg x1_1))), (0, .ref (q 0))]) hx hb dX5_strange_46 hl (k := 2) rfl rfl (by decide) rfl (fun ls hl => ?_)
            refine lv_goto (tgt := 2) hx hb dX5_strange_49 (by decide) ?_
            exact ih (x1_1 + 1) u_6 _ _ _ hw hC (lv_sub hl [2, 0] rfl)
          · have hw := hw.2 c_7
            refine lv_iload_n hx hb dX5_strange_44 rfl (lv_at hl 2 rfl) ?_
            exact cx_ret_i (u := u_6) hx hb hr hlocks hK hC hw dX5_strange_45
  refine lv_iconst (v := 0) hx hb dX5_strange_0 (by decide) ?_
  refine lv_istore_n (lv' := [(1, .int 0), (0, .ref (q 0))]) hx hb dX5_strange_1 rfl hl (by decide) rfl (fun ls hl => ?_)
  obtain ⟨n, hw⟩ := hw
  refine L2  _ (fun x1_8 s_9 H locs ls hw hC hl => ?_) n 0 σ _ _ _ hw hC (lv_sub hl [1, 0] rfl)
  refine lv_bipush (v := (-2)) hx hb dX5_strange_52 (by decide) ?_
  exact cx_ret_i (u := s_9) hx hb hr hlocks hK hC hw dX5_strange_54

/-! PictureHeap.count(I)I (X5_count) -/
set_option maxHeartbeats 1000000 in
set_option maxRecDepth 100000 in
theorem c_X5_count (l : Launch) (D : va_G) (cI : ClassId) (q : Nat → Nat) (sz : Nat) (σ : St) (x1 : Int32) (post : Int32 → St → Prop) (hw : w_X5_count σ x1 post) : Ci l yX5_count wsX5_count 0 0 D cI (wX cI q σ) sz [.ref (q 0), .int x1] (wX cI q) post := by
  refine mo_i (cc := cX5_count) (maxL := 2) (ret := (some .int)) (by decide) rfl (Nat.le_of_ble_eq_true rfl) ?_
  intro p e s m below meth c hx hb hr hml hts hown hlocks hK A hA hC ls hl
  have hown : s.vm.findClass RX5 = some m.cls := hown
  have hl : lv_has ls 2 [(0, .ref (q 0)), (1, .int x1)] := hl
  have u1 : (Cond.fieldLink RX5 37 "PictureHeap" "cameras" "I").before [.ref (q 0), .int x1].toArray s = true := hts _ (List.mem_of_getElem? (i := 1) rfl)
  have u2 : (Cond.fieldLink RX5 19 "PictureHeap" "atlas" "LPictureHeap$Atlas;").before [.ref (q 0), .int x1].toArray s = true := hts _ (List.mem_of_getElem? (i := 2) rfl)
  have u3 : (Cond.fieldLink RX5 54 "PictureHeap$Atlas" "size" "I").before [.ref (q 0), .int x1].toArray s = true := hts _ (List.mem_of_getElem? (i := 3) rfl)
  have u4 : (Cond.fieldLink RX5 10 "PictureHeap" "album" "LPictureHeap$Album;").before [.ref (q 0), .int x1].toArray s = true := hts _ (List.mem_of_getElem? (i := 4) rfl)
  have u5 : (Cond.fieldLink RX5 74 "PictureHeap$Album" "size" "I").before [.ref (q 0), .int x1].toArray s = true := hts _ (List.mem_of_getElem? (i := 5) rfl)
  have u6 : (Cond.fieldLink RX5 26 "PictureHeap" "ties" "LPictureHeap$Ties;").before [.ref (q 0), .int x1].toArray s = true := hts _ (List.mem_of_getElem? (i := 6) rfl)
  have u7 : (Cond.fieldLink RX5 199 "PictureHeap$Ties" "size" "I").before [.ref (q 0), .int x1].toArray s = true := hts _ (List.mem_of_getElem? (i := 7) rfl)
  have u8 : (Cond.fieldLink RX5 200 "PictureHeap$Ties" "everTaken" "I").before [.ref (q 0), .int x1].toArray s = true := hts _ (List.mem_of_getElem? (i := 8) rfl)
  have iX0 : ∀ w ∈ wsX00, w ∈ wsX5_count := fun _ h => List.mem_cons_of_mem _ (List.mem_append_left _ (List.mem_append_right _ h))
  have iX1 : ∀ w ∈ wsX10, w ∈ wsX5_count := fun _ h => List.mem_cons_of_mem _ (List.mem_append_left _ (List.mem_append_left _ (List.mem_append_right _ h)))
  have iX3 : ∀ w ∈ wsX30, w ∈ wsX5_count := fun _ h => List.mem_cons_of_mem _ (List.mem_append_right _ h)
  have iX5 : ∀ w ∈ wsX50, w ∈ wsX5_count := fun _ h => List.mem_cons_of_mem _ (List.mem_append_left _ (List.mem_append_left _ (List.mem_append_left _ (List.mem_append_right _ h))))
  refine lv_iload_n hx hb dX5_count_0 rfl (lv_at hl 1 rfl) ?_
  rcases sw_5 x1 with c0 | c0 | c0 | c0 | c0 | c0
  · refine lv_tableOut (tgt := 73) hx hb dX5_count_1 c0 (by decide) ?_
    have hw := hw.1 c0
    refine lv_iconst (v := (-1)) hx hb dX5_count_73 (by decide) ?_
    exact cx_ret_i (u := σ) hx hb hr hlocks hK hC hw dX5_count_74
  · refine lv_tableIn (off := 35) (tgt := 36) hx hb dX5_count_1 (by rw [c0]; decide) (by rw [c0]; decide) (by rw [c0]; rfl) (by decide) ?_
    have hw := hw.2.1 c0
    refine lv_aload_n hx hb dX5_count_36 rfl (lv_at hl 0 rfl) ?_
    refine cx_get (v := .int (σ.1 0)) hx hb hts iX5 hown hK hC 0 rfl rfl 4 (by decide) u1 rfl rfl dX5_count_37 ?_
    exact cx_ret_i (u := σ) hx hb hr hlocks hK hC hw dX5_count_40
  · refine lv_tableIn (off := 40) (tgt := 41) hx hb dX5_count_1 (by rw [c0]; decide) (by rw [c0]; decide) (by rw [c0]; rfl) (by decide) ?_
    have hw := hw.2.2.1 c0
    refine lv_aload_n hx hb dX5_count_41 rfl (lv_at hl 0 rfl) ?_
    refine cx_get (v := .ref (q 2)) hx hb hts iX5 hown hK hC 0 rfl rfl 1 (by decide) u2 rfl rfl dX5_count_42 ?_
    refine cx_get (v := .int (σ.1 5)) hx hb hts iX1 hown hK hC 2 rfl rfl 1 (by decide) u3 rfl rfl dX5_count_45 ?_
    exact cx_ret_i (u := σ) hx hb hr hlocks hK hC hw dX5_count_48
  · refine lv_tableIn (off := 48) (tgt := 49) hx hb dX5_count_1 (by rw [c0]; decide) (by rw [c0]; decide) (by rw [c0]; rfl) (by decide) ?_
    have hw := hw.2.2.2.1 c0
    refine lv_aload_n hx hb dX5_count_49 rfl (lv_at hl 0 rfl) ?_
    refine cx_get (v := .ref (q 1)) hx hb hts iX5 hown hK hC 0 rfl rfl 0 (by decide) u4 rfl rfl dX5_count_50 ?_
    refine cx_get (v := .int (σ.1 4)) hx hb hts iX0 hown hK hC 1 rfl rfl 4 (by decide) u5 rfl rfl dX5_count_53 ?_
    exact cx_ret_i (u := σ) hx hb hr hlocks hK hC hw dX5_count_56
  · refine lv_tableIn (off := 56) (tgt := 57) hx hb dX5_count_1 (by rw [c0]; decide) (by rw [c0]; decide) (by rw [c0]; rfl) (by decide) ?_
    have hw := hw.2.2.2.2.1 c0
    refine lv_aload_n hx hb dX5_count_57 rfl (lv_at hl 0 rfl) ?_
    refine cx_get (v := .ref (q 3)) hx hb hts iX5 hown hK hC 0 rfl rfl 2 (by decide) u6 rfl rfl dX5_count_58 ?_
    refine cx_get (v := .int (σ.1 6)) hx hb hts iX3 hown hK hC 3 rfl rfl 9 (by decide) u7 rfl rfl dX5_count_61 ?_
    exact cx_ret_i (u := σ) hx hb hr hlocks hK hC hw dX5_count_64
  · refine lv_tableIn (off := 64) (tgt := 65) hx hb dX5_count_1 (by rw [c0]; decide) (by rw [c0]; decide) (by rw [c0]; rfl) (by decide) ?_
    have hw := hw.2.2.2.2.2 c0
    refine lv_aload_n hx hb dX5_count_65 rfl (lv_at hl 0 rfl) ?_
    refine cx_get (v := .ref (q 3)) hx hb hts iX5 hown hK hC 0 rfl rfl 2 (by decide) u6 rfl rfl dX5_count_66 ?_
    refine cx_get (v := .int (σ.1 7)) hx hb hts iX3 hown hK hC 3 rfl rfl 10 (by decide) u8 rfl rfl dX5_count_69 ?_
    exact cx_ret_i (u := σ) hx hb hr hlocks hK hC hw dX5_count_72

/-! PictureHeap.trouble()I (X5_trouble) -/
set_option maxHeartbeats 1000000 in
set_option maxRecDepth 100000 in
theorem c_X5_trouble (l : Launch) (D : va_G) (cI : ClassId) (q : Nat → Nat) (sz : Nat) (σ : St) (post : Int32 → St → Prop) (hw : w_X5_trouble σ post) : Ci l yX5_trouble wsX5_trouble 0 0 D cI (wX cI q σ) sz [.ref (q 0)] (wX cI q) post := by
  refine mo_i (cc := cX5_trouble) (maxL := 1) (ret := (some .int)) (by decide) rfl (Nat.le_of_ble_eq_true rfl) ?_
  intro p e s m below meth c hx hb hr hml hts hown hlocks hK A hA hC ls hl
  have hown : s.vm.findClass RX5 = some m.cls := hown
  have hl : lv_has ls 1 [(0, .ref (q 0))] := hl
  have u1 : (Cond.fieldLink RX5 44 "PictureHeap" "latestTrouble" "I").before [.ref (q 0)].toArray s = true := hts _ (List.mem_of_getElem? (i := 1) rfl)
  have iX5 : ∀ w ∈ wsX50, w ∈ wsX5_trouble := fun _ h => List.mem_cons_of_mem _ (List.mem_append_right _ h)
  refine lv_aload_n hx hb dX5_trouble_0 rfl (lv_at hl 0 rfl) ?_
  refine cx_get (v := .int (σ.1 2)) hx hb hts iX5 hown hK hC 0 rfl rfl 6 (by decide) u1 rfl rfl dX5_trouble_1 ?_
  exact cx_ret_i (u := σ) hx hb hr hlocks hK hC hw dX5_trouble_4
